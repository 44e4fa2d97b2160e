/-! CALL key: the class -/
def up {α : Type} (f : Nat → α) (j : Nat) (v : α) : Nat → α := fun i => if i = j then v else f i
theorem up_eq {α : Type} (f : Nat → α) (j : Nat) (v : α) : up f j v j = v := if_pos rfl
theorem up_ne {α : Type} {f : Nat → α} {j i : Nat} {v : α} (h : i ≠ j) : up f j v i = f i := if_neg h
theorem rdT_b {s : List UInt8} {y : Nat} (hl : s.length ≤ 8192) (e : rdT s = .inl y) : y < 2 ^ 31 := by
  unfold rdT at e
  have w0 : JW s (skb s 0) (0, (fun _ _ => 0), []) := ⟨Nat.zero_le _, skb_len (Nat.zero_le _), Nat.zero_le _, fun i hi => absurd hi (Nat.not_lt_zero _)⟩
  cases hv : rv s 45 (skb s 0) (0, (fun _ _ => 0), []) 0 0 0 0 with
  | inl z =>
    rw [hv] at e
    have := Sum.inl.inj (α := Nat) (β := JT) e
    have := rv_bad w0 (Nat.le_refl _) (Nat.le_refl _) hv
    omega
  | inr z =>
    rw [hv] at e
    obtain ⟨k1, k2, k3, k4⟩ := rv_ok w0 (Nat.le_refl _) (Nat.le_refl _) hv
    have k5 := skb_len k2.2.1
    have e : (if skb s z.1 < s.length then Sum.inl (skb s z.1) else Sum.inr z.2 : Nat ⊕ JT) = .inl y := e
    split at e
    · have := Sum.inl.inj e
      omega
    · exact absurd e (by simp)
theorem rmK_q {rk : Nat} (h : rmK rk) : ∃ q, 1 ≤ q ∧ q ≤ 128 ∧ rk = 64 * q := by
  obtain ⟨m, hm, e⟩ := h
  have h1 : (2 : Nat) ^ m ≤ 2 ^ 7 := Nat.pow_le_pow_right (by decide) hm
  have h2 : 0 < (2 : Nat) ^ m := Nat.pow_pos (by decide)
  exact ⟨2 ^ m, by omega, by omega, e⟩
section KSP
variable {W W' : WR} {S S' : ST} {z sl z0 s0 : Nat} {σ κ rk : Nat → Nat} {A : Nat → Option KY}
/-- the spare key became another -/
theorem KHS.spare {κ' rk' z' sl' : Nat} (h : KHS W S z sl z0 s0 σ κ rk A) (hl : W.live (.o 11 0) = true) (f : fr ((5, σ 16) :: (0, κ (σ 16)) :: (0, κ') :: kyFr (σ 16)) S S') (E : KyE S' (σ 16)) (D : KdX W W' (σ 16) (κ (σ 16)) κ' (rk (σ 16)) rk' z z z' sl sl') (B : ∃ a l, Byt rk' (S' 0 κ') a l) : KHS W' S' z' sl' z0 s0 σ (up κ (σ 16) κ') (up rk (σ 16) rk') A := by
  obtain ⟨h1, ⟨i1, i2, i3, i4, i5⟩, h3, h4, h5, w, f2, f3, f4, f5⟩ := h
  obtain ⟨d1, d2, d3, d4, d5, d6, d7⟩ := D
  have hj : σ 16 ≤ 16 := h1.1 16 (Nat.le_refl _)
  obtain ⟨j, ej⟩ : ∃ j, j = σ 16 := ⟨_, rfl⟩
  rw [← ej] at f E d1 d3 d6 hj ⊢
  obtain ⟨b1, b2, b3, b4, b5, b6, b7⟩ := h3 j hj
  have hk : 94 ≤ κ' := by rcases d6 with q | q <;> omega
  have hkn : ∀ i, i ≤ 16 → i ≠ j → κ i ≠ κ j ∧ κ i ≠ κ' := by
    intro i hi hn
    have a := h4 i j hi hj
    refine ⟨fun e => hn (a e), fun e => ?_⟩
    rcases d6 with q | q
    · exact hn (a (e.trans q.1))
    · have lv := (h3 i hi).2.2.1.lo
      rw [e, q.1, (f2 z (Nat.le_refl _)).1] at lv
      exact absurd lv (by decide)
  have s5 : ∀ i, i ≠ j → S' 5 i = S 5 i := fun i hn => f 5 i (by simp [kyFr, hn])
  have sk : ∀ i, i ≤ 16 → i ≠ j → S' 0 (κ i) = S 0 (κ i) := fun i hi hn => f 0 (κ i) (by
    have := hkn i hi hn
    have := (h3 i hi).2.2.2.2.1
    simp [kyFr]
    omega)
  have sm : ∀ i d, i ≤ 16 → i ≠ j → d < 3 → S' 0 (16 + d + 3 * i) = S 0 (16 + d + 3 * i) := fun i d hi hn hd => f 0 _ (by
    simp [kyFr]
    omega)
  have s1 : ∀ i, i ≤ 16 → i ≠ j → S' 0 (16 + 3 * i) = S 0 (16 + 3 * i) := fun i hi hn => sm i 0 hi hn (by decide)
  have s2 : ∀ i, i ≤ 16 → i ≠ j → S' 0 (17 + 3 * i) = S 0 (17 + 3 * i) := fun i hi hn => sm i 1 hi hn (by decide)
  have s3 : ∀ i, i ≤ 16 → i ≠ j → S' 0 (18 + 3 * i) = S 0 (18 + 3 * i) := fun i hi hn => sm i 2 hi hn (by decide)
  have zu := (sN_up (f := fun i => coZ (rk i)) (g := fun i => coZ (up rk j rk' i)) (j := j) (fun i hi => by rw [up_ne hi]) 17).2 (by omega)
  have su := (sN_up (f := fun i => coS (rk i)) (g := fun i => coS (up rk j rk' i)) (j := j) (fun i hi => by rw [up_ne hi]) 17).2 (by omega)
  have zu : sN (fun i => coZ (up rk j rk' i)) 17 + coZ (rk j) = sN (fun i => coZ (rk i)) 17 + coZ rk' := by rw [zu, up_eq]
  have su : sN (fun i => coS (up rk j rk' i)) 17 + coS (rk j) = sN (fun i => coS (rk i)) 17 + coS rk' := by rw [su, up_eq]
  obtain ⟨q1, a1, a2, a3⟩ := rmK_q b4
  obtain ⟨q2, c1, c2, c3⟩ := rmK_q d5
  unfold coZ at zu
  unfold coS at su
  have fin : (94 ≤ z' ∧ z' ≤ z0 + sN (fun i => coZ (up rk j rk' i)) 17 ∧ sl' ≤ s0 + sN (fun i => coS (up rk j rk' i)) 17) ∧ ∀ ν, z' ≤ ν → frsh W' ν := by
    unfold coZ at f4 ⊢
    unfold coS at f5 ⊢
    rcases d6 with q | q
    · obtain ⟨q0, q1, q2, q3, q4⟩ := q
      subst q1
      exact ⟨by omega, fun ν hν => by rw [q4]; exact f2 ν (by omega)⟩
    · exact ⟨by omega, fun ν hν => d7 ν (by omega) (f2 ν (by omega))⟩
  refine ⟨h1, ⟨by rw [d1.2.1 11 0 10 hl (by omega)]; exact i1, (d1.1 _ i2).1, by rw [(d1.1 _ i2).2.2]; exact i3, fun k hk => by rw [d1.2.2.1]; exact i4 k hk, by rw [d1.2.1 11 0 11 hl (by omega)]; exact i5⟩, fun i hi => ?_, fun i i' hi hi' e => ?_, fun k hk => ?_, d2, fin.2, fin.1⟩
  · by_cases e : i = j
    · subst e
      rw [up_eq, up_eq]
      exact ⟨d1.ko (by decide) b1, d3, d4, d5, hk, E, B⟩
    · obtain ⟨x1, x2, x3, x4, x5, ⟨y1, y2, y3⟩, x7⟩ := h3 i hi
      rw [up_ne e, up_ne e]
      exact ⟨d1.ko (by decide) x1, by rw [d1.2.1 5 i 9 x1.1 (by omega)]; exact x2, d1.b (by decide) x3, x4, x5, ⟨by rw [s1 i hi e]; exact y1, by rw [s2 i hi e]; exact y2, by rw [s3 i hi e]; exact y3⟩, by rw [sk i hi e]; exact x7⟩
  · by_cases e1 : i = j
    · by_cases e2 : i' = j
      · omega
      · rw [e1, up_eq, up_ne e2] at e
        exact absurd e.symm (hkn i' hi' e2).2
    · by_cases e2 : i' = j
      · rw [e2, up_eq, up_ne e1] at e
        exact absurd e (hkn i hi e1).2
      · rw [up_ne e1, up_ne e2] at e
        exact h4 i i' hi hi' e
  · have hs := h1.1 k (by omega)
    have hn : σ k ≠ j := fun e => by
      have := h1.2 k 16 (by omega) (Nat.le_refl _) (by rw [e, ej])
      omega
    have q := h5 k hk
    rw [up_ne hn, up_ne hn, s5 _ hn]
    cases e : A k with
    | none => rw [e] at q; exact q
    | some K =>
      rw [e] at q
      exact ⟨q.1, q.2.1.same (fun _ _ => by rw [s5 _ hn]) (sk _ hs hn) (s1 _ hs hn) (s2 _ hs hn) (s3 _ hs hn), q.2.2⟩
/-- the spare key takes a free place -/
def swS (σ : Nat → Nat) (k : Nat) : Nat → Nat := fun i => if i = k then σ 16 else if i = 16 then σ k else σ i
abbrev swW (W : WR) (σ : Nat → Nat) (k : Nat) : WR := (W.se (.a 11 0 10) k (.o 5 (σ 16))).sr 11 0 11 (.o 5 (σ k))
abbrev swT (S : ST) (σ : Nat → Nat) : ST := S.so 5 (σ 16) ((S 5 (σ 16)).sf 0 1)
theorem KHS.swap {k : Nat} {K : KY} (h : KHS W S z sl z0 s0 σ κ rk A) (hk : k < 16) (hA : A k = none) (hO : KyO S (σ 16) (κ (σ 16)) (rk (σ 16)) K) (hV : KyV K) : KHS (swW W σ k) (swT S σ) z sl z0 s0 (swS σ k) κ rk (up A k (some K)) := by
  obtain ⟨⟨h1, h2⟩, ⟨i1, i2, i3, i4, i5⟩, h3, h4, h5, ⟨w1, w2, w3, w4⟩, f2, f3⟩ := h
  have sw1 : swS σ k k = σ 16 := if_pos rfl
  have sw2 : swS σ k 16 = σ k := by unfold swS; rw [if_neg (by omega), if_pos rfl]
  have sw3 : ∀ i, i ≠ k → i ≠ 16 → swS σ k i = σ i := fun i a b => by unfold swS; rw [if_neg a, if_neg b]
  have zz : ∀ i, swT S σ 0 i = S 0 i := fun i => so_ne (by omega)
  have s16 : swT S σ 5 (σ 16) = (S 5 (σ 16)).sf 0 1 := so_eq _ _ _ _
  have rr : ∀ {c i k' : Nat}, ¬ (c = 11 ∧ i = 0 ∧ k' = 11) → (swW W σ k).r c i k' = W.r c i k' := fun {c i k'} q => sr_ne q
  have rq : (swW W σ k).r 11 0 11 = some (.o 5 (σ k)) := sr_eq _ _ _ _ _
  have sb : ∀ {i r : Nat}, isB W i r → isB (swW W σ k) i r := fun {i r} q => ⟨q.1, q.2.1, by rw [rr (by omega)]; exact q.2.2.1, q.2.2.2.1, q.2.2.2.2⟩
  refine ⟨⟨fun i hi => ?_, fun i q hi hq e => ?_⟩, ⟨by rw [rr (by omega)]; exact i1, i2, i3, fun i hi => ?_, by rw [rq, sw2]⟩, fun j hj => ?_, h4, fun i hi => ?_, ⟨fun c' i' k' t' e => ?_, fun y i t' e => ?_, w3, w4⟩, fun ν hν => ?_, f3⟩
  · by_cases a : i = k
    · rw [a, sw1]; exact h1 16 (Nat.le_refl _)
    · by_cases b : i = 16
      · rw [b, sw2]; exact h1 k (by omega)
      · rw [sw3 i a b]; exact h1 i hi
  · have hx : ∀ i, i ≤ 16 → ∃ i2, i2 ≤ 16 ∧ swS σ k i = σ i2 ∧ i2 = (if i = k then 16 else if i = 16 then k else i) := by
      intro i hi
      by_cases a : i = k
      · exact ⟨16, Nat.le_refl _, by rw [a, sw1], by rw [if_pos a]⟩
      · by_cases b : i = 16
        · exact ⟨k, by omega, by rw [b, sw2], by rw [if_neg a, if_pos b]⟩
        · exact ⟨i, hi, sw3 i a b, by rw [if_neg a, if_neg b]⟩
    obtain ⟨i2, a1, a2, a3⟩ := hx i hi
    obtain ⟨q2, c1, c2, c3⟩ := hx q hq
    have := h2 i2 q2 a1 c1 (by rw [← a2, ← c2, e])
    split at a3
    · split at c3
      · omega
      · split at c3 <;> omega
    · split at a3
      · split at c3
        · omega
        · split at c3 <;> omega
      · split at c3
        · omega
        · split at c3 <;> omega
  · show (W.se (.a 11 0 10) k (.o 5 (σ 16))).e (.a 11 0 10) i = _
    by_cases a : i = k
    · rw [a, se_eq, sw1]
    · rw [se_ne (fun q => a q.2), sw3 i a (by omega)]
      exact i4 i hi
  · obtain ⟨⟨a1, a2, a3, a4, a5, a6, a7⟩, b1, b2, b3, b4, ⟨y1, y2, y3⟩, b7⟩ := h3 j hj
    exact ⟨⟨a1, by rw [rr (by omega)]; exact a2, by rw [rr (by omega)]; exact a3, by rw [rr (by omega)]; exact a4, sb a5, sb a6, sb a7⟩, by rw [rr (by omega)]; exact b1, sb b2, b3, b4, ⟨by rw [zz]; exact y1, by rw [zz]; exact y2, by rw [zz]; exact y3⟩, by rw [zz]; exact b7⟩
  · by_cases a : i = k
    · rw [a, up_eq, sw1]
      refine ⟨by rw [s16, sf_eq], hO.same (fun q hq => by rw [s16, sf_ne hq]) (zz _) (zz _) (zz _) (zz _), hV⟩
    · rw [up_ne a, sw3 i a (by omega)]
      have hn : σ i ≠ σ 16 := fun e => by
        have := h2 i 16 (by omega) (Nat.le_refl _) e
        omega
      have s5 : swT S σ 5 (σ i) = S 5 (σ i) := so_ne (fun q => hn q.2)
      rw [s5]
      have q := h5 i hi
      cases e : A i with
      | none => rw [e] at q; exact q
      | some K2 =>
        rw [e] at q
        exact ⟨q.1, q.2.1.same (fun _ _ => by rw [s5]) (zz _) (zz _) (zz _) (zz _), q.2.2⟩
  · have e : (if c' = 11 ∧ i' = 0 ∧ k' = 11 then some (.o 5 (σ k)) else W.r c' i' k') = some t' := e
    split at e
    · rw [← Option.some.inj e]
      exact (h3 (σ k) (h1 k (by omega))).1.1
    · exact w1 c' i' k' t' e
  · have e : (if y = .a 11 0 10 ∧ i = k then some (.o 5 (σ 16)) else W.e y i) = some t' := e
    split at e
    · rw [← Option.some.inj e]
      exact (h3 (σ 16) (h1 16 (Nat.le_refl _))).1.1
    · exact w2 y i t' e
  · obtain ⟨v1, v2, v3, v4⟩ := f2 ν hν
    exact ⟨v1, v2, v3, fun k' => by rw [rr (by omega)]; exact v4 k'⟩
end KSP
