/-! THE KEYS THAT ARE KEPT: the class -/
/-- kind, numbers, use, alg, kid -/
abbrev KY : Type := Nat × Ky3 × Nat × Int32 × Option (List UInt8)
def kyA (J : JT) (kd : Nat) (k : Ky3) : KY := (kd, k, usN J, agF J, kiB J)
/-- a key comes from a text -/
def KyV (K : KY) : Prop := ∃ s J kd k, s.length ≤ 8192 ∧ rdT s = .inr J ∧ kyR J = .inr (kd, k) ∧ blF kd k = true ∧ K = kyA J kd k
def KyO (S : ST) (j κ rk : Nat) (K : KY) : Prop := (S 5 j).f 1 = (Int32.ofNat (K.1)) ∧ ((S 5 j).f 5 = if K.2.1.2.2.isSome = true then 1 else 0) ∧ (S 5 j).f 2 = (Int32.ofNat (K.2.2.1)) ∧ (S 5 j).f 3 = K.2.2.2.1 ∧ ((S 5 j).f 4 = if K.2.2.2.2.isSome = true then 1 else 0) ∧ KyT S j K.2.1 ∧ Byt rk (S 0 κ) (K.2.2.2.2.getD []) false
/-- room for a kid may be new -/
def KdX (W W' : WR) (j κ κ' rk rk' ν z z' sl sl' : Nat) : Prop := WX W W' 5 j 9 ∧ WF W' z' ∧ W'.r 5 j 9 = some (.o 0 κ') ∧ isB W' κ' rk' ∧ rmK rk' ∧ ((κ' = κ ∧ rk' = rk ∧ z' = z ∧ sl' = sl ∧ W' = W) ∨ (κ' = ν ∧ 2 * rk ≤ rk' ∧ z' = z + 2 ∧ sl' = sl + 3 + rk')) ∧ ∀ ν', ν' ≠ ν → frsh W ν' → frsh W' ν'
theorem WX.ko {W W' : WR} {c i j : Nat} (h : WX W W' c i 9) (hc : c ≠ 0) (H : isKo W j) : isKo W' j := by
  obtain ⟨a1, a2, a3, a4, a5, a6, a7⟩ := H
  exact ⟨(h.1 _ a1).1, by rw [h.2.1 5 j 6 a1 (by omega)]; exact a2, by rw [h.2.1 5 j 7 a1 (by omega)]; exact a3, by rw [h.2.1 5 j 8 a1 (by omega)]; exact a4, h.b hc a5, h.b hc a6, h.b hc a7⟩
section KW
variable {W : WR} {G : mG} {F : Nat} {S : ST} {t ip j : Nat} {J : JT} {lp : Bool}
theorem Q5_whole {κ rk ν z sl : Nat} (X : Cx G F W) (H : isKo W j) (hj : j ≤ 16) (K : isTx W t ip) (hip : ip < 16) (C : TbC (S 9 t) J) (Y : JX J) (bp : Byt 8192 (S 0 ip) J.2.2 lp) (E : KyE S j) (h9 : W.r 5 j 9 = some (.o 0 κ)) (hB : isB W κ rk) (hrk : rmK rk) (hb : ∃ a l, Byt rk (S 0 κ) a l) (hκ : 94 ≤ κ) (hf : WF W z) (hv : frsh W ν) : ∃ W' S' κ' rk' z' sl', fr ((5, j) :: (0, κ) :: (0, κ') :: kyFr j) S S' ∧ KyE S' j ∧ (S' 5 j).f 0 = (S 5 j).f 0 ∧ KdX W W' j κ κ' rk rk' ν z z' sl sl' ∧ (∃ a l, Byt rk' (S' 0 κ') a l) ∧ match kyR J with | .inl r => P_X5_reasonAgainst G F (W.ad (.o 5 j)) (W.ad (.o 9 t)) (mem W S) z sl = some ((Int32.ofNat r), mem W' S', z', sl') | .inr (kd, k) => P_X5_reasonAgainst G F (W.ad (.o 5 j)) (W.ad (.o 9 t)) (mem W S) z sl = some (0, mem W' S', z', sl') ∧ KyO S' j κ' rk' (kyA J kd k) := by
  obtain ⟨S1, f1, e1, k1, g1⟩ := Q5_reason (G := G) (F := F) (S := S) (sz := z) (sl := sl) X H K hip C Y bp E
  have hb1 : S1 0 κ = S 0 κ := f1 0 κ (by simp [kyFr]; omega)
  cases hr : kyR J with
  | inl r =>
    rw [hr] at g1
    refine ⟨W, S1, κ, rk, z, sl, f1.mono (by simp [kyFr]), e1, k1 0 (by decide) (by decide), ⟨WX.refl _ _ _ _, hf, h9, hB, hrk, Or.inl ⟨rfl, rfl, rfl, rfl, rfl⟩, fun _ _ h => h⟩, by rw [hb1]; exact hb, g1⟩
  | inr p =>
    obtain ⟨kd, k⟩ := p
    rw [hr] at g1
    obtain ⟨g1, g2, g3, g4⟩ := g1
    have c9 : S1 9 t = S 9 t := f1 9 t (by simp [kyFr])
    have cp : S1 0 ip = S 0 ip := f1 0 ip (by simp [kyFr]; omega)
    obtain ⟨W', S2, κ', rk', z', sl', t1, t2⟩ := Q5_takeUse (G := G) (F := F) (S := S1) (ν := ν) (z := z) (sl := sl) X H K (by rw [c9]; exact C) Y (by rw [cp]; exact bp) h9 hB hrk (by rw [hb1]; exact hb) (by omega) hf hv
    obtain ⟨u1, u2, u3, u4, u5, u6, u7, u8, u9, u10, u11, u12, u13⟩ := t2
    have nk : ∀ i, i = 16 + 3 * j ∨ i = 17 + 3 * j ∨ i = 18 + 3 * j → i ≠ κ ∧ i ≠ κ' := by
      intro i hi
      refine ⟨by omega, ?_⟩
      rcases u12 with q | q
      · omega
      · intro e
        have hlv : W.live (.o 0 i) = true := by
          rcases hi with h | h | h
          · rw [h]; exact H.2.2.2.2.1.lo
          · rw [h]; exact H.2.2.2.2.2.1.lo
          · rw [h]; exact H.2.2.2.2.2.2.lo
        rw [e, q.1, hv.1] at hlv
        exact absurd hlv (by decide)
    have s1 : S2 0 (16 + 3 * j) = S1 0 (16 + 3 * j) := u1 0 _ (by have := nk (16 + 3 * j) (Or.inl rfl); simp [this.1, this.2])
    have s2 : S2 0 (17 + 3 * j) = S1 0 (17 + 3 * j) := u1 0 _ (by have := nk (17 + 3 * j) (Or.inr (Or.inl rfl)); simp [this.1, this.2])
    have s3 : S2 0 (18 + 3 * j) = S1 0 (18 + 3 * j) := u1 0 _ (by have := nk (18 + 3 * j) (Or.inr (Or.inr rfl)); simp [this.1, this.2])
    have T2 : KyT S2 j k := by
      obtain ⟨v1, v2, v3⟩ := g2
      exact ⟨by rw [s1]; exact v1, by rw [s2]; exact v2, by rw [s3]; exact v3⟩
    refine ⟨W', S2, κ', rk', z', sl', ?_, T2.e, ?_, ⟨u7, u8, u9, u10, u11, u12, u13⟩, ⟨_, _, u6⟩, ?_, ?_⟩
    · exact (f1.mono (by simp [kyFr])).trans (u1.mono (by simp))
    · rw [u5 0 (by decide) (by decide) (by decide), k1 0 (by decide) (by decide)]
    · rw [g1, t1, bA_s]
    · exact ⟨by rw [u5 1 (by decide) (by decide) (by decide)]; exact g3, by rw [u5 5 (by decide) (by decide) (by decide)]; exact g4, u2, u3, u4, T2, u6⟩
end KW
/-! sums of a few numbers -/
def sN (f : Nat → Nat) : Nat → Nat
  | 0 => 0
  | n + 1 => sN f n + f n
theorem sN_up {f g : Nat → Nat} {j : Nat} (h : ∀ i, i ≠ j → g i = f i) : ∀ n, (n ≤ j → sN g n = sN f n) ∧ (j < n → sN g n + f j = sN f n + g j)
  | 0 => ⟨fun _ => rfl, fun q => absurd q (Nat.not_lt_zero _)⟩
  | n + 1 => by
    obtain ⟨i1, i2⟩ := sN_up h n
    constructor
    · intro q
      show sN g n + g n = sN f n + f n
      rw [i1 (by omega), h n (by omega)]
    · intro q
      show sN g n + g n + f j = sN f n + f n + g j
      by_cases e : n = j
      · rw [e, ← e, i1 (by omega)]
        omega
      · rw [h n e]
        have := i2 (by omega)
        omega
/-- what the rooms for kids have cost -/
def coZ (rk : Nat) : Nat := 2 * (rk / 64)
def coS (rk : Nat) : Nat := 2 * rk + 3 * (rk / 64)
/-- a row of keys: key objects by their places, the spare one at 16 -/
def KHS (W : WR) (S : ST) (z sl z0 s0 : Nat) (σ κ rk : Nat → Nat) (A : Nat → Option KY) : Prop :=
  ((∀ k, k ≤ 16 → σ k ≤ 16) ∧ (∀ k q, k ≤ 16 → q ≤ 16 → σ k = σ q → k = q)) ∧
  (W.r 11 0 10 = some (.a 11 0 10) ∧ W.live (.a 11 0 10) = true ∧ W.n (.a 11 0 10) = 16 ∧ (∀ k, k < 16 → W.e (.a 11 0 10) k = some (.o 5 (σ k))) ∧ W.r 11 0 11 = some (.o 5 (σ 16))) ∧
  (∀ j, j ≤ 16 → isKo W j ∧ W.r 5 j 9 = some (.o 0 (κ j)) ∧ isB W (κ j) (rk j) ∧ rmK (rk j) ∧ 94 ≤ κ j ∧ KyE S j ∧ ∃ a l, Byt (rk j) (S 0 (κ j)) a l) ∧
  (∀ i j, i ≤ 16 → j ≤ 16 → κ i = κ j → i = j) ∧
  (∀ k, k < 16 → match A k with | none => (S 5 (σ k)).f 0 = 0 | some K => (S 5 (σ k)).f 0 = 1 ∧ KyO S (σ k) (κ (σ k)) (rk (σ k)) K ∧ KyV K) ∧
  (WF W z ∧ (∀ ν, z ≤ ν → frsh W ν) ∧ 94 ≤ z ∧ z ≤ z0 + sN (fun j => coZ (rk j)) 17 ∧ sl ≤ s0 + sN (fun j => coS (rk j)) 17)
/-- nothing of a key -/
def noK (L : List (Nat × Nat)) : Prop := ∀ x ∈ L, x.1 ≠ 5 ∧ (x.1 = 0 → x.2 < 16 ∨ (67 ≤ x.2 ∧ x.2 < 94))
theorem noK.no {L : List (Nat × Nat)} (h : noK L) {i : Nat} (hi : ¬ (i < 16 ∨ (67 ≤ i ∧ i < 94))) : (0, i) ∉ L := fun q => hi ((h _ q).2 rfl)
section KSS
variable {W : WR} {S S' : ST} {z sl z0 s0 : Nat} {σ κ rk : Nat → Nat} {A : Nat → Option KY}
theorem KyE.fr {L : List (Nat × Nat)} {j : Nat} (h : KyE S j) (f : fr L S S') (hL : noK L) (hj : j ≤ 16) : KyE S' j := by
  obtain ⟨x1, x2, x3⟩ := h
  exact ⟨by rw [f 0 _ (hL.no (by omega))]; exact x1, by rw [f 0 _ (hL.no (by omega))]; exact x2, by rw [f 0 _ (hL.no (by omega))]; exact x3⟩
theorem KyO.same {j κ rk : Nat} {K : KY} (h : KyO S j κ rk K) (h5 : ∀ k, k ≠ 0 → (S' 5 j).f k = (S 5 j).f k) (h0 : S' 0 κ = S 0 κ) (h1 : S' 0 (16 + 3 * j) = S 0 (16 + 3 * j)) (h2 : S' 0 (17 + 3 * j) = S 0 (17 + 3 * j)) (h3 : S' 0 (18 + 3 * j) = S 0 (18 + 3 * j)) : KyO S' j κ rk K := by
  obtain ⟨a1, a2, a3, a4, a5, ⟨t1, t2, t3⟩, b⟩ := h
  exact ⟨by rw [h5 1 (by decide)]; exact a1, by rw [h5 5 (by decide)]; exact a2, by rw [h5 2 (by decide)]; exact a3, by rw [h5 3 (by decide)]; exact a4, by rw [h5 4 (by decide)]; exact a5, ⟨by rw [h1]; exact t1, by rw [h2]; exact t2, by rw [h3]; exact t3⟩, by rw [h0]; exact b⟩
theorem KHS.fm {L : List (Nat × Nat)} (h : KHS W S z sl z0 s0 σ κ rk A) (f : fr L S S') (hL : noK L) : KHS W S' z sl z0 s0 σ κ rk A := by
  obtain ⟨h1, h2, h3, h4, h5, h6⟩ := h
  have n5 : ∀ j, S' 5 j = S 5 j := fun j => f 5 j (fun q => (hL _ q).1 rfl)
  refine ⟨h1, h2, fun j hj => ?_, h4, fun k hk => ?_, h6⟩
  · obtain ⟨a1, a2, a3, a4, a5, a6, a7⟩ := h3 j hj
    exact ⟨a1, a2, a3, a4, a5, a6.fr f hL hj, by rw [f 0 _ (hL.no (by omega))]; exact a7⟩
  · have q := h5 k hk
    have hj := h1.1 k (by omega)
    obtain ⟨a1, a2, a3, a4, a5, a6, a7⟩ := h3 (σ k) hj
    rw [n5]
    cases e : A k with
    | none => rw [e] at q; exact q
    | some K =>
      rw [e] at q
      exact ⟨q.1, q.2.1.same (fun _ _ => by rw [n5]) (f 0 _ (hL.no (by omega))) (f 0 _ (hL.no (by omega))) (f 0 _ (hL.no (by omega))) (f 0 _ (hL.no (by omega))), q.2.2⟩
/-- another wire -/
theorem KHS.wr {c k : Nat} {t : Cl} (h : KHS W S z sl z0 s0 σ κ rk A) (hc : c = 7 ∨ (c = 11 ∧ k ≠ 10 ∧ k ≠ 11)) (ht : W.live t = true) : KHS (W.sr c 0 k t) S z sl z0 s0 σ κ rk A := by
  obtain ⟨h1, ⟨i1, i2, i3, i4, i5⟩, h3, h4, h5, ⟨w1, w2, w3, w4⟩, f2, f3⟩ := h
  refine ⟨h1, ⟨by rw [sr_ne (by omega)]; exact i1, i2, i3, i4, by rw [sr_ne (by omega)]; exact i5⟩, fun j hj => ?_, h4, h5, ⟨fun c' i' k' t' e => ?_, w2, w3, w4⟩, fun ν hν => ?_, f3⟩
  · obtain ⟨⟨a1, a2, a3, a4, a5, a6, a7⟩, b1, b2⟩ := h3 j hj
    have sb : ∀ {i r : Nat}, isB W i r → isB (W.sr c 0 k t) i r := fun {i r} q => ⟨q.1, q.2.1, by rw [sr_ne (by omega)]; exact q.2.2.1, q.2.2.2.1, q.2.2.2.2⟩
    exact ⟨⟨a1, by rw [sr_ne (by omega)]; exact a2, by rw [sr_ne (by omega)]; exact a3, by rw [sr_ne (by omega)]; exact a4, sb a5, sb a6, sb a7⟩, by rw [sr_ne (by omega)]; exact b1, sb b2.1, b2.2⟩
  · rw [sr_r] at e
    split at e
    · rw [← Option.some.inj e]; exact ht
    · exact w1 c' i' k' t' e
  · obtain ⟨v1, v2, v3, v4⟩ := f2 ν hν
    exact ⟨v1, v2, v3, fun k' => by rw [sr_ne (by omega)]; exact v4 k'⟩
end KSS
