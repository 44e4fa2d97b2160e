/-! THE ROUND KEYS -/
def rcF : Nat → UInt8
  | 0 => 1
  | j + 1 => tw (rcF j)
/-- the bytes of the round keys, for a key of kw words -/
def ksF (kw : Nat) (key : List UInt8) (t : Nat) : UInt8 := if h : t < 4 * kw ∨ kw = 0 then key.getD t 0 else
  ksF kw key (t - 4 * kw) ^^^ (if t / 4 % kw = 0 then sbx (ksF kw key (4 * (t / 4) - 4 + (t % 4 + 1) % 4)) ^^^ (if t % 4 = 0 then rcF ((t / 4 - 1) / kw) else 0) else if kw = 8 ∧ t / 4 % kw = 4 then sbx (ksF kw key (4 * (t / 4) - 4 + t % 4)) else ksF kw key (4 * (t / 4) - 4 + t % 4))
termination_by t
theorem ksF_lt {kw : Nat} {key : List UInt8} {t : Nat} (h : t < 4 * kw) : ksF kw key t = key.getD t 0 := by rw [ksF, dif_pos (.inl h)]
/-- a word of them -/
theorem ksF_w {kw : Nat} {key : List UInt8} {w d : Nat} (hk : 0 < kw) (hw : kw ≤ w) (hd : d < 4) : ksF kw key (4 * w + d) = ksF kw key (4 * (w - kw) + d) ^^^ (if w % kw = 0 then sbx (ksF kw key (4 * w - 4 + (d + 1) % 4)) ^^^ (if d = 0 then rcF ((w - 1) / kw) else 0) else if kw = 8 ∧ w % kw = 4 then sbx (ksF kw key (4 * w - 4 + d)) else ksF kw key (4 * w - 4 + d)) := by
  rw [ksF, dif_neg (by omega)]
  have e1 : (4 * w + d) / 4 = w := by omega
  have e2 : (4 * w + d) % 4 = d := by omega
  have e3 : 4 * w + d - 4 * kw = 4 * (w - kw) + d := by omega
  rw [e1, e2, e3]
theorem and_t : ∀ w, w < 64 → ((Int32.ofNat w) &&& ((4 : Int32) - 1) = (Int32.ofNat (w % 4))) ∧ ((Int32.ofNat w) &&& ((8 : Int32) - 1) = (Int32.ofNat (w % 8))) := by decide +kernel
section KEYS
variable {W : WR} {G : mG} {F : Nat}
abbrev KSp (S : ST) (kw : Nat) (key : List UInt8) (n : Nat) : Prop := ∀ t, t < n → (S 1 0).a 1 t = b32 (ksF kw key t)
theorem Q1_bec_w {S : ST} {r63 : Nat → Int32 → Int32 → Int32 → mM → Option mM} {kw w : Nat} {key : List UInt8} {y0 y1 y2 y3 : UInt8} {l5 : Int32} (h : isCi W) (hkw : 0 < kw) (hw : kw ≤ w) (hw2 : w < 60) (hk : KSp S kw key (4 * w)) : ∃ f, B_X1_become_234 G F r63 (W.ad (.o 1 0)) (Int32.ofNat kw) l5 (Int32.ofNat w) (b32 y0) (b32 y1) (b32 y2) (b32 y3) (mem W S) = r63 (W.ad (.o 1 0)) (Int32.ofNat kw) l5 (Int32.ofNat (w + 1)) (mem W (S.sa 1 0 1 f)) ∧ (∀ t, t < 4 * w → f t = (S 1 0).a 1 t) ∧ f (4 * w) = b32 (ksF kw key (4 * (w - kw)) ^^^ y0) ∧ f (4 * w + 1) = b32 (ksF kw key (4 * (w - kw) + 1) ^^^ y1) ∧ f (4 * w + 2) = b32 (ksF kw key (4 * (w - kw) + 2) ^^^ y2) ∧ f (4 * w + 3) = b32 (ksF kw key (4 * (w - kw) + 3) ^^^ y3) := by
  have h1 := h.2.2.1
  have u : ∀ f v (a b : Nat), a < 4 * w → 4 * w ≤ b → upd f b v a = f a := fun f v a b x y => upd_ne (by omega)
  unfold B_X1_become_234
  rw [n_sub hw, show (4 : Int32) * (Int32.ofNat (w - kw)) = (Int32.ofNat (4 * (w - kw))) from n_mul 4 _, show (4 : Int32) * (Int32.ofNat w) = (Int32.ofNat (4 * w)) from n_mul 4 w, n_addL _ 1, n_addL _ 2, n_addL _ 3, n_addL _ 1, n_addL _ 2, n_addL _ 3, n_addL _ 1]
  rw [h1.g h.1 rfl, bO_s, bO_s, h1.ld rfl (by omega), bO_s, h1.sa rfl (by omega), bO_s, h1.g h.1 rfl, bO_s, bO_s, h1.ld rfl (by omega), bO_s, h1.sa rfl (by omega), bO_s, h1.g h.1 rfl, bO_s, bO_s, h1.ld rfl (by omega), bO_s, h1.sa rfl (by omega), bO_s, h1.g h.1 rfl, bO_s, bO_s, h1.ld rfl (by omega), bO_s, h1.sa rfl (by omega), bO_s]
  simp only [sa_eq, sa_sa]
  rw [u _ _ _ _ (show 4 * (w - kw) + 1 < 4 * w by omega) (Nat.le_refl _), u _ _ _ _ (show 4 * (w - kw) + 2 < 4 * w by omega) (by omega), u _ _ _ _ (show 4 * (w - kw) + 2 < 4 * w by omega) (Nat.le_refl _), u _ _ _ _ (show 4 * (w - kw) + 3 < 4 * w by omega) (by omega), u _ _ _ _ (show 4 * (w - kw) + 3 < 4 * w by omega) (by omega), u _ _ _ _ (show 4 * (w - kw) + 3 < 4 * w by omega) (Nat.le_refl _), hk _ (show 4 * (w - kw) < 4 * w by omega), hk _ (show 4 * (w - kw) + 1 < 4 * w by omega), hk _ (show 4 * (w - kw) + 2 < 4 * w by omega), hk _ (show 4 * (w - kw) + 3 < 4 * w by omega), b32_x, b32_x, b32_x, b32_x]
  refine ⟨_, rfl, ?_, ?_, ?_, ?_, ?_⟩
  · intro t ht
    rw [upd_ne (by omega), upd_ne (by omega), upd_ne (by omega), upd_ne (by omega)]
  · rw [upd_ne (by omega), upd_ne (by omega), upd_ne (by omega), upd_eq]
  · rw [upd_ne (by omega), upd_ne (by omega), upd_eq]
  · rw [upd_ne (by omega), upd_eq]
  · rw [upd_eq]
theorem Q1_bec_b {kw nr : Nat} {key : List UInt8} (X : Cx G F W) (h : isCi W) (hkw : kw = 4 ∨ kw = 8) (hnr : nr = kw + 6) : ∀ (m w n : Nat) (S : ST), m < n → w + m = 4 * (nr + 1) → kw ≤ w → (S 1 0).f 2 = (Int32.ofNat nr) → KSp S kw key (4 * w) → ∃ S', B_X1_become_63 G F n (W.ad (.o 1 0)) (Int32.ofNat kw) (b32 (rcF ((w - 1) / kw))) (Int32.ofNat w) (mem W S) = some (mem W S') ∧ arF [(1, 0, 1)] S S' ∧ KS S' (ksF kw key) nr := by
  have h1 := h.2.2.1
  have hkp : 0 < kw := by omega
  intro m
  induction m with
  | zero =>
    intro w n S hn hw hkw2 hf hk
    obtain ⟨n, rfl⟩ : ∃ q, n = q + 1 := ⟨n - 1, by omega⟩
    rw [B_X1_become_63, gfI_m h.1 rfl, bO_s, hf, n_addL nr 1, show (4 : Int32) * (Int32.ofNat (nr + 1)) = (Int32.ofNat (4 * (nr + 1))) from n_mul 4 _, if_pos ((n_le (by omega) (by omega)).mpr (by omega))]
    exact ⟨S, rfl, arF.refl _ _, hf, by omega, fun t ht => hk t (by omega)⟩
  | succ m ih =>
    intro w n S hn hw hkw2 hf hk
    obtain ⟨n, rfl⟩ : ∃ q, n = q + 1 := ⟨n - 1, by omega⟩
    have hw60 : w < 60 := by omega
    have go : ∀ (l5 : Int32) (y : Nat → UInt8), l5 = b32 (rcF (w / kw)) → (∀ d, d < 4 → y d = (if w % kw = 0 then sbx (ksF kw key (4 * w - 4 + (d + 1) % 4)) ^^^ (if d = 0 then rcF ((w - 1) / kw) else 0) else if kw = 8 ∧ w % kw = 4 then sbx (ksF kw key (4 * w - 4 + d)) else ksF kw key (4 * w - 4 + d))) → ∃ S', B_X1_become_234 G F (B_X1_become_63 G F n) (W.ad (.o 1 0)) (Int32.ofNat kw) l5 (Int32.ofNat w) (b32 (y 0)) (b32 (y 1)) (b32 (y 2)) (b32 (y 3)) (mem W S) = some (mem W S') ∧ arF [(1, 0, 1)] S S' ∧ KS S' (ksF kw key) nr := by
      intro l5 y hl hy
      obtain ⟨f, g1, f0, f1, f2, f3, f4⟩ := Q1_bec_w (G := G) (F := F) (r63 := B_X1_become_63 G F n) (l5 := l5) (y0 := y 0) (y1 := y 1) (y2 := y 2) (y3 := y 3) h hkp hkw2 hw60 hk
      rw [g1, hl]
      have er : (w + 1 - 1) / kw = w / kw := by rw [Nat.add_sub_cancel]
      rw [← er]
      have kv : ∀ d, d < 4 → ksF kw key (4 * w + d) = ksF kw key (4 * (w - kw) + d) ^^^ y d := fun d hd => by rw [hy d hd]; exact ksF_w hkp hkw2 hd
      obtain ⟨S', q1, q2, q3⟩ := ih (w + 1) n (S.sa 1 0 1 f) (by omega) (by omega) (by omega) (by rw [sa_o.1]; exact hf) (fun t ht => by
        rw [sa_eq]
        by_cases ht4 : t < 4 * w
        · rw [f0 t ht4]; exact hk t ht4
        · have : t = 4 * w ∨ t = 4 * w + 1 ∨ t = 4 * w + 2 ∨ t = 4 * w + 3 := by omega
          rcases this with rfl | rfl | rfl | rfl
          · rw [f1]
            exact congrArg b32 (kv 0 (by omega)).symm
          · rw [f2, kv 1 (by omega)]
          · rw [f3, kv 2 (by omega)]
          · rw [f4, kv 3 (by omega)])
      exact ⟨S', q1, (arF_sa (by simp)).trans q2, q3⟩
    have r0 := hk (4 * w - 4) (by omega)
    have r1 := hk (4 * w - 4 + 1) (by omega)
    have r2 := hk (4 * w - 4 + 2) (by omega)
    have r3 := hk (4 * w - 4 + 3) (by omega)
    have ea : (Int32.ofNat w) &&& ((Int32.ofNat kw) - 1) = (Int32.ofNat (w % kw)) := by
      rcases hkw with rfl | rfl
      · exact (and_t w (by omega)).1
      · exact (and_t w (by omega)).2
    have hmod : w % kw < 8 := by have := Nat.mod_lt w hkp; omega
    rw [B_X1_become_63, gfI_m h.1 rfl, bO_s, hf, n_addL nr 1, show (4 : Int32) * (Int32.ofNat (nr + 1)) = (Int32.ofNat (4 * (nr + 1))) from n_mul 4 _, if_neg (fun q => absurd ((n_le (by omega) (by omega)).mp q) (by omega)), show (4 : Int32) * (Int32.ofNat w) = (Int32.ofNat (4 * w)) from n_mul 4 w, n_subL 4 (by omega), n_addL _ 1, n_addL _ 2, n_addL _ 3, h1.g h.1 rfl, bO_s, h1.ld rfl (by omega), bO_s, bO_s, h1.ld rfl (by omega), bO_s, bO_s, h1.ld rfl (by omega), bO_s, bO_s, h1.ld rfl (by omega), bO_s, r0, r1, r2, r3, ea]
    by_cases hz : w % kw = 0
    · rw [hz, if_pos (show (Int32.ofNat 0) = (0 : Int32) from rfl), Q1_box X, bO_s, Q1_box X, bO_s, Q1_box X, bO_s, Q1_box X, bO_s, Q1_twice, bP_s, b32_x]
      have ew : w / kw = (w - 1) / kw + 1 := by
        rcases hkw with rfl | rfl <;> omega
      have := go (b32 (tw (rcF ((w - 1) / kw)))) (fun d => sbx (ksF kw key (4 * w - 4 + (d + 1) % 4)) ^^^ (if d = 0 then rcF ((w - 1) / kw) else 0)) (by rw [ew]; rfl) (fun d hd => by rw [if_pos hz])
      simpa using this
    · rw [if_neg (by rw [z32]; exact fun q => hz ((n_eq (by omega) (by omega)).mp q))]
      have ew : w / kw = (w - 1) / kw := by
        rcases hkw with rfl | rfl <;> omega
      by_cases h8 : kw = 8
      · rw [if_pos (by rw [h8]; rfl)]
        by_cases h4 : w % kw = 4
        · rw [if_pos (by rw [h4]; rfl), Q1_box X, bO_s, Q1_box X, bO_s, Q1_box X, bO_s, Q1_box X, bO_s]
          exact go _ (fun d => sbx (ksF kw key (4 * w - 4 + d))) (by rw [ew]) (fun d hd => by rw [if_neg hz, if_pos ⟨h8, h4⟩])
        · rw [if_neg (by rw [lit 4]; exact fun q => h4 ((n_eq (by omega) (by omega)).mp q))]
          exact go _ (fun d => ksF kw key (4 * w - 4 + d)) (by rw [ew]) (fun d hd => by rw [if_neg hz, if_neg (fun q => h4 q.2)])
      · rw [if_neg (by rw [lit 8]; exact fun q => h8 ((n_eq (by omega) (by omega)).mp q))]
        exact go _ (fun d => ksF kw key (4 * w - 4 + d)) (by rw [ew]) (fun d hd => by rw [if_neg hz, if_neg (fun q => h8 q.1)])
theorem Q1_become {S : ST} {i room p n : Nat} {xs : List UInt8} {l : Bool} (X : Cx G F W) (h : isCi W) (hB : isB W i room) (hb : Byt room (S 0 i) xs l) (hn : n = 16 ∨ n = 32) (hp : p + n ≤ xs.length) (hx : xs.length < 2 ^ 20) : ∃ o, P_X1_become G F (W.ad (.o 1 0)) (W.ad (.o 0 i)) (Int32.ofNat p) (Int32.ofNat n) (mem W S) = some (mem W (S.so 1 0 o)) ∧ agr [2] [] [1] [] (S 1 0) o ∧ KS (S.so 1 0 o) (ksF (n / 4) ((xs.drop p).take n)) (n / 4 + 6) := by
  have hF := X.hF
  have h1 := h.2.2.1
  have main : ∀ (kw : Nat), (kw = 4 ∨ kw = 8) → n = 4 * kw → ∃ o, B_X1_become_26 G F F (W.ad (.o 1 0)) (W.ad (.o 0 i)) (Int32.ofNat p) (Int32.ofNat kw) 0 (mem W (S.so 1 0 ((S 1 0).sf 2 (Int32.ofNat (kw + 6))))) = some (mem W (S.so 1 0 o)) ∧ agr [2] [] [1] [] (S 1 0) o ∧ KS (S.so 1 0 o) (ksF kw ((xs.drop p).take n)) (kw + 6) := by
    intro kw hkw hn4
    obtain ⟨S0, hS0⟩ : ∃ S0, S0 = S.so 1 0 ((S 1 0).sf 2 (Int32.ofNat (kw + 6))) := ⟨_, rfl⟩
    rw [← hS0]
    obtain ⟨n', S1, e, a1, k1⟩ := loopS (fun n j S => B_X1_become_26 G F n (W.ad (.o 1 0)) (W.ad (.o 0 i)) (Int32.ofNat p) (Int32.ofNat kw) (Int32.ofNat j) (mem W S)) (fun j S' => arF [(1, 0, 1)] S0 S' ∧ KSp S' kw ((xs.drop p).take n) j) (4 * kw) (by
      intro n1 j S1 hj hI
      obtain ⟨i1, i2⟩ := hI
      have hb1 : Byt room (S1 0 i) xs l := by rw [i1.ob (c := 0) (i := i) (by simp), hS0, so_ne (by omega)]; exact hb
      show ∃ S', B_X1_become_26 G F (n1 + 1) _ _ _ _ _ _ = _ ∧ _
      rw [B_X1_become_26, show (4 : Int32) * (Int32.ofNat kw) = (Int32.ofNat (4 * kw)) from n_mul 4 kw, if_neg (fun q => absurd ((n_le (by omega) (by omega)).mp q) (by omega)), h1.g h.1 rfl, bO_s, rcv_m hB.lo, bO_s, n_add, Q0_get hB hb1 (by omega), bP_s, h1.sa rfl (by omega), bO_s, n_addL j 1]
      refine ⟨_, rfl, i1.trans (arF_sa (by simp)), fun t ht => ?_⟩
      rw [sa_eq]
      by_cases et : t = j
      · rw [et, upd_eq, ksF_lt (by omega), gB_D]
        congr 1
        rw [List.getD_eq_getElem?_getD, List.getD_eq_getElem?_getD, List.getElem?_take_of_lt (by omega), List.getElem?_drop]
      · rw [upd_ne et]
        exact i2 t (by omega)) (4 * kw) 0 F S0 (by omega) (by omega) ⟨arF.refl _ _, fun t ht => absurd ht (Nat.not_lt_zero _)⟩
    have e' : B_X1_become_26 G F F (W.ad (.o 1 0)) (W.ad (.o 0 i)) (Int32.ofNat p) (Int32.ofNat kw) 0 (mem W S0) = B_X1_become_26 G F (n' + 1) (W.ad (.o 1 0)) (W.ad (.o 0 i)) (Int32.ofNat p) (Int32.ofNat kw) (Int32.ofNat (4 * kw)) (mem W S1) := e
    rw [e', B_X1_become_26, show (4 : Int32) * (Int32.ofNat kw) = (Int32.ofNat (4 * kw)) from n_mul 4 kw, if_pos ((n_le (by omega) (by omega)).mpr (by omega))]
    obtain ⟨S2, g2, a2, k2⟩ := Q1_bec_b (key := (xs.drop p).take n) (kw := kw) (nr := kw + 6) X h hkw rfl (4 * (kw + 6 + 1) - kw) kw F S1 (by omega) (by omega) (by omega) (by rw [(a1.2 1 0).1, hS0, so_eq]; rfl) k1
    have ec : b32 (rcF ((kw - 1) / kw)) = 1 := by rcases hkw with rfl | rfl <;> rfl
    rw [ec] at g2
    have a3 := a1.trans a2
    have eS : S2 = S.so 1 0 (S2 1 0) := by
      funext c' i'
      by_cases q : c' = 1 ∧ i' = 0
      · rw [q.1, q.2, so_eq]
      · rw [so_ne q, a3.ob (c := c') (i := i') (by intro k hk; simp at hk; exact q ⟨hk.1, hk.2.1⟩), hS0, so_ne q]
    refine ⟨S2 1 0, by rw [g2, ← eS], ?_, by rw [← eS]; exact k2⟩
    obtain ⟨x1, x2, x3, x4⟩ := a3.2 1 0
    rw [hS0, so_eq] at x1 x2 x3 x4
    refine ⟨fun k hk => by rw [x1, sf_f, if_neg (by simpa using hk)], fun k _ => by rw [x2]; rfl, fun k hk => ?_, fun k _ => by rw [x3]; rfl, by rw [x4]; rfl⟩
    rw [a3.1 1 0 k (by simpa using hk), hS0, so_eq]
    rfl
  unfold P_X1_become
  rcases hn with rfl | rfl
  · rw [if_neg (by decide), pfI_m h.1 rfl, bO_s]
    exact main 4 (.inl rfl) rfl
  · rw [if_pos (by rfl), pfI_m h.1 rfl, bO_s]
    exact main 8 (.inr rfl) rfl
end KEYS
