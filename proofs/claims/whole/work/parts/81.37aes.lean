/-! THE BLOCK CIPHER OF THE CLASS -/
abbrev isCi (W : WR) : Prop := W.live (.o 1 0) = true ∧ hasA W 1 0 0 256 ∧ hasA W 1 0 1 240 ∧ hasA W 1 0 3 16 ∧ hasA W 1 0 4 16 ∧ hasA W 1 0 5 72
/-- the round keys stand there -/
abbrev KS (S : ST) (ks : Nat → UInt8) (nr : Nat) : Prop := (S 1 0).f 2 = (Int32.ofNat nr) ∧ (nr = 10 ∨ nr = 14) ∧ ∀ t, t < 16 * (nr + 1) → (S 1 0).a 1 t = b32 (ks t)
/-- the box back stands there -/
abbrev IB (S : ST) : Prop := ∀ x : UInt8, (S 1 0).a 0 x.toNat = b32 (ibx x)
abbrev aB (W : WR) (c i k : Nat) : Prop := hasA W c i k 16 ∧ (kdA c)[k]? = some 0 ∧ (c, i, k) ≠ (1, 0, 0) ∧ (c, i, k) ≠ (1, 0, 1) ∧ (c, i, k) ≠ (1, 0, 3)
abbrev CL (S : ST) (c i k : Nat) (s : List UInt8) : Prop := ∀ t, t < 16 → (S c i).a k t = gB s t
theorem KS_ar {L : List (Nat × Nat × Nat)} {S S' : ST} {ks : Nat → UInt8} {nr : Nat} (h : arF L S S') (hn : (1, 0, 1) ∉ L) (hk : KS S ks nr) : KS S' ks nr := by
  refine ⟨by rw [(h.2 1 0).1]; exact hk.1, hk.2.1, ?_⟩
  rw [h.1 1 0 1 hn]
  exact hk.2.2
theorem IB_ar {L : List (Nat × Nat × Nat)} {S S' : ST} (h : arF L S S') (hn : (1, 0, 0) ∉ L) (hk : IB S) : IB S' := by
  intro x
  rw [h.1 1 0 0 hn]
  exact hk x
theorem nm1 {a b : Nat × Nat × Nat} (h : b ≠ a) : a ∉ [b] := fun q => h (List.mem_singleton.mp q).symm
section AES
variable {W : WR} {G : mG} {F : Nat} {S : ST} {c i k : Nat} {ks : Nat → UInt8} {nr : Nat} {s : List UInt8}
theorem Q1_twice (x : UInt8) (M : mM) : P_X1_twice G F (b32 x) M = some (b32 (tw x), M) := by
  rw [← twI_b]
  unfold P_X1_twice twI
  split <;> rfl
theorem Q1_box (X : Cx G F W) (x : UInt8) : aI G (mem W S) 0 (G.1 1000) (b32 x) = some (b32 (sbx x)) := by
  have hl : (mtI 0).length = 256 := by decide +kernel
  have := tab_at (W := W) (S := S) (t := 0) (j := x.toNat) X rfl (by omega) (by rw [hl]; exact x.toNat_lt)
  have e := sbx_tab x.toNat x.toNat_lt
  rw [UInt8.ofNat_toNat] at e
  rw [← e]
  exact this
theorem Q1_ark {r : Nat} (X : Cx G F W) (h : isCi W) (hb : aB W c i k) (hk : KS S ks nr) (hr : r ≤ nr) (hs : CL S c i k s) : ∃ S', P_X1_addRoundKey G F (W.ad (.o 1 0)) (W.ad (.a c i k)) (Int32.ofNat r) (mem W S) = some (mem W S') ∧ arF [(c, i, k)] S S' ∧ CL S' c i k (arkF ks r s) := by
  have hF := X.hF
  have hnr : nr ≤ 14 := by have := hk.2.1; omega
  obtain ⟨n', S', e, h1, h2⟩ := loopS (fun n j S => B_X1_addRoundKey_2 G F n (W.ad (.o 1 0)) (W.ad (.a c i k)) (Int32.ofNat r) (Int32.ofNat j) (mem W S)) (fun j S' => arF [(c, i, k)] S S' ∧ ∀ t, t < 16 → (S' c i).a k t = if t < j then gB (arkF ks r s) t else gB s t) 16 (by
    intro n j S1 hj hI
    obtain ⟨i1, i2⟩ := hI
    have hk1 : (S1 1 0).a 1 (16 * r + j) = b32 (ks (16 * r + j)) := by
      rw [i1.1 1 0 1 (nm1 hb.2.2.2.1)]
      exact hk.2.2 _ (by omega)
    show ∃ S', B_X1_addRoundKey_2 G F (n + 1) _ _ _ _ _ = _ ∧ _
    rw [B_X1_addRoundKey_2, if_neg (by rw [lit 16]; exact fun q => absurd ((n_le (by omega) (by omega)).mp q) (by omega)), hb.1.ld hb.2.1 hj, bO_s, h.2.2.1.g h.1 rfl, bO_s, show (16 : Int32) * (Int32.ofNat r) = (Int32.ofNat (16 * r)) from n_mul 16 r, n_add, h.2.2.1.ld rfl (by omega), bO_s, hb.1.sa hb.2.1 hj, bO_s, n_addL j 1]
    refine ⟨_, rfl, i1.trans (arF_sa (by simp)), fun t ht => ?_⟩
    rw [sa_eq, upd]
    by_cases et : t = j
    · rw [if_pos et, if_pos (by omega), i2 j hj, if_neg (by omega), hk1, et, arkF, m16_g hj, gB_D, b32_x]
    · rw [if_neg et, i2 t ht]
      by_cases ej : t < j
      · rw [if_pos ej, if_pos (by omega)]
      · rw [if_neg ej, if_neg (by omega)]) 16 0 F S (by omega) rfl ⟨arF.refl _ _, fun t ht => by rw [if_neg (by omega)]; exact hs t ht⟩
  refine ⟨S', ?_, h1, fun t ht => by rw [h2 t ht, if_pos ht]⟩
  unfold P_X1_addRoundKey
  refine e.trans ?_
  show B_X1_addRoundKey_2 G F (n' + 1) _ _ _ (Int32.ofNat 16) _ = _
  rw [B_X1_addRoundKey_2, if_pos (by decide)]
/-- one column is mixed -/
theorem mixcol {a0 a1 a2 a3 : UInt8} : b32 a0 ^^^ ((((b32 a0 ^^^ b32 a1) ^^^ b32 a2) ^^^ b32 a3) ^^^ b32 (tw (a0 ^^^ a1))) = b32 ((((tw a0 ^^^ tw a1) ^^^ a1) ^^^ a2) ^^^ a3) := by
  simp only [b32_x, tw_xor]
  congr 1
  simp only [UInt8.xor_assoc, UInt8.xor_comm, x_lc, x_canc, UInt8.xor_self, UInt8.xor_zero, UInt8.zero_xor]
theorem Q1_mix_l (hb : aB W c i k) (hs0 : s.length = 16) : ∀ (m q n : Nat) (S : ST), m < n → q + m = 4 → (∀ t, t < 16 → (S c i).a k t = if t < 4 * q then gB (mixF s) t else gB s t) → ∃ S', B_X1_mixColumns_2 G F n (W.ad (.a c i k)) (Int32.ofNat (4 * q)) (mem W S) = some (mem W S') ∧ arF [(c, i, k)] S S' ∧ CL S' c i k (mixF s) := by
  intro m
  induction m with
  | zero =>
    intro q n S hn hq hs
    obtain ⟨n, rfl⟩ : ∃ q, n = q + 1 := ⟨n - 1, by omega⟩
    obtain rfl : q = 4 := by omega
    rw [B_X1_mixColumns_2, if_pos (by decide)]
    exact ⟨S, rfl, arF.refl _ _, fun t ht => by rw [hs t ht, if_pos (by omega)]⟩
  | succ m ih =>
    intro q n S hn hq hs
    obtain ⟨n, rfl⟩ : ∃ q, n = q + 1 := ⟨n - 1, by omega⟩
    have hq3 : q ≤ 3 := by omega
    have v0 : (S c i).a k (4 * q) = b32 (s.getD (4 * q) 0) := by rw [hs _ (by omega), if_neg (by omega), gB_D]
    have v1 : (S c i).a k (4 * q + 1) = b32 (s.getD (4 * q + 1) 0) := by rw [hs _ (by omega), if_neg (by omega), gB_D]
    have v2 : (S c i).a k (4 * q + 2) = b32 (s.getD (4 * q + 2) 0) := by rw [hs _ (by omega), if_neg (by omega), gB_D]
    have v3 : (S c i).a k (4 * q + 3) = b32 (s.getD (4 * q + 3) 0) := by rw [hs _ (by omega), if_neg (by omega), gB_D]
    rw [B_X1_mixColumns_2, if_neg (by rw [lit 16]; exact fun q => absurd ((n_le (by omega) (by omega)).mp q) (by omega)), n_addL _ 1, n_addL _ 2, n_addL _ 3, n_addL _ 4]
    have u1 : ∀ f v, upd f (4 * q) v (4 * q + 1) = f (4 * q + 1) := fun f v => upd_ne (by omega)
    have u2 : ∀ f v, upd f (4 * q) v (4 * q + 2) = f (4 * q + 2) := fun f v => upd_ne (by omega)
    have u3 : ∀ f v, upd f (4 * q) v (4 * q + 3) = f (4 * q + 3) := fun f v => upd_ne (by omega)
    have u4 : ∀ f v, upd f (4 * q + 1) v (4 * q + 2) = f (4 * q + 2) := fun f v => upd_ne (by omega)
    have u5 : ∀ f v, upd f (4 * q + 1) v (4 * q + 3) = f (4 * q + 3) := fun f v => upd_ne (by omega)
    have u6 : ∀ f v, upd f (4 * q + 2) v (4 * q + 3) = f (4 * q + 3) := fun f v => upd_ne (by omega)
    simp only [hb.1.ld hb.2.1 (show 4 * q < 16 by omega), hb.1.ld hb.2.1 (show 4 * q + 1 < 16 by omega), hb.1.ld hb.2.1 (show 4 * q + 2 < 16 by omega), hb.1.ld hb.2.1 (show 4 * q + 3 < 16 by omega), hb.1.sa hb.2.1 (show 4 * q < 16 by omega), hb.1.sa hb.2.1 (show 4 * q + 1 < 16 by omega), hb.1.sa hb.2.1 (show 4 * q + 2 < 16 by omega), hb.1.sa hb.2.1 (show 4 * q + 3 < 16 by omega), bO_s, sa_eq, u1, u2, u3, u4, u5, u6, v0, v1, v2, v3, b32_x, Q1_twice, bP_s, sa_sa]
    have key : ∀ f : Nat → Int32, (∀ t, t < 16 → f t = if t < 4 * (q + 1) then gB (mixF s) t else gB s t) → ∃ S', B_X1_mixColumns_2 G F n (W.ad (.a c i k)) (Int32.ofNat (4 * q + 4)) (mem W (S.sa c i k f)) = some (mem W S') ∧ arF [(c, i, k)] S S' ∧ CL S' c i k (mixF s) := by
      intro f hf
      obtain ⟨S', g1, g2, g3⟩ := ih (q + 1) n (S.sa c i k f) (by omega) (by omega) (fun t ht => by rw [sa_eq]; exact hf t ht)
      exact ⟨S', g1, (arF_sa (by simp)).trans g2, g3⟩
    refine key _ ?_
    · intro t ht
      have mx : ∀ a0 a1 a2 a3 : UInt8, a0 ^^^ ((((a0 ^^^ a1) ^^^ a2) ^^^ a3) ^^^ tw (a0 ^^^ a1)) = (((tw a0 ^^^ tw a1) ^^^ a1) ^^^ a2) ^^^ a3 := by
        intro a0 a1 a2 a3
        simp only [UInt8.xor_assoc, UInt8.xor_comm, x_lc, x_canc, UInt8.xor_self, UInt8.xor_zero, UInt8.zero_xor, tw_xor]
      have mf : ∀ d, d < 4 → gB (mixF s) (4 * q + d) = b32 ((((tw (s.getD (4 * q + d) 0) ^^^ tw (s.getD (4 * q + (d + 1) % 4) 0)) ^^^ s.getD (4 * q + (d + 1) % 4) 0) ^^^ s.getD (4 * q + (d + 2) % 4) 0) ^^^ s.getD (4 * q + (d + 3) % 4) 0) := by
        intro d hd
        unfold mixF
        rw [m16_g (by omega)]
        have n1 : nx (4 * q + d) 1 = 4 * q + (d + 1) % 4 := by unfold nx; omega
        have n2 : nx (4 * q + d) 2 = 4 * q + (d + 2) % 4 := by unfold nx; omega
        have n3 : nx (4 * q + d) 3 = 4 * q + (d + 3) % 4 := by unfold nx; omega
        rw [n1, n2, n3]
      by_cases h4 : 4 * q + 4 ≤ t
      · rw [upd_ne (by omega), upd_ne (by omega), upd_ne (by omega), upd_ne (by omega), hs t ht, if_neg (by omega), if_neg (by omega)]
      · rw [if_pos (by omega)]
        by_cases h0 : t < 4 * q
        · rw [upd_ne (by omega), upd_ne (by omega), upd_ne (by omega), upd_ne (by omega), hs t ht, if_pos h0]
        · have : t = 4 * q ∨ t = 4 * q + 1 ∨ t = 4 * q + 2 ∨ t = 4 * q + 3 := by omega
          rcases this with rfl | rfl | rfl | rfl
          · rw [upd_ne (by omega), upd_ne (by omega), upd_ne (by omega), upd_eq, mx]
            exact (mf 0 (by omega)).symm
          · rw [upd_ne (by omega), upd_ne (by omega), upd_eq, mf 1 (by omega), show (1 + 1) % 4 = 2 from rfl, show (1 + 2) % 4 = 3 from rfl, show (1 + 3) % 4 = 0 from rfl]
            congr 1
            simp only [Nat.add_zero, UInt8.xor_assoc, UInt8.xor_comm, x_lc, x_canc, UInt8.xor_self, UInt8.xor_zero, UInt8.zero_xor, tw_xor]
          · rw [upd_ne (by omega), upd_eq, mf 2 (by omega), show (2 + 1) % 4 = 3 from rfl, show (2 + 2) % 4 = 0 from rfl, show (2 + 3) % 4 = 1 from rfl]
            congr 1
            simp only [Nat.add_zero, UInt8.xor_assoc, UInt8.xor_comm, x_lc, x_canc, UInt8.xor_self, UInt8.xor_zero, UInt8.zero_xor, tw_xor]
          · rw [upd_eq, mf 3 (by omega), show (3 + 1) % 4 = 0 from rfl, show (3 + 2) % 4 = 1 from rfl, show (3 + 3) % 4 = 2 from rfl]
            congr 1
            simp only [Nat.add_zero, UInt8.xor_assoc, UInt8.xor_comm, x_lc, x_canc, UInt8.xor_self, UInt8.xor_zero, UInt8.zero_xor, tw_xor]
theorem Q1_mix (X : Cx G F W) (hb : aB W c i k) (hs0 : s.length = 16) (hs : CL S c i k s) : ∃ S', P_X1_mixColumns G F (W.ad (.a c i k)) (mem W S) = some (mem W S') ∧ arF [(c, i, k)] S S' ∧ CL S' c i k (mixF s) := Q1_mix_l hb hs0 4 0 F S (by have := X.hF; omega) rfl (fun t ht => by rw [if_neg (by omega)]; exact hs t ht)
end AES
