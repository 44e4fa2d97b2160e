/-! THE BLOCK CIPHER OF THE MODEL -/
section MAES
variable {W : WR} {G : mG} {F : Nat} {S : ST} {ks : Nat → UInt8} {nr : Nat} {s : List UInt8}
theorem QM_twice (x : UInt8) (M : mM) : P_X13_twice G F (b32 x) M = some (b32 (tw x), M) := by
  rw [← twJ_b]
  unfold P_X13_twice twJ
  split <;> rfl
theorem z_x (x : UInt8) : (0 : Int32) ^^^ b32 x = b32 x := by
  have : (0 : Int32) = b32 0 := rfl
  rw [this, b32_x, UInt8.zero_xor]
theorem QM_t14 (X : Cx G F W) (x : UInt8) (M : mM) : P_X13_times G F (b32 x) 14 M = some (b32 (t14 x), M) := by
  have hF := X.hF
  obtain ⟨n, hn⟩ : ∃ n, F = n + 9 := ⟨F - 9, by omega⟩
  unfold P_X13_times
  have e0 : B_X13_times_7 G F F = B_X13_times_7 G F (n + 9) := by rw [← hn]
  rw [e0, B_X13_times_7, if_neg (by decide), if_neg (by decide), QM_twice, bP_s, B_X13_times_7, if_neg (by decide), if_pos (by decide), QM_twice, bP_s, B_X13_times_7, if_neg (by decide), if_pos (by decide), QM_twice, bP_s, B_X13_times_7, if_neg (by decide), if_pos (by decide), QM_twice, bP_s, B_X13_times_7, if_neg (by decide), if_neg (by decide), QM_twice, bP_s, B_X13_times_7, if_neg (by decide), if_neg (by decide), QM_twice, bP_s, B_X13_times_7, if_neg (by decide), if_neg (by decide), QM_twice, bP_s, B_X13_times_7, if_neg (by decide), if_neg (by decide), QM_twice, bP_s, B_X13_times_7, if_pos (by decide)]
  simp only [z_x, b32_x]
  rfl
theorem QM_t11 (X : Cx G F W) (x : UInt8) (M : mM) : P_X13_times G F (b32 x) 11 M = some (b32 (t11 x), M) := by
  have hF := X.hF
  obtain ⟨n, hn⟩ : ∃ n, F = n + 9 := ⟨F - 9, by omega⟩
  unfold P_X13_times
  have e0 : B_X13_times_7 G F F = B_X13_times_7 G F (n + 9) := by rw [← hn]
  rw [e0, B_X13_times_7, if_neg (by decide), if_pos (by decide), QM_twice, bP_s, B_X13_times_7, if_neg (by decide), if_pos (by decide), QM_twice, bP_s, B_X13_times_7, if_neg (by decide), if_neg (by decide), QM_twice, bP_s, B_X13_times_7, if_neg (by decide), if_pos (by decide), QM_twice, bP_s, B_X13_times_7, if_neg (by decide), if_neg (by decide), QM_twice, bP_s, B_X13_times_7, if_neg (by decide), if_neg (by decide), QM_twice, bP_s, B_X13_times_7, if_neg (by decide), if_neg (by decide), QM_twice, bP_s, B_X13_times_7, if_neg (by decide), if_neg (by decide), QM_twice, bP_s, B_X13_times_7, if_pos (by decide)]
  simp only [z_x, b32_x]
  rfl
theorem QM_t13 (X : Cx G F W) (x : UInt8) (M : mM) : P_X13_times G F (b32 x) 13 M = some (b32 (t13 x), M) := by
  have hF := X.hF
  obtain ⟨n, hn⟩ : ∃ n, F = n + 9 := ⟨F - 9, by omega⟩
  unfold P_X13_times
  have e0 : B_X13_times_7 G F F = B_X13_times_7 G F (n + 9) := by rw [← hn]
  rw [e0, B_X13_times_7, if_neg (by decide), if_pos (by decide), QM_twice, bP_s, B_X13_times_7, if_neg (by decide), if_neg (by decide), QM_twice, bP_s, B_X13_times_7, if_neg (by decide), if_pos (by decide), QM_twice, bP_s, B_X13_times_7, if_neg (by decide), if_pos (by decide), QM_twice, bP_s, B_X13_times_7, if_neg (by decide), if_neg (by decide), QM_twice, bP_s, B_X13_times_7, if_neg (by decide), if_neg (by decide), QM_twice, bP_s, B_X13_times_7, if_neg (by decide), if_neg (by decide), QM_twice, bP_s, B_X13_times_7, if_neg (by decide), if_neg (by decide), QM_twice, bP_s, B_X13_times_7, if_pos (by decide)]
  simp only [z_x, b32_x]
  rfl
theorem QM_t9 (X : Cx G F W) (x : UInt8) (M : mM) : P_X13_times G F (b32 x) 9 M = some (b32 (t9 x), M) := by
  have hF := X.hF
  obtain ⟨n, hn⟩ : ∃ n, F = n + 9 := ⟨F - 9, by omega⟩
  unfold P_X13_times
  have e0 : B_X13_times_7 G F F = B_X13_times_7 G F (n + 9) := by rw [← hn]
  rw [e0, B_X13_times_7, if_neg (by decide), if_pos (by decide), QM_twice, bP_s, B_X13_times_7, if_neg (by decide), if_neg (by decide), QM_twice, bP_s, B_X13_times_7, if_neg (by decide), if_neg (by decide), QM_twice, bP_s, B_X13_times_7, if_neg (by decide), if_pos (by decide), QM_twice, bP_s, B_X13_times_7, if_neg (by decide), if_neg (by decide), QM_twice, bP_s, B_X13_times_7, if_neg (by decide), if_neg (by decide), QM_twice, bP_s, B_X13_times_7, if_neg (by decide), if_neg (by decide), QM_twice, bP_s, B_X13_times_7, if_neg (by decide), if_neg (by decide), QM_twice, bP_s, B_X13_times_7, if_pos (by decide)]
  simp only [z_x, b32_x]
  rfl
theorem mperm_t : ∀ j, j < 16 → (((Int32.ofNat j) + ((4 : Int32) * ((Int32.ofNat j) - (Int32.ofNat j) / (4 : Int32) * (4 : Int32)))) - ((Int32.ofNat j) + ((4 : Int32) * ((Int32.ofNat j) - (Int32.ofNat j) / (4 : Int32) * (4 : Int32)))) / (16 : Int32) * (16 : Int32)) = (Int32.ofNat ((j + 4 * (j % 4)) % 16)) := by decide +kernel
theorem nx_t : ∀ j, j < 16 → ((((Int32.ofNat j) / (4 : Int32)) * (4 : Int32)) + (((Int32.ofNat j) + (1 : Int32)) - ((Int32.ofNat j) + (1 : Int32)) / (4 : Int32) * (4 : Int32)) = (Int32.ofNat (nx j 1))) ∧ ((((Int32.ofNat j) / (4 : Int32)) * (4 : Int32)) + (((Int32.ofNat j) + (2 : Int32)) - ((Int32.ofNat j) + (2 : Int32)) / (4 : Int32) * (4 : Int32)) = (Int32.ofNat (nx j 2))) ∧ ((((Int32.ofNat j) / (4 : Int32)) * (4 : Int32)) + (((Int32.ofNat j) + (3 : Int32)) - ((Int32.ofNat j) + (3 : Int32)) / (4 : Int32) * (4 : Int32)) = (Int32.ofNat (nx j 3))) := by decide +kernel
theorem nx_lt {k d : Nat} (h : k < 16) : nx k d < 16 := by unfold nx; omega
abbrev mKS (S : ST) (ks : Nat → UInt8) (nr : Nat) : Prop := (S 13 0).f 44 = (Int32.ofNat nr) ∧ (nr = 10 ∨ nr = 14) ∧ ∀ t, t < 16 * (nr + 1) → (S 13 0).a 43 t = b32 (ks t)
abbrev mBX (S : ST) : Prop := (∀ x : UInt8, (S 13 0).a 41 x.toNat = b32 (sbx x)) ∧ ∀ x : UInt8, (S 13 0).a 42 x.toNat = b32 (ibx x)
theorem mKS_ar {L : List (Nat × Nat × Nat)} {S S' : ST} (h : arF L S S') (hn : (13, 0, 43) ∉ L) (hk : mKS S ks nr) : mKS S' ks nr := by
  refine ⟨by rw [(h.2 13 0).1]; exact hk.1, hk.2.1, ?_⟩
  rw [h.1 13 0 43 hn]
  exact hk.2.2
theorem mBX_ar {L : List (Nat × Nat × Nat)} {S S' : ST} (h : arF L S S') (h1 : (13, 0, 41) ∉ L) (h2 : (13, 0, 42) ∉ L) (hk : mBX S) : mBX S' := by
  refine ⟨fun x => ?_, fun x => ?_⟩
  · rw [h.1 13 0 41 h1]; exact hk.1 x
  · rw [h.1 13 0 42 h2]; exact hk.2 x
theorem isM.bx (h : isM W) (hb : mBX S) (x : UInt8) : aI G (mem W S) 0 (W.ad (.a 13 0 41)) (b32 x) = some (b32 (sbx x)) := by
  rw [← hb.1 x]
  exact (h.hA 41 (by decide)).ld rfl x.toNat_lt
theorem isM.ix (h : isM W) (hb : mBX S) (x : UInt8) : aI G (mem W S) 0 (W.ad (.a 13 0 42)) (b32 x) = some (b32 (ibx x)) := by
  rw [← hb.2 x]
  exact (h.hA 42 (by decide)).ld rfl x.toNat_lt
theorem QM_withKey {r : Nat} (X : Cx G F W) (h : isM W) (hk : mKS S ks nr) (hr : r ≤ nr) (hs : CL S 13 0 45 s) : ∃ S', P_X13_withKey G F (W.ad (.o 13 0)) (Int32.ofNat r) (mem W S) = some (mem W S') ∧ arF [(13, 0, 45)] S S' ∧ CL S' 13 0 45 (arkF ks r s) := by
  have hF := X.hF
  have hnr : nr ≤ 14 := by have := hk.2.1; omega
  have h45 := h.hA 45 (by decide)
  have h43 := h.hA 43 (by decide)
  obtain ⟨n', S', e, h1, h2⟩ := loopS (fun n j S => B_X13_withKey_2 G F n (W.ad (.o 13 0)) (Int32.ofNat r) (Int32.ofNat j) (mem W S)) (fun j S' => arF [(13, 0, 45)] S S' ∧ ∀ t, t < 16 → (S' 13 0).a 45 t = if t < j then gB (arkF ks r s) t else gB s t) 16 (by
    intro n j S1 hj hI
    obtain ⟨i1, i2⟩ := hI
    have hk1 : (S1 13 0).a 43 (16 * r + j) = b32 (ks (16 * r + j)) := (mKS_ar i1 (by decide) hk).2.2 _ (by omega)
    show ∃ S', B_X13_withKey_2 G F (n + 1) _ _ _ _ = _ ∧ _
    rw [B_X13_withKey_2, if_neg (by rw [lit 16]; exact fun q => absurd ((n_le (by omega) (by omega)).mp q) (by omega)), h45.g h.lo rfl, bO_s, h45.ld rfl hj, bO_s, h43.g h.lo rfl, bO_s, show (16 : Int32) * (Int32.ofNat r) = (Int32.ofNat (16 * r)) from n_mul 16 r, n_add, h43.ld rfl (show 16 * r + j < 240 by omega), bO_s, h45.sa rfl hj, bO_s, n_addL j 1]
    refine ⟨_, rfl, i1.trans (arF_sa (by simp)), fun t ht => ?_⟩
    rw [sa_eq]
    by_cases et : t = j
    · rw [et, upd_eq, if_pos (by omega), i2 j hj, if_neg (by omega), hk1, arkF, m16_g hj, gB_D, b32_x]
    · rw [upd_ne et, i2 t ht]
      by_cases ej : t < j
      · rw [if_pos ej, if_pos (by omega)]
      · rw [if_neg ej, if_neg (by omega)]) 16 0 F S (by omega) rfl ⟨arF.refl _ _, fun t ht => by rw [if_neg (by omega)]; exact hs t ht⟩
  refine ⟨S', ?_, h1, fun t ht => by rw [h2 t ht, if_pos ht]⟩
  unfold P_X13_withKey
  refine e.trans ?_
  show B_X13_withKey_2 G F (n' + 1) _ _ (Int32.ofNat 16) _ = _
  rw [B_X13_withKey_2, if_pos (by decide)]
abbrev L2 : List (Nat × Nat × Nat) := [(13, 0, 45), (13, 0, 46)]
theorem QM_fr {r7 : Nat → Int32 → mM → Option mM} {r : Nat} (X : Cx G F W) (h : isM W) (hbx : mBX S) (hk : mKS S ks nr) (hr : r ≤ nr) (hs : CL S 13 0 45 s) : ∃ S', B_X13_forth_17 G F r7 F (W.ad (.o 13 0)) (Int32.ofNat r) 0 (mem W S) = r7 (W.ad (.o 13 0)) (Int32.ofNat (r + 1)) (mem W S') ∧ arF L2 S S' ∧ CL S' 13 0 45 (frd ks nr r s) := by
  have hF := X.hF
  have hnr : nr ≤ 14 := by have := hk.2.1; omega
  have h45 := h.hA 45 (by decide)
  have h46 := h.hA 46 (by decide)
  have h41 := h.hA 41 (by decide)
  obtain ⟨n', S1, e, h1, h2⟩ := loopS (fun n j S => B_X13_forth_17 G F r7 n (W.ad (.o 13 0)) (Int32.ofNat r) (Int32.ofNat j) (mem W S)) (fun j S' => arF [(13, 0, 46)] S S' ∧ ∀ t, t < j → (S' 13 0).a 46 t = gB (subF s) t) 16 (by
    intro n j S1 hj hI
    obtain ⟨i1, i2⟩ := hI
    have hv : (S1 13 0).a 45 ((j + 4 * (j % 4)) % 16) = b32 (s.getD ((j + 4 * (j % 4)) % 16) 0) := by
      rw [i1.1 13 0 45 (by decide), hs _ (by omega), gB_D]
    show ∃ S', B_X13_forth_17 G F r7 (n + 1) _ _ _ _ = _ ∧ _
    rw [B_X13_forth_17, if_neg (by rw [lit 16]; exact fun q => absurd ((n_le (by omega) (by omega)).mp q) (by omega)), h46.g h.lo rfl, bO_s, h41.g h.lo rfl, bO_s, h45.g h.lo rfl, bO_s, mperm_t j hj, h45.ld rfl (show (j + 4 * (j % 4)) % 16 < 16 by omega), bO_s, hv, h.bx (mBX_ar i1 (by decide) (by decide) hbx), bO_s, h46.sa rfl hj, bO_s, n_addL j 1]
    refine ⟨_, rfl, i1.trans (arF_sa (by simp)), fun t ht => ?_⟩
    rw [sa_eq]
    by_cases et : t = j
    · rw [et, upd_eq, subF, m16_g hj]
    · rw [upd_ne et]
      exact i2 t (by omega)) 16 0 F S (by omega) rfl ⟨arF.refl _ _, fun t ht => absurd ht (Nat.not_lt_zero _)⟩
  have e' : B_X13_forth_17 G F r7 F (W.ad (.o 13 0)) (Int32.ofNat r) 0 (mem W S) = B_X13_forth_17 G F r7 (n' + 1) (W.ad (.o 13 0)) (Int32.ofNat r) 16 (mem W S1) := e
  obtain ⟨s2, hs2⟩ : ∃ s2, s2 = (if r < nr then mixF (subF s) else subF s) := ⟨_, rfl⟩
  obtain ⟨n2, S2, e2, a2, c2⟩ := loopS (fun n j S => B_X13_forth_57 G F r7 n (W.ad (.o 13 0)) (Int32.ofNat r) (Int32.ofNat j) (mem W S)) (fun j S' => arF [(13, 0, 45)] S1 S' ∧ ∀ t, t < j → (S' 13 0).a 45 t = gB s2 t) 16 (by
    intro n j S3 hj hI
    obtain ⟨i1, i2⟩ := hI
    have v : ∀ t, t < 16 → (S3 13 0).a 46 t = b32 ((subF s).getD t 0) := fun t ht => by rw [i1.1 13 0 46 (by decide), h2 t ht, gB_D]
    obtain ⟨x1, x2, x3⟩ := nx_t j hj
    have hf : (S3 13 0).f 44 = (Int32.ofNat nr) := by rw [(i1.2 13 0).1, (h1.2 13 0).1]; exact hk.1
    show ∃ S', B_X13_forth_57 G F r7 (n + 1) _ _ _ _ = _ ∧ _
    rw [B_X13_forth_57, if_neg (by rw [lit 16]; exact fun q => absurd ((n_le (by omega) (by omega)).mp q) (by omega)), x1, x2, x3, h46.g h.lo rfl, bO_s, h46.ld rfl hj, bO_s, bO_s, h46.ld rfl (nx_lt hj), bO_s, v j hj, v _ (nx_lt hj), QM_twice, bP_s, QM_twice, bP_s, h46.g h.lo rfl, bO_s, h46.ld rfl (nx_lt hj), bO_s, bO_s, h46.ld rfl (nx_lt hj), bO_s, v _ (nx_lt hj), v _ (nx_lt hj), h45.g h.lo rfl, bO_s, gfI_m h.lo rfl, bO_s, hf, b32_x, b32_x, b32_x, b32_x]
    have go : ∀ y : UInt8, b32 y = gB s2 j → ∃ S', (bO (sI (mem W S3) 0 (W.ad (.a 13 0 45)) (Int32.ofNat j) (b32 y)) fun M153 => B_X13_forth_57 G F r7 n (W.ad (.o 13 0)) (Int32.ofNat r) ((Int32.ofNat j) + 1) M153) = B_X13_forth_57 G F r7 n (W.ad (.o 13 0)) (Int32.ofNat r) (Int32.ofNat (j + 1)) (mem W S') ∧ arF [(13, 0, 45)] S1 S' ∧ ∀ t, t < j + 1 → (S' 13 0).a 45 t = gB s2 t := by
      intro y hy
      rw [h45.sa rfl hj, bO_s, n_addL j 1]
      refine ⟨_, rfl, i1.trans (arF_sa (by simp)), fun t ht => ?_⟩
      rw [sa_eq]
      by_cases et : t = j
      · rw [et, upd_eq, hy]
      · rw [upd_ne et]
        exact i2 t (by omega)
    by_cases hc : nr ≤ r
    · rw [if_pos ((n_le (by omega) (by omega)).mpr hc)]
      exact go _ (by rw [hs2, if_neg (by omega), gB_D])
    · rw [if_neg (fun q => hc ((n_le (by omega) (by omega)).mp q))]
      exact go _ (by rw [hs2, if_pos (by omega), mixF, m16_g hj])) 16 0 F S1 (by omega) rfl ⟨arF.refl _ _, fun t ht => absurd ht (Nat.not_lt_zero _)⟩
  have e2' : B_X13_forth_57 G F r7 F (W.ad (.o 13 0)) (Int32.ofNat r) 0 (mem W S1) = B_X13_forth_57 G F r7 (n2 + 1) (W.ad (.o 13 0)) (Int32.ofNat r) 16 (mem W S2) := e2
  have a12 : arF L2 S S2 := (h1.mono (by decide)).trans (a2.mono (by decide))
  obtain ⟨S3, g1, g2, g3⟩ := QM_withKey (r := r) X h (mKS_ar a12 (by decide) hk) hr c2
  rw [e', B_X13_forth_17, if_pos (by decide), e2', B_X13_forth_57, if_pos (by decide), rcv_m h.lo, bO_s, g1, bO_s, n_addL r 1]
  refine ⟨S3, rfl, a12.trans (g2.mono (by decide)), ?_⟩
  rw [hs2] at g3
  exact g3
theorem QM_fwd_l (X : Cx G F W) (h : isM W) : ∀ (m r n : Nat) (S : ST) (s : List UInt8), m < n → r + m = nr + 1 → mBX S → mKS S ks nr → CL S 13 0 45 s → ∃ S', B_X13_forth_7 G F n (W.ad (.o 13 0)) (Int32.ofNat r) (mem W S) = some (mem W S') ∧ arF L2 S S' ∧ CL S' 13 0 45 (fwdL ks nr m r s) := by
  intro m
  induction m with
  | zero =>
    intro r n S s hn hr hbx hk hs
    have hnr : nr ≤ 14 := by have := hk.2.1; omega
    obtain ⟨n, rfl⟩ : ∃ q, n = q + 1 := ⟨n - 1, by omega⟩
    rw [B_X13_forth_7, gfI_m h.lo rfl, bO_s, hk.1, if_pos ((n_lt (by omega) (by omega)).mpr (by omega))]
    exact ⟨S, rfl, arF.refl _ _, hs⟩
  | succ m ih =>
    intro r n S s hn hr hbx hk hs
    have hnr : nr ≤ 14 := by have := hk.2.1; omega
    obtain ⟨n, rfl⟩ : ∃ q, n = q + 1 := ⟨n - 1, by omega⟩
    rw [B_X13_forth_7, gfI_m h.lo rfl, bO_s, hk.1, if_neg (fun q => absurd ((n_lt (by omega) (by omega)).mp q) (by omega))]
    obtain ⟨S1, g1, g2, g3⟩ := QM_fr (r7 := B_X13_forth_7 G F n) (r := r) X h hbx hk (by omega) hs
    rw [g1]
    obtain ⟨S2, g4, g5, g6⟩ := ih (r + 1) n S1 _ (by omega) (by omega) (mBX_ar g2 (by decide) (by decide) hbx) (mKS_ar g2 (by decide) hk) g3
    exact ⟨S2, g4, g2.trans g5, g6⟩
theorem QM_forth (X : Cx G F W) (h : isM W) (hbx : mBX S) (hk : mKS S ks nr) (hs : CL S 13 0 45 s) : ∃ S', P_X13_forth G F (W.ad (.o 13 0)) (mem W S) = some (mem W S') ∧ arF L2 S S' ∧ CL S' 13 0 45 (fwd ks nr s) := by
  have hF := X.hF
  have hnr : nr ≤ 14 := by have := hk.2.1; omega
  unfold P_X13_forth
  obtain ⟨S1, g1, g2, g3⟩ := QM_withKey (r := 0) X h hk (by omega) hs
  have g1' : P_X13_withKey G F (W.ad (.o 13 0)) 0 (mem W S) = some (mem W S1) := g1
  rw [rcv_m h.lo, bO_s, g1', bO_s]
  obtain ⟨S2, g4, g5, g6⟩ := QM_fwd_l X h nr 1 F S1 _ (by omega) (by omega) (mBX_ar g2 (by decide) (by decide) hbx) (mKS_ar g2 (by decide) hk) g3
  exact ⟨S2, g4, (g2.mono (by decide)).trans g5, g6⟩
end MAES
