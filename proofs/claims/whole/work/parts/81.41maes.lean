/-! THE BLOCK CIPHER OF THE MODEL: back, setKey, cells -/
section MAES2
variable {W : WR} {G : mG} {F : Nat} {S : ST} {ks : Nat → UInt8} {nr : Nat} {s : List UInt8}
/-- the box back, turned -/
theorem QM_b21 {r15 : Nat → Int32 → mM → Option mM} {r : Int32} (X : Cx G F W) (h : isM W) (hbx : mBX S) (hs : CL S 13 0 45 s) : ∃ n' S', B_X13_back_21 G F r15 F (W.ad (.o 13 0)) r 0 (mem W S) = B_X13_back_61 G F r15 (n' + 1) (W.ad (.o 13 0)) r 16 (mem W S') ∧ arF L2 S S' ∧ CL S' 13 0 45 (isubF s) := by
  have hF := X.hF
  have h45 := h.hA 45 (by decide)
  have h46 := h.hA 46 (by decide)
  have h42 := h.hA 42 (by decide)
  obtain ⟨n', S1, e, h1, h2⟩ := loopS (fun n j S => B_X13_back_21 G F r15 n (W.ad (.o 13 0)) r (Int32.ofNat j) (mem W S)) (fun j S' => arF [(13, 0, 46)] S S' ∧ ∀ t, t < j → (S' 13 0).a 46 ((t + 4 * (t % 4)) % 16) = b32 (ibx (s.getD t 0))) 16 (by
    intro n j S1 hj hI
    obtain ⟨i1, i2⟩ := hI
    have hv : (S1 13 0).a 45 j = b32 (s.getD j 0) := by rw [i1.1 13 0 45 (by decide), hs _ hj, gB_D]
    show ∃ S', B_X13_back_21 G F r15 (n + 1) _ _ _ _ = _ ∧ _
    rw [B_X13_back_21, if_neg (by rw [lit 16]; exact fun q => absurd ((n_le (by omega) (by omega)).mp q) (by omega)), h46.g h.lo rfl, bO_s, h42.g h.lo rfl, bO_s, h45.g h.lo rfl, bO_s, h45.ld rfl hj, bO_s, hv, h.ix (mBX_ar i1 (by decide) (by decide) hbx), bO_s, mperm_t j hj, h46.sa rfl (show (j + 4 * (j % 4)) % 16 < 16 by omega), bO_s, n_addL j 1]
    refine ⟨_, rfl, i1.trans (arF_sa (by simp)), fun t ht => ?_⟩
    rw [sa_eq]
    by_cases et : t = j
    · rw [et, upd_eq]
    · rw [upd_ne (by omega)]
      exact i2 t (by omega)) 16 0 F S (by omega) rfl ⟨arF.refl _ _, fun t ht => absurd ht (Nat.not_lt_zero _)⟩
  have h2' : CL S1 13 0 46 (isubF s) := by
    intro p hp
    have := h2 ((p + 12 * (p % 4)) % 16) (by omega)
    rw [show ((p + 12 * (p % 4)) % 16 + 4 * (((p + 12 * (p % 4)) % 16) % 4)) % 16 = p by omega] at this
    rw [this, isubF, m16_g hp]
  obtain ⟨n2, S2, e2, a2, c2⟩ := loopS (fun n j S => B_X13_back_61 G F r15 n (W.ad (.o 13 0)) r (Int32.ofNat j) (mem W S)) (fun j S' => arF [(13, 0, 45)] S1 S' ∧ ∀ t, t < j → (S' 13 0).a 45 t = gB (isubF s) t) 16 (by
    intro n j S3 hj hI
    obtain ⟨i1, i2⟩ := hI
    have hv : (S3 13 0).a 46 j = gB (isubF s) j := by rw [i1.1 13 0 46 (by decide), h2' _ hj]
    show ∃ S', B_X13_back_61 G F r15 (n + 1) _ _ _ _ = _ ∧ _
    rw [B_X13_back_61, if_neg (by rw [lit 16]; exact fun q => absurd ((n_le (by omega) (by omega)).mp q) (by omega)), h45.g h.lo rfl, bO_s, h46.g h.lo rfl, bO_s, h46.ld rfl hj, bO_s, hv, h45.sa rfl hj, bO_s, n_addL j 1]
    refine ⟨_, rfl, i1.trans (arF_sa (by simp)), fun t ht => ?_⟩
    rw [sa_eq]
    by_cases et : t = j
    · rw [et, upd_eq]
    · rw [upd_ne et]
      exact i2 t (by omega)) 16 0 F S1 (by omega) rfl ⟨arF.refl _ _, fun t ht => absurd ht (Nat.not_lt_zero _)⟩
  have e' : B_X13_back_21 G F r15 F (W.ad (.o 13 0)) r 0 (mem W S) = B_X13_back_21 G F r15 (n' + 1) (W.ad (.o 13 0)) r 16 (mem W S1) := e
  have e2' : B_X13_back_61 G F r15 F (W.ad (.o 13 0)) r 0 (mem W S1) = B_X13_back_61 G F r15 (n2 + 1) (W.ad (.o 13 0)) r 16 (mem W S2) := e2
  refine ⟨n2, S2, ?_, (h1.mono (by decide)).trans (a2.mono (by decide)), c2⟩
  rw [e', B_X13_back_21, if_pos (by decide), e2']
/-- the columns back -/
theorem QM_b92 {r15 : Nat → Int32 → mM → Option mM} {r : Nat} (X : Cx G F W) (h : isM W) (hr : 0 < r) (hr2 : r < 20) (hs : CL S 13 0 45 s) : ∃ S', B_X13_back_92 G F r15 F (W.ad (.o 13 0)) (Int32.ofNat r) 0 (mem W S) = r15 (W.ad (.o 13 0)) ((Int32.ofNat r) + (-1)) (mem W S') ∧ arF L2 S S' ∧ CL S' 13 0 45 (imixF s) := by
  have hF := X.hF
  have h45 := h.hA 45 (by decide)
  have h46 := h.hA 46 (by decide)
  have hr0 : ¬ (Int32.ofNat r) ≤ (0 : Int32) := by rw [z32]; exact fun q => absurd ((n_le (by omega) (by omega)).mp q) (by omega)
  obtain ⟨n', S1, e, h1, h2⟩ := loopS (fun n j S => B_X13_back_92 G F r15 n (W.ad (.o 13 0)) (Int32.ofNat r) (Int32.ofNat j) (mem W S)) (fun j S' => arF [(13, 0, 46)] S S' ∧ ∀ t, t < j → (S' 13 0).a 46 t = gB s t) 16 (by
    intro n j S1 hj hI
    obtain ⟨i1, i2⟩ := hI
    have hv : (S1 13 0).a 45 j = gB s j := by rw [i1.1 13 0 45 (by decide), hs _ hj]
    show ∃ S', B_X13_back_92 G F r15 (n + 1) _ _ _ _ = _ ∧ _
    rw [B_X13_back_92, if_neg (by rw [lit 16]; exact fun q => absurd ((n_le (by omega) (by omega)).mp q) (by omega)), if_neg hr0, h46.g h.lo rfl, bO_s, h45.g h.lo rfl, bO_s, h45.ld rfl hj, bO_s, hv, h46.sa rfl hj, bO_s, n_addL j 1]
    refine ⟨_, rfl, i1.trans (arF_sa (by simp)), fun t ht => ?_⟩
    rw [sa_eq]
    by_cases et : t = j
    · rw [et, upd_eq]
    · rw [upd_ne et]
      exact i2 t (by omega)) 16 0 F S (by omega) rfl ⟨arF.refl _ _, fun t ht => absurd ht (Nat.not_lt_zero _)⟩
  obtain ⟨n2, S2, e2, a2, c2⟩ := loopS (fun n j S => B_X13_back_122 G F r15 n (W.ad (.o 13 0)) (Int32.ofNat r) (Int32.ofNat j) (mem W S)) (fun j S' => arF [(13, 0, 45)] S1 S' ∧ ∀ t, t < j → (S' 13 0).a 45 t = gB (imixF s) t) 16 (by
    intro n j S3 hj hI
    obtain ⟨i1, i2⟩ := hI
    have v : ∀ t, t < 16 → (S3 13 0).a 46 t = b32 (s.getD t 0) := fun t ht => by rw [i1.1 13 0 46 (by decide), h2 t ht, gB_D]
    obtain ⟨x1, x2, x3⟩ := nx_t j hj
    show ∃ S', B_X13_back_122 G F r15 (n + 1) _ _ _ _ = _ ∧ _
    rw [B_X13_back_122, if_neg (by rw [lit 16]; exact fun q => absurd ((n_le (by omega) (by omega)).mp q) (by omega)), if_neg hr0, x1, x2, x3, h45.g h.lo rfl, bO_s, h46.g h.lo rfl, bO_s, h46.ld rfl hj, bO_s, v j hj, QM_t14 X, bP_s, h46.g h.lo rfl, bO_s, h46.ld rfl (nx_lt hj), bO_s, v _ (nx_lt hj), QM_t11 X, bP_s, h46.g h.lo rfl, bO_s, h46.ld rfl (nx_lt hj), bO_s, v _ (nx_lt hj), QM_t13 X, bP_s, h46.g h.lo rfl, bO_s, h46.ld rfl (nx_lt hj), bO_s, v _ (nx_lt hj), QM_t9 X, bP_s, b32_x, b32_x, b32_x, h45.sa rfl hj, bO_s, n_addL j 1]
    refine ⟨_, rfl, i1.trans (arF_sa (by simp)), fun t ht => ?_⟩
    rw [sa_eq]
    by_cases et : t = j
    · rw [et, upd_eq, imixF, m16_g hj]
    · rw [upd_ne et]
      exact i2 t (by omega)) 16 0 F S1 (by omega) rfl ⟨arF.refl _ _, fun t ht => absurd ht (Nat.not_lt_zero _)⟩
  have e' : B_X13_back_92 G F r15 F (W.ad (.o 13 0)) (Int32.ofNat r) 0 (mem W S) = B_X13_back_92 G F r15 (n' + 1) (W.ad (.o 13 0)) (Int32.ofNat r) 16 (mem W S1) := e
  have e2' : B_X13_back_122 G F r15 F (W.ad (.o 13 0)) (Int32.ofNat r) 0 (mem W S1) = B_X13_back_122 G F r15 (n2 + 1) (W.ad (.o 13 0)) (Int32.ofNat r) 16 (mem W S2) := e2
  refine ⟨S2, ?_, (h1.mono (by decide)).trans (a2.mono (by decide)), c2⟩
  rw [e', B_X13_back_92, if_pos (by decide), e2', B_X13_back_122, if_pos (by decide)]
theorem QM_b92z {r15 : Nat → Int32 → mM → Option mM} (X : Cx G F W) (M : mM) : B_X13_back_92 G F r15 F (W.ad (.o 13 0)) 0 0 M = r15 (W.ad (.o 13 0)) (-1) M := by
  have hF := X.hF
  obtain ⟨n, hn⟩ : ∃ n, F = n + 1 := ⟨F - 1, by omega⟩
  have e0 : B_X13_back_92 G F r15 F = B_X13_back_92 G F r15 (n + 1) := by rw [← hn]
  have e1 : B_X13_back_122 G F r15 F = B_X13_back_122 G F r15 (n + 1) := by rw [← hn]
  rw [e0, B_X13_back_92, if_neg (by decide), if_pos (by decide), e1, B_X13_back_122, if_neg (by decide), if_pos (by decide)]
  rfl
theorem QM_bck_l (X : Cx G F W) (h : isM W) : ∀ (r n : Nat) (S : ST) (s : List UInt8), r + 1 < n → r < nr → mBX S → mKS S ks nr → CL S 13 0 45 s → ∃ S', B_X13_back_15 G F n (W.ad (.o 13 0)) (Int32.ofNat r) (mem W S) = some (mem W S') ∧ arF L2 S S' ∧ CL S' 13 0 45 (bckL ks r s) := by
  intro r
  induction r with
  | zero =>
    intro n S s hn hr hbx hk hs
    obtain ⟨n, rfl⟩ : ∃ q, n = q + 2 := ⟨n - 2, by omega⟩
    obtain ⟨n', S1, g1, a1, c1⟩ := QM_b21 (r15 := B_X13_back_15 G F (n + 1)) (r := 0) X h hbx hs
    obtain ⟨S2, g2, a2, c2⟩ := QM_withKey (r := 0) X h (mKS_ar a1 (by decide) hk) (by omega) c1
    have g2' : P_X13_withKey G F (W.ad (.o 13 0)) 0 (mem W S1) = some (mem W S2) := g2
    rw [B_X13_back_15, if_neg (by decide)]
    have g1' : B_X13_back_21 G F (B_X13_back_15 G F (n + 1)) F (W.ad (.o 13 0)) (Int32.ofNat 0) 0 (mem W S) = _ := g1
    rw [g1', B_X13_back_61, if_pos (by decide), rcv_m h.lo, bO_s, g2', bO_s, QM_b92z X, B_X13_back_15, if_pos (by decide)]
    exact ⟨S2, rfl, a1.trans (a2.mono (by decide)), c2⟩
  | succ r ih =>
    intro n S s hn hr hbx hk hs
    have hnr : nr ≤ 14 := by have := hk.2.1; omega
    obtain ⟨n, rfl⟩ : ∃ q, n = q + 1 := ⟨n - 1, by omega⟩
    obtain ⟨n', S1, g1, a1, c1⟩ := QM_b21 (r15 := B_X13_back_15 G F n) (r := (Int32.ofNat (r + 1))) X h hbx hs
    obtain ⟨S2, g2, a2, c2⟩ := QM_withKey (r := r + 1) X h (mKS_ar a1 (by decide) hk) (by omega) c1
    obtain ⟨S3, g3, a3, c3⟩ := QM_b92 (r15 := B_X13_back_15 G F n) (r := r + 1) X h (by omega) (by omega) c2
    rw [B_X13_back_15, if_neg (nn (by omega)), g1, B_X13_back_61, if_pos (by decide), rcv_m h.lo, bO_s, g2, bO_s, g3, n_dec]
    have a13 : arF L2 S S3 := (a1.trans (a2.mono (by decide))).trans a3
    obtain ⟨S4, g4, a4, c4⟩ := ih n S3 _ (by omega) (by omega) (mBX_ar a13 (by decide) (by decide) hbx) (mKS_ar a13 (by decide) hk) c3
    exact ⟨S4, g4, a13.trans a4, c4⟩
theorem QM_back (X : Cx G F W) (h : isM W) (hbx : mBX S) (hk : mKS S ks nr) (hs : CL S 13 0 45 s) : ∃ S', P_X13_back G F (W.ad (.o 13 0)) (mem W S) = some (mem W S') ∧ arF L2 S S' ∧ CL S' 13 0 45 (bck ks nr s) := by
  have hF := X.hF
  have hnr : nr ≤ 14 := by have := hk.2.1; omega
  have hn0 : 1 ≤ nr := by have := hk.2.1; omega
  unfold P_X13_back
  obtain ⟨S1, g1, g2, g3⟩ := QM_withKey (r := nr) X h hk (by omega) hs
  rw [gfI_m h.lo rfl, bO_s, rcv_m h.lo, bO_s, hk.1, g1, bO_s, gfI_m h.lo rfl, bO_s, (g2.2 13 0).1, hk.1, n_subL 1 hn0]
  obtain ⟨S2, g4, g5, g6⟩ := QM_bck_l X h (nr - 1) F S1 _ (by omega) (by omega) (mBX_ar g2 (by decide) (by decide) hbx) (mKS_ar g2 (by decide) hk) g3
  exact ⟨S2, g4, (g2.mono (by decide)).trans g5, g6⟩
/-- bytes to cells -/
theorem QM_setCells {k p : Nat} {β : Nat → UInt8} (X : Cx G F W) (h : isM W) (q : (kdA 13)[k]? = some 1) (hl : mLen k < 2 ^ 30) (hb : p + 16 ≤ mLen k) (hβ : mB (S 13 0) k β) : ∃ S', P_X13_setCells G F (W.ad (.o 13 0)) (W.ad (.a 13 0 k)) (Int32.ofNat p) (mem W S) = some (mem W S') ∧ arF [(13, 0, 45)] S S' ∧ CL S' 13 0 45 (rdB β p 16) := by
  have hF := X.hF
  have h45 := h.hA 45 (by decide)
  have hk45 : k ≠ 45 := fun e => by rw [e] at q; exact absurd q (by decide)
  obtain ⟨n', S1, e, h1, h2⟩ := loopS (fun n j S => B_X13_setCells_2 G F n (W.ad (.o 13 0)) (W.ad (.a 13 0 k)) (Int32.ofNat p) (Int32.ofNat j) (mem W S)) (fun j S' => arF [(13, 0, 45)] S S' ∧ ∀ t, t < j → (S' 13 0).a 45 t = gB (rdB β p 16) t) 16 (by
    intro n j S1 hj hI
    obtain ⟨i1, i2⟩ := hI
    have hβ1 : mB (S1 13 0) k β := by
      unfold mB
      rw [i1.1 13 0 k (by simpa using hk45)]
      exact hβ
    show ∃ S', B_X13_setCells_2 G F (n + 1) _ _ _ _ _ = _ ∧ _
    rw [B_X13_setCells_2, if_neg (by rw [lit 16]; exact fun q => absurd ((n_le (by omega) (by omega)).mp q) (by omega)), h45.g h.lo rfl, bO_s, n_add, h.aB q hβ1 (by omega) (by omega), bO_s, sb_and, h45.sa rfl hj, bO_s, n_addL j 1]
    refine ⟨_, rfl, i1.trans (arF_sa (by simp)), fun t ht => ?_⟩
    rw [sa_eq]
    by_cases et : t = j
    · rw [et, upd_eq, gB, rdB_at hj]
    · rw [upd_ne et]
      exact i2 t (by omega)) 16 0 F S (by omega) rfl ⟨arF.refl _ _, fun t ht => absurd ht (Nat.not_lt_zero _)⟩
  refine ⟨S1, ?_, h1, h2⟩
  unfold P_X13_setCells
  refine e.trans ?_
  show B_X13_setCells_2 G F (n' + 1) _ _ _ (Int32.ofNat 16) _ = _
  rw [B_X13_setCells_2, if_pos (by decide)]
theorem sb_b32 (x : UInt8) : ((b32 x).toInt8.toInt32).toInt8.toInt32 = sb x := by
  have h : ∀ n, n < 256 → (((Int32.ofNat n)).toInt8.toInt32).toInt8.toInt32 = sb (UInt8.ofNat n) := by decide +kernel
  have := h x.toNat x.toNat_lt
  rwa [UInt8.ofNat_toNat] at this
/-- cells to bytes -/
theorem QM_getCells {k p : Nat} {β : Nat → UInt8} (X : Cx G F W) (h : isM W) (q : (kdA 13)[k]? = some 1) (hl : mLen k < 2 ^ 30) (hb : p + 16 ≤ mLen k) (hβ : mB (S 13 0) k β) (hs0 : s.length = 16) (hs : CL S 13 0 45 s) : P_X13_getCells G F (W.ad (.o 13 0)) (W.ad (.a 13 0 k)) (Int32.ofNat p) (mem W S) = some (mem W (S.sa 13 0 k (fun j => sb (wrB β p s j)))) := by
  have hF := X.hF
  have h45 := h.hA 45 (by decide)
  have hk45 : k ≠ 45 := fun e => by rw [e] at q; exact absurd q (by decide)
  obtain ⟨n', S1, e, h1⟩ := loopS (fun n j S => B_X13_getCells_2 G F n (W.ad (.o 13 0)) (W.ad (.a 13 0 k)) (Int32.ofNat p) (Int32.ofNat j) (mem W S)) (fun j S' => S' = S.sa 13 0 k (fun j' => sb (wrB β p (s.take j) j'))) 16 (by
    intro n j S1 hj hI
    have hβ1 : mB (S1 13 0) k (wrB β p (s.take j)) := by
      unfold mB
      rw [hI, sa_eq]
    have hv : (S1 13 0).a 45 j = b32 (s[j]'(by omega)) := by
      rw [hI, sa_ne (by simp; omega), hs _ hj, gB_lt (by omega)]
    have es : (s.take (j + 1)) = s.take j ++ [s[j]'(by omega)] := by rw [List.take_succ_eq_append_getElem]
    show ∃ S', B_X13_getCells_2 G F (n + 1) _ _ _ _ _ = _ ∧ _
    rw [B_X13_getCells_2, if_neg (by rw [lit 16]; exact fun q => absurd ((n_le (by omega) (by omega)).mp q) (by omega)), h45.g h.lo rfl, bO_s, h45.ld rfl hj, bO_s, hv, sb_b32, n_add, h.sB q hβ1 (by omega) (by omega), bO_s, n_addL j 1]
    refine ⟨_, rfl, ?_⟩
    show S1.sa 13 0 k _ = _
    rw [hI, sa_sa, es, wrB_snoc, List.length_take, Nat.min_eq_left (by omega)]) 16 0 F S (by omega) rfl (by
      rw [List.take_zero, wrB_nil]
      unfold ST.sa
      rw [sA_self hβ, so_self])
  unfold P_X13_getCells
  refine e.trans ?_
  show B_X13_getCells_2 G F (n' + 1) _ _ _ (Int32.ofNat 16) _ = _
  rw [B_X13_getCells_2, if_pos (by decide), h1, List.take_of_length_le (by omega)]
end MAES2
