/-! THE BLOCK CIPHER OF THE CLASS: forward, backward -/
theorem perm_t : ∀ j, j < 16 → ((Int32.ofNat j) + ((4 : Int32) * ((Int32.ofNat j) &&& (3 : Int32)))) &&& (15 : Int32) = (Int32.ofNat ((j + 4 * (j % 4)) % 16)) := by decide +kernel
theorem n_dec (r : Nat) : (Int32.ofNat (r + 1)) + (-1) = (Int32.ofNat r) := by
  rw [← n_addL r 1, Int32.add_assoc]
  have : (1 : Int32) + (-1) = 0 := by decide
  show (Int32.ofNat r) + ((1 : Int32) + (-1)) = _
  rw [this, Int32.add_zero]
section AES2
variable {W : WR} {G : mG} {F : Nat} {S : ST} {c i k : Nat} {ks : Nat → UInt8} {nr : Nat} {s : List UInt8}
theorem Q1_pre_l (X : Cx G F W) (hb : aB W c i k) : ∀ (m q n : Nat) (S : ST), m < n → q + m = 4 → (∀ t, t < 16 → (S c i).a k t = if t < 4 * q then gB (preF s) t else gB s t) → ∃ S', B_X1_unmixColumns_2 G F n (W.ad (.a c i k)) (Int32.ofNat (4 * q)) (mem W S) = some (mem W S') ∧ arF [(c, i, k)] S S' ∧ CL S' c i k (imixF s) := by
  intro m
  induction m with
  | zero =>
    intro q n S hn hq hs
    obtain ⟨n, rfl⟩ : ∃ q, n = q + 1 := ⟨n - 1, by omega⟩
    obtain rfl : q = 4 := by omega
    rw [B_X1_unmixColumns_2, if_pos (by decide)]
    obtain ⟨S', g1, g2, g3⟩ := Q1_mix (S := S) (s := preF s) X hb (m16_len _) (fun t ht => by rw [hs t ht, if_pos (by omega)])
    rw [g1, bO_s]
    rw [imix_pre] at g3
    exact ⟨S', rfl, g2, g3⟩
  | succ m ih =>
    intro q n S hn hq hs
    obtain ⟨n, rfl⟩ : ∃ q, n = q + 1 := ⟨n - 1, by omega⟩
    have hq3 : q ≤ 3 := by omega
    have v0 : (S c i).a k (4 * q) = b32 (s.getD (4 * q) 0) := by rw [hs _ (by omega), if_neg (by omega), gB_D]
    have v1 : (S c i).a k (4 * q + 1) = b32 (s.getD (4 * q + 1) 0) := by rw [hs _ (by omega), if_neg (by omega), gB_D]
    have v2 : (S c i).a k (4 * q + 2) = b32 (s.getD (4 * q + 2) 0) := by rw [hs _ (by omega), if_neg (by omega), gB_D]
    have v3 : (S c i).a k (4 * q + 3) = b32 (s.getD (4 * q + 3) 0) := by rw [hs _ (by omega), if_neg (by omega), gB_D]
    rw [B_X1_unmixColumns_2, if_neg (by rw [lit 16]; exact fun q => absurd ((n_le (by omega) (by omega)).mp q) (by omega)), n_addL _ 1, n_addL _ 2, n_addL _ 3, n_addL _ 4]
    have u1 : ∀ f v, upd f (4 * q) v (4 * q + 1) = f (4 * q + 1) := fun f v => upd_ne (by omega)
    have u2 : ∀ f v, upd f (4 * q) v (4 * q + 2) = f (4 * q + 2) := fun f v => upd_ne (by omega)
    have u3 : ∀ f v, upd f (4 * q) v (4 * q + 3) = f (4 * q + 3) := fun f v => upd_ne (by omega)
    have u4 : ∀ f v, upd f (4 * q + 1) v (4 * q + 2) = f (4 * q + 2) := fun f v => upd_ne (by omega)
    have u5 : ∀ f v, upd f (4 * q + 1) v (4 * q + 3) = f (4 * q + 3) := fun f v => upd_ne (by omega)
    have u6 : ∀ f v, upd f (4 * q + 2) v (4 * q + 3) = f (4 * q + 3) := fun f v => upd_ne (by omega)
    simp only [hb.1.ld hb.2.1 (show 4 * q < 16 by omega), hb.1.ld hb.2.1 (show 4 * q + 1 < 16 by omega), hb.1.ld hb.2.1 (show 4 * q + 2 < 16 by omega), hb.1.ld hb.2.1 (show 4 * q + 3 < 16 by omega), hb.1.sa hb.2.1 (show 4 * q < 16 by omega), hb.1.sa hb.2.1 (show 4 * q + 1 < 16 by omega), hb.1.sa hb.2.1 (show 4 * q + 2 < 16 by omega), hb.1.sa hb.2.1 (show 4 * q + 3 < 16 by omega), bO_s, sa_eq, u1, u2, u3, u4, u5, u6, v0, v1, v2, v3, b32_x, Q1_twice, bP_s, sa_sa]
    have key : ∀ f : Nat → Int32, (∀ t, t < 16 → f t = if t < 4 * (q + 1) then gB (preF s) t else gB s t) → ∃ S', B_X1_unmixColumns_2 G F n (W.ad (.a c i k)) (Int32.ofNat (4 * q + 4)) (mem W (S.sa c i k f)) = some (mem W S') ∧ arF [(c, i, k)] S S' ∧ CL S' c i k (imixF s) := by
      intro f hf
      obtain ⟨S', g1, g2, g3⟩ := ih (q + 1) n (S.sa c i k f) (by omega) (by omega) (fun t ht => by rw [sa_eq]; exact hf t ht)
      exact ⟨S', g1, (arF_sa (by simp)).trans g2, g3⟩
    refine key _ ?_
    intro t ht
    have mf : ∀ d e, d < 4 → (d + 2) % 4 = e → gB (preF s) (4 * q + d) = b32 (s.getD (4 * q + d) 0 ^^^ tw (tw (s.getD (4 * q + d) 0 ^^^ s.getD (4 * q + e) 0))) := by
      intro d e hd he
      unfold preF
      rw [m16_g (by omega)]
      have n2 : nx (4 * q + d) 2 = 4 * q + e := by unfold nx; omega
      rw [n2]
    by_cases h4 : 4 * q + 4 ≤ t
    · rw [upd_ne (by omega), upd_ne (by omega), upd_ne (by omega), upd_ne (by omega), hs t ht, if_neg (by omega), if_neg (by omega)]
    · rw [if_pos (by omega)]
      by_cases h0 : t < 4 * q
      · rw [upd_ne (by omega), upd_ne (by omega), upd_ne (by omega), upd_ne (by omega), hs t ht, if_pos h0]
      · have : t = 4 * q ∨ t = 4 * q + 1 ∨ t = 4 * q + 2 ∨ t = 4 * q + 3 := by omega
        rcases this with rfl | rfl | rfl | rfl
        · rw [upd_ne (by omega), upd_ne (by omega), upd_ne (by omega), upd_eq]
          exact (mf 0 2 (by omega) rfl).symm
        · rw [upd_ne (by omega), upd_ne (by omega), upd_eq, mf 1 3 (by omega) rfl]
        · rw [upd_ne (by omega), upd_eq, mf 2 0 (by omega) rfl, UInt8.xor_comm (s.getD (4 * q) 0)]
          rfl
        · rw [upd_eq, mf 3 1 (by omega) rfl, UInt8.xor_comm (s.getD (4 * q + 1) 0)]
theorem Q1_unmix (X : Cx G F W) (hb : aB W c i k) (hs : CL S c i k s) : ∃ S', P_X1_unmixColumns G F (W.ad (.a c i k)) (mem W S) = some (mem W S') ∧ arF [(c, i, k)] S S' ∧ CL S' c i k (imixF s) := Q1_pre_l X hb 4 0 F S (by have := X.hF; omega) rfl (fun t ht => by rw [if_neg (by omega)]; exact hs t ht)
/-- what was turned is copied -/
theorem Q1_copy (h : isCi W) (hb : aB W c i k) (ht : CL S 1 0 3 s) : cpI G (mem W S) (W.ad (.a 1 0 3)) 0 (W.ad (.a c i k)) 0 16 = some (mem W (S.sa c i k (va_cpy ((S 1 0).a 3) ((S c i).a k) 0 0 16))) ∧ CL (S.sa c i k (va_cpy ((S 1 0).a 3) ((S c i).a k) 0 0 16)) c i k s := by
  refine ⟨cpI_a (p := 0) (q := 0) (m := 16) h.2.2.2.1 rfl hb.1 hb.2.1 (by omega) (by omega), fun t htt => ?_⟩
  rw [sa_eq, va_cpy, if_pos ⟨by omega, by omega⟩, Nat.zero_add, Nat.sub_zero]
  exact ht t htt
theorem Q1_fr {r8 : Nat → Nat → Int32 → mM → Option mM} {r : Nat} (X : Cx G F W) (h : isCi W) (hb : aB W c i k) (hk : KS S ks nr) (hr : r ≤ nr) (hs : CL S c i k s) : ∃ S', B_X1_forward_18 G F r8 F (W.ad (.o 1 0)) (W.ad (.a c i k)) (Int32.ofNat r) 0 (mem W S) = r8 (W.ad (.o 1 0)) (W.ad (.a c i k)) (Int32.ofNat (r + 1)) (mem W S') ∧ arF [(1, 0, 3), (c, i, k)] S S' ∧ CL S' c i k (frd ks nr r s) := by
  have hF := X.hF
  have hnr : nr ≤ 14 := by have := hk.2.1; omega
  have h3 := h.2.2.2.1
  obtain ⟨n', S1, e, h1, h2⟩ := loopS (fun n j S => B_X1_forward_18 G F r8 n (W.ad (.o 1 0)) (W.ad (.a c i k)) (Int32.ofNat r) (Int32.ofNat j) (mem W S)) (fun j S' => arF [(1, 0, 3)] S S' ∧ ∀ t, t < j → (S' 1 0).a 3 t = gB (subF s) t) 16 (by
    intro n j S1 hj hI
    obtain ⟨i1, i2⟩ := hI
    have hv : (S1 c i).a k ((j + 4 * (j % 4)) % 16) = b32 (s.getD ((j + 4 * (j % 4)) % 16) 0) := by
      rw [i1.1 c i k (nm1 (fun q => hb.2.2.2.2 q.symm)), hs _ (by omega), gB_D]
    show ∃ S', B_X1_forward_18 G F r8 (n + 1) _ _ _ _ _ = _ ∧ _
    rw [B_X1_forward_18, if_neg (by rw [lit 16]; exact fun q => absurd ((n_le (by omega) (by omega)).mp q) (by omega)), h3.g h.1 rfl, bO_s, perm_t j hj, hb.1.ld hb.2.1 (by omega), bO_s, hv, Q1_box X, bO_s, h3.sa rfl hj, bO_s, n_addL j 1]
    refine ⟨_, rfl, i1.trans (arF_sa (by simp)), fun t ht => ?_⟩
    rw [sa_eq]
    by_cases et : t = j
    · rw [et, upd_eq, subF, m16_g hj]
    · rw [upd_ne et]
      exact i2 t (by omega)) 16 0 F S (by omega) rfl ⟨arF.refl _ _, fun t ht => absurd ht (Nat.not_lt_zero _)⟩
  obtain ⟨c1, c2⟩ := Q1_copy (G := G) (S := S1) (s := subF s) h hb h2
  obtain ⟨S2, hS2⟩ : ∃ S2, S2 = S1.sa c i k (va_cpy ((S1 1 0).a 3) ((S1 c i).a k) 0 0 16) := ⟨_, rfl⟩
  rw [← hS2] at c1 c2
  have a2 : arF [(1, 0, 3), (c, i, k)] S S2 := by
    rw [hS2]
    exact (h1.mono (by simp)).trans (arF_sa (by simp))
  have nk : (1, 0, 1) ∉ [(1, 0, 3), (c, i, k)] := by
    intro q
    rcases List.mem_cons.mp q with q | q
    · exact absurd q (by decide)
    · exact nm1 hb.2.2.2.1 q
  have k2 := KS_ar a2 nk hk
  have step : ∀ (S3 : ST) (s3 : List UInt8), arF [(1, 0, 3), (c, i, k)] S S3 → CL S3 c i k s3 → s3 = (if r < nr then mixF (subF s) else subF s) → ∃ S', (bO (rcv (mem W S3) (W.ad (.o 1 0)) 1) fun _ => bO (P_X1_addRoundKey G F (W.ad (.o 1 0)) (W.ad (.a c i k)) (Int32.ofNat r) (mem W S3)) fun M79 => r8 (W.ad (.o 1 0)) (W.ad (.a c i k)) ((Int32.ofNat r) + 1) M79) = r8 (W.ad (.o 1 0)) (W.ad (.a c i k)) (Int32.ofNat (r + 1)) (mem W S') ∧ arF [(1, 0, 3), (c, i, k)] S S' ∧ CL S' c i k (frd ks nr r s) := by
    intro S3 s3 a3 c3 e3
    obtain ⟨S4, g1, g2, g3⟩ := Q1_ark (r := r) X h hb (KS_ar a3 nk hk) hr c3
    rw [rcv_m h.1, bO_s, g1, bO_s, n_addL r 1]
    rw [e3] at g3
    exact ⟨S4, rfl, a3.trans (g2.mono (by simp)), g3⟩
  have e' : B_X1_forward_18 G F r8 F (W.ad (.o 1 0)) (W.ad (.a c i k)) (Int32.ofNat r) 0 (mem W S) = B_X1_forward_18 G F r8 (n' + 1) (W.ad (.o 1 0)) (W.ad (.a c i k)) (Int32.ofNat r) 16 (mem W S1) := e
  rw [e', B_X1_forward_18, if_pos (by decide), h3.g h.1 rfl, bO_s, c1, bO_s, gfI_m h.1 rfl, bO_s, k2.1]
  by_cases hc : nr ≤ r
  · rw [if_pos ((n_le (by omega) (by omega)).mpr hc)]
    exact step S2 (subF s) a2 c2 (by rw [if_neg (by omega)])
  · rw [if_neg (fun q => hc ((n_le (by omega) (by omega)).mp q))]
    obtain ⟨S3, g1, g2, g3⟩ := Q1_mix (S := S2) (s := subF s) X hb (m16_len _) c2
    rw [g1, bO_s]
    exact step S3 _ (a2.trans (g2.mono (by simp))) g3 (by rw [if_pos (by omega)])
theorem Q1_fwd_l (X : Cx G F W) (h : isCi W) (hb : aB W c i k) : ∀ (m r n : Nat) (S : ST) (s : List UInt8), m < n → r + m = nr + 1 → KS S ks nr → CL S c i k s → ∃ S', B_X1_forward_8 G F n (W.ad (.o 1 0)) (W.ad (.a c i k)) (Int32.ofNat r) (mem W S) = some (mem W S') ∧ arF [(1, 0, 3), (c, i, k)] S S' ∧ CL S' c i k (fwdL ks nr m r s) := by
  have nk : (1, 0, 1) ∉ [(1, 0, 3), (c, i, k)] := by
    intro q
    rcases List.mem_cons.mp q with q | q
    · exact absurd q (by decide)
    · exact nm1 hb.2.2.2.1 q
  intro m
  induction m with
  | zero =>
    intro r n S s hn hr hk hs
    have hnr : nr ≤ 14 := by have := hk.2.1; omega
    obtain ⟨n, rfl⟩ : ∃ q, n = q + 1 := ⟨n - 1, by omega⟩
    rw [B_X1_forward_8, gfI_m h.1 rfl, bO_s, hk.1, if_pos ((n_lt (by omega) (by omega)).mpr (by omega))]
    exact ⟨S, rfl, arF.refl _ _, hs⟩
  | succ m ih =>
    intro r n S s hn hr hk hs
    have hnr : nr ≤ 14 := by have := hk.2.1; omega
    obtain ⟨n, rfl⟩ : ∃ q, n = q + 1 := ⟨n - 1, by omega⟩
    rw [B_X1_forward_8, gfI_m h.1 rfl, bO_s, hk.1, if_neg (fun q => absurd ((n_lt (by omega) (by omega)).mp q) (by omega))]
    obtain ⟨S1, g1, g2, g3⟩ := Q1_fr (r8 := B_X1_forward_8 G F n) (r := r) X h hb hk (by omega) hs
    rw [g1]
    obtain ⟨S2, g4, g5, g6⟩ := ih (r + 1) n S1 _ (by omega) (by omega) (KS_ar g2 nk hk) g3
    exact ⟨S2, g4, g2.trans g5, g6⟩
theorem Q1_forward (X : Cx G F W) (h : isCi W) (hb : aB W c i k) (hk : KS S ks nr) (hs : CL S c i k s) : ∃ S', P_X1_forward G F (W.ad (.o 1 0)) (W.ad (.a c i k)) (mem W S) = some (mem W S') ∧ arF [(1, 0, 3), (c, i, k)] S S' ∧ CL S' c i k (fwd ks nr s) := by
  have hF := X.hF
  have hnr : nr ≤ 14 := by have := hk.2.1; omega
  unfold P_X1_forward
  obtain ⟨S1, g1, g2, g3⟩ := Q1_ark (r := 0) X h hb hk (by omega) hs
  have g1' : P_X1_addRoundKey G F (W.ad (.o 1 0)) (W.ad (.a c i k)) 0 (mem W S) = some (mem W S1) := g1
  rw [rcv_m h.1, bO_s, g1', bO_s]
  obtain ⟨S2, g4, g5, g6⟩ := Q1_fwd_l X h hb nr 1 F S1 _ (by omega) (by omega) (KS_ar g2 (nm1 hb.2.2.2.1) hk) g3
  exact ⟨S2, g4, (g2.mono (by simp)).trans g5, g6⟩
theorem Q1_br {r5 : Nat → Nat → Int32 → mM → Option mM} {r : Nat} (X : Cx G F W) (h : isCi W) (hb : aB W c i k) (hI : IB S) (hs : CL S c i k s) : ∃ S', B_X1_backward_30 G F r5 F (W.ad (.o 1 0)) (W.ad (.a c i k)) (Int32.ofNat (r + 1)) 0 (mem W S) = r5 (W.ad (.o 1 0)) (W.ad (.a c i k)) (Int32.ofNat r) (mem W S') ∧ arF [(1, 0, 3), (c, i, k)] S S' ∧ CL S' c i k (isubF s) := by
  have hF := X.hF
  have h3 := h.2.2.2.1
  obtain ⟨n', S1, e, h1, h2⟩ := loopS (fun n j S => B_X1_backward_30 G F r5 n (W.ad (.o 1 0)) (W.ad (.a c i k)) (Int32.ofNat (r + 1)) (Int32.ofNat j) (mem W S)) (fun j S' => arF [(1, 0, 3)] S S' ∧ ∀ t, t < j → (S' 1 0).a 3 ((t + 4 * (t % 4)) % 16) = b32 (ibx (s.getD t 0))) 16 (by
    intro n j S1 hj hI1
    obtain ⟨i1, i2⟩ := hI1
    have hv : (S1 c i).a k j = (Int32.ofNat (s.getD j 0).toNat) := by
      rw [i1.1 c i k (nm1 (fun q => hb.2.2.2.2 q.symm)), hs _ (by omega), gB_D]
      rfl
    have hI2 := IB_ar i1 (by decide) hI (s.getD j 0)
    show ∃ S', B_X1_backward_30 G F r5 (n + 1) _ _ _ _ _ = _ ∧ _
    rw [B_X1_backward_30, if_neg (by rw [lit 16]; exact fun q => absurd ((n_le (by omega) (by omega)).mp q) (by omega)), h3.g h.1 rfl, bO_s, h.2.1.g h.1 rfl, bO_s, hb.1.ld hb.2.1 hj, bO_s, hv, h.2.1.ld rfl (UInt8.toNat_lt _), bO_s, hI2, perm_t j hj, h3.sa rfl (by omega), bO_s, n_addL j 1]
    refine ⟨_, rfl, i1.trans (arF_sa (by simp)), fun t ht => ?_⟩
    rw [sa_eq]
    by_cases et : t = j
    · rw [et, upd_eq]
    · rw [upd_ne (by omega)]
      exact i2 t (by omega)) 16 0 F S (by omega) rfl ⟨arF.refl _ _, fun t ht => absurd ht (Nat.not_lt_zero _)⟩
  have h2' : CL S1 1 0 3 (isubF s) := by
    intro p hp
    have := h2 ((p + 12 * (p % 4)) % 16) (by omega)
    rw [show ((p + 12 * (p % 4)) % 16 + 4 * (((p + 12 * (p % 4)) % 16) % 4)) % 16 = p by omega] at this
    rw [this, isubF, m16_g hp]
  obtain ⟨c1, c2⟩ := Q1_copy (G := G) (S := S1) (s := isubF s) h hb h2'
  have e' : B_X1_backward_30 G F r5 F (W.ad (.o 1 0)) (W.ad (.a c i k)) (Int32.ofNat (r + 1)) 0 (mem W S) = B_X1_backward_30 G F r5 (n' + 1) (W.ad (.o 1 0)) (W.ad (.a c i k)) (Int32.ofNat (r + 1)) 16 (mem W S1) := e
  rw [e', B_X1_backward_30, if_pos (by decide), h3.g h.1 rfl, bO_s, c1, bO_s, n_dec]
  exact ⟨_, rfl, (h1.mono (by simp)).trans (arF_sa (by simp)), c2⟩
theorem Q1_bck_l (X : Cx G F W) (h : isCi W) (hb : aB W c i k) : ∀ (r n : Nat) (S : ST) (s : List UInt8), r < n → r ≤ nr → KS S ks nr → IB S → CL S c i k s → ∃ S', B_X1_backward_5 G F n (W.ad (.o 1 0)) (W.ad (.a c i k)) (Int32.ofNat r) (mem W S) = some (mem W S') ∧ arF [(1, 0, 3), (c, i, k)] S S' ∧ CL S' c i k (cbL ks nr r s) := by
  have nk : ∀ x, x ≠ (1, 0, 3) → (c, i, k) ≠ x → x ∉ [(1, 0, 3), (c, i, k)] := by
    intro x hx h2 q
    rcases List.mem_cons.mp q with q | q
    · exact hx q
    · exact nm1 h2 q
  intro r
  induction r with
  | zero =>
    intro n S s hn hr hk hI hs
    obtain ⟨n, rfl⟩ : ∃ q, n = q + 1 := ⟨n - 1, by omega⟩
    obtain ⟨S1, g1, g2, g3⟩ := Q1_ark (r := 0) X h hb hk (by omega) hs
    have g1' : P_X1_addRoundKey G F (W.ad (.o 1 0)) (W.ad (.a c i k)) 0 (mem W S) = some (mem W S1) := g1
    rw [B_X1_backward_5, if_pos (by decide), rcv_m h.1, bO_s, g1', bO_s]
    exact ⟨S1, rfl, g2.mono (by simp), g3⟩
  | succ r ih =>
    intro n S s hn hr hk hI hs
    have hnr : nr ≤ 14 := by have := hk.2.1; omega
    obtain ⟨n, rfl⟩ : ∃ q, n = q + 1 := ⟨n - 1, by omega⟩
    obtain ⟨S1, g1, g2, g3⟩ := Q1_ark (r := r + 1) X h hb hk hr hs
    rw [B_X1_backward_5, if_neg (by rw [lit 1]; exact fun q => absurd ((n_lt (by omega) (by omega)).mp q) (by omega)), rcv_m h.1, bO_s, g1, bO_s, gfI_m h.1 rfl, bO_s]
    have k1 := KS_ar g2 (nm1 hb.2.2.2.1) hk
    have b1 := IB_ar g2 (nm1 hb.2.2.1) hI
    rw [k1.1]
    have fin : ∀ (S2 : ST) (s2 : List UInt8), arF [(c, i, k)] S S2 → CL S2 c i k s2 → s2 = (if r + 1 < nr then imixF (arkF ks (r + 1) s) else arkF ks (r + 1) s) → ∃ S', B_X1_backward_30 G F (B_X1_backward_5 G F n) F (W.ad (.o 1 0)) (W.ad (.a c i k)) (Int32.ofNat (r + 1)) 0 (mem W S2) = some (mem W S') ∧ arF [(1, 0, 3), (c, i, k)] S S' ∧ CL S' c i k (cbL ks nr (r + 1) s) := by
      intro S2 s2 a2 c2 e2
      obtain ⟨S3, g4, g5, g6⟩ := Q1_br (r5 := B_X1_backward_5 G F n) (r := r) X h hb (IB_ar a2 (nm1 hb.2.2.1) hI) c2
      rw [g4]
      have a3 : arF [(1, 0, 3), (c, i, k)] S S3 := (a2.mono (by simp)).trans g5
      obtain ⟨S4, g7, g8, g9⟩ := ih n S3 _ (by omega) (by omega) (KS_ar a3 (nk _ (by decide) hb.2.2.2.1) hk) (IB_ar a3 (nk _ (by decide) hb.2.2.1) hI) g6
      refine ⟨S4, g7, a3.trans g8, ?_⟩
      rw [e2] at g9
      exact g9
    by_cases hc : nr ≤ r + 1
    · rw [if_pos ((n_le (by omega) (by omega)).mpr hc)]
      exact fin S1 _ g2 g3 (by rw [if_neg (by omega)])
    · rw [if_neg (fun q => hc ((n_le (by omega) (by omega)).mp q))]
      obtain ⟨S2, g4, g5, g6⟩ := Q1_unmix X hb g3
      rw [g4, bO_s]
      exact fin S2 _ (g2.trans g5) g6 (by rw [if_pos (by omega)])
theorem Q1_backward (X : Cx G F W) (h : isCi W) (hb : aB W c i k) (hk : KS S ks nr) (hI : IB S) (hs : CL S c i k s) : ∃ S', P_X1_backward G F (W.ad (.o 1 0)) (W.ad (.a c i k)) (mem W S) = some (mem W S') ∧ arF [(1, 0, 3), (c, i, k)] S S' ∧ CL S' c i k (bck ks nr s) := by
  have hF := X.hF
  have hnr := hk.2.1
  unfold P_X1_backward
  rw [gfI_m h.1 rfl, bO_s, hk.1]
  obtain ⟨S1, g1, g2, g3⟩ := Q1_bck_l X h hb nr F S s (by omega) (by omega) hk hI hs
  rw [cbL_bck _ _ _ (by omega)] at g3
  exact ⟨S1, g1, g2, g3⟩
end AES2
