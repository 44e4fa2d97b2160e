/-! THE MODEL'S wrap -/
theorem qp_mod {q p i : Nat} (h : i < p) : (q * p + i) % p = i := by
  rw [Nat.mul_comm, Nat.mul_add_mod, Nat.mod_eq_of_lt h]
theorem a6_b : (-90 : Int32).toInt8.toInt32 = sb 166 := by decide
section MWRAP2
variable {W : WR} {G : mG} {F : Nat} {ks : Nat → UInt8} {nr p : Nat}
theorem QM_wr_i {r43 : Nat → Int32 → Int32 → Int32 → mM → Option (Int32 × mM)} {q : Nat} (X : Cx G F W) (h : isM W) (hp : 1 ≤ p) (hp8 : p ≤ 8) (hq : q < 6) : ∀ (m i n : Nat) (S : ST) (w : Nat → UInt8), m < n → i + m = p → mBX S → mKS S ks nr → MW S p w → ∃ S', B_X13_wrapUp_54 G F r43 n (W.ad (.o 13 0)) (Int32.ofNat (8 * p)) (Int32.ofNat (q * p + i)) (Int32.ofNat q) (Int32.ofNat (8 + 8 * i)) (mem W S) = r43 (W.ad (.o 13 0)) (Int32.ofNat (8 * p)) (Int32.ofNat (q * p + p)) (Int32.ofNat (q + 1)) (mem W S') ∧ arF L4 S S' ∧ MW S' p (wIt ks nr p m (q * p + i) w) := by
  have hqp : q * p ≤ 40 := by
    have : q * p ≤ 5 * 8 := Nat.mul_le_mul (by omega) hp8
    omega
  intro m
  induction m with
  | zero =>
    intro i n S w hn hi hbx hk hw
    obtain ⟨n, rfl⟩ : ∃ q, n = q + 1 := ⟨n - 1, by omega⟩
    obtain rfl : i = p := by omega
    rw [B_X13_wrapUp_54, if_pos ((n_lt (by omega) (by omega)).mpr (by omega)), n_addL q 1]
    exact ⟨S, rfl, arF.refl _ _, hw⟩
  | succ m ih =>
    intro i n S w hn hi hbx hk hw
    obtain ⟨n, rfl⟩ : ∃ q, n = q + 1 := ⟨n - 1, by omega⟩
    rw [B_X13_wrapUp_54, if_neg (fun q => absurd ((n_lt (by omega) (by omega)).mp q) (by omega))]
    obtain ⟨S1, g1, a1, w1⟩ := QM_wr_s (S := S) (w := w) (t := q * p + i) (i := i) (K := fun M155 => B_X13_wrapUp_54 G F r43 n (W.ad (.o 13 0)) (Int32.ofNat (8 * p)) ((Int32.ofNat (q * p + i)) + 1) (Int32.ofNat q) ((Int32.ofNat (8 + 8 * i)) + 8) M155) X h hp hp8 (by omega) (qp_mod (by omega)) (by omega) hbx hk hw
    obtain ⟨S2, g2, a2, w2⟩ := ih (i + 1) n S1 _ (by omega) (by omega) (mBX_ar a1 (by decide) (by decide) hbx) (mKS_ar a1 (by decide) hk) w1
    refine ⟨S2, g1.trans ?_, a1.trans a2, w2⟩
    show B_X13_wrapUp_54 G F r43 n (W.ad (.o 13 0)) (Int32.ofNat (8 * p)) ((Int32.ofNat (q * p + i)) + 1) (Int32.ofNat q) ((Int32.ofNat (8 + 8 * i)) + 8) (mem W S1) = _
    rw [n_addL _ 1, n_addL _ 8, show 8 + 8 * i + 8 = 8 + 8 * (i + 1) by omega]
    exact g2
theorem QM_wr_q (X : Cx G F W) (h : isM W) (hp : 1 ≤ p) (hp8 : p ≤ 8) : ∀ (m q n : Nat) (S : ST) (w : Nat → UInt8), m < n → q + m = 6 → mBX S → mKS S ks nr → MW S p w → ∃ S', B_X13_wrapUp_43 G F n (W.ad (.o 13 0)) (Int32.ofNat (8 * p)) (Int32.ofNat (q * p)) (Int32.ofNat q) (mem W S) = some ((Int32.ofNat (8 * p + 8)), mem W S') ∧ arF L4 S S' ∧ MW S' p (wIt ks nr p (m * p) (q * p) w) := by
  have hF := X.hF
  intro m
  induction m with
  | zero =>
    intro q n S w hn hq hbx hk hw
    obtain ⟨n, rfl⟩ : ∃ q, n = q + 1 := ⟨n - 1, by omega⟩
    obtain rfl : q = 6 := by omega
    rw [B_X13_wrapUp_43, if_pos (by decide), n_addL _ 8, Nat.zero_mul]
    exact ⟨S, rfl, arF.refl _ _, hw⟩
  | succ m ih =>
    intro q n S w hn hq hbx hk hw
    obtain ⟨n, rfl⟩ : ∃ q, n = q + 1 := ⟨n - 1, by omega⟩
    rw [B_X13_wrapUp_43, if_neg (by rw [lit 6]; exact fun q => absurd ((n_le (by omega) (by omega)).mp q) (by omega))]
    obtain ⟨S1, g1, a1, w1⟩ := QM_wr_i (r43 := B_X13_wrapUp_43 G F n) (q := q) X h hp hp8 (by omega) p 0 F S w (by omega) (by omega) hbx hk hw
    have g1' : B_X13_wrapUp_54 G F (B_X13_wrapUp_43 G F n) F (W.ad (.o 13 0)) (Int32.ofNat (8 * p)) (Int32.ofNat (q * p)) (Int32.ofNat q) 8 (mem W S) = _ := g1
    rw [g1', ← Nat.succ_mul]
    obtain ⟨S2, g2, a2, w2⟩ := ih (q + 1) n S1 _ (by omega) (by omega) (mBX_ar a1 (by decide) (by decide) hbx) (mKS_ar a1 (by decide) hk) w1
    refine ⟨S2, g2, a1.trans a2, ?_⟩
    rw [Nat.succ_mul, Nat.add_comm (m * p) p, wIt_add]
    rw [Nat.succ_mul] at w2
    exact w2
theorem QM_wrapUp {S : ST} {k pos : Nat} {β ω : Nat → UInt8} {u key : List UInt8} (X : Cx G F W) (h : isM W) (q : (kdA 13)[k]? = some 1) (hk48 : k ≠ 48) (hl : mLen k < 2 ^ 30) (hb : pos + u.length ≤ mLen k) (hβ : mB (S 13 0) k β) (hu : rdB β pos u.length = u) (hm : mayW u.length = true) (hbx : mBX S) (hks : mKS S (ksF (key.length / 4) key) (key.length / 4 + 6)) (hω : mB (S 13 0) 48 ω) (h1 : ∃ δ, mB (S 13 0) 47 δ) : ∃ S' γ, P_X13_wrapUp G F (W.ad (.o 13 0)) (W.ad (.a 13 0 k)) (Int32.ofNat pos) (Int32.ofNat u.length) (mem W S) = some ((Int32.ofNat (u.length + 8)), mem W S') ∧ arF L4 S S' ∧ mB (S' 13 0) 48 γ ∧ rdB γ 0 (u.length + 8) = wrapF key u ∧ ∃ δ, mB (S' 13 0) 47 δ := by
  have hF := X.hF
  have hm' : 16 ≤ u.length ∧ u.length ≤ 64 ∧ u.length % 8 = 0 := of_decide_eq_true hm
  obtain ⟨p, hp⟩ : ∃ p, u.length = 8 * p := ⟨u.length / 8, by omega⟩
  have hp8 : u.length / 8 = p := by omega
  obtain ⟨n', S1, e, a1, ω1, b1, z1⟩ := loopS (fun n j S => B_X13_wrapUp_3 G F n (W.ad (.o 13 0)) (W.ad (.a 13 0 k)) (Int32.ofNat pos) (Int32.ofNat u.length) (Int32.ofNat j) (mem W S)) (fun j S' => arF [(13, 0, 48)] S S' ∧ ∃ ω', mB (S' 13 0) 48 ω' ∧ ∀ t, t < j → ω' t = 166) 8 (by
    intro n j S1 hj hI
    obtain ⟨i1, ω', i2, i3⟩ := hI
    show ∃ S', B_X13_wrapUp_3 G F (n + 1) _ _ _ _ _ _ = _ ∧ _
    rw [B_X13_wrapUp_3, if_neg (by rw [lit 8]; exact fun q => absurd ((n_le (by omega) (by omega)).mp q) (by omega)), h.gR 48 rfl (by decide), bO_s, a6_b, h.sB rfl i2 (show j < 80 by omega) (by decide), bO_s, n_addL j 1]
    refine ⟨S1.sa 13 0 48 (fun j' => sb (va_up ω' j 166 j')), rfl, i1.trans (arF_sa (by simp)), va_up ω' j 166, mBs_eq _ _ _, fun t ht => ?_⟩
    unfold va_up
    by_cases et : t = j
    · rw [if_pos et]
    · rw [if_neg et]
      exact i3 t (by omega)) 8 0 F S (by omega) rfl ⟨arF.refl _ _, ω, hω, fun t ht => absurd ht (Nat.not_lt_zero _)⟩
  have e' : B_X13_wrapUp_3 G F F (W.ad (.o 13 0)) (W.ad (.a 13 0 k)) (Int32.ofNat pos) (Int32.ofNat u.length) 0 (mem W S) = B_X13_wrapUp_3 G F (n' + 1) (W.ad (.o 13 0)) (W.ad (.a 13 0 k)) (Int32.ofNat pos) (Int32.ofNat u.length) 8 (mem W S1) := e
  obtain ⟨S2, hS2⟩ : ∃ S2, S2 = S1.sa 13 0 48 (fun j => sb (wrB ω1 8 (rdB β pos u.length) j)) := ⟨_, rfl⟩
  have mv : P_X13_move G F (W.ad (.a 13 0 k)) (Int32.ofNat pos) (W.ad (.a 13 0 48)) 8 (Int32.ofNat u.length) (mem W S1) = some (mem W S2) := by
    rw [hS2]
    exact QM_move (k1 := k) (k2 := 48) (p1 := pos) (p2 := 8) (cnt := u.length) X h q rfl hk48 hl (by decide) hb (by show 8 + u.length ≤ 80; omega) (by omega) (mB_ar a1 (by simpa using hk48) hβ) b1
  have a2 : arF L4 S S2 := by rw [hS2]; exact (a1.mono (by decide)).trans (arF_sa (by decide))
  unfold P_X13_wrapUp
  rw [e', B_X13_wrapUp_3, if_pos (by decide), h.gR 48 rfl (by decide), bO_s, mv, bO_s]
  have w2 : MW S2 p (w0F u) := by
    refine ⟨⟨wrB ω1 8 (rdB β pos u.length), by rw [hS2]; exact mBs_eq _ _ _, fun j hj => ?_⟩, ?_⟩
    · rw [hu, wrB, w0F]
      by_cases h8 : j < 8
      · rw [if_neg (by omega), if_pos h8]
        exact z1 j h8
      · rw [if_pos ⟨by omega, by omega⟩, if_neg h8]
    · obtain ⟨δ, h1⟩ := h1
      exact ⟨δ, by rw [hS2]; exact mBs_ne (by decide) (mB_ar a1 (by decide) h1)⟩
  obtain ⟨S3, g3, a3, ⟨γ, c3, d3⟩, e3⟩ := QM_wr_q (p := p) X h (by omega) (by omega) 6 0 F S2 (w0F u) (by omega) rfl (mBX_ar a2 (by decide) (by decide) hbx) (mKS_ar a2 (by decide) hks) w2
  rw [Nat.zero_mul, ← hp] at g3
  refine ⟨S3, γ, g3, a2.trans a3, c3, ?_, e3⟩
  rw [Nat.zero_mul] at d3
  rw [rdB_map, wrapF, hp8]
  unfold mapN
  apply List.map_congr_left
  intro j hj
  exact d3 j (by have := List.mem_range.mp hj; omega)
theorem m8_t : ∀ n, n ≤ 8192 → ((Int32.ofNat n) - (Int32.ofNat n) / (8 : Int32) * (8 : Int32)) = (Int32.ofNat (n % 8)) := by
  intro n hn
  have := n_rem (a := n) (b := 8) (by omega) (by omega) (by omega)
  unfold rmI at this
  rw [if_neg (by decide)] at this
  exact Option.some.inj this
theorem QM_wrap {S : ST} {rows : Nat → List UInt8} {t : List UInt8} {x y : Int32} (X : Cx G F W) (h : isM W) (hbx : mBX S) (ho : mOut (S 13 0) t) (hR : mRows (S 13 0) rows) (h1 : ∃ β, mB (S 13 0) 47 β) (h48 : ∃ β, mB (S 13 0) 48 β) : ∃ o, P_X13_wrap G F (W.ad (.o 13 0)) x y (mem W S) = some (match wrapC rows x y with | some u => (Int32.ofNat u.length) | none => -2, mem W (S.so 13 0 o)) ∧ agr [44, 5] [] [43, 45, 46, 47, 48, 4] [] (S 13 0) o ∧ (∃ β, mB o 47 β) ∧ (∃ β, mB o 48 β) ∧ mOut o (match wrapC rows x y with | some u => u | none => t) := by
  have hR' := hR
  obtain ⟨β, r1, r2⟩ := hR
  obtain ⟨ω, h48⟩ := h48
  have bad : ∃ o, some ((-2 : Int32), mem W S) = some ((-2 : Int32), mem W (S.so 13 0 o)) ∧ agr [44, 5] [] [43, 45, 46, 47, 48, 4] [] (S 13 0) o ∧ (∃ β, mB o 47 β) ∧ (∃ β, mB o 48 β) ∧ mOut o t := ⟨S 13 0, by rw [so_self], agr.refl _ _ _ _ _, h1, ⟨ω, h48⟩, ho⟩
  unfold P_X13_wrap wrapC
  rw [rcv_m h.lo, bO_s, QM_isCipherKey h hR', bP_s]
  cases hk : isCK rows x
  · rw [if_pos (by rfl)]
    exact bad
  rw [if_neg (by decide), Q13_isRow, bP_s]
  obtain ⟨rk, hrk, rfl, hkl⟩ := isCK_i hk
  rcases isr_cases y with hy | ⟨r, hr, rfl, hy⟩
  · rw [hy, if_pos (by rfl)]
    exact bad
  obtain ⟨k3, k4, k5⟩ := r2 rk hrk
  obtain ⟨r3, r4, r5⟩ := r2 r hr
  rw [hy, if_neg (by decide), h.gR 3 rfl (by decide), bO_s, h.aN rfl (show r < 8 from hr) (by decide), bO_s, r3, n_at (by omega), n_at (by omega)]
  by_cases hm : mayW (rows r).length = true
  · have hm' : 16 ≤ (rows r).length ∧ (rows r).length ≤ 64 ∧ (rows r).length % 8 = 0 := of_decide_eq_true hm
    rw [hm, if_neg (by rw [lit 16]; exact fun q => absurd ((n_lt (by omega) (by omega)).mp q) (by omega)), bO_s, h.aN rfl (show r < 8 from hr) (by decide), bO_s, r3, if_neg (by rw [lit 64]; exact fun q => absurd ((n_lt (by omega) (by omega)).mp q) (by omega)), bO_s, h.aN rfl (show r < 8 from hr) (by decide), bO_s, r3, m8_t _ r4, if_pos (show (Int32.ofNat ((rows r).length % 8)) = 0 by rw [hm'.2.2]; rfl), h.gR 2 rfl (by decide), bO_s, bO_s, h.aN rfl (show rk < 8 from hrk) (by decide), bO_s, rcv_m h.lo, bO_s, k3, show (8192 : Int32) * (Int32.ofNat rk) = (Int32.ofNat (8192 * rk)) from n_mul 8192 rk]
    obtain ⟨o1, g1, a1, s1⟩ := QM_setKey (S := S) (k := 2) (p := 8192 * rk) (n := (rows rk).length) X h rfl (by decide) hkl (by show _ ≤ 65536; omega) r1 hbx
    rw [k5] at s1
    have hbx1 : mBX (S.so 13 0 o1) := by
      have := a1.mBX (by decide) (by decide) hbx
      exact ⟨fun x => by rw [so_eq]; exact this.1 x, fun x => by rw [so_eq]; exact this.2 x⟩
    obtain ⟨δ, h1⟩ := h1
    obtain ⟨S2, γ, g2, a2, b2, e2, δ2, d2⟩ := QM_wrapUp (S := S.so 13 0 o1) (k := 2) (pos := 8192 * r) (u := rows r) (key := rows rk) X h rfl (by decide) (by decide) (by show _ ≤ 65536; omega) (by rw [so_eq]; exact a1.mB r1 (by decide)) r5 hm hbx1 s1 (by rw [so_eq]; exact a1.mB h48 (by decide)) ⟨δ, by rw [so_eq]; exact a1.mB h1 (by decide)⟩
    rw [g1, bO_s, h.gR 48 rfl (by decide), bO_s, h.gR 2 rfl (by decide), bO_s, h.gR 3 rfl (by decide), bO_s, h.aN rfl (show r < 8 from hr) (by decide), bO_s, rcv_m h.lo, bO_s, so_eq, a1.2.2.1 3 (by decide), r3, show (8192 : Int32) * (Int32.ofNat r) = (Int32.ofNat (8192 * r)) from n_mul 8192 r, g2, bP_s, rcv_m h.lo, bO_s]
    have ag : agr [44, 5] [] [43, 45, 46, 47, 48] [] (S 13 0) (S2 13 0) := by
      have := a2.ag 13 0 [45, 46, 47, 48] (by decide)
      rw [so_eq] at this
      exact (a1.mono (by decide) (by decide) (by decide) (by decide)).trans (this.mono (by decide) (by decide) (by decide) (by decide))
    have f2 : S2 = S.so 13 0 (S2 13 0) := ((fr_so (by simp)).trans (a2.fr (L' := [(13, 0)]) (by decide))).one
    obtain ⟨o1', o2, β4, o4, o5⟩ := ho
    have tl := QM_tell (S := S2) (k := 48) (p := 0) (cnt := (rows r).length + 8) X h rfl (by decide) (by decide) (by show 0 + _ ≤ 80; omega) (by omega) b2 (ag.mB o4 (by decide))
    rw [e2] at tl
    have tl' : P_X13_tell G F (W.ad (.o 13 0)) (W.ad (.a 13 0 48)) 0 (Int32.ofNat ((rows r).length + 8)) (mem W S2) = _ := tl
    rw [tl', bP_s]
    have hwl := wrapF_len (rows rk) (rows r)
    simp only [Bool.and_self, if_true]
    rw [f2, so_so, so_eq]
    refine ⟨_, by rw [hwl], ((ag.mono (by decide) (by decide) (by decide) (by decide)).trans (agr_sA (by decide))).trans (agr_sf (by decide)), ⟨δ2, mB_sA' (by decide) d2⟩, ⟨γ, mB_sA' (by decide) b2⟩, by rw [sf_f, if_pos rfl, hwl], by omega, _, mB_sA _ _ _, rdB_wrB _ 0 _⟩
  · have hmf : mayW (rows r).length = false := by
      cases hq : mayW (rows r).length
      · rfl
      · exact absurd hq hm
    have hm' : ¬ (16 ≤ (rows r).length ∧ (rows r).length ≤ 64 ∧ (rows r).length % 8 = 0) := of_decide_eq_false hmf
    rw [hmf]
    simp only [Bool.and_false, Bool.false_eq_true, if_false]
    by_cases c1 : (rows r).length < 16
    · rw [if_pos (by rw [lit 16]; exact (n_lt (by omega) (by omega)).mpr c1)]
      exact bad
    rw [if_neg (by rw [lit 16]; exact fun q => c1 ((n_lt (by omega) (by omega)).mp q)), bO_s, h.aN rfl (show r < 8 from hr) (by decide), bO_s, r3]
    by_cases c2 : 64 < (rows r).length
    · rw [if_pos (by rw [lit 64]; exact (n_lt (by omega) (by omega)).mpr c2)]
      exact bad
    rw [if_neg (by rw [lit 64]; exact fun q => c2 ((n_lt (by omega) (by omega)).mp q)), bO_s, h.aN rfl (show r < 8 from hr) (by decide), bO_s, r3, m8_t _ r4, if_neg (show ¬ (Int32.ofNat ((rows r).length % 8)) = 0 by rw [z32]; exact fun q => absurd ((n_eq (by omega) (by omega)).mp q) (by omega))]
    exact bad
end MWRAP2
