/-! saltOut: the model -/
section MSO
variable {W : WR} {G : mG} {F : Nat} {S : ST}
theorem oM_dm {o : Ob} {msg : List UInt8} (X : Cx G F W) (h : isM W) (hd : mDig o) (hm : mMsg o msg) : ∃ o' γ, P_X13_digestMessage G F (W.ad (.o 13 0)) (mem W (S.so 13 0 o)) = some (mem W (S.so 13 0 o')) ∧ mB o' 35 γ ∧ rdB γ 0 32 = sha false msg ∧ mDig o' ∧ agr [37] [] [36, 31, 32, 35] [33, 34] o o' := by
  obtain ⟨o', γ, g, b, d, a⟩ := QM_digestMessage (G := G) (F := F) (S := S.so 13 0 o) X h (by rw [so_eq]; exact hd) (by rw [so_eq]; exact hm)
  rw [so_so] at g
  rw [so_eq] at a
  refine ⟨o', wrB γ 0 (sha false msg), g, b, ?_, d, a⟩
  have := rdB_wrB γ 0 (sha false msg)
  rw [sha_len] at this
  exact this
abbrev soL : List Nat := [36, 31, 32, 35, 81, 82]
theorem oM_saltEnd {o : Ob} {kx p n e bits fuel : Nat} {z salt : List UInt8} {χ β γ : Nat → UInt8} (X : Cx G F W) (h : isM W) (hd : mDig o) (qx : (kdA 13)[kx]? = some 1) (nx : kx ∉ soL) (lx : mLen kx < 2 ^ 30) (hp : p + 32 ≤ mLen kx) (bx : mB o kx χ) (rx : rdB χ p 32 = salt) (he : 66 ≤ e) (heb : e = (bits + 7) / 8) (hen : e ≤ n) (hn : n ≤ 128) (b35 : mB o 35 γ) (r35 : rdB γ 0 32 = z) (h81 : ∃ β, mB o 81 β) (b82 : mB o 82 β) (z82 : ∀ j, j < n → β j = 0) : ∃ o' β', B_X13_saltOut_23 G F (fuel + 1) (W.ad (.o 13 0)) (W.ad (.a 13 0 kx)) (Int32.ofNat p) (Int32.ofNat bits) (Int32.ofNat n) (Int32.ofNat e) (Int32.ofNat (n - e)) (Int32.ofNat n) (mem W (S.so 13 0 o)) = some (mem W (S.so 13 0 o')) ∧ mB o' 82 β' ∧ rdB β' (n - e) e = psF z salt bits ∧ (∀ j, j < n - e → β' j = 0) ∧ mDig o' ∧ (∃ β, mB o' 81 β) ∧ agr [37] [] soL [33, 34] o o' := by
  obtain ⟨β81, h81⟩ := h81
  have sl : salt.length = 32 := by rw [← rx, rdB_len]
  have hl := sltF_len z salt
  -- the digest to its place
  have v1 := oM_move (G := G) (F := F) (S := S) (o := o) (k1 := 35) (k2 := 81) (p1 := 0) (p2 := 0) (cnt := 32) X h rfl rfl (by decide) (by decide) (by decide) (by decide) (by decide) (by decide) b35 h81
  rw [r35] at v1
  have zl : z.length = 32 := by rw [← r35, rdB_len]
  obtain ⟨o1, ho1⟩ : ∃ o1, o1 = o.sA 81 (fun j => sb (wrB β81 0 z j)) := ⟨_, rfl⟩
  rw [← ho1] at v1
  have v1 : P_X13_move G F (W.ad (.a 13 0 35)) 0 (W.ad (.a 13 0 81)) 0 32 (mem W (S.so 13 0 o)) = _ := v1
  have a1 : agr [37] [] soL [33, 34] o o1 := by rw [ho1]; exact agr_sA (by simp [soL])
  have as1 : agr [] [] [81] [] o o1 := by rw [ho1]; exact agr_sA (by simp)
  have c81 : mB o1 81 (wrB β81 0 z) := by rw [ho1]; exact mB_sA _ _ _
  have r81 : rdB (wrB β81 0 z) 0 32 = z := by
    have := rdB_wrB β81 0 z
    rw [zl] at this
    exact this
  have nx1 : kx ∉ [36, 31, 32, 35] := fun q => nx (by simp [soL] at q ⊢; omega)
  have nk : kx ≠ 81 ∧ kx ≠ 82 := ⟨fun q => nx (by simp [soL, q]), fun q => nx (by simp [soL, q])⟩
  obtain ⟨o2, o3, o4, o5, o6, γ', s1, s2, s3, s4, s5, s6, s7, s8⟩ := oM_salted (G := G) (F := F) (S := S) (o := o1) X h (as1.mDig hd (by decide)) c81 r81 qx nx1 lx hp (as1.mB bx (by simp; exact nk.1)) rx
  have a6 : agr [37] [] soL [33, 34] o o6 := a1.trans (s8.mono (by simp) (by simp) (by simp [soL]) (by simp))
  have b82' : mB o6 82 β := s8.mB (as1.mB b82 (by decide)) (by decide)
  have bx6 : mB o6 kx χ := s8.mB (as1.mB bx (by simp; exact nk.1)) nx1
  have r35' : rdB (wrB γ' 0 (sltF z salt)) 0 32 = sltF z salt := by
    have := rdB_wrB γ' 0 (sltF z salt)
    rw [hl] at this
    exact this
  -- into the frame
  have v2 := oM_move (G := G) (F := F) (S := S) (o := o6) (k1 := 35) (k2 := 82) (p1 := 0) (p2 := n - e + e - 33) (cnt := 32) X h rfl rfl (by decide) (by decide) (by decide) (by decide) (by show _ ≤ 128; omega) (by decide) s6 b82'
  rw [r35'] at v2
  obtain ⟨o7, ho7⟩ : ∃ o7, o7 = o6.sA 82 (fun j => sb (wrB β (n - e + e - 33) (sltF z salt) j)) := ⟨_, rfl⟩
  rw [← ho7] at v2
  have v2 : P_X13_move G F (W.ad (.a 13 0 35)) 0 (W.ad (.a 13 0 82)) (Int32.ofNat (n - e + e - 33)) 32 (mem W (S.so 13 0 o6)) = _ := v2
  have b7 : mB o7 82 (wrB β (n - e + e - 33) (sltF z salt)) := by rw [ho7]; exact mB_sA _ _ _
  have a7 : agr [] [] [82] [] o6 o7 := by rw [ho7]; exact agr_sA (by simp)
  have v3 := h.sB' (S := S) (o := o7) (k := 82) (j := n - e + e - 66) (y := 1) rfl b7 (by show _ < 128; omega) (by decide)
  obtain ⟨o8, ho8⟩ : ∃ o8, o8 = o7.sA 82 (fun j => sb (va_up (wrB β (n - e + e - 33) (sltF z salt)) (n - e + e - 66) 1 j)) := ⟨_, rfl⟩
  rw [← ho8] at v3
  have b8 : mB o8 82 (va_up (wrB β (n - e + e - 33) (sltF z salt)) (n - e + e - 66) 1) := by rw [ho8]; exact mB_sA _ _ _
  have a8 : agr [] [] [82] [] o6 o8 := by rw [ho8]; exact a7.trans (agr_sA (by simp))
  have v4 := oM_move (G := G) (F := F) (S := S) (o := o8) (k1 := kx) (k2 := 82) (p1 := p) (p2 := n - e + e - 65) (cnt := 32) X h qx rfl nk.2 lx (by decide) hp (by show _ ≤ 128; omega) (by decide) (a8.mB bx6 (by simp; exact nk.2)) b8
  rw [rx] at v4
  obtain ⟨o9, ho9⟩ : ∃ o9, o9 = o8.sA 82 (fun j => sb (psG β z salt (n - e) e j)) := ⟨_, rfl⟩
  have v4 : P_X13_move G F (W.ad (.a 13 0 kx)) (Int32.ofNat p) (W.ad (.a 13 0 82)) (Int32.ofNat (n - e + e - 65)) 32 (mem W (S.so 13 0 o8)) = some (mem W (S.so 13 0 o9)) := by
    rw [ho9]
    exact v4
  have b9 : mB o9 82 (psG β z salt (n - e) e) := by rw [ho9]; exact mB_sA _ _ _
  have a9 : agr [] [] [82] [] o6 o9 := by rw [ho9]; exact a8.trans (agr_sA (by simp))
  obtain ⟨p1, p2, p3⟩ := psG_at (z := z) (salt := salt) (f := n - e) (e := e) (n := n) sl he (by omega) z82
  -- masked
  obtain ⟨o10, m1, m2, m3, m4⟩ := QM_maskOn (G := G) (F := F) (S := S.so 13 0 o9) (a := n - e) (many := e - 33) (sd := n - e + e - 33) (sn := 32) X h (by omega) (by omega) (by omega) (by rw [so_eq]; exact b9) (by rw [so_eq]; exact a9.mDig s7 (by decide))
  rw [so_so] at m1
  rw [so_eq] at m4
  rw [p3] at m2
  have m1 : P_X13_maskOn G F (W.ad (.o 13 0)) (W.ad (.a 13 0 82)) (Int32.ofNat (n - e + e - 33)) 32 (W.ad (.a 13 0 82)) (Int32.ofNat (n - e)) (Int32.ofNat (e - 33)) (mem W (S.so 13 0 o9)) = _ := m1
  obtain ⟨x, hx⟩ : ∃ x, x = mskB (psG β z salt (n - e) e) (sltF z salt) (n - e) (e - 33) (n - e) &&& lo8 ((255 : Int32) >>> (((Int32.ofNat (8 * e)) - (Int32.ofNat bits)) &&& 31)) := ⟨_, rfl⟩
  have rd := h.aB' (G := G) (S := S) (o := o10) (k := 82) (j := n - e) rfl m2 (by show _ < 128; omega) (by decide)
  have v5 := h.sB' (S := S) (o := o10) (k := 82) (j := n - e) (y := x) rfl m2 (by show _ < 128; omega) (by decide)
  obtain ⟨o11, ho11⟩ : ∃ o11, o11 = o10.sA 82 (fun j => sb (va_up (mskB (psG β z salt (n - e) e) (sltF z salt) (n - e) (e - 33)) (n - e) x j)) := ⟨_, rfl⟩
  rw [← ho11] at v5
  have b11 : mB o11 82 (va_up (mskB (psG β z salt (n - e) e) (sltF z salt) (n - e) (e - 33)) (n - e) x) := by rw [ho11]; exact mB_sA _ _ _
  have a11 : agr [] [] [82] [] o10 o11 := by rw [ho11]; exact agr_sA (by simp)
  have v6 := h.sB' (S := S) (o := o11) (k := 82) (j := n - e + e - 1) (y := 188) rfl b11 (by show _ < 128; omega) (by decide)
  obtain ⟨o12, ho12⟩ : ∃ o12, o12 = o11.sA 82 (fun j => sb (psH β z salt (n - e) e x j)) := ⟨_, rfl⟩
  have v6 : sI (mem W (S.so 13 0 o11)) 1 (W.ad (.a 13 0 82)) (Int32.ofNat (n - e + e - 1)) (sb 188) = some (mem W (S.so 13 0 o12)) := by
    rw [ho12]
    exact v6
  have b12 : mB o12 82 (psH β z salt (n - e) e x) := by rw [ho12]; exact mB_sA _ _ _
  have a12 : agr [] [] [82] [] o10 o12 := by rw [ho12]; exact a11.trans (agr_sA (by simp))
  obtain ⟨q1, q2⟩ := psH_at (β := β) (f := n - e) (n := n) sl (by omega) he heb z82 hx
  have aa : agr [37] [] soL [33, 34] o6 o12 := ((a9.mono (by simp) (by simp) (by simp [soL]) (by simp)).trans (m4.mono (by simp) (by simp) (by simp [soL]) (by simp))).trans (a12.mono (by simp) (by simp) (by simp [soL]) (by simp))
  refine ⟨o12, psH β z salt (n - e) e x, ?_, b12, q1, q2, a12.mDig m3 (by decide), ⟨_, a12.mB (m4.mB (a9.mB (s8.mB c81 (by decide)) (by decide)) (by decide)) (by decide)⟩, a6.trans aa⟩
  have t188 : ((-68 : Int32).toInt8.toInt32 = sb 188) := by decide
  have e8 : (8 : Int32) * (Int32.ofNat e) = (Int32.ofNat (8 * e)) := n_mul 8 e
  have nar : (((sb (mskB (psG β z salt (n - e) e) (sltF z salt) (n - e) (e - 33) (n - e)) &&& (((255 : Int32) >>> (((Int32.ofNat (8 * e)) - (Int32.ofNat bits)) &&& 31)).toInt8.toInt32)).toInt8.toInt32).toInt8.toInt32) = sb x := by
    rw [sb_lo8, sb_lo8, lo8_sb, lo8_an, lo8_sb, sb_lo8, lo8_sb, hx]
  rw [B_X13_saltOut_23, if_pos ((n_le (by omega) (by omega)).mpr (Nat.le_refl _)), h.gR 35 rfl (by decide), bO_s, h.gR 81 rfl (by decide), bO_s, v1, bO_s, rcv_m h.lo, bO_s, s1, bO_s, rcv_m h.lo, bO_s, s2, bO_s, h.gR 81 rfl (by decide), bO_s, rcv_m h.lo, bO_s, s3, bO_s, rcv_m h.lo, bO_s, s4, bO_s, rcv_m h.lo, bO_s, s5, bP_s, h.gR 35 rfl (by decide), bO_s, h.gR 82 rfl (by decide), bO_s, n_add, n_subL 33 (by omega), v2, bO_s, h.gR 82 rfl (by decide), bO_s, n_subL 66 (by omega), sb_k.2.1, v3, bO_s, h.gR 82 rfl (by decide), bO_s, n_subL 65 (by omega), v4, bO_s, h.gR 82 rfl (by decide), bO_s, bO_s, rcv_m h.lo, bO_s, n_subL 33 (by omega), m1, bO_s, h.gR 82 rfl (by decide), bO_s, rd, bO_s, e8, nar, v5, bO_s, h.gR 82 rfl (by decide), bO_s, n_subL 1 (by omega), t188, show n - 1 = n - e + e - 1 by omega, v6, bO_s]
theorem oM_saltLoop {kx p n e bits : Nat} {z salt : List UInt8} {χ γ : Nat → UInt8} (X : Cx G F W) (h : isM W) (qx : (kdA 13)[kx]? = some 1) (nx : kx ∉ soL) (lx : mLen kx < 2 ^ 30) (hp : p + 32 ≤ mLen kx) (rx : rdB χ p 32 = salt) (he : 66 ≤ e) (heb : e = (bits + 7) / 8) (hen : e ≤ n) (hn : n ≤ 128) (r35 : rdB γ 0 32 = z) : ∀ (m i fuel : Nat) (o : Ob) (β : Nat → UInt8), m < fuel → i + m = n → mDig o → mB o kx χ → mB o 35 γ → (∃ β, mB o 81 β) → mB o 82 β → (∀ j, j < i → β j = 0) → ∃ o' β', B_X13_saltOut_23 G F fuel (W.ad (.o 13 0)) (W.ad (.a 13 0 kx)) (Int32.ofNat p) (Int32.ofNat bits) (Int32.ofNat n) (Int32.ofNat e) (Int32.ofNat (n - e)) (Int32.ofNat i) (mem W (S.so 13 0 o)) = some (mem W (S.so 13 0 o')) ∧ mB o' 82 β' ∧ rdB β' (n - e) e = psF z salt bits ∧ (∀ j, j < n - e → β' j = 0) ∧ mDig o' ∧ (∃ β, mB o' 81 β) ∧ agr [37] [] soL [33, 34] o o' := by
  intro m
  induction m with
  | zero =>
    intro i fuel o β hf hi hd bx b35 h81 b82 z82
    obtain ⟨fuel, rfl⟩ : ∃ q, fuel = q + 1 := ⟨fuel - 1, by omega⟩
    have hi : i = n := by omega
    subst hi
    exact oM_saltEnd X h hd qx nx lx hp bx rx he heb hen hn b35 r35 h81 b82 z82
  | succ m ih =>
    intro i fuel o β hf hi hd bx b35 h81 b82 z82
    obtain ⟨fuel, rfl⟩ : ∃ q, fuel = q + 1 := ⟨fuel - 1, by omega⟩
    have v := h.sB' (S := S) (o := o) (k := 82) (j := i) (y := 0) rfl b82 (by show _ < 128; omega) (by decide)
    have a1 : agr [] [] [82] [] o (o.sA 82 (fun j => sb (va_up β i 0 j))) := agr_sA (by simp)
    have nk : kx ∉ [82] := fun q => nx (by simp [soL] at q ⊢; omega)
    obtain ⟨β81, h81⟩ := h81
    obtain ⟨o', β', g, q1, q2, q3, q4, q5, q6⟩ := ih (i + 1) fuel (o.sA 82 (fun j => sb (va_up β i 0 j))) (va_up β i 0) (by omega) (by omega) (a1.mDig hd (by decide)) (a1.mB bx nk) (a1.mB b35 (by decide)) ⟨_, a1.mB h81 (by decide)⟩ (mB_sA _ _ _) (fun j hj => by
      unfold va_up
      by_cases c : j = i
      · rw [if_pos c]
      · rw [if_neg c]
        exact z82 j (by omega))
    refine ⟨o', β', ?_, q1, q2, q3, q4, q5, (a1.mono (by simp) (by simp) (by simp [soL]) (by simp)).trans q6⟩
    rw [B_X13_saltOut_23, if_neg (fun q => by have := (n_le (by omega) (by omega)).mp q; omega), h.gR 82 rfl (by decide), bO_s, sb_k.1, v, bO_s, n_i1]
    exact g
theorem oM_saltOut {o : Ob} {kx p n bits : Nat} {msg salt : List UInt8} {χ : Nat → UInt8} (X : Cx G F W) (h : isM W) (hd : mDig o) (hm : mMsg o msg) (qx : (kdA 13)[kx]? = some 1) (nx : kx ∉ soL) (lx : mLen kx < 2 ^ 30) (hp : p + 32 ≤ mLen kx) (bx : mB o kx χ) (rx : rdB χ p 32 = salt) (he : 66 ≤ (bits + 7) / 8) (hen : (bits + 7) / 8 ≤ n) (hn : n ≤ 128) (h81 : ∃ β, mB o 81 β) (h82 : ∃ β, mB o 82 β) : ∃ o' β', P_X13_saltOut G F (W.ad (.o 13 0)) (W.ad (.a 13 0 kx)) (Int32.ofNat p) (Int32.ofNat bits) (Int32.ofNat n) (mem W (S.so 13 0 o)) = some (mem W (S.so 13 0 o')) ∧ mB o' 82 β' ∧ rdB β' (n - (bits + 7) / 8) ((bits + 7) / 8) = psF (sha false msg) salt bits ∧ (∀ j, j < n - (bits + 7) / 8 → β' j = 0) ∧ mDig o' ∧ (∃ β, mB o' 81 β) ∧ agr [37] [] soL [33, 34] o o' := by
  have hF := X.hF
  obtain ⟨o1, γ, g1, b1, r1, d1, a1⟩ := oM_dm (G := G) (F := F) (S := S) X h hd hm
  obtain ⟨β81, h81⟩ := h81
  obtain ⟨β82, h82⟩ := h82
  have nx1 : kx ∉ [36, 31, 32, 35] := fun q => nx (by simp [soL] at q ⊢; omega)
  obtain ⟨o', β', g, q1, q2, q3, q4, q5, q6⟩ := oM_saltLoop (G := G) (F := F) (S := S) (e := (bits + 7) / 8) X h qx nx lx hp rx he rfl hen hn r1 n 0 F o1 β82 (by omega) (by omega) d1 (a1.mB bx nx1) b1 ⟨_, a1.mB h81 (by decide)⟩ (a1.mB h82 (by decide)) (fun j hj => absurd hj (Nat.not_lt_zero _))
  refine ⟨o', β', ?_, q1, q2, q3, q4, q5, (a1.mono (by simp) (by simp) (by simp [soL]) (by simp)).trans q6⟩
  have ed : ((Int32.ofNat bits) + (7 : Int32)) / (8 : Int32) = (Int32.ofNat ((bits + 7) / 8)) := by
    rw [n_addL bits 7]
    exact n_div (by omega) (by decide)
  unfold P_X13_saltOut
  rw [rcv_m h.lo, bO_s, g1, bO_s, ed, n_sub hen]
  exact g
end MSO
