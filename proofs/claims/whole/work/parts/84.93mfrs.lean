/-! A FRESH POINT, AND KEYS SEALED WITH NUMBERS: the model -/
theorem ptOf_b : ptOf (beV 32 bX_ ++ beV 32 bY_) = bpt ∧ onC (beN (seg (beV 32 bX_ ++ beV 32 bY_) 0 32)) (beN (seg (beV 32 bX_ ++ beV 32 bY_) 32 32)) = true := by
  have hx : bX_ < pP + 1 := by decide +kernel
  have hy : bY_ < pP + 1 := by decide +kernel
  have e1 : beN (seg (beV 32 bX_ ++ beV 32 bY_) 0 32) = bX_ := by
    unfold seg
    rw [List.drop_zero, List.take_left' (beV_len 32 bX_), beN_32 hx]
  have e2 : beN (seg (beV 32 bX_ ++ beV 32 bY_) 32 32) = bY_ := by
    unfold seg
    rw [List.drop_left' (beV_len 32 bX_), List.take_of_length_le (by rw [beV_len]; omega), beN_32 hy]
  refine ⟨?_, ?_⟩
  · unfold ptOf
    rw [e1, e2]
    rfl
  · rw [e1, e2]
    exact onC_b
theorem va_wr (β : Nat → UInt8) (i : Nat) (y : UInt8) : va_up β i y = wrB β i [y] := by
  have q := wrB_snoc β i [] y
  rw [wrB_nil] at q
  exact q.symm
theorem rd_va {β : Nat → UInt8} {i : Nat} {y : UInt8} : rdB (va_up β i y) 0 (i + 1) = rdB β 0 i ++ [y] := by
  rw [va_wr]
  have q := rdB_app β 0 [y] i
  rw [Nat.zero_add] at q
  exact q
abbrev afA : List Nat := [31, 32, 35, 36, 67, 68, 69, 70, 71, 72, 74, 75, 76, 77, 78, 79, 80, 107, 108, 109, 130, 131]
section MFR
variable {W : WR} {G : mG} {F : Nat} {S : ST} {A : Nat → Option KY} {K : KY}
/-- where a party's bytes stand -/
theorem pickM {o : Ob} {rows : Nat → List UInt8} {βr : Nat → UInt8} (h : isM W) (w2 : ∀ r, r < 8 → o.a 3 r = (Int32.ofNat (rows r).length) ∧ (rows r).length ≤ 8192 ∧ rdB βr (8192 * r) (rows r).length = rows r) (x : Int32) (hx : ron x = true) : ∃ (pu : Nat) (u : List UInt8), u = (rwO rows x).getD [] ∧ pu + u.length ≤ 65536 ∧ u.length ≤ 8192 ∧ rdB βr pu u.length = u ∧ (∀ f : Int32 → Option mM, (if x = -1 then f 0 else f ((8192 : Int32) * x)) = f (Int32.ofNat pu)) ∧ ∀ (S' : ST) (f : Int32 → Option mM), (S' 13 0).a 3 = o.a 3 → (if x = -1 then f 0 else (bO (gfR (mem W S') (W.ad (.o 13 0)) 13 3) fun v => bO (aI G (mem W S') 0 v x) f)) = f (Int32.ofNat u.length) := by
  rcases isr_cases x with e | ⟨r, hr, rfl, e⟩
  · unfold ron at hx
    rw [e, Bool.or_false] at hx
    have hx := of_decide_eq_true hx
    refine ⟨0, [], by rw [rwO_n e]; rfl, by simp, by simp, rfl, fun f => ?_, fun S' f _ => ?_⟩
    · rw [if_pos hx]
      rfl
    · rw [if_pos hx]
      rfl
  · obtain ⟨w3, w4, w5⟩ := w2 r hr
    have nx : ¬ (Int32.ofNat r) = (-1 : Int32) := n_nm (by omega)
    refine ⟨8192 * r, rows r, by rw [rwO_s hr]; rfl, by omega, w4, w5, fun f => ?_, fun S' f e3 => ?_⟩
    · rw [if_neg nx, show (8192 : Int32) * (Int32.ofNat r) = (Int32.ofNat (8192 * r)) from n_mul 8192 r]
    · rw [if_neg nx, h.gR 3 rfl (by decide), bO_s, h.aN rfl (show r < mLen 3 from hr) (by decide), bO_s, e3, w3]
theorem QM_agreeFresh {k a w at_ : Nat} {x6 x7 : Int32} {rows : Nat → List UInt8} {βr : Nat → UInt8} {sec : List UInt8} (X : Cx G F W) (h : isM W) (hmm : isMm W) (mk : MK S) (dg : mDig (S 13 0)) (E : mEv (S 13 0)) (KK : KM (S 13 0) A) (hk : k < 16) (e : A k = some K) (kd : K.1 = 2) (ha : a < 6) (ha4 : 4 ≤ a) (hw : w < 4) (w1 : mB (S 13 0) 2 βr) (w2 : ∀ r, r < 8 → (S 13 0).a 3 r = (Int32.ofNat (rows r).length) ∧ (rows r).length ≤ 8192 ∧ rdB βr (8192 * r) (rows r).length = rows r) (h6 : ron x6 = true) (h7 : ron x7 = true) (rs : at_ + 32 ≤ 65536) (es : rdB βr at_ 32 = sec) (hsec : secF sec = true) : ∃ S', P_X13_agreeFresh G F (W.ad (.o 13 0)) (Int32.ofNat k) (Int32.ofNat a) (Int32.ofNat w) (Int32.ofNat at_) x6 x7 (mem W S) = some (mem W S') ∧ fr [(12, 1), (13, 0)] S S' ∧ agr [37, 73, 110, 111] [] afA [33, 34] (S 13 0) (S' 13 0) ∧ MK S' ∧ mDig (S' 13 0) ∧ mEv (S' 13 0) ∧ (∃ β, mB (S' 13 0) 107 β ∧ rdB β 0 64 = epF sec) ∧ pyM (S' 13 0) 110 108 ((rwO rows x6).getD []) ∧ pyM (S' 13 0) 111 109 ((rwO rows x7).getD []) ∧ ∃ δ, mB (S' 13 0) 80 δ ∧ rdB δ 0 (dkM a w) = dkF a w sec K.2.1.1 ((rwO rows x6).getD []) ((rwO rows x7).getD []) := by
  have hp : isMp W := ⟨hmm.2.1, hmm.2.2.2.2.1, h⟩
  obtain ⟨α85, α87, α89, b85, b87, b89, ⟨k1, k2, k3, k4⟩, ⟨l1, r1⟩, ⟨l2, r2⟩, ⟨l3, r3⟩, V⟩ := KK.at_ hk e
  obtain ⟨onK, _⟩ := V.ec kd
  have l64 := V.ec64 kd
  have ea : Ma K = seg K.2.1.1 0 32 := by unfold Ma; rw [if_pos kd]
  have ee : Me K = seg K.2.1.1 32 32 := by unfold Me; rw [if_pos kd]
  have la : (Ma K).length = 32 := by rw [ea, seg_len (by omega)]
  have le_ : (Me K).length = 32 := by rw [ee, seg_len (by omega)]
  rw [la] at r1
  rw [le_] at r2
  obtain ⟨_, _, _, _, ⟨β65, h65, e65⟩, _⟩ := id mk
  obtain ⟨q, hq⟩ := k_some (k := sec) (by rw [← es, rdB_len]) hsec
  obtain ⟨S1, S2, S3, g1, g2, g3, f3, a3, mk3, E3, β107, b107, e107⟩ := QM_mulPt (G := G) (F := F) (S := S) (kb := 65) (p := 0) (ks := 2) (ps := at_) (kt := 107) (pt := beV 32 bX_ ++ beV 32 bY_) (sec := sec) (q := q) X h hp mk E rfl rfl rfl (by decide) (by decide) (by decide) (by decide) rs (by decide) (by decide) (by decide) h65 w1 e65 es ptOf_b.2 (by rw [ptOf_b.1]; exact hq)
  have g1 : P_X13_setPoint G F (W.ad (.o 13 0)) (W.ad (.a 13 0 65)) 0 (mem W S) = _ := g1
  have e107 : rdB β107 0 64 = epF sec := by rw [e107]; unfold epF; rw [hq]; rfl
  obtain ⟨pu, u, eu, bu, lu, ru, cu, su⟩ := pickM (W := W) (G := G) h w2 x6 h6
  obtain ⟨pv, v, ev, bv, lv, rv, cv, sv_⟩ := pickM (W := W) (G := G) h w2 x7 h7
  rw [← eu, ← ev]
  have d3 : mDig (S3 13 0) := a3.mDig dg (by decide)
  obtain ⟨o4, ho4⟩ : ∃ o4, o4 = ((S3 13 0).sf 110 (Int32.ofNat u.length)).sf 111 (Int32.ofNat v.length) := ⟨_, rfl⟩
  have a4 : agr [110, 111] [] [] [] (S3 13 0) o4 := by rw [ho4]; exact (agr_sf (by simp)).trans (agr_sf (by simp))
  obtain ⟨β108, b108⟩ := E3 108 rfl
  obtain ⟨β109, b109⟩ := E3 109 rfl
  obtain ⟨β79, b79⟩ := E3 79 rfl
  have w1_3 : mB (S3 13 0) 2 βr := a3.mB w1 (by decide)
  have m5 := oM_move (G := G) (F := F) (S := S3) (o := o4) (k1 := 2) (k2 := 108) (p1 := pu) (p2 := 0) (cnt := u.length) X h rfl rfl (by decide) (by decide) (by decide) (by show _ ≤ 65536; omega) (by show _ ≤ 8200; omega) (by omega) (a4.mB w1_3 (by simp)) (a4.mB b108 (by simp))
  rw [ru] at m5
  have m5 : P_X13_move G F (W.ad (.a 13 0 2)) (Int32.ofNat pu) (W.ad (.a 13 0 108)) 0 (Int32.ofNat u.length) (mem W (S3.so 13 0 o4)) = _ := m5
  obtain ⟨o5, ho5⟩ : ∃ o5, o5 = o4.sA 108 (fun j => sb (wrB β108 0 u j)) := ⟨_, rfl⟩
  rw [← ho5] at m5
  have a5 : agr [] [] [108] [] o4 o5 := by rw [ho5]; exact agr_sA (by simp)
  have c108 : mB o5 108 (wrB β108 0 u) := by rw [ho5]; exact mB_sA _ _ _
  have m6 := oM_move (G := G) (F := F) (S := S3) (o := o5) (k1 := 2) (k2 := 109) (p1 := pv) (p2 := 0) (cnt := v.length) X h rfl rfl (by decide) (by decide) (by decide) (by show _ ≤ 65536; omega) (by show _ ≤ 8200; omega) (by omega) (a5.mB (a4.mB w1_3 (by simp)) (by decide)) (a5.mB (a4.mB b109 (by simp)) (by decide))
  rw [rv] at m6
  have m6 : P_X13_move G F (W.ad (.a 13 0 2)) (Int32.ofNat pv) (W.ad (.a 13 0 109)) 0 (Int32.ofNat v.length) (mem W (S3.so 13 0 o5)) = _ := m6
  obtain ⟨o6, ho6⟩ : ∃ o6, o6 = o5.sA 109 (fun j => sb (wrB β109 0 v j)) := ⟨_, rfl⟩
  rw [← ho6] at m6
  have a6 : agr [] [] [109] [] o5 o6 := by rw [ho6]; exact agr_sA (by simp)
  have c109 : mB o6 109 (wrB β109 0 v) := by rw [ho6]; exact mB_sA _ _ _
  have a46 : agr [110, 111] [] [108, 109] [] (S3 13 0) o6 := ((a4.mono (by simp) (by simp) (by simp) (by simp)).trans (a5.mono (by simp) (by simp) (by simp) (by simp))).trans (a6.mono (by simp) (by simp) (by simp) (by simp))
  have b85_6 : mB o6 85 α85 := a46.mB (a3.mB b85 (by decide)) (by decide)
  have m7 := oM_move (G := G) (F := F) (S := S3) (o := o6) (k1 := 85) (k2 := 79) (p1 := 128 * k) (p2 := 0) (cnt := 32) X h rfl rfl (by decide) (by decide) (by decide) (by show _ ≤ 2048; omega) (by decide) (by omega) b85_6 (a46.mB b79 (by decide))
  rw [r1] at m7
  have m7 : P_X13_move G F (W.ad (.a 13 0 85)) (Int32.ofNat (128 * k)) (W.ad (.a 13 0 79)) 0 32 (mem W (S3.so 13 0 o6)) = _ := m7
  obtain ⟨o7, ho7⟩ : ∃ o7, o7 = o6.sA 79 (fun j => sb (wrB β79 0 (Ma K) j)) := ⟨_, rfl⟩
  rw [← ho7] at m7
  have a7 : agr [] [] [79] [] o6 o7 := by rw [ho7]; exact agr_sA (by simp)
  have c79 : mB o7 79 (wrB β79 0 (Ma K)) := by rw [ho7]; exact mB_sA _ _ _
  have m8 := oM_move (G := G) (F := F) (S := S3) (o := o7) (k1 := 87) (k2 := 79) (p1 := 128 * k) (p2 := 32) (cnt := 32) X h rfl rfl (by decide) (by decide) (by decide) (by show _ ≤ 2048; omega) (by decide) (by omega) (a7.mB (a46.mB (a3.mB b87 (by decide)) (by decide)) (by decide)) c79
  rw [r2] at m8
  have m8 : P_X13_move G F (W.ad (.a 13 0 87)) (Int32.ofNat (128 * k)) (W.ad (.a 13 0 79)) 32 32 (mem W (S3.so 13 0 o7)) = _ := m8
  obtain ⟨o8, ho8⟩ : ∃ o8, o8 = o7.sA 79 (fun j => sb (wrB (wrB β79 0 (Ma K)) 32 (Me K) j)) := ⟨_, rfl⟩
  rw [← ho8] at m8
  have a8 : agr [] [] [79] [] o7 o8 := by rw [ho8]; exact agr_sA (by simp)
  have c79' : mB o8 79 (wrB (wrB β79 0 (Ma K)) 32 (Me K)) := by rw [ho8]; exact mB_sA _ _ _
  have e79 : rdB (wrB (wrB β79 0 (Ma K)) 32 (Me K)) 0 64 = K.2.1.1 := by
    have q1 := rdB_app (wrB β79 0 (Ma K)) 0 (Me K) 32
    have q2 := rdB_wrB β79 0 (Ma K)
    rw [la] at q2
    rw [q2, le_, Nat.zero_add, ea, ee] at q1
    rw [ea, ee]
    refine q1.trans ?_
    unfold seg
    rw [List.drop_zero, List.take_of_length_le (l := K.2.1.1.drop 32) (by rw [List.length_drop]; omega)]
    exact List.take_append_drop 32 _
  have a48 : agr [110, 111] [] [79, 108, 109] [] (S3 13 0) o8 := ((a46.mono (by simp) (by simp) (by simp) (by simp)).trans (a7.mono (by simp) (by simp) (by simp) (by simp))).trans (a8.mono (by simp) (by simp) (by simp) (by simp))
  have a68 : agr [] [] [79] [] o6 o8 := a7.trans a8
  have E8 : mEv o8 := E3.keep a48 (fun n hn z => by
    simp only [List.mem_cons, List.not_mem_nil, or_false] at hn
    rcases hn with rfl | rfl | rfl
    · exact ⟨_, c79'⟩
    · exact ⟨_, a68.mB (a6.mB c108 (by decide)) (by decide)⟩
    · exact ⟨_, a68.mB c109 (by decide)⟩)
  have mk8 : MK (S3.so 13 0 o8) := (show MK (S3.so 13 0 (S3 13 0)) by rw [so_self]; exact mk3).agL a48 (by decide)
  have d8 : mDig o8 := a48.mDig d3 (by decide)
  have U8 : pyM o8 110 108 u := ⟨by rw [a68.1 110 (by decide), a6.1 110 (by decide), a5.1 110 (by decide), ho4, sf_ne (by decide), sf_eq], _, a68.mB (a6.mB c108 (by decide)) (by decide), rdB_wrB _ _ _⟩
  have V8 : pyM o8 111 109 v := ⟨by rw [a68.1 111 (by decide), a6.1 111 (by decide), a5.1 111 (by decide), ho4, sf_eq], _, a68.mB c109 (by decide), rdB_wrB _ _ _⟩
  obtain ⟨S9, g9, f9, a9, mk9, d9, E9, δ, b80, e80⟩ := QM_agree (G := G) (F := F) (S := S3.so 13 0 o8) (kb := 79) (p := 0) (ks := 2) (ps := at_) (a := a) (w := w) (sec := sec) (pt := K.2.1.1) (u := u) (v := v) X h hp mk8 (by rw [so_eq]; exact d8) (by rw [so_eq]; exact E8) ha ha4 hw rfl rfl (by decide) (by decide) (by decide) rs (by decide) (by rw [so_eq]; exact c79') (by rw [so_eq]; exact a48.mB w1_3 (by decide)) e79 es hsec onK (by rw [so_eq]; exact U8) (by rw [so_eq]; exact V8) lu lv
  rw [so_eq] at a9
  have g9 : P_X13_agree G F (W.ad (.o 13 0)) (W.ad (.a 13 0 2)) (Int32.ofNat at_) (W.ad (.a 13 0 79)) 0 (Int32.ofNat a) (Int32.ofNat w) (mem W (S3.so 13 0 o8)) = _ := g9
  have e128 : (128 : Int32) * (Int32.ofNat k) = (Int32.ofNat (128 * k)) := n_mul 128 k
  have y110 : gfI (mem W (S3.so 13 0 o4)) (W.ad (.o 13 0)) 13 110 = some (Int32.ofNat u.length) := by rw [gfI_m h.lo rfl, so_eq, ho4, sf_ne (by decide), sf_eq]
  have y111 : gfI (mem W (S3.so 13 0 o5)) (W.ad (.o 13 0)) 13 111 = some (Int32.ofNat v.length) := by rw [gfI_m h.lo rfl, so_eq, a5.1 111 (by decide), ho4, sf_eq]
  have e139 : B_X13_agreeFresh_139 G F (W.ad (.o 13 0)) (Int32.ofNat k) (Int32.ofNat a) (Int32.ofNat w) (Int32.ofNat at_) (W.ad (.a 13 0 2)) (Int32.ofNat pv) (mem W (S3.so 13 0 o5)) = some (mem W S9) := by
    unfold B_X13_agreeFresh_139
    rw [h.gR 109 rfl (by decide), bO_s, y111, bO_s, m6, bO_s, h.gR 85 rfl (by decide), bO_s, h.gR 79 rfl (by decide), bO_s, e128, m7, bO_s, h.gR 87 rfl (by decide), bO_s, h.gR 79 rfl (by decide), bO_s, m8, bO_s, h.gR 2 rfl (by decide), bO_s, h.gR 79 rfl (by decide), bO_s, rcv_m h.lo, bO_s, g9, bP_s]
  have e107 : B_X13_agreeFresh_107 G F (W.ad (.o 13 0)) (Int32.ofNat k) (Int32.ofNat a) (Int32.ofNat w) (Int32.ofNat at_) x7 (W.ad (.a 13 0 2)) (Int32.ofNat pu) (mem W (S3.so 13 0 o4)) = some (mem W S9) := by
    unfold B_X13_agreeFresh_107
    rw [h.gR 108 rfl (by decide), bO_s, y110, bO_s, m5, bO_s, h.gR 2 rfl (by decide), bO_s]
    exact (cv (fun s => B_X13_agreeFresh_139 G F (W.ad (.o 13 0)) (Int32.ofNat k) (Int32.ofNat a) (Int32.ofNat w) (Int32.ofNat at_) (W.ad (.a 13 0 2)) s (mem W (S3.so 13 0 o5)))).trans e139
  have e84 : B_X13_agreeFresh_84 G F (W.ad (.o 13 0)) (Int32.ofNat k) (Int32.ofNat a) (Int32.ofNat w) (Int32.ofNat at_) x6 x7 (W.ad (.o 13 0)) (Int32.ofNat v.length) (mem W (S3.so 13 0 ((S3 13 0).sf 110 (Int32.ofNat u.length)))) = some (mem W S9) := by
    unfold B_X13_agreeFresh_84
    rw [pfI_m h.lo rfl, bO_s, so_eq, so_so, ← ho4, h.gR 2 rfl (by decide), bO_s]
    exact (cu (fun s => B_X13_agreeFresh_107 G F (W.ad (.o 13 0)) (Int32.ofNat k) (Int32.ofNat a) (Int32.ofNat w) (Int32.ofNat at_) x7 (W.ad (.a 13 0 2)) s (mem W (S3.so 13 0 o4)))).trans e107
  have e63 : B_X13_agreeFresh_63 G F (W.ad (.o 13 0)) (Int32.ofNat k) (Int32.ofNat a) (Int32.ofNat w) (Int32.ofNat at_) x6 x7 (W.ad (.o 13 0)) (Int32.ofNat u.length) (mem W S3) = some (mem W S9) := by
    unfold B_X13_agreeFresh_63
    rw [pfI_m h.lo rfl, bO_s]
    exact (sv_ (S3.so 13 0 ((S3 13 0).sf 110 (Int32.ofNat u.length))) (fun s => B_X13_agreeFresh_84 G F (W.ad (.o 13 0)) (Int32.ofNat k) (Int32.ofNat a) (Int32.ofNat w) (Int32.ofNat at_) x6 x7 (W.ad (.o 13 0)) s (mem W (S3.so 13 0 ((S3 13 0).sf 110 (Int32.ofNat u.length))))) (by rw [so_eq]; exact a3.2.2.1 3 (by decide))).trans e84
  have e43 : B_X13_agreeFresh_43 G F (W.ad (.o 13 0)) (Int32.ofNat k) (Int32.ofNat a) (Int32.ofNat w) (Int32.ofNat at_) x6 x7 1 (mem W S3) = some (mem W S9) := by
    unfold B_X13_agreeFresh_43
    exact (su S3 (fun s => B_X13_agreeFresh_63 G F (W.ad (.o 13 0)) (Int32.ofNat k) (Int32.ofNat a) (Int32.ofNat w) (Int32.ofNat at_) x6 x7 (W.ad (.o 13 0)) s (mem W S3)) (a3.2.2.1 3 (by decide))).trans e63
  refine ⟨S9, ?_, (f3.trans (fr_so (by simp))).trans f9, ?_, mk9, d9, E9, ⟨β107, a9.mB (a48.mB b107 (by decide)) (by decide), ‹rdB β107 0 64 = epF sec›⟩, U8.ag a9 (by decide) (by decide), V8.ag a9 (by decide) (by decide), δ, b80, e80⟩
  · unfold P_X13_agreeFresh
    rw [h.gR 65 rfl (by decide), bO_s, rcv_m h.lo, bO_s, g1, bP_s, h.gR 2 rfl (by decide), bO_s, rcv_m h.lo, bO_s, g2, bO_s, if_neg (by decide), h.gR 107 rfl (by decide), bO_s, rcv_m h.lo, bO_s, g3, bP_s, if_neg (by decide), e43]
  · exact ((a3.mono (by simp) (by simp) (by simp [afA]) (by simp)).trans (a48.mono (by simp) (by simp) (by simp [afA]) (by simp))).trans (a9.mono (by simp) (by simp) (by simp [afA]) (by simp))
end MFR
