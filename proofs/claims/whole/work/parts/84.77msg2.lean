/-! CALL sign: the model, from its arguments on -/
theorem hdV_s (s : List UInt8) : hdV s false = match rdT s with | .inl _ => -22 | .inr J => sgR J := by
  unfold hdV
  cases rdT s with
  | inl p => rfl
  | inr J =>
    show (if sdH J false = true then hdR J false else -23) = sgR J
    unfold sdH hdR sgR
    rw [show (hdS J && (!false || _)) = hdS J from Bool.and_true _]
    rfl
theorem sgR_v (J : JT) : sgR J = 0 ∨ sgR J = -23 ∨ sgR J = -24 ∨ sgR J = -25 := by
  unfold sgR
  split
  · split
    · split
      · exact Or.inr (Or.inr (Or.inr rfl))
      · exact Or.inl rfl
    · exact Or.inr (Or.inr (Or.inl rfl))
  · exact Or.inr (Or.inl rfl)
theorem sgnP_h {a : Nat} {K : KY} : hdP (str (33 + a)) none K ++ [125] = sgnP a K := by
  unfold hdP sgnP
  simp only [List.append_assoc, List.nil_append]
section MS2
variable {W : WR} {G : mG} {F : Nat} {S : ST} {A : Nat → Option KY} {K : KY}
theorem QM_sgn53 {k a p r bk : Nat} {hd : Option Nat} {rows : Nat → List UInt8} {y : Int32} (X : Cx G F W) (h : isM W) (hmm : isMm W) (mk : MK S) (dg : mDig (S 13 0)) (E : mEv (S 13 0)) (KK : KM (S 13 0) A) (hR : mRows (S 13 0) rows) (h17 : (S 13 0).f 17 = (Int32.ofNat bk)) (hbk : bk ≤ 1) (hk : k < 16) (e : A k = some K) (ha : a < 5) (hh : ∀ n, hd = some n → n < 8) (hp : p < 8) (hy : 3 ≤ a → r < 8 ∧ y = (Int32.ofNat r)) (rr : Int32 ⊕ List UInt8) (hr : rr = sgnV a K (if 3 ≤ a then rows r else []) (hd.map rows) (rows p)) : ∃ W' S', B_X13_sign_53 G F (W.ad (.o 13 0)) (Int32.ofNat k) (Int32.ofNat a) (oI hd) (Int32.ofNat p) y (mem W S) = some (ansT rr, mem W' S') ∧ (W' = W ∨ W' = W.sr 13 0 19 (.a 13 0 2)) ∧ MT S S' ∧ outM (S 13 0) (S' 13 0) rr ∧ kpT (1 - bk) (S 13 0) (S' 13 0) := by
  have hF := X.hF
  have ms := oM_maySign (G := G) (F := F) (S := S) (o := S 13 0) (w := a) true X h KK hk e (by omega)
  rw [so_self] at ms
  have ms : P_X13_maySign G F (W.ad (.o 13 0)) (Int32.ofNat k) (Int32.ofNat a) 1 (mem W S) = _ := ms
  unfold B_X13_sign_53
  rw [rcv_m h.lo, bO_s, ms, bP_s]
  by_cases c : maySg K a true = true
  · have hr : rr = sgnH a K (if 3 ≤ a then rows r else []) (hd.map rows) (rows p) := by
      rw [hr]
      unfold sgnV
      rw [if_pos c]
    rw [if_pos c, if_neg (by decide), pfZ_m h.lo rfl (Or.inl rfl), bO_s]
    obtain ⟨o1, ho1⟩ : ∃ o1, o1 = (S 13 0).sf 104 0 := ⟨_, rfl⟩
    rw [← ho1]
    have a1 : agr [104] [] [] [] (S 13 0) o1 := by rw [ho1]; exact agr_sf (by simp)
    have a1t : agr tkF tkG tkA [33, 34] (S 13 0) o1 := a1.mono (by simp [tkF]) (by simp) (by simp) (by simp)
    have M1 : MO S o1 := (MO.of mk dg E).ag a1 (by decide) (by decide) (fun q hq => absurd hq (by simp))
    have KK1 : KM o1 A := KK.agr a1 (by decide)
    have x1 : (oI hd = (-1 : Int32)) = (hd = none) := oI_n (fun i hi => by have := hh i hi; omega)
    simp only [x1]
    cases hd with
    | none =>
      have hr : rr = sgnT a K (if 3 ≤ a then rows r else []) (sgnP a K) (rows p) false := hr
      obtain ⟨α85, α87, α89, _, _, _, _, _, _, _, V⟩ := KK.at_ hk e
      have fit := kid_fit (a := a) V ha
      have wl : ∀ a, a < 5 → (str (33 + a)).length ≤ 32 := by decide +kernel
      obtain ⟨o2, g2, d2, a2⟩ := oM_sayHead (G := G) (F := F) (S := S) (o := o1) (j := 108) (a := a) (en := none) (ws := wrS) X h KK1 hk e M1.2.2 (by decide) row_108 wrS_x (wrS_at a ha).2 (by omega) (wl a ha) (fun n hn => absurd hn (by simp))
      have g2 : P_X13_sayHead G F (W.ad (.o 13 0)) (Int32.ofNat k) (G.1 108) (Int32.ofNat a) (-1) (mem W (S.so 13 0 o1)) = _ := g2
      have hl : (hdP (str (33 + a)) none K).length + 1 = (sgnP a K).length := by rw [← sgnP_h, List.length_append]; rfl
      obtain ⟨o3, g3, d3, a3⟩ := oM_sayc (G := G) (F := F) (S := S) (o := o2) (x := 125) (y := 125) h d2 (by omega) rfl
      rw [sgnP_h] at d3
      obtain ⟨f28, β27, b27, r27⟩ := d3
      rw [Nat.min_eq_left fit, List.take_of_length_le fit] at r27
      have a23 : agr [28] [] [27] [] o1 o3 := a2.trans a3
      have E3 : mEv o3 := M1.2.2.keep a23 (fun q hq _ => by
        rw [List.mem_singleton] at hq
        rw [hq]
        exact ⟨_, b27⟩)
      obtain ⟨β119, b119⟩ := E3 119 rfl
      have v := oM_move (G := G) (F := F) (S := S) (o := o3) (k1 := 27) (k2 := 119) (p1 := 0) (p2 := 0) (cnt := (sgnP a K).length) X h rfl rfl (by decide) (by decide) (by decide) (by show _ ≤ 8300; omega) (by show _ ≤ 8300; omega) (by omega) b27 b119
      rw [r27] at v
      have v : P_X13_move G F (W.ad (.a 13 0 27)) 0 (W.ad (.a 13 0 119)) 0 (Int32.ofNat (sgnP a K).length) (mem W (S.so 13 0 o3)) = _ := v
      obtain ⟨o4, ho4⟩ : ∃ o4, o4 = o3.sA 119 (fun j => sb (wrB β119 0 (sgnP a K) j)) := ⟨_, rfl⟩
      rw [← ho4] at v
      have a4 : agr [] [] [119] [] o3 o4 := by rw [ho4]; exact agr_sA (by simp)
      have b4 : mB o4 119 (wrB β119 0 (sgnP a K)) := by rw [ho4]; exact mB_sA _ _ _
      obtain ⟨o5, ho5⟩ : ∃ o5, o5 = o4.sf 120 (Int32.ofNat (sgnP a K).length) := ⟨_, rfl⟩
      have b5 : mB o5 119 (wrB β119 0 (sgnP a K)) := by rw [ho5]; exact b4
      have a15 : agr [28, 120] [] [27, 119] [] o1 o5 := ((a23.mono (by simp) (by simp) (by simp) (by simp)).trans (a4.mono (by simp) (by simp) (by simp) (by simp))).trans (by rw [ho5]; exact agr_sf (by simp))
      have x28 : gfI (mem W (S.so 13 0 o3)) (W.ad (.o 13 0)) 13 28 = some (Int32.ofNat (sgnP a K).length) := by rw [gfI_m h.lo rfl, so_eq, f28]
      have x28' : gfI (mem W (S.so 13 0 o4)) (W.ad (.o 13 0)) 13 28 = some (Int32.ofNat (sgnP a K).length) := by rw [gfI_m h.lo rfl, so_eq, a4.1 28 (by decide), f28]
      have M5 : MO S o5 := M1.ag a15 (by decide) (by decide) (fun q hq _ => by
        simp only [List.mem_cons, List.not_mem_nil, or_false] at hq
        rcases hq with rfl | rfl
        · refine ⟨β27, ?_⟩
          rw [ho5]
          exact a4.mB b27 (by decide)
        · exact ⟨_, b5⟩)
      have aS5 : agr [28, 104, 120] [] [27, 119] [] (S 13 0) o5 := (a1.mono (by simp) (by simp) (by simp) (by simp)).trans (a15.mono (by simp) (by simp) (by simp) (by simp))
      obtain ⟨S', z1, z2, z3, z4⟩ := QM_sgn234 (G := G) (F := F) (S := S) (o := o5) (p := p) (r := r) (rows := rows) (hb := sgnP a K) (bare := false) (y := y) X h hmm M5 (aS5.mono (by simp [tkF]) (by simp) (by simp [tkA]) (by simp)) ⟨aS5.1 5 (by decide), aS5.2.2.1 4 (by decide)⟩ (KK.agr aS5 (by decide)) hk e ha c (aS5.mRows hR (by decide) (by decide)) hp b5 (rdB_wrB _ _ _) (by rw [ho5, sf_eq]) fit (by rw [a15.1 104 (by decide), ho1, sf_eq]; rfl) hy rr hr (rows p).length 0 F false (by obtain ⟨_, _, w⟩ := hR; have := (w p hp).2.1; omega) (by omega) (by rw [List.take_zero]; rfl)
      have z1 : B_X13_sign_234 G F F (W.ad (.o 13 0)) (Int32.ofNat k) (Int32.ofNat a) (Int32.ofNat p) y 0 0 (mem W (S.so 13 0 o5)) = _ := z1
      refine ⟨W, S', ?_, Or.inl rfl, z2, z3, fun bk' J' q1 q2 q3 q4 => z4 bk' J' (by omega) q2 q3 (q4.agr aS5 (by decide))⟩
      rw [if_pos rfl, rcv_m h.lo, bO_s, g2, bO_s, rcv_m h.lo, bO_s, g3, bO_s, x28, bO_s, if_pos (show (Int32.ofNat (sgnP a K).length) ≤ (8192 : Int32) from (n_le (b := 8192) (by omega) (by omega)).mpr fit), h.gR 27 rfl (by decide), bO_s, h.gR 119 rfl (by decide), bO_s, bO_s, v, bO_s, x28', bO_s, pfI_m h.lo rfl, bO_s, so_eq, so_so, ← ho5]
      exact z1
    | some n =>
      have hn := hh n rfl
      obtain ⟨βr, w1, w2⟩ := id hR
      obtain ⟨w3, w4, w5⟩ := w2 n hn
      have hr : rr = (match rdT (rows n) with | .inl _ => .inl (-22) | .inr J => if sgR J = 0 then (if sgA J = some a then sgnT a K (if 3 ≤ a then rows r else []) (rows n) (rows p) (brB J) else .inl (-27)) else .inl (sgR J)) := hr
      have rd3 : aI G (mem W (S.so 13 0 o1)) 0 (W.ad (.a 13 0 3)) (Int32.ofNat n) = some (Int32.ofNat (rows n).length) := by rw [h.aN rfl (show n < mLen 3 from hn) (by decide), so_eq, a1.2.2.1 3 (by decide), w3]
      have e8 : (8192 : Int32) * (Int32.ofNat n) = (Int32.ofNat (8192 * n)) := n_mul 8192 n
      obtain ⟨S2, g2, f2, a2, kp2, mk2, E2, b15, q2⟩ := QM_headOf (G := G) (F := F) (S := S.so 13 0 o1) (bk := bk) (ks := 2) (p0 := 8192 * n) (s := rows n) (sl := false) (α := βr) X h hmm M1.1 rfl (by decide) (by decide) hbk (by rw [so_eq, a1.1 17 (by decide)]; exact h17) w4 (by rw [so_eq]; exact a1.mB w1 (by decide)) w5 (by show _ ≤ 65536; omega) (by rw [so_eq]; exact M1.2.2 15 rfl) (by rw [so_eq]; exact ⟨M1.2.2 96 rfl, M1.2.2 97 rfl, M1.2.2 107 rfl, M1.2.2 108 rfl, M1.2.2 109 rfl⟩)
      rw [so_eq] at a2 kp2
      obtain ⟨W1, hW1⟩ : ∃ W1, W1 = W.sr 13 0 19 (.a 13 0 2) := ⟨_, rfl⟩
      have y1 : WY W W1 := by rw [hW1]; exact WY.sr (Or.inr (Or.inr ⟨rfl, rfl⟩))
      have ad : W1.ad = W.ad := by rw [hW1]; rfl
      rw [← hW1] at g2
      have X1 := y1.cx X
      have h1 := y1.m h
      have hmm1 := y1.mm h.lo hmm
      have g2 : P_X13_headOf G F (W.ad (.o 13 0)) (W.ad (.a 13 0 2)) (Int32.ofNat (8192 * n)) (Int32.ofNat (rows n).length) 0 (mem W (S.so 13 0 o1)) = some (hdV (rows n) false, mem W1 S2) := g2
      have E2' : mEv (S2 13 0) := M1.2.2.keep a2 (fun q hq z => by
        simp only [agL_, List.mem_append, List.mem_cons, List.not_mem_nil, or_false] at hq
        rcases hq with (rfl | rfl | rfl | rfl | rfl | rfl | rfl | rfl | rfl | rfl | rfl) | (rfl | rfl | rfl | rfl | rfl | rfl | rfl | rfl | rfl | rfl | rfl | rfl | rfl | rfl | rfl)
        · exact absurd z (by decide)
        · exact absurd z (by decide)
        · exact absurd z (by decide)
        · exact absurd z (by decide)
        · exact absurd z (by decide)
        · exact absurd z (by decide)
        · exact absurd z (by decide)
        · exact absurd z (by decide)
        · exact absurd z (by decide)
        · exact b15
        · exact absurd z (by decide)
        · exact absurd z (by decide)
        · exact absurd z (by decide)
        · exact absurd z (by decide)
        · exact absurd z (by decide)
        · exact absurd z (by decide)
        · exact absurd z (by decide)
        · exact absurd z (by decide)
        · exact absurd z (by decide)
        · exact absurd z (by decide)
        · exact absurd z (by decide)
        · exact E2.1
        · exact E2.2.1
        · exact E2.2.2.1
        · exact E2.2.2.2.1
        · exact E2.2.2.2.2)
      have aS2 : agr ([104] ++ ([20, 21, 22, 23, 24, 25, 26] ++ hdL)) [] ([6, 7, 8, 9, 10, 11, 12, 13, 14, 15, 16] ++ agL_) [] (S 13 0) (S2 13 0) := (a1.mono (by simp) (by simp) (by simp) (by simp)).trans (a2.mono (by simp) (by simp) (fun x hx => hx) (by simp))
      have aS2t : agr tkF tkG tkA [33, 34] (S 13 0) (S2 13 0) := aS2.mono (by simp [tkF, hdL]) (by simp) (by simp [tkA, agL_]) (by simp)
      have dg2 : mDig (S2 13 0) := aS2.mDig dg (by decide)
      have MT2 : MT S S2 := ⟨(fr_so (by simp) : fr [(12, 0), (12, 1), (12, 2), (13, 0)] S (S.so 13 0 o1)).trans (f2.mono (by simp)), aS2t, mk2, dg2, E2'⟩
      have out2 : (S2 13 0).f 5 = (S 13 0).f 5 ∧ (S2 13 0).a 4 = (S 13 0).a 4 := ⟨aS2.1 5 (by decide), aS2.2.2.1 4 (by decide)⟩
      have kp2' : kpT (1 - bk) (S 13 0) (S2 13 0) := fun bk' J' z1 z2 z3 q => kp2 bk' J' z1 z2 z3 (q.agr a1 (by decide))
      rw [if_neg (by simp), h.gR 2 rfl (by decide), bO_s, h.gR 3 rfl (by decide), bO_s, show oI (some n) = (Int32.ofNat n) from rfl, rd3, bO_s, rcv_m h.lo, bO_s, e8, g2, bP_s]
      -- a reason
      have bad : ∀ v : Int32, hdV (rows n) false = v → v < 0 → rr = .inl v → ∃ W' S', (if hdV (rows n) false < 0 then (if 0 ≤ hdV (rows n) false then (some ((-27 : Int32), mem W1 S2)) else (some (hdV (rows n) false, mem W1 S2))) else bO (gfI (mem W1 S2) (W.ad (.o 13 0)) 13 102) fun v177 => if v177 = (Int32.ofNat a) then bO (gfR (mem W1 S2) (W.ad (.o 13 0)) 13 3) fun v199 => bO (aI G (mem W1 S2) 0 v199 (Int32.ofNat n)) fun v203 => bO (pfv (mem W1 S2) (W.ad (.o 13 0)) 13 120 (.int v203)) fun M204 => bO (gfR M204 (W.ad (.o 13 0)) 13 2) fun v208 => bO (gfR M204 (W.ad (.o 13 0)) 13 119) fun v217 => bO (gfI M204 (W.ad (.o 13 0)) 13 120) fun v222 => bO (P_X13_move G F v208 (Int32.ofNat (8192 * n)) v217 (0 : Int32) v222 M204) fun M225 => B_X13_sign_234 G F F (W.ad (.o 13 0)) (Int32.ofNat k) (Int32.ofNat a) (Int32.ofNat p) y (0 : Int32) (0 : Int32) M225 else (if 0 ≤ hdV (rows n) false then (some ((-27 : Int32), mem W1 S2)) else (some (hdV (rows n) false, mem W1 S2)))) = some (ansT rr, mem W' S') ∧ (W' = W ∨ W' = W1) ∧ MT S S' ∧ outM (S 13 0) (S' 13 0) rr ∧ kpT (1 - bk) (S 13 0) (S' 13 0) := by
        intro v hv hv0 hrv
        have nv : ¬ (0 : Int32) ≤ v := by
          rw [Int32.not_le]
          exact hv0
        rw [hv, if_pos hv0, if_neg nv, hrv]
        exact ⟨W1, S2, rfl, Or.inr rfl, MT2, out2, kp2'⟩
      rw [← hW1]
      have two : (∃ p, rdT (rows n) = .inl p) ∨ ∃ J, rdT (rows n) = .inr J := by
        cases rdT (rows n) with
        | inl p => exact Or.inl ⟨p, rfl⟩
        | inr J => exact Or.inr ⟨J, rfl⟩
      rcases two with ⟨pp, er⟩ | ⟨J, er⟩
      · rw [er] at hr
        exact bad (-22) (by rw [hdV_s, er]) (by decide) hr
      · rw [er] at hr
        have hv : hdV (rows n) false = sgR J := by rw [hdV_s, er]
        have hr : rr = if sgR J = 0 then (if sgA J = some a then sgnT a K (if 3 ≤ a then rows r else []) (rows n) (rows p) (brB J) else .inl (-27)) else .inl (sgR J) := hr
        by_cases c0 : sgR J = 0
        · rw [if_pos c0] at hr
          obtain ⟨J', e1, M2, Y, sd, hz, HF⟩ := q2 (by rw [hv]; exact c0)
          rw [er] at e1
          have e1 := Sum.inr.inj e1
          subst e1
          obtain ⟨kdh, HF⟩ := HF
          rw [if_neg (by decide)] at HF
          rw [hv, c0, if_neg (by decide), ← ad]
          have x102 : gfI (mem W1 S2) (W1.ad (.o 13 0)) 13 102 = some (oI (sgA J)) := by rw [gfI_m h1.lo rfl, HF.1]
          have xa : (oI (sgA J) = (Int32.ofNat a)) = (sgA J = some a) := by
            cases es : sgA J with
            | none => exact propext ⟨fun q => absurd q.symm (n_nm (by omega)), fun q => absurd q (by simp)⟩
            | some b =>
              have := ls_lt es
              exact propext ⟨fun q => by rw [(n_eq (by omega) (by omega)).mp q], fun q => by rw [Option.some.inj q]; rfl⟩
          rw [x102, bO_s]
          simp only [xa]
          by_cases c1 : sgA J = some a
          · rw [if_pos c1] at hr
            have rd3' : aI G (mem W1 S2) 0 (W1.ad (.a 13 0 3)) (Int32.ofNat n) = some (Int32.ofNat (rows n).length) := by rw [h1.aN rfl (show n < mLen 3 from hn) (by decide), aS2.2.2.1 3 (by decide), w3]
            obtain ⟨o3, ho3⟩ : ∃ o3, o3 = (S2 13 0).sf 120 (Int32.ofNat (rows n).length) := ⟨_, rfl⟩
            have a3 : agr [120] [] [119] [] (S2 13 0) o3 := by rw [ho3]; exact agr_sf (by simp)
            obtain ⟨β119, b119⟩ := E2' 119 rfl
            have b119' : mB o3 119 β119 := by rw [ho3]; exact b119
            have w1' : mB o3 2 βr := a3.mB (aS2.mB w1 (by decide)) (by decide)
            have v := oM_move (G := G) (F := F) (W := W1) (S := S2) (o := o3) (k1 := 2) (k2 := 119) (p1 := 8192 * n) (p2 := 0) (cnt := (rows n).length) X1 h1 rfl rfl (by decide) (by decide) (by decide) (by show _ ≤ 65536; omega) (by show _ ≤ 8300; omega) (by omega) w1' b119'
            rw [w5] at v
            have v : P_X13_move G F (W1.ad (.a 13 0 2)) (Int32.ofNat (8192 * n)) (W1.ad (.a 13 0 119)) 0 (Int32.ofNat (rows n).length) (mem W1 (S2.so 13 0 o3)) = _ := v
            obtain ⟨o4, ho4⟩ : ∃ o4, o4 = o3.sA 119 (fun j => sb (wrB β119 0 (rows n) j)) := ⟨_, rfl⟩
            rw [← ho4] at v
            have b4 : mB o4 119 (wrB β119 0 (rows n)) := by rw [ho4]; exact mB_sA _ _ _
            have a4 : agr [120] [] [119] [] (S2 13 0) o4 := a3.trans (by rw [ho4]; exact agr_sA (by simp))
            have x120 : gfI (mem W1 (S2.so 13 0 o3)) (W1.ad (.o 13 0)) 13 120 = some (Int32.ofNat (rows n).length) := by rw [gfI_m h1.lo rfl, so_eq, ho3, sf_eq]
            have M4 : MO S2 o4 := (MO.of mk2 dg2 E2').ag a4 (by decide) (by decide) (fun q hq _ => by
              rw [List.mem_singleton] at hq
              rw [hq]
              exact ⟨_, b4⟩)
            have aS4 : agr tkF tkG tkA [33, 34] (S2 13 0) o4 := a4.mono (by simp [tkF]) (by simp) (by simp [tkA]) (by simp)
            obtain ⟨S', z1, z2, z3, z4⟩ := QM_sgn234 (G := G) (F := F) (W := W1) (S := S2) (o := o4) (A := A) (p := p) (r := r) (rows := rows) (hb := rows n) (bare := brB J) (y := y) X1 h1 hmm1 M4 aS4 ⟨a4.1 5 (by decide), a4.2.2.1 4 (by decide)⟩ ((KK.agr aS2 (by decide)).agr a4 (by decide)) hk e ha c (a4.mRows (aS2.mRows hR (by decide) (by decide)) (by decide) (by decide)) hp b4 (rdB_wrB _ _ _) (by rw [ho4, sA_f, ho3, sf_eq]) w4 (by rw [a4.1 104 (by decide)]; exact HF.2) hy rr hr (rows p).length 0 F false (by have := (w2 p hp).2.1; omega) (by omega) (by rw [List.take_zero]; rfl)
            have z1 : B_X13_sign_234 G F F (W1.ad (.o 13 0)) (Int32.ofNat k) (Int32.ofNat a) (Int32.ofNat p) y 0 0 (mem W1 (S2.so 13 0 o4)) = _ := z1
            refine ⟨W1, S', ?_, Or.inr rfl, MT2.trans z2, ?_, fun bk' J' q1 q2 q3 q4 => z4 bk' J' (by omega) q2 q3 ((kp2' bk' J' q1 q2 q3 q4).agr a4 (by decide))⟩
            · rw [if_pos c1, h1.gR 3 rfl (by decide), bO_s, rd3', bO_s, pfI_m h1.lo rfl, bO_s, ← ho3, h1.gR 2 rfl (by decide), bO_s, h1.gR 119 rfl (by decide), bO_s, x120, bO_s, v, bO_s]
              exact z1
            · revert z3
              cases rr with
              | inl vv => intro z3; exact ⟨z3.1.trans out2.1, z3.2.trans out2.2⟩
              | inr tt => exact id
          · rw [if_neg c1] at hr
            rw [if_neg c1, if_pos (by decide), hr]
            exact ⟨W1, S2, rfl, Or.inr rfl, MT2, out2, kp2'⟩
        · rw [if_neg c0] at hr
          exact bad (sgR J) hv (by rcases sgR_v J with q | q | q | q <;> rw [q] <;> first | exact absurd q c0 | decide) hr
  · have hr : rr = .inl (-26) := by
      rw [hr]
      unfold sgnV
      rw [if_neg c]
    rw [if_neg c, if_pos rfl, hr]
    exact ⟨W, S, rfl, Or.inl rfl, MT.refl mk dg E, ⟨rfl, rfl⟩, fun _ _ _ _ _ q => q⟩
theorem QM_sign {k a p r bk : Nat} {hd : Option Nat} {rows : Nat → List UInt8} {y : Int32} (X : Cx G F W) (h : isM W) (hmm : isMm W) (mk : MK S) (dg : mDig (S 13 0)) (E : mEv (S 13 0)) (KK : KM (S 13 0) A) (hR : mRows (S 13 0) rows) (h17 : (S 13 0).f 17 = (Int32.ofNat bk)) (hbk : bk ≤ 1) (hk : k < 16) (e : A k = some K) (ha : a < 5) (hh : ∀ n, hd = some n → n < 8) (hp : p < 8) (hy : 3 ≤ a → r < 8 ∧ y = (Int32.ofNat r)) (rr : Int32 ⊕ List UInt8) (hr : rr = sgnV a K (if 3 ≤ a then rows r else []) (hd.map rows) (rows p)) : ∃ W' S', P_X13_sign G F (W.ad (.o 13 0)) (Int32.ofNat k) (Int32.ofNat a) (oI hd) (Int32.ofNat p) y (mem W S) = some (ansT rr, mem W' S') ∧ (W' = W ∨ W' = W.sr 13 0 19 (.a 13 0 2)) ∧ MT S S' ∧ outM (S 13 0) (S' 13 0) rr ∧ kpT (1 - bk) (S 13 0) (S' 13 0) := by
  obtain ⟨W', S', g, rest⟩ := QM_sgn53 (G := G) (F := F) (S := S) (p := p) (r := r) X h hmm mk dg E KK hR h17 hbk hk e ha hh hp hy rr hr
  refine ⟨W', S', ?_, rest⟩
  have ik := oM_isKey (G := G) (F := F) (S := S) (o := S 13 0) h KK (Int32.ofNat k)
  rw [so_self] at ik
  have ikt : isk A (Int32.ofNat k) = true := by
    rcases isk_cases A (Int32.ofNat k) with ⟨q, _⟩ | ⟨k', hk', ek, e'⟩
    · rcases q with q | q
      · exact absurd q (nn (by omega))
      · have := (n_le (a := 16) (b := k) (by omega) (by omega)).mp q
        omega
    · have := (n_eq (by omega) (by omega)).mp ek
      subst this
      rw [e', e]
      rfl
  have x1 : (oI hd = (-1 : Int32)) = (hd = none) := oI_n (fun i hi => by have := hh i hi; omega)
  have b29 : B_X13_sign_29 G F (W.ad (.o 13 0)) (Int32.ofNat k) (Int32.ofNat a) (oI hd) (Int32.ofNat p) y (mem W S) = some (ansT rr, mem W' S') := by
    unfold B_X13_sign_29
    rw [Q13_isRow, bP_s, isr_i hp, if_pos rfl, if_neg (by decide)]
    by_cases c : 3 ≤ a
    · rw [if_neg (show ¬ (Int32.ofNat a) ≤ (2 : Int32) from fun q => by have := (n_le (b := 2) (by omega) (by omega)).mp q; omega), Q13_isRow, bP_s, (hy c).2, isr_i (hy c).1, if_pos rfl, if_neg (by decide), ← (hy c).2]
      exact g
    · rw [if_pos (show (Int32.ofNat a) ≤ (2 : Int32) from (n_le (b := 2) (by omega) (by omega)).mpr (by omega))]
      exact g
  unfold P_X13_sign
  rw [rcv_m h.lo, bO_s, ik, bP_s, ikt, if_pos rfl, if_neg (by decide), if_neg (nn (by omega)), if_neg (show ¬ (4 : Int32) < (Int32.ofNat a) from fun q => by have := (n_lt (a := 4) (by omega) (by omega)).mp q; omega)]
  simp only [x1]
  cases hd with
  | none =>
    rw [if_pos rfl]
    exact b29
  | some n =>
    rw [if_neg (by simp), Q13_isRow, bP_s, show oI (some n) = (Int32.ofNat n) from rfl, isr_i (hh n rfl), if_pos rfl, if_neg (by decide)]
    exact b29
theorem QM_sign_bad {k alg head pay rnd : Int32} (h : isM W) (KK : KM (S 13 0) A) (hb : sgnBad A k alg head pay rnd = true) : P_X13_sign G F (W.ad (.o 13 0)) k alg head pay rnd (mem W S) = some (-2, mem W S) := by
  have ik := oM_isKey (G := G) (F := F) (S := S) (o := S 13 0) h KK k
  rw [so_self] at ik
  unfold P_X13_sign sgnBad at *
  rw [rcv_m h.lo, bO_s, ik, bP_s]
  cases c1 : isk A k with
  | false => rw [if_neg Bool.false_ne_true, if_pos rfl]
  | true =>
    rw [c1] at hb
    rw [if_pos rfl, if_neg (by decide)]
    by_cases c2 : alg < 0
    · rw [if_pos c2]
    rw [if_neg c2]
    rw [decide_eq_false c2] at hb
    rcases i_cases alg with hx | ⟨a, hal, rfl⟩
    · exact absurd hx c2
    by_cases c3 : 5 ≤ a
    · rw [if_pos (show (4 : Int32) < (Int32.ofNat a) from (n_lt (a := 4) (by omega) hal).mpr (by omega))]
    · have d5 : decide ((5 : Int32) ≤ (Int32.ofNat a)) = false := decide_eq_false (fun q => by have := (n_le (a := 5) (by omega) hal).mp q; omega)
      rw [d5] at hb
      rw [if_neg (show ¬ (4 : Int32) < (Int32.ofNat a) from fun q => by have := (n_lt (a := 4) (by omega) hal).mp q; omega)]
      have b29 : (!isr pay || (decide ((Int32.ofNat a) = (3 : Int32) ∨ (Int32.ofNat a) = (4 : Int32)) && !isr rnd)) = true → B_X13_sign_29 G F (W.ad (.o 13 0)) k (Int32.ofNat a) head pay rnd (mem W S) = some (-2, mem W S) := by
        intro hb
        unfold B_X13_sign_29
        rw [Q13_isRow, bP_s]
        cases c5 : isr pay with
        | false => rw [if_neg Bool.false_ne_true, if_pos rfl]
        | true =>
          rw [c5] at hb
          have hb : (decide ((Int32.ofNat a) = (3 : Int32) ∨ (Int32.ofNat a) = (4 : Int32)) && !isr rnd) = true := hb
          rw [Bool.and_eq_true, decide_eq_true_iff] at hb
          have a3 : 3 ≤ a := by
            rcases hb.1 with q | q
            · have := (n_eq (b := 3) hal (by omega)).mp q
              omega
            · have := (n_eq (b := 4) hal (by omega)).mp q
              omega
          rw [if_pos rfl, if_neg (by decide), if_neg (show ¬ (Int32.ofNat a) ≤ (2 : Int32) from fun q => by have := (n_le (b := 2) hal (by omega)).mp q; omega), Q13_isRow, bP_s]
          cases c6 : isr rnd with
          | false => rw [if_neg Bool.false_ne_true, if_pos rfl]
          | true => rw [c6] at hb; exact absurd hb.2 (by decide)
      by_cases c4 : head = -1
      · rw [if_pos c4]
        rw [decide_eq_true c4] at hb
        exact b29 hb
      · rw [if_neg c4, Q13_isRow, bP_s]
        rw [decide_eq_false c4] at hb
        cases c6 : isr head with
        | false => rw [if_neg Bool.false_ne_true, if_pos rfl]
        | true =>
          rw [c6] at hb
          rw [if_pos rfl, if_neg (by decide)]
          exact b29 hb
end MS2
