/-! isSigned: the model -/
abbrev viL : List Nat := [31, 32, 35, 36, 40, 60, 61, 62, 67, 68, 69, 70, 71, 72, 74, 75, 76, 77, 78, 79, 81, 82, 114, 115, 116, 117, 118]
theorem seg_two {xs : List UInt8} (h : xs.length = 64) : seg xs 0 32 ++ seg xs 32 32 = xs := by
  unfold seg
  rw [List.drop_zero, List.take_of_length_le (l := xs.drop 32) (by rw [List.length_drop]; omega)]
  exact List.take_append_drop 32 xs
section MVR
variable {W : WR} {G : mG} {F : Nat} {S : ST} {A : Nat → Option KY} {K : KY}
theorem QM_isSigned {k a : Nat} {msg sg : List UInt8} {β112 : Nat → UInt8} (X : Cx G F W) (h : isM W) (hmm : isMm W) (mk : MK S) (KK : KM (S 13 0) A) (hk : k < 16) (e : A k = some K) (ha : a < 5) (hm : maySg K a false = true) (hd : mDig (S 13 0)) (hmsg : mMsg (S 13 0) msg) (E : mEv (S 13 0)) (b112 : mB (S 13 0) 112 β112) (r112 : rdB β112 0 sg.length = sg) (f113 : (S 13 0).f 113 = (Int32.ofNat sg.length)) (hsl : sg.length ≤ 8192) : ∃ S', P_X13_isSigned G F (W.ad (.o 13 0)) (Int32.ofNat k) (Int32.ofNat a) (mem W S) = some (if svF a K msg sg = true then 1 else 0, mem W S') ∧ fr [(12, 0), (12, 1), (12, 2), (13, 0)] S S' ∧ agr [37, 73] [] viL [33, 34] (S 13 0) (S' 13 0) ∧ MK S' ∧ mDig (S' 13 0) ∧ mEv (S' 13 0) := by
  obtain ⟨α85, α87, α89, b85, b87, b89, ⟨k1, k2, k3, k4⟩, ⟨l1, r1⟩, ⟨l2, r2⟩, ⟨l3, r3⟩, V⟩ := KK.at_ hk e
  obtain ⟨kd1, kd2, _⟩ := maySg_kd hm
  have hp : isMp W := ⟨hmm.2.1, hmm.2.2.2.2.1, h⟩
  have hn : isMn W := ⟨hmm.2.2.1, hmm.2.2.2.2.2⟩
  have e128 : (128 : Int32) * (Int32.ofNat k) = (Int32.ofNat (128 * k)) := n_mul 128 k
  have rd86 : aI G (mem W S) 0 (W.ad (.a 13 0 86)) (Int32.ofNat k) = some (Int32.ofNat (Ma K).length) := by rw [h.aN rfl (show k < mLen 86 from hk) (by decide), k2]
  have mk0 : MK (S.so 13 0 (S 13 0)) := by rw [so_self]; exact mk
  have x113 : gfI (mem W S) (W.ad (.o 13 0)) 13 113 = some (Int32.ofNat sg.length) := by rw [gfI_m h.lo rfl, f113]
  have stay : ∀ P : Option (Int32 × mM), P = some (0, mem W S) → svF a K msg sg = false → ∃ S', P = some (if svF a K msg sg = true then 1 else 0, mem W S') ∧ fr [(12, 0), (12, 1), (12, 2), (13, 0)] S S' ∧ agr [37, 73] [] viL [33, 34] (S 13 0) (S' 13 0) ∧ MK S' ∧ mDig (S' 13 0) ∧ mEv (S' 13 0) := by
    intro P hP hv
    exact ⟨S, by rw [hP, hv]; rfl, fr.refl _ _, agr.refl _ _ _ _ _, mk, hd, E⟩
  -- codes
  have code : ∀ wide : Bool, a = (if wide = true then 1 else 0) → ∃ S', B_X13_isSigned_26 G F (W.ad (.o 13 0)) (Int32.ofNat k) (Int32.ofNat (Ma K).length) (W.ad (.o 13 0)) (if wide = true then 512 else 256) (mem W S) = some (if svF a K msg sg = true then 1 else 0, mem W S') ∧ fr [(12, 0), (12, 1), (12, 2), (13, 0)] S S' ∧ agr [37, 73] [] viL [33, 34] (S 13 0) (S' 13 0) ∧ MK S' ∧ mDig (S' 13 0) ∧ mEv (S' 13 0) := by
    intro wide hw
    have kd : K.1 = 0 := by rw [kd1, hw]; cases wide <;> rfl
    have em : Ma K = K.2.1.1 := by unfold Ma; rw [if_neg (by omega)]
    have es : svF a K msg sg = decide (hmac wide K.2.1.1 msg = sg) := by
      unfold svF
      cases wide with
      | false => rw [if_pos (show a = 0 from hw)]
      | true => rw [if_neg (show ¬ a = 0 by rw [hw]; decide), if_pos (show a = 1 from hw)]
    obtain ⟨⟨γ, hγ⟩, ⟨μ, hμ⟩, ⟨π, hπ⟩, ν, hν⟩ := id hd
    obtain ⟨o1, δ, g1, c1, ⟨π', c2⟩, ⟨μ', c3⟩, a1⟩ := oM_codeOf (G := G) (F := F) (S := S) (o := S 13 0) (wide := wide) (k := 85) (p := 128 * k) (cnt := (Ma K).length) X h rfl (by decide) (by decide) (by show _ ≤ 2048; omega) (by omega) b85 hπ hγ hμ hmsg
    rw [so_self] at g1
    rw [r1, em] at c1
    have hl := hmac_len wide K.2.1.1 msg
    have hl2 : (hmac wide K.2.1.1 msg).length ≤ 64 := by rw [hl]; cases wide <;> decide
    have sz : (if wide = true then (64 : Int32) else 32) = (Int32.ofNat (hmac wide K.2.1.1 msg).length) := by rw [hl]; cases wide <;> rfl
    rw [sz] at g1
    have d1 : mDig o1 := ⟨⟨_, c1⟩, ⟨_, c3⟩, ⟨_, c2⟩, ν, a1.mB hν (by decide)⟩
    have E1 : mEv o1 := E.keep a1 (fun q hq z => by
      simp only [List.mem_cons, List.not_mem_nil, or_false] at hq
      rcases hq with rfl | rfl | rfl | rfl | rfl
      · exact d1.2.1
      · exact absurd z (by decide)
      · exact absurd z (by decide)
      · exact d1.1
      · exact d1.2.2.1)
    have x113' : gfI (mem W (S.so 13 0 o1)) (W.ad (.o 13 0)) 13 113 = some (Int32.ofNat sg.length) := by rw [gfI_m h.lo rfl, so_eq, a1.1 113 (by decide), f113]
    refine ⟨S.so 13 0 o1, ?_, fr_so (by simp), by rw [so_eq]; exact a1.mono (by simp) (by simp) (by simp [viL]) (by simp), mk0.agL a1 (by decide), by rw [so_eq]; exact d1, by rw [so_eq]; exact E1⟩
    rw [es]
    unfold B_X13_isSigned_26
    rw [h.gR 85 rfl (by decide), bO_s, rcv_m h.lo, bO_s, e128, g1, bP_s, x113', bO_s]
    have xl : ((Int32.ofNat sg.length) = (Int32.ofNat (hmac wide K.2.1.1 msg).length)) = (sg.length = (hmac wide K.2.1.1 msg).length) := propext (n_eq (by omega) (by omega))
    simp only [xl]
    by_cases c : sg.length = (hmac wide K.2.1.1 msg).length
    · have sm := QM_same (G := G) (F := F) (S := S.so 13 0 o1) (k1 := 112) (k2 := 35) (p1 := 0) (p2 := 0) (n := (hmac wide K.2.1.1 msg).length) X h rfl rfl (by decide) (by decide) (by show _ ≤ 8200; omega) (by show _ ≤ 64; omega) (by rw [so_eq]; exact a1.mB b112 (by decide)) (by rw [so_eq]; exact c1) (by omega)
      rw [← c, r112, c, rdB_wrB] at sm
      have sm : P_X13_same G F (W.ad (.a 13 0 112)) 0 (W.ad (.a 13 0 35)) 0 (Int32.ofNat (hmac wide K.2.1.1 msg).length) (mem W (S.so 13 0 o1)) = _ := sm
      rw [if_pos c, h.gR 112 rfl (by decide), bO_s, h.gR 35 rfl (by decide), bO_s, sm, bP_s]
      by_cases d : sg = hmac wide K.2.1.1 msg
      · rw [if_pos d, if_neg (by decide), decide_eq_true d.symm]
        rfl
      · rw [if_neg d, if_pos rfl, decide_eq_false (fun q => d q.symm)]
        rfl
    · rw [if_neg c, decide_eq_false (fun q => c (by rw [q]))]
      rfl
  have x2 : ((2 : Int32) ≤ (Int32.ofNat a)) = (2 ≤ a) := propext (n_le (a := 2) (by omega) (by omega))
  have x0 : ((Int32.ofNat a) = (0 : Int32)) = (a = 0) := propext (n_eq (b := 0) (by omega) (by omega))
  have x3 : ((Int32.ofNat a) = (3 : Int32)) = (a = 3) := propext (n_eq (b := 3) (by omega) (by omega))
  have x4 : ((Int32.ofNat a) = (4 : Int32)) = (a = 4) := propext (n_eq (b := 4) (by omega) (by omega))
  unfold P_X13_isSigned
  rw [h.gR 86 rfl (by decide), bO_s, rd86, bO_s]
  simp only [x2, x0, x3, x4]
  by_cases c2 : 2 ≤ a
  · rw [if_pos c2]
    by_cases c4 : a = 4
    · have kd : K.1 = 2 := by rw [kd1, c4]; rfl
      have p64 := V.p64 kd
      have on := (V.ec kd).1
      have em : Ma K = seg K.2.1.1 0 32 := by unfold Ma; rw [if_pos kd]
      have ee : Me K = seg K.2.1.1 32 32 := by unfold Me; rw [if_pos kd]
      have la : (Ma K).length = 32 := by rw [em, seg_len (by omega)]
      have le : (Me K).length = 32 := by rw [ee, seg_len (by omega)]
      rw [la, em] at r1
      rw [le, ee] at r2
      have es : svF a K msg sg = verF (sha false msg) sg K.2.1.1 := by
        unfold svF
        rw [if_neg (by omega), if_neg (by omega), if_neg (by omega), if_neg (by omega)]
      have x64 : ((Int32.ofNat sg.length) = (64 : Int32)) = (sg.length = 64) := propext (n_eq (b := 64) (by omega) (by omega))
      rw [if_pos c4, x113, bO_s]
      simp only [x64]
      by_cases c64 : sg.length = 64
      · rw [c64] at r112
        obtain ⟨S', g1, g2, g3, g4, g5, g6, g7⟩ := QM_isSignedPoint7 (G := G) (F := F) (k := k) (msg := msg) pr_p X h hp hn mk hd hmsg (E 79 rfl) (E 114 rfl) (E 115 rfl) b112 b85 b87 hk (by rw [r1, r2]; exact on)
        rw [r112, r1, r2, seg_two p64] at g1
        have e67 := g3.2.2.2.2.2
        rw [if_pos c64, rcv_m h.lo, bO_s, g1, bP_s]
        refine ⟨S', ?_, g2.1.mono (by simp), g2.2.mono (by simp) (by simp) (by simp [viL]) (by simp), g3, g4, ?_⟩
        · rw [es]
          by_cases c : verF (sha false msg) sg K.2.1.1 = true
          · rw [if_pos c, if_neg (by decide)]
            rfl
          · rw [if_neg c, if_pos rfl]
            rfl
        · refine E.keep g2.2 (fun q hq z => ?_)
          simp only [SGL7, List.mem_cons, List.not_mem_nil, or_false] at hq
          rcases hq with rfl | rfl | rfl | rfl | rfl | rfl | rfl | rfl | rfl | rfl | rfl | rfl | rfl | rfl | rfl | rfl | rfl | rfl | rfl | rfl | rfl | rfl | rfl
          · exact g4.2.1
          · exact absurd z (by decide)
          · exact absurd z (by decide)
          · exact g4.1
          · exact absurd z (by decide)
          · exact absurd z (by decide)
          · exact absurd z (by decide)
          · exact absurd z (by decide)
          · exact absurd z (by decide)
          · exact e67
          · exact absurd z (by decide)
          · exact absurd z (by decide)
          · exact absurd z (by decide)
          · exact absurd z (by decide)
          · exact absurd z (by decide)
          · exact absurd z (by decide)
          · exact absurd z (by decide)
          · exact absurd z (by decide)
          · exact absurd z (by decide)
          · exact absurd z (by decide)
          · exact g5
          · exact g6
          · exact g7
      · rw [if_neg c64]
        refine stay _ rfl ?_
        rw [es]
        unfold verF
        rw [decide_eq_false c64, Bool.false_and]
    · rw [if_neg c4]
      have kd : K.1 = 1 := by
        rw [kd1]
        unfold sgKd
        rw [if_neg (by omega), if_pos (by omega)]
      obtain ⟨v1, v2, v3, v4⟩ := V.rsa kd
      have em : Ma K = K.2.1.1 := by unfold Ma; rw [if_neg (by omega)]
      have ee : Me K = K.2.1.2.1 := by unfold Me; rw [if_neg (by omega)]
      have n128 : K.2.1.1.length ≤ 128 := by rw [← em]; exact l1
      have g0 : gN K.2.1.1 0 ≠ 0 := (of_decide_eq_true v1).2.2.1
      obtain ⟨y1, y2, y3⟩ := bitT_of g0
      rw [em] at r1 l1 k2
      rw [ee] at r2 l2 k3
      have nn_ : numF sg K.2.1.1 = false → svF a K msg sg = false := by
        intro q
        unfold svF
        rw [if_neg (by omega), if_neg (by omega)]
        by_cases c3 : a = 2
        · rw [if_pos c3]
          unfold pkV
          rw [q, Bool.false_and]
        · rw [if_neg c3, if_pos (by omega), q, Bool.false_and]
      have xl : ((Int32.ofNat sg.length) = (Int32.ofNat (K.2.1.1.length))) = (sg.length = K.2.1.1.length) := propext (n_eq (by omega) (by omega))
      rw [x113, bO_s, em]
      simp only [xl]
      by_cases cl : sg.length = K.2.1.1.length
      · have ib := QM_isBelow (G := G) (F := F) (S := S) (kb := 112) (p := 0) (k := k) (n := K.2.1.1.length) X h rfl (by decide) (by show _ ≤ 8200; omega) b112 b85 hk n128 k2
        rw [← cl, r112, cl, r1] at ib
        have ib : P_X13_isBelow G F (W.ad (.o 13 0)) (W.ad (.a 13 0 112)) 0 (Int32.ofNat k) (mem W S) = _ := ib
        rw [if_pos cl, h.gR 112 rfl (by decide), bO_s, rcv_m h.lo, bO_s, ib, bP_s]
        by_cases cn : numF sg K.2.1.1 = true
        · rw [if_pos cn, if_neg (by decide)]
          obtain ⟨β62, h62⟩ := E 62 rfl
          obtain ⟨S1, q1, q2, q3, q4⟩ := QM_raise (G := G) (F := F) (S := S) (kb := 112) (pb := 0) (sb_ := K.2.1.1.length) (ke := 87) (pe := 128 * k) (se := K.2.1.2.1.length) (km := 85) (pm := 128 * k) (sm := K.2.1.1.length) X h hmm rfl rfl rfl (by decide) (by decide) (by decide) (by decide) (by decide) (by decide) (by show _ ≤ 8200; omega) (by show _ ≤ 2048; omega) (by show _ ≤ 2048; omega) (by omega) (by omega) b112 b87 b85 h62 (by rw [r1]; exact v1)
          rw [r1, r2, ← cl, r112] at q4
          have q1 : P_X13_raise G F (W.ad (.o 13 0)) (W.ad (.a 13 0 112)) 0 (Int32.ofNat (K.2.1.1.length)) (W.ad (.a 13 0 87)) (Int32.ofNat (128 * k)) (Int32.ofNat (K.2.1.2.1.length)) (W.ad (.a 13 0 85)) (Int32.ofNat (128 * k)) (Int32.ofNat (K.2.1.1.length)) (mem W S) = _ := q1
          have rd88 : aI G (mem W S) 0 (W.ad (.a 13 0 88)) (Int32.ofNat k) = some (Int32.ofNat (K.2.1.2.1.length)) := by rw [h.aN rfl (show k < mLen 88 from hk) (by decide), k3]
          have d1 : mDig (S1 13 0) := q3.mDig hd (by decide)
          have mk1 : MK S1 := mk.rs3 q2 q3
          have E1 : mEv (S1 13 0) := E.keep q3 (fun q hq z => by
            simp only [List.mem_cons, List.not_mem_nil, or_false] at hq
            rcases hq with rfl | rfl | rfl
            · exact absurd z (by decide)
            · exact absurd z (by decide)
            · exact ⟨_, q4⟩)
          have hm1 : mMsg (S1 13 0) msg := q3.mMsg hmsg (by decide) (by decide)
          have yl := powF_len sg K.2.1.2.1 K.2.1.1
          have r62 : rdB (wrB β62 0 (powF sg K.2.1.2.1 K.2.1.1)) 0 K.2.1.1.length = powF sg K.2.1.2.1 K.2.1.1 := by rw [← yl]; exact rdB_wrB _ _ _
          have mk1' : MK (S1.so 13 0 (S1 13 0)) := by rw [so_self]; exact mk1
          have fin : ∀ (o : Ob) (P : Option (Int32 × mM)) (b : Bool), P = some (if b = true then 1 else 0, mem W (S1.so 13 0 o)) → svF a K msg sg = b → agr [37] [] soL [33, 34] (S1 13 0) o → mDig o → (∃ β, mB o 81 β) → (∃ β, mB o 82 β) → ∃ S', P = some (if svF a K msg sg = true then 1 else 0, mem W S') ∧ fr [(12, 0), (12, 1), (12, 2), (13, 0)] S S' ∧ agr [37, 73] [] viL [33, 34] (S 13 0) (S' 13 0) ∧ MK S' ∧ mDig (S' 13 0) ∧ mEv (S' 13 0) := by
            intro o P b hP hb ao d2 e81 e82
            have E2 : mEv o := E1.keep ao (fun q hq z => by
              simp only [soL, List.mem_cons, List.not_mem_nil, or_false] at hq
              rcases hq with rfl | rfl | rfl | rfl | rfl | rfl
              · exact d2.2.1
              · exact absurd z (by decide)
              · exact absurd z (by decide)
              · exact d2.1
              · exact e81
              · exact e82)
            refine ⟨S1.so 13 0 o, by rw [hP, hb], (q2.mono (by simp)).trans (fr_so (by simp)), ?_, mk1'.agL ao (by decide), by rw [so_eq]; exact d2, by rw [so_eq]; exact E2⟩
            rw [so_eq]
            exact (q3.mono (by simp) (by simp) (by simp [viL]) (by simp)).trans (ao.mono (by simp) (by simp) (by simp [viL, soL]) (by simp))
          rw [h.gR 112 rfl (by decide), bO_s, h.gR 87 rfl (by decide), bO_s, h.gR 88 rfl (by decide), bO_s, rd88, bO_s, h.gR 85 rfl (by decide), bO_s, rcv_m h.lo, bO_s, e128, q1, bO_s]
          by_cases c3 : a = 3
          · have l67 : 67 ≤ K.2.1.1.length := by rw [c3] at kd2; exact kd2
            have bo : P_X13_bitsOf G F (W.ad (.a 13 0 85)) (Int32.ofNat (128 * k)) (Int32.ofNat (K.2.1.1.length)) (mem W S1) = some ((Int32.ofNat (8 * (K.2.1.1.length - 1) + (bitT K.2.1.1 + 1))), mem W S1) := by
              have f0 : (α85 (128 * k)).toNat = gN K.2.1.1 0 := by
                have q : gN (rdB α85 (128 * k) K.2.1.1.length) 0 = gN K.2.1.1 0 := congrArg (fun l => gN l 0) r1
                rw [← q]
                unfold gN
                rw [List.getD_eq_getElem?_getD, rdB_at (by omega), Nat.add_zero]
                rfl
              exact QM_bitsOf X h rfl (by decide) (by show _ < 2048; omega) (q3.mB b85 (by decide)) y1 (by rw [f0]; exact y2) (by rw [f0]; exact y3) (by omega)
            obtain ⟨o1, s1, s2, s3, s4, s5⟩ := oM_isSalted (G := G) (F := F) (S := S1) (o := S1 13 0) (n := K.2.1.1.length) (bits := 8 * (K.2.1.1.length - 1) + bitT K.2.1.1) X h d1 hm1 q4 r62 (by omega) (by omega) n128 (E1 81 rfl) (E1 82 rfl)
            rw [so_self] at s1
            rw [if_pos c3, h.gR 85 rfl (by decide), bO_s, bo, bP_s, rcv_m h.lo, bO_s, show 8 * (K.2.1.1.length - 1) + (bitT K.2.1.1 + 1) = 8 * (K.2.1.1.length - 1) + bitT K.2.1.1 + 1 by omega, n_subL 1 (by omega), show 8 * (K.2.1.1.length - 1) + bitT K.2.1.1 + 1 - 1 = 8 * (K.2.1.1.length - 1) + bitT K.2.1.1 by omega, s1, bP_s]
            refine fin o1 _ (psV (sha false msg) (powF sg K.2.1.2.1 K.2.1.1) (8 * (K.2.1.1.length - 1) + bitT K.2.1.1)) (by split <;> rfl) ?_ s5 s2 s3 s4
            unfold svF
            rw [if_neg (by omega), if_neg (by omega), if_neg (by omega), if_pos c3, cn, Bool.true_and]
          · have c2' : a = 2 := by omega
            obtain ⟨o1, β, s1, s2, s3, s4, s5⟩ := QM_fillOut (G := G) (F := F) (S := S1) (n := K.2.1.1.length) X h d1 hm1 (E1 82 rfl) (by omega) n128
            have sm := QM_same (G := G) (F := F) (S := S1.so 13 0 o1) (k1 := 62) (k2 := 82) (p1 := 0) (p2 := 0) (n := K.2.1.1.length) X h rfl rfl (by decide) (by decide) (by show _ ≤ 128; omega) (by show _ ≤ 128; omega) (by rw [so_eq]; exact s5.mB q4 (by decide)) (by rw [so_eq]; exact s2) (by omega)
            rw [r62, s3] at sm
            have sm : P_X13_same G F (W.ad (.a 13 0 62)) 0 (W.ad (.a 13 0 82)) 0 (Int32.ofNat (K.2.1.1.length)) (mem W (S1.so 13 0 o1)) = _ := sm
            obtain ⟨β81, h81⟩ := E1 81 rfl
            rw [if_neg c3, rcv_m h.lo, bO_s, s1, bO_s, h.gR 62 rfl (by decide), bO_s, h.gR 82 rfl (by decide), bO_s, sm, bP_s]
            refine fin o1 _ (decide (powF sg K.2.1.2.1 K.2.1.1 = pkF (sha false msg) K.2.1.1.length)) ?_ ?_ (s5.mono (by simp) (by simp) (by simp [soL]) (by simp)) s4 ⟨_, s5.mB h81 (by decide)⟩ ⟨_, s2⟩
            · by_cases c : powF sg K.2.1.2.1 K.2.1.1 = pkF (sha false msg) K.2.1.1.length
              · rw [if_pos c, decide_eq_true c]
                rfl
              · rw [if_neg c, decide_eq_false c]
                rfl
            · unfold svF
              rw [if_neg (by omega), if_neg (by omega), if_pos c2']
              unfold pkV
              rw [cn, Bool.true_and]
              exact decide_eq_decide.mpr ⟨fun q => q.symm, fun q => q.symm⟩
        · rw [if_neg cn, if_pos rfl]
          exact stay _ rfl (nn_ (Bool.eq_false_iff.mpr cn))
      · rw [if_neg cl]
        refine stay _ rfl (nn_ ?_)
        unfold numF
        exact decide_eq_false (fun q => cl q.1)
  · rw [if_neg c2]
    by_cases c0 : a = 0
    · rw [if_pos c0]
      exact code false c0
    · rw [if_neg c0]
      exact code true (show a = 1 by omega)
end MVR
