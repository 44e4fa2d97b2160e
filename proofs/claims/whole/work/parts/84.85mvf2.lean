/-! CALL verify: the model, from its row on -/
theorem ptX0 {xs : List UInt8} (h : 0 < (ptA xs).length) : ptX xs 0 = seg xs 0 ((ptA xs).getD 0 0) := by
  unfold ptX peP seg
  rw [if_neg (by omega)]
  rfl
theorem ptXm {xs : List UInt8} {t : Nat} (h : t + 1 < (ptA xs).length) : ptX xs (t + 1) = seg xs ((ptA xs).getD t 0 + 1) ((ptA xs).getD (t + 1) 0 - ((ptA xs).getD t 0 + 1)) := by
  unfold ptX peP seg
  rw [if_neg (by omega)]
  rfl
theorem ptXe {xs : List UInt8} {t : Nat} (h : t + 1 = (ptA xs).length) : ptX xs (t + 1) = seg xs ((ptA xs).getD t 0 + 1) (xs.length - ((ptA xs).getD t 0 + 1)) := by
  unfold ptX peP seg
  rw [if_pos h]
  rfl
section MV2
variable {W : WR} {G : mG} {F : Nat} {S : ST} {A : Nat → Option KY} {bk : Nat}
theorem oM_unlet {o : Ob} {k1 k2 p1 cnt : Nat} {β1 : Nat → UInt8} {xs : List UInt8} (X : Cx G F W) (h : isM W) (q1 : (kdA 13)[k1]? = some 1) (q2 : (kdA 13)[k2]? = some 1) (hne : k1 ≠ k2) (l1 : mLen k1 < 2 ^ 30) (l2 : mLen k2 < 2 ^ 30) (b1 : p1 + cnt ≤ mLen k1) (b2 : cnt ≤ mLen k2) (hc : cnt < 90000) (h1 : mB o k1 β1) (h2 : ∃ β, mB o k2 β) (hx : rdB β1 p1 cnt = xs) : ∃ o', P_X13_unletter G F (W.ad (.o 13 0)) (W.ad (.a 13 0 k1)) (Int32.ofNat p1) (Int32.ofNat cnt) (W.ad (.a 13 0 k2)) 0 (mem W (S.so 13 0 o)) = some (if fltF xs = none then (Int32.ofNat (dec xs).length) else -1, mem W (S.so 13 0 o')) ∧ agr [29] [] [k2] [] o o' ∧ ∃ β', mB o' k2 β' ∧ (fltF xs = none → rdB β' 0 (dec xs).length = dec xs) := by
  obtain ⟨β2, h2⟩ := h2
  obtain ⟨β', v, g, z1, z2⟩ := QM_unletter (G := G) (F := F) (S := S.so 13 0 o) (k1 := k1) (k2 := k2) (p1 := p1) (p2 := 0) (cnt := cnt) X h q1 q2 hne l1 l2 b1 (by omega) hc (by rw [so_eq]; exact h1) (by rw [so_eq]; exact h2)
  rw [hx] at g z1
  rw [so_so, so_eq] at g
  refine ⟨un o k2 β' v, g, ?_, β', ?_, fun q => ?_⟩
  · unfold un
    exact (agr_sA (by simp)).trans (agr_sf (by simp))
  · show ((o.sA k2 (fun j => sb (β' j))).sf 29 v).a k2 = _
    exact mB_sA o k2 β'
  · rw [z1 q]
    exact rdB_wrB _ _ _
theorem QM_verify {r : Nat} {rows : Nat → List UInt8} (X : Cx G F W) (h : isM W) (hmm : isMm W) (mk : MK S) (dg : mDig (S 13 0)) (E : mEv (S 13 0)) (KK : KM (S 13 0) A) (hR : mRows (S 13 0) rows) (h17 : (S 13 0).f 17 = (Int32.ofNat bk)) (hbk : bk ≤ 1) (hr : r < 8) : ∃ W' S', P_X13_verify G F (W.ad (.o 13 0)) (Int32.ofNat r) (mem W S) = some ((vrfW A (rows r)).1, mem W' S') ∧ (W' = W ∨ W' = W.sr 13 0 19 (.a 13 0 119)) ∧ MT S S' ∧ outO (S 13 0) (S' 13 0) (vrfW A (rows r)).2 ∧ kpT (1 - bk) (S 13 0) (S' 13 0) := by
  have hF := X.hF
  obtain ⟨βr, w1, w2⟩ := id hR
  obtain ⟨w3, w4, w5⟩ := w2 r hr
  have e8 : (8192 : Int32) * (Int32.ofNat r) = (Int32.ofNat (8192 * r)) := n_mul 8192 r
  obtain ⟨o1, g1, a1, q1⟩ := oM_points (G := G) (F := F) (S := S) (o := S 13 0) X h hr hR
  rw [so_self] at g1
  have M0 := MO.of mk dg E
  have M1 : MO S o1 := M0.ag a1 (by decide) (by decide) (fun q hq z => by
    rw [List.mem_singleton] at hq
    rw [hq] at z
    exact absurd z (by decide))
  have rd123 : ∀ (S' : ST) (W' : WR) (t : Nat), isM W' → t < 6 → (S' 13 0).a 123 = o1.a 123 → t < (ptA (rows r)).length → aI G (mem W' S') 0 (W'.ad (.a 13 0 123)) (Int32.ofNat t) = some (Int32.ofNat ((ptA (rows r)).getD t 0)) := fun S' W' t h' ht e hl => by
    rw [h'.aN rfl (show t < mLen 123 from ht) (by decide), e, q1 t hl ht]
  have sg : ∀ (p n : Nat), p + n ≤ (rows r).length → rdB βr (8192 * r + p) n = seg (rows r) p n := fun p n hp => by
    rw [← w5, seg_rd hp]
  unfold P_X13_verify
  rw [Q13_isRow, bP_s, isr_i hr, if_pos rfl, if_neg (by decide), rcv_m h.lo, bO_s, g1, bP_s]
  have xl : (ptA (rows r)).length ≤ (rows r).length := pts_le _ _
  have x2 : ((Int32.ofNat (ptA (rows r)).length) = (2 : Int32)) = ((ptA (rows r)).length = 2) := propext (n_eq (b := 2) (by omega) (by omega))
  simp only [x2]
  by_cases c2 : (ptA (rows r)).length = 2
  · have L0 := ptA_lt (xs := rows r) (t := 0) (by omega)
    have L1 := ptA_lt (xs := rows r) (t := 1) (by omega)
    have L01 := pts_up (rows r).length 0 0 (by show 0 + 1 < (ptA (rows r)).length; omega)
    have L01 : (ptA (rows r)).getD 0 0 < (ptA (rows r)).getD 1 0 := L01
    have e0 := ptX0 (xs := rows r) (by omega)
    have e1 := ptXm (xs := rows r) (t := 0) (by omega)
    have e2 := ptXe (xs := rows r) (t := 1) (by omega)
    have em : msgB (rows r) = (rows r).take ((ptA (rows r)).getD 1 0) := by
      unfold msgB peP
      rw [if_neg (by omega)]
    obtain ⟨p0, hp0⟩ : ∃ p0, p0 = (ptA (rows r)).getD 0 0 := ⟨_, rfl⟩
    obtain ⟨p1, hp1⟩ : ∃ p1, p1 = (ptA (rows r)).getD 1 0 := ⟨_, rfl⟩
    have e1 : ptX (rows r) 1 = seg (rows r) (p0 + 1) (p1 - (p0 + 1)) := by rw [hp0, hp1]; exact e1
    have e2 : ptX (rows r) 2 = seg (rows r) (p1 + 1) ((rows r).length - (p1 + 1)) := by rw [hp1]; exact e2
    rw [← hp0] at e0 L0 L01
    rw [← hp1] at em L1 L01
    obtain ⟨o2, g2, a2, β2, b2, z2⟩ := oM_unlet (G := G) (F := F) (S := S) (o := o1) (k1 := 2) (k2 := 119) (p1 := 8192 * r) (cnt := p0) (xs := ptX (rows r) 0) X h rfl rfl (by decide) (by decide) (by decide) (by show _ ≤ 65536; omega) (by show _ ≤ 8300; omega) (by omega) (a1.mB w1 (by decide)) (M1.2.2 119 rfl) (by rw [e0]; exact sg 0 p0 (by omega))
    have pl0 : (ptX (rows r) 0).length ≤ 8192 := by rw [e0, seg_len (by omega)]; omega
    have dl0 := dec_len (ptX (rows r) 0)
    obtain ⟨o3, ho3⟩ : ∃ o3, o3 = o2.sf 120 (if fltF (ptX (rows r) 0) = none then (Int32.ofNat (dec (ptX (rows r) 0)).length) else -1) := ⟨_, rfl⟩
    have a3 : agr [29, 120] [] [119] [] o1 o3 := (a2.mono (by simp) (by simp) (by simp) (by simp)).trans (by rw [ho3]; exact agr_sf (by simp))
    have b3 : mB o3 119 β2 := by rw [ho3]; exact b2
    have M3 : MO S o3 := M1.ag a3 (by decide) (by decide) (fun q hq _ => by
      rw [List.mem_singleton] at hq
      rw [hq]
      exact ⟨_, b3⟩)
    have aS3 : agr [29, 120] [] [119, 123] [] (S 13 0) o3 := (a1.mono (by simp) (by simp) (by simp) (by simp)).trans (a3.mono (by simp) (by simp) (by simp) (by simp))
    have rd0 : aI G (mem W (S.so 13 0 o1)) 0 (W.ad (.a 13 0 123)) 0 = some (Int32.ofNat p0) := by
      have q := rd123 (S.so 13 0 o1) W 0 h (by decide) (by rw [so_eq]) (by omega)
      rw [← hp0] at q
      exact q
    have x120 : gfI (mem W (S.so 13 0 o3)) (W.ad (.o 13 0)) 13 120 = some (if fltF (ptX (rows r) 0) = none then (Int32.ofNat (dec (ptX (rows r) 0)).length) else -1) := by rw [gfI_m h.lo rfl, so_eq, ho3, sf_eq]
    have kp3 : kpT (1 - bk) (S 13 0) ((S.so 13 0 o3) 13 0) := fun bk' J' _ _ _ q => by rw [so_eq]; exact q.agr aS3 (by decide)
    have out3 : o3.f 5 = (S 13 0).f 5 ∧ o3.a 4 = (S 13 0).a 4 := ⟨aS3.1 5 (by decide), aS3.2.2.1 4 (by decide)⟩
    rw [if_pos c2, h.gR 2 rfl (by decide), bO_s, h.gR 123 rfl (by decide), bO_s, rd0, bO_s, h.gR 119 rfl (by decide), bO_s, rcv_m h.lo, bO_s, e8, g2, bP_s, pfI_m h.lo rfl, bO_s, so_eq, so_so, ← ho3, x120, bO_s]
    by_cases c0 : fltF (ptX (rows r) 0) = none
    · obtain ⟨hb, hhb⟩ : ∃ hb, hb = dec (ptX (rows r) 0) := ⟨_, rfl⟩
      have z2 := z2 c0
      rw [← hhb] at z2 dl0
      obtain ⟨S4, g4, f4, a4, kp4, mk4, E4, b15, q4⟩ := QM_headOf (G := G) (F := F) (S := S.so 13 0 o3) (bk := bk) (ks := 119) (p0 := 0) (s := hb) (sl := false) (α := β2) X h hmm M3.1 rfl (by decide) (by decide) hbk (by rw [so_eq, aS3.1 17 (by decide)]; exact h17) (by omega) (by rw [so_eq]; exact b3) z2 (by show _ ≤ 8300; omega) (by rw [so_eq]; exact M3.2.2 15 rfl) (by rw [so_eq]; exact ⟨M3.2.2 96 rfl, M3.2.2 97 rfl, M3.2.2 107 rfl, M3.2.2 108 rfl, M3.2.2 109 rfl⟩)
      rw [so_eq] at a4 kp4
      obtain ⟨W1, hW1⟩ : ∃ W1, W1 = W.sr 13 0 19 (.a 13 0 119) := ⟨_, rfl⟩
      have y1 : WY W W1 := by rw [hW1]; exact WY.sr (Or.inr (Or.inr ⟨rfl, rfl⟩))
      have ad : W1.ad = W.ad := by rw [hW1]; rfl
      rw [← hW1] at g4
      have X1 := y1.cx X
      have h1 := y1.m h
      have hmm1 := y1.mm h.lo hmm
      have g4 : P_X13_headOf G F (W.ad (.o 13 0)) (W.ad (.a 13 0 119)) 0 (Int32.ofNat hb.length) 0 (mem W (S.so 13 0 o3)) = some (hdV hb false, mem W1 S4) := g4
      have E4' : mEv (S4 13 0) := M3.2.2.keep a4 (fun q hq z => by
        simp only [agL_, List.mem_append, List.mem_cons, List.not_mem_nil, or_false] at hq
        rcases hq with (rfl | rfl | rfl | rfl | rfl | rfl | rfl | rfl | rfl | rfl | rfl) | (rfl | rfl | rfl | rfl | rfl | rfl | rfl | rfl | rfl | rfl | rfl | rfl | rfl | rfl | rfl)
        · exact absurd z (by decide)
        · exact absurd z (by decide)
        · exact absurd z (by decide)
        · exact absurd z (by decide)
        · exact absurd z (by decide)
        · exact absurd z (by decide)
        · exact absurd z (by decide)
        · exact absurd z (by decide)
        · exact absurd z (by decide)
        · exact b15
        · exact absurd z (by decide)
        · exact absurd z (by decide)
        · exact absurd z (by decide)
        · exact absurd z (by decide)
        · exact absurd z (by decide)
        · exact absurd z (by decide)
        · exact absurd z (by decide)
        · exact absurd z (by decide)
        · exact absurd z (by decide)
        · exact absurd z (by decide)
        · exact absurd z (by decide)
        · exact E4.1
        · exact E4.2.1
        · exact E4.2.2.1
        · exact E4.2.2.2.1
        · exact E4.2.2.2.2)
      have aS4 : agr ([29, 120] ++ ([20, 21, 22, 23, 24, 25, 26] ++ hdL)) [] ([119, 123] ++ ([6, 7, 8, 9, 10, 11, 12, 13, 14, 15, 16] ++ agL_)) [] (S 13 0) (S4 13 0) := (aS3.mono (by simp) (by simp) (by simp) (by simp)).trans (a4.mono (by simp) (by simp) (fun x hx => List.mem_append_right _ hx) (by simp))
      have aS4t : agr tkF tkG tkA [33, 34] (S 13 0) (S4 13 0) := aS4.mono (by simp [tkF, hdL]) (by simp) (by simp [tkA, agL_]) (by simp)
      have dg4 : mDig (S4 13 0) := aS4.mDig dg (by decide)
      have MT4 : MT S S4 := ⟨(fr_so (by simp) : fr [(12, 0), (12, 1), (12, 2), (13, 0)] S (S.so 13 0 o3)).trans (f4.mono (by simp)), aS4t, mk4, dg4, E4'⟩
      have out4 : (S4 13 0).f 5 = (S 13 0).f 5 ∧ (S4 13 0).a 4 = (S 13 0).a 4 := ⟨aS4.1 5 (by decide), aS4.2.2.1 4 (by decide)⟩
      have kp4' : kpT (1 - bk) (S 13 0) (S4 13 0) := fun bk' J' z1 z2 z3 q => kp4 bk' J' z1 z2 z3 (q.agr aS3 (by decide))
      have x0 : (0 : Int32) ≤ (Int32.ofNat hb.length) := (n_le (a := 0) (by omega) (by omega)).mpr (Nat.zero_le _)
      rw [if_pos c0, ← hhb, if_pos x0, h.gR 119 rfl (by decide), bO_s, bO_s, rcv_m h.lo, bO_s, g4, bP_s]
      have two : (∃ p, rdT hb = .inl p) ∨ ∃ J, rdT hb = .inr J := by
        cases rdT hb with
        | inl p => exact Or.inl ⟨p, rfl⟩
        | inr J => exact Or.inr ⟨J, rfl⟩
      have badv : ∀ v : Int32, v < 0 → ¬ (0 : Int32) ≤ v := fun v hv => by
        rw [Int32.not_le]
        exact hv
      rw [← hW1]
      rcases two with ⟨pp, er⟩ | ⟨J, er⟩
      · have hv : vrfW A (rows r) = (-22, none) := by
          unfold vrfW
          rw [if_pos c2, if_pos c0, ← hhb, er]
        have hd : hdV hb false = -22 := by rw [hdV_s, er]
        rw [hd, if_neg (by decide), hv]
        exact ⟨W1, S4, rfl, Or.inr rfl, MT4, out4, kp4'⟩
      · have hd : hdV hb false = sgR J := by rw [hdV_s, er]
        have hv : vrfW A (rows r) = if sgR J = 0 then (if (brB J = true ∨ fltF (ptX (rows r) 1) = none) ∧ fltF (ptX (rows r) 2) = none then (ansK (vrK A J ((sgA J).getD 0) (msgB (rows r)) (dec (ptX (rows r) 2)) 16 0 false), match vrK A J ((sgA J).getD 0) (msgB (rows r)) (dec (ptX (rows r) 2)) 16 0 false with | .inl _ => none | .inr _ => some (payB (rows r) (brB J))) else (-21, none)) else (sgR J, none) := by
          unfold vrfW
          rw [if_pos c2, if_pos c0, ← hhb, er]
          rfl
        by_cases c3 : sgR J = 0
        · rw [if_pos c3] at hv
          obtain ⟨J', ej, M4, Y, sd, hz, HF⟩ := q4 (by rw [hd]; exact c3)
          rw [er] at ej
          have ej := Sum.inr.inj ej
          subst ej
          obtain ⟨kdh, HF⟩ := HF
          rw [if_neg (by decide)] at HF
          have sgs : sgA J ≠ none := by
            intro q
            unfold sgR at c3
            split at c3
            · split at c3
              · first | exact absurd c3 (by decide) | exact absurd c3 (by rw [if_pos q]; decide) | (rename_i z; exact absurd q z)
              · exact absurd c3 (by decide)
            · exact absurd c3 (by decide)
          obtain ⟨a, ea⟩ := Option.ne_none_iff_exists'.mp sgs
          have al := ls_lt ea
          have ga : (sgA J).getD 0 = a := by rw [ea]; rfl
          rw [ga] at hv
          have f102 : (S4 13 0).f 102 = (Int32.ofNat a) := by rw [HF.1, ea]; rfl
          have e123 : (S4 13 0).a 123 = o1.a 123 := by rw [a4.2.2.1 123 (by decide), a3.2.2.1 123 (by decide)]
          have r40 : aI G (mem W1 S4) 0 (W1.ad (.a 13 0 123)) 0 = some (Int32.ofNat p0) := by
            have q := rd123 S4 W1 0 h1 (by decide) e123 (by omega)
            rw [← hp0] at q
            exact q
          have r41 : ∀ S' : ST, (S' 13 0).a 123 = o1.a 123 → aI G (mem W1 S') 0 (W1.ad (.a 13 0 123)) 1 = some (Int32.ofNat p1) := fun S' e' => by
            have q := rd123 S' W1 1 h1 (by decide) e' (by omega)
            rw [← hp1] at q
            exact q
          have x104 : gfI (mem W1 S4) (W1.ad (.o 13 0)) 13 104 = some (if brB J = true then 1 else 0) := by rw [gfI_m h1.lo rfl, HF.2]
          have w14 : mB (S4 13 0) 2 βr := aS4.mB w1 (by decide)
          -- from the third part on
          have go : ∀ (o5 : Ob) (sz : Int32) (ok : Bool), agr [29] [] [124] [] (S4 13 0) o5 → ok = true ∨ ok = false → (ok = decide (brB J = true ∨ fltF (ptX (rows r) 1) = none)) → (if ok = true then sz = (Int32.ofNat (payB (rows r) (brB J)).length) else sz = -1) → (∃ β, mB o5 124 β ∧ (ok = true → rdB β 0 (payB (rows r) (brB J)).length = payB (rows r) (brB J))) → (payB (rows r) (brB J)).length ≤ 8192 → ∃ W' S', B_X13_verify_157 G F (W1.ad (.o 13 0)) (Int32.ofNat r) (Int32.ofNat (8192 * r)) sz (mem W1 (S4.so 13 0 o5)) = some ((vrfW A (rows r)).1, mem W' S') ∧ (W' = W ∨ W' = W1) ∧ MT S S' ∧ outO (S 13 0) (S' 13 0) (vrfW A (rows r)).2 ∧ kpT (1 - bk) (S 13 0) (S' 13 0) := by
            intro o5 sz ok a5 _ hok hsz h124 pl
            obtain ⟨β124, b124, r124⟩ := h124
            have M5 : MO S4 o5 := (MO.of mk4 dg4 E4').ag a5 (by decide) (by decide) (fun q hq _ => by
              rw [List.mem_singleton] at hq
              rw [hq]
              exact ⟨_, b124⟩)
            obtain ⟨o6, g6, a6, β6, b6, z6⟩ := oM_unlet (G := G) (F := F) (W := W1) (S := S4) (o := o5) (k1 := 2) (k2 := 112) (p1 := 8192 * r + p1 + 1) (cnt := (rows r).length - p1 - 1) (xs := ptX (rows r) 2) X1 h1 rfl rfl (by decide) (by decide) (by decide) (by show _ ≤ 65536; omega) (by show _ ≤ 8200; omega) (by omega) (a5.mB w14 (by decide)) (M5.2.2 112 rfl) (by
              rw [e2, show 8192 * r + p1 + 1 = 8192 * r + (p1 + 1) by omega, show (rows r).length - p1 - 1 = (rows r).length - (p1 + 1) by omega]
              exact sg (p1 + 1) _ (by omega))
            obtain ⟨o7, ho7⟩ : ∃ o7, o7 = o6.sf 113 (if fltF (ptX (rows r) 2) = none then (Int32.ofNat (dec (ptX (rows r) 2)).length) else -1) := ⟨_, rfl⟩
            have b7 : mB o7 112 β6 := by rw [ho7]; exact b6
            have a7 : agr [29, 113] [] [112] [] o5 o7 := (a6.mono (by simp) (by simp) (by simp) (by simp)).trans (by rw [ho7]; exact agr_sf (by simp))
            have M7 : MO S4 o7 := M5.ag a7 (by decide) (by decide) (fun q hq _ => by
              rw [List.mem_singleton] at hq
              rw [hq]
              exact ⟨_, b7⟩)
            have a47 : agr [29, 113] [] [112, 124] [] (S4 13 0) o7 := (a5.mono (by simp) (by simp) (by simp) (by simp)).trans (a7.mono (by simp) (by simp) (by simp) (by simp))
            have MT7 : MT S (S4.so 13 0 o7) := MT4.trans (M7.t (a47.mono (by simp [tkF]) (by simp) (by simp [tkA]) (by simp)))
            have kp7 : kpT (1 - bk) (S 13 0) ((S4.so 13 0 o7) 13 0) := fun bk' J' z1 z2 z3 q => by rw [so_eq]; exact (kp4' bk' J' z1 z2 z3 q).agr a47 (by decide)
            have out7 : o7.f 5 = (S 13 0).f 5 ∧ o7.a 4 = (S 13 0).a 4 := ⟨(a47.1 5 (by decide)).trans out4.1, (a47.2.2.1 4 (by decide)).trans out4.2⟩
            have pl2 : (ptX (rows r) 2).length ≤ 8192 := by rw [e2, seg_len (by omega)]; omega
            have dl2 := dec_len (ptX (rows r) 2)
            have rs : aI G (mem W1 (S4.so 13 0 o5)) 0 (W1.ad (.a 13 0 3)) (Int32.ofNat r) = some (Int32.ofNat (rows r).length) := by rw [h1.aN rfl (show r < mLen 3 from hr) (by decide), so_eq, a5.2.2.1 3 (by decide), aS4.2.2.1 3 (by decide), w3]
            have rp : aI G (mem W1 (S4.so 13 0 o5)) 0 (W1.ad (.a 13 0 123)) 1 = some (Int32.ofNat p1) := r41 (S4.so 13 0 o5) (by rw [so_eq, a5.2.2.1 123 (by decide)]; exact e123)
            have x113 : gfI (mem W1 (S4.so 13 0 o7)) (W1.ad (.o 13 0)) 13 113 = some (if fltF (ptX (rows r) 2) = none then (Int32.ofNat (dec (ptX (rows r) 2)).length) else -1) := by rw [gfI_m h1.lo rfl, so_eq, ho7, sf_eq]
            have bad : vrfW A (rows r) = (-21, none) → ∃ W' S', some ((-21 : Int32), mem W1 (S4.so 13 0 o7)) = some ((vrfW A (rows r)).1, mem W' S') ∧ (W' = W ∨ W' = W1) ∧ MT S S' ∧ outO (S 13 0) (S' 13 0) (vrfW A (rows r)).2 ∧ kpT (1 - bk) (S 13 0) (S' 13 0) := by
              intro q
              rw [q]
              exact ⟨W1, S4.so 13 0 o7, rfl, Or.inr rfl, MT7, by rw [so_eq]; exact out7, kp7⟩
            unfold B_X13_verify_157
            rw [h1.gR 2 rfl (by decide), bO_s, h1.gR 123 rfl (by decide), bO_s, rp, bO_s, h1.gR 3 rfl (by decide), bO_s, rs, bO_s, bO_s, rp, bO_s, h1.gR 112 rfl (by decide), bO_s, rcv_m h1.lo, bO_s, n_add, show (Int32.ofNat (8192 * r + p1)) + (1 : Int32) = (Int32.ofNat (8192 * r + p1 + 1)) from n_i1 _, n_sub (by omega), n_subL 1 (by omega), g6, bP_s, pfI_m h1.lo rfl, bO_s, so_eq, so_so, ← ho7]
            cases ok with
            | false =>
              have hno : ¬ (brB J = true ∨ fltF (ptX (rows r) 1) = none) := of_decide_eq_false hok.symm
              have hsz : sz = -1 := hsz
              rw [if_neg (fun q => hno q.1)] at hv
              rw [hsz, if_pos (by decide)]
              exact bad hv
            | true =>
              have hyes : brB J = true ∨ fltF (ptX (rows r) 1) = none := of_decide_eq_true hok.symm
              have hsz : sz = (Int32.ofNat (payB (rows r) (brB J)).length) := hsz
              rw [hsz, if_neg (nn (by omega)), x113, bO_s]
              by_cases c5 : fltF (ptX (rows r) 2) = none
              · rw [if_pos ⟨hyes, c5⟩] at hv
                have x0' : (0 : Int32) ≤ (Int32.ofNat (dec (ptX (rows r) 2)).length) := (n_le (a := 0) (by omega) (by omega)).mpr (Nat.zero_le _)
                obtain ⟨kd1, kd2⟩ := kdh
                obtain ⟨S8, z1, z2, z3, z4⟩ := QM_vrf220 (G := G) (F := F) (W := W1) (A := A) (J := J) (bk := 1 - bk) (a := a) (rr := r) (p1 := p1) (rows := rows) (msg := msgB (rows r)) (sg := dec (ptX (rows r) 2)) (pay := payB (rows r) (brB J)) X1 h1 hmm1 (by omega) Y (by omega) hr em (by omega) (by omega) pl 16 0 F false (S4.so 13 0 o7) (by omega) rfl M7.1 (by rw [so_eq]; exact M7.2.1) (by rw [so_eq]; exact M7.2.2) (by rw [so_eq]; exact (KK.agr aS4 (by decide)).agr a47 (by decide)) (by rw [so_eq]; exact a47.mRows (aS4.mRows hR (by decide) (by decide)) (by decide) (by decide)) (by rw [so_eq]; exact M4.agr a47 (by decide)) (by rw [so_eq]; exact ⟨by rw [a47.1 106 (by decide)]; exact kd1, fun i hi => by rw [a47.1 105 (by decide)]; exact kd2 i hi⟩) (by rw [so_eq, a47.1 102 (by decide)]; exact f102) (by rw [so_eq, a47.2.2.1 123 (by decide), e123, q1 1 (by omega) (by decide), hp1]) (by rw [so_eq]; exact ⟨_, b7, z6 c5⟩) (by rw [so_eq, ho7, sf_eq, if_pos c5]) (by rw [so_eq]; exact ⟨_, a7.mB b124 (by decide), r124 rfl⟩)
                have z1 : B_X13_verify_220 G F F (W1.ad (.o 13 0)) (Int32.ofNat (8192 * r)) (Int32.ofNat (payB (rows r) (brB J)).length) 0 0 (mem W1 (S4.so 13 0 o7)) = _ := z1
                rw [if_pos c5, if_pos x0', z1, hv]
                rw [so_eq] at z3 z4
                refine ⟨W1, S8, rfl, Or.inr rfl, MT7.trans z2, ?_, fun bk' J' q1 q2 q3 q4 => z3 bk' J' (by omega) q2 q3 (by have := kp7 bk' J' q1 q2 q3 q4; rw [so_eq] at this; exact this)⟩
                revert z4
                show outO o7 (S8 13 0) (match vrK A J a (msgB (rows r)) (dec (ptX (rows r) 2)) 16 0 false with | .inl _ => none | .inr _ => some (payB (rows r) (brB J))) → outO (S 13 0) (S8 13 0) (match vrK A J a (msgB (rows r)) (dec (ptX (rows r) 2)) 16 0 false with | .inl _ => none | .inr _ => some (payB (rows r) (brB J)))
                cases vrK A J a (msgB (rows r)) (dec (ptX (rows r) 2)) 16 0 false with
                | inl b => intro z4; exact ⟨(show _ ∧ _ from z4).1.trans out7.1, (show _ ∧ _ from z4).2.trans out7.2⟩
                | inr b => exact id
              · rw [if_neg (fun q => c5 q.2)] at hv
                rw [if_neg c5, if_neg (by decide)]
                exact bad hv
          have ex1 : (8192 : Nat) * r + (p0 + 1) + (p1 - (p0 + 1)) ≤ 65536 := by omega
          have n1 : (Int32.ofNat p1) - ((Int32.ofNat p0) + (1 : Int32)) = (Int32.ofNat (p1 - (p0 + 1))) := by
            rw [show (Int32.ofNat p0) + (1 : Int32) = (Int32.ofNat (p0 + 1)) from n_i1 _, n_sub (by omega)]
          have n2 : (Int32.ofNat (8192 * r)) + ((Int32.ofNat p0) + (1 : Int32)) = (Int32.ofNat (8192 * r + (p0 + 1))) := by
            rw [show (Int32.ofNat p0) + (1 : Int32) = (Int32.ofNat (p0 + 1)) from n_i1 _, n_add]
          have pl1 : (ptX (rows r) 1).length = p1 - (p0 + 1) := by rw [e1, seg_len (by omega)]
          have dl1 := dec_len (ptX (rows r) 1)
          rw [hd, c3, if_pos (by decide), ← ad, h1.gR 123 rfl (by decide), bO_s, r40, bO_s, bO_s, r41 S4 e123, bO_s, x104, bO_s]
          obtain ⟨β124, h124⟩ := E4' 124 rfl
          cases cb : brB J with
          | false =>
            rw [cb] at go hv
            have pe : payB (rows r) false = dec (ptX (rows r) 1) := by unfold payB; rw [if_neg (by decide)]
            obtain ⟨o5, g5, a5, β5, b5, z5⟩ := oM_unlet (G := G) (F := F) (W := W1) (S := S4) (o := S4 13 0) (k1 := 2) (k2 := 124) (p1 := 8192 * r + (p0 + 1)) (cnt := p1 - (p0 + 1)) (xs := ptX (rows r) 1) X1 h1 rfl rfl (by decide) (by decide) (by decide) (by show _ ≤ 65536; omega) (by show _ ≤ 8200; omega) (by omega) w14 ⟨_, h124⟩ (by rw [e1]; exact sg (p0 + 1) _ (by omega))
            rw [so_self] at g5
            rw [if_pos (show (if false = true then (1 : Int32) else 0) = 0 from rfl), h1.gR 2 rfl (by decide), bO_s, h1.gR 124 rfl (by decide), bO_s, rcv_m h1.lo, bO_s, n1, n2, g5, bP_s]
            by_cases c6 : fltF (ptX (rows r) 1) = none
            · exact go o5 _ true a5 (Or.inl rfl) (decide_eq_true (Or.inr c6)).symm (by rw [if_pos rfl, if_pos c6, pe]) ⟨_, b5, fun _ => by rw [pe]; exact z5 c6⟩ (by rw [pe]; omega)
            · exact go o5 _ false a5 (Or.inr rfl) (decide_eq_false (fun q => q.elim (by decide) c6)).symm (by rw [if_neg (by decide), if_neg c6]) ⟨_, b5, fun q => absurd q (by decide)⟩ (by rw [pe]; omega)
          | true =>
            rw [cb] at go hv
            have pe : payB (rows r) true = ptX (rows r) 1 := by unfold payB; rw [if_pos rfl]
            have v := oM_move (G := G) (F := F) (W := W1) (S := S4) (o := S4 13 0) (k1 := 2) (k2 := 124) (p1 := 8192 * r + (p0 + 1)) (p2 := 0) (cnt := p1 - (p0 + 1)) X1 h1 rfl rfl (by decide) (by decide) (by decide) (by show _ ≤ 65536; omega) (by show _ ≤ 8200; omega) (by omega) w14 h124
            rw [so_self, sg (p0 + 1) _ (by omega), ← e1] at v
            have v : P_X13_move G F (W1.ad (.a 13 0 2)) (Int32.ofNat (8192 * r + (p0 + 1))) (W1.ad (.a 13 0 124)) 0 (Int32.ofNat (p1 - (p0 + 1))) (mem W1 S4) = _ := v
            rw [if_neg (show ¬ (if true = true then (1 : Int32) else 0) = 0 by decide), h1.gR 2 rfl (by decide), bO_s, h1.gR 124 rfl (by decide), bO_s, n1, n2, v, bO_s]
            exact go _ _ true (agr_sA (by simp)) (Or.inl rfl) (decide_eq_true (Or.inl rfl)).symm (by rw [if_pos rfl, pe, pl1]) ⟨_, mB_sA _ _ _, fun _ => by rw [pe]; exact rdB_wrB _ _ _⟩ (by rw [pe]; omega)
        · rw [if_neg c3] at hv
          rw [hd, if_neg (badv _ (by rcases sgR_v J with q | q | q | q <;> rw [q] <;> first | exact absurd q c3 | decide)), hv]
          exact ⟨W1, S4, rfl, Or.inr rfl, MT4, out4, kp4'⟩
    · have hv : vrfW A (rows r) = (-21, none) := by
        unfold vrfW
        rw [if_pos c2, if_neg c0]
      rw [if_neg c0, if_neg (by decide), hv]
      exact ⟨W, S.so 13 0 o3, rfl, Or.inl rfl, M3.t (aS3.mono (by simp [tkF]) (by simp) (by simp [tkA]) (by simp)), by rw [so_eq]; exact out3, kp3⟩
  · have hv : vrfW A (rows r) = (-20, none) := by
      unfold vrfW
      rw [if_neg c2]
    rw [if_neg c2, hv]
    refine ⟨W, S.so 13 0 o1, rfl, Or.inl rfl, M1.t (a1.mono (by simp) (by simp) (by simp [tkA]) (by simp)), ?_, fun bk' J' _ _ _ q => by rw [so_eq]; exact q.agr a1 (by decide)⟩
    rw [so_eq]
    exact ⟨a1.1 5 (by decide), a1.2.2.1 4 (by decide)⟩
theorem QM_verify_bad {x : Int32} (a : Nat) (M : mM) (hx : isr x = false) : P_X13_verify G F a x M = some (-2, M) := by
  unfold P_X13_verify
  rw [Q13_isRow, bP_s, hx, if_pos (by rfl)]
end MV2
