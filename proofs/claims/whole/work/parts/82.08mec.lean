/-! THE MODEL'S isEc -/
abbrev ECL : List Nat := [60, 62, 67, 68, 69, 70, 71, 72, 74, 75, 76, 77, 78, 79]
section MEC
variable {W : WR} {G : mG} {F : Nat} {S : ST}
theorem QM_isEc36 {sC : Int32} {βa βb βc : Nat → UInt8} (pr : PrP) (X : Cx G F W) (h : isM W) (hp : isMp W) (hn : isMn W) (K : MK S) (h79 : ∃ β, mB (S 13 0) 79 β) (h62 : ∃ β, mB (S 13 0) 62 β) (ba : mB (S 13 0) 96 βa) (bb : mB (S 13 0) 97 βb) (bc : mB (S 13 0) 98 βc) (hC : (S 13 0).f 101 = sC) : ∃ S', B_X13_isEc_36 G F (W.ad (.o 13 0)) (mem W S) = some (if onC (beN (rdB βa 0 32)) (beN (rdB βb 0 32)) = true ∧ (0 ≤ sC → pairF (rdB βc 0 32) (rdB βa 0 32 ++ rdB βb 0 32) = true) then 1 else 0, mem W S') ∧ fr [(12, 1), (13, 0)] S S' ∧ agr [73] [] ECL [] (S 13 0) (S' 13 0) ∧ MK S' ∧ (∃ β, mB (S' 13 0) 79 β) ∧ ∃ β, mB (S' 13 0) 62 β := by
  obtain ⟨β79, h79⟩ := h79
  obtain ⟨β62, h62⟩ := h62
  obtain ⟨Q, MN, ⟨β63, h63, e63⟩, ⟨β64, h64, e64⟩, ⟨β65, h65, e65⟩, β67, h67⟩ := id K
  have keep : ∀ {S' : ST}, fr [(12, 1), (13, 0)] S S' → agr [73] [] ECL [] (S 13 0) (S' 13 0) → MPq S' → (∃ β, mB (S' 13 0) 67 β) → MK S' := fun f a q b => ⟨q, MN.fr f (by decide), ⟨β63, a.mB h63 (by decide), e63⟩, ⟨β64, a.mB h64 (by decide), e64⟩, ⟨β65, a.mB h65 (by decide), e65⟩, b⟩
  have mv1 := QM_move (G := G) (F := F) (S := S) (k1 := 96) (k2 := 79) (p1 := 0) (p2 := 0) (cnt := 32) X h rfl rfl (by decide) (by decide) (by decide) (by decide) (by decide) (by decide) ba h79
  have mv1' : P_X13_move G F (W.ad (.a 13 0 96)) 0 (W.ad (.a 13 0 79)) 0 32 (mem W S) = _ := mv1
  obtain ⟨Sa, hSa⟩ : ∃ x, x = S.so 13 0 ((S 13 0).sA 79 (fun j => sb (wrB β79 0 (rdB βa 0 32) j))) := ⟨_, rfl⟩
  have aa : agr [] [] [79] [] (S 13 0) (Sa 13 0) := by rw [hSa, so_eq]; exact agr_sA (by simp)
  have fa : fr [(13, 0)] S Sa := by rw [hSa]; exact fr_so (by simp)
  have b1 : mB (Sa 13 0) 79 (wrB β79 0 (rdB βa 0 32)) := by rw [hSa, so_eq]; exact mB_sA _ _ _
  rw [← hSa] at mv1'
  have mv2 := QM_move (G := G) (F := F) (S := Sa) (k1 := 97) (k2 := 79) (p1 := 0) (p2 := 32) (cnt := 32) X h rfl rfl (by decide) (by decide) (by decide) (by decide) (by decide) (by decide) (aa.mB bb (by decide)) b1
  have mv2' : P_X13_move G F (W.ad (.a 13 0 97)) 0 (W.ad (.a 13 0 79)) 32 32 (mem W Sa) = _ := mv2
  obtain ⟨Sb, hSb⟩ : ∃ x, x = Sa.so 13 0 ((Sa 13 0).sA 79 (fun j => sb (wrB (wrB β79 0 (rdB βa 0 32)) 32 (rdB βb 0 32) j))) := ⟨_, rfl⟩
  have ab : agr [] [] [79] [] (Sa 13 0) (Sb 13 0) := by rw [hSb, so_eq]; exact agr_sA (by simp)
  have fb : fr [(13, 0)] Sa Sb := by rw [hSb]; exact fr_so (by simp)
  have b2 : mB (Sb 13 0) 79 (wrB (wrB β79 0 (rdB βa 0 32)) 32 (rdB βb 0 32)) := by rw [hSb, so_eq]; exact mB_sA _ _ _
  rw [← hSb] at mv2'
  have aab := aa.trans ab
  have eh := rd_two β79 (rdB βa 0 32) (rdB βb 0 32) (rdB_len _ _ _) (rdB_len _ _ _)
  have ehx : rdB (wrB (wrB β79 0 (rdB βa 0 32)) 32 (rdB βb 0 32)) 0 32 = rdB βa 0 32 := by
    rw [rdB_take _ 0 64 32 (by decide), eh, List.take_left' (rdB_len _ _ _)]
  have ehy : rdB (wrB (wrB β79 0 (rdB βa 0 32)) 32 (rdB βb 0 32)) (0 + 32) 32 = rdB βb 0 32 := by
    have := rdB_drop (β := wrB (wrB β79 0 (rdB βa 0 32)) 32 (rdB βb 0 32)) (p := 0) (n := 64) (a := 32) (by decide)
    rw [← this, eh, List.drop_left' (rdB_len _ _ _)]
  obtain ⟨γ, hγ⟩ : ∃ x, x = wrB (wrB β79 0 (rdB βa 0 32)) 32 (rdB βb 0 32) := ⟨_, rfl⟩
  rw [← hγ] at b2 eh ehx ehy
  have Qb : MPq Sb := (Q.ag fa (by simp) aa (by decide)).ag fb (by simp) ab (by decide)
  obtain ⟨Sc, gc, fc, Qc, rc⟩ := QM_setPoint (G := G) (F := F) (kb := 79) (p := 0) X h hp rfl (by decide) (by decide) Qb b2
  rw [ehx, ehy] at gc rc
  have gc' : P_X13_setPoint G F (W.ad (.o 13 0)) (W.ad (.a 13 0 79)) 0 (mem W Sb) = _ := gc
  have frc : fr [(12, 1), (13, 0)] S Sc := ((fa.mono (by simp)).trans (fb.mono (by simp))).trans fc.1
  have ac : agr [73] [] ECL [] (S 13 0) (Sc 13 0) := (aab.mono (by simp) (by simp) (by simp) (by simp)).trans (fc.2.mono (by simp) (by simp) (by simp) (by simp))
  have b67c : mB (Sc 13 0) 67 β67 := fc.2.mB (aab.mB h67 (by decide)) (by decide)
  have b79c : mB (Sc 13 0) 79 γ := fc.2.mB b2 (by decide)
  have b62c : mB (Sc 13 0) 62 β62 := fc.2.mB (aab.mB h62 (by decide)) (by decide)
  have Kc : MK Sc := keep frc ac Qc ⟨_, b67c⟩
  have hC' : (Sc 13 0).f 101 = sC := (ac.1 101 (by decide)).trans hC
  unfold B_X13_isEc_36
  rw [h.gR 96 rfl (by decide), bO_s, h.gR 79 rfl (by decide), bO_s, mv1', bO_s, h.gR 97 rfl (by decide), bO_s, h.gR 79 rfl (by decide), bO_s, mv2', bO_s, h.gR 79 rfl (by decide), bO_s, rcv_m h.lo, bO_s, gc', bP_s]
  cases ho : onC (beN (rdB βa 0 32)) (beN (rdB βb 0 32)) with
  | false =>
    rw [if_neg (c := false = true) Bool.false_ne_true, if_pos rfl, retZ0, if_neg (fun o => Bool.false_ne_true o.1)]
    exact ⟨Sc, rfl, frc, ac, Kc, ⟨_, b79c⟩, ⟨_, b62c⟩⟩
  | true =>
    rw [if_pos (c := true = true) rfl, if_neg (by decide), h.gI 101 rfl, bO_s, hC']
    simp only [true_and]
    by_cases cC : 0 ≤ sC
    · simp only [cC, true_implies, if_true]
      have sd : seg (rdB βc 0 32) 0 32 = rdB βc 0 32 := by
        unfold seg
        rw [List.drop_zero, List.take_of_length_le (by rw [rdB_len]; omega)]
      unfold pairF
      rw [sd]
      obtain ⟨Sd, gd, fd⟩ := QM_isSecret (G := G) (F := F) (kb := 98) (p := 0) X h hn.1 hn.2 rfl (by decide) (by decide) Kc.2.1 (ac.mB bc (by decide))
      have gd' : P_X13_isSecret G F (W.ad (.o 13 0)) (W.ad (.a 13 0 98)) 0 (mem W Sc) = _ := gd
      have ad := fd.agr (as := [60]) (by simp)
      have frd := fd.fr (L' := [(13, 0)]) (by simp [ow])
      have frd' : fr [(12, 1), (13, 0)] S Sd := frc.trans (frd.mono (by simp))
      have ad' : agr [73] [] ECL [] (S 13 0) (Sd 13 0) := ac.trans (ad.mono (by simp) (by simp) (by simp) (by simp))
      have Qd : MPq Sd := Qc.ag frd (by simp) ad (by decide)
      have Kd : MK Sd := keep frd' ad' Qd ⟨_, ad.mB b67c (by decide)⟩
      rw [h.gR 98 rfl (by decide), bO_s, rcv_m h.lo, bO_s, gd', bP_s]
      cases c0 : secF (rdB βc 0 32) with
      | false =>
        rw [if_neg (c := false = true) Bool.false_ne_true, if_pos rfl, retZ0, Bool.false_and, if_neg (c := false = true) Bool.false_ne_true]
        exact ⟨Sd, rfl, frd', ad', Kd, ⟨_, ad.mB b79c (by decide)⟩, ⟨_, ad.mB b62c (by decide)⟩⟩
      | true =>
        rw [if_pos (c := true = true) rfl, if_neg (by decide), Bool.true_and]
        obtain ⟨Se, ge, fe, Qe, re⟩ := QM_setPoint (G := G) (F := F) (kb := 65) (p := 0) X h hp rfl (by decide) (by decide) Qd (ad'.mB h65 (by decide))
        obtain ⟨ex, ey⟩ := base_pt e65
        rw [ex, ey] at ge re
        have ge' : P_X13_setPoint G F (W.ad (.o 13 0)) (W.ad (.a 13 0 65)) 0 (mem W Sd) = _ := ge
        rw [onC_base, if_pos rfl] at ge'
        obtain ⟨Ve, Ce, v8, v9, v10⟩ := re onC_base
        have eb : (Ve 8, Ve 9) = bpt := by rw [v8, v9]; rfl
        obtain ⟨Sf, Vf, gf, ff, Cf, kf, Jf⟩ := QM_times (G := G) (F := F) (kb := 98) (p := 0) pr X h hp rfl (by decide) (by decide) Ce (fe.2.mB (ad'.mB bc (by decide)) (by decide))
        rw [eb] at Jf
        have gf' : P_X13_times_ G F (W.ad (.o 13 0)) (W.ad (.a 13 0 98)) 0 (mem W Se) = some (mem W Sf) := gf
        have fx : ∀ {kb : Nat} {β : Nat → UInt8}, mB (Sd 13 0) kb β → kb ∉ [68, 69, 70, 71, 72, 74, 75, 76, 77, 78] → mB (Sf 13 0) kb β := fun b q => ff.2.mB (fe.2.mB b q) q
        obtain ⟨Sg, Vg, gg, fg, ag, Cg, kg, m67, rg⟩ := QM_getPoint (G := G) (F := F) (S := Sf) (kt := 62) (pt := 0) X h hp rfl (by decide) (by decide) (by decide) (by decide) Cf Jf (fx (ad'.mB h63 (by decide)) (by decide)) e63 ⟨_, fx (ad.mB b67c (by decide)) (by decide)⟩ (fx (ad.mB b62c (by decide)) (by decide))
        have gg' : P_X13_getPoint G F (W.ad (.o 13 0)) (W.ad (.a 13 0 62)) 0 (mem W Sf) = _ := gg
        have frg : fr [(12, 1), (13, 0)] S Sg := ((frd'.trans fe.1).trans ff.1).trans fg
        have ag' : agr [73] [] ECL [] (S 13 0) (Sg 13 0) := ((ad'.trans (fe.2.mono (by simp) (by simp) (by simp) (by simp))).trans (ff.2.mono (by simp) (by simp) (by simp) (by simp))).trans (ag.mono (by simp) (by simp) (by simp) (by simp))
        have Kg : MK Sg := keep frg ag' (Cg.q ((kg 10 (by omega)).trans ((kf 10 (by omega)).trans v10))) m67
        have b79g : mB (Sg 13 0) 79 γ := ag.mB (fx (ad.mB b79c (by decide)) (by decide)) (by decide)
        rw [h.gR 65 rfl (by decide), bO_s, rcv_m h.lo, bO_s, ge', bP_s, h.gR 98 rfl (by decide), bO_s, rcv_m h.lo, bO_s, gf', bO_s, if_neg (by decide), h.gR 62 rfl (by decide), bO_s, rcv_m h.lo, bO_s, gg', bP_s]
        cases ha : affS (mulS (rdB βc 0 32) bpt) with
        | none =>
          rw [ha] at rg
          have rg : Sg = Sf := rg
          rw [if_pos (by rfl), retZ0, if_neg (by simp)]
          exact ⟨Sg, rfl, frg, ag', Kg, ⟨_, b79g⟩, ⟨β62, by rw [rg]; exact fx (ad.mB b62c (by decide)) (by decide)⟩⟩
        | some q =>
          rw [ha] at rg
          have b62g : mB (Sg 13 0) 62 (wrB β62 0 (ptB q)) := rg
          have e62 : rdB (wrB β62 0 (ptB q)) 0 64 = ptB q := by
            have := rdB_wrB β62 0 (ptB q)
            rw [ptB_len] at this
            exact this
          have sm := oM_same (G := G) (F := F) (S := Sg) (o := Sg 13 0) (k1 := 62) (k2 := 79) (p1 := 0) (p2 := 0) (cnt := 64) X h rfl rfl (by decide) (by decide) (by decide) (by decide) (by decide) b62g b79g
          rw [e62, eh, so_self] at sm
          have sm' : P_X13_same G F (W.ad (.a 13 0 62)) 0 (W.ad (.a 13 0 79)) 0 64 (mem W Sg) = _ := sm
          rw [if_neg (by simp), h.gR 62 rfl (by decide), bO_s, h.gR 79 rfl (by decide), bO_s, sm', bP_s]
          refine ⟨Sg, ?_, frg, ag', Kg, ⟨_, b79g⟩, ⟨_, b62g⟩⟩
          by_cases c1 : ptB q = rdB βa 0 32 ++ rdB βb 0 32
          · rw [if_pos c1, if_neg (by decide), retZ1, if_pos (by simp [c1])]
          · rw [if_neg c1, if_pos rfl, retZ0, if_neg (by simp [c1])]
    · simp only [cC, false_implies, if_true, if_false]
      rw [retZ1]
      exact ⟨Sc, rfl, frc, ac, Kc, ⟨_, b79c⟩, ⟨_, b62c⟩⟩
end MEC
