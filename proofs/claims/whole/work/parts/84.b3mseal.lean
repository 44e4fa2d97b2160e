/-! CALL seal: the model -/
section MSL
variable {W : WR} {G : mG} {F : Nat} {S : ST}
theorem QM_seal {rows : Nat → List UInt8} {w k b a r : Int32} (X : Cx G F W) (h : isM W) (mk : MK S) (dg : mDig (S 13 0)) (E : mEv (S 13 0)) (bx : oBX (S 13 0)) (hR : mRows (S 13 0) rows) : ∃ o', P_X13_seal G F (W.ad (.o 13 0)) w k b a r (mem W S) = some (match sealC rows w k b a r with | some (some u) => (Int32.ofNat u.length) | some none => -3 | none => -2, mem W (S.so 13 0 o')) ∧ MO S o' ∧ agr [5, 37, 39, 44, 50] tkG (4 :: SLA) [33, 34] (S 13 0) o' ∧ outO (S 13 0) o' (match sealC rows w k b a r with | some (some u) => some u | some none => none | none => none) := by
  obtain ⟨βr, w1, w2⟩ := id hR
  have M0 := MO.of mk dg E
  have stay : ∀ v : Int32, ∃ o', some (v, mem W S) = some (v, mem W (S.so 13 0 o')) ∧ MO S o' ∧ agr [5, 37, 39, 44, 50] tkG (4 :: SLA) [33, 34] (S 13 0) o' ∧ outO (S 13 0) o' none := fun v => ⟨S 13 0, by rw [so_self], M0, agr.refl _ _ _ _ _, ⟨rfl, rfl⟩⟩
  unfold P_X13_seal sealC
  rw [rcv_m h.lo, bO_s, QM_isContent h hR, bP_s]
  cases c0 : (waySt rows w k b && (isr a && isr r)) with
  | false =>
    rw [if_pos (show (if false = true then (1 : Int32) else 0) = 0 from rfl)]
    exact stay (-2)
  | true =>
    rw [Bool.and_eq_true, Bool.and_eq_true] at c0
    obtain ⟨cw, ca, cr⟩ := c0
    obtain ⟨w', k', b', hw', hk', hb', rfl, rfl, rfl, kl, bl⟩ := waySt_i cw
    rcases isr_cases a with e | ⟨a', ha', rfl, _⟩
    · rw [e] at ca
      exact absurd ca (by decide)
    rcases isr_cases r with e | ⟨r', hr', rfl, _⟩
    · rw [e] at cr
      exact absurd cr (by decide)
    obtain ⟨k3, k4, k5⟩ := w2 k' hk'
    obtain ⟨b3, b4, b5⟩ := w2 b' hb'
    obtain ⟨a3, a4, a5⟩ := w2 a' ha'
    obtain ⟨r3, r4, r5⟩ := w2 r' hr'
    have wm := wayM_32 w'
    have wk := wayK_le w'
    have iv := ivOf_le w'
    have cn := cnN_le w' (rows r').length
    have rdr : aI G (mem W S) 0 (W.ad (.a 13 0 3)) (Int32.ofNat r') = some (Int32.ofNat (rows r').length) := by rw [h.aN rfl (show r' < mLen 3 from hr') (by decide), r3]
    have rda : aI G (mem W S) 0 (W.ad (.a 13 0 3)) (Int32.ofNat a') = some (Int32.ofNat (rows a').length) := by rw [h.aN rfl (show a' < mLen 3 from ha') (by decide), a3]
    rw [if_neg (show ¬ (if true = true then (1 : Int32) else 0) = 0 by decide), if_pos (show true = true from rfl), h.gR 3 rfl (by decide), bO_s, rdr, bO_s, n_at (by omega), n_at (by omega), n_at (by omega), n_at (by omega), n_at (by omega)]
    obtain ⟨u, hu⟩ : ∃ u, u = sealF w' (rows k') (rows b') (rows a') (rows r') := ⟨_, rfl⟩
    have ul : u.length = cnN w' (rows r').length + wayM w' := by rw [hu]; exact sealF_len w' _ _ _ _ hw'
    rw [← hu]
    have x2 : ((2 : Int32) ≤ (Int32.ofNat w')) = (2 ≤ w') := propext (n_le (a := 2) (by omega) (by omega))
    have e47 : ∃ o', B_X13_seal_47 G F (W.ad (.o 13 0)) (Int32.ofNat w') (Int32.ofNat k') (Int32.ofNat b') (Int32.ofNat a') (Int32.ofNat r') (Int32.ofNat (rows r').length) (Int32.ofNat (cnN w' (rows r').length)) (mem W S) = some (match (if u.length ≤ 8192 then some (some u) else some none : Option (Option (List UInt8))) with | some (some u) => (Int32.ofNat u.length) | some none => -3 | none => -2, mem W (S.so 13 0 o')) ∧ MO S o' ∧ agr [5, 37, 39, 44, 50] tkG (4 :: SLA) [33, 34] (S 13 0) o' ∧ outO (S 13 0) o' (match (if u.length ≤ 8192 then some (some u) else some none : Option (Option (List UInt8))) with | some (some u) => some u | some none => none | none => none) := by
      unfold B_X13_seal_47
      rw [oM_markOf hw', bP_s, n_add, ← ul]
      have xu : ((Int32.ofNat u.length) ≤ (8192 : Int32)) = (u.length ≤ 8192) := propext (n_le (b := 8192) (by omega) (by omega))
      simp only [xu]
      by_cases c : u.length ≤ 8192
      · rw [if_pos c]
        obtain ⟨γ49, b49⟩ := E 49 rfl
        obtain ⟨μ51, b51⟩ := E 51 rfl
        obtain ⟨o2, γ', μ', g2, a2, f50, c49, c51, ec, c47, c52, d2⟩ := oM_sealIt (G := G) (F := F) (S := S) (o := S 13 0) (way := w') (kk := 2) (pk := 8192 * k') (kb := 2) (pb := 8192 * b') (ka := 2) (pa := 8192 * a') (ko := 2) (po := 8192 * r') (key := rows k') (iv := rows b') (al := rows a') (u := rows r') X h hw' rfl rfl rfl rfl (by decide) (by decide) (by decide) (by decide) (by decide) (by decide) (by decide) (by decide) (by show _ ≤ 65536; omega) (by show _ ≤ 65536; omega) (by show _ ≤ 65536; omega) (by show _ ≤ 65536; omega) kl bl (by omega) (by omega) w1 w1 w1 w1 b49 b51 (E 47 rfl) (E 52 rfl) dg bx k5 b5 a5 r5
        rw [← hu] at f50 ec
        rw [so_self] at g2
        obtain ⟨n, hn⟩ : ∃ n, n = u.length - wayM w' := ⟨_, rfl⟩
        rw [← hn] at f50 ec
        have M2 : MO S o2 := ⟨M0.1.agL a2 (by decide), d2, E.keep a2 (fun n hn z => by
          simp only [SLA, List.mem_cons, List.not_mem_nil, or_false] at hn
          rcases hn with rfl | rfl | rfl | rfl | rfl | rfl | rfl | rfl | rfl | rfl | rfl | rfl | rfl
          · exact absurd z (by decide)
          · exact absurd z (by decide)
          · exact absurd z (by decide)
          · exact c47
          · exact ⟨_, c49⟩
          · exact ⟨_, c51⟩
          · exact c52
          · exact d2.2.1
          · exact absurd z (by decide)
          · exact absurd z (by decide)
          · exact d2.1
          · exact d2.2.2.1
          · exact d2.2.2.2)⟩
        have v := oM_move (G := G) (F := F) (S := S) (o := o2) (k1 := 51) (k2 := 49) (p1 := 0) (p2 := n) (cnt := wayM w') X h rfl rfl (by decide) (by decide) (by decide) (by show _ ≤ 64; omega) (by show _ ≤ 8300; omega) (by omega) c51 c49
        have v : P_X13_move G F (W.ad (.a 13 0 51)) 0 (W.ad (.a 13 0 49)) (Int32.ofNat n) (Int32.ofNat (wayM w')) (mem W (S.so 13 0 o2)) = _ := v
        obtain ⟨β3, hβ3⟩ : ∃ β3, β3 = wrB γ' n (rdB μ' 0 (wayM w')) := ⟨_, rfl⟩
        rw [← hβ3] at v
        obtain ⟨o3, ho3⟩ : ∃ o3, o3 = o2.sA 49 (fun j => sb (β3 j)) := ⟨_, rfl⟩
        rw [← ho3] at v
        have a3' : agr [] [] [49] [] o2 o3 := by rw [ho3]; exact agr_sA (by simp)
        have c3 : mB o3 49 β3 := by rw [ho3]; exact mB_sA _ _ _
        have M3 : MO S o3 := M2.ag a3' (by decide) (by decide) (fun q hq _ => by
          rw [List.mem_singleton] at hq
          rw [hq]
          exact ⟨_, c3⟩)
        have e3 : rdB β3 0 u.length = u := by
          have q := rdB_app γ' 0 (rdB μ' 0 (wayM w')) n
          rw [Nat.zero_add, rdB_len, ← hβ3, show n + wayM w' = u.length by omega, ec] at q
          exact q
        obtain ⟨β4, h4⟩ := M3.2.2 4 rfl
        have t := QM_tell (G := G) (F := F) (S := S.so 13 0 o3) (k := 49) (p := 0) (cnt := u.length) X h rfl (by decide) (by decide) (by show _ ≤ 8300; omega) c (by rw [so_eq]; exact c3) (by rw [so_eq]; exact h4)
        rw [so_eq, so_so, e3] at t
        have t : P_X13_tell G F (W.ad (.o 13 0)) (W.ad (.a 13 0 49)) 0 (Int32.ofNat u.length) (mem W (S.so 13 0 o3)) = _ := t
        obtain ⟨o4, ho4⟩ : ∃ o4, o4 = (o3.sA 4 (fun j => sb (wrB β4 0 u j))).sf 5 (Int32.ofNat u.length) := ⟨_, rfl⟩
        rw [← ho4] at t
        have a4' : agr [5] [] [4] [] o3 o4 := by rw [ho4]; exact (agr_sA (by simp)).trans (agr_sf (by simp))
        have out4 : mOut o4 u := by
          rw [ho4]
          exact ⟨by rw [sf_eq], c, wrB β4 0 u, mB_sA _ _ _, rdB_wrB _ _ _⟩
        have y2 : gfI (mem W (S.so 13 0 o2)) (W.ad (.o 13 0)) 13 50 = some (Int32.ofNat n) := by rw [gfI_m h.lo rfl, so_eq, f50]
        have y3 : gfI (mem W (S.so 13 0 o3)) (W.ad (.o 13 0)) 13 50 = some (Int32.ofNat n) := by rw [gfI_m h.lo rfl, so_eq, a3'.1 50 (by decide), f50]
        have em : ∀ x : Nat, (8192 : Int32) * (Int32.ofNat x) = (Int32.ofNat (8192 * x)) := fun x => n_mul 8192 x
        rw [h.gR 2 rfl (by decide), bO_s, bO_s, bO_s, h.gR 3 rfl (by decide), bO_s, rda, bO_s, bO_s, rcv_m h.lo, bO_s, em, em, em, em, g2, bO_s, h.gR 51 rfl (by decide), bO_s, h.gR 49 rfl (by decide), bO_s, y2, bO_s, oM_markOf hw', bP_s, v, bO_s, h.gR 49 rfl (by decide), bO_s, y3, bO_s, oM_markOf hw', bP_s, rcv_m h.lo, bO_s, n_add, show n + wayM w' = u.length by omega, t, bP_s]
        simp only [if_pos c]
        exact ⟨o4, rfl, M3.ag a4' (by decide) (by decide) (fun q hq _ => by
          rw [List.mem_singleton] at hq
          rw [hq]
          exact out4.2.2.imp (fun _ z => z.1)), ((a2.mono (by simp) (by simp) (fun x hx => List.mem_cons_of_mem _ hx) (by simp)).trans (a3'.mono (by simp) (by simp) (by simp [SLA]) (by simp))).trans (a4'.mono (by simp) (by simp) (by simp) (by simp)), out4⟩
      · rw [if_neg c]
        simp only [if_neg c]
        exact stay (-3)
    simp only [x2]
    have en : ¬ 2 ≤ w' → (Int32.ofNat (rows r').length) + (16 : Int32) - ((Int32.ofNat (rows r').length) - (Int32.ofNat (rows r').length) / (16 : Int32) * (16 : Int32)) = (Int32.ofNat (cnN w' (rows r').length)) := by
      intro q
      have e1 : (Int32.ofNat (rows r').length) / (16 : Int32) = (Int32.ofNat ((rows r').length / 16)) := n_div (b := 16) (by omega) (by decide)
      have e2 : (Int32.ofNat ((rows r').length / 16)) * (16 : Int32) = (Int32.ofNat ((rows r').length / 16 * 16)) := n_mul _ 16
      rw [e1, e2, n_sub (by omega), n_addL _ 16, n_sub (by omega)]
      unfold cnN
      rw [if_neg q, show (rows r').length + 16 - ((rows r').length - (rows r').length / 16 * 16) = ((rows r').length / 16 + 1) * 16 by omega]
    by_cases c : 2 ≤ w'
    · have ec : cnN w' (rows r').length = (rows r').length := by unfold cnN; rw [if_pos c]
      rw [ec] at e47
      rw [if_pos c]
      exact e47
    · rw [if_neg c, en c]
      exact e47
end MSL
