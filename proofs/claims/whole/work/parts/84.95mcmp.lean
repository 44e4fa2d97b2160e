/-! A SEALED TOKEN COMPOSED: the model -/
abbrev enF : List Nat := [5, 28, 37, 39, 44, 50, 73, 110, 111, 122, 127]
abbrev enA : List Nat := [4, 27, 31, 32, 35, 36, 38, 40, 43, 45, 46, 47, 48, 49, 51, 52, 60, 61, 62, 67, 68, 69, 70, 71, 72, 74, 75, 76, 77, 78, 79, 80, 82, 107, 108, 109, 121, 125, 126, 130, 131]
theorem oM_begOf {G : mG} {F w : Nat} (hw : w < 4) (M : mM) : P_X13_beginningOf G F (Int32.ofNat w) M = some ((Int32.ofNat (ivOf w)), M) := by
  have h4 : w = 0 ∨ w = 1 ∨ w = 2 ∨ w = 3 := by omega
  rcases h4 with rfl | rfl | rfl | rfl <;> rfl
theorem app_tk {xs ys c : List UInt8} (h : xs ++ ys = c) : xs = c.take xs.length ∧ ys = c.drop xs.length := by
  rw [← h]
  exact ⟨by rw [List.take_left' rfl], by rw [List.drop_left' rfl]⟩
section MCM
variable {W : WR} {G : mG} {F : Nat} {S : ST} {A : Nat → Option KY} {K : KY}
theorem oM_adl {o : Ob} {ys zs : List UInt8} {k1 p1 cnt : Nat} {β : Nat → UInt8} (X : Cx G F W) (hM : isM W) (q : (kdA 13)[k1]? = some 1) (hne : k1 ≠ 121) (hl : mLen k1 < 2 ^ 30) (hb : p1 + cnt ≤ mLen k1) (hc : cnt < 20000) (hy : ys.length + 2 * cnt + 2 < 60000) (hs : mSd o ys) (hβ : mB o k1 β) (hz : rdB β p1 cnt = zs) : ∃ o1 o2, P_X13_addByte G F (W.ad (.o 13 0)) 46 (mem W (S.so 13 0 o)) = some (mem W (S.so 13 0 o1)) ∧ P_X13_addLetters G F (W.ad (.o 13 0)) (W.ad (.a 13 0 k1)) (Int32.ofNat p1) (Int32.ofNat cnt) (mem W (S.so 13 0 o1)) = some (mem W (S.so 13 0 o2)) ∧ mSd o2 (ys ++ (46 :: enc zs)) ∧ agr [122] [] [121] [] o o1 ∧ agr [122] [] [121] [] o o2 := by
  obtain ⟨o1, g1, s1, a1⟩ := oM_addByte (G := G) (F := F) (S := S) (o := o) (ys := ys) (x := 46) (y := 46) hM hs (by omega) rfl
  obtain ⟨o2, g2, s2, a2⟩ := oM_addLetters (G := G) (F := F) (S := S) (o := o1) (k1 := k1) (p1 := p1) (cnt := cnt) X hM q hne hl hb hc (by rw [List.length_append]; show ys.length + 1 + 2 * cnt + 1 < 60000; omega) s1 (a1.mB hβ (by simp [hne]))
  rw [hz, List.append_assoc] at s2
  exact ⟨o1, o2, g1, g2, s2, a1, a1.trans a2⟩
theorem QM_comp107 {o : Ob} {w p at_ : Nat} {rows : Nat → List UInt8} {βr β125 β126 : Nat → UInt8} {ys hb sk iv ck : List UInt8} (X : Cx G F W) (h : isM W) (M : MO S o) (bx : oBX o) (hw : w < 4) (hp : p < 8) (w1 : mB o 2 βr) (w2 : ∀ r, r < 8 → o.a 3 r = (Int32.ofNat (rows r).length) ∧ (rows r).length ≤ 8192 ∧ rdB βr (8192 * r) (rows r).length = rows r) (hd : mDr o ys) (hy : ys.length < 1000000) (hhb : ys ++ [125] = hb) (b125 : mB o 125 β125) (r125 : rdB β125 0 ck.length = ck) (ckl : ck.length = wayK w) (b126 : mB o 126 β126) (r126 : rdB β126 0 sk.length = sk) (skl : sk.length ≤ 128) (f127 : o.f 127 = (Int32.ofNat sk.length)) (iv_ : at_ + ivOf w ≤ 65536) (riv : rdB βr at_ (ivOf w) = iv) (r : Int32 ⊕ List UInt8) (hr : r = slZ w hb sk iv ck (rows p)) : ∃ o', B_X13_compose_107 G F (W.ad (.o 13 0)) (Int32.ofNat w) (Int32.ofNat p) (Int32.ofNat at_) (mem W (S.so 13 0 o)) = some (ansT r, mem W (S.so 13 0 o')) ∧ MO S o' ∧ agr enF tkG enA [33, 34] o o' ∧ outM o o' r := by
  obtain ⟨w3, w4, w5⟩ := w2 p hp
  have ivl : iv.length = ivOf w := by rw [← riv, rdB_len]
  have ivm := ivOf_le w
  have wk := wayK_le w
  have wm := wayM_32 w
  obtain ⟨o1, g1, d1, a1⟩ := oM_sayc (G := G) (F := F) (S := S) (o := o) (x := 125) (y := 125) h hd (by omega) rfl
  rw [hhb] at d1
  have hbl : hb.length < 1000001 := by
    rw [← hhb, List.length_append]
    show ys.length + 1 < 1000001
    omega
  have tl := tokB_len hw hb sk iv ck (rows p)
  have cn := cnN_le w (rows p).length
  obtain ⟨f28, β27, b27, r27⟩ := id d1
  have M1 : MO S o1 := M.ag a1 (by decide) (by decide) (fun q hq _ => by
    rw [List.mem_singleton] at hq
    rw [hq]
    exact ⟨_, b27⟩)
  have a1' : agr enF tkG enA [33, 34] o o1 := a1.mono (by simp) (by simp) (by simp) (by simp)
  have rd3 : aI G (mem W (S.so 13 0 o1)) 0 (W.ad (.a 13 0 3)) (Int32.ofNat p) = some (Int32.ofNat (rows p).length) := by rw [h.aN rfl (show p < mLen 3 from hp) (by decide), so_eq, a1.2.2.1 3 (by decide), w3]
  have x28 : gfI (mem W (S.so 13 0 o1)) (W.ad (.o 13 0)) 13 28 = some (Int32.ofNat hb.length) := by rw [gfI_m h.lo rfl, so_eq, f28]
  have bad : r = .inl (-3) → ∃ o', some ((-3 : Int32), mem W (S.so 13 0 o1)) = some (ansT r, mem W (S.so 13 0 o')) ∧ MO S o' ∧ agr enF tkG enA [33, 34] o o' ∧ outM o o' r := by
    intro q
    rw [q]
    exact ⟨o1, rfl, M1, a1', outM.of a1 (by decide) (by decide)⟩
  unfold B_X13_compose_107
  rw [rcv_m h.lo, bO_s, g1, bO_s, h.gR 3 rfl (by decide), bO_s, rd3, bO_s, x28, bO_s]
  have xl : ((8192 : Int32) < (Int32.ofNat hb.length)) = (8192 < hb.length) := propext (n_lt (a := 8192) (by omega) (by omega))
  have xn : ((Int32.ofNat (rows p).length) ≤ (8000 : Int32)) = ((rows p).length ≤ 8000) := propext (n_le (b := 8000) (by omega) (by omega))
  simp only [xl, xn]
  by_cases c1 : 8192 < hb.length
  · rw [if_pos c1]
    exact bad (by rw [hr]; unfold slZ; rw [if_neg (fun q => by omega)])
  rw [if_neg c1]
  by_cases c2 : (rows p).length ≤ 8000
  · rw [if_pos c2]
    rw [Nat.min_eq_left (by omega), List.take_of_length_le (by omega)] at r27
    have hel := enc_len hb
    obtain ⟨β121, b121⟩ := M1.2.2 121 rfl
    have s2 : mSd (o1.sf 122 0) [] := ⟨by rw [sf_eq]; rfl, β121, b121, rfl⟩
    have a2 : agr [122] [] [] [] o1 (o1.sf 122 0) := agr_sf (by simp)
    obtain ⟨o3, g3, s3, a3⟩ := oM_addLetters (G := G) (F := F) (S := S) (o := o1.sf 122 0) (k1 := 27) (p1 := 0) (cnt := hb.length) (β := β27) X h rfl (by decide) (by decide) (by show _ ≤ 8300; omega) (by omega) (by rw [List.length_nil]; omega) s2 (a2.mB b27 (by simp))
    rw [r27, List.nil_append] at s3
    have g3 : P_X13_addLetters G F (W.ad (.o 13 0)) (W.ad (.a 13 0 27)) 0 (Int32.ofNat hb.length) (mem W (S.so 13 0 (o1.sf 122 0))) = _ := g3
    have a23 : agr [122] [] [121] [] o1 o3 := (a2.mono (by simp) (by simp) (by simp) (by simp)).trans a3
    have a03 : agr [28, 122] [] [27, 121] [] o o3 := (a1.mono (by simp) (by simp) (by simp) (by simp)).trans (a23.mono (by simp) (by simp) (by simp) (by simp))
    obtain ⟨f122, γ121, c121, e121⟩ := id s3
    have M3 : MO S o3 := M1.ag a23 (by decide) (by decide) (fun q hq _ => by
      rw [List.mem_singleton] at hq
      rw [hq]
      exact ⟨_, c121⟩)
    obtain ⟨γ49, b49⟩ := M3.2.2 49 rfl
    obtain ⟨μ51, b51⟩ := M3.2.2 51 rfl
    obtain ⟨o4, γ', μ', g4, a4, f50, c49, c51, ec, c47, c52, d4⟩ := oM_sealIt (G := G) (F := F) (S := S) (o := o3) (way := w) (kk := 125) (pk := 0) (kb := 2) (pb := at_) (ka := 121) (pa := 0) (ko := 2) (po := 8192 * p) (key := ck) (iv := iv) (al := enc hb) (u := rows p) X h hw rfl rfl rfl rfl (by decide) (by decide) (by decide) (by decide) (by decide) (by decide) (by decide) (by decide) (by show _ ≤ 64; omega) (by show _ ≤ 65536; omega) (by show _ ≤ 60000; omega) (by show _ ≤ 65536; omega) ckl ivl (by omega) (by omega) (a03.mB b125 (by decide)) (a03.mB w1 (by decide)) c121 (a03.mB w1 (by decide)) b49 b51 (M3.2.2 47 rfl) (M3.2.2 52 rfl) M3.2.1 ⟨fun x => by rw [a03.2.2.1 41 (by decide)]; exact bx.1 x, fun x => by rw [a03.2.2.1 42 (by decide)]; exact bx.2 x⟩ r125 (by rw [ivl]; exact riv) e121 w5
    have g4 : P_X13_sealIt G F (W.ad (.o 13 0)) (Int32.ofNat w) (W.ad (.a 13 0 125)) 0 (W.ad (.a 13 0 2)) (Int32.ofNat at_) (W.ad (.a 13 0 121)) 0 (Int32.ofNat (enc hb).length) (W.ad (.a 13 0 2)) (Int32.ofNat (8192 * p)) (Int32.ofNat (rows p).length) (mem W (S.so 13 0 o3)) = _ := g4
    obtain ⟨c, hc⟩ : ∃ c, c = sealF w ck iv (enc hb) (rows p) := ⟨_, rfl⟩
    have cl : c.length = cnN w (rows p).length + wayM w := by rw [hc]; exact sealF_len w ck iv (enc hb) (rows p) hw
    rw [← hc] at f50 ec tl
    obtain ⟨t1, t2⟩ := app_tk ec
    rw [rdB_len] at t1 t2
    have M4 : MO S o4 := ⟨M3.1.agL a4 (by decide), d4, M3.2.2.keep a4 (fun n hn z => by
      simp only [SLA, List.mem_cons, List.not_mem_nil, or_false] at hn
      rcases hn with rfl | rfl | rfl | rfl | rfl | rfl | rfl | rfl | rfl | rfl | rfl | rfl | rfl
      · exact absurd z (by decide)
      · exact absurd z (by decide)
      · exact absurd z (by decide)
      · exact c47
      · exact ⟨_, c49⟩
      · exact ⟨_, c51⟩
      · exact c52
      · exact d4.2.1
      · exact absurd z (by decide)
      · exact absurd z (by decide)
      · exact d4.1
      · exact d4.2.2.1
      · exact d4.2.2.2)⟩
    have s4 : mSd o4 (enc hb) := s3.ag a4 (by decide) (by decide)
    have a04c : agr [28, 122, 37, 39, 44, 50] tkG (27 :: 121 :: SLA) [33, 34] o o4 := (a03.mono (by simp) (by simp) (by simp) (by simp)).trans (a4.mono (by simp) (by simp) (fun x hx => List.mem_cons_of_mem _ (List.mem_cons_of_mem _ hx)) (by simp))
    have a04 : agr enF tkG enA [33, 34] o o4 := (a03.mono (by simp) (by simp) (by simp) (by simp)).trans (a4.mono (by simp) (by simp) (by simp [SLA]) (by simp))
    have ek := enc_len sk
    have ei := enc_len iv
    have e1 := enc_len (c.take (c.length - wayM w))
    have tkl_ : (c.take (c.length - wayM w)).length = c.length - wayM w := by rw [List.length_take]; omega
    have e2 := enc_len (c.drop (c.length - wayM w))
    have drl_ : (c.drop (c.length - wayM w)).length = wayM w := by rw [List.length_drop]; omega
    have lsd : (enc sk).length ≤ 172 := by omega
    have lid : (enc iv).length ≤ 22 := by omega
    have l1d : (enc (c.take (c.length - wayM w))).length ≤ 11000 := by omega
    obtain ⟨o5, o6, g5, g6, s6, a5, a6⟩ := oM_adl (G := G) (F := F) (S := S) (o := o4) (k1 := 126) (p1 := 0) (cnt := sk.length) X h rfl (by decide) (by decide) (by show _ ≤ 8200; omega) (by omega) (by omega) s4 (a04c.mB b126 (by decide)) r126
    obtain ⟨o7, o8, g7, g8, s8, a7, a8⟩ := oM_adl (G := G) (F := F) (S := S) (o := o6) (k1 := 2) (p1 := at_) (cnt := ivOf w) X h rfl (by decide) (by decide) (by show _ ≤ 65536; omega) (by omega) (by rw [List.length_append, List.length_cons]; omega) s6 (a6.mB (a04c.mB w1 (by decide)) (by decide)) riv
    obtain ⟨o9, o10, g9, g10, s10, a9, a10⟩ := oM_adl (G := G) (F := F) (S := S) (o := o8) (k1 := 49) (p1 := 0) (cnt := c.length - wayM w) X h rfl (by decide) (by decide) (by show _ ≤ 8300; omega) (by omega) (by rw [List.length_append, List.length_append, List.length_cons, List.length_cons]; omega) s8 (a8.mB (a6.mB c49 (by decide)) (by decide)) t1
    obtain ⟨o11, o12, g11, g12, s12, a11, a12⟩ := oM_adl (G := G) (F := F) (S := S) (o := o10) (k1 := 51) (p1 := 0) (cnt := wayM w) X h rfl (by decide) (by decide) (by show _ ≤ 64; omega) (by omega) (by rw [List.length_append, List.length_append, List.length_append, List.length_cons, List.length_cons, List.length_cons]; omega) s10 (a10.mB (a8.mB (a6.mB c51 (by decide)) (by decide)) (by decide)) t2
    have a412 : agr [122] [] [121] [] o4 o12 := ((a6.trans a8).trans a10).trans a12
    have es : enc hb ++ (46 :: enc sk) ++ (46 :: enc iv) ++ (46 :: enc (c.take (c.length - wayM w))) ++ (46 :: enc (c.drop (c.length - wayM w))) = tokB w hb sk iv c := by
      unfold tokB
      simp only [List.append_assoc]
    rw [es] at s12
    obtain ⟨_, δ121, d121, _⟩ := id s12
    have M12 : MO S o12 := M4.ag a412 (by decide) (by decide) (fun q hq _ => by
      rw [List.mem_singleton] at hq
      rw [hq]
      exact ⟨_, d121⟩)
    obtain ⟨o13, g13, a13, s13, n13⟩ := oM_saidOut (G := G) (F := F) (S := S) (o := o12) X h s12 (by omega) (M12.2.2 4 rfl)
    have x122 : gfI (mem W (S.so 13 0 o3)) (W.ad (.o 13 0)) 13 122 = some (Int32.ofNat (enc hb).length) := by rw [gfI_m h.lo rfl, so_eq, f122]
    have x28' : gfI (mem W (S.so 13 0 (o1.sf 122 0))) (W.ad (.o 13 0)) 13 28 = some (Int32.ofNat hb.length) := by rw [gfI_m h.lo rfl, so_eq, sf_ne (by decide), f28]
    have x127 : gfI (mem W (S.so 13 0 o5)) (W.ad (.o 13 0)) 13 127 = some (Int32.ofNat sk.length) := by rw [gfI_m h.lo rfl, so_eq, a5.1 127 (by decide), a04c.1 127 (by decide), f127]
    have x50 : gfI (mem W (S.so 13 0 o9)) (W.ad (.o 13 0)) 13 50 = some (Int32.ofNat (c.length - wayM w)) := by rw [gfI_m h.lo rfl, so_eq, a9.1 50 (by decide), a8.1 50 (by decide), a6.1 50 (by decide), f50]
    have e8 : (8192 : Int32) * (Int32.ofNat p) = (Int32.ofNat (8192 * p)) := n_mul 8192 p
    have g6 : P_X13_addLetters G F (W.ad (.o 13 0)) (W.ad (.a 13 0 126)) 0 (Int32.ofNat sk.length) (mem W (S.so 13 0 o5)) = _ := g6
    have g10 : P_X13_addLetters G F (W.ad (.o 13 0)) (W.ad (.a 13 0 49)) 0 (Int32.ofNat (c.length - wayM w)) (mem W (S.so 13 0 o9)) = _ := g10
    have g12 : P_X13_addLetters G F (W.ad (.o 13 0)) (W.ad (.a 13 0 51)) 0 (Int32.ofNat (wayM w)) (mem W (S.so 13 0 o11)) = _ := g12
    rw [pfI_m h.lo rfl, bO_s, so_eq, so_so, show (0 : Int32) = 0 from rfl, h.gR 27 rfl (by decide), bO_s, x28', bO_s, rcv_m h.lo, bO_s, g3, bO_s, x122, bO_s, h.gR 125 rfl (by decide), bO_s, h.gR 2 rfl (by decide), bO_s, h.gR 121 rfl (by decide), bO_s, bO_s, rcv_m h.lo, bO_s, e8, g4, bO_s, rcv_m h.lo, bO_s, g5, bO_s, h.gR 126 rfl (by decide), bO_s, x127, bO_s, rcv_m h.lo, bO_s, g6, bO_s, rcv_m h.lo, bO_s, g7, bO_s, h.gR 2 rfl (by decide), bO_s, oM_begOf hw, bP_s, rcv_m h.lo, bO_s, g8, bO_s, rcv_m h.lo, bO_s, g9, bO_s, h.gR 49 rfl (by decide), bO_s, x50, bO_s, rcv_m h.lo, bO_s, g10, bO_s, rcv_m h.lo, bO_s, g11, bO_s, h.gR 51 rfl (by decide), bO_s, oM_markOf hw, bP_s, rcv_m h.lo, bO_s, g12, bO_s, rcv_m h.lo, bO_s, g13, bP_s]
    have a012 : agr enF tkG enA [33, 34] o o12 := a04.trans (a412.mono (by simp) (by simp) (by simp) (by simp))
    have a012' : agr (122 :: [28, 122, 37, 39, 44, 50]) tkG (121 :: 27 :: 121 :: SLA) [33, 34] o o12 := (a04c.mono (fun x hx => List.mem_cons_of_mem _ hx) (by simp) (fun x hx => List.mem_cons_of_mem _ hx) (by simp)).trans (a412.mono (by simp) (by simp) (by simp) (by simp))
    by_cases cf : (tokB w hb sk iv c).length ≤ 8192
    · have hr : r = .inr (tokB w hb sk iv c) := by
        rw [hr]
        unfold slZ
        rw [← hc, if_pos ⟨by omega, cf⟩]
      obtain ⟨_, _, β4, b4, _⟩ := s13 cf
      rw [if_pos cf, hr]
      refine ⟨o13, rfl, M12.ag a13 (by decide) (by decide) (fun q hq _ => ?_), a012.trans (a13.mono (by simp) (by simp) (by simp) (by simp)), s13 cf⟩
      rw [List.mem_singleton] at hq
      rw [hq]
      exact ⟨_, b4⟩
    · have hr : r = .inl (-3) := by
        rw [hr]
        unfold slZ
        rw [← hc, if_neg (fun q => cf q.2)]
      rw [if_neg cf, hr, n13 cf]
      exact ⟨o12, rfl, M12, a012, outM.of a012' (by decide) (by decide)⟩
  · rw [if_neg c2]
    refine bad ?_
    rw [hr]
    unfold slZ
    rw [if_neg (fun q => by
      have : (rows p).length ≤ cnN w (rows p).length := by unfold cnN; split <;> omega
      omega)]
end MCM
