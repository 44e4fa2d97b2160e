/-! CALL sign: the model -/
theorem sgF_len {a : Nat} {K : KY} {msg rnd sg : List UInt8} {sec : Bool} (ha : a < 5) (hm : maySg K a sec = true) (l1 : (Ma K).length ≤ 128) (h : sgF a K msg rnd = some sg) : sg.length ≤ 128 := by
  obtain ⟨kd1, _, _⟩ := maySg_kd hm
  unfold sgF at h
  split at h
  · rw [← Option.some.inj h, hmac_len]
    decide
  · split at h
    · rw [← Option.some.inj h, hmac_len]
      decide
    · have main : a ≤ 3 → K.2.1.1.length ≤ 128 := by
        intro h3
        have e : Ma K = K.2.1.1 := by
          unfold Ma
          rw [if_neg]
          rw [kd1]
          unfold sgKd
          split
          · omega
          · omega
        rw [← e]
        exact l1
      split at h
      · rw [← Option.some.inj h, powF_len]
        exact main (by omega)
      · split at h
        · split at h
          · rw [← Option.some.inj h, powF_len]
            exact main (by omega)
          · cases hs : sigF (sha false msg) (K.2.1.2.2.getD []) rnd with
            | none => rw [hs] at h; exact absurd h (by simp)
            | some rs =>
              rw [hs] at h
              rw [← Option.some.inj h, List.length_append, beV_len, beV_len]
              decide
        · exact absurd h (by simp)
section MSN
variable {W : WR} {G : mG} {F : Nat} {S : ST} {A : Nat → Option KY} {K : KY}
theorem QM_sgn397 {o : Ob} {k a r : Nat} {rows : Nat → List UInt8} {msg : List UInt8} {y : Int32} (X : Cx G F W) (h : isM W) (hmm : isMm W) (M0 : MO S o) (a0 : agr tkF tkG tkA [33, 34] (S 13 0) o) (out0 : o.f 5 = (S 13 0).f 5 ∧ o.a 4 = (S 13 0).a 4) (KK : KM o A) (hk : k < 16) (e : A k = some K) (ha : a < 5) (hm : maySg K a true = true) (hR : mRows o rows) (hs : mSd o msg) (hml : msg.length ≤ 22000) (hy : 3 ≤ a → r < 8 ∧ y = (Int32.ofNat r)) (rr : Int32 ⊕ List UInt8) (hr : rr = match sgF a K msg (if 3 ≤ a then rows r else []) with | none => .inl (-4) | some sg => if msg.length + 1 + (enc sg).length ≤ 8192 then .inr (msg ++ (46 :: enc sg)) else .inl (-3)) : ∃ S', B_X13_sign_397 G F (W.ad (.o 13 0)) (Int32.ofNat k) (Int32.ofNat a) y (mem W (S.so 13 0 o)) = some (ansT rr, mem W S') ∧ MT S S' ∧ outM (S 13 0) (S' 13 0) rr ∧ kpT 2 o (S' 13 0) := by
  obtain ⟨mk, hd, E⟩ := M0
  obtain ⟨⟨γ, hγ⟩, ⟨μ, hμ⟩, ⟨π, hπ⟩, ν, hν⟩ := id hd
  obtain ⟨f122, β121, b121, r121⟩ := id hs
  have m1 : mMsg (o.sf 39 0) [] := ⟨by rw [sf_eq]; rfl, by decide, ν, hν, rfl⟩
  have a1 : agr [39] [] [38] [] o (o.sf 39 0) := agr_sf (by simp)
  obtain ⟨o2, g2, m2, a2⟩ := oM_tellM (G := G) (F := F) (S := S) (o := o.sf 39 0) (k := 121) (p := 0) (cnt := msg.length) X h rfl (by decide) (by decide) (by show _ ≤ 60000; omega) m1 (by show 0 + _ ≤ 25000; omega) b121
  rw [r121, List.nil_append] at m2
  have g2 : P_X13_tellMessage G F (W.ad (.o 13 0)) (W.ad (.a 13 0 121)) 0 (Int32.ofNat msg.length) (mem W (S.so 13 0 (o.sf 39 0))) = _ := g2
  have a12 : agr [39] [] [38] [] o o2 := a1.trans a2
  have d2 : mDig o2 := ⟨⟨_, a12.mB hγ (by decide)⟩, ⟨_, a12.mB hμ (by decide)⟩, ⟨_, a12.mB hπ (by decide)⟩, m2.2.2.imp (fun _ q => q.1)⟩
  have E2 : mEv o2 := E.keep a12 (fun q hq _ => by
    rw [List.mem_singleton] at hq
    rw [hq]
    exact d2.2.2.2)
  have mk2 : MK (S.so 13 0 o2) := mk.agL a12 (by decide)
  obtain ⟨S3, g3, f3, a3, mk3, d3, E3, q3⟩ := QM_signIt (G := G) (F := F) (S := S.so 13 0 o2) (r := r) (y := y) X h hmm mk2 (by rw [so_eq]; exact KK.agr a12 (by decide)) hk e ha hm (by rw [so_eq]; exact a12.mRows hR (by decide) (by decide)) (by rw [so_eq]; exact d2) (by rw [so_eq]; exact m2) (by rw [so_eq]; exact E2) hy
  rw [so_eq] at a3
  have f3' : fr [(12, 0), (12, 1), (12, 2), (13, 0)] S S3 := fun c i q => by rw [f3 c i q, so_ne (fun z => q (by rw [z.1, z.2]; simp))]
  have a03 : agr tkF tkG tkA [33, 34] (S 13 0) (S3 13 0) := (a0.trans (a12.mono (by simp [tkF]) (by simp) (by simp [tkA]) (by simp))).trans (a3.mono (by simp [tkF]) (by simp) (by simp [tkA, siL]) (by simp))
  have ao3 : agr [37, 39, 73, 113] [] (38 :: siL) [33, 34] o (S3 13 0) := (a12.mono (by simp) (by simp) (by simp) (by simp)).trans (a3.mono (by simp) (by simp) (fun x hx => List.mem_cons_of_mem _ hx) (by simp))
  have MT3 : MT S S3 := ⟨f3', a03, mk3, d3, E3⟩
  have out3 : (S3 13 0).f 5 = (S 13 0).f 5 ∧ (S3 13 0).a 4 = (S 13 0).a 4 := ⟨(ao3.1 5 (by decide)).trans out0.1, (ao3.2.2.1 4 (by decide)).trans out0.2⟩
  have kp3 : kpT 2 o (S3 13 0) := fun bk' J' _ _ _ q => q.agr ao3 (by decide)
  have gs : gfI (mem W (S.so 13 0 (o.sf 39 0))) (W.ad (.o 13 0)) 13 122 = some (Int32.ofNat msg.length) := by
    rw [gfI_m h.lo rfl, so_eq, sf_ne (by decide), f122]
  unfold B_X13_sign_397
  rw [pfI_m h.lo rfl, bO_s, so_eq, so_so, h.gR 121 rfl (by decide), bO_s, gs, bO_s, rcv_m h.lo, bO_s, g2, bO_s, rcv_m h.lo, bO_s, g3, bP_s]
  cases es : sgF a K msg (if 3 ≤ a then rows r else []) with
  | none =>
    rw [es] at hr
    have hr : rr = .inl (-4) := hr
    rw [if_neg (show ¬ (0 : Int32) ≤ (if (none : Option (List UInt8)).isSome = true then (0 : Int32) else -4) by decide), hr]
    exact ⟨S3, rfl, MT3, out3, kp3⟩
  | some sg =>
    rw [es] at hr
    have hr : rr = if msg.length + 1 + (enc sg).length ≤ 8192 then .inr (msg ++ (46 :: enc sg)) else .inl (-3) := hr
    obtain ⟨f113, β112, b112, r112⟩ := q3 sg es
    obtain ⟨α85, α87, α89, _, _, _, _, ⟨l1, _⟩, _, _, V⟩ := KK.at_ hk e
    have sgl : sg.length ≤ 128 := sgF_len ha hm l1 es
    have el := enc_len sg
    have hs3 : mSd (S3 13 0) msg := hs.ag ao3 (by decide) (by decide)
    obtain ⟨o4, g4, s4, a4⟩ := oM_addByte (G := G) (F := F) (S := S3) (o := S3 13 0) (x := 46) (y := 46) h hs3 (by omega) rfl
    rw [so_self] at g4
    have l46 : (msg ++ [46]).length = msg.length + 1 := by rw [List.length_append]; rfl
    obtain ⟨o5, g5, s5, a5⟩ := oM_addLetters (G := G) (F := F) (S := S3) (o := o4) (k1 := 112) (p1 := 0) (cnt := sg.length) X h rfl (by decide) (by decide) (by show _ ≤ 8200; omega) (by omega) (by omega) s4 (a4.mB b112 (by decide))
    rw [r112, List.append_assoc] at s5
    have s5 : mSd o5 (msg ++ (46 :: enc sg)) := s5
    have g5 : P_X13_addLetters G F (W.ad (.o 13 0)) (W.ad (.a 13 0 112)) 0 (Int32.ofNat sg.length) (mem W (S3.so 13 0 o4)) = _ := g5
    have a45 : agr [122] [] [121] [] (S3 13 0) o5 := a4.trans a5
    have E5 : mEv o5 := E3.keep a45 (fun q hq _ => by
      rw [List.mem_singleton] at hq
      rw [hq]
      exact s5.2.imp (fun _ z => z.1))
    have tl : (msg ++ (46 :: enc sg)).length = msg.length + 1 + (enc sg).length := by rw [List.length_append, List.length_cons]; omega
    obtain ⟨o6, g6, a6, u1, u2⟩ := oM_saidOut (G := G) (F := F) (S := S3) (o := o5) X h s5 (by omega) (E5 4 rfl)
    have x113 : gfI (mem W (S3.so 13 0 o4)) (W.ad (.o 13 0)) 13 113 = some (Int32.ofNat sg.length) := by rw [gfI_m h.lo rfl, so_eq, a4.1 113 (by decide), f113]
    have a36 : agr [5, 122] [] [4, 121] [] (S3 13 0) o6 := (a45.mono (by simp) (by simp) (by simp) (by simp)).trans (a6.mono (by simp) (by simp) (by simp) (by simp))
    have MO3 : MO S3 (S3 13 0) := MO.of mk3 d3 E3
    have b4 : ∃ β, mB o6 4 β := by
      by_cases c : (msg ++ (46 :: enc sg)).length ≤ 8192
      · exact (u1 c).2.2.imp (fun _ z => z.1)
      · rw [u2 c]
        exact E5 4 rfl
    have MO6 : MO S3 o6 := MO3.ag a36 (by decide) (by decide) (fun q hq _ => by
      simp only [List.mem_cons, List.not_mem_nil, or_false] at hq
      rcases hq with rfl | rfl
      · exact b4
      · obtain ⟨β, z⟩ := E5 121 rfl
        exact ⟨β, a6.mB z (by decide)⟩)
    have MT6 : MT S (S3.so 13 0 o6) := MT3.trans (MO6.t (a36.mono (by simp [tkF]) (by simp) (by simp [tkA]) (by simp)))
    have kp6 : kpT 2 o ((S3.so 13 0 o6) 13 0) := fun bk' J' z1 z2 z3 q => by rw [so_eq]; exact (kp3 bk' J' z1 z2 z3 q).agr a36 (by decide)
    rw [if_pos (show (0 : Int32) ≤ (if (some sg).isSome = true then (0 : Int32) else -4) by rw [if_pos (show (some sg).isSome = true from rfl)]; decide), rcv_m h.lo, bO_s, g4, bO_s, h.gR 112 rfl (by decide), bO_s, x113, bO_s, rcv_m h.lo, bO_s, g5, bO_s, rcv_m h.lo, bO_s, g6, bP_s]
    by_cases c : msg.length + 1 + (enc sg).length ≤ 8192
    · rw [if_pos c] at hr
      have c' : (msg ++ (46 :: enc sg)).length ≤ 8192 := by omega
      rw [if_pos c', hr]
      exact ⟨_, rfl, MT6, by rw [so_eq]; exact u1 c', kp6⟩
    · rw [if_neg c] at hr
      have c' : ¬ (msg ++ (46 :: enc sg)).length ≤ 8192 := by omega
      rw [if_neg c', hr]
      refine ⟨_, rfl, MT6, ?_, kp6⟩
      rw [so_eq, u2 c']
      exact ⟨(a45.1 5 (by decide)).trans out3.1, (a45.2.2.1 4 (by decide)).trans out3.2⟩
theorem QM_sgn298 {o : Ob} {k a p r : Nat} {rows : Nat → List UInt8} {hb : List UInt8} {η : Nat → UInt8} {bare : Bool} {y : Int32} (X : Cx G F W) (h : isM W) (hmm : isMm W) (M0 : MO S o) (a0 : agr tkF tkG tkA [33, 34] (S 13 0) o) (out0 : o.f 5 = (S 13 0).f 5 ∧ o.a 4 = (S 13 0).a 4) (KK : KM o A) (hk : k < 16) (e : A k = some K) (ha : a < 5) (hm : maySg K a true = true) (hR : mRows o rows) (hp : p < 8) (b119 : mB o 119 η) (r119 : rdB η 0 hb.length = hb) (f120 : o.f 120 = (Int32.ofNat hb.length)) (hbl : hb.length ≤ 8192) (f104 : o.f 104 = if bare = true then 1 else 0) (hy : 3 ≤ a → r < 8 ∧ y = (Int32.ofNat r)) (rr : Int32 ⊕ List UInt8) (hno : (bare && (rows p).any (fun x => decide (x = 46))) = false) (hr : rr = sgnT a K (if 3 ≤ a then rows r else []) hb (rows p) bare) : ∃ S', B_X13_sign_298 G F (W.ad (.o 13 0)) (Int32.ofNat k) (Int32.ofNat a) (Int32.ofNat p) y (mem W (S.so 13 0 o)) = some (ansT rr, mem W S') ∧ MT S S' ∧ outM (S 13 0) (S' 13 0) rr ∧ kpT 2 o (S' 13 0) := by
  obtain ⟨βr, w1, w2⟩ := id hR
  obtain ⟨w3, w4, w5⟩ := w2 p hp
  have hr : rr = match sgF a K (enc hb ++ (46 :: (if bare = true then rows p else enc (rows p)))) (if 3 ≤ a then rows r else []) with | none => .inl (-4) | some sg => if (enc hb ++ (46 :: (if bare = true then rows p else enc (rows p)))).length + 1 + (enc sg).length ≤ 8192 then .inr ((enc hb ++ (46 :: (if bare = true then rows p else enc (rows p)))) ++ (46 :: enc sg)) else .inl (-3) := by
    rw [hr]
    unfold sgnT
    rw [hno]
    rfl
  have eh := enc_len hb
  have ep := enc_len (rows p)
  obtain ⟨β121, b121⟩ := M0.2.2 121 rfl
  have s0 : mSd (o.sf 122 0) [] := ⟨by rw [sf_eq]; rfl, β121, b121, rfl⟩
  have a1 : agr [122] [] [121] [] o (o.sf 122 0) := agr_sf (by simp)
  obtain ⟨o2, g2, s2, a2⟩ := oM_addLetters (G := G) (F := F) (S := S) (o := o.sf 122 0) (k1 := 119) (p1 := 0) (cnt := hb.length) X h rfl (by decide) (by decide) (by show _ ≤ 8300; omega) (by omega) (by show 0 + 2 * hb.length + 1 < 60000; omega) s0 b119
  rw [r119, List.nil_append] at s2
  have g2 : P_X13_addLetters G F (W.ad (.o 13 0)) (W.ad (.a 13 0 119)) 0 (Int32.ofNat hb.length) (mem W (S.so 13 0 (o.sf 122 0))) = _ := g2
  obtain ⟨o3, g3, s3, a3⟩ := oM_addByte (G := G) (F := F) (S := S) (o := o2) (x := 46) (y := 46) h s2 (by omega) rfl
  have a13 : agr [122] [] [121] [] o o3 := (a1.trans a2).trans a3
  have l46 : (enc hb ++ [46]).length = (enc hb).length + 1 := by rw [List.length_append]; rfl
  have x120 : gfI (mem W (S.so 13 0 (o.sf 122 0))) (W.ad (.o 13 0)) 13 120 = some (Int32.ofNat hb.length) := by rw [gfI_m h.lo rfl, so_eq, sf_ne (by decide), f120]
  have x104 : gfI (mem W (S.so 13 0 o3)) (W.ad (.o 13 0)) 13 104 = some (if bare = true then 1 else 0) := by rw [gfI_m h.lo rfl, so_eq, a13.1 104 (by decide), f104]
  have rd3 : ∀ o' : Ob, o'.a 3 = o.a 3 → aI G (mem W (S.so 13 0 o')) 0 (W.ad (.a 13 0 3)) (Int32.ofNat p) = some (Int32.ofNat (rows p).length) := fun o' q => by rw [h.aN rfl (show p < mLen 3 from hp) (by decide), so_eq, q, w3]
  have e8 : (8192 : Int32) * (Int32.ofNat p) = (Int32.ofNat (8192 * p)) := n_mul 8192 p
  -- from the message on
  have go : ∀ (o4 : Ob) (w : List UInt8), w = (if bare = true then rows p else enc (rows p)) → agr [122] [] [121] [] o o4 → mSd o4 (enc hb ++ (46 :: w)) → ∃ S', B_X13_sign_397 G F (W.ad (.o 13 0)) (Int32.ofNat k) (Int32.ofNat a) y (mem W (S.so 13 0 o4)) = some (ansT rr, mem W S') ∧ MT S S' ∧ outM (S 13 0) (S' 13 0) rr ∧ kpT 2 o (S' 13 0) := by
    intro o4 w hw a4 s4
    rw [← hw] at hr
    have wl : w.length ≤ 10923 := by
      rw [hw]
      split <;> omega
    have ml : (enc hb ++ (46 :: w)).length ≤ 22000 := by
      rw [List.length_append, List.length_cons]
      omega
    have M4 : MO S o4 := M0.ag a4 (by decide) (by decide) (fun q hq _ => by
      rw [List.mem_singleton] at hq
      rw [hq]
      exact s4.2.imp (fun _ z => z.1))
    obtain ⟨S', z1, z2, z3, z4⟩ := QM_sgn397 (G := G) (F := F) (S := S) (o := o4) (r := r) (rows := rows) (y := y) X h hmm M4 (a0.trans (a4.mono (by simp [tkF]) (by simp) (by simp [tkA]) (by simp))) ⟨(a4.1 5 (by decide)).trans out0.1, (a4.2.2.1 4 (by decide)).trans out0.2⟩ (KK.agr a4 (by decide)) hk e ha hm (a4.mRows hR (by decide) (by decide)) s4 ml hy rr hr
    exact ⟨S', z1, z2, z3, fun bk' J' q1 q2 q3 q4 => z4 bk' J' q1 q2 q3 (q4.agr a4 (by decide))⟩
  unfold B_X13_sign_298
  rw [pfI_m h.lo rfl, bO_s, so_eq, so_so, h.gR 119 rfl (by decide), bO_s, x120, bO_s, rcv_m h.lo, bO_s, g2, bO_s, rcv_m h.lo, bO_s, g3, bO_s, x104, bO_s]
  cases bare with
  | false =>
    obtain ⟨o4, g4, s4, a4⟩ := oM_addLetters (G := G) (F := F) (S := S) (o := o3) (k1 := 2) (p1 := 8192 * p) (cnt := (rows p).length) X h rfl (by decide) (by decide) (by show _ ≤ 65536; omega) (by omega) (by omega) s3 (a13.mB w1 (by decide))
    rw [w5, List.append_assoc] at s4
    rw [if_pos (show (if false = true then (1 : Int32) else 0) = 0 from rfl), h.gR 2 rfl (by decide), bO_s, h.gR 3 rfl (by decide), bO_s, rd3 o3 (a13.2.2.1 3 (by decide)), bO_s, rcv_m h.lo, bO_s, e8, g4, bO_s]
    exact go o4 (enc (rows p)) rfl (a13.trans a4) s4
  | true =>
    obtain ⟨f3, β3, b3, r3⟩ := id s3
    have v := oM_move (G := G) (F := F) (S := S) (o := o3) (k1 := 2) (k2 := 121) (p1 := 8192 * p) (p2 := (enc hb ++ [46]).length) (cnt := (rows p).length) X h rfl rfl (by decide) (by decide) (by decide) (by show _ ≤ 65536; omega) (by show _ ≤ 60000; omega) (by omega) (a13.mB w1 (by decide)) b3
    rw [w5] at v
    obtain ⟨o4, ho4⟩ : ∃ o4, o4 = o3.sA 121 (fun j => sb (wrB β3 (enc hb ++ [46]).length (rows p) j)) := ⟨_, rfl⟩
    rw [← ho4] at v
    have a4 : agr [122] [] [121] [] o3 o4 := by rw [ho4]; exact agr_sA (by simp)
    have x122 : gfI (mem W (S.so 13 0 o3)) (W.ad (.o 13 0)) 13 122 = some (Int32.ofNat (enc hb ++ [46]).length) := by rw [gfI_m h.lo rfl, so_eq, f3]
    have f4 : o4.f 122 = (Int32.ofNat (enc hb ++ [46]).length) := by rw [ho4, sA_f, f3]
    have x122' : gfI (mem W (S.so 13 0 o4)) (W.ad (.o 13 0)) 13 122 = some (Int32.ofNat (enc hb ++ [46]).length) := by rw [gfI_m h.lo rfl, so_eq, f4]
    have b4 : mB o4 121 (wrB β3 (enc hb ++ [46]).length (rows p)) := by rw [ho4]; exact mB_sA _ _ _
    have r4 : rdB (wrB β3 (enc hb ++ [46]).length (rows p)) 0 ((enc hb ++ [46]).length + (rows p).length) = enc hb ++ [46] ++ rows p := by
      have q := rdB_app β3 0 (rows p) (enc hb ++ [46]).length
      rw [Nat.zero_add, r3] at q
      exact q
    obtain ⟨o5, ho5⟩ : ∃ o5, o5 = o4.sf 122 (Int32.ofNat ((enc hb ++ [46]).length + (rows p).length)) := ⟨_, rfl⟩
    have a5 : agr [122] [] [121] [] o4 o5 := by rw [ho5]; exact agr_sf (by simp)
    have s5 : mSd o5 (enc hb ++ (46 :: rows p)) := by
      have el : (enc hb ++ (46 :: rows p)).length = (enc hb ++ [46]).length + (rows p).length := by
        rw [List.length_append, List.length_cons, l46]
        omega
      refine ⟨by rw [ho5, sf_eq, el], _, by rw [ho5]; exact b4, ?_⟩
      rw [el, r4, List.append_assoc]
      rfl
    rw [if_neg (show ¬ (if true = true then (1 : Int32) else 0) = 0 by decide), h.gR 2 rfl (by decide), bO_s, h.gR 121 rfl (by decide), bO_s, x122, bO_s, h.gR 3 rfl (by decide), bO_s, rd3 o3 (a13.2.2.1 3 (by decide)), bO_s, e8, v, bO_s, x122', bO_s, h.gR 3 rfl (by decide), bO_s, rd3 o4 ((a4.2.2.1 3 (by decide)).trans (a13.2.2.1 3 (by decide))), bO_s, n_add, pfI_m h.lo rfl, bO_s, so_eq, so_so, ← ho5]
    exact go o5 (rows p) rfl ((a13.trans a4).trans a5) s5
theorem QM_sgn234 {o : Ob} {k a p r : Nat} {rows : Nat → List UInt8} {hb : List UInt8} {η : Nat → UInt8} {bare : Bool} {y : Int32} (X : Cx G F W) (h : isM W) (hmm : isMm W) (M0 : MO S o) (a0 : agr tkF tkG tkA [33, 34] (S 13 0) o) (out0 : o.f 5 = (S 13 0).f 5 ∧ o.a 4 = (S 13 0).a 4) (KK : KM o A) (hk : k < 16) (e : A k = some K) (ha : a < 5) (hm : maySg K a true = true) (hR : mRows o rows) (hp : p < 8) (b119 : mB o 119 η) (r119 : rdB η 0 hb.length = hb) (f120 : o.f 120 = (Int32.ofNat hb.length)) (hbl : hb.length ≤ 8192) (f104 : o.f 104 = if bare = true then 1 else 0) (hy : 3 ≤ a → r < 8 ∧ y = (Int32.ofNat r)) (rr : Int32 ⊕ List UInt8) (hr : rr = sgnT a K (if 3 ≤ a then rows r else []) hb (rows p) bare) : ∀ (m i fuel : Nat) (g : Bool), m < fuel → i + m = (rows p).length → g = ((rows p).take i).any (fun x => decide (x = 46)) → ∃ S', B_X13_sign_234 G F fuel (W.ad (.o 13 0)) (Int32.ofNat k) (Int32.ofNat a) (Int32.ofNat p) y (if g = true then 1 else 0) (Int32.ofNat i) (mem W (S.so 13 0 o)) = some (ansT rr, mem W S') ∧ MT S S' ∧ outM (S 13 0) (S' 13 0) rr ∧ kpT 2 o (S' 13 0) := by
  obtain ⟨βr, w1, w2⟩ := id hR
  obtain ⟨w3, w4, w5⟩ := w2 p hp
  have rd3 : aI G (mem W (S.so 13 0 o)) 0 (W.ad (.a 13 0 3)) (Int32.ofNat p) = some (Int32.ofNat (rows p).length) := by rw [h.aN rfl (show p < mLen 3 from hp) (by decide), so_eq, w3]
  have e8 : (8192 : Int32) * (Int32.ofNat p) = (Int32.ofNat (8192 * p)) := n_mul 8192 p
  have x104 : gfI (mem W (S.so 13 0 o)) (W.ad (.o 13 0)) 13 104 = some (if bare = true then 1 else 0) := by rw [gfI_m h.lo rfl, so_eq, f104]
  intro m
  induction m with
  | zero =>
    intro i fuel g hf hi hg
    obtain ⟨fuel, rfl⟩ : ∃ q, fuel = q + 1 := ⟨fuel - 1, by omega⟩
    have hg : g = (rows p).any (fun x => decide (x = 46)) := by
      rw [hg, List.take_of_length_le (by omega)]
    rw [B_X13_sign_234, h.gR 3 rfl (by decide), bO_s, rd3, bO_s, if_pos ((n_le (by omega) (by omega)).mpr (by omega)), x104, bO_s]
    have go := fun hno => QM_sgn298 (G := G) (F := F) (S := S) (o := o) (p := p) (r := r) (y := y) X h hmm M0 a0 out0 KK hk e ha hm hR hp b119 r119 f120 hbl f104 hy rr hno hr
    cases bare with
    | false =>
      rw [if_pos (show (if false = true then (1 : Int32) else 0) = 0 from rfl)]
      exact go rfl
    | true =>
      rw [if_neg (show ¬ (if true = true then (1 : Int32) else 0) = 0 by decide)]
      cases g with
      | false =>
        rw [if_pos (show (if false = true then (1 : Int32) else 0) = 0 from rfl)]
        exact go (by rw [← hg]; rfl)
      | true =>
        have hr : rr = .inl (-5) := by
          rw [hr]
          unfold sgnT
          rw [← hg]
          rfl
        rw [if_neg (show ¬ (if true = true then (1 : Int32) else 0) = 0 by decide), hr]
        exact ⟨_, rfl, M0.t a0, by rw [so_eq]; exact out0, fun bk' J' _ _ _ q => by rw [so_eq]; exact q⟩
  | succ m ih =>
    intro i fuel g hf hi hg
    obtain ⟨fuel, rfl⟩ : ∃ q, fuel = q + 1 := ⟨fuel - 1, by omega⟩
    have il : i < (rows p).length := by omega
    have bx : βr (8192 * p + i) = (rows p)[i] := by
      have q : (rows p)[i]? = some (βr (8192 * p + i)) := by rw [← w5, rdB_at il]
      rw [List.getElem?_eq_getElem il] at q
      exact (Option.some.inj q).symm
    have tk : ((rows p).take (i + 1)).any (fun x => decide (x = 46)) = (g || decide ((rows p)[i] = 46)) := by
      rw [List.take_add_one, List.getElem?_eq_getElem il, List.any_append, ← hg]
      simp
    have rd2 : aI G (mem W (S.so 13 0 o)) 1 (W.ad (.a 13 0 2)) (Int32.ofNat (8192 * p + i)) = some (sb (rows p)[i]) := by
      rw [h.aB' rfl w1 (by show _ < 65536; omega) (by decide), bx]
    have nx := fun g' hg' => ih (i + 1) fuel g' (by omega) (by omega) hg'
    rw [B_X13_sign_234, h.gR 3 rfl (by decide), bO_s, rd3, bO_s, if_neg (fun q => by have := (n_le (by omega) (by omega)).mp q; omega)]
    cases g with
    | true =>
      rw [if_neg (show ¬ (if true = true then (1 : Int32) else 0) = 0 by decide), n_i1]
      exact nx true (by rw [tk]; rfl)
    | false =>
      rw [if_pos (show (if false = true then (1 : Int32) else 0) = 0 from rfl), h.gR 2 rfl (by decide), bO_s, e8, n_add, rd2, bO_s, n_i1]
      have iff : (sb (rows p)[i] = (46 : Int32)) = ((rows p)[i] = 46) := propext (sb_asc (y := 46) (by decide))
      simp only [iff]
      by_cases c : (rows p)[i] = 46
      · rw [if_pos c]
        exact nx true (by rw [tk, decide_eq_true c]; rfl)
      · rw [if_neg c]
        exact nx false (by rw [tk, decide_eq_false c]; rfl)
end MSN
