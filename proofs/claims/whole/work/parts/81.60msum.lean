/-! SEALED CONTENT BY A COUNTER: the model -/
theorem beN_beL (x : Int64) : Int64.ofNat (beN (beL 8 x)) = x := by
  have hx := L2n_lt x
  have e : beL 8 x = [bL x 56, bL x 48, bL x 40, bL x 32, bL x 24, bL x 16, bL x 8, bL x 0] := rfl
  have t : ∀ s, (bL x s).toNat = L2n x / 2 ^ s % 256 := fun s => by
    unfold bL
    rw [UInt8.toNat_ofNat']
    rfl
  rw [e]
  conv => rhs; rw [L_of x]
  congr 1
  simp only [beN, List.foldl_cons, List.foldl_nil, t]
  omega
theorem i64_8' {n : Nat} (h : n < 2 ^ 28) : (8 : Int64) * ((Int32.ofNat n)).toInt64 = Int64.ofNat (8 * n) := by
  rw [n_64 (by omega), show (8 : Int64) = Int64.ofNat 8 from rfl, ← Int64.ofNat_mul]
theorem agr_sg {fs gs as ls : List Nat} {o : Ob} {k : Nat} {v : Int64} (h : k ∈ gs) : agr fs gs as ls o (o.sg k v) := ⟨fun _ _ => rfl, fun k' hk => by rw [sg_g, if_neg (fun e => hk (by rw [e]; exact h))], fun _ _ => rfl, fun _ _ => rfl, rfl⟩
theorem rd_hi {δ : Nat → UInt8} {E : List UInt8} (hE : E.length = 16) (h : ∀ j, j < 16 → δ j = E.getD j 0) : Int64.ofNat (beN (rdB δ 0 8)) = hi8 E ∧ Int64.ofNat (beN (rdB δ 8 8)) = lo8L E := by
  unfold hi8 lo8L
  have e1 : rdB δ 0 8 = E.take 8 := by
    apply List.ext_getElem?
    intro j
    by_cases hj : j < 8
    · rw [rdB_at hj, List.getElem?_take_of_lt hj, Nat.zero_add, h j (by omega), List.getD_eq_getElem?_getD, List.getElem?_eq_getElem (by omega)]
      rfl
    · rw [List.getElem?_eq_none (by rw [rdB_len]; omega), List.getElem?_eq_none (by rw [List.length_take]; omega)]
  have e2 : rdB δ 8 8 = (E.drop 8).take 8 := by
    apply List.ext_getElem?
    intro j
    by_cases hj : j < 8
    · rw [rdB_at hj, List.getElem?_take_of_lt hj, List.getElem?_drop, h (8 + j) (by omega), List.getD_eq_getElem?_getD, List.getElem?_eq_getElem (by omega)]
      rfl
    · rw [List.getElem?_eq_none (by rw [rdB_len]; omega), List.getElem?_eq_none (by rw [List.length_take, List.length_drop]; omega)]
  rw [e1, e2]
  exact ⟨rfl, rfl⟩
/-- the two lengths as a block -/
theorem len_blk {δ : Nat → UInt8} {x y : Int64} (h : rdB δ 0 16 = beL 8 x ++ beL 8 y) : hi8 (pad16 (rdB δ 0 16)) = x ∧ lo8L (pad16 (rdB δ 0 16)) = y := by
  have hp : pad16 (rdB δ 0 16) = beL 8 x ++ beL 8 y := by
    rw [h]
    apply List.ext_getElem?
    intro j
    by_cases hj : j < 16
    · have : (pad16 (beL 8 x ++ beL 8 y))[j]? = some ((beL 8 x ++ beL 8 y).getD j 0) := by
        unfold pad16 m16
        simp [hj]
      rw [this, List.getD_eq_getElem?_getD, List.getElem?_eq_getElem (by rw [List.length_append, beL_len, beL_len]; omega)]
      rfl
    · rw [List.getElem?_eq_none (by rw [pad16, m16_len]; omega), List.getElem?_eq_none (by rw [List.length_append, beL_len, beL_len]; omega)]
  rw [hp]
  unfold hi8 lo8L
  rw [List.take_append_of_le_length (by rw [beL_len]; omega), List.take_of_length_le (by rw [beL_len]; omega), List.drop_append_of_le_length (by rw [beL_len]; omega), List.drop_of_length_le (by rw [beL_len]; omega), List.nil_append, List.take_of_length_le (by rw [beL_len]; omega), beN_beL, beN_beL]
  exact ⟨rfl, rfl⟩
section MSUM
variable {W : WR} {G : mG} {F : Nat} {S : ST} {ks : Nat → UInt8} {nr : Nat}
abbrev SA : List Nat := [45, 46, 47, 51, 52]
theorem oM_zero {o : Ob} {l1 l3 l6 : Nat} {l2 l4 l5 l7 l8 : Int32} (X : Cx G F W) (h : isM W) : ∃ n' o', B_X13_sumMark_3 G F F (W.ad (.o 13 0)) l1 l2 l3 l4 l5 l6 l7 l8 0 (mem W (S.so 13 0 o)) = B_X13_sumMark_3 G F (n' + 1) (W.ad (.o 13 0)) l1 l2 l3 l4 l5 l6 l7 l8 16 (mem W (S.so 13 0 o')) ∧ agr [] [] [45] [] o o' ∧ oCL o' (m16 fun _ => 0) := by
  have hF := X.hF
  have h45 := h.hA 45 (by decide)
  obtain ⟨n', S1, e, a1, c1⟩ := loopS (fun n j S => B_X13_sumMark_3 G F n (W.ad (.o 13 0)) l1 l2 l3 l4 l5 l6 l7 l8 (Int32.ofNat j) (mem W S)) (fun j S' => arF [(13, 0, 45)] (S.so 13 0 o) S' ∧ ∀ t, t < j → (S' 13 0).a 45 t = gB (m16 fun _ => 0) t) 16 (by
    intro n j S1 hj hI
    obtain ⟨i1, i2⟩ := hI
    show ∃ S', B_X13_sumMark_3 G F (n + 1) _ _ _ _ _ _ _ _ _ _ _ = _ ∧ _
    rw [B_X13_sumMark_3, if_neg (by rw [lit 16]; exact fun q => absurd ((n_le (by omega) (by omega)).mp q) (by omega)), h45.g h.lo rfl, bO_s, h45.sa rfl hj, bO_s, n_addL j 1]
    refine ⟨_, rfl, i1.trans (arF_sa (by simp)), fun t ht => ?_⟩
    rw [sa_eq]
    by_cases et : t = j
    · rw [et, upd_eq, m16_g hj]
      rfl
    · rw [upd_ne et]
      exact i2 t (by omega)) 16 0 F (S.so 13 0 o) (by omega) rfl ⟨arF.refl _ _, fun t ht => absurd ht (Nat.not_lt_zero _)⟩
  obtain ⟨e1, e2⟩ := oar a1 (as := [45]) (by decide) (by decide)
  exact ⟨n', S1 13 0, by rw [← e1]; exact e, e2, c1⟩
theorem oM_sumMark {o : Ob} {kb pb ka pa kc pc : Nat} {iv al xs : List UInt8} {βb βa βc δ μ ζ : Nat → UInt8} (X : Cx G F W) (h : isM W) (qb : (kdA 13)[kb]? = some 1) (qa : (kdA 13)[ka]? = some 1) (qc : (kdA 13)[kc]? = some 1) (nb : kb ∉ SA) (na : ka ∉ SA) (nc : kc ∉ SA) (lb_ : mLen kb < 2 ^ 30) (la : mLen ka < 2 ^ 30) (lc : mLen kc < 2 ^ 30) (rb : pb + 12 ≤ mLen kb) (ra : pa + al.length ≤ mLen ka) (rc : pc + xs.length ≤ mLen kc) (sa_ : al.length < 80000) (sc : xs.length < 80000) (hb : mB o kb βb) (ha : mB o ka βa) (hc : mB o kc βc) (hδ : mB o 47 δ) (hμ : mB o 51 μ) (hζ : mB o 52 ζ) (hbx : oBX o) (hk : oKS o ks nr) (hiv : ∀ j, j < 12 → βb (pb + j) = iv.getD j 0) (hal : rdB βa pa al.length = al) (hxs : rdB βc pc xs.length = xs) : ∃ o' μ', P_X13_sumMark G F (W.ad (.o 13 0)) (W.ad (.a 13 0 kb)) (Int32.ofNat pb) (W.ad (.a 13 0 ka)) (Int32.ofNat pa) (Int32.ofNat al.length) (W.ad (.a 13 0 kc)) (Int32.ofNat pc) (Int32.ofNat xs.length) (mem W (S.so 13 0 o)) = some (mem W (S.so 13 0 o')) ∧ agr [] [53, 54, 55, 56] SA [] o o' ∧ mB o' 51 μ' ∧ rdB μ' 0 16 = gmarkF ks nr iv al xs ∧ (∃ δ, mB o' 47 δ) ∧ ∃ ζ, mB o' 52 ζ := by
  have lo := h.lo
  have g47 := oM_gR h 47 rfl (by decide)
  have g51 := oM_gR h 51 rfl (by decide)
  have g52 := oM_gR h 52 rfl (by decide)
  -- the block of zeros
  obtain ⟨n', o1, e1, a1, c1⟩ := oM_zero (G := G) (F := F) (S := S) (o := o) (l1 := W.ad (.a 13 0 kb)) (l2 := (Int32.ofNat pb)) (l3 := W.ad (.a 13 0 ka)) (l4 := (Int32.ofNat pa)) (l5 := (Int32.ofNat al.length)) (l6 := W.ad (.a 13 0 kc)) (l7 := (Int32.ofNat pc)) (l8 := (Int32.ofNat xs.length)) X h
  obtain ⟨o2, g2, a2, c2⟩ := oM_forth (G := G) (F := F) (S := S) X h (oBX_ag a1 (by decide) (by decide) hbx) (oKS_ag a1 (by decide) (by decide) hk) c1
  have c2' : oCL o2 (gE0 ks nr) := c2
  have l0 : (gE0 ks nr).length = 16 := fwd_len _ _ _
  have a12 : agr [] [] [45, 46] [] o o2 := (a1.mono (by decide) (by decide) (by decide) (by decide)).trans a2
  have d2 : mB o2 47 δ := a12.mB hδ (by decide)
  have g3 := oM_get (G := G) (F := F) (S := S) (k := 47) (p := 0) X h rfl (by decide) (by decide) d2 l0 c2'
  have g3' : P_X13_getCells G F (W.ad (.o 13 0)) (W.ad (.a 13 0 47)) 0 (mem W (S.so 13 0 o2)) = _ := g3
  obtain ⟨δ3, hδ3⟩ : ∃ δ3, δ3 = wrB δ 0 (gE0 ks nr) := ⟨_, rfl⟩
  rw [← hδ3] at g3'
  have δ3at : ∀ j, j < 16 → δ3 j = (gE0 ks nr).getD j 0 := by
    intro j hj
    rw [hδ3]
    have := wrB_at (β := δ) (p := 0) (ys := gE0 ks nr) (j := j) (by omega)
    rwa [Nat.zero_add] at this
  obtain ⟨hh, hl⟩ := rd_hi l0 δ3at
  obtain ⟨o3, ho3⟩ : ∃ o3, o3 = o2.sA 47 (fun j => sb (δ3 j)) := ⟨_, rfl⟩
  rw [← ho3] at g3'
  have a3 : agr [] [53, 54, 55, 56] SA [] o o3 := by rw [ho3]; exact (a12.mono (by decide) (by decide) (by decide) (by decide)).trans (agr_sA (by decide))
  have d3 : mB o3 47 δ3 := by rw [ho3]; exact mB_sA _ _ _
  have L1 := oM_long (G := G) (F := F) (S := S) (k := 47) (p := 0) (cnt := 8) X h rfl (by decide) (by decide) (by decide) d3
  have L1' : P_X13_longAt G F (W.ad (.a 13 0 47)) 0 8 (mem W (S.so 13 0 o3)) = some (hi8 (gE0 ks nr), mem W (S.so 13 0 o3)) := by rw [← hh]; exact L1
  have L2 := oM_long (G := G) (F := F) (S := S) (o := o3.sg 55 (hi8 (gE0 ks nr))) (k := 47) (p := 8) (cnt := 8) X h rfl (by decide) (by decide) (by decide) d3
  have L2' : P_X13_longAt G F (W.ad (.a 13 0 47)) 8 8 (mem W (S.so 13 0 (o3.sg 55 (hi8 (gE0 ks nr))))) = some (lo8L (gE0 ks nr), mem W (S.so 13 0 (o3.sg 55 (hi8 (gE0 ks nr))))) := by rw [← hl]; exact L2
  obtain ⟨o4, ho4⟩ : ∃ o4, o4 = (((o3.sg 55 (hi8 (gE0 ks nr))).sg 56 (lo8L (gE0 ks nr))).sg 53 0).sg 54 0 := ⟨_, rfl⟩
  have a34 : agr [] [53, 54, 55, 56] [] [] o3 o4 := by
    rw [ho4]
    exact (((agr_sg (by decide)).trans (agr_sg (by decide))).trans (agr_sg (by decide))).trans (agr_sg (by decide))
  have a4 : agr [] [53, 54, 55, 56] SA [] o o4 := a3.trans (a34.mono (by decide) (by decide) (by decide) (by decide))
  have gs4 : mGS o4 (gH ks nr) (0, 0) := by
    refine ⟨?_, ?_, ?_, ?_⟩
    · rw [ho4, sg_g, if_neg (by decide), sg_g, if_neg (by decide), sg_g, if_neg (by decide), sg_g, if_pos rfl]; rfl
    · rw [ho4, sg_g, if_neg (by decide), sg_g, if_neg (by decide), sg_g, if_pos rfl]; rfl
    · rw [ho4, sg_g, if_neg (by decide), sg_g, if_pos rfl]
    · rw [ho4, sg_g, if_pos rfl]
  obtain ⟨o5, g5, a5, gs5⟩ := QM_gatherAll (G := G) (F := F) (S := S) (N := al.length) X h qa la ra (by omega) (a4.mB ha na) gs4
  rw [hal] at gs5
  have a45 : agr [] [53, 54, 55, 56] SA [] o o5 := a4.trans (a5.mono (by decide) (by decide) (by decide) (by decide))
  obtain ⟨o6, g6, a6, gs6⟩ := QM_gatherAll (G := G) (F := F) (S := S) (N := xs.length) X h qc lc rc (by omega) (a45.mB hc nc) gs5
  rw [hxs] at gs6
  have a46 : agr [] [53, 54, 55, 56] SA [] o o6 := a45.trans (a6.mono (by decide) (by decide) (by decide) (by decide))
  have d6 : mB o6 47 δ3 := a6.mB (a5.mB (a34.mB d3 (by decide)) (by decide)) (by decide)
  -- the lengths
  have P1 := oM_put (G := G) (F := F) (S := S) (o := o6) (k := 47) (p := 0) (cnt := 8) (x := Int64.ofNat (8 * al.length)) X h rfl (by decide) (by decide) (by decide) d6
  have P1' : P_X13_put G F (W.ad (.a 13 0 47)) 0 8 (Int64.ofNat (8 * al.length)) (mem W (S.so 13 0 o6)) = _ := P1
  have P2 := oM_put (G := G) (F := F) (S := S) (o := o6.sA 47 (fun j => sb (wrB δ3 0 (beL 8 (Int64.ofNat (8 * al.length))) j))) (k := 47) (p := 8) (cnt := 8) (x := Int64.ofNat (8 * xs.length)) X h rfl (by decide) (by decide) (by decide) (mB_sA _ _ _)
  rw [sA_sA] at P2
  have P2' : P_X13_put G F (W.ad (.a 13 0 47)) 8 8 (Int64.ofNat (8 * xs.length)) (mem W (S.so 13 0 (o6.sA 47 (fun j => sb (wrB δ3 0 (beL 8 (Int64.ofNat (8 * al.length))) j))))) = _ := P2
  obtain ⟨δ7, hδ7⟩ : ∃ δ7, δ7 = wrB (wrB δ3 0 (beL 8 (Int64.ofNat (8 * al.length)))) 8 (beL 8 (Int64.ofNat (8 * xs.length))) := ⟨_, rfl⟩
  rw [← hδ7] at P2'
  obtain ⟨o7, ho7⟩ : ∃ o7, o7 = o6.sA 47 (fun j => sb (δ7 j)) := ⟨_, rfl⟩
  rw [← ho7] at P2'
  have r7 : rdB δ7 0 16 = beL 8 (Int64.ofNat (8 * al.length)) ++ beL 8 (Int64.ofNat (8 * xs.length)) := by
    have := rdB_wrB δ3 0 (beL 8 (Int64.ofNat (8 * al.length)) ++ beL 8 (Int64.ofNat (8 * xs.length)))
    rw [← wrB_app, beL_len, List.length_append, beL_len, beL_len, Nat.zero_add, ← hδ7] at this
    exact this
  obtain ⟨bh, bl⟩ := len_blk r7
  have a7 : agr [] [53, 54, 55, 56] SA [] o o7 := by rw [ho7]; exact a46.trans (agr_sA (by decide))
  have gs7 : mGS o7 (gH ks nr) (gall (gH ks nr) ((xs.length + 15) / 16) (gall (gH ks nr) ((al.length + 15) / 16) (0, 0) al) xs) := by rw [ho7]; exact gs6
  have d7 : mB o7 47 δ7 := by rw [ho7]; exact mB_sA _ _ _
  have Gt := QM_gather (G := G) (F := F) (S := S.so 13 0 o7) (k := 47) (p := 0) (n := 16) X h rfl (by decide) (by decide) (by decide) (by rw [so_eq]; exact d7) (by rw [so_eq]; exact gs7.1) (by rw [so_eq]; exact gs7.2.1) (by rw [so_eq]; exact gs7.2.2.1) (by rw [so_eq]; exact gs7.2.2.2)
  rw [bh, bl, so_so, so_eq] at Gt
  obtain ⟨Y, hY⟩ : ∃ Y, Y = gY ks nr al xs := ⟨_, rfl⟩
  have eY : gst (gH ks nr) (gall (gH ks nr) ((xs.length + 15) / 16) (gall (gH ks nr) ((al.length + 15) / 16) (0, 0) al) xs) (Int64.ofNat (8 * al.length)) (Int64.ofNat (8 * xs.length)) = Y := by rw [hY, gY]
  rw [eY] at Gt
  have Gt' : P_X13_gather G F (W.ad (.o 13 0)) (W.ad (.a 13 0 47)) 0 16 (mem W (S.so 13 0 o7)) = _ := Gt
  obtain ⟨o8, ho8⟩ : ∃ o8, o8 = (o7.sg 53 Y.1).sg 54 Y.2 := ⟨_, rfl⟩
  rw [← ho8] at Gt'
  have a8 : agr [] [53, 54, 55, 56] SA [] o o8 := by rw [ho8]; exact (a7.trans (agr_sg (by decide))).trans (agr_sg (by decide))
  have a8' : agr [] [53, 54, 55, 56] [45, 46, 47] [] o o8 := by
    refine ⟨a8.1, a8.2.1, fun k hk => ?_, a8.2.2.2.1, a8.2.2.2.2⟩
    have x1 : o8.a k = o7.a k := by rw [ho8]; rfl
    have x2 : o7.a k = o6.a k := by rw [ho7, sA_a' (fun e => hk (by rw [e]; decide))]
    have x3 : o4.a k = o3.a k := a34.2.2.1 k (by simp)
    have x4 : o3.a k = o2.a k := by rw [ho3, sA_a' (fun e => hk (by rw [e]; decide))]
    rw [x1, x2, a6.2.2.1 k (by simp), a5.2.2.1 k (by simp), x3, x4, a12.2.2.1 k (fun q => hk (by simp only [List.mem_cons, List.not_mem_nil, or_false] at q ⊢; omega))]
  have z8 : mB o8 52 ζ := a8'.mB hζ (by decide)
  obtain ⟨ζ9, g9, r9⟩ := oM_ctr (G := G) (F := F) (S := S) (o := o8) (c := 1) (iv := iv) X h qb (fun e => nb (by rw [e]; decide)) lb_ rb (by decide) (a8.mB hb nb) z8 hiv
  have g9' : P_X13_setCounter G F (W.ad (.o 13 0)) (W.ad (.a 13 0 kb)) (Int32.ofNat pb) 1 (mem W (S.so 13 0 o8)) = _ := g9
  obtain ⟨o9, ho9⟩ : ∃ o9, o9 = o8.sA 52 (fun j => sb (ζ9 j)) := ⟨_, rfl⟩
  rw [← ho9] at g9'
  have a9 : agr [] [53, 54, 55, 56] [45, 46, 47, 52] [] o o9 := by rw [ho9]; exact (a8'.mono (by decide) (by decide) (by decide) (by decide)).trans (agr_sA (by decide))
  have z9 : mB o9 52 ζ9 := by rw [ho9]; exact mB_sA _ _ _
  obtain ⟨oa, ga, aa, ca⟩ := oM_set (G := G) (F := F) (S := S) (k := 52) (p := 0) X h rfl (by decide) (by decide) z9
  rw [r9] at ca
  have ga' : P_X13_setCells G F (W.ad (.o 13 0)) (W.ad (.a 13 0 52)) 0 (mem W (S.so 13 0 o9)) = some (mem W (S.so 13 0 oa)) := ga
  have aa9 : agr [] [53, 54, 55, 56] [45, 46, 47, 52] [] o oa := a9.trans (aa.mono (by decide) (by decide) (by decide) (by decide))
  obtain ⟨ob, gb, ab, cb⟩ := oM_forth (G := G) (F := F) (S := S) X h (oBX_ag aa9 (by decide) (by decide) hbx) (oKS_ag aa9 (by decide) (by decide) hk) ca
  obtain ⟨E, hE⟩ : ∃ E, E = fwd ks nr (ctrB iv 1) := ⟨_, rfl⟩
  rw [← hE] at cb
  have lE : E.length = 16 := by rw [hE]; exact fwd_len _ _ _
  have d8 : mB o8 47 δ7 := by rw [ho8]; exact d7
  have db : mB ob 47 δ7 := ab.mB (aa.mB (by rw [ho9]; exact mB_sA' (by decide) d8) (by decide)) (by decide)
  have gc := oM_get (G := G) (F := F) (S := S) (k := 47) (p := 0) X h rfl (by decide) (by decide) db lE cb
  have gc' : P_X13_getCells G F (W.ad (.o 13 0)) (W.ad (.a 13 0 47)) 0 (mem W (S.so 13 0 ob)) = _ := gc
  obtain ⟨δc, hδc⟩ : ∃ δc, δc = wrB δ7 0 E := ⟨_, rfl⟩
  rw [← hδc] at gc'
  have δcat : ∀ j, j < 16 → δc j = E.getD j 0 := by
    intro j hj
    rw [hδc]
    have := wrB_at (β := δ7) (p := 0) (ys := E) (j := j) (by omega)
    rwa [Nat.zero_add] at this
  obtain ⟨eh, el⟩ := rd_hi lE δcat
  obtain ⟨oc, hoc⟩ : ∃ oc, oc = ob.sA 47 (fun j => sb (δc j)) := ⟨_, rfl⟩
  rw [← hoc] at gc'
  have acc : agr [] [53, 54, 55, 56] [45, 46, 47, 52] [] o oc := by rw [hoc]; exact (aa9.trans (ab.mono (by decide) (by decide) (by decide) (by decide))).trans (agr_sA (by decide))
  have dc : mB oc 47 δc := by rw [hoc]; exact mB_sA _ _ _
  have y53 : oc.g 53 = Y.1 := by
    rw [hoc]
    show ob.g 53 = _
    rw [ab.2.1 53 (by simp), aa.2.1 53 (by simp), ho9]
    show o8.g 53 = _
    rw [ho8, sg_g, if_neg (by decide), sg_g, if_pos rfl]
  have y54 : oc.g 54 = Y.2 := by
    rw [hoc]
    show ob.g 54 = _
    rw [ab.2.1 54 (by simp), aa.2.1 54 (by simp), ho9]
    show o8.g 54 = _
    rw [ho8, sg_g, if_pos rfl]
  have L3 := oM_long (G := G) (F := F) (S := S) (o := oc) (k := 47) (p := 0) (cnt := 8) X h rfl (by decide) (by decide) (by decide) dc
  have L3' : P_X13_longAt G F (W.ad (.a 13 0 47)) 0 8 (mem W (S.so 13 0 oc)) = some (hi8 E, mem W (S.so 13 0 oc)) := by rw [← eh]; exact L3
  have uc : mB oc 51 μ := acc.mB hμ (by decide)
  have P3 := oM_put (G := G) (F := F) (S := S) (o := oc) (k := 51) (p := 0) (cnt := 8) (x := hi8 E ^^^ Y.1) X h rfl (by decide) (by decide) (by decide) uc
  have P3' : P_X13_put G F (W.ad (.a 13 0 51)) 0 8 (hi8 E ^^^ Y.1) (mem W (S.so 13 0 oc)) = _ := P3
  obtain ⟨od, hod⟩ : ∃ od, od = oc.sA 51 (fun j => sb (wrB μ 0 (beL 8 (hi8 E ^^^ Y.1)) j)) := ⟨_, rfl⟩
  rw [← hod] at P3'
  have L4 := oM_long (G := G) (F := F) (S := S) (o := od) (k := 47) (p := 8) (cnt := 8) X h rfl (by decide) (by decide) (by decide) (by rw [hod]; exact mB_sA' (by decide) dc)
  have L4' : P_X13_longAt G F (W.ad (.a 13 0 47)) 8 8 (mem W (S.so 13 0 od)) = some (lo8L E, mem W (S.so 13 0 od)) := by rw [← el]; exact L4
  have P4 := oM_put (G := G) (F := F) (S := S) (o := od) (k := 51) (p := 8) (cnt := 8) (x := lo8L E ^^^ Y.2) X h rfl (by decide) (by decide) (by decide) (by rw [hod]; exact mB_sA _ _ _)
  have P4' : P_X13_put G F (W.ad (.a 13 0 51)) 8 8 (lo8L E ^^^ Y.2) (mem W (S.so 13 0 od)) = _ := P4
  have y54' : od.g 54 = Y.2 := by rw [hod]; exact y54
  have m8 := i64_8' (n := al.length) (by omega)
  have m8' := i64_8' (n := xs.length) (by omega)
  unfold P_X13_sumMark
  rw [e1, B_X13_sumMark_3, if_pos (by decide), rcv_m lo, bO_s, g2, bO_s, g47, bO_s, rcv_m lo, bO_s, g3', bO_s, g47, bO_s, L1', bP_s, pL lo rfl, bO_s, g47, bO_s, L2', bP_s, pL lo rfl, bO_s, pL lo rfl, bO_s, pL lo rfl, bO_s, ← ho4, rcv_m lo, bO_s, g5, bO_s, rcv_m lo, bO_s, g6, bO_s, g47, bO_s, m8, P1', bO_s, g47, bO_s, m8', P2', bO_s, g47, bO_s, rcv_m lo, bO_s, Gt', bO_s, rcv_m lo, bO_s, g9', bO_s, g52, bO_s, rcv_m lo, bO_s, ga', bO_s, rcv_m lo, bO_s, gb, bO_s, g47, bO_s, rcv_m lo, bO_s, gc', bO_s, g51, bO_s, g47, bO_s, L3', bP_s, gL lo rfl, bO_s, y53, P3', bO_s, g51, bO_s, g47, bO_s, L4', bP_s, gL lo rfl, bO_s, y54', P4', bO_s]
  refine ⟨_, _, rfl, ?_, mB_sA _ _ _, ?_, ⟨δc, mB_sA' (by decide) (by rw [hod]; exact mB_sA' (by decide) dc)⟩, ζ9, ?_⟩
  · exact ((acc.mono (by decide) (by decide) (by decide) (by decide)).trans (by rw [hod]; exact agr_sA (by decide))).trans (agr_sA (by decide))
  · have := rdB_wrB μ 0 (beL 8 (hi8 E ^^^ Y.1) ++ beL 8 (lo8L E ^^^ Y.2))
    rw [← wrB_app, beL_len, List.length_append, beL_len, beL_len, Nat.zero_add] at this
    rw [gmarkF, ← hY, ← hE, ← w8_beL, ← w8_beL, Int64.xor_comm Y.1, Int64.xor_comm Y.2]
    exact this
  · refine mB_sA' (by decide) ?_
    rw [hod]
    refine mB_sA' (by decide) ?_
    rw [hoc]
    exact mB_sA' (by decide) (ab.mB (aa.mB z9 (by decide)) (by decide))
end MSUM
