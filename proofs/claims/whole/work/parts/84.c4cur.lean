/-! NEW OBJECTS: what stands stays; the class's curve when all is there -/
section WMS
variable {W W' : WR}
theorem WP.lk (h : WP W W') {x : Cl} {n : Nat} (q : lok W x n) : lok W' x n := ⟨h.lv q.1, h.nn q.1 q.2.1, q.2.2⟩
theorem WP.cu (h : WP W W') (q : isCu W) : isCu W' := by
  obtain ⟨l, a1, a2, a3, a4, b1, b2, c1, c2, d1, d2, e1, e2, m1, m2, k1, k2⟩ := q
  refine ⟨h.lv l, fun k hk => h.rr (a1 k hk), h.rr a2, h.rr a3, fun k hk => ⟨h.rr (a4 k hk).1, h.b (a4 k hk).2⟩, h.rr b1, h.b b2, h.rr c1, h.b c2, h.rr d1, h.b d2, h.rr e1, h.b e2, h.mo m1, h.mo m2, fun k hk => h.lk (k1 k hk), fun k j hk => ?_⟩
  obtain ⟨u1, u2, u3, u4⟩ := k2 k j hk
  have e := h.nn u1 rfl
  exact ⟨h.lv u1, by rw [e]; exact u2, by rw [e]; exact u3, h.ee u4⟩
theorem WP.d (h : WP W W') (q : isD W) : isD W' := by
  obtain ⟨l, a1, a2, a3, a4, b1, b2, b3, c1, c2, c3, d1, d2⟩ := q
  exact ⟨h.lv l, h.ha a1, h.ha a2, h.ha a3, h.ha a4, h.lv b1, h.rr b2, h.nn b1 b3, h.lv c1, h.rr c2, h.nn c1 c3, h.rr d1, h.b d2⟩
theorem WP.ci (h : WP W W') (q : isCi W) : isCi W' := ⟨h.lv q.1, h.ha q.2.1, h.ha q.2.2.1, h.ha q.2.2.2.1, h.ha q.2.2.2.2.1, h.ha q.2.2.2.2.2⟩
theorem WP.co (h : WP W W') (q : isCo W) : isCo W' := ⟨h.lv q.1, h.rr q.2.1, h.rr q.2.2.1, h.ha q.2.2.2.1, h.ha q.2.2.2.2.1, h.rr q.2.2.2.2.2.1, h.b q.2.2.2.2.2.2⟩
theorem WP.rs (h : WP W W') (q : isRs W) : isRs W' := by
  obtain ⟨l, a1, a2, a3, a4, b1, b2, b3, c1, c2, c3, d1⟩ := q
  exact ⟨h.lv l, h.rr a1, h.rr a2, h.rr a3, h.lk a4, h.rr b1, h.rr b2, h.rr b3, h.b c1, h.b c2, h.b c3, h.mo d1⟩
theorem WP.tx (h : WP W W') {t ip : Nat} (q : isTx W t ip) : isTx W' t ip := ⟨h.lv q.1, h.rr q.2.1, h.b q.2.2.1, fun k a b => ⟨h.lv (q.2.2.2 k a b).1, h.rr (q.2.2.2 k a b).2.1, h.nn (q.2.2.2 k a b).1 (q.2.2.2 k a b).2.2⟩⟩
theorem WP.tk (h : WP W W') (q : isTK W) : isTK W' := by
  obtain ⟨⟨l, a1, a2, a3⟩, ⟨b1, b2⟩, c⟩ := q
  exact ⟨⟨h.lv l, h.rr a1, h.lv a2, h.nn a2 a3⟩, ⟨h.rr b1, h.b b2⟩, fun k p q => ⟨h.rr (c k p q).1, h.b (c k p q).2⟩⟩
theorem WP.ko (h : WP W W') {j : Nat} (q : isKo W j) : isKo W' j := ⟨h.lv q.1, h.rr q.2.1, h.rr q.2.2.1, h.rr q.2.2.2.1, h.b q.2.2.2.2.1, h.b q.2.2.2.2.2.1, h.b q.2.2.2.2.2.2⟩
theorem WP.m (h : WP W W') (q : isM W) : isM W' := ⟨h.lv q.1, fun k hk => h.lv (q.2.1 k hk), fun k hk => h.rr (q.2.2.1 k hk), fun k hk => h.nn (q.2.1 k hk) (q.2.2.2 k hk)⟩
theorem WP.cx {G : mG} {F : Nat} (h : WP W W') (X : Cx G F W) : Cx G F W' := ⟨by rw [h.2.2.2]; exact X.1, X.2⟩
end WMS
theorem sui_k : suitsF (hxB 0) = true ∧ suitsF (hxB 2) = true := by decide +kernel
theorem be_k : beN (hxB 0) = pP ∧ beN (hxB 2) = nP ∧ beN (seg (hxB 4) 0 32) % pP = bP_ ∧ beN (seg (hxB 5) 0 32) % pP = bX_ ∧ beN (seg (hxB 6) 0 32) % pP = bY_ := by decide +kernel
theorem lv_0 {f : Nat → Int64} (h : f = fun _ => 0) : LV f 8 (mf 8 pP 0) := by
  rw [show mf 8 pP 0 = 0 from (mf_zero pP_1 pP_2 0).mpr (by decide), h]
  exact ⟨fun _ => 0, fun t _ => ⟨rfl, Nat.zero_lt_succ _⟩, vN_zero (fun _ _ => rfl)⟩
theorem lv_1 {f : Nat → Int64} (h : f = fun _ => 0) : LV (vp_updL f 0 1) 8 1 := by
  refine ⟨fun t => if t = 0 then 1 else 0, fun t _ => ?_, by decide⟩
  by_cases e : t = 0
  · rw [e, updL_eq]
    exact ⟨rfl, by decide⟩
  · rw [updL_ne e, h, show (fun t => if t = 0 then 1 else 0 : Nat → Nat) t = 0 from if_neg e]
    exact ⟨rfl, by decide⟩
section NC2
variable {W : WR} {G : mG} {F : Nat} {S : ST}
theorem nw_cu2 {z sl A : Nat} (X : Cx G F W) (h : isCu W) (hA : W.ad (.o 3 0) = A) (hf : WF W z) (v0 : frS W 0 80) (v1 : frS W 0 81) (v2 : frS W 0 82) (o0 : S 0 80 = zOb) (o1 : S 0 81 = zOb) (o2 : S 0 82 = zOb) (hz : S 3 0 = zOb) (b72 : Byt 32 (S 0 72) (hxB 0) false) (b73 : Byt 32 (S 0 73) (hxB 1) false) (b74 : Byt 32 (S 0 74) (hxB 2) false) (b75 : Byt 32 (S 0 75) (hxB 3) false) (b79 : Byt 0 (S 0 79) [] false) : ∃ W' S' V, cuT G F A (mem W S) z sl = some (mem W' S', z + 2 + 2 + 2, sl + 3 + 32 + 3 + 32 + 3 + 32) ∧ WF W' (z + 2 + 2 + 2) ∧ FX [(0, 82), (0, 81), (0, 80)] W W' ∧ CK S' V ∧ fr [(3, 0), (6, 1), (6, 2), (0, 80), (0, 81), (0, 82)] S S' ∧ isB W' 80 32 ∧ isB W' 81 32 ∧ isB W' 82 32 ∧ Byt 32 (S' 0 80) (hxB 4) false ∧ Byt 32 (S' 0 81) (hxB 5) false ∧ Byt 32 (S' 0 82) (hxB 6) false := by
  obtain ⟨s0, s2⟩ := sui_k
  obtain ⟨e0, e2, e4, e5, e6⟩ := be_k
  have l0 := hxB_len 0
  have l2 := hxB_len 2
  -- the two moduli
  obtain ⟨S1, g1, f1, m1⟩ := Q6_become (G := G) (F := F) X h.mo (h.bb 0 (by decide)) b72 s0
  rw [l0, e0] at m1
  have m1 : MoS S1 1 8 pP := m1
  have b74' : Byt 32 (S1 0 (72 + 2)) (hxB 2) false := by rw [f1 0 74 (by decide)]; exact b74
  obtain ⟨S2, g2, f2, m2⟩ := Q6_become (G := G) (F := F) X h.mn (h.bb 2 (by decide)) b74' s2
  rw [l2, e2] at m2
  have m2 : MoS S2 2 8 nP := m2
  have F2 : fr [(6, 1), (6, 2)] S S2 := (f1.mono (by decide)).trans (f2.mono (by decide))
  have z3 : S2 3 0 = zOb := (F2 3 0 (by decide)).trans hz
  -- the digits of b
  obtain ⟨Wb, q3, g3, hf3, x3, ib3, ad3, y3⟩ := st_dig (G := G) (F := F) (S := S2) (sl := sl) (j := 4) (ν := 80) X (by decide) hf v0 ((F2 0 80 (by decide)).trans o0)
  have hb := x3.1.p.cu h
  have Xb := x3.1.p.cx X
  have Ab : Wb.ad (.o 3 0) = A := (x3.1.1 _ h.1).2.1.trans hA
  have z3b : (S2.so 0 80 q3) 3 0 = zOb := (so_ne (by decide)).trans z3
  have C3 : CS (S2.so 0 80 q3) (fun _ => 0) := by
    refine ⟨(m1.fr f2 (by decide)).fr (fr_so (L := [(0, 80)]) (by decide)) (by decide), fun k hk => lv_0 ?_⟩
    have : k = 0 ∨ k = 1 ∨ k = 2 ∨ k = 3 ∨ k = 4 ∨ k = 5 ∨ k = 6 ∨ k = 7 ∨ k = 8 ∨ k = 9 ∨ k = 10 ∨ k = 11 ∨ k = 12 ∨ k = 13 ∨ k = 14 := by omega
    rcases this with rfl | rfl | rfl | rfl | rfl | rfl | rfl | rfl | rfl | rfl | rfl | rfl | rfl | rfl | rfl
    all_goals first
      | (show ((S2.so 0 80 q3) 3 0).m _ _ = _; rw [z3b]; rfl)
      | (show ((S2.so 0 80 q3) 3 0).l _ = _; rw [z3b]; rfl)
  obtain ⟨S4, a4, g4, f4, C4, v4⟩ := cu_take (G := G) (F := F) (p := 0) Xb hb C3 13 (by decide) ib3 (by rw [so_eq]; exact y3) (by rw [hxB_len]; decide)
  rw [e4] at v4
  have F4 : fr [(3, 0), (6, 1), (6, 2), (0, 80), (0, 81), (0, 82)] S S4 := ((F2.mono (by decide)).trans (fr_so (by decide))).trans (f4.fr (by decide))
  -- x of the base
  obtain ⟨Wc, q5, g5, hf5, x5, ib5, ad5, y5⟩ := st_dig (G := G) (F := F) (S := S4) (sl := sl + 3 + 32) (j := 5) (ν := 81) Xb (by decide) hf3 ((x3.2 0 81 (by decide)).1 v1) (((f4.fr (L' := [(3, 0), (6, 1)]) (by decide)) 0 81 (by decide)).trans ((so_ne (by decide)).trans ((F2 0 81 (by decide)).trans o1)))
  have hc := x5.1.p.cu hb
  have Xc := x5.1.p.cx Xb
  have Ac : Wc.ad (.o 3 0) = A := (x5.1.1 _ hb.1).2.1.trans Ab
  have ns5 : ∀ x : Cl, ow x ≠ (0, 81) → lgt (S4.so 0 81 q5) x = lgt S4 x := fun x hx => lgt_so hx
  have C5 : CS (S4.so 0 81 q5) (iu (fun _ => 0) 13 a4) := ⟨C4.1.fr (fr_so (L := [(0, 81)]) (by decide)) (by decide), fun k hk => by
    have := C4.2 k hk
    unfold FV at this ⊢
    rw [ns5 _ (by rw [wc_ow k hk]; decide)]
    exact this⟩
  obtain ⟨S6, a6, g6, f6, C6, v6⟩ := cu_take (G := G) (F := F) (p := 0) Xc hc C5 9 (by decide) ib5 (by rw [so_eq]; exact y5) (by rw [hxB_len]; decide)
  rw [e5] at v6
  have F6 : fr [(3, 0), (6, 1), (6, 2), (0, 80), (0, 81), (0, 82)] S S6 := (F4.trans (fr_so (by decide))).trans (f6.fr (by decide))
  -- y of the base
  obtain ⟨Wd, q7, g7, hf7, x7, ib7, ad7, y7⟩ := st_dig (G := G) (F := F) (S := S6) (sl := sl + 3 + 32 + 3 + 32) (j := 6) (ν := 82) Xc (by decide) hf5 ((x5.2 0 82 (by decide)).1 ((x3.2 0 82 (by decide)).1 v2)) (((f6.fr (L' := [(3, 0), (6, 1)]) (by decide)) 0 82 (by decide)).trans ((so_ne (by decide)).trans (((f4.fr (L' := [(3, 0), (6, 1)]) (by decide)) 0 82 (by decide)).trans ((so_ne (by decide)).trans ((F2 0 82 (by decide)).trans o2)))))
  have hd := x7.1.p.cu hc
  have Xd := x7.1.p.cx Xc
  have Ad : Wd.ad (.o 3 0) = A := (x7.1.1 _ hc.1).2.1.trans Ac
  have ns7 : ∀ x : Cl, ow x ≠ (0, 82) → lgt (S6.so 0 82 q7) x = lgt S6 x := fun x hx => lgt_so hx
  have C7 : CS (S6.so 0 82 q7) (iu (iu (fun _ => 0) 13 a4) 9 a6) := ⟨C6.1.fr (fr_so (L := [(0, 82)]) (by decide)) (by decide), fun k hk => by
    have := C6.2 k hk
    unfold FV at this ⊢
    rw [ns7 _ (by rw [wc_ow k hk]; decide)]
    exact this⟩
  obtain ⟨S8, a8, g8, f8, C8, v8⟩ := cu_take (G := G) (F := F) (p := 0) Xd hd C7 10 (by decide) ib7 (by rw [so_eq]; exact y7) (by rw [hxB_len]; decide)
  rw [e6] at v8
  have F8 : fr [(3, 0), (6, 1), (6, 2), (0, 80), (0, 81), (0, 82)] S S8 := (F6.trans (fr_so (by decide))).trans (f8.fr (by decide))
  -- the unit
  have u8 : (S8 3 0).l 9 = fun _ => 0 := by
    have t1 : lgt S8 (.a 3 0 9) = lgt (S6.so 0 82 q7) (.a 3 0 9) := f8.2 _ (by simp [wc])
    have t2 : lgt S6 (.a 3 0 9) = lgt (S4.so 0 81 q5) (.a 3 0 9) := f6.2 _ (by simp [wc])
    have t3 : lgt S4 (.a 3 0 9) = lgt (S2.so 0 80 q3) (.a 3 0 9) := f4.2 _ (by simp [wc])
    rw [ns7 _ (by decide), t2, ns5 _ (by decide), t3] at t1
    have t4 : (S8 3 0).l 9 = ((S2.so 0 80 q3) 3 0).l 9 := t1
    rw [t4, z3b]
    rfl
  have lk9 := hd.lk (k := 14) (by decide)
  have g9 := sL_m (W := Wd) (S := S8) (c := 3) (i := 0) (k := 9) (x := 0) (v := 1) lk9.1 rfl (by rw [show Wd.n (.a 3 0 9) = 8 from lk9.2.1]; decide)
  obtain ⟨S9, hS9⟩ : ∃ S9, S9 = S8.so 3 0 ((S8 3 0).sL 9 (vp_updL ((S8 3 0).l 9) 0 1)) := ⟨_, rfl⟩
  have g9 : sL (mem Wd S8) (Wd.ad (.a 3 0 9)) 0 1 = some (mem Wd S9) := by rw [hS9]; exact g9
  have ne9 : ∀ x : Cl, x ≠ .a 3 0 9 → lgt S9 x = lgt S8 x := fun x hx => by rw [hS9]; exact lgt_ne (S := S8) (x := .a 3 0 9) hx
  have eq9 : lgt S9 (.a 3 0 9) = vp_updL ((S8 3 0).l 9) 0 1 := by
    rw [hS9]
    show ((S8.so 3 0 _) 3 0).l 9 = _
    rw [so_eq, sL_l]
  have w9 : LV (lgt S9 (wc 14)) 8 1 := by
    show LV (lgt S9 (.a 3 0 9)) 8 1
    rw [eq9]
    exact lv_1 u8
  obtain ⟨A14, hA14⟩ := mf_any (n := 8) pP_1 pP_2 (show 1 < pP from pP_1)
  have C9 : CS S9 (iu (iu (iu (iu (fun _ => 0) 13 a4) 9 a6) 10 a8) 14 A14) := by
    refine ⟨C8.1.fr (by rw [hS9]; exact fr_so (L := [(3, 0)]) (by decide)) (by decide), fun k hk => ?_⟩
    by_cases ek : k = 14
    · subst ek
      show LV (lgt S9 (wc 14)) 8 (mf 8 pP (iu _ 14 A14 14))
      rw [show iu (iu (iu (iu (fun _ => 0) 13 a4) 9 a6) 10 a8) 14 A14 14 = A14 from if_pos rfl, ← hA14]
      exact w9
    · have := C8.2 k hk
      show LV (lgt S9 (wc k)) 8 (mf 8 pP (iu _ 14 A14 k))
      rw [show iu (iu (iu (iu (fun _ => 0) 13 a4) 9 a6) 10 a8) 14 A14 k = iu (iu (iu (fun _ => 0) 13 a4) 9 a6) 10 a8 k from if_neg ek, ne9 _ (fun q => ek (wc_inj k hk 14 (by decide) q))]
      exact this
  have F9 : fr [(3, 0), (6, 1), (6, 2), (0, 80), (0, 81), (0, 82)] S S9 := F8.trans (by rw [hS9]; exact fr_so (by decide))
  obtain ⟨S10, g10, f10, C10⟩ := cu_lead (G := G) (F := F) Xd hd C9 14 (by decide) w9
  have w13 : LV (lgt S10 (wc 13)) 8 bP_ := by
    rw [f10.2 _ (by simp [wc]), ne9 _ (by simp [wc]), f8.2 (wc 13) (by simp [wc]), ns7 _ (by decide), f6.2 (wc 13) (by simp [wc]), ns5 _ (by decide)]
    exact v4
  obtain ⟨S11, g11, f11, C11⟩ := cu_lead (G := G) (F := F) Xd hd C10 13 (by decide) w13
  have w9b : LV (lgt S11 (wc 9)) 8 bX_ := by
    rw [f11.2 _ (by simp [wc]), f10.2 (wc 9) (by simp [wc]), ne9 _ (by simp [wc]), f8.2 (wc 9) (by simp [wc]), ns7 _ (by decide)]
    exact v6
  obtain ⟨S12, g12, f12, C12⟩ := cu_lead (G := G) (F := F) Xd hd C11 9 (by decide) w9b
  have w10 : LV (lgt S12 (wc 10)) 8 bY_ := by
    rw [f12.2 _ (by simp [wc]), f11.2 (wc 10) (by simp [wc]), f10.2 (wc 10) (by simp [wc]), ne9 _ (by simp [wc])]
    exact v8
  obtain ⟨S13, g13, f13, C13⟩ := cu_lead (G := G) (F := F) Xd hd C12 10 (by decide) w10
  have f9 : fr [(3, 0), (6, 1)] S8 S9 := by rw [hS9]; exact fr_so (by decide)
  have Fz : fr [(3, 0), (6, 1)] S8 S13 := (((f9.trans (f10.fr (by decide))).trans (f11.fr (by decide))).trans (f12.fr (by decide))).trans (f13.fr (by decide))
  have F13 : fr [(3, 0), (6, 1), (6, 2), (0, 80), (0, 81), (0, 82)] S S13 := F8.trans (Fz.mono (by decide))
  obtain ⟨h0, h1, h2, h3, _⟩ := hxB_v
  have mn : MoS S13 2 8 nP := ((((((((m2.fr (fr_so (L := [(0, 80)]) (by decide)) (by decide)).fr (f4.fr (L' := [(3, 0), (6, 1)]) (by decide)) (by decide)).fr (fr_so (L := [(0, 81)]) (by decide)) (by decide)).fr (f6.fr (L' := [(3, 0), (6, 1)]) (by decide)) (by decide)).fr (fr_so (L := [(0, 82)]) (by decide)) (by decide)).fr (f8.fr (L' := [(3, 0), (6, 1)]) (by decide)) (by decide)).fr Fz (by decide)))
  have by8 : Byt 32 (S13 0 82) (hxB 6) false := by
    rw [Fz 0 82 (by decide), (f8.fr (L' := [(3, 0), (6, 1)]) (by decide)) 0 82 (by decide), so_eq]
    exact y7
  have by6 : Byt 32 (S13 0 81) (hxB 5) false := by
    rw [Fz 0 81 (by decide), (f8.fr (L' := [(3, 0), (6, 1)]) (by decide)) 0 81 (by decide), so_ne (by decide), (f6.fr (L' := [(3, 0), (6, 1)]) (by decide)) 0 81 (by decide), so_eq]
    exact y5
  have by4 : Byt 32 (S13 0 80) (hxB 4) false := by
    rw [Fz 0 80 (by decide), (f8.fr (L' := [(3, 0), (6, 1)]) (by decide)) 0 80 (by decide), so_ne (by decide), (f6.fr (L' := [(3, 0), (6, 1)]) (by decide)) 0 80 (by decide), so_ne (by decide), (f4.fr (L' := [(3, 0), (6, 1)]) (by decide)) 0 80 (by decide), so_eq]
    exact y3
  refine ⟨Wd, S13, _, ?_, hf7, ((x3.mono (by decide)).trans (x5.mono (by decide))).trans (x7.mono (by decide)), ⟨C13, rfl, rfl, rfl, rfl, mn, ?_, ?_, ?_, ?_, ?_⟩, F13, x7.1.b (x5.1.b ib3), x7.1.b ib5, ib7, by4, by6, by8⟩
  · unfold cuT
    have d2 := h.gf S
    have d4 : gfR (mem W S) (W.ad (.o 3 0)) 3 4 = some (W.ad (.o 0 72)) := h.gb 0 (by decide) S
    have d3 := h.gn S1
    have d6 : gfR (mem W S1) (W.ad (.o 3 0)) 3 6 = some (W.ad (.o 0 74)) := h.gb 2 (by decide) S1
    have d2' := h.gf S2
    have p2 : Wb.ad (.o 6 1) = W.ad (.o 6 1) := (x3.1.1 _ h.mo.1).2.1
    have p5 : Wc.ad (.o 6 1) = Wb.ad (.o 6 1) := (x5.1.1 _ hb.mo.1).2.1
    have p7 : Wd.ad (.o 6 1) = Wc.ad (.o 6 1) := (x7.1.1 _ hc.mo.1).2.1
    rw [hA] at d2 d4 d3 d6 d2'
    rw [d2, bO_s, d4, bO_s, rcv_m h.mo.1, bO_s, show P_X6_become G F (W.ad (.o 6 1)) (W.ad (.o 0 72)) (mem W S) = some (mem W S1) from g1, bO_s, d3, bO_s, d6, bO_s, rcv_m h.mn.1, bO_s, show P_X6_become G F (W.ad (.o 6 2)) (W.ad (.o 0 74)) (mem W S1) = some (mem W S2) from g2, bO_s, d2', bO_s]
    refine (g3 _ _).trans ?_
    have k8 := hb.gA 8 (by decide) rfl (S2.so 0 80 q3)
    rw [Ab] at k8
    rw [k8, bO_s, ← p2, rcv_m hb.mo.1, bO_s]
    have g4 : P_X6_take G F (Wb.ad (.o 6 1)) (Wb.ad (.o 0 80)) 0 32 (Wb.ad (.a 3 0 8)) (mem Wb (S2.so 0 80 q3)) = some (mem Wb S4) := g4
    rw [ad3] at g4
    have k2 := hb.gf S4
    rw [Ab] at k2
    rw [g4, bO_s, k2, bO_s]
    refine (g5 _ _).trans ?_
    have k0 := hc.gA 0 (by decide) rfl (S4.so 0 81 q5)
    rw [Ac] at k0
    rw [k0, bO_s, hc.gl 0 0 (by decide), bO_s, ← p5, rcv_m hc.mo.1, bO_s]
    have g6 : P_X6_take G F (Wc.ad (.o 6 1)) (Wc.ad (.o 0 81)) 0 32 (Wc.ad (.b 3 0 0 0)) (mem Wc (S4.so 0 81 q5)) = some (mem Wc S6) := g6
    rw [ad5] at g6
    have k2 := hc.gf S6
    rw [Ac] at k2
    rw [g6, bO_s, k2, bO_s]
    refine (g7 _ _).trans ?_
    have k0 := hd.gA 0 (by decide) rfl (S6.so 0 82 q7)
    rw [Ad] at k0
    rw [k0, bO_s, hd.gl 0 1 (by decide), bO_s, ← p7, rcv_m hd.mo.1, bO_s]
    have g8 : P_X6_take G F (Wd.ad (.o 6 1)) (Wd.ad (.o 0 82)) 0 32 (Wd.ad (.b 3 0 0 1)) (mem Wd (S6.so 0 82 q7)) = some (mem Wd S8) := g8
    rw [ad7] at g8
    have k9 := hd.gA 9 (by decide) rfl S8
    have r1 := hd.gf S9
    have r2 := hd.gA 9 (by decide) rfl S9
    have r3 := hd.gf S10
    have r4 := hd.gA 8 (by decide) rfl S10
    have r5 := hd.gf S11
    have r6 := hd.gA 0 (by decide) rfl S11
    have r7 := hd.gf S12
    have r8 := hd.gA 0 (by decide) rfl S12
    rw [Ad] at k9 r1 r2 r3 r4 r5 r6 r7 r8
    have g10 : P_X6_lead G F (Wd.ad (.o 6 1)) (Wd.ad (.a 3 0 9)) (mem Wd S9) = some (mem Wd S10) := g10
    have g11 : P_X6_lead G F (Wd.ad (.o 6 1)) (Wd.ad (.a 3 0 8)) (mem Wd S10) = some (mem Wd S11) := g11
    have g12 : P_X6_lead G F (Wd.ad (.o 6 1)) (Wd.ad (.b 3 0 0 0)) (mem Wd S11) = some (mem Wd S12) := g12
    have g13 : P_X6_lead G F (Wd.ad (.o 6 1)) (Wd.ad (.b 3 0 0 1)) (mem Wd S12) = some (mem Wd S13) := g13
    rw [g8, bO_s, k9, bO_s, g9, bO_s, r1, bO_s, r2, bO_s, rcv_m hd.mo.1, bO_s, g10, bO_s, r3, bO_s, r4, bO_s, rcv_m hd.mo.1, bO_s, g11, bO_s, r5, bO_s, r6, bO_s, hd.gl 0 0 (by decide), bO_s, rcv_m hd.mo.1, bO_s, g12, bO_s, r7, bO_s, r8, bO_s, hd.gl 0 1 (by decide), bO_s, rcv_m hd.mo.1, bO_s, g13, bO_s]
  · rw [F13 0 72 (by decide), ← h0]; exact b72
  · rw [F13 0 73 (by decide), ← h1]; exact b73
  · rw [F13 0 74 (by decide), ← h2]; exact b74
  · rw [F13 0 75 (by decide), ← h3]; exact b75
  · rw [F13 0 79 (by decide)]; exact b79
end NC2
