/-! NEW OBJECTS: the class's curve -/
/-- the 32 bytes that a String of 64 digits tells -/
def hxB (j : Nat) : List UInt8 := (List.range 32).map fun t => lo8 ((hvI ((mbyt.getD j []).getD (2 * t) 0) <<< ((4 : Int32) &&& 31)) ||| hvI ((mbyt.getD j []).getD (2 * t + 1) 0))
theorem hxB_len (j : Nat) : (hxB j).length = 32 := by
  unfold hxB
  rw [List.length_map, List.length_range]
theorem hxB_v : hxB 0 = beV 32 pP ∧ hxB 1 = beV 32 (pP - 2) ∧ hxB 2 = beV 32 nP ∧ hxB 3 = beV 32 (nP - 2) ∧ hxB 4 = beV 32 bP_ ∧ hxB 5 = beV 32 bX_ ∧ hxB 6 = beV 32 bY_ := by decide +kernel
theorem hx_64 : ∀ j, j < 7 → (mbyt.getD j []).length = 64 := by decide +kernel
section NCU
variable {W : WR} {G : mG} {F : Nat} {S : ST}
theorem Q3_dig_l {j ν z sl : Nat} (X : Cx G F W) (hj : j < 7) (hB : isB W ν 32) : ∀ (m k f : Nat) (o : Ob), m < f → k + m = 32 → Byt 32 o ((hxB j).take k) false → ∃ o', B_X3_ofDigits_12 G F f (G.1 j) (W.ad (.o 0 ν)) (Int32.ofNat (2 * k)) (mem W (S.so 0 ν o)) z sl = some (W.ad (.o 0 ν), mem W (S.so 0 ν o'), z, sl) ∧ Byt 32 o' (hxB j) false := by
  have hl := hx_64 j hj
  have hL := hxB_len j
  intro m
  induction m with
  | zero =>
    intro k f o hf hk hb
    obtain ⟨f, rfl⟩ : ∃ q, f = q + 1 := ⟨f - 1, by omega⟩
    have : k = 32 := by omega
    subst this
    refine ⟨o, ?_, by rw [List.take_of_length_le (by omega)] at hb; exact hb⟩
    rw [B_X3_ofDigits_12, srcs X (by omega), bO_s, QJ_length X (by omega), bP_s, hl]
    unfold B_X3_ofDigits_19
    rw [if_pos (by decide)]
  | succ m ih =>
    intro k f o hf hk hb
    obtain ⟨f, rfl⟩ : ∃ q, f = q + 1 := ⟨f - 1, by omega⟩
    obtain ⟨o1, g1, b1⟩ := Q0_put (G := G) (F := F) (S := S.so 0 ν o) (x := (hvI ((mbyt.getD j []).getD (2 * k) 0) <<< ((4 : Int32) &&& 31)) ||| hvI ((mbyt.getD j []).getD (2 * k + 1) 0)) hB (by rw [so_eq]; exact hb)
    rw [so_so] at g1
    have lk : ((hxB j).take k).length = k := by rw [List.length_take]; omega
    have tk : ((hxB j).take k ++ [lo8 ((hvI ((mbyt.getD j []).getD (2 * k) 0) <<< ((4 : Int32) &&& 31)) ||| hvI ((mbyt.getD j []).getD (2 * k + 1) 0))]).take 32 = (hxB j).take (k + 1) := by
      rw [List.take_of_length_le (by rw [List.length_append, lk]; show k + 1 ≤ 32; omega), List.take_succ_eq_append_getElem (by omega)]
      congr 2
      unfold hxB
      rw [List.getElem_map, List.getElem_range]
    rw [tk, lk, show (false || decide (32 ≤ k)) = false by rw [Bool.false_or, decide_eq_false_iff_not]; omega] at b1
    obtain ⟨o2, g2, b2⟩ := ih (k + 1) f o1 (by omega) (by omega) b1
    refine ⟨o2, ?_, b2⟩
    rw [B_X3_ofDigits_12, srcs X (by omega), bO_s, QJ_length X (by omega), bP_s, hl]
    unfold B_X3_ofDigits_19
    rw [if_neg (show ¬ (Int32.ofNat 64) ≤ (Int32.ofNat (2 * k)) + 1 by rw [n_i1]; exact fun q => absurd ((n_le (by omega) (by omega)).mp q) (by omega)), srcs X (by omega), bO_s, QJ_charAt X (by omega) (by omega), bP_s, Q7_hexValue, bP_s, bO_s, show (Int32.ofNat (2 * k)) + (1 : Int32) = (Int32.ofNat (2 * k + 1)) from n_i1 _, QJ_charAt X (by omega) (by omega), bP_s, Q7_hexValue, bP_s, rcv_m hB.1, bO_s, g1, bO_s, show (Int32.ofNat (2 * k)) + (2 : Int32) = (Int32.ofNat (2 * (k + 1))) from n_add _ 2, g2]
theorem st_dig {j ν z sl : Nat} (X : Cx G F W) (hj : j < 7) (hf : WF W z) (hv : frS W 0 ν) (hz : S 0 ν = zOb) : ∃ W' o, (∀ (β : Type) (K : Nat → mM → Nat → Nat → Option β), bAP (P_X3_ofDigits G F (G.1 j) (mem W S) z sl) K = K z (mem W' (S.so 0 ν o)) (z + 2) (sl + 3 + 32)) ∧ WF W' (z + 2) ∧ FX [(0, ν)] W W' ∧ isB W' ν 32 ∧ W'.ad (.o 0 ν) = z ∧ Byt 32 o (hxB j) false := by
  have hF := X.hF
  obtain ⟨W1, g1, f1, x1, b1, a1⟩ := st_B0 (G := G) (F := F) (S := S) (sl := sl) (room := 32) hf hv hz (by decide)
  have X1 : Cx G F W1 := ⟨by rw [x1.1.2.2.2]; exact X.1, X.2⟩
  obtain ⟨o, g2, b2⟩ := Q3_dig_l (G := G) (F := F) (S := S) (z := z + 2) (sl := sl + 3 + 32) X1 hj b1 32 0 F zOb (by omega) rfl zB_byt
  refine ⟨W1, o, fun β K => ?_, f1, x1, b1, a1, b2⟩
  rw [a1, zO_so hz] at g2
  have : P_X3_ofDigits G F (G.1 j) (mem W S) z sl = some (z, mem W1 (S.so 0 ν o), z + 2, sl + 3 + 32) := by
    unfold P_X3_ofDigits
    exact (g1 _ _).trans g2
  rw [this]
  rfl
/-- what the constructor does when all is there -/
def cuT (G : mG) (F : Nat) (l0 : Nat) (M171 : mM) (z168 k168 : Nat) : Option (mM × Nat × Nat) :=
  bO (gfR M171 l0 3 2) fun v175 =>
  bO (gfR M171 l0 3 4) fun v179 =>
  bO (rcv M171 v175 6) fun _ =>
  bO (P_X6_become G F v175 v179 M171) fun M182 =>
  bO (gfR M182 l0 3 3) fun v186 =>
  bO (gfR M182 l0 3 6) fun v190 =>
  bO (rcv M182 v186 6) fun _ =>
  bO (P_X6_become G F v186 v190 M182) fun M193 =>
  bO (gfR M193 l0 3 2) fun v197 =>
  bAP (P_X3_ofDigits G F (G.1 4) M193 z168 k168) fun v202 M202 z202 k202 =>
  bO (gfR M202 l0 3 8) fun v209 =>
  bO (rcv M202 v197 6) fun _ =>
  bO (P_X6_take G F v197 v202 (0 : Int32) (32 : Int32) v209 M202) fun M212 =>
  bO (gfR M212 l0 3 2) fun v216 =>
  bAP (P_X3_ofDigits G F (G.1 5) M212 z202 k202) fun v221 M221 z221 k221 =>
  bO (gfR M221 l0 3 0) fun v228 =>
  bO (aR M221 6 v228 (0 : Int32)) fun v232 =>
  bO (rcv M221 v216 6) fun _ =>
  bO (P_X6_take G F v216 v221 (0 : Int32) (32 : Int32) v232 M221) fun M233 =>
  bO (gfR M233 l0 3 2) fun v237 =>
  bAP (P_X3_ofDigits G F (G.1 6) M233 z221 k221) fun v242 M242 z242 k242 =>
  bO (gfR M242 l0 3 0) fun v249 =>
  bO (aR M242 6 v249 (1 : Int32)) fun v253 =>
  bO (rcv M242 v237 6) fun _ =>
  bO (P_X6_take G F v237 v242 (0 : Int32) (32 : Int32) v253 M242) fun M254 =>
  bO (gfR M254 l0 3 9) fun v258 =>
  bO (sL M254 v258 (0 : Int32) (1 : Int64)) fun M263 =>
  bO (gfR M263 l0 3 2) fun v265 =>
  bO (gfR M263 l0 3 9) fun v269 =>
  bO (rcv M263 v265 6) fun _ =>
  bO (P_X6_lead G F v265 v269 M263) fun M272 =>
  bO (gfR M272 l0 3 2) fun v276 =>
  bO (gfR M272 l0 3 8) fun v280 =>
  bO (rcv M272 v276 6) fun _ =>
  bO (P_X6_lead G F v276 v280 M272) fun M283 =>
  bO (gfR M283 l0 3 2) fun v287 =>
  bO (gfR M283 l0 3 0) fun v291 =>
  bO (aR M283 6 v291 (0 : Int32)) fun v295 =>
  bO (rcv M283 v287 6) fun _ =>
  bO (P_X6_lead G F v287 v295 M283) fun M296 =>
  bO (gfR M296 l0 3 2) fun v300 =>
  bO (gfR M296 l0 3 0) fun v304 =>
  bO (aR M296 6 v304 (1 : Int32)) fun v308 =>
  bO (rcv M296 v300 6) fun _ =>
  bO (P_X6_lead G F v300 v308 M296) fun M309 =>
  some (M309, z242, k242)

theorem nw_cu1 {z sl : Nat} (X : Cx G F W) (hf : WF W z) (hv : frS W 3 0) (hz : S 3 0 = zOb) (v0 : frS W 6 1) (o0 : S 6 1 = zOb) (v1 : frS W 6 2) (o1 : S 6 2 = zOb) (v2 : frS W 0 72) (o2 : S 0 72 = zOb) (v3 : frS W 0 73) (o3 : S 0 73 = zOb) (v4 : frS W 0 74) (o4 : S 0 74 = zOb) (v5 : frS W 0 75) (o5 : S 0 75 = zOb) (v6 : frS W 0 76) (o6 : S 0 76 = zOb) (v7 : frS W 0 77) (o7 : S 0 77 = zOb) (v8 : frS W 0 78) (o8 : S 0 78 = zOb) (v9 : frS W 0 79) (o9 : S 0 79 = zOb) : ∃ W' S' z' sl', (∀ (β : Type) (K : mM → Nat → Nat → Option β), (bO (some (nwO (mem W S) z 3 dfX3)) fun M => bA (P_X3_init G F z M (z + 1) (sl + 16)) K) = bA (cuT G F z (mem W' S') z' sl') K) ∧ CN W' z' 3 0 z [15, 14, 13, 12, 11, 10, 9, 8, 7, 6, 5, 4, 3, 2, 1, 0] ∧ (z ≤ z' ∧ z' ≤ z + 80) ∧ sl' ≤ sl + 1000 ∧ FX [(0, 79), (0, 78), (0, 77), (0, 76), (0, 75), (0, 74), (0, 73), (0, 72), (6, 2), (6, 1), (3, 0)] W W' ∧ isCu W' ∧ fr [(6, 1), (6, 2), (0, 72), (0, 73), (0, 74), (0, 75)] S S' ∧ Byt 32 (S' 0 72) (hxB 0) false ∧ Byt 32 (S' 0 73) (hxB 1) false ∧ Byt 32 (S' 0 74) (hxB 2) false ∧ Byt 32 (S' 0 75) (hxB 3) false := by
  obtain ⟨W0, g0, c0, f0⟩ := st_obj (S := S) hf hv hz (rfl : dfX3 = dfK 3)
  have x0 : FX [(3, 0)] W W0 := f0
  have hz3 : ∀ k, (S 3 0).l k = (fun _ => 0) ∧ ∀ j, (S 3 0).m k j = fun _ => 0 := fun k => by rw [hz]; exact ⟨rfl, fun _ => rfl⟩
  obtain ⟨W1, g1, c1, f1, a1⟩ := st_grid (S := S) c0 0 2 8 (by decide) rfl rfl (by decide) (by decide) (by exact (hz3 0).2)
  have x1 : FX [(3, 0)] W W1 := x0.trans (f1.mono (by simp))
  obtain ⟨W2, g2, c2, f2, a2⟩ := st_grid (S := S) c1 1 2 8 (by decide) rfl rfl (by decide) (by decide) (by exact (hz3 1).2)
  have x2 : FX [(3, 0)] W W2 := x1.trans (f2.mono (by simp))
  obtain ⟨W3, zz3, ss3, g3, h3, ⟨lz3, uz3⟩, us3, f3, ad3, lv3, t3⟩ := nw_modu (G := G) (F := F) (S := S) (sl := sl + 16 + gsl 2 8 + gsl 2 8) (i := 1) c2.1 ((x2.2 6 1 (by decide)).1 v0) (by exact o0)
  have c3 := c2.go f3 h3 (by decide)
  have x3 : FX [(6, 1), (3, 0)] W W3 := (x2.mono (by simp)).trans (f3.mono (by simp))
  obtain ⟨W4, g4, c4, f4, r4⟩ := st_ref (S := (S.so 6 1 (zOb.sf 0 1))) (t := .o 6 1) c3 2 (by decide) rfl lv3 ad3
  have x4 : FX [(6, 1), (3, 0)] W W4 := x3.trans (f4.mono (by simp))
  obtain ⟨W5, zz5, ss5, g5, h5, ⟨lz5, uz5⟩, us5, f5, ad5, lv5, t5⟩ := nw_modu (G := G) (F := F) (S := (S.so 6 1 (zOb.sf 0 1))) (sl := ss3) (i := 2) c4.1 ((x4.2 6 2 (by decide)).1 v1) (by rw [so_ne (by decide)]; exact o1)
  have c5 := c4.go f5 h5 (by decide)
  have x5 : FX [(6, 2), (6, 1), (3, 0)] W W5 := (x4.mono (by simp)).trans (f5.mono (by simp))
  obtain ⟨W6, g6, c6, f6, r6⟩ := st_ref (S := ((S.so 6 1 (zOb.sf 0 1)).so 6 2 (zOb.sf 0 1))) (t := .o 6 2) c5 3 (by decide) rfl lv5 ad5
  have x6 : FX [(6, 2), (6, 1), (3, 0)] W W6 := x5.trans (f6.mono (by simp))
  have X7 : Cx G F W6 := ⟨by rw [x6.1.2.2.2]; exact X.1, X.2⟩
  obtain ⟨W7, p7, g7, h7, f7, b7, ad7, y7⟩ := st_dig (G := G) (F := F) (S := ((S.so 6 1 (zOb.sf 0 1)).so 6 2 (zOb.sf 0 1))) (sl := ss5) (j := 0) X7 (by decide) c6.1 ((x6.2 0 72 (by decide)).1 v2) (by rw [so_ne (by decide), so_ne (by decide)]; exact o2)
  have c7 := c6.go f7 h7 (by decide)
  have x7 : FX [(0, 72), (6, 2), (6, 1), (3, 0)] W W7 := (x6.mono (by simp)).trans (f7.mono (by simp))
  obtain ⟨W8, g8, c8, f8, r8⟩ := st_ref (S := (((S.so 6 1 (zOb.sf 0 1)).so 6 2 (zOb.sf 0 1)).so 0 72 p7)) (t := .o 0 72) c7 4 (by decide) rfl b7.1 ad7
  have x8 : FX [(0, 72), (6, 2), (6, 1), (3, 0)] W W8 := x7.trans (f8.mono (by simp))
  have X9 : Cx G F W8 := ⟨by rw [x8.1.2.2.2]; exact X.1, X.2⟩
  obtain ⟨W9, p9, g9, h9, f9, b9, ad9, y9⟩ := st_dig (G := G) (F := F) (S := (((S.so 6 1 (zOb.sf 0 1)).so 6 2 (zOb.sf 0 1)).so 0 72 p7)) (sl := ss5 + 3 + 32) (j := 1) X9 (by decide) c8.1 ((x8.2 0 73 (by decide)).1 v3) (by rw [so_ne (by decide), so_ne (by decide), so_ne (by decide)]; exact o3)
  have c9 := c8.go f9 h9 (by decide)
  have x9 : FX [(0, 73), (0, 72), (6, 2), (6, 1), (3, 0)] W W9 := (x8.mono (by simp)).trans (f9.mono (by simp))
  obtain ⟨W10, g10, c10, f10, r10⟩ := st_ref (S := ((((S.so 6 1 (zOb.sf 0 1)).so 6 2 (zOb.sf 0 1)).so 0 72 p7).so 0 73 p9)) (t := .o 0 73) c9 5 (by decide) rfl b9.1 ad9
  have x10 : FX [(0, 73), (0, 72), (6, 2), (6, 1), (3, 0)] W W10 := x9.trans (f10.mono (by simp))
  have X11 : Cx G F W10 := ⟨by rw [x10.1.2.2.2]; exact X.1, X.2⟩
  obtain ⟨W11, p11, g11, h11, f11, b11, ad11, y11⟩ := st_dig (G := G) (F := F) (S := ((((S.so 6 1 (zOb.sf 0 1)).so 6 2 (zOb.sf 0 1)).so 0 72 p7).so 0 73 p9)) (sl := ss5 + 3 + 32 + 3 + 32) (j := 2) X11 (by decide) c10.1 ((x10.2 0 74 (by decide)).1 v4) (by rw [so_ne (by decide), so_ne (by decide), so_ne (by decide), so_ne (by decide)]; exact o4)
  have c11 := c10.go f11 h11 (by decide)
  have x11 : FX [(0, 74), (0, 73), (0, 72), (6, 2), (6, 1), (3, 0)] W W11 := (x10.mono (by simp)).trans (f11.mono (by simp))
  obtain ⟨W12, g12, c12, f12, r12⟩ := st_ref (S := (((((S.so 6 1 (zOb.sf 0 1)).so 6 2 (zOb.sf 0 1)).so 0 72 p7).so 0 73 p9).so 0 74 p11)) (t := .o 0 74) c11 6 (by decide) rfl b11.1 ad11
  have x12 : FX [(0, 74), (0, 73), (0, 72), (6, 2), (6, 1), (3, 0)] W W12 := x11.trans (f12.mono (by simp))
  have X13 : Cx G F W12 := ⟨by rw [x12.1.2.2.2]; exact X.1, X.2⟩
  obtain ⟨W13, p13, g13, h13, f13, b13, ad13, y13⟩ := st_dig (G := G) (F := F) (S := (((((S.so 6 1 (zOb.sf 0 1)).so 6 2 (zOb.sf 0 1)).so 0 72 p7).so 0 73 p9).so 0 74 p11)) (sl := ss5 + 3 + 32 + 3 + 32 + 3 + 32) (j := 3) X13 (by decide) c12.1 ((x12.2 0 75 (by decide)).1 v5) (by rw [so_ne (by decide), so_ne (by decide), so_ne (by decide), so_ne (by decide), so_ne (by decide)]; exact o5)
  have c13 := c12.go f13 h13 (by decide)
  have x13 : FX [(0, 75), (0, 74), (0, 73), (0, 72), (6, 2), (6, 1), (3, 0)] W W13 := (x12.mono (by simp)).trans (f13.mono (by simp))
  obtain ⟨W14, g14, c14, f14, r14⟩ := st_ref (S := ((((((S.so 6 1 (zOb.sf 0 1)).so 6 2 (zOb.sf 0 1)).so 0 72 p7).so 0 73 p9).so 0 74 p11).so 0 75 p13)) (t := .o 0 75) c13 7 (by decide) rfl b13.1 ad13
  have x14 : FX [(0, 75), (0, 74), (0, 73), (0, 72), (6, 2), (6, 1), (3, 0)] W W14 := x13.trans (f14.mono (by simp))
  obtain ⟨W15, g15, c15, f15, a15⟩ := st_arr (S := ((((((S.so 6 1 (zOb.sf 0 1)).so 6 2 (zOb.sf 0 1)).so 0 72 p7).so 0 73 p9).so 0 74 p11).so 0 75 p13)) (kk := 2) c14 8 8 (by decide) rfl rfl (by decide) (show (((((((S.so 6 1 (zOb.sf 0 1)).so 6 2 (zOb.sf 0 1)).so 0 72 p7).so 0 73 p9).so 0 74 p11).so 0 75 p13) 3 0).l 8 = _ by rw [so_ne (by decide), so_ne (by decide), so_ne (by decide), so_ne (by decide), so_ne (by decide), so_ne (by decide)]; exact (hz3 8).1)
  have x15 : FX [(0, 75), (0, 74), (0, 73), (0, 72), (6, 2), (6, 1), (3, 0)] W W15 := x14.trans (f15.mono (by simp))
  obtain ⟨W16, g16, c16, f16, a16⟩ := st_arr (S := ((((((S.so 6 1 (zOb.sf 0 1)).so 6 2 (zOb.sf 0 1)).so 0 72 p7).so 0 73 p9).so 0 74 p11).so 0 75 p13)) (kk := 2) c15 9 8 (by decide) rfl rfl (by decide) (show (((((((S.so 6 1 (zOb.sf 0 1)).so 6 2 (zOb.sf 0 1)).so 0 72 p7).so 0 73 p9).so 0 74 p11).so 0 75 p13) 3 0).l 9 = _ by rw [so_ne (by decide), so_ne (by decide), so_ne (by decide), so_ne (by decide), so_ne (by decide), so_ne (by decide)]; exact (hz3 9).1)
  have x16 : FX [(0, 75), (0, 74), (0, 73), (0, 72), (6, 2), (6, 1), (3, 0)] W W16 := x15.trans (f16.mono (by simp))
  obtain ⟨W17, g17, c17, f17, a17⟩ := st_grid (S := ((((((S.so 6 1 (zOb.sf 0 1)).so 6 2 (zOb.sf 0 1)).so 0 72 p7).so 0 73 p9).so 0 74 p11).so 0 75 p13)) c16 10 3 8 (by decide) rfl rfl (by decide) (by decide) (by have e := (show ((((((S.so 6 1 (zOb.sf 0 1)).so 6 2 (zOb.sf 0 1)).so 0 72 p7).so 0 73 p9).so 0 74 p11).so 0 75 p13) 3 0 = S 3 0 by rw [so_ne (by decide), so_ne (by decide), so_ne (by decide), so_ne (by decide), so_ne (by decide), so_ne (by decide)]); rw [e]; exact (hz3 10).2)
  have x17 : FX [(0, 75), (0, 74), (0, 73), (0, 72), (6, 2), (6, 1), (3, 0)] W W17 := x16.trans (f17.mono (by simp))
  obtain ⟨W18, g18, c18, f18, a18⟩ := st_grid (S := ((((((S.so 6 1 (zOb.sf 0 1)).so 6 2 (zOb.sf 0 1)).so 0 72 p7).so 0 73 p9).so 0 74 p11).so 0 75 p13)) c17 11 6 8 (by decide) rfl rfl (by decide) (by decide) (by have e := (show ((((((S.so 6 1 (zOb.sf 0 1)).so 6 2 (zOb.sf 0 1)).so 0 72 p7).so 0 73 p9).so 0 74 p11).so 0 75 p13) 3 0 = S 3 0 by rw [so_ne (by decide), so_ne (by decide), so_ne (by decide), so_ne (by decide), so_ne (by decide), so_ne (by decide)]); rw [e]; exact (hz3 11).2)
  have x18 : FX [(0, 75), (0, 74), (0, 73), (0, 72), (6, 2), (6, 1), (3, 0)] W W18 := x17.trans (f18.mono (by simp))
  obtain ⟨W19, g19, c19, f19, r19, b19⟩ := st_byt (G := G) (F := F) (S := ((((((S.so 6 1 (zOb.sf 0 1)).so 6 2 (zOb.sf 0 1)).so 0 72 p7).so 0 73 p9).so 0 74 p11).so 0 75 p13)) (sl := ss5 + 3 + 32 + 3 + 32 + 3 + 32 + 3 + 32 + ((8 : Int32)).toNatClampNeg + ((8 : Int32)).toNatClampNeg + gsl 3 8 + gsl 6 8) c18 12 76 64 (by decide) rfl ((x18.2 0 76 (by decide)).1 v6) (by rw [so_ne (by decide), so_ne (by decide), so_ne (by decide), so_ne (by decide), so_ne (by decide), so_ne (by decide)]; exact o6) (by decide) (by decide)
  have x19 : FX [(0, 76), (0, 75), (0, 74), (0, 73), (0, 72), (6, 2), (6, 1), (3, 0)] W W19 := (x18.mono (by simp)).trans (f19.mono (by simp))
  obtain ⟨W20, g20, c20, f20, r20, b20⟩ := st_byt (G := G) (F := F) (S := ((((((S.so 6 1 (zOb.sf 0 1)).so 6 2 (zOb.sf 0 1)).so 0 72 p7).so 0 73 p9).so 0 74 p11).so 0 75 p13)) (sl := ss5 + 3 + 32 + 3 + 32 + 3 + 32 + 3 + 32 + ((8 : Int32)).toNatClampNeg + ((8 : Int32)).toNatClampNeg + gsl 3 8 + gsl 6 8 + 3 + 64) c19 13 77 32 (by decide) rfl ((x19.2 0 77 (by decide)).1 v7) (by rw [so_ne (by decide), so_ne (by decide), so_ne (by decide), so_ne (by decide), so_ne (by decide), so_ne (by decide)]; exact o7) (by decide) (by decide)
  have x20 : FX [(0, 77), (0, 76), (0, 75), (0, 74), (0, 73), (0, 72), (6, 2), (6, 1), (3, 0)] W W20 := (x19.mono (by simp)).trans (f20.mono (by simp))
  obtain ⟨W21, g21, c21, f21, r21, b21⟩ := st_byt (G := G) (F := F) (S := ((((((S.so 6 1 (zOb.sf 0 1)).so 6 2 (zOb.sf 0 1)).so 0 72 p7).so 0 73 p9).so 0 74 p11).so 0 75 p13)) (sl := ss5 + 3 + 32 + 3 + 32 + 3 + 32 + 3 + 32 + ((8 : Int32)).toNatClampNeg + ((8 : Int32)).toNatClampNeg + gsl 3 8 + gsl 6 8 + 3 + 64 + 3 + 32) c20 14 78 32 (by decide) rfl ((x20.2 0 78 (by decide)).1 v8) (by rw [so_ne (by decide), so_ne (by decide), so_ne (by decide), so_ne (by decide), so_ne (by decide), so_ne (by decide)]; exact o8) (by decide) (by decide)
  have x21 : FX [(0, 78), (0, 77), (0, 76), (0, 75), (0, 74), (0, 73), (0, 72), (6, 2), (6, 1), (3, 0)] W W21 := (x20.mono (by simp)).trans (f21.mono (by simp))
  obtain ⟨W22, g22, c22, f22, r22, b22⟩ := st_byt (G := G) (F := F) (S := ((((((S.so 6 1 (zOb.sf 0 1)).so 6 2 (zOb.sf 0 1)).so 0 72 p7).so 0 73 p9).so 0 74 p11).so 0 75 p13)) (sl := ss5 + 3 + 32 + 3 + 32 + 3 + 32 + 3 + 32 + ((8 : Int32)).toNatClampNeg + ((8 : Int32)).toNatClampNeg + gsl 3 8 + gsl 6 8 + 3 + 64 + 3 + 32 + 3 + 32) c21 15 79 0 (by decide) rfl ((x21.2 0 79 (by decide)).1 v9) (by rw [so_ne (by decide), so_ne (by decide), so_ne (by decide), so_ne (by decide), so_ne (by decide), so_ne (by decide)]; exact o9) (by decide) (by decide)
  have x22 : FX [(0, 79), (0, 78), (0, 77), (0, 76), (0, 75), (0, 74), (0, 73), (0, 72), (6, 2), (6, 1), (3, 0)] W W22 := (x21.mono (by simp)).trans (f22.mono (by simp))
  have e22 : FX [(0, 79), (0, 78), (0, 77), (0, 76), (0, 75), (0, 74), (0, 73), (0, 72), (6, 2), (6, 1), (3, 0)] W22 W22 := FX.refl _ _
  have e21 : FX [(0, 79), (0, 78), (0, 77), (0, 76), (0, 75), (0, 74), (0, 73), (0, 72), (6, 2), (6, 1), (3, 0)] W21 W22 := (f22.mono (by simp)).trans e22
  have e20 : FX [(0, 79), (0, 78), (0, 77), (0, 76), (0, 75), (0, 74), (0, 73), (0, 72), (6, 2), (6, 1), (3, 0)] W20 W22 := (f21.mono (by simp)).trans e21
  have e19 : FX [(0, 79), (0, 78), (0, 77), (0, 76), (0, 75), (0, 74), (0, 73), (0, 72), (6, 2), (6, 1), (3, 0)] W19 W22 := (f20.mono (by simp)).trans e20
  have e18 : FX [(0, 79), (0, 78), (0, 77), (0, 76), (0, 75), (0, 74), (0, 73), (0, 72), (6, 2), (6, 1), (3, 0)] W18 W22 := (f19.mono (by simp)).trans e19
  have e17 : FX [(0, 79), (0, 78), (0, 77), (0, 76), (0, 75), (0, 74), (0, 73), (0, 72), (6, 2), (6, 1), (3, 0)] W17 W22 := (f18.mono (by simp)).trans e18
  have e16 : FX [(0, 79), (0, 78), (0, 77), (0, 76), (0, 75), (0, 74), (0, 73), (0, 72), (6, 2), (6, 1), (3, 0)] W16 W22 := (f17.mono (by simp)).trans e17
  have e15 : FX [(0, 79), (0, 78), (0, 77), (0, 76), (0, 75), (0, 74), (0, 73), (0, 72), (6, 2), (6, 1), (3, 0)] W15 W22 := (f16.mono (by simp)).trans e16
  have e14 : FX [(0, 79), (0, 78), (0, 77), (0, 76), (0, 75), (0, 74), (0, 73), (0, 72), (6, 2), (6, 1), (3, 0)] W14 W22 := (f15.mono (by simp)).trans e15
  have e13 : FX [(0, 79), (0, 78), (0, 77), (0, 76), (0, 75), (0, 74), (0, 73), (0, 72), (6, 2), (6, 1), (3, 0)] W13 W22 := (f14.mono (by simp)).trans e14
  have e12 : FX [(0, 79), (0, 78), (0, 77), (0, 76), (0, 75), (0, 74), (0, 73), (0, 72), (6, 2), (6, 1), (3, 0)] W12 W22 := (f13.mono (by simp)).trans e13
  have e11 : FX [(0, 79), (0, 78), (0, 77), (0, 76), (0, 75), (0, 74), (0, 73), (0, 72), (6, 2), (6, 1), (3, 0)] W11 W22 := (f12.mono (by simp)).trans e12
  have e10 : FX [(0, 79), (0, 78), (0, 77), (0, 76), (0, 75), (0, 74), (0, 73), (0, 72), (6, 2), (6, 1), (3, 0)] W10 W22 := (f11.mono (by simp)).trans e11
  have e9 : FX [(0, 79), (0, 78), (0, 77), (0, 76), (0, 75), (0, 74), (0, 73), (0, 72), (6, 2), (6, 1), (3, 0)] W9 W22 := (f10.mono (by simp)).trans e10
  have e8 : FX [(0, 79), (0, 78), (0, 77), (0, 76), (0, 75), (0, 74), (0, 73), (0, 72), (6, 2), (6, 1), (3, 0)] W8 W22 := (f9.mono (by simp)).trans e9
  have e7 : FX [(0, 79), (0, 78), (0, 77), (0, 76), (0, 75), (0, 74), (0, 73), (0, 72), (6, 2), (6, 1), (3, 0)] W7 W22 := (f8.mono (by simp)).trans e8
  have e6 : FX [(0, 79), (0, 78), (0, 77), (0, 76), (0, 75), (0, 74), (0, 73), (0, 72), (6, 2), (6, 1), (3, 0)] W6 W22 := (f7.mono (by simp)).trans e7
  have e5 : FX [(0, 79), (0, 78), (0, 77), (0, 76), (0, 75), (0, 74), (0, 73), (0, 72), (6, 2), (6, 1), (3, 0)] W5 W22 := (f6.mono (by simp)).trans e6
  have e4 : FX [(0, 79), (0, 78), (0, 77), (0, 76), (0, 75), (0, 74), (0, 73), (0, 72), (6, 2), (6, 1), (3, 0)] W4 W22 := (f5.mono (by simp)).trans e5
  have e3 : FX [(0, 79), (0, 78), (0, 77), (0, 76), (0, 75), (0, 74), (0, 73), (0, 72), (6, 2), (6, 1), (3, 0)] W3 W22 := (f4.mono (by simp)).trans e4
  have e2 : FX [(0, 79), (0, 78), (0, 77), (0, 76), (0, 75), (0, 74), (0, 73), (0, 72), (6, 2), (6, 1), (3, 0)] W2 W22 := (f3.mono (by simp)).trans e3
  have e1 : FX [(0, 79), (0, 78), (0, 77), (0, 76), (0, 75), (0, 74), (0, 73), (0, 72), (6, 2), (6, 1), (3, 0)] W1 W22 := (f2.mono (by simp)).trans e2
  have e0 : FX [(0, 79), (0, 78), (0, 77), (0, 76), (0, 75), (0, 74), (0, 73), (0, 72), (6, 2), (6, 1), (3, 0)] W0 W22 := (f1.mono (by simp)).trans e1
  have p : P_X3_init G F z (mem W0 S) (z + 1) (sl + 16) = cuT G F z (mem W22 ((((((S.so 6 1 (zOb.sf 0 1)).so 6 2 (zOb.sf 0 1)).so 0 72 p7).so 0 73 p9).so 0 74 p11).so 0 75 p13)) (zz5 + 2 + 2 + 2 + 2 + 1 + 1 + (1 + 3) + (1 + 6) + 2 + 2 + 2 + 2) (ss5 + 3 + 32 + 3 + 32 + 3 + 32 + 3 + 32 + ((8 : Int32)).toNatClampNeg + ((8 : Int32)).toNatClampNeg + gsl 3 8 + gsl 6 8 + 3 + 64 + 3 + 32 + 3 + 32 + 3 + 0) := by
    unfold P_X3_init
    rw [show ((2 : Int32)).toNatClampNeg = 2 from rfl, show ((3 : Int32)).toNatClampNeg = 3 from rfl, show ((6 : Int32)).toNatClampNeg = 6 from rfl]
    refine (g1 _ _).trans ?_
    refine (g2 _ _).trans ?_
    refine (g3 _ _).trans ?_
    rw [g4, bO_s]
    refine (g5 _ _).trans ?_
    rw [g6, bO_s]
    refine (g7 _ _).trans ?_
    rw [g8, bO_s]
    refine (g9 _ _).trans ?_
    rw [g10, bO_s]
    refine (g11 _ _).trans ?_
    rw [g12, bO_s]
    refine (g13 _ _).trans ?_
    rw [g14, bO_s]
    refine (g15 _ _).trans ?_
    refine (g16 _ _).trans ?_
    refine (g17 _ _).trans ?_
    refine (g18 _ _).trans ?_
    refine (g19 _ _).trans ?_
    refine (g20 _ _).trans ?_
    refine (g21 _ _).trans ?_
    refine (g22 _ _).trans ?_
    rfl
  have k2 : gsl 2 8 = 18 := rfl
  have k3 : gsl 3 8 = 27 := rfl
  have k6 : gsl 6 8 = 54 := rfl
  have n8 : ((8 : Int32)).toNatClampNeg = 8 := rfl
  refine ⟨W22, ((((((S.so 6 1 (zOb.sf 0 1)).so 6 2 (zOb.sf 0 1)).so 0 72 p7).so 0 73 p9).so 0 74 p11).so 0 75 p13), zz5 + 2 + 2 + 2 + 2 + 1 + 1 + (1 + 3) + (1 + 6) + 2 + 2 + 2 + 2, ss5 + 3 + 32 + 3 + 32 + 3 + 32 + 3 + 32 + ((8 : Int32)).toNatClampNeg + ((8 : Int32)).toNatClampNeg + gsl 3 8 + gsl 6 8 + 3 + 64 + 3 + 32 + 3 + 32 + 3 + 0, fun β K => by rw [g0, p], c22, ⟨by omega, by omega⟩, by omega, x22, ?_, ?_, ?_, ?_, ?_, ?_⟩
  · refine ⟨c22.2.1.1, ?_, e4.1.rr r4, e6.1.rr r6, ?_, e19.1.rr r19, e19.1.b b19, e20.1.rr r20, e20.1.b b20, e21.1.rr r21, e21.1.b b21, e22.1.rr r22, e22.1.b b22, e3.1.mo t3, e5.1.mo t5, ?_, ?_⟩
    · intro k hk
      simp only [List.mem_cons, List.not_mem_nil, or_false] at hk
      rcases hk with rfl | rfl | rfl | rfl | rfl | rfl
      · exact (e1.1.gr a1).1
      · exact (e2.1.gr a2).1
      · exact (e15.1.ha a15).2.1
      · exact (e16.1.ha a16).2.1
      · exact (e17.1.gr a17).1
      · exact (e18.1.gr a18).1
    · intro k hk
      have : k = 0 ∨ k = 1 ∨ k = 2 ∨ k = 3 := by omega
      rcases this with rfl | rfl | rfl | rfl
      · exact ⟨e8.1.rr r8, e7.1.b b7⟩
      · exact ⟨e10.1.rr r10, e9.1.b b9⟩
      · exact ⟨e12.1.rr r12, e11.1.b b11⟩
      · exact ⟨e14.1.rr r14, e13.1.b b13⟩
    · intro k hk
      have : k = 0 ∨ k = 1 ∨ k = 2 ∨ k = 3 ∨ k = 4 ∨ k = 5 ∨ k = 6 ∨ k = 7 ∨ k = 8 ∨ k = 9 ∨ k = 10 ∨ k = 11 ∨ k = 12 ∨ k = 13 ∨ k = 14 := by omega
      rcases this with rfl | rfl | rfl | rfl | rfl | rfl | rfl | rfl | rfl | rfl | rfl | rfl | rfl | rfl | rfl
      · exact ⟨((e17.1.gr a17).2.2.2 0 (by decide)).2.1, ((e17.1.gr a17).2.2.2 0 (by decide)).2.2, by decide, trivial⟩
      · exact ⟨((e17.1.gr a17).2.2.2 1 (by decide)).2.1, ((e17.1.gr a17).2.2.2 1 (by decide)).2.2, by decide, trivial⟩
      · exact ⟨((e17.1.gr a17).2.2.2 2 (by decide)).2.1, ((e17.1.gr a17).2.2.2 2 (by decide)).2.2, by decide, trivial⟩
      · exact ⟨((e18.1.gr a18).2.2.2 0 (by decide)).2.1, ((e18.1.gr a18).2.2.2 0 (by decide)).2.2, by decide, trivial⟩
      · exact ⟨((e18.1.gr a18).2.2.2 1 (by decide)).2.1, ((e18.1.gr a18).2.2.2 1 (by decide)).2.2, by decide, trivial⟩
      · exact ⟨((e18.1.gr a18).2.2.2 2 (by decide)).2.1, ((e18.1.gr a18).2.2.2 2 (by decide)).2.2, by decide, trivial⟩
      · exact ⟨((e18.1.gr a18).2.2.2 3 (by decide)).2.1, ((e18.1.gr a18).2.2.2 3 (by decide)).2.2, by decide, trivial⟩
      · exact ⟨((e18.1.gr a18).2.2.2 4 (by decide)).2.1, ((e18.1.gr a18).2.2.2 4 (by decide)).2.2, by decide, trivial⟩
      · exact ⟨((e18.1.gr a18).2.2.2 5 (by decide)).2.1, ((e18.1.gr a18).2.2.2 5 (by decide)).2.2, by decide, trivial⟩
      · exact ⟨((e1.1.gr a1).2.2.2 0 (by decide)).2.1, ((e1.1.gr a1).2.2.2 0 (by decide)).2.2, by decide, trivial⟩
      · exact ⟨((e1.1.gr a1).2.2.2 1 (by decide)).2.1, ((e1.1.gr a1).2.2.2 1 (by decide)).2.2, by decide, trivial⟩
      · exact ⟨((e2.1.gr a2).2.2.2 0 (by decide)).2.1, ((e2.1.gr a2).2.2.2 0 (by decide)).2.2, by decide, trivial⟩
      · exact ⟨((e2.1.gr a2).2.2.2 1 (by decide)).2.1, ((e2.1.gr a2).2.2.2 1 (by decide)).2.2, by decide, trivial⟩
      · exact ⟨(e15.1.ha a15).1, (e15.1.ha a15).2.2.1, by decide, rfl⟩
      · exact ⟨(e16.1.ha a16).1, (e16.1.ha a16).2.2.1, by decide, rfl⟩
    · intro k j h
      rcases h with ⟨rfl, hj⟩ | ⟨rfl, hj⟩ | ⟨rfl, hj⟩ | ⟨rfl, hj⟩
      · exact ⟨(e1.1.gr a1).2.1, by rw [(e1.1.gr a1).2.2.1]; exact hj, by rw [(e1.1.gr a1).2.2.1]; decide, ((e1.1.gr a1).2.2.2 j hj).1⟩
      · exact ⟨(e2.1.gr a2).2.1, by rw [(e2.1.gr a2).2.2.1]; exact hj, by rw [(e2.1.gr a2).2.2.1]; decide, ((e2.1.gr a2).2.2.2 j hj).1⟩
      · exact ⟨(e17.1.gr a17).2.1, by rw [(e17.1.gr a17).2.2.1]; exact hj, by rw [(e17.1.gr a17).2.2.1]; decide, ((e17.1.gr a17).2.2.2 j hj).1⟩
      · exact ⟨(e18.1.gr a18).2.1, by rw [(e18.1.gr a18).2.2.1]; exact hj, by rw [(e18.1.gr a18).2.2.1]; decide, ((e18.1.gr a18).2.2.2 j hj).1⟩
  · intro c i hn
    rw [so_ne (fun q => hn (by rw [q.1, q.2]; simp)), so_ne (fun q => hn (by rw [q.1, q.2]; simp)), so_ne (fun q => hn (by rw [q.1, q.2]; simp)), so_ne (fun q => hn (by rw [q.1, q.2]; simp)), so_ne (fun q => hn (by rw [q.1, q.2]; simp)), so_ne (fun q => hn (by rw [q.1, q.2]; simp))]
  · rw [so_ne (by decide), so_ne (by decide), so_ne (by decide), so_eq]; exact y7
  · rw [so_ne (by decide), so_ne (by decide), so_eq]; exact y9
  · rw [so_ne (by decide), so_eq]; exact y11
  · rw [so_eq]; exact y13
end NCU
