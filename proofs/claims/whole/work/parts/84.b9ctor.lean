/-! NEW OBJECTS: the constructors without loops -/
section NOB
variable {W : WR} {G : mG} {F : Nat} {S : ST}
theorem nw_text {z sl : Nat} {t : Nat} (hf : WF W z) (hv : frS W 9 t) (hz : S 9 t = zOb) (v0 : frS W 0 (14 + t)) (o0 : S 0 (14 + t) = zOb) : ∃ W' z' sl', (∀ (β : Type) (K : mM → Nat → Nat → Option β), (bO (some (nwO (mem W S) z 9 dfX9)) fun M => bA (P_X9_init G F z M (z + 1) (sl + 11)) K) = K (mem W' S) z' sl') ∧ WF W' z' ∧ (z ≤ z' ∧ z' ≤ z + 12) ∧ sl' ≤ sl + 13700 ∧ FX [(0, 14 + t), (9, t)] W W' ∧ W'.ad (.o 9 t) = z ∧ W'.live (.o 9 t) = true ∧ isTx W' t (14 + t) := by
  obtain ⟨W0, g0, c0, f0⟩ := st_obj (S := S) hf hv hz (rfl : dfX9 = dfK 9)
  have x0 : FX [(9, t)] W W0 := f0
  obtain ⟨W1, g1, c1, f1, a1⟩ := st_arr (S := S) (kk := 0) c0 1 600 (by decide) rfl rfl (by decide) (show (S 9 t).a 1 = _ by rw [hz]; rfl)
  have x1 : FX [(9, t)] W W1 := x0.trans (f1.mono (by simp))
  obtain ⟨W2, g2, c2, f2, a2⟩ := st_arr (S := S) (kk := 0) c1 2 600 (by decide) rfl rfl (by decide) (show (S 9 t).a 2 = _ by rw [hz]; rfl)
  have x2 : FX [(9, t)] W W2 := x1.trans (f2.mono (by simp))
  obtain ⟨W3, g3, c3, f3, a3⟩ := st_arr (S := S) (kk := 0) c2 3 600 (by decide) rfl rfl (by decide) (show (S 9 t).a 3 = _ by rw [hz]; rfl)
  have x3 : FX [(9, t)] W W3 := x2.trans (f3.mono (by simp))
  obtain ⟨W4, g4, c4, f4, a4⟩ := st_arr (S := S) (kk := 0) c3 4 600 (by decide) rfl rfl (by decide) (show (S 9 t).a 4 = _ by rw [hz]; rfl)
  have x4 : FX [(9, t)] W W4 := x3.trans (f4.mono (by simp))
  obtain ⟨W5, g5, c5, f5, a5⟩ := st_arr (S := S) (kk := 0) c4 5 600 (by decide) rfl rfl (by decide) (show (S 9 t).a 5 = _ by rw [hz]; rfl)
  have x5 : FX [(9, t)] W W5 := x4.trans (f5.mono (by simp))
  obtain ⟨W6, g6, c6, f6, a6⟩ := st_arr (S := S) (kk := 0) c5 6 600 (by decide) rfl rfl (by decide) (show (S 9 t).a 6 = _ by rw [hz]; rfl)
  have x6 : FX [(9, t)] W W6 := x5.trans (f6.mono (by simp))
  obtain ⟨W7, g7, c7, f7, a7⟩ := st_arr (S := S) (kk := 0) c6 7 600 (by decide) rfl rfl (by decide) (show (S 9 t).a 7 = _ by rw [hz]; rfl)
  have x7 : FX [(9, t)] W W7 := x6.trans (f7.mono (by simp))
  obtain ⟨W8, g8, c8, f8, a8⟩ := st_arr (S := S) (kk := 0) c7 8 600 (by decide) rfl rfl (by decide) (show (S 9 t).a 8 = _ by rw [hz]; rfl)
  have x8 : FX [(9, t)] W W8 := x7.trans (f8.mono (by simp))
  obtain ⟨W9, g9, c9, f9, a9⟩ := st_arr (S := S) (kk := 0) c8 9 600 (by decide) rfl rfl (by decide) (show (S 9 t).a 9 = _ by rw [hz]; rfl)
  have x9 : FX [(9, t)] W W9 := x8.trans (f9.mono (by simp))
  obtain ⟨W10, g10, c10, f10, r10, b10⟩ := st_byt (G := G) (F := F) (S := S) (sl := sl + 11 + ((600 : Int32)).toNatClampNeg + ((600 : Int32)).toNatClampNeg + ((600 : Int32)).toNatClampNeg + ((600 : Int32)).toNatClampNeg + ((600 : Int32)).toNatClampNeg + ((600 : Int32)).toNatClampNeg + ((600 : Int32)).toNatClampNeg + ((600 : Int32)).toNatClampNeg + ((600 : Int32)).toNatClampNeg) c9 10 (14 + t) 8192 (by decide) rfl ((x9.2 0 (14 + t) (by first | decide | (intro q; simp at q; done) | (intro q; simp at q; omega))).1 v0) o0 (by decide) (by decide)
  have x10 : FX [(0, 14 + t), (9, t)] W W10 := (x9.mono (by simp)).trans (f10.mono (by simp))
  have y10 : FX [(0, 14 + t), (9, t)] W10 W10 := FX.refl _ _
  have y9 : FX [(0, 14 + t), (9, t)] W9 W10 := (f10.mono (by simp)).trans y10
  have y8 : FX [(0, 14 + t), (9, t)] W8 W10 := (f9.mono (by simp)).trans y9
  have y7 : FX [(0, 14 + t), (9, t)] W7 W10 := (f8.mono (by simp)).trans y8
  have y6 : FX [(0, 14 + t), (9, t)] W6 W10 := (f7.mono (by simp)).trans y7
  have y5 : FX [(0, 14 + t), (9, t)] W5 W10 := (f6.mono (by simp)).trans y6
  have y4 : FX [(0, 14 + t), (9, t)] W4 W10 := (f5.mono (by simp)).trans y5
  have y3 : FX [(0, 14 + t), (9, t)] W3 W10 := (f4.mono (by simp)).trans y4
  have y2 : FX [(0, 14 + t), (9, t)] W2 W10 := (f3.mono (by simp)).trans y3
  have y1 : FX [(0, 14 + t), (9, t)] W1 W10 := (f2.mono (by simp)).trans y2
  have y0 : FX [(0, 14 + t), (9, t)] W0 W10 := (f1.mono (by simp)).trans y1
  have p : P_X9_init G F z (mem W0 S) (z + 1) (sl + 11) = some (mem W10 S, z + 1 + 1 + 1 + 1 + 1 + 1 + 1 + 1 + 1 + 1 + 2, sl + 11 + ((600 : Int32)).toNatClampNeg + ((600 : Int32)).toNatClampNeg + ((600 : Int32)).toNatClampNeg + ((600 : Int32)).toNatClampNeg + ((600 : Int32)).toNatClampNeg + ((600 : Int32)).toNatClampNeg + ((600 : Int32)).toNatClampNeg + ((600 : Int32)).toNatClampNeg + ((600 : Int32)).toNatClampNeg + 3 + 8192) := by
    unfold P_X9_init
    refine (g1 _ _).trans ?_
    refine (g2 _ _).trans ?_
    refine (g3 _ _).trans ?_
    refine (g4 _ _).trans ?_
    refine (g5 _ _).trans ?_
    refine (g6 _ _).trans ?_
    refine (g7 _ _).trans ?_
    refine (g8 _ _).trans ?_
    refine (g9 _ _).trans ?_
    refine (g10 _ _).trans ?_
    rfl
  have n600 : ((600 : Int32)).toNatClampNeg = 600 := rfl
  exact ⟨W10, z + 1 + 1 + 1 + 1 + 1 + 1 + 1 + 1 + 1 + 1 + 2, sl + 11 + ((600 : Int32)).toNatClampNeg + ((600 : Int32)).toNatClampNeg + ((600 : Int32)).toNatClampNeg + ((600 : Int32)).toNatClampNeg + ((600 : Int32)).toNatClampNeg + ((600 : Int32)).toNatClampNeg + ((600 : Int32)).toNatClampNeg + ((600 : Int32)).toNatClampNeg + ((600 : Int32)).toNatClampNeg + 3 + 8192, fun β K => by rw [g0, p]; rfl, c10.1, ⟨by omega, by omega⟩, by omega, x10, c10.2.2, c10.2.1.1, ⟨c10.2.1.1, y10.1.rr r10, y10.1.b b10, fun k h1 h9 => by
    have : k = 1 ∨ k = 2 ∨ k = 3 ∨ k = 4 ∨ k = 5 ∨ k = 6 ∨ k = 7 ∨ k = 8 ∨ k = 9 := by omega
    rcases this with rfl | rfl | rfl | rfl | rfl | rfl | rfl | rfl | rfl
    · exact ⟨(y1.1.ha a1).1, (y1.1.ha a1).2.1, (y1.1.ha a1).2.2.1⟩
    · exact ⟨(y2.1.ha a2).1, (y2.1.ha a2).2.1, (y2.1.ha a2).2.2.1⟩
    · exact ⟨(y3.1.ha a3).1, (y3.1.ha a3).2.1, (y3.1.ha a3).2.2.1⟩
    · exact ⟨(y4.1.ha a4).1, (y4.1.ha a4).2.1, (y4.1.ha a4).2.2.1⟩
    · exact ⟨(y5.1.ha a5).1, (y5.1.ha a5).2.1, (y5.1.ha a5).2.2.1⟩
    · exact ⟨(y6.1.ha a6).1, (y6.1.ha a6).2.1, (y6.1.ha a6).2.2.1⟩
    · exact ⟨(y7.1.ha a7).1, (y7.1.ha a7).2.1, (y7.1.ha a7).2.2.1⟩
    · exact ⟨(y8.1.ha a8).1, (y8.1.ha a8).2.1, (y8.1.ha a8).2.2.1⟩
    · exact ⟨(y9.1.ha a9).1, (y9.1.ha a9).2.1, (y9.1.ha a9).2.2.1⟩⟩⟩
theorem nw_key {z sl : Nat} {j : Nat} (hf : WF W z) (hv : frS W 5 j) (hz : S 5 j = zOb) (v0 : frS W 0 (16 + 3 * j)) (o0 : S 0 (16 + 3 * j) = zOb) (v1 : frS W 0 (17 + 3 * j)) (o1 : S 0 (17 + 3 * j) = zOb) (v2 : frS W 0 (18 + 3 * j)) (o2 : S 0 (18 + 3 * j) = zOb) (v3 : frS W 0 (94 + j)) (o3 : S 0 (94 + j) = zOb) (hj : j ≤ 16) : ∃ W' z' sl', (∀ (β : Type) (K : mM → Nat → Nat → Option β), (bO (some (nwO (mem W S) z 5 dfX5)) fun M => bA (P_X5_init G F z M (z + 1) (sl + 10)) K) = K (mem W' (S.so 5 j (zOb.sf 3 (-1)))) z' sl') ∧ WF W' z' ∧ (z + 9 ≤ z' ∧ z' ≤ z + 9) ∧ sl' ≤ sl + 480 ∧ FX [(0, 94 + j), (0, 18 + 3 * j), (0, 17 + 3 * j), (0, 16 + 3 * j), (5, j)] W W' ∧ W'.ad (.o 5 j) = z ∧ W'.live (.o 5 j) = true ∧ isKo W' j ∧ W'.r 5 j 9 = some (.o 0 (94 + j)) ∧ isB W' (94 + j) 64 := by
  obtain ⟨W0, g0, c0, f0⟩ := st_obj (S := S) hf hv hz (rfl : dfX5 = dfK 5)
  have x0 : FX [(5, j)] W W0 := f0
  have gi : pfv (mem W0 S) z 5 3 (.int (-1)) = some (mem W0 (S.so 5 j (zOb.sf 3 (-1)))) := by
    have := pfI_m (W := W0) (S := S) (c := 5) (i := j) (k := 3) (v := (-1)) c0.2.1.1 rfl
    rw [c0.2.2, hz] at this
    exact this
  obtain ⟨W1, g1, c1, f1, r1, b1⟩ := st_byt (G := G) (F := F) (S := (S.so 5 j (zOb.sf 3 (-1)))) (sl := sl + 10) c0 6 (16 + 3 * j) 128 (by decide) rfl ((x0.2 0 (16 + 3 * j) (by first | decide | (intro q; simp at q; done) | (intro q; simp at q; omega))).1 v0) (by rw [so_ne (by omega)]; exact o0) (by decide) (by decide)
  have x1 : FX [(0, 16 + 3 * j), (5, j)] W W1 := (x0.mono (by simp)).trans (f1.mono (by simp))
  obtain ⟨W2, g2, c2, f2, r2, b2⟩ := st_byt (G := G) (F := F) (S := (S.so 5 j (zOb.sf 3 (-1)))) (sl := sl + 10 + 3 + 128) c1 7 (17 + 3 * j) 128 (by decide) rfl ((x1.2 0 (17 + 3 * j) (by first | decide | (intro q; simp at q; done) | (intro q; simp at q; omega))).1 v1) (by rw [so_ne (by omega)]; exact o1) (by decide) (by decide)
  have x2 : FX [(0, 17 + 3 * j), (0, 16 + 3 * j), (5, j)] W W2 := (x1.mono (by simp)).trans (f2.mono (by simp))
  obtain ⟨W3, g3, c3, f3, r3, b3⟩ := st_byt (G := G) (F := F) (S := (S.so 5 j (zOb.sf 3 (-1)))) (sl := sl + 10 + 3 + 128 + 3 + 128) c2 8 (18 + 3 * j) 128 (by decide) rfl ((x2.2 0 (18 + 3 * j) (by first | decide | (intro q; simp at q; done) | (intro q; simp at q; omega))).1 v2) (by rw [so_ne (by omega)]; exact o2) (by decide) (by decide)
  have x3 : FX [(0, 18 + 3 * j), (0, 17 + 3 * j), (0, 16 + 3 * j), (5, j)] W W3 := (x2.mono (by simp)).trans (f3.mono (by simp))
  obtain ⟨W4, g4, c4, f4, r4, b4⟩ := st_byt (G := G) (F := F) (S := (S.so 5 j (zOb.sf 3 (-1)))) (sl := sl + 10 + 3 + 128 + 3 + 128 + 3 + 128) c3 9 (94 + j) 64 (by decide) rfl ((x3.2 0 (94 + j) (by first | decide | (intro q; simp at q; done) | (intro q; simp at q; omega))).1 v3) (by rw [so_ne (by omega)]; exact o3) (by decide) (by decide)
  have x4 : FX [(0, 94 + j), (0, 18 + 3 * j), (0, 17 + 3 * j), (0, 16 + 3 * j), (5, j)] W W4 := (x3.mono (by simp)).trans (f4.mono (by simp))
  have y4 : FX [(0, 94 + j), (0, 18 + 3 * j), (0, 17 + 3 * j), (0, 16 + 3 * j), (5, j)] W4 W4 := FX.refl _ _
  have y3 : FX [(0, 94 + j), (0, 18 + 3 * j), (0, 17 + 3 * j), (0, 16 + 3 * j), (5, j)] W3 W4 := (f4.mono (by simp)).trans y4
  have y2 : FX [(0, 94 + j), (0, 18 + 3 * j), (0, 17 + 3 * j), (0, 16 + 3 * j), (5, j)] W2 W4 := (f3.mono (by simp)).trans y3
  have y1 : FX [(0, 94 + j), (0, 18 + 3 * j), (0, 17 + 3 * j), (0, 16 + 3 * j), (5, j)] W1 W4 := (f2.mono (by simp)).trans y2
  have y0 : FX [(0, 94 + j), (0, 18 + 3 * j), (0, 17 + 3 * j), (0, 16 + 3 * j), (5, j)] W0 W4 := (f1.mono (by simp)).trans y1
  have p : P_X5_init G F z (mem W0 S) (z + 1) (sl + 10) = some (mem W4 (S.so 5 j (zOb.sf 3 (-1))), z + 1 + 2 + 2 + 2 + 2, sl + 10 + 3 + 128 + 3 + 128 + 3 + 128 + 3 + 64) := by
    unfold P_X5_init
    rw [gi, bO_s]
    refine (g1 _ _).trans ?_
    refine (g2 _ _).trans ?_
    refine (g3 _ _).trans ?_
    refine (g4 _ _).trans ?_
    rfl
  exact ⟨W4, z + 1 + 2 + 2 + 2 + 2, sl + 10 + 3 + 128 + 3 + 128 + 3 + 128 + 3 + 64, fun β K => by rw [g0, p]; rfl, c4.1, ⟨by omega, by omega⟩, by omega, x4, c4.2.2, c4.2.1.1, ⟨c4.2.1.1, y1.1.rr r1, y2.1.rr r2, y3.1.rr r3, y1.1.b b1, y2.1.b b2, y3.1.b b3⟩, y4.1.rr r4, y4.1.b b4⟩
theorem nw_dig {z sl : Nat} (hf : WF W z) (hv : frS W 4 0) (hz : S 4 0 = zOb) (v0 : frS W 0 (67)) (o0 : S 0 (67) = zOb) : ∃ W' z' sl', (∀ (β : Type) (K : mM → Nat → Nat → Option β), (bO (some (nwO (mem W S) z 4 dfX4)) fun M => bA (P_X4_init G F z M (z + 1) (sl + 11)) K) = K (mem W' (S.so 4 0 (zOb.sf 1 64))) z' sl') ∧ WF W' z' ∧ (z ≤ z' ∧ z' ≤ z + 9) ∧ sl' ≤ sl + 500 ∧ FX [(0, 67), (4, 0)] W W' ∧ W'.ad (.o 4 0) = z ∧ W'.live (.o 4 0) = true ∧ isD W' := by
  obtain ⟨W0, g0, c0, f0⟩ := st_obj (S := S) hf hv hz (rfl : dfX4 = dfK 4)
  have x0 : FX [(4, 0)] W W0 := f0
  have gi : pfv (mem W0 S) z 4 1 (.int 64) = some (mem W0 (S.so 4 0 (zOb.sf 1 64))) := by
    have := pfI_m (W := W0) (S := S) (c := 4) (i := 0) (k := 1) (v := 64) c0.2.1.1 rfl
    rw [c0.2.2, hz] at this
    exact this
  obtain ⟨W1, g1, c1, f1, a1⟩ := st_arr (S := (S.so 4 0 (zOb.sf 1 64))) (kk := 0) c0 2 128 (by decide) rfl rfl (by decide) (show (S.so 4 0 (zOb.sf 1 64) 4 0).a 2 = _ by rw [so_eq]; rfl)
  have x1 : FX [(4, 0)] W W1 := x0.trans (f1.mono (by simp))
  obtain ⟨W2, g2, c2, f2, a2⟩ := st_arr (S := (S.so 4 0 (zOb.sf 1 64))) (kk := 0) c1 5 8 (by decide) rfl rfl (by decide) (show (S.so 4 0 (zOb.sf 1 64) 4 0).a 5 = _ by rw [so_eq]; rfl)
  have x2 : FX [(4, 0)] W W2 := x1.trans (f2.mono (by simp))
  obtain ⟨W3, g3, c3, f3, a3⟩ := st_arr (S := (S.so 4 0 (zOb.sf 1 64))) (kk := 0) c2 6 64 (by decide) rfl rfl (by decide) (show (S.so 4 0 (zOb.sf 1 64) 4 0).a 6 = _ by rw [so_eq]; rfl)
  have x3 : FX [(4, 0)] W W3 := x2.trans (f3.mono (by simp))
  obtain ⟨W4, g4, c4, f4, a4⟩ := st_arr (S := (S.so 4 0 (zOb.sf 1 64))) (kk := 2) c3 7 8 (by decide) rfl rfl (by decide) (show (S.so 4 0 (zOb.sf 1 64) 4 0).l 7 = _ by rw [so_eq]; rfl)
  have x4 : FX [(4, 0)] W W4 := x3.trans (f4.mono (by simp))
  obtain ⟨W5, g5, c5, f5, a5⟩ := st_arr (S := (S.so 4 0 (zOb.sf 1 64))) (kk := 2) c4 8 80 (by decide) rfl rfl (by decide) (show (S.so 4 0 (zOb.sf 1 64) 4 0).l 8 = _ by rw [so_eq]; rfl)
  have x5 : FX [(4, 0)] W W5 := x4.trans (f5.mono (by simp))
  obtain ⟨W6, g6, c6, f6, a6⟩ := st_arr (S := (S.so 4 0 (zOb.sf 1 64))) (kk := 0) c5 9 128 (by decide) rfl rfl (by decide) (show (S.so 4 0 (zOb.sf 1 64) 4 0).a 9 = _ by rw [so_eq]; rfl)
  have x6 : FX [(4, 0)] W W6 := x5.trans (f6.mono (by simp))
  obtain ⟨W7, g7, c7, f7, r7, b7⟩ := st_byt (G := G) (F := F) (S := (S.so 4 0 (zOb.sf 1 64))) (sl := sl + 11 + ((128 : Int32)).toNatClampNeg + ((8 : Int32)).toNatClampNeg + ((64 : Int32)).toNatClampNeg + ((8 : Int32)).toNatClampNeg + ((80 : Int32)).toNatClampNeg + ((128 : Int32)).toNatClampNeg) c6 10 (67) 64 (by decide) rfl ((x6.2 0 (67) (by first | decide | (intro q; simp at q; done) | (intro q; simp at q; omega))).1 v0) (by rw [so_ne (by omega)]; exact o0) (by decide) (by decide)
  have x7 : FX [(0, 67), (4, 0)] W W7 := (x6.mono (by simp)).trans (f7.mono (by simp))
  have y7 : FX [(0, 67), (4, 0)] W7 W7 := FX.refl _ _
  have y6 : FX [(0, 67), (4, 0)] W6 W7 := (f7.mono (by simp)).trans y7
  have y5 : FX [(0, 67), (4, 0)] W5 W7 := (f6.mono (by simp)).trans y6
  have y4 : FX [(0, 67), (4, 0)] W4 W7 := (f5.mono (by simp)).trans y5
  have y3 : FX [(0, 67), (4, 0)] W3 W7 := (f4.mono (by simp)).trans y4
  have y2 : FX [(0, 67), (4, 0)] W2 W7 := (f3.mono (by simp)).trans y3
  have y1 : FX [(0, 67), (4, 0)] W1 W7 := (f2.mono (by simp)).trans y2
  have y0 : FX [(0, 67), (4, 0)] W0 W7 := (f1.mono (by simp)).trans y1
  have p : P_X4_init G F z (mem W0 S) (z + 1) (sl + 11) = some (mem W7 (S.so 4 0 (zOb.sf 1 64)), z + 1 + 1 + 1 + 1 + 1 + 1 + 1 + 2, sl + 11 + ((128 : Int32)).toNatClampNeg + ((8 : Int32)).toNatClampNeg + ((64 : Int32)).toNatClampNeg + ((8 : Int32)).toNatClampNeg + ((80 : Int32)).toNatClampNeg + ((128 : Int32)).toNatClampNeg + 3 + 64) := by
    unfold P_X4_init
    rw [gi, bO_s]
    refine (g1 _ _).trans ?_
    refine (g2 _ _).trans ?_
    refine (g3 _ _).trans ?_
    refine (g4 _ _).trans ?_
    refine (g5 _ _).trans ?_
    refine (g6 _ _).trans ?_
    refine (g7 _ _).trans ?_
    rfl
  have n8 : ((8 : Int32)).toNatClampNeg = 8 := rfl
  have n64 : ((64 : Int32)).toNatClampNeg = 64 := rfl
  have n80 : ((80 : Int32)).toNatClampNeg = 80 := rfl
  have n128 : ((128 : Int32)).toNatClampNeg = 128 := rfl
  exact ⟨W7, z + 1 + 1 + 1 + 1 + 1 + 1 + 1 + 2, sl + 11 + ((128 : Int32)).toNatClampNeg + ((8 : Int32)).toNatClampNeg + ((64 : Int32)).toNatClampNeg + ((8 : Int32)).toNatClampNeg + ((80 : Int32)).toNatClampNeg + ((128 : Int32)).toNatClampNeg + 3 + 64, fun β K => by rw [g0, p]; rfl, c7.1, ⟨by omega, by omega⟩, by omega, x7, c7.2.2, c7.2.1.1, ⟨c7.2.1.1, y1.1.ha a1, y2.1.ha a2, y3.1.ha a3, y6.1.ha a6, (y4.1.ha a4).1, (y4.1.ha a4).2.1, (y4.1.ha a4).2.2.1, (y5.1.ha a5).1, (y5.1.ha a5).2.1, (y5.1.ha a5).2.2.1, y7.1.rr r7, y7.1.b b7⟩⟩
theorem nw_cont {z sl : Nat} {d4 d1 : Nat} (hf : WF W z) (hv : frS W 2 0) (hz : S 2 0 = zOb) (v0 : frS W 0 (68)) (o0 : S 0 (68) = zOb) (l4 : W.live (.o 4 0) = true) (e4 : W.ad (.o 4 0) = d4) (l1 : W.live (.o 1 0) = true) (e1 : W.ad (.o 1 0) = d1) : ∃ W' z' sl', (∀ (β : Type) (K : mM → Nat → Nat → Option β), (bO (some (nwO (mem W S) z 2 dfX2)) fun M => bA (P_X2_init G F z d4 d1 M (z + 1) (sl + 9)) K) = K (mem W' S) z' sl') ∧ WF W' z' ∧ (z ≤ z' ∧ z' ≤ z + 5) ∧ sl' ≤ sl + 120 ∧ FX [(0, 68), (2, 0)] W W' ∧ W'.ad (.o 2 0) = z ∧ W'.live (.o 2 0) = true ∧ isCo W' := by
  obtain ⟨W0, g0, c0, f0⟩ := st_obj (S := S) hf hv hz (rfl : dfX2 = dfK 2)
  have x0 : FX [(2, 0)] W W0 := f0
  obtain ⟨W1, g1, c1, f1, a1⟩ := st_arr (S := S) (kk := 0) c0 2 16 (by decide) rfl rfl (by decide) (show (S 2 0).a 2 = _ by rw [hz]; rfl)
  have x1 : FX [(2, 0)] W W1 := x0.trans (f1.mono (by simp))
  obtain ⟨W2, g2, c2, f2, a2⟩ := st_arr (S := S) (kk := 0) c1 3 16 (by decide) rfl rfl (by decide) (show (S 2 0).a 3 = _ by rw [hz]; rfl)
  have x2 : FX [(2, 0)] W W2 := x1.trans (f2.mono (by simp))
  obtain ⟨W3, g3, c3, f3, r3, b3⟩ := st_byt (G := G) (F := F) (S := S) (sl := sl + 9 + ((16 : Int32)).toNatClampNeg + ((16 : Int32)).toNatClampNeg) c2 4 (68) 64 (by decide) rfl ((x2.2 0 (68) (by first | decide | (intro q; simp at q; done) | (intro q; simp at q; omega))).1 v0) o0 (by decide) (by decide)
  have x3 : FX [(0, 68), (2, 0)] W W3 := (x2.mono (by simp)).trans (f3.mono (by simp))
  obtain ⟨W4, g4, c4, f4, r4⟩ := st_ref (S := S) (t := .o 4 0) c3 0 (by decide) rfl (x3.1.lv l4) ((x3.1.1 _ l4).2.1.trans e4)
  have x4 : FX [(0, 68), (2, 0)] W W4 := x3.trans (f4.mono (by simp))
  obtain ⟨W5, g5, c5, f5, r5⟩ := st_ref (S := S) (t := .o 1 0) c4 1 (by decide) rfl (x4.1.lv l1) ((x4.1.1 _ l1).2.1.trans e1)
  have x5 : FX [(0, 68), (2, 0)] W W5 := x4.trans (f5.mono (by simp))
  have y5 : FX [(0, 68), (2, 0)] W5 W5 := FX.refl _ _
  have y4 : FX [(0, 68), (2, 0)] W4 W5 := (f5.mono (by simp)).trans y5
  have y3 : FX [(0, 68), (2, 0)] W3 W5 := (f4.mono (by simp)).trans y4
  have y2 : FX [(0, 68), (2, 0)] W2 W5 := (f3.mono (by simp)).trans y3
  have y1 : FX [(0, 68), (2, 0)] W1 W5 := (f2.mono (by simp)).trans y2
  have y0 : FX [(0, 68), (2, 0)] W0 W5 := (f1.mono (by simp)).trans y1
  have p : P_X2_init G F z d4 d1 (mem W0 S) (z + 1) (sl + 9) = some (mem W5 S, z + 1 + 1 + 1 + 2, sl + 9 + ((16 : Int32)).toNatClampNeg + ((16 : Int32)).toNatClampNeg + 3 + 64) := by
    unfold P_X2_init
    refine (g1 _ _).trans ?_
    refine (g2 _ _).trans ?_
    refine (g3 _ _).trans ?_
    rw [g4, bO_s]
    rw [g5, bO_s]
  have n16 : ((16 : Int32)).toNatClampNeg = 16 := rfl
  exact ⟨W5, z + 1 + 1 + 1 + 2, sl + 9 + ((16 : Int32)).toNatClampNeg + ((16 : Int32)).toNatClampNeg + 3 + 64, fun β K => by rw [g0, p]; rfl, c5.1, ⟨by omega, by omega⟩, by omega, x5, c5.2.2, c5.2.1.1, ⟨c5.2.1.1, y4.1.rr r4, y5.1.rr r5, y1.1.ha a1, y2.1.ha a2, y3.1.rr r3, y3.1.b b3⟩⟩
theorem nw_modu {z sl : Nat} {i : Nat} (hf : WF W z) (hv : frS W 6 i) (hz : S 6 i = zOb) : ∃ W' z' sl', (∀ (β : Type) (K : mM → Nat → Nat → Option β), (bO (some (nwO (mem W S) z 6 dfX6)) fun M => bA (P_X6_init G F z M (z + 1) (sl + 8)) K) = K (mem W' (S.so 6 i (zOb.sf 0 1))) z' sl') ∧ WF W' z' ∧ (z ≤ z' ∧ z' ≤ z + 7) ∧ sl' ≤ sl + 210 ∧ FX [(6, i)] W W' ∧ W'.ad (.o 6 i) = z ∧ W'.live (.o 6 i) = true ∧ isMo W' i := by
  obtain ⟨W0, g0, c0, f0⟩ := st_obj (S := S) hf hv hz (rfl : dfX6 = dfK 6)
  have x0 : FX [(6, i)] W W0 := f0
  have gi : pfv (mem W0 S) z 6 0 (.int 1) = some (mem W0 (S.so 6 i (zOb.sf 0 1))) := by
    have := pfI_m (W := W0) (S := S) (c := 6) (i := i) (k := 0) (v := 1) c0.2.1.1 rfl
    rw [c0.2.2, hz] at this
    exact this
  obtain ⟨W1, g1, c1, f1, a1⟩ := st_arr (S := (S.so 6 i (zOb.sf 0 1))) (kk := 2) c0 2 32 (by decide) rfl rfl (by decide) (show (S.so 6 i (zOb.sf 0 1) 6 i).l 2 = _ by rw [so_eq]; rfl)
  have x1 : FX [(6, i)] W W1 := x0.trans (f1.mono (by simp))
  obtain ⟨W2, g2, c2, f2, a2⟩ := st_arr (S := (S.so 6 i (zOb.sf 0 1))) (kk := 2) c1 3 32 (by decide) rfl rfl (by decide) (show (S.so 6 i (zOb.sf 0 1) 6 i).l 3 = _ by rw [so_eq]; rfl)
  have x2 : FX [(6, i)] W W2 := x1.trans (f2.mono (by simp))
  obtain ⟨W3, g3, c3, f3, a3⟩ := st_arr (S := (S.so 6 i (zOb.sf 0 1))) (kk := 2) c2 4 32 (by decide) rfl rfl (by decide) (show (S.so 6 i (zOb.sf 0 1) 6 i).l 4 = _ by rw [so_eq]; rfl)
  have x3 : FX [(6, i)] W W3 := x2.trans (f3.mono (by simp))
  obtain ⟨W4, g4, c4, f4, a4⟩ := st_arr (S := (S.so 6 i (zOb.sf 0 1))) (kk := 2) c3 5 32 (by decide) rfl rfl (by decide) (show (S.so 6 i (zOb.sf 0 1) 6 i).l 5 = _ by rw [so_eq]; rfl)
  have x4 : FX [(6, i)] W W4 := x3.trans (f4.mono (by simp))
  obtain ⟨W5, g5, c5, f5, a5⟩ := st_arr (S := (S.so 6 i (zOb.sf 0 1))) (kk := 2) c4 6 32 (by decide) rfl rfl (by decide) (show (S.so 6 i (zOb.sf 0 1) 6 i).l 6 = _ by rw [so_eq]; rfl)
  have x5 : FX [(6, i)] W W5 := x4.trans (f5.mono (by simp))
  obtain ⟨W6, g6, c6, f6, a6⟩ := st_arr (S := (S.so 6 i (zOb.sf 0 1))) (kk := 2) c5 7 34 (by decide) rfl rfl (by decide) (show (S.so 6 i (zOb.sf 0 1) 6 i).l 7 = _ by rw [so_eq]; rfl)
  have x6 : FX [(6, i)] W W6 := x5.trans (f6.mono (by simp))
  have y6 : FX [(6, i)] W6 W6 := FX.refl _ _
  have y5 : FX [(6, i)] W5 W6 := (f6.mono (by simp)).trans y6
  have y4 : FX [(6, i)] W4 W6 := (f5.mono (by simp)).trans y5
  have y3 : FX [(6, i)] W3 W6 := (f4.mono (by simp)).trans y4
  have y2 : FX [(6, i)] W2 W6 := (f3.mono (by simp)).trans y3
  have y1 : FX [(6, i)] W1 W6 := (f2.mono (by simp)).trans y2
  have y0 : FX [(6, i)] W0 W6 := (f1.mono (by simp)).trans y1
  have p : P_X6_init G F z (mem W0 S) (z + 1) (sl + 8) = some (mem W6 (S.so 6 i (zOb.sf 0 1)), z + 1 + 1 + 1 + 1 + 1 + 1 + 1, sl + 8 + ((32 : Int32)).toNatClampNeg + ((32 : Int32)).toNatClampNeg + ((32 : Int32)).toNatClampNeg + ((32 : Int32)).toNatClampNeg + ((32 : Int32)).toNatClampNeg + ((34 : Int32)).toNatClampNeg) := by
    unfold P_X6_init
    rw [gi, bO_s]
    refine (g1 _ _).trans ?_
    refine (g2 _ _).trans ?_
    refine (g3 _ _).trans ?_
    refine (g4 _ _).trans ?_
    refine (g5 _ _).trans ?_
    refine (g6 _ _).trans ?_
    rfl
  have n32 : ((32 : Int32)).toNatClampNeg = 32 := rfl
  have n34 : ((34 : Int32)).toNatClampNeg = 34 := rfl
  exact ⟨W6, z + 1 + 1 + 1 + 1 + 1 + 1 + 1, sl + 8 + ((32 : Int32)).toNatClampNeg + ((32 : Int32)).toNatClampNeg + ((32 : Int32)).toNatClampNeg + ((32 : Int32)).toNatClampNeg + ((32 : Int32)).toNatClampNeg + ((34 : Int32)).toNatClampNeg, fun β K => by rw [g0, p]; rfl, c6.1, ⟨by omega, by omega⟩, by omega, x6, c6.2.2, c6.2.1.1, ⟨c6.2.1.1, fun k h1 h9 => by
    have : k = 2 ∨ k = 3 ∨ k = 4 ∨ k = 5 ∨ k = 6 ∨ k = 7 := by omega
    rcases this with rfl | rfl | rfl | rfl | rfl | rfl
    · exact ⟨(y1.1.ha a1).2.1, (y1.1.ha a1).1, (y1.1.ha a1).2.2.1, by decide, rfl⟩
    · exact ⟨(y2.1.ha a2).2.1, (y2.1.ha a2).1, (y2.1.ha a2).2.2.1, by decide, rfl⟩
    · exact ⟨(y3.1.ha a3).2.1, (y3.1.ha a3).1, (y3.1.ha a3).2.2.1, by decide, rfl⟩
    · exact ⟨(y4.1.ha a4).2.1, (y4.1.ha a4).1, (y4.1.ha a4).2.2.1, by decide, rfl⟩
    · exact ⟨(y5.1.ha a5).2.1, (y5.1.ha a5).1, (y5.1.ha a5).2.2.1, by decide, rfl⟩
    · exact ⟨(y6.1.ha a6).2.1, (y6.1.ha a6).1, (y6.1.ha a6).2.2.1, by decide, rfl⟩⟩⟩
theorem nw_mod {z sl : Nat} {i : Nat} (hf : WF W z) (hv : frS W 12 i) (hz : S 12 i = zOb) : ∃ W' z' sl', (∀ (β : Type) (K : mM → Nat → Nat → Option β), (bO (some (nwO (mem W S) z 12 dfX12)) fun M => bA (P_X12_init G F z M (z + 1) (sl + 9)) K) = K (mem W' S) z' sl') ∧ WF W' z' ∧ (z ≤ z' ∧ z' ≤ z + 8) ∧ sl' ≤ sl + 290 ∧ FX [(12, i)] W W' ∧ W'.ad (.o 12 i) = z ∧ W'.live (.o 12 i) = true ∧ isMd W' i := by
  obtain ⟨W0, g0, c0, f0⟩ := st_obj (S := S) hf hv hz (rfl : dfX12 = dfK 12)
  have x0 : FX [(12, i)] W W0 := f0
  obtain ⟨W1, g1, c1, f1, a1⟩ := st_arr (S := S) (kk := 0) c0 0 34 (by decide) rfl rfl (by decide) (show (S 12 i).a 0 = _ by rw [hz]; rfl)
  have x1 : FX [(12, i)] W W1 := x0.trans (f1.mono (by simp))
  obtain ⟨W2, g2, c2, f2, a2⟩ := st_arr (S := S) (kk := 0) c1 3 34 (by decide) rfl rfl (by decide) (show (S 12 i).a 3 = _ by rw [hz]; rfl)
  have x2 : FX [(12, i)] W W2 := x1.trans (f2.mono (by simp))
  obtain ⟨W3, g3, c3, f3, a3⟩ := st_arr (S := S) (kk := 0) c2 4 34 (by decide) rfl rfl (by decide) (show (S 12 i).a 4 = _ by rw [hz]; rfl)
  have x3 : FX [(12, i)] W W3 := x2.trans (f3.mono (by simp))
  obtain ⟨W4, g4, c4, f4, a4⟩ := st_arr (S := S) (kk := 0) c3 5 70 (by decide) rfl rfl (by decide) (show (S 12 i).a 5 = _ by rw [hz]; rfl)
  have x4 : FX [(12, i)] W W4 := x3.trans (f4.mono (by simp))
  obtain ⟨W5, g5, c5, f5, a5⟩ := st_arr (S := S) (kk := 0) c4 6 34 (by decide) rfl rfl (by decide) (show (S 12 i).a 6 = _ by rw [hz]; rfl)
  have x5 : FX [(12, i)] W W5 := x4.trans (f5.mono (by simp))
  obtain ⟨W6, g6, c6, f6, a6⟩ := st_arr (S := S) (kk := 0) c5 7 34 (by decide) rfl rfl (by decide) (show (S 12 i).a 7 = _ by rw [hz]; rfl)
  have x6 : FX [(12, i)] W W6 := x5.trans (f6.mono (by simp))
  obtain ⟨W7, g7, c7, f7, a7⟩ := st_arr (S := S) (kk := 0) c6 8 34 (by decide) rfl rfl (by decide) (show (S 12 i).a 8 = _ by rw [hz]; rfl)
  have x7 : FX [(12, i)] W W7 := x6.trans (f7.mono (by simp))
  have y7 : FX [(12, i)] W7 W7 := FX.refl _ _
  have y6 : FX [(12, i)] W6 W7 := (f7.mono (by simp)).trans y7
  have y5 : FX [(12, i)] W5 W7 := (f6.mono (by simp)).trans y6
  have y4 : FX [(12, i)] W4 W7 := (f5.mono (by simp)).trans y5
  have y3 : FX [(12, i)] W3 W7 := (f4.mono (by simp)).trans y4
  have y2 : FX [(12, i)] W2 W7 := (f3.mono (by simp)).trans y3
  have y1 : FX [(12, i)] W1 W7 := (f2.mono (by simp)).trans y2
  have y0 : FX [(12, i)] W0 W7 := (f1.mono (by simp)).trans y1
  have p : P_X12_init G F z (mem W0 S) (z + 1) (sl + 9) = some (mem W7 S, z + 1 + 1 + 1 + 1 + 1 + 1 + 1 + 1, sl + 9 + ((34 : Int32)).toNatClampNeg + ((34 : Int32)).toNatClampNeg + ((34 : Int32)).toNatClampNeg + ((70 : Int32)).toNatClampNeg + ((34 : Int32)).toNatClampNeg + ((34 : Int32)).toNatClampNeg + ((34 : Int32)).toNatClampNeg) := by
    unfold P_X12_init
    refine (g1 _ _).trans ?_
    refine (g2 _ _).trans ?_
    refine (g3 _ _).trans ?_
    refine (g4 _ _).trans ?_
    refine (g5 _ _).trans ?_
    refine (g6 _ _).trans ?_
    refine (g7 _ _).trans ?_
    rfl
  have n34 : ((34 : Int32)).toNatClampNeg = 34 := rfl
  have n70 : ((70 : Int32)).toNatClampNeg = 70 := rfl
  exact ⟨W7, z + 1 + 1 + 1 + 1 + 1 + 1 + 1 + 1, sl + 9 + ((34 : Int32)).toNatClampNeg + ((34 : Int32)).toNatClampNeg + ((34 : Int32)).toNatClampNeg + ((70 : Int32)).toNatClampNeg + ((34 : Int32)).toNatClampNeg + ((34 : Int32)).toNatClampNeg + ((34 : Int32)).toNatClampNeg, fun β K => by rw [g0, p]; rfl, c7.1, ⟨by omega, by omega⟩, by omega, x7, c7.2.2, c7.2.1.1, ⟨c7.2.1.1, fun k h1 => by
    have : k = 0 ∨ k = 3 ∨ k = 4 ∨ k = 5 ∨ k = 6 ∨ k = 7 ∨ k = 8 := by omega
    rcases this with rfl | rfl | rfl | rfl | rfl | rfl | rfl
    · exact ⟨(y1.1.ha a1).2.1, (y1.1.ha a1).1, (y1.1.ha a1).2.2.1, by decide, rfl⟩
    · exact ⟨(y2.1.ha a2).2.1, (y2.1.ha a2).1, (y2.1.ha a2).2.2.1, by decide, rfl⟩
    · exact ⟨(y3.1.ha a3).2.1, (y3.1.ha a3).1, (y3.1.ha a3).2.2.1, by decide, rfl⟩
    · exact ⟨(y4.1.ha a4).2.1, (y4.1.ha a4).1, (y4.1.ha a4).2.2.1, by decide, rfl⟩
    · exact ⟨(y5.1.ha a5).2.1, (y5.1.ha a5).1, (y5.1.ha a5).2.2.1, by decide, rfl⟩
    · exact ⟨(y6.1.ha a6).2.1, (y6.1.ha a6).1, (y6.1.ha a6).2.2.1, by decide, rfl⟩
    · exact ⟨(y7.1.ha a7).2.1, (y7.1.ha a7).1, (y7.1.ha a7).2.2.1, by decide, rfl⟩⟩⟩
theorem WP.mo {W W' : WR} (h : WP W W') {i : Nat} (q : isMo W i) : isMo W' i := ⟨h.lv q.1, fun k h1 h2 => by
  obtain ⟨a, b, c, d, e⟩ := q.2 k h1 h2
  exact ⟨h.rr a, h.lv b, h.nn b c, d, e⟩⟩
theorem WP.md {W W' : WR} (h : WP W W') {i : Nat} (q : isMd W i) : isMd W' i := ⟨h.lv q.1, fun k h1 => by
  obtain ⟨a, b, c, d, e⟩ := q.2 k h1
  exact ⟨h.rr a, h.lv b, h.nn b c, d, e⟩⟩
theorem WM.mo {W W' : WR} (h : WM W W') {i : Nat} (q : isMo W i) : isMo W' i := h.p.mo q
theorem WM.md {W W' : WR} (h : WM W W') {i : Nat} (q : isMd W i) : isMd W' i := h.p.md q
theorem nw_rsa {z sl : Nat} {d4 : Nat} (hf : WF W z) (hv : frS W 8 0) (hz : S 8 0 = zOb) (v0 : frS W 6 (0)) (o0 : S 6 (0) = zOb) (v1 : frS W 0 (69)) (o1 : S 0 (69) = zOb) (v2 : frS W 0 (70)) (o2 : S 0 (70) = zOb) (v3 : frS W 0 (71)) (o3 : S 0 (71) = zOb) (l4 : W.live (.o 4 0) = true) (e4 : W.ad (.o 4 0) = d4) : ∃ W' z' sl', (∀ (β : Type) (K : mM → Nat → Nat → Option β), (bO (some (nwO (mem W S) z 8 dfX8)) fun M => bA (P_X8_init G F z d4 M (z + 1) (sl + 6)) K) = K (mem W' (S.so 6 0 (zOb.sf 0 1))) z' sl') ∧ WF W' z' ∧ (z ≤ z' ∧ z' ≤ z + 16) ∧ sl' ≤ sl + 560 ∧ FX [(0, 71), (0, 70), (0, 69), (6, 0), (8, 0)] W W' ∧ W'.ad (.o 8 0) = z ∧ W'.live (.o 8 0) = true ∧ isRs W' := by
  obtain ⟨W0, g0, c0, f0⟩ := st_obj (S := S) hf hv hz (rfl : dfX8 = dfK 8)
  have x0 : FX [(8, 0)] W W0 := f0
  obtain ⟨W1, zz1, ss1, g1, h1, ⟨lz1, uz1⟩, us1, f1, ad1, lv1, t1⟩ := nw_modu (G := G) (F := F) (S := S) (sl := sl + 6) (i := 0) c0.1 ((x0.2 6 (0) (by first | decide | (intro q; simp at q; done) | (intro q; simp at q; omega))).1 v0) o0
  have c1 := c0.go f1 h1 (by decide)
  have x1 : FX [(6, 0), (8, 0)] W W1 := (x0.mono (by simp)).trans (f1.mono (by simp))
  obtain ⟨W2, g2, c2, f2, r2⟩ := st_ref (S := (S.so 6 0 (zOb.sf 0 1))) (t := .o 6 0) c1 1 (by decide) rfl lv1 ad1
  have x2 : FX [(6, 0), (8, 0)] W W2 := x1.trans (f2.mono (by simp))
  obtain ⟨W3, g3, c3, f3, a3⟩ := st_arr (S := (S.so 6 0 (zOb.sf 0 1))) (kk := 2) c2 2 32 (by decide) rfl rfl (by decide) (show ((S.so 6 0 (zOb.sf 0 1)) 8 0).l 2 = _ by rw [so_ne (by omega), hz]; rfl)
  have x3 : FX [(6, 0), (8, 0)] W W3 := x2.trans (f3.mono (by simp))
  obtain ⟨W4, g4, c4, f4, r4, b4⟩ := st_byt (G := G) (F := F) (S := (S.so 6 0 (zOb.sf 0 1))) (sl := ss1 + ((32 : Int32)).toNatClampNeg) c3 3 (69) 128 (by decide) rfl ((x3.2 0 (69) (by first | decide | (intro q; simp at q; done) | (intro q; simp at q; omega))).1 v1) (by rw [so_ne (by omega)]; exact o1) (by decide) (by decide)
  have x4 : FX [(0, 69), (6, 0), (8, 0)] W W4 := (x3.mono (by simp)).trans (f4.mono (by simp))
  obtain ⟨W5, g5, c5, f5, r5, b5⟩ := st_byt (G := G) (F := F) (S := (S.so 6 0 (zOb.sf 0 1))) (sl := ss1 + ((32 : Int32)).toNatClampNeg + 3 + 128) c4 4 (70) 128 (by decide) rfl ((x4.2 0 (70) (by first | decide | (intro q; simp at q; done) | (intro q; simp at q; omega))).1 v2) (by rw [so_ne (by omega)]; exact o2) (by decide) (by decide)
  have x5 : FX [(0, 70), (0, 69), (6, 0), (8, 0)] W W5 := (x4.mono (by simp)).trans (f5.mono (by simp))
  obtain ⟨W6, g6, c6, f6, r6, b6⟩ := st_byt (G := G) (F := F) (S := (S.so 6 0 (zOb.sf 0 1))) (sl := ss1 + ((32 : Int32)).toNatClampNeg + 3 + 128 + 3 + 128) c5 5 (71) 32 (by decide) rfl ((x5.2 0 (71) (by first | decide | (intro q; simp at q; done) | (intro q; simp at q; omega))).1 v3) (by rw [so_ne (by omega)]; exact o3) (by decide) (by decide)
  have x6 : FX [(0, 71), (0, 70), (0, 69), (6, 0), (8, 0)] W W6 := (x5.mono (by simp)).trans (f6.mono (by simp))
  obtain ⟨W7, g7, c7, f7, r7⟩ := st_ref (S := (S.so 6 0 (zOb.sf 0 1))) (t := .o 4 0) c6 0 (by decide) rfl (x6.1.lv l4) ((x6.1.1 _ l4).2.1.trans e4)
  have x7 : FX [(0, 71), (0, 70), (0, 69), (6, 0), (8, 0)] W W7 := x6.trans (f7.mono (by simp))
  have y7 : FX [(0, 71), (0, 70), (0, 69), (6, 0), (8, 0)] W7 W7 := FX.refl _ _
  have y6 : FX [(0, 71), (0, 70), (0, 69), (6, 0), (8, 0)] W6 W7 := (f7.mono (by simp)).trans y7
  have y5 : FX [(0, 71), (0, 70), (0, 69), (6, 0), (8, 0)] W5 W7 := (f6.mono (by simp)).trans y6
  have y4 : FX [(0, 71), (0, 70), (0, 69), (6, 0), (8, 0)] W4 W7 := (f5.mono (by simp)).trans y5
  have y3 : FX [(0, 71), (0, 70), (0, 69), (6, 0), (8, 0)] W3 W7 := (f4.mono (by simp)).trans y4
  have y2 : FX [(0, 71), (0, 70), (0, 69), (6, 0), (8, 0)] W2 W7 := (f3.mono (by simp)).trans y3
  have y1 : FX [(0, 71), (0, 70), (0, 69), (6, 0), (8, 0)] W1 W7 := (f2.mono (by simp)).trans y2
  have y0 : FX [(0, 71), (0, 70), (0, 69), (6, 0), (8, 0)] W0 W7 := (f1.mono (by simp)).trans y1
  have p : P_X8_init G F z d4 (mem W0 S) (z + 1) (sl + 6) = some (mem W7 (S.so 6 0 (zOb.sf 0 1)), zz1 + 1 + 2 + 2 + 2, ss1 + ((32 : Int32)).toNatClampNeg + 3 + 128 + 3 + 128 + 3 + 32) := by
    unfold P_X8_init
    refine (g1 _ _).trans ?_
    rw [g2, bO_s]
    refine (g3 _ _).trans ?_
    refine (g4 _ _).trans ?_
    refine (g5 _ _).trans ?_
    refine (g6 _ _).trans ?_
    rw [g7, bO_s]
  have n32 : ((32 : Int32)).toNatClampNeg = 32 := rfl
  exact ⟨W7, zz1 + 1 + 2 + 2 + 2, ss1 + ((32 : Int32)).toNatClampNeg + 3 + 128 + 3 + 128 + 3 + 32, fun β K => by rw [g0, p]; rfl, c7.1, ⟨by omega, by omega⟩, by omega, x7, c7.2.2, c7.2.1.1, ⟨c7.2.1.1, y7.1.rr r7, y2.1.rr r2, (y3.1.ha a3).2.1, ⟨(y3.1.ha a3).1, (y3.1.ha a3).2.2.1, by decide, rfl⟩, y4.1.rr r4, y5.1.rr r5, y6.1.rr r6, y4.1.b b4, y5.1.b b5, y6.1.b b6, y1.1.mo t1⟩⟩
theorem nw_tok {z sl : Nat} (hf : WF W z) (hv : frS W 10 0) (hz : S 10 0 = zOb) (v0 : frS W 0 (83)) (o0 : S 0 (83) = zOb) (v1 : frS W 0 (84)) (o1 : S 0 (84) = zOb) (v2 : frS W 0 (85)) (o2 : S 0 (85) = zOb) (v3 : frS W 0 (86)) (o3 : S 0 (86) = zOb) (v4 : frS W 0 (87)) (o4 : S 0 (87) = zOb) (v5 : frS W 0 (88)) (o5 : S 0 (88) = zOb) (v6 : frS W 0 (89)) (o6 : S 0 (89) = zOb) (v7 : frS W 0 (90)) (o7 : S 0 (90) = zOb) (v8 : frS W 0 (91)) (o8 : S 0 (91) = zOb) (v9 : frS W 0 (92)) (o9 : S 0 (92) = zOb) (v10 : frS W 0 (93)) (o10 : S 0 (93) = zOb) : ∃ W' z' sl', (∀ (β : Type) (K : mM → Nat → Nat → Option β), (bO (some (nwO (mem W S) z 10 dfX10)) fun M => bA (P_X10_init G F z M (z + 1) (sl + 16)) K) = K (mem W' S) z' sl') ∧ WF W' z' ∧ (z ≤ z' ∧ z' ≤ z + 24) ∧ sl' ≤ sl + 18000 ∧ FX [(0, 93), (0, 92), (0, 91), (0, 90), (0, 89), (0, 88), (0, 87), (0, 86), (0, 85), (0, 84), (0, 83), (10, 0)] W W' ∧ W'.ad (.o 10 0) = z ∧ W'.live (.o 10 0) = true ∧ isTK W' := by
  obtain ⟨W0, g0, c0, f0⟩ := st_obj (S := S) hf hv hz (rfl : dfX10 = dfK 10)
  have x0 : FX [(10, 0)] W W0 := f0
  obtain ⟨W1, g1, c1, f1, r1, b1⟩ := st_byt (G := G) (F := F) (S := S) (sl := sl + 16) c0 0 (83) 8192 (by decide) rfl ((x0.2 0 (83) (by first | decide | (intro q; simp at q; done) | (intro q; simp at q; omega))).1 v0) o0 (by decide) (by decide)
  have x1 : FX [(0, 83), (10, 0)] W W1 := (x0.mono (by simp)).trans (f1.mono (by simp))
  obtain ⟨W2, g2, c2, f2, r2, b2⟩ := st_byt (G := G) (F := F) (S := S) (sl := sl + 16 + 3 + 8192) c1 4 (84) 4608 (by decide) rfl ((x1.2 0 (84) (by first | decide | (intro q; simp at q; done) | (intro q; simp at q; omega))).1 v1) o1 (by decide) (by decide)
  have x2 : FX [(0, 84), (0, 83), (10, 0)] W W2 := (x1.mono (by simp)).trans (f2.mono (by simp))
  obtain ⟨W3, g3, c3, f3, r3, b3⟩ := st_byt (G := G) (F := F) (S := S) (sl := sl + 16 + 3 + 8192 + 3 + 4608) c2 5 (85) 4608 (by decide) rfl ((x2.2 0 (85) (by first | decide | (intro q; simp at q; done) | (intro q; simp at q; omega))).1 v2) o2 (by decide) (by decide)
  have x3 : FX [(0, 85), (0, 84), (0, 83), (10, 0)] W W3 := (x2.mono (by simp)).trans (f3.mono (by simp))
  obtain ⟨W4, g4, c4, f4, r4, b4⟩ := st_byt (G := G) (F := F) (S := S) (sl := sl + 16 + 3 + 8192 + 3 + 4608 + 3 + 4608) c3 6 (86) 64 (by decide) rfl ((x3.2 0 (86) (by first | decide | (intro q; simp at q; done) | (intro q; simp at q; omega))).1 v3) o3 (by decide) (by decide)
  have x4 : FX [(0, 86), (0, 85), (0, 84), (0, 83), (10, 0)] W W4 := (x3.mono (by simp)).trans (f4.mono (by simp))
  obtain ⟨W5, g5, c5, f5, r5, b5⟩ := st_byt (G := G) (F := F) (S := S) (sl := sl + 16 + 3 + 8192 + 3 + 4608 + 3 + 4608 + 3 + 64) c4 7 (87) 32 (by decide) rfl ((x4.2 0 (87) (by first | decide | (intro q; simp at q; done) | (intro q; simp at q; omega))).1 v4) o4 (by decide) (by decide)
  have x5 : FX [(0, 87), (0, 86), (0, 85), (0, 84), (0, 83), (10, 0)] W W5 := (x4.mono (by simp)).trans (f5.mono (by simp))
  obtain ⟨W6, g6, c6, f6, r6, b6⟩ := st_byt (G := G) (F := F) (S := S) (sl := sl + 16 + 3 + 8192 + 3 + 4608 + 3 + 4608 + 3 + 64 + 3 + 32) c5 8 (88) 32 (by decide) rfl ((x5.2 0 (88) (by first | decide | (intro q; simp at q; done) | (intro q; simp at q; omega))).1 v5) o5 (by decide) (by decide)
  have x6 : FX [(0, 88), (0, 87), (0, 86), (0, 85), (0, 84), (0, 83), (10, 0)] W W6 := (x5.mono (by simp)).trans (f6.mono (by simp))
  obtain ⟨W7, g7, c7, f7, r7, b7⟩ := st_byt (G := G) (F := F) (S := S) (sl := sl + 16 + 3 + 8192 + 3 + 4608 + 3 + 4608 + 3 + 64 + 3 + 32 + 3 + 32) c6 9 (89) 64 (by decide) rfl ((x6.2 0 (89) (by first | decide | (intro q; simp at q; done) | (intro q; simp at q; omega))).1 v6) o6 (by decide) (by decide)
  have x7 : FX [(0, 89), (0, 88), (0, 87), (0, 86), (0, 85), (0, 84), (0, 83), (10, 0)] W W7 := (x6.mono (by simp)).trans (f7.mono (by simp))
  obtain ⟨W8, g8, c8, f8, r8, b8⟩ := st_byt (G := G) (F := F) (S := S) (sl := sl + 16 + 3 + 8192 + 3 + 4608 + 3 + 4608 + 3 + 64 + 3 + 32 + 3 + 32 + 3 + 64) c7 10 (90) 128 (by decide) rfl ((x7.2 0 (90) (by first | decide | (intro q; simp at q; done) | (intro q; simp at q; omega))).1 v7) o7 (by decide) (by decide)
  have x8 : FX [(0, 90), (0, 89), (0, 88), (0, 87), (0, 86), (0, 85), (0, 84), (0, 83), (10, 0)] W W8 := (x7.mono (by simp)).trans (f8.mono (by simp))
  obtain ⟨W9, g9, c9, f9, r9, b9⟩ := st_byt (G := G) (F := F) (S := S) (sl := sl + 16 + 3 + 8192 + 3 + 4608 + 3 + 4608 + 3 + 64 + 3 + 32 + 3 + 32 + 3 + 64 + 3 + 128) c8 11 (91) 16 (by decide) rfl ((x8.2 0 (91) (by first | decide | (intro q; simp at q; done) | (intro q; simp at q; omega))).1 v8) o8 (by decide) (by decide)
  have x9 : FX [(0, 91), (0, 90), (0, 89), (0, 88), (0, 87), (0, 86), (0, 85), (0, 84), (0, 83), (10, 0)] W W9 := (x8.mono (by simp)).trans (f9.mono (by simp))
  obtain ⟨W10, g10, c10, f10, r10, b10⟩ := st_byt (G := G) (F := F) (S := S) (sl := sl + 16 + 3 + 8192 + 3 + 4608 + 3 + 4608 + 3 + 64 + 3 + 32 + 3 + 32 + 3 + 64 + 3 + 128 + 3 + 16) c9 12 (92) 64 (by decide) rfl ((x9.2 0 (92) (by first | decide | (intro q; simp at q; done) | (intro q; simp at q; omega))).1 v9) o9 (by decide) (by decide)
  have x10 : FX [(0, 92), (0, 91), (0, 90), (0, 89), (0, 88), (0, 87), (0, 86), (0, 85), (0, 84), (0, 83), (10, 0)] W W10 := (x9.mono (by simp)).trans (f10.mono (by simp))
  obtain ⟨W11, g11, c11, f11, r11, b11⟩ := st_byt (G := G) (F := F) (S := S) (sl := sl + 16 + 3 + 8192 + 3 + 4608 + 3 + 4608 + 3 + 64 + 3 + 32 + 3 + 32 + 3 + 64 + 3 + 128 + 3 + 16 + 3 + 64) c10 13 (93) 16 (by decide) rfl ((x10.2 0 (93) (by first | decide | (intro q; simp at q; done) | (intro q; simp at q; omega))).1 v10) o10 (by decide) (by decide)
  have x11 : FX [(0, 93), (0, 92), (0, 91), (0, 90), (0, 89), (0, 88), (0, 87), (0, 86), (0, 85), (0, 84), (0, 83), (10, 0)] W W11 := (x10.mono (by simp)).trans (f11.mono (by simp))
  obtain ⟨W12, g12, c12, f12, a12⟩ := st_arr (S := S) (kk := 0) c11 14 6 (by decide) rfl rfl (by decide) (show (S 10 0).a 14 = _ by rw [hz]; rfl)
  have x12 : FX [(0, 93), (0, 92), (0, 91), (0, 90), (0, 89), (0, 88), (0, 87), (0, 86), (0, 85), (0, 84), (0, 83), (10, 0)] W W12 := x11.trans (f12.mono (by simp))
  have y12 : FX [(0, 93), (0, 92), (0, 91), (0, 90), (0, 89), (0, 88), (0, 87), (0, 86), (0, 85), (0, 84), (0, 83), (10, 0)] W12 W12 := FX.refl _ _
  have y11 : FX [(0, 93), (0, 92), (0, 91), (0, 90), (0, 89), (0, 88), (0, 87), (0, 86), (0, 85), (0, 84), (0, 83), (10, 0)] W11 W12 := (f12.mono (by simp)).trans y12
  have y10 : FX [(0, 93), (0, 92), (0, 91), (0, 90), (0, 89), (0, 88), (0, 87), (0, 86), (0, 85), (0, 84), (0, 83), (10, 0)] W10 W12 := (f11.mono (by simp)).trans y11
  have y9 : FX [(0, 93), (0, 92), (0, 91), (0, 90), (0, 89), (0, 88), (0, 87), (0, 86), (0, 85), (0, 84), (0, 83), (10, 0)] W9 W12 := (f10.mono (by simp)).trans y10
  have y8 : FX [(0, 93), (0, 92), (0, 91), (0, 90), (0, 89), (0, 88), (0, 87), (0, 86), (0, 85), (0, 84), (0, 83), (10, 0)] W8 W12 := (f9.mono (by simp)).trans y9
  have y7 : FX [(0, 93), (0, 92), (0, 91), (0, 90), (0, 89), (0, 88), (0, 87), (0, 86), (0, 85), (0, 84), (0, 83), (10, 0)] W7 W12 := (f8.mono (by simp)).trans y8
  have y6 : FX [(0, 93), (0, 92), (0, 91), (0, 90), (0, 89), (0, 88), (0, 87), (0, 86), (0, 85), (0, 84), (0, 83), (10, 0)] W6 W12 := (f7.mono (by simp)).trans y7
  have y5 : FX [(0, 93), (0, 92), (0, 91), (0, 90), (0, 89), (0, 88), (0, 87), (0, 86), (0, 85), (0, 84), (0, 83), (10, 0)] W5 W12 := (f6.mono (by simp)).trans y6
  have y4 : FX [(0, 93), (0, 92), (0, 91), (0, 90), (0, 89), (0, 88), (0, 87), (0, 86), (0, 85), (0, 84), (0, 83), (10, 0)] W4 W12 := (f5.mono (by simp)).trans y5
  have y3 : FX [(0, 93), (0, 92), (0, 91), (0, 90), (0, 89), (0, 88), (0, 87), (0, 86), (0, 85), (0, 84), (0, 83), (10, 0)] W3 W12 := (f4.mono (by simp)).trans y4
  have y2 : FX [(0, 93), (0, 92), (0, 91), (0, 90), (0, 89), (0, 88), (0, 87), (0, 86), (0, 85), (0, 84), (0, 83), (10, 0)] W2 W12 := (f3.mono (by simp)).trans y3
  have y1 : FX [(0, 93), (0, 92), (0, 91), (0, 90), (0, 89), (0, 88), (0, 87), (0, 86), (0, 85), (0, 84), (0, 83), (10, 0)] W1 W12 := (f2.mono (by simp)).trans y2
  have y0 : FX [(0, 93), (0, 92), (0, 91), (0, 90), (0, 89), (0, 88), (0, 87), (0, 86), (0, 85), (0, 84), (0, 83), (10, 0)] W0 W12 := (f1.mono (by simp)).trans y1
  have p : P_X10_init G F z (mem W0 S) (z + 1) (sl + 16) = some (mem W12 S, z + 1 + 2 + 2 + 2 + 2 + 2 + 2 + 2 + 2 + 2 + 2 + 2 + 1, sl + 16 + 3 + 8192 + 3 + 4608 + 3 + 4608 + 3 + 64 + 3 + 32 + 3 + 32 + 3 + 64 + 3 + 128 + 3 + 16 + 3 + 64 + 3 + 16 + ((6 : Int32)).toNatClampNeg) := by
    unfold P_X10_init
    refine (g1 _ _).trans ?_
    refine (g2 _ _).trans ?_
    refine (g3 _ _).trans ?_
    refine (g4 _ _).trans ?_
    refine (g5 _ _).trans ?_
    refine (g6 _ _).trans ?_
    refine (g7 _ _).trans ?_
    refine (g8 _ _).trans ?_
    refine (g9 _ _).trans ?_
    refine (g10 _ _).trans ?_
    refine (g11 _ _).trans ?_
    refine (g12 _ _).trans ?_
    rfl
  have n6 : ((6 : Int32)).toNatClampNeg = 6 := rfl
  exact ⟨W12, z + 1 + 2 + 2 + 2 + 2 + 2 + 2 + 2 + 2 + 2 + 2 + 2 + 1, sl + 16 + 3 + 8192 + 3 + 4608 + 3 + 4608 + 3 + 64 + 3 + 32 + 3 + 32 + 3 + 64 + 3 + 128 + 3 + 16 + 3 + 64 + 3 + 16 + ((6 : Int32)).toNatClampNeg, fun β K => by rw [g0, p]; rfl, c12.1, ⟨by omega, by omega⟩, by omega, x12, c12.2.2, c12.2.1.1, ⟨⟨c12.2.1.1, (y12.1.ha a12).2.1, (y12.1.ha a12).1, (y12.1.ha a12).2.2.1⟩, ⟨y1.1.rr r1, y1.1.b b1⟩, fun k h1 h9 => by
    have : k = 4 ∨ k = 5 ∨ k = 6 ∨ k = 7 ∨ k = 8 ∨ k = 9 ∨ k = 10 ∨ k = 11 ∨ k = 12 ∨ k = 13 := by omega
    rcases this with rfl | rfl | rfl | rfl | rfl | rfl | rfl | rfl | rfl | rfl
    · exact ⟨y2.1.rr r2, y2.1.b b2⟩
    · exact ⟨y3.1.rr r3, y3.1.b b3⟩
    · exact ⟨y4.1.rr r4, y4.1.b b4⟩
    · exact ⟨y5.1.rr r5, y5.1.b b5⟩
    · exact ⟨y6.1.rr r6, y6.1.b b6⟩
    · exact ⟨y7.1.rr r7, y7.1.b b7⟩
    · exact ⟨y8.1.rr r8, y8.1.b b8⟩
    · exact ⟨y9.1.rr r9, y9.1.b b9⟩
    · exact ⟨y10.1.rr r10, y10.1.b b10⟩
    · exact ⟨y11.1.rr r11, y11.1.b b11⟩⟩⟩
end NOB
