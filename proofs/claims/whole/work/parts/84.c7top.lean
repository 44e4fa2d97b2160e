/-! NEW OBJECTS: the class -/
section NTO
variable {G : mG} {F : Nat}
/-- a field read when one more object was made -/
theorem st_look {W : WR} {S : ST} {z c i c' i' k A B : Nat} {t : Cl} {df : List Value} (hd : df = dfK c) (hf : WF W z) (hv : frS W c i) (hz : S c i = zOb) (hl : W.live (.o c' i') = true) (hA : W.ad (.o c' i') = A) (q : (kdF c')[k]? = some 2) (hr : W.r c' i' k = some t) (hB : W.ad t = B) : gfR (nwO (mem W S) z c df) A c' k = some B := by
  obtain ⟨W1, g1, c1, f1⟩ := st_new (S := S) hf hv hz
  rw [hd, g1]
  have := gfR_m (W := W1) (S := S) (c := c') (i := i') (k := k) (f1.1.lv hl) q (f1.1.rr hr)
  rw [(f1.1.1 _ hl).2.1, hA, (f1.1.1 _ (hf.1 c' i' k t hr)).2.1, hB] at this
  exact this
theorem nw_curve {W : WR} {S : ST} {z sl : Nat} (X : Cx G F W) (hf : WF W z) (hn : ∀ c i, (c = 3 ∧ i = 0) ∨ (c = 6 ∧ (i = 1 ∨ i = 2)) ∨ (c = 0 ∧ 72 ≤ i ∧ i ≤ 82) → frS W c i ∧ S c i = zOb) : ∃ W' S' V z' sl', (∀ (β : Type) (K : mM → Nat → Nat → Option β), (bO (some (nwO (mem W S) z 3 dfX3)) fun M => bA (P_X3_init G F z M (z + 1) (sl + 16)) K) = K (mem W' S') z' sl') ∧ WF W' z' ∧ (z ≤ z' ∧ z' ≤ z + 90) ∧ sl' ≤ sl + 1200 ∧ FX [(0, 82), (0, 81), (0, 80), (0, 79), (0, 78), (0, 77), (0, 76), (0, 75), (0, 74), (0, 73), (0, 72), (6, 2), (6, 1), (3, 0)] W W' ∧ W'.ad (.o 3 0) = z ∧ W'.live (.o 3 0) = true ∧ isCu W' ∧ CK S' V ∧ fr [(3, 0), (6, 1), (6, 2), (0, 72), (0, 73), (0, 74), (0, 75), (0, 80), (0, 81), (0, 82)] S S' ∧ (isB W' 80 32 ∧ isB W' 81 32 ∧ isB W' 82 32) ∧ Byt 32 (S' 0 80) (hxB 4) false ∧ Byt 32 (S' 0 81) (hxB 5) false ∧ Byt 32 (S' 0 82) (hxB 6) false := by
  have n3 := hn 3 0 (by omega)
  have n61 := hn 6 1 (by omega)
  have n62 := hn 6 2 (by omega)
  have n0 : ∀ i, 72 ≤ i → i ≤ 82 → frS W 0 i ∧ S 0 i = zOb := fun i h1 h2 => hn 0 i (by omega)
  obtain ⟨W1, S1, z1, s1, g1, c1, bz, bs, x1, h1, f1, b72, b73, b74, b75⟩ := nw_cu1 (G := G) (F := F) (sl := sl) X hf n3.1 n3.2 n61.1 n61.2 n62.1 n62.2 (n0 72 (by omega) (by omega)).1 (n0 72 (by omega) (by omega)).2 (n0 73 (by omega) (by omega)).1 (n0 73 (by omega) (by omega)).2 (n0 74 (by omega) (by omega)).1 (n0 74 (by omega) (by omega)).2 (n0 75 (by omega) (by omega)).1 (n0 75 (by omega) (by omega)).2 (n0 76 (by omega) (by omega)).1 (n0 76 (by omega) (by omega)).2 (n0 77 (by omega) (by omega)).1 (n0 77 (by omega) (by omega)).2 (n0 78 (by omega) (by omega)).1 (n0 78 (by omega) (by omega)).2 (n0 79 (by omega) (by omega)).1 (n0 79 (by omega) (by omega)).2
  have X1 := x1.1.p.cx X
  obtain ⟨W2, S2, V, g2, wf2, x2, C2, f2, i80, i81, i82, y0, y1, y2⟩ := nw_cu2 (G := G) (F := F) (S := S1) (z := z1) (sl := s1) X1 h1 c1.2.2 c1.1 ((x1.2 0 80 (by decide)).1 (n0 80 (by omega) (by omega)).1) ((x1.2 0 81 (by decide)).1 (n0 81 (by omega) (by omega)).1) ((x1.2 0 82 (by decide)).1 (n0 82 (by omega) (by omega)).1) ((f1 0 80 (by decide)).trans (n0 80 (by omega) (by omega)).2) ((f1 0 81 (by decide)).trans (n0 81 (by omega) (by omega)).2) ((f1 0 82 (by decide)).trans (n0 82 (by omega) (by omega)).2) ((f1 3 0 (by decide)).trans n3.2) b72 b73 b74 b75 (by rw [f1 0 79 (by decide), (n0 79 (by omega) (by omega)).2]; exact zB_byt)
  refine ⟨W2, S2, V, _, _, fun β K => by rw [g1, g2]; rfl, wf2, ⟨by omega, by omega⟩, by omega, (x1.mono (by decide)).trans (x2.mono (by decide)), (x2.1.1 _ h1.1).2.1.trans c1.2.2, x2.1.lv h1.1, x2.1.p.cu h1, C2, (f1.mono (by decide)).trans (f2.mono (by decide)), ⟨i80, i81, i82⟩, y0, y1, y2⟩

theorem nsGo {P Q : List (Nat × Nat)} {L : List (Nat × Nat)} {W W' : WR} {S S' : ST} (h : NwS (fun c i => (c, i) ∈ P) W S) (x : FX L W W') (f : fr L S S') (h1 : ∀ x ∈ P, x ∈ Q) (h2 : ∀ x ∈ L, x ∈ Q) : NwS (fun c i => (c, i) ∈ Q) W' S' := (h.go x f).mono (fun c i q => q.elim (h1 _) (h2 _))
def nwF (W' : WR) : Prop := hasA W' 11 0 0 8 ∧ hasA W' 11 0 10 16 ∧ (∀ j, W'.e (.a 11 0 0) j = none) ∧ (∀ j, W'.e (.a 11 0 10) j = none) ∧ (W'.r 11 0 1 = some (.o 0 8) ∧ isB W' 8 8192) ∧ (W'.r 11 0 2 = some (.o 0 9) ∧ isB W' 9 8192) ∧ (W'.r 11 0 3 = some (.o 0 10) ∧ isB W' 10 0) ∧ (W'.r 11 0 4 = some (.o 0 11) ∧ isB W' 11 22528) ∧ (W'.r 11 0 5 = some (.o 0 12) ∧ isB W' 12 8192) ∧ (W'.r 11 0 6 = some (.o 0 13) ∧ isB W' 13 8192) ∧ (W'.r 11 0 7 = some (.o 9 0) ∧ isTx W' 0 14) ∧ (W'.r 11 0 8 = some (.o 9 1) ∧ isTx W' 1 15) ∧ (W'.r 11 0 9 = some (.o 7 0) ∧ W'.live (.o 7 0) = true) ∧ (W'.r 11 0 11 = some (.o 5 16) ∧ isKo W' 16 ∧ W'.r 5 16 9 = some (.o 0 110) ∧ isB W' 110 64) ∧ (W'.r 11 0 12 = some (.o 4 0) ∧ isD W') ∧ (W'.r 11 0 13 = some (.o 1 0) ∧ isCi W') ∧ (W'.r 11 0 14 = some (.o 2 0) ∧ isCo W') ∧ (W'.r 11 0 15 = some (.o 8 0) ∧ isRs W') ∧ (W'.r 11 0 16 = some (.o 3 0) ∧ isCu W') ∧ (W'.r 11 0 17 = some (.o 10 0) ∧ isTK W') ∧ (isB W' 80 32 ∧ isB W' 81 32 ∧ isB W' 82 32)
def nwD : List (Nat × Nat) := [(0, 93), (0, 92), (0, 91), (0, 90), (0, 89), (0, 88), (0, 87), (0, 86), (0, 85), (0, 84), (0, 83), (10, 0), (0, 82), (0, 81), (0, 80), (0, 79), (0, 78), (0, 77), (0, 76), (0, 75), (0, 74), (0, 73), (0, 72), (6, 2), (6, 1), (3, 0), (0, 71), (0, 70), (0, 69), (6, 0), (8, 0), (0, 68), (2, 0), (1, 0), (0, 67), (4, 0), (0, 110), (0, 66), (0, 65), (0, 64), (5, 16), (7, 0), (0, 15), (9, 1), (0, 14), (9, 0), (0, 13), (0, 12), (0, 11), (0, 10), (0, 9), (0, 8), (11, 0)]
/-- all but rows and keys -/
theorem nw_cls1 {W : WR} {S : ST} {z sl : Nat} (X : Cx G F W) (hf : WF W z) (hn : ∀ c i, frS W c i ∧ S c i = zOb) : ∃ W' S' V z' sl', (∀ (β : Type) (K : mM → Nat → Nat → Option β), (bO (some (nwO (mem W S) z 11 dfX11)) fun M => bA (P_X11_init G F z M (z + 1) (sl + 18)) K) = bA (B_X11_init_236 G F F z 0 (mem W' S') z' sl') K) ∧ WF W' z' ∧ (z ≤ z' ∧ z' ≤ z + 300) ∧ sl' ≤ sl + 200000 ∧ WM W W' ∧ W'.ad (.o 11 0) = z ∧ W'.live (.o 11 0) = true ∧ nwF W' ∧ NwS (fun c i => (c, i) ∈ nwD) W' S' ∧ CK S' V ∧ IB S' ∧ S' 5 16 = zOb.sf 3 (-1) ∧ (∀ i, i ∉ [72, 73, 74, 75, 80, 81, 82] → S' 0 i = zOb) ∧ S' 9 0 = zOb ∧ S' 9 1 = zOb ∧ Byt 32 (S' 0 80) (hxB 4) false ∧ Byt 32 (S' 0 81) (hxB 5) false ∧ Byt 32 (S' 0 82) (hxB 6) false := by
  obtain ⟨W0, g0, c0, f0⟩ := st_obj (S := S) hf (hn 11 0).1 (hn 11 0).2 (rfl : dfX11 = dfK 11)
  have n0 : NwS (fun c i => (c, i) ∈ [(11, 0)]) W0 S := fun c i q => ⟨(f0.2 c i q).1 (hn c i).1, (hn c i).2⟩
  obtain ⟨W1, g1, c1, f1, a1, en1⟩ := st_arrE (S := S) (kk := 4) c0 0 8 (by decide) rfl rfl (by decide) trivial
  have n1 : NwS (fun c i => (c, i) ∈ [(11, 0)]) W1 S := nsGo n0 f1 (fr.refl _ _) (fun _ h => h) (by decide +kernel)
  obtain ⟨W2, g2, c2, f2, r2, b2⟩ := st_byt (G := G) (F := F) (S := S) (sl := sl + 18 + ((8 : Int32)).toNatClampNeg) c1 1 8 8192 (by decide) rfl (n1 0 8 (by decide +kernel)).1 (n1 0 8 (by decide +kernel)).2 (by decide) (by decide)
  have n2 : NwS (fun c i => (c, i) ∈ [(0, 8), (11, 0)]) W2 S := nsGo n1 f2 (fr.refl _ _) (fun _ h => List.mem_cons_of_mem _ (h)) (by decide +kernel)
  obtain ⟨W3, g3, c3, f3, r3, b3⟩ := st_byt (G := G) (F := F) (S := S) (sl := sl + 18 + ((8 : Int32)).toNatClampNeg + 3 + 8192) c2 2 9 8192 (by decide) rfl (n2 0 9 (by decide +kernel)).1 (n2 0 9 (by decide +kernel)).2 (by decide) (by decide)
  have n3 : NwS (fun c i => (c, i) ∈ [(0, 9), (0, 8), (11, 0)]) W3 S := nsGo n2 f3 (fr.refl _ _) (fun _ h => List.mem_cons_of_mem _ (h)) (by decide +kernel)
  obtain ⟨W4, g4, c4, f4, r4, b4⟩ := st_byt (G := G) (F := F) (S := S) (sl := sl + 18 + ((8 : Int32)).toNatClampNeg + 3 + 8192 + 3 + 8192) c3 3 10 0 (by decide) rfl (n3 0 10 (by decide +kernel)).1 (n3 0 10 (by decide +kernel)).2 (by decide) (by decide)
  have n4 : NwS (fun c i => (c, i) ∈ [(0, 10), (0, 9), (0, 8), (11, 0)]) W4 S := nsGo n3 f4 (fr.refl _ _) (fun _ h => List.mem_cons_of_mem _ (h)) (by decide +kernel)
  obtain ⟨W5, g5, c5, f5, r5, b5⟩ := st_byt (G := G) (F := F) (S := S) (sl := sl + 18 + ((8 : Int32)).toNatClampNeg + 3 + 8192 + 3 + 8192 + 3 + 0) c4 4 11 22528 (by decide) rfl (n4 0 11 (by decide +kernel)).1 (n4 0 11 (by decide +kernel)).2 (by decide) (by decide)
  have n5 : NwS (fun c i => (c, i) ∈ [(0, 11), (0, 10), (0, 9), (0, 8), (11, 0)]) W5 S := nsGo n4 f5 (fr.refl _ _) (fun _ h => List.mem_cons_of_mem _ (h)) (by decide +kernel)
  obtain ⟨W6, g6, c6, f6, r6, b6⟩ := st_byt (G := G) (F := F) (S := S) (sl := sl + 18 + ((8 : Int32)).toNatClampNeg + 3 + 8192 + 3 + 8192 + 3 + 0 + 3 + 22528) c5 5 12 8192 (by decide) rfl (n5 0 12 (by decide +kernel)).1 (n5 0 12 (by decide +kernel)).2 (by decide) (by decide)
  have n6 : NwS (fun c i => (c, i) ∈ [(0, 12), (0, 11), (0, 10), (0, 9), (0, 8), (11, 0)]) W6 S := nsGo n5 f6 (fr.refl _ _) (fun _ h => List.mem_cons_of_mem _ (h)) (by decide +kernel)
  obtain ⟨W7, g7, c7, f7, r7, b7⟩ := st_byt (G := G) (F := F) (S := S) (sl := sl + 18 + ((8 : Int32)).toNatClampNeg + 3 + 8192 + 3 + 8192 + 3 + 0 + 3 + 22528 + 3 + 8192) c6 6 13 8192 (by decide) rfl (n6 0 13 (by decide +kernel)).1 (n6 0 13 (by decide +kernel)).2 (by decide) (by decide)
  have n7 : NwS (fun c i => (c, i) ∈ [(0, 13), (0, 12), (0, 11), (0, 10), (0, 9), (0, 8), (11, 0)]) W7 S := nsGo n6 f7 (fr.refl _ _) (fun _ h => List.mem_cons_of_mem _ (h)) (by decide +kernel)
  obtain ⟨W8, zz8, ss8, g8, h8, ⟨lz8, uz8⟩, us8, f8, ad8, lv8, t8⟩ := nw_text (G := G) (F := F) (S := S) (sl := sl + 18 + ((8 : Int32)).toNatClampNeg + 3 + 8192 + 3 + 8192 + 3 + 0 + 3 + 22528 + 3 + 8192 + 3 + 8192) (t := 0) c7.1 (n7 9 0 (by decide +kernel)).1 (n7 9 0 (by decide +kernel)).2 (n7 0 14 (by decide +kernel)).1 (n7 0 14 (by decide +kernel)).2
  have c8 := c7.go f8 h8 (by decide)
  have n8 : NwS (fun c i => (c, i) ∈ [(0, 14), (9, 0), (0, 13), (0, 12), (0, 11), (0, 10), (0, 9), (0, 8), (11, 0)]) W8 S := nsGo n7 f8 (fr.refl _ _) (fun _ h => List.mem_cons_of_mem _ (List.mem_cons_of_mem _ (h))) (by decide +kernel)
  obtain ⟨W9, g9, c9, f9, r9⟩ := st_ref (S := S) (t := .o 9 0) c8 7 (by decide) rfl lv8 ad8
  have n9 : NwS (fun c i => (c, i) ∈ [(0, 14), (9, 0), (0, 13), (0, 12), (0, 11), (0, 10), (0, 9), (0, 8), (11, 0)]) W9 S := nsGo n8 f9 (fr.refl _ _) (fun _ h => h) (by decide +kernel)
  obtain ⟨W10, zz10, ss10, g10, h10, ⟨lz10, uz10⟩, us10, f10, ad10, lv10, t10⟩ := nw_text (G := G) (F := F) (S := S) (sl := ss8) (t := 1) c9.1 (n9 9 1 (by decide +kernel)).1 (n9 9 1 (by decide +kernel)).2 (n9 0 15 (by decide +kernel)).1 (n9 0 15 (by decide +kernel)).2
  have c10 := c9.go f10 h10 (by decide)
  have n10 : NwS (fun c i => (c, i) ∈ [(0, 15), (9, 1), (0, 14), (9, 0), (0, 13), (0, 12), (0, 11), (0, 10), (0, 9), (0, 8), (11, 0)]) W10 S := nsGo n9 f10 (fr.refl _ _) (fun _ h => List.mem_cons_of_mem _ (List.mem_cons_of_mem _ (h))) (by decide +kernel)
  obtain ⟨W11, g11, c11, f11, r11⟩ := st_ref (S := S) (t := .o 9 1) c10 8 (by decide) rfl lv10 ad10
  have n11 : NwS (fun c i => (c, i) ∈ [(0, 15), (9, 1), (0, 14), (9, 0), (0, 13), (0, 12), (0, 11), (0, 10), (0, 9), (0, 8), (11, 0)]) W11 S := nsGo n10 f11 (fr.refl _ _) (fun _ h => h) (by decide +kernel)
  obtain ⟨W12, g12, k12, f12⟩ := st_obj (S := S) c11.1 (n11 7 0 (by decide +kernel)).1 (n11 7 0 (by decide +kernel)).2 (rfl : dfX7 = dfK 7)
  have c12 := c11.go f12 k12.1 (by decide)
  have n12 : NwS (fun c i => (c, i) ∈ [(7, 0), (0, 15), (9, 1), (0, 14), (9, 0), (0, 13), (0, 12), (0, 11), (0, 10), (0, 9), (0, 8), (11, 0)]) W12 S := nsGo n11 f12 (fr.refl _ _) (fun _ h => List.mem_cons_of_mem _ (h)) (by decide +kernel)
  have q3 : W12.r 11 0 3 = some (.o 0 10) := f12.1.rr (f11.1.rr (f10.1.rr (f9.1.rr (f8.1.rr (f7.1.rr (f6.1.rr (f5.1.rr (r4))))))))
  have q8 : W12.r 11 0 8 = some (.o 9 1) := f12.1.rr (r11)
  have w3 : gfR (mem W12 S) z 11 3 = some (W12.ad (.o 0 10)) := by have := gfR_m (W := W12) (S := S) (c := 11) (i := 0) (k := 3) c12.2.1.1 rfl q3; rw [c12.2.2] at this; exact this
  have w8 : gfR (mem W12 S) z 11 8 = some (W12.ad (.o 9 1)) := by have := gfR_m (W := W12) (S := S) (c := 11) (i := 0) (k := 8) c12.2.1.1 rfl q8; rw [c12.2.2] at this; exact this
  obtain ⟨W13, g13, k13, f13, r13⟩ := st_ref (S := S) (t := .o 0 10) k12 0 (by decide) rfl (k12.1.1 _ _ _ _ q3) rfl
  have c13 := c12.go f13 k13.1 (by decide)
  have n13 : NwS (fun c i => (c, i) ∈ [(7, 0), (0, 15), (9, 1), (0, 14), (9, 0), (0, 13), (0, 12), (0, 11), (0, 10), (0, 9), (0, 8), (11, 0)]) W13 S := nsGo n12 f13 (fr.refl _ _) (fun _ h => h) (by decide +kernel)
  obtain ⟨W14, g14, k14, f14, r14⟩ := st_ref (S := S) (t := .o 9 1) k13 1 (by decide) rfl (f13.1.lv (k12.1.1 _ _ _ _ q8)) (f13.1.1 _ (k12.1.1 _ _ _ _ q8)).2.1
  have c14 := c13.go f14 k14.1 (by decide)
  have n14 : NwS (fun c i => (c, i) ∈ [(7, 0), (0, 15), (9, 1), (0, 14), (9, 0), (0, 13), (0, 12), (0, 11), (0, 10), (0, 9), (0, 8), (11, 0)]) W14 S := nsGo n13 f14 (fr.refl _ _) (fun _ h => h) (by decide +kernel)
  obtain ⟨W15, g15, c15, f15, r15⟩ := st_ref (S := S) (t := .o 7 0) c14 9 (by decide) rfl k14.2.1.1 k14.2.2
  have n15 : NwS (fun c i => (c, i) ∈ [(7, 0), (0, 15), (9, 1), (0, 14), (9, 0), (0, 13), (0, 12), (0, 11), (0, 10), (0, 9), (0, 8), (11, 0)]) W15 S := nsGo n14 f15 (fr.refl _ _) (fun _ h => h) (by decide +kernel)
  obtain ⟨W16, g16, c16, f16, a16, en16⟩ := st_arrE (S := S) (kk := 5) c15 10 16 (by decide) rfl rfl (by decide) trivial
  have n16 : NwS (fun c i => (c, i) ∈ [(7, 0), (0, 15), (9, 1), (0, 14), (9, 0), (0, 13), (0, 12), (0, 11), (0, 10), (0, 9), (0, 8), (11, 0)]) W16 S := nsGo n15 f16 (fr.refl _ _) (fun _ h => h) (by decide +kernel)
  obtain ⟨W17, zz17, ss17, g17, h17, ⟨lz17, uz17⟩, us17, f17, ad17, lv17, t17⟩ := nw_key (G := G) (F := F) (S := S) (sl := ss10 + 9 + ((16 : Int32)).toNatClampNeg) (j := 16) c16.1 (n16 5 16 (by decide +kernel)).1 (n16 5 16 (by decide +kernel)).2 (n16 0 64 (by decide +kernel)).1 (n16 0 64 (by decide +kernel)).2 (n16 0 65 (by decide +kernel)).1 (n16 0 65 (by decide +kernel)).2 (n16 0 66 (by decide +kernel)).1 (n16 0 66 (by decide +kernel)).2 (n16 0 110 (by decide +kernel)).1 (n16 0 110 (by decide +kernel)).2 (by decide)
  have c17 := c16.go f17 h17 (by decide)
  have n17 : NwS (fun c i => (c, i) ∈ [(0, 110), (0, 66), (0, 65), (0, 64), (5, 16), (7, 0), (0, 15), (9, 1), (0, 14), (9, 0), (0, 13), (0, 12), (0, 11), (0, 10), (0, 9), (0, 8), (11, 0)]) W17 (S.so 5 16 (zOb.sf 3 (-1))) := nsGo n16 f17 (fr_so (by decide)) (fun _ h => List.mem_cons_of_mem _ (List.mem_cons_of_mem _ (List.mem_cons_of_mem _ (List.mem_cons_of_mem _ (List.mem_cons_of_mem _ (h)))))) (by decide +kernel)
  obtain ⟨W18, g18, c18, f18, r18⟩ := st_ref (S := (S.so 5 16 (zOb.sf 3 (-1)))) (t := .o 5 16) c17 11 (by decide) rfl lv17 ad17
  have n18 : NwS (fun c i => (c, i) ∈ [(0, 110), (0, 66), (0, 65), (0, 64), (5, 16), (7, 0), (0, 15), (9, 1), (0, 14), (9, 0), (0, 13), (0, 12), (0, 11), (0, 10), (0, 9), (0, 8), (11, 0)]) W18 (S.so 5 16 (zOb.sf 3 (-1))) := nsGo n17 f18 (fr.refl _ _) (fun _ h => h) (by decide +kernel)
  obtain ⟨W19, zz19, ss19, g19, h19, ⟨lz19, uz19⟩, us19, f19, ad19, lv19, t19⟩ := nw_dig (G := G) (F := F) (S := (S.so 5 16 (zOb.sf 3 (-1)))) (sl := ss17)  c18.1 (n18 4 0 (by decide +kernel)).1 (n18 4 0 (by decide +kernel)).2 (n18 0 67 (by decide +kernel)).1 (n18 0 67 (by decide +kernel)).2
  have c19 := c18.go f19 h19 (by decide)
  have n19 : NwS (fun c i => (c, i) ∈ [(0, 67), (4, 0), (0, 110), (0, 66), (0, 65), (0, 64), (5, 16), (7, 0), (0, 15), (9, 1), (0, 14), (9, 0), (0, 13), (0, 12), (0, 11), (0, 10), (0, 9), (0, 8), (11, 0)]) W19 ((S.so 5 16 (zOb.sf 3 (-1))).so 4 0 (zOb.sf 1 64)) := nsGo n18 f19 (fr_so (by decide)) (fun _ h => List.mem_cons_of_mem _ (List.mem_cons_of_mem _ (h))) (by decide +kernel)
  obtain ⟨W20, g20, c20, f20, r20⟩ := st_ref (S := ((S.so 5 16 (zOb.sf 3 (-1))).so 4 0 (zOb.sf 1 64))) (t := .o 4 0) c19 12 (by decide) rfl lv19 ad19
  have n20 : NwS (fun c i => (c, i) ∈ [(0, 67), (4, 0), (0, 110), (0, 66), (0, 65), (0, 64), (5, 16), (7, 0), (0, 15), (9, 1), (0, 14), (9, 0), (0, 13), (0, 12), (0, 11), (0, 10), (0, 9), (0, 8), (11, 0)]) W20 ((S.so 5 16 (zOb.sf 3 (-1))).so 4 0 (zOb.sf 1 64)) := nsGo n19 f20 (fr.refl _ _) (fun _ h => h) (by decide +kernel)
  have X20 : Cx G F W20 := ⟨by rw [f20.1.2.2.2, f19.1.2.2.2, f18.1.2.2.2, f17.1.2.2.2, f16.1.2.2.2, f15.1.2.2.2, f14.1.2.2.2, f13.1.2.2.2, f12.1.2.2.2, f11.1.2.2.2, f10.1.2.2.2, f9.1.2.2.2, f8.1.2.2.2, f7.1.2.2.2, f6.1.2.2.2, f5.1.2.2.2, f4.1.2.2.2, f3.1.2.2.2, f2.1.2.2.2, f1.1.2.2.2, f0.1.2.2.2]; exact X.1, X.2⟩
  obtain ⟨W21, zz21, ss21, g21, h21, ⟨lz21, uz21⟩, us21, f21, ad21, lv21, t21⟩ := nw_ciph (G := G) (F := F) (S := ((S.so 5 16 (zOb.sf 3 (-1))).so 4 0 (zOb.sf 1 64))) (sl := ss19) X20 c20.1 (n20 1 0 (by decide +kernel)).1 (n20 1 0 (by decide +kernel)).2
  have c21 := c20.go f21 h21 (by decide)
  have n21 : NwS (fun c i => (c, i) ∈ [(1, 0), (0, 67), (4, 0), (0, 110), (0, 66), (0, 65), (0, 64), (5, 16), (7, 0), (0, 15), (9, 1), (0, 14), (9, 0), (0, 13), (0, 12), (0, 11), (0, 10), (0, 9), (0, 8), (11, 0)]) W21 (((S.so 5 16 (zOb.sf 3 (-1))).so 4 0 (zOb.sf 1 64)).so 1 0 (zOb.sA 0 (ivT 256))) := nsGo n20 f21 (fr_so (by decide)) (fun _ h => List.mem_cons_of_mem _ (h)) (by decide +kernel)
  obtain ⟨W22, g22, c22, f22, r22⟩ := st_ref (S := (((S.so 5 16 (zOb.sf 3 (-1))).so 4 0 (zOb.sf 1 64)).so 1 0 (zOb.sA 0 (ivT 256)))) (t := .o 1 0) c21 13 (by decide) rfl lv21 ad21
  have n22 : NwS (fun c i => (c, i) ∈ [(1, 0), (0, 67), (4, 0), (0, 110), (0, 66), (0, 65), (0, 64), (5, 16), (7, 0), (0, 15), (9, 1), (0, 14), (9, 0), (0, 13), (0, 12), (0, 11), (0, 10), (0, 9), (0, 8), (11, 0)]) W22 (((S.so 5 16 (zOb.sf 3 (-1))).so 4 0 (zOb.sf 1 64)).so 1 0 (zOb.sA 0 (ivT 256))) := nsGo n21 f22 (fr.refl _ _) (fun _ h => h) (by decide +kernel)
  have l4 : W22.live (.o 4 0) = true := f22.1.lv (f21.1.lv (f20.1.lv (lv19)))
  have l1 : W22.live (.o 1 0) = true := f22.1.lv (lv21)
  have q12 : W22.r 11 0 12 = some (.o 4 0) := f22.1.rr (f21.1.rr (r20))
  have q13 : W22.r 11 0 13 = some (.o 1 0) := r22
  have k12 := st_look (W := W22) (S := (((S.so 5 16 (zOb.sf 3 (-1))).so 4 0 (zOb.sf 1 64)).so 1 0 (zOb.sA 0 (ivT 256)))) (A := z) (rfl : dfX2 = dfK 2) c22.1 (n22 2 0 (by decide +kernel)).1 (n22 2 0 (by decide +kernel)).2 c22.2.1.1 c22.2.2 rfl q12 rfl
  have k13 := st_look (W := W22) (S := (((S.so 5 16 (zOb.sf 3 (-1))).so 4 0 (zOb.sf 1 64)).so 1 0 (zOb.sA 0 (ivT 256)))) (A := z) (rfl : dfX2 = dfK 2) c22.1 (n22 2 0 (by decide +kernel)).1 (n22 2 0 (by decide +kernel)).2 c22.2.1.1 c22.2.2 rfl q13 rfl
  obtain ⟨W23, zz23, ss23, g23, h23, ⟨lz23, uz23⟩, us23, f23, ad23, lv23, t23⟩ := nw_cont (G := G) (F := F) (S := (((S.so 5 16 (zOb.sf 3 (-1))).so 4 0 (zOb.sf 1 64)).so 1 0 (zOb.sA 0 (ivT 256)))) (sl := ss21)  c22.1 (n22 2 0 (by decide +kernel)).1 (n22 2 0 (by decide +kernel)).2 (n22 0 68 (by decide +kernel)).1 (n22 0 68 (by decide +kernel)).2 l4 rfl l1 rfl
  have c23 := c22.go f23 h23 (by decide)
  have n23 : NwS (fun c i => (c, i) ∈ [(0, 68), (2, 0), (1, 0), (0, 67), (4, 0), (0, 110), (0, 66), (0, 65), (0, 64), (5, 16), (7, 0), (0, 15), (9, 1), (0, 14), (9, 0), (0, 13), (0, 12), (0, 11), (0, 10), (0, 9), (0, 8), (11, 0)]) W23 (((S.so 5 16 (zOb.sf 3 (-1))).so 4 0 (zOb.sf 1 64)).so 1 0 (zOb.sA 0 (ivT 256))) := nsGo n22 f23 (fr.refl _ _) (fun _ h => List.mem_cons_of_mem _ (List.mem_cons_of_mem _ (h))) (by decide +kernel)
  obtain ⟨W24, g24, c24, f24, r24⟩ := st_ref (S := (((S.so 5 16 (zOb.sf 3 (-1))).so 4 0 (zOb.sf 1 64)).so 1 0 (zOb.sA 0 (ivT 256)))) (t := .o 2 0) c23 14 (by decide) rfl lv23 ad23
  have n24 : NwS (fun c i => (c, i) ∈ [(0, 68), (2, 0), (1, 0), (0, 67), (4, 0), (0, 110), (0, 66), (0, 65), (0, 64), (5, 16), (7, 0), (0, 15), (9, 1), (0, 14), (9, 0), (0, 13), (0, 12), (0, 11), (0, 10), (0, 9), (0, 8), (11, 0)]) W24 (((S.so 5 16 (zOb.sf 3 (-1))).so 4 0 (zOb.sf 1 64)).so 1 0 (zOb.sA 0 (ivT 256))) := nsGo n23 f24 (fr.refl _ _) (fun _ h => h) (by decide +kernel)
  have l4r : W24.live (.o 4 0) = true := f24.1.lv (f23.1.lv (l4))
  have q12r : W24.r 11 0 12 = some (.o 4 0) := f24.1.rr (f23.1.rr (q12))
  have k12r := st_look (W := W24) (S := (((S.so 5 16 (zOb.sf 3 (-1))).so 4 0 (zOb.sf 1 64)).so 1 0 (zOb.sA 0 (ivT 256)))) (A := z) (rfl : dfX8 = dfK 8) c24.1 (n24 8 0 (by decide +kernel)).1 (n24 8 0 (by decide +kernel)).2 c24.2.1.1 c24.2.2 rfl q12r rfl
  obtain ⟨W25, zz25, ss25, g25, h25, ⟨lz25, uz25⟩, us25, f25, ad25, lv25, t25⟩ := nw_rsa (G := G) (F := F) (S := (((S.so 5 16 (zOb.sf 3 (-1))).so 4 0 (zOb.sf 1 64)).so 1 0 (zOb.sA 0 (ivT 256)))) (sl := ss23)  c24.1 (n24 8 0 (by decide +kernel)).1 (n24 8 0 (by decide +kernel)).2 (n24 6 0 (by decide +kernel)).1 (n24 6 0 (by decide +kernel)).2 (n24 0 69 (by decide +kernel)).1 (n24 0 69 (by decide +kernel)).2 (n24 0 70 (by decide +kernel)).1 (n24 0 70 (by decide +kernel)).2 (n24 0 71 (by decide +kernel)).1 (n24 0 71 (by decide +kernel)).2 l4r rfl
  have c25 := c24.go f25 h25 (by decide)
  have n25 : NwS (fun c i => (c, i) ∈ [(0, 71), (0, 70), (0, 69), (6, 0), (8, 0), (0, 68), (2, 0), (1, 0), (0, 67), (4, 0), (0, 110), (0, 66), (0, 65), (0, 64), (5, 16), (7, 0), (0, 15), (9, 1), (0, 14), (9, 0), (0, 13), (0, 12), (0, 11), (0, 10), (0, 9), (0, 8), (11, 0)]) W25 ((((S.so 5 16 (zOb.sf 3 (-1))).so 4 0 (zOb.sf 1 64)).so 1 0 (zOb.sA 0 (ivT 256))).so 6 0 (zOb.sf 0 1)) := nsGo n24 f25 (fr_so (by decide)) (fun _ h => List.mem_cons_of_mem _ (List.mem_cons_of_mem _ (List.mem_cons_of_mem _ (List.mem_cons_of_mem _ (List.mem_cons_of_mem _ (h)))))) (by decide +kernel)
  obtain ⟨W26, g26, c26, f26, r26⟩ := st_ref (S := ((((S.so 5 16 (zOb.sf 3 (-1))).so 4 0 (zOb.sf 1 64)).so 1 0 (zOb.sA 0 (ivT 256))).so 6 0 (zOb.sf 0 1))) (t := .o 8 0) c25 15 (by decide) rfl lv25 ad25
  have n26 : NwS (fun c i => (c, i) ∈ [(0, 71), (0, 70), (0, 69), (6, 0), (8, 0), (0, 68), (2, 0), (1, 0), (0, 67), (4, 0), (0, 110), (0, 66), (0, 65), (0, 64), (5, 16), (7, 0), (0, 15), (9, 1), (0, 14), (9, 0), (0, 13), (0, 12), (0, 11), (0, 10), (0, 9), (0, 8), (11, 0)]) W26 ((((S.so 5 16 (zOb.sf 3 (-1))).so 4 0 (zOb.sf 1 64)).so 1 0 (zOb.sA 0 (ivT 256))).so 6 0 (zOb.sf 0 1)) := nsGo n25 f26 (fr.refl _ _) (fun _ h => h) (by decide +kernel)
  have X26 : Cx G F W26 := ⟨by rw [f26.1.2.2.2, f25.1.2.2.2, f24.1.2.2.2, f23.1.2.2.2, f22.1.2.2.2, f21.1.2.2.2, f20.1.2.2.2, f19.1.2.2.2, f18.1.2.2.2, f17.1.2.2.2, f16.1.2.2.2, f15.1.2.2.2, f14.1.2.2.2, f13.1.2.2.2, f12.1.2.2.2, f11.1.2.2.2, f10.1.2.2.2, f9.1.2.2.2, f8.1.2.2.2, f7.1.2.2.2, f6.1.2.2.2, f5.1.2.2.2, f4.1.2.2.2, f3.1.2.2.2, f2.1.2.2.2, f1.1.2.2.2, f0.1.2.2.2]; exact X.1, X.2⟩
  obtain ⟨W27, S9, V, zz27, ss27, g27, h27, ⟨lz27, uz27⟩, us27, f27, ad27, lv27, t27, CK9, F9, ⟨i80, i81, i82⟩, y80, y81, y82⟩ := nw_curve (G := G) (F := F) (S := ((((S.so 5 16 (zOb.sf 3 (-1))).so 4 0 (zOb.sf 1 64)).so 1 0 (zOb.sA 0 (ivT 256))).so 6 0 (zOb.sf 0 1))) (sl := ss25) X26 c26.1 (fun c i q => n26 c i (by intro q2; simp only [List.mem_cons, Prod.mk.injEq, List.not_mem_nil, or_false] at q2; omega))
  have c27 := c26.go f27 h27 (by decide)
  have n27 : NwS (fun c i => (c, i) ∈ [(0, 82), (0, 81), (0, 80), (0, 79), (0, 78), (0, 77), (0, 76), (0, 75), (0, 74), (0, 73), (0, 72), (6, 2), (6, 1), (3, 0), (0, 71), (0, 70), (0, 69), (6, 0), (8, 0), (0, 68), (2, 0), (1, 0), (0, 67), (4, 0), (0, 110), (0, 66), (0, 65), (0, 64), (5, 16), (7, 0), (0, 15), (9, 1), (0, 14), (9, 0), (0, 13), (0, 12), (0, 11), (0, 10), (0, 9), (0, 8), (11, 0)]) W27 S9 := nsGo n26 f27 (F9.mono (by decide)) (fun _ h => List.mem_cons_of_mem _ (List.mem_cons_of_mem _ (List.mem_cons_of_mem _ (List.mem_cons_of_mem _ (List.mem_cons_of_mem _ (List.mem_cons_of_mem _ (List.mem_cons_of_mem _ (List.mem_cons_of_mem _ (List.mem_cons_of_mem _ (List.mem_cons_of_mem _ (List.mem_cons_of_mem _ (List.mem_cons_of_mem _ (List.mem_cons_of_mem _ (List.mem_cons_of_mem _ (h))))))))))))))) (by decide +kernel)
  obtain ⟨W28, g28, c28, f28, r28⟩ := st_ref (S := S9) (t := .o 3 0) c27 16 (by decide) rfl lv27 ad27
  have n28 : NwS (fun c i => (c, i) ∈ [(0, 82), (0, 81), (0, 80), (0, 79), (0, 78), (0, 77), (0, 76), (0, 75), (0, 74), (0, 73), (0, 72), (6, 2), (6, 1), (3, 0), (0, 71), (0, 70), (0, 69), (6, 0), (8, 0), (0, 68), (2, 0), (1, 0), (0, 67), (4, 0), (0, 110), (0, 66), (0, 65), (0, 64), (5, 16), (7, 0), (0, 15), (9, 1), (0, 14), (9, 0), (0, 13), (0, 12), (0, 11), (0, 10), (0, 9), (0, 8), (11, 0)]) W28 S9 := nsGo n27 f28 (fr.refl _ _) (fun _ h => h) (by decide +kernel)
  obtain ⟨W29, zz29, ss29, g29, h29, ⟨lz29, uz29⟩, us29, f29, ad29, lv29, t29⟩ := nw_tok (G := G) (F := F) (S := S9) (sl := ss27)  c28.1 (n28 10 0 (by decide +kernel)).1 (n28 10 0 (by decide +kernel)).2 (n28 0 83 (by decide +kernel)).1 (n28 0 83 (by decide +kernel)).2 (n28 0 84 (by decide +kernel)).1 (n28 0 84 (by decide +kernel)).2 (n28 0 85 (by decide +kernel)).1 (n28 0 85 (by decide +kernel)).2 (n28 0 86 (by decide +kernel)).1 (n28 0 86 (by decide +kernel)).2 (n28 0 87 (by decide +kernel)).1 (n28 0 87 (by decide +kernel)).2 (n28 0 88 (by decide +kernel)).1 (n28 0 88 (by decide +kernel)).2 (n28 0 89 (by decide +kernel)).1 (n28 0 89 (by decide +kernel)).2 (n28 0 90 (by decide +kernel)).1 (n28 0 90 (by decide +kernel)).2 (n28 0 91 (by decide +kernel)).1 (n28 0 91 (by decide +kernel)).2 (n28 0 92 (by decide +kernel)).1 (n28 0 92 (by decide +kernel)).2 (n28 0 93 (by decide +kernel)).1 (n28 0 93 (by decide +kernel)).2
  have c29 := c28.go f29 h29 (by decide)
  have n29 : NwS (fun c i => (c, i) ∈ [(0, 93), (0, 92), (0, 91), (0, 90), (0, 89), (0, 88), (0, 87), (0, 86), (0, 85), (0, 84), (0, 83), (10, 0), (0, 82), (0, 81), (0, 80), (0, 79), (0, 78), (0, 77), (0, 76), (0, 75), (0, 74), (0, 73), (0, 72), (6, 2), (6, 1), (3, 0), (0, 71), (0, 70), (0, 69), (6, 0), (8, 0), (0, 68), (2, 0), (1, 0), (0, 67), (4, 0), (0, 110), (0, 66), (0, 65), (0, 64), (5, 16), (7, 0), (0, 15), (9, 1), (0, 14), (9, 0), (0, 13), (0, 12), (0, 11), (0, 10), (0, 9), (0, 8), (11, 0)]) W29 S9 := nsGo n28 f29 (fr.refl _ _) (fun _ h => List.mem_cons_of_mem _ (List.mem_cons_of_mem _ (List.mem_cons_of_mem _ (List.mem_cons_of_mem _ (List.mem_cons_of_mem _ (List.mem_cons_of_mem _ (List.mem_cons_of_mem _ (List.mem_cons_of_mem _ (List.mem_cons_of_mem _ (List.mem_cons_of_mem _ (List.mem_cons_of_mem _ (List.mem_cons_of_mem _ (h))))))))))))) (by decide +kernel)
  obtain ⟨W30, g30, c30, f30, r30⟩ := st_ref (S := S9) (t := .o 10 0) c29 17 (by decide) rfl lv29 ad29
  have n30 : NwS (fun c i => (c, i) ∈ [(0, 93), (0, 92), (0, 91), (0, 90), (0, 89), (0, 88), (0, 87), (0, 86), (0, 85), (0, 84), (0, 83), (10, 0), (0, 82), (0, 81), (0, 80), (0, 79), (0, 78), (0, 77), (0, 76), (0, 75), (0, 74), (0, 73), (0, 72), (6, 2), (6, 1), (3, 0), (0, 71), (0, 70), (0, 69), (6, 0), (8, 0), (0, 68), (2, 0), (1, 0), (0, 67), (4, 0), (0, 110), (0, 66), (0, 65), (0, 64), (5, 16), (7, 0), (0, 15), (9, 1), (0, 14), (9, 0), (0, 13), (0, 12), (0, 11), (0, 10), (0, 9), (0, 8), (11, 0)]) W30 S9 := nsGo n29 f30 (fr.refl _ _) (fun _ h => h) (by decide +kernel)
  have EN1 : ∀ j, W1.e (.a 11 0 0) j = none := en1
  have EN16 : ∀ j, W16.e (.a 11 0 10) j = none := en16
  have y30 : FX nwD W30 W30 := FX.refl _ _
  have y29 : FX nwD W29 W30 := (f30.mono (by decide +kernel)).trans y30
  have y28 : FX nwD W28 W30 := (f29.mono (by decide +kernel)).trans y29
  have y27 : FX nwD W27 W30 := (f28.mono (by decide +kernel)).trans y28
  have y26 : FX nwD W26 W30 := (f27.mono (by decide +kernel)).trans y27
  have y25 : FX nwD W25 W30 := (f26.mono (by decide +kernel)).trans y26
  have y24 : FX nwD W24 W30 := (f25.mono (by decide +kernel)).trans y25
  have y23 : FX nwD W23 W30 := (f24.mono (by decide +kernel)).trans y24
  have y22 : FX nwD W22 W30 := (f23.mono (by decide +kernel)).trans y23
  have y21 : FX nwD W21 W30 := (f22.mono (by decide +kernel)).trans y22
  have y20 : FX nwD W20 W30 := (f21.mono (by decide +kernel)).trans y21
  have y19 : FX nwD W19 W30 := (f20.mono (by decide +kernel)).trans y20
  have y18 : FX nwD W18 W30 := (f19.mono (by decide +kernel)).trans y19
  have y17 : FX nwD W17 W30 := (f18.mono (by decide +kernel)).trans y18
  have y16 : FX nwD W16 W30 := (f17.mono (by decide +kernel)).trans y17
  have y15 : FX nwD W15 W30 := (f16.mono (by decide +kernel)).trans y16
  have y14 : FX nwD W14 W30 := (f15.mono (by decide +kernel)).trans y15
  have y13 : FX nwD W13 W30 := (f14.mono (by decide +kernel)).trans y14
  have y12 : FX nwD W12 W30 := (f13.mono (by decide +kernel)).trans y13
  have y11 : FX nwD W11 W30 := (f12.mono (by decide +kernel)).trans y12
  have y10 : FX nwD W10 W30 := (f11.mono (by decide +kernel)).trans y11
  have y9 : FX nwD W9 W30 := (f10.mono (by decide +kernel)).trans y10
  have y8 : FX nwD W8 W30 := (f9.mono (by decide +kernel)).trans y9
  have y7 : FX nwD W7 W30 := (f8.mono (by decide +kernel)).trans y8
  have y6 : FX nwD W6 W30 := (f7.mono (by decide +kernel)).trans y7
  have y5 : FX nwD W5 W30 := (f6.mono (by decide +kernel)).trans y6
  have y4 : FX nwD W4 W30 := (f5.mono (by decide +kernel)).trans y5
  have y3 : FX nwD W3 W30 := (f4.mono (by decide +kernel)).trans y4
  have y2 : FX nwD W2 W30 := (f3.mono (by decide +kernel)).trans y3
  have y1 : FX nwD W1 W30 := (f2.mono (by decide +kernel)).trans y2
  have y0 : FX nwD W0 W30 := (f1.mono (by decide +kernel)).trans y1
  have p : P_X11_init G F z (mem W0 S) (z + 1) (sl + 18) = B_X11_init_236 G F F z 0 (mem W30 S9) (zz29) (ss29) := by
    unfold P_X11_init
    refine (g1 _ _).trans ?_
    refine (g2 _ _).trans ?_
    refine (g3 _ _).trans ?_
    refine (g4 _ _).trans ?_
    refine (g5 _ _).trans ?_
    refine (g6 _ _).trans ?_
    refine (g7 _ _).trans ?_
    refine (g8 _ _).trans ?_
    rw [g9, bO_s]
    refine (g10 _ _).trans ?_
    rw [g11, bO_s]
    refine (g12 _ _).trans ?_
    rw [w3, bO_s]
    rw [w8, bO_s]
    have p7 : P_X7_init G F zz10 (W12.ad (.o 0 10)) (W12.ad (.o 9 1)) (mem W12 S) (zz10 + 1) (ss10 + 9) = some (mem W14 S, zz10 + 1, ss10 + 9) := by
      unfold P_X7_init
      rw [g13, bO_s, g14, bO_s]
    rw [p7, bA_s]
    rw [g15, bO_s]
    refine (g16 _ _).trans ?_
    refine (g17 _ _).trans ?_
    rw [g18, bO_s]
    refine (g19 _ _).trans ?_
    rw [g20, bO_s]
    refine (g21 _ _).trans ?_
    rw [g22, bO_s]
    rw [bO_s, k12, bO_s, k13, bO_s]
    refine (g23 _ _).trans ?_
    rw [g24, bO_s]
    rw [bO_s, k12r, bO_s]
    refine (g25 _ _).trans ?_
    rw [g26, bO_s]
    refine (g27 _ _).trans ?_
    rw [g28, bO_s]
    refine (g29 _ _).trans ?_
    rw [g30, bO_s]
  have e8 : ((8 : Int32)).toNatClampNeg = 8 := rfl
  have e16 : ((16 : Int32)).toNatClampNeg = 16 := rfl
  have s9 : ∀ c i, (c, i) ∉ [(3, 0), (6, 1), (6, 2), (0, 72), (0, 73), (0, 74), (0, 75), (0, 80), (0, 81), (0, 82)] → S9 c i = ((((S.so 5 16 (zOb.sf 3 (-1))).so 4 0 (zOb.sf 1 64)).so 1 0 (zOb.sA 0 (ivT 256))).so 6 0 (zOb.sf 0 1)) c i := F9
  refine ⟨W30, S9, V, zz29, ss29, fun β K => by rw [g0, p], c30.1, ⟨by omega, by omega⟩, by omega, f0.1.trans y0.1, c30.2.2, c30.2.1.1, ⟨(y1.1.ha a1), (y16.1.ha a16), (fun j => (y1.1.2.2.1.2 _ j a1.1).trans (EN1 j)), (fun j => (y16.1.2.2.1.2 _ j a16.1).trans (EN16 j)), ⟨y2.1.rr r2, y2.1.b b2⟩, ⟨y3.1.rr r3, y3.1.b b3⟩, ⟨y4.1.rr r4, y4.1.b b4⟩, ⟨y5.1.rr r5, y5.1.b b5⟩, ⟨y6.1.rr r6, y6.1.b b6⟩, ⟨y7.1.rr r7, y7.1.b b7⟩, ⟨y9.1.rr r9, y8.1.p.tx t8⟩, ⟨y11.1.rr r11, y10.1.p.tx t10⟩, ⟨y15.1.rr r15, y14.1.lv k14.2.1.1⟩, ⟨y18.1.rr r18, y17.1.p.ko t17.1, y17.1.rr t17.2.1, y17.1.b t17.2.2⟩, ⟨y20.1.rr r20, y19.1.p.d t19⟩, ⟨y22.1.rr r22, y21.1.p.ci t21⟩, ⟨y24.1.rr r24, y23.1.p.co t23⟩, ⟨y26.1.rr r26, y25.1.p.rs t25⟩, ⟨y28.1.rr r28, y27.1.p.cu t27⟩, ⟨y30.1.rr r30, y29.1.p.tk t29⟩, ⟨y27.1.b i80, y27.1.b i81, y27.1.b i82⟩⟩, n30, CK9, ?_, ?_, ?_, ?_, ?_, y80, y81, y82⟩
  · intro x
    rw [s9 1 0 (by decide), so_ne (by decide), so_eq, sA_a]
    exact ivT_ib x
  · rw [s9 5 16 (by decide), so_ne (by decide), so_ne (by decide), so_ne (by decide), so_eq]
  · intro i hi
    rw [s9 0 i (fun q => hi (by simp only [List.mem_cons, Prod.mk.injEq, List.not_mem_nil, or_false] at q ⊢; omega)), so_ne (by omega), so_ne (by omega), so_ne (by omega), so_ne (by omega)]
    exact (hn 0 i).2
  · rw [s9 9 0 (by decide), so_ne (by decide), so_ne (by decide), so_ne (by decide), so_ne (by decide)]
    exact (hn 9 0).2
  · rw [s9 9 1 (by decide), so_ne (by decide), so_ne (by decide), so_ne (by decide), so_ne (by decide)]
    exact (hn 9 1).2
end NTO
