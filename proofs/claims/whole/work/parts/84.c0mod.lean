/-! NEW OBJECTS: the model, but for its tables -/
def MC (W : WR) (z A : Nat) (ks as : List Nat) : Prop := CN W z 13 0 A ks ∧ ∀ k ∈ as, hasA W 13 0 k (mLen k)
theorem mLen_in : ∀ k, 0 < mLen k → k < 134 := by
  intro k h
  apply Classical.byContradiction
  intro q
  have : mLen k = 0 := by
    unfold mLen
    split <;> first | omega | rfl
  omega
section NMO
variable {W : WR} {G : mG} {F : Nat} {S : ST} {z A : Nat} {ks as : List Nat}
theorem st_mA {kk : Nat} (h : MC W z A ks as) (k n : Nat) (hk : k ∉ ks) (q : (kdA 13)[k]? = some kk) (qf : (kdF 13)[k]? = some 2) (hn : n ≤ 1000000) (hm : mLen k = n) (hz : S 13 0 = zOb) : ∃ W', (∀ (β : Type) (K : mM → Option β), (bO (nwA (mem W S) z kk (Int32.ofNat n)) fun M => bO (pfv M A 13 k (.ref z)) K) = K (mem W' S)) ∧ MC W' (z + 1) A (k :: ks) (k :: as) ∧ FX [(13, 0)] W W' := by
  obtain ⟨W1, g, c, f, a⟩ := st_arr (S := S) h.1 k n hk q qf hn (by
    unfold zAr
    rw [hz]
    split
    · rfl
    · split
      · rfl
      · trivial)
  refine ⟨W1, g, ⟨c, fun k' hk' => ?_⟩, f⟩
  rcases List.mem_cons.mp hk' with e | e
  · rw [e, hm]
    exact a
  · exact f.1.ha (h.2 k' e)
/-- one of the model's Mods -/
theorem st_mO (h : MC W z A ks as) (k i : Nat) {sl : Nat} (hk : k ∉ ks) (qf : (kdF 13)[k]? = some 2) (hv : frS W 12 i) (hz : S 12 i = zOb) : ∃ W' z' sl', (∀ (β : Type) (K : mM → Nat → Nat → Option β), (bO (some (nwO (mem W S) z 12 dfX12)) fun M => bA (P_X12_init G F z M (z + 1) (sl + 9)) fun M1 z1 k1 => bO (pfv M1 A 13 k (.ref z)) fun M2 => K M2 z1 k1) = K (mem W' S) z' sl') ∧ MC W' z' A (k :: ks) as ∧ (z ≤ z' ∧ z' ≤ z + 8) ∧ sl' ≤ sl + 290 ∧ FX [(13, 0), (12, i)] W W' ∧ W'.r 13 0 k = some (.o 12 i) ∧ isMd W' i := by
  obtain ⟨W1, z1, s1, g1, h1, b1, b2, f1, ad, lv, t1⟩ := nw_mod (G := G) (F := F) (S := S) (sl := sl) h.1.1 hv hz
  have c1 := h.1.go f1 h1 (by simp)
  obtain ⟨W2, g2, c2, f2, r2⟩ := st_ref (S := S) (t := .o 12 i) c1 k hk qf lv ad
  have x : FX [(13, 0), (12, i)] W W2 := (f1.mono (by simp)).trans (f2.mono (by simp))
  refine ⟨W2, z1, s1, fun β K => ?_, ⟨c2, fun k' hk' => x.1.ha (h.2 k' hk')⟩, b1, b2, x, r2, f2.1.md t1⟩
  rw [g1, g2]
  rfl
theorem st_m0 (hf : WF W z) (hv : frS W 13 0) (hz : S 13 0 = zOb) : ∃ W', nwO (mem W S) z 13 dfX13 = mem W' S ∧ MC W' (z + 1) z [] [] ∧ FX [(13, 0)] W W' := by
  obtain ⟨W1, g1, c1, f1⟩ := st_new (S := S) hf hv hz
  exact ⟨W1, g1, ⟨c1, fun k hk => absurd hk (by simp)⟩, f1⟩

def mS0 {β : Type} (A : Nat) (M : mM) (z : Nat) (K : mM → Option β) : Option β := bO (nwA M (z) 1 (8192 : Int32)) fun M0a => bO (pfv M0a A 13 0 (.ref (z))) fun M0b => bO (nwA M0b (z + 1) 1 (65536 : Int32)) fun M1a => bO (pfv M1a A 13 2 (.ref (z + 1))) fun M1b => bO (nwA M1b (z + 1 + 1) 0 (8 : Int32)) fun M2a => bO (pfv M2a A 13 3 (.ref (z + 1 + 1))) fun M2b => bO (nwA M2b (z + 1 + 1 + 1) 1 (8192 : Int32)) fun M3a => bO (pfv M3a A 13 4 (.ref (z + 1 + 1 + 1))) fun M3b => bO (nwA M3b (z + 1 + 1 + 1 + 1) 0 (1200 : Int32)) fun M4a => bO (pfv M4a A 13 6 (.ref (z + 1 + 1 + 1 + 1))) fun M4b => bO (nwA M4b (z + 1 + 1 + 1 + 1 + 1) 0 (1200 : Int32)) fun M5a => bO (pfv M5a A 13 7 (.ref (z + 1 + 1 + 1 + 1 + 1))) fun M5b => bO (nwA M5b (z + 1 + 1 + 1 + 1 + 1 + 1) 0 (1200 : Int32)) fun M6a => bO (pfv M6a A 13 8 (.ref (z + 1 + 1 + 1 + 1 + 1 + 1))) fun M6b => bO (nwA M6b (z + 1 + 1 + 1 + 1 + 1 + 1 + 1) 0 (1200 : Int32)) fun M7a => bO (pfv M7a A 13 9 (.ref (z + 1 + 1 + 1 + 1 + 1 + 1 + 1))) fun M7b => bO (nwA M7b (z + 1 + 1 + 1 + 1 + 1 + 1 + 1 + 1) 0 (1200 : Int32)) fun M8a => bO (pfv M8a A 13 10 (.ref (z + 1 + 1 + 1 + 1 + 1 + 1 + 1 + 1))) fun M8b => bO (nwA M8b (z + 1 + 1 + 1 + 1 + 1 + 1 + 1 + 1 + 1) 0 (1200 : Int32)) fun M9a => bO (pfv M9a A 13 11 (.ref (z + 1 + 1 + 1 + 1 + 1 + 1 + 1 + 1 + 1))) fun M9b => bO (nwA M9b (z + 1 + 1 + 1 + 1 + 1 + 1 + 1 + 1 + 1 + 1) 0 (1200 : Int32)) fun M10a => bO (pfv M10a A 13 12 (.ref (z + 1 + 1 + 1 + 1 + 1 + 1 + 1 + 1 + 1 + 1))) fun M10b => bO (nwA M10b (z + 1 + 1 + 1 + 1 + 1 + 1 + 1 + 1 + 1 + 1 + 1) 0 (1200 : Int32)) fun M11a => bO (pfv M11a A 13 13 (.ref (z + 1 + 1 + 1 + 1 + 1 + 1 + 1 + 1 + 1 + 1 + 1))) fun M11b => K M11b
theorem mS0_m (h : MC W z A [] []) (hz : S 13 0 = zOb) : ∃ W', (∀ (β : Type) (K : mM → Option β), mS0 A (mem W S) z K = K (mem W' S)) ∧ MC W' (z + 1 + 1 + 1 + 1 + 1 + 1 + 1 + 1 + 1 + 1 + 1 + 1) A [13, 12, 11, 10, 9, 8, 7, 6, 4, 3, 2, 0] [13, 12, 11, 10, 9, 8, 7, 6, 4, 3, 2, 0] ∧ FX [(13, 0)] W W' := by
  obtain ⟨W1, g1, c1, f1⟩ := st_mA (S := S) (kk := 1) h 0 8192 (by decide) rfl rfl (by decide) rfl hz
  have x1 := f1
  obtain ⟨W2, g2, c2, f2⟩ := st_mA (S := S) (kk := 1) c1 2 65536 (by decide) rfl rfl (by decide) rfl hz
  have x2 := x1.trans f2
  obtain ⟨W3, g3, c3, f3⟩ := st_mA (S := S) (kk := 0) c2 3 8 (by decide) rfl rfl (by decide) rfl hz
  have x3 := x2.trans f3
  obtain ⟨W4, g4, c4, f4⟩ := st_mA (S := S) (kk := 1) c3 4 8192 (by decide) rfl rfl (by decide) rfl hz
  have x4 := x3.trans f4
  obtain ⟨W5, g5, c5, f5⟩ := st_mA (S := S) (kk := 0) c4 6 1200 (by decide) rfl rfl (by decide) rfl hz
  have x5 := x4.trans f5
  obtain ⟨W6, g6, c6, f6⟩ := st_mA (S := S) (kk := 0) c5 7 1200 (by decide) rfl rfl (by decide) rfl hz
  have x6 := x5.trans f6
  obtain ⟨W7, g7, c7, f7⟩ := st_mA (S := S) (kk := 0) c6 8 1200 (by decide) rfl rfl (by decide) rfl hz
  have x7 := x6.trans f7
  obtain ⟨W8, g8, c8, f8⟩ := st_mA (S := S) (kk := 0) c7 9 1200 (by decide) rfl rfl (by decide) rfl hz
  have x8 := x7.trans f8
  obtain ⟨W9, g9, c9, f9⟩ := st_mA (S := S) (kk := 0) c8 10 1200 (by decide) rfl rfl (by decide) rfl hz
  have x9 := x8.trans f9
  obtain ⟨W10, g10, c10, f10⟩ := st_mA (S := S) (kk := 0) c9 11 1200 (by decide) rfl rfl (by decide) rfl hz
  have x10 := x9.trans f10
  obtain ⟨W11, g11, c11, f11⟩ := st_mA (S := S) (kk := 0) c10 12 1200 (by decide) rfl rfl (by decide) rfl hz
  have x11 := x10.trans f11
  obtain ⟨W12, g12, c12, f12⟩ := st_mA (S := S) (kk := 0) c11 13 1200 (by decide) rfl rfl (by decide) rfl hz
  have x12 := x11.trans f12
  refine ⟨W12, fun β K => ?_, c12, x12⟩
  unfold mS0
  refine (g1 _ _).trans ?_
  refine (g2 _ _).trans ?_
  refine (g3 _ _).trans ?_
  refine (g4 _ _).trans ?_
  refine (g5 _ _).trans ?_
  refine (g6 _ _).trans ?_
  refine (g7 _ _).trans ?_
  refine (g8 _ _).trans ?_
  refine (g9 _ _).trans ?_
  refine (g10 _ _).trans ?_
  refine (g11 _ _).trans ?_
  exact g12 _ _
def mS1 {β : Type} (A : Nat) (M : mM) (z : Nat) (K : mM → Option β) : Option β := bO (nwA M (z) 0 (1200 : Int32)) fun M0a => bO (pfv M0a A 13 14 (.ref (z))) fun M0b => bO (nwA M0b (z + 1) 1 (16400 : Int32)) fun M1a => bO (pfv M1a A 13 15 (.ref (z + 1))) fun M1b => bO (nwA M1b (z + 1 + 1) 0 (2 : Int32)) fun M2a => bO (pfv M2a A 13 16 (.ref (z + 1 + 1))) fun M2b => bO (nwA M2b (z + 1 + 1 + 1) 1 (8300 : Int32)) fun M3a => bO (pfv M3a A 13 27 (.ref (z + 1 + 1 + 1))) fun M3b => bO (nwA M3b (z + 1 + 1 + 1 + 1) 1 (8200 : Int32)) fun M4a => bO (pfv M4a A 13 30 (.ref (z + 1 + 1 + 1 + 1))) fun M4b => bO (nwA M4b (z + 1 + 1 + 1 + 1 + 1) 0 (64 : Int32)) fun M5a => bO (pfv M5a A 13 31 (.ref (z + 1 + 1 + 1 + 1 + 1))) fun M5b => bO (nwA M5b (z + 1 + 1 + 1 + 1 + 1 + 1) 0 (8 : Int32)) fun M6a => bO (pfv M6a A 13 32 (.ref (z + 1 + 1 + 1 + 1 + 1 + 1))) fun M6b => bO (nwA M6b (z + 1 + 1 + 1 + 1 + 1 + 1 + 1) 2 (80 : Int32)) fun M7a => bO (pfv M7a A 13 33 (.ref (z + 1 + 1 + 1 + 1 + 1 + 1 + 1))) fun M7b => bO (nwA M7b (z + 1 + 1 + 1 + 1 + 1 + 1 + 1 + 1) 2 (8 : Int32)) fun M8a => bO (pfv M8a A 13 34 (.ref (z + 1 + 1 + 1 + 1 + 1 + 1 + 1 + 1))) fun M8b => bO (nwA M8b (z + 1 + 1 + 1 + 1 + 1 + 1 + 1 + 1 + 1) 1 (64 : Int32)) fun M9a => bO (pfv M9a A 13 35 (.ref (z + 1 + 1 + 1 + 1 + 1 + 1 + 1 + 1 + 1))) fun M9b => bO (nwA M9b (z + 1 + 1 + 1 + 1 + 1 + 1 + 1 + 1 + 1 + 1) 1 (33100 : Int32)) fun M10a => bO (pfv M10a A 13 36 (.ref (z + 1 + 1 + 1 + 1 + 1 + 1 + 1 + 1 + 1 + 1))) fun M10b => bO (nwA M10b (z + 1 + 1 + 1 + 1 + 1 + 1 + 1 + 1 + 1 + 1 + 1) 1 (25000 : Int32)) fun M11a => bO (pfv M11a A 13 38 (.ref (z + 1 + 1 + 1 + 1 + 1 + 1 + 1 + 1 + 1 + 1 + 1))) fun M11b => K M11b
theorem mS1_m (h : MC W z A [13, 12, 11, 10, 9, 8, 7, 6, 4, 3, 2, 0] [13, 12, 11, 10, 9, 8, 7, 6, 4, 3, 2, 0]) (hz : S 13 0 = zOb) : ∃ W', (∀ (β : Type) (K : mM → Option β), mS1 A (mem W S) z K = K (mem W' S)) ∧ MC W' (z + 1 + 1 + 1 + 1 + 1 + 1 + 1 + 1 + 1 + 1 + 1 + 1) A [38, 36, 35, 34, 33, 32, 31, 30, 27, 16, 15, 14, 13, 12, 11, 10, 9, 8, 7, 6, 4, 3, 2, 0] [38, 36, 35, 34, 33, 32, 31, 30, 27, 16, 15, 14, 13, 12, 11, 10, 9, 8, 7, 6, 4, 3, 2, 0] ∧ FX [(13, 0)] W W' := by
  obtain ⟨W1, g1, c1, f1⟩ := st_mA (S := S) (kk := 0) h 14 1200 (by decide) rfl rfl (by decide) rfl hz
  have x1 := f1
  obtain ⟨W2, g2, c2, f2⟩ := st_mA (S := S) (kk := 1) c1 15 16400 (by decide) rfl rfl (by decide) rfl hz
  have x2 := x1.trans f2
  obtain ⟨W3, g3, c3, f3⟩ := st_mA (S := S) (kk := 0) c2 16 2 (by decide) rfl rfl (by decide) rfl hz
  have x3 := x2.trans f3
  obtain ⟨W4, g4, c4, f4⟩ := st_mA (S := S) (kk := 1) c3 27 8300 (by decide) rfl rfl (by decide) rfl hz
  have x4 := x3.trans f4
  obtain ⟨W5, g5, c5, f5⟩ := st_mA (S := S) (kk := 1) c4 30 8200 (by decide) rfl rfl (by decide) rfl hz
  have x5 := x4.trans f5
  obtain ⟨W6, g6, c6, f6⟩ := st_mA (S := S) (kk := 0) c5 31 64 (by decide) rfl rfl (by decide) rfl hz
  have x6 := x5.trans f6
  obtain ⟨W7, g7, c7, f7⟩ := st_mA (S := S) (kk := 0) c6 32 8 (by decide) rfl rfl (by decide) rfl hz
  have x7 := x6.trans f7
  obtain ⟨W8, g8, c8, f8⟩ := st_mA (S := S) (kk := 2) c7 33 80 (by decide) rfl rfl (by decide) rfl hz
  have x8 := x7.trans f8
  obtain ⟨W9, g9, c9, f9⟩ := st_mA (S := S) (kk := 2) c8 34 8 (by decide) rfl rfl (by decide) rfl hz
  have x9 := x8.trans f9
  obtain ⟨W10, g10, c10, f10⟩ := st_mA (S := S) (kk := 1) c9 35 64 (by decide) rfl rfl (by decide) rfl hz
  have x10 := x9.trans f10
  obtain ⟨W11, g11, c11, f11⟩ := st_mA (S := S) (kk := 1) c10 36 33100 (by decide) rfl rfl (by decide) rfl hz
  have x11 := x10.trans f11
  obtain ⟨W12, g12, c12, f12⟩ := st_mA (S := S) (kk := 1) c11 38 25000 (by decide) rfl rfl (by decide) rfl hz
  have x12 := x11.trans f12
  refine ⟨W12, fun β K => ?_, c12, x12⟩
  unfold mS1
  refine (g1 _ _).trans ?_
  refine (g2 _ _).trans ?_
  refine (g3 _ _).trans ?_
  refine (g4 _ _).trans ?_
  refine (g5 _ _).trans ?_
  refine (g6 _ _).trans ?_
  refine (g7 _ _).trans ?_
  refine (g8 _ _).trans ?_
  refine (g9 _ _).trans ?_
  refine (g10 _ _).trans ?_
  refine (g11 _ _).trans ?_
  exact g12 _ _
def mS2 {β : Type} (A : Nat) (M : mM) (z : Nat) (K : mM → Option β) : Option β := bO (nwA M (z) 1 (128 : Int32)) fun M0a => bO (pfv M0a A 13 40 (.ref (z))) fun M0b => bO (nwA M0b (z + 1) 0 (256 : Int32)) fun M1a => bO (pfv M1a A 13 41 (.ref (z + 1))) fun M1b => bO (nwA M1b (z + 1 + 1) 0 (256 : Int32)) fun M2a => bO (pfv M2a A 13 42 (.ref (z + 1 + 1))) fun M2b => bO (nwA M2b (z + 1 + 1 + 1) 0 (240 : Int32)) fun M3a => bO (pfv M3a A 13 43 (.ref (z + 1 + 1 + 1))) fun M3b => bO (nwA M3b (z + 1 + 1 + 1 + 1) 0 (16 : Int32)) fun M4a => bO (pfv M4a A 13 45 (.ref (z + 1 + 1 + 1 + 1))) fun M4b => bO (nwA M4b (z + 1 + 1 + 1 + 1 + 1) 0 (16 : Int32)) fun M5a => bO (pfv M5a A 13 46 (.ref (z + 1 + 1 + 1 + 1 + 1))) fun M5b => bO (nwA M5b (z + 1 + 1 + 1 + 1 + 1 + 1) 1 (16 : Int32)) fun M6a => bO (pfv M6a A 13 47 (.ref (z + 1 + 1 + 1 + 1 + 1 + 1))) fun M6b => bO (nwA M6b (z + 1 + 1 + 1 + 1 + 1 + 1 + 1) 1 (80 : Int32)) fun M7a => bO (pfv M7a A 13 48 (.ref (z + 1 + 1 + 1 + 1 + 1 + 1 + 1))) fun M7b => bO (nwA M7b (z + 1 + 1 + 1 + 1 + 1 + 1 + 1 + 1) 1 (8300 : Int32)) fun M8a => bO (pfv M8a A 13 49 (.ref (z + 1 + 1 + 1 + 1 + 1 + 1 + 1 + 1))) fun M8b => bO (nwA M8b (z + 1 + 1 + 1 + 1 + 1 + 1 + 1 + 1 + 1) 1 (64 : Int32)) fun M9a => bO (pfv M9a A 13 51 (.ref (z + 1 + 1 + 1 + 1 + 1 + 1 + 1 + 1 + 1))) fun M9b => bO (nwA M9b (z + 1 + 1 + 1 + 1 + 1 + 1 + 1 + 1 + 1 + 1) 1 (16 : Int32)) fun M10a => bO (pfv M10a A 13 52 (.ref (z + 1 + 1 + 1 + 1 + 1 + 1 + 1 + 1 + 1 + 1))) fun M10b => K M10b
theorem mS2_m (h : MC W z A [38, 36, 35, 34, 33, 32, 31, 30, 27, 16, 15, 14, 13, 12, 11, 10, 9, 8, 7, 6, 4, 3, 2, 0] [38, 36, 35, 34, 33, 32, 31, 30, 27, 16, 15, 14, 13, 12, 11, 10, 9, 8, 7, 6, 4, 3, 2, 0]) (hz : S 13 0 = zOb) : ∃ W', (∀ (β : Type) (K : mM → Option β), mS2 A (mem W S) z K = K (mem W' S)) ∧ MC W' (z + 1 + 1 + 1 + 1 + 1 + 1 + 1 + 1 + 1 + 1 + 1) A [52, 51, 49, 48, 47, 46, 45, 43, 42, 41, 40, 38, 36, 35, 34, 33, 32, 31, 30, 27, 16, 15, 14, 13, 12, 11, 10, 9, 8, 7, 6, 4, 3, 2, 0] [52, 51, 49, 48, 47, 46, 45, 43, 42, 41, 40, 38, 36, 35, 34, 33, 32, 31, 30, 27, 16, 15, 14, 13, 12, 11, 10, 9, 8, 7, 6, 4, 3, 2, 0] ∧ FX [(13, 0)] W W' := by
  obtain ⟨W1, g1, c1, f1⟩ := st_mA (S := S) (kk := 1) h 40 128 (by decide) rfl rfl (by decide) rfl hz
  have x1 := f1
  obtain ⟨W2, g2, c2, f2⟩ := st_mA (S := S) (kk := 0) c1 41 256 (by decide) rfl rfl (by decide) rfl hz
  have x2 := x1.trans f2
  obtain ⟨W3, g3, c3, f3⟩ := st_mA (S := S) (kk := 0) c2 42 256 (by decide) rfl rfl (by decide) rfl hz
  have x3 := x2.trans f3
  obtain ⟨W4, g4, c4, f4⟩ := st_mA (S := S) (kk := 0) c3 43 240 (by decide) rfl rfl (by decide) rfl hz
  have x4 := x3.trans f4
  obtain ⟨W5, g5, c5, f5⟩ := st_mA (S := S) (kk := 0) c4 45 16 (by decide) rfl rfl (by decide) rfl hz
  have x5 := x4.trans f5
  obtain ⟨W6, g6, c6, f6⟩ := st_mA (S := S) (kk := 0) c5 46 16 (by decide) rfl rfl (by decide) rfl hz
  have x6 := x5.trans f6
  obtain ⟨W7, g7, c7, f7⟩ := st_mA (S := S) (kk := 1) c6 47 16 (by decide) rfl rfl (by decide) rfl hz
  have x7 := x6.trans f7
  obtain ⟨W8, g8, c8, f8⟩ := st_mA (S := S) (kk := 1) c7 48 80 (by decide) rfl rfl (by decide) rfl hz
  have x8 := x7.trans f8
  obtain ⟨W9, g9, c9, f9⟩ := st_mA (S := S) (kk := 1) c8 49 8300 (by decide) rfl rfl (by decide) rfl hz
  have x9 := x8.trans f9
  obtain ⟨W10, g10, c10, f10⟩ := st_mA (S := S) (kk := 1) c9 51 64 (by decide) rfl rfl (by decide) rfl hz
  have x10 := x9.trans f10
  obtain ⟨W11, g11, c11, f11⟩ := st_mA (S := S) (kk := 1) c10 52 16 (by decide) rfl rfl (by decide) rfl hz
  have x11 := x10.trans f11
  refine ⟨W11, fun β K => ?_, c11, x11⟩
  unfold mS2
  refine (g1 _ _).trans ?_
  refine (g2 _ _).trans ?_
  refine (g3 _ _).trans ?_
  refine (g4 _ _).trans ?_
  refine (g5 _ _).trans ?_
  refine (g6 _ _).trans ?_
  refine (g7 _ _).trans ?_
  refine (g8 _ _).trans ?_
  refine (g9 _ _).trans ?_
  refine (g10 _ _).trans ?_
  exact g11 _ _
def mS3 {β : Type} (G : mG) (F A : Nat) (M : mM) (z sl : Nat) (K : mM → Nat → Nat → Option β) : Option β := bO (some (nwO M z 12 dfX12)) fun M1 => bA (P_X12_init G F z M1 (z + 1) (sl + 9)) fun M2 z2 k2 => bO (pfv M2 A 13 57 (.ref z)) fun M3 => bO (some (nwO M3 z2 12 dfX12)) fun M4 => bA (P_X12_init G F z2 M4 (z2 + 1) (k2 + 9)) fun M5 z5 k5 => bO (pfv M5 A 13 58 (.ref z2)) fun M6 => bO (some (nwO M6 z5 12 dfX12)) fun M7 => bA (P_X12_init G F z5 M7 (z5 + 1) (k5 + 9)) fun M8 z8 k8 => bO (pfv M8 A 13 59 (.ref z5)) fun M9 => K M9 z8 k8
theorem mS3_m {sl : Nat} (h : MC W z A [52, 51, 49, 48, 47, 46, 45, 43, 42, 41, 40, 38, 36, 35, 34, 33, 32, 31, 30, 27, 16, 15, 14, 13, 12, 11, 10, 9, 8, 7, 6, 4, 3, 2, 0] [52, 51, 49, 48, 47, 46, 45, 43, 42, 41, 40, 38, 36, 35, 34, 33, 32, 31, 30, 27, 16, 15, 14, 13, 12, 11, 10, 9, 8, 7, 6, 4, 3, 2, 0]) (v0 : frS W 12 0) (v1 : frS W 12 1) (v2 : frS W 12 2) (o0 : S 12 0 = zOb) (o1 : S 12 1 = zOb) (o2 : S 12 2 = zOb) : ∃ W' z' sl', (∀ (β : Type) (K : mM → Nat → Nat → Option β), mS3 G F A (mem W S) z sl K = K (mem W' S) z' sl') ∧ MC W' z' A [59, 58, 57, 52, 51, 49, 48, 47, 46, 45, 43, 42, 41, 40, 38, 36, 35, 34, 33, 32, 31, 30, 27, 16, 15, 14, 13, 12, 11, 10, 9, 8, 7, 6, 4, 3, 2, 0] [52, 51, 49, 48, 47, 46, 45, 43, 42, 41, 40, 38, 36, 35, 34, 33, 32, 31, 30, 27, 16, 15, 14, 13, 12, 11, 10, 9, 8, 7, 6, 4, 3, 2, 0] ∧ (z ≤ z' ∧ z' ≤ z + 24) ∧ sl' ≤ sl + 870 ∧ FX [(13, 0), (12, 0), (12, 1), (12, 2)] W W' ∧ isMm W' := by
  obtain ⟨W1, z1, s1, g1, c1, b1, e1, f1, r1, m1⟩ := st_mO (G := G) (F := F) (S := S) (sl := sl) h 57 0 (by decide) rfl v0 o0
  obtain ⟨W2, z2, s2, g2, c2, b2, e2, f2, r2, m2⟩ := st_mO (G := G) (F := F) (S := S) (sl := s1) c1 58 1 (by decide) rfl ((f1.2 12 1 (by decide)).1 v1) o1
  obtain ⟨W3, z3, s3, g3, c3, b3, e3, f3, r3, m3⟩ := st_mO (G := G) (F := F) (S := S) (sl := s2) c2 59 2 (by decide) rfl ((f2.2 12 2 (by decide)).1 ((f1.2 12 2 (by decide)).1 v2)) o2
  refine ⟨W3, z3, s3, fun β K => ?_, c3, ⟨by omega, by omega⟩, by omega, ((f1.mono (by decide)).trans (f2.mono (by decide))).trans (f3.mono (by decide)), f3.1.rr (f2.1.rr r1), f3.1.rr r2, r3, f3.1.md (f2.1.md m1), f3.1.md m2, m3⟩
  unfold mS3
  refine (g1 _ _).trans ?_
  refine (g2 _ _).trans ?_
  exact g3 _ _
def mS4 {β : Type} (A : Nat) (M : mM) (z : Nat) (K : mM → Option β) : Option β := bO (nwA M (z) 0 (34 : Int32)) fun M0a => bO (pfv M0a A 13 60 (.ref (z))) fun M0b => bO (nwA M0b (z + 1) 0 (34 : Int32)) fun M1a => bO (pfv M1a A 13 61 (.ref (z + 1))) fun M1b => bO (nwA M1b (z + 1 + 1) 1 (128 : Int32)) fun M2a => bO (pfv M2a A 13 62 (.ref (z + 1 + 1))) fun M2b => bO (nwA M2b (z + 1 + 1 + 1) 1 (32 : Int32)) fun M3a => bO (pfv M3a A 13 63 (.ref (z + 1 + 1 + 1))) fun M3b => bO (nwA M3b (z + 1 + 1 + 1 + 1) 1 (32 : Int32)) fun M4a => bO (pfv M4a A 13 64 (.ref (z + 1 + 1 + 1 + 1))) fun M4b => bO (nwA M4b (z + 1 + 1 + 1 + 1 + 1) 1 (64 : Int32)) fun M5a => bO (pfv M5a A 13 65 (.ref (z + 1 + 1 + 1 + 1 + 1))) fun M5b => bO (nwA M5b (z + 1 + 1 + 1 + 1 + 1 + 1) 0 (34 : Int32)) fun M6a => bO (pfv M6a A 13 66 (.ref (z + 1 + 1 + 1 + 1 + 1 + 1))) fun M6b => bO (nwA M6b (z + 1 + 1 + 1 + 1 + 1 + 1 + 1) 1 (32 : Int32)) fun M7a => bO (pfv M7a A 13 67 (.ref (z + 1 + 1 + 1 + 1 + 1 + 1 + 1))) fun M7b => bO (nwA M7b (z + 1 + 1 + 1 + 1 + 1 + 1 + 1 + 1) 0 (34 : Int32)) fun M8a => bO (pfv M8a A 13 68 (.ref (z + 1 + 1 + 1 + 1 + 1 + 1 + 1 + 1))) fun M8b => bO (nwA M8b (z + 1 + 1 + 1 + 1 + 1 + 1 + 1 + 1 + 1) 0 (34 : Int32)) fun M9a => bO (pfv M9a A 13 69 (.ref (z + 1 + 1 + 1 + 1 + 1 + 1 + 1 + 1 + 1))) fun M9b => bO (nwA M9b (z + 1 + 1 + 1 + 1 + 1 + 1 + 1 + 1 + 1 + 1) 0 (34 : Int32)) fun M10a => bO (pfv M10a A 13 70 (.ref (z + 1 + 1 + 1 + 1 + 1 + 1 + 1 + 1 + 1 + 1))) fun M10b => bO (nwA M10b (z + 1 + 1 + 1 + 1 + 1 + 1 + 1 + 1 + 1 + 1 + 1) 0 (34 : Int32)) fun M11a => bO (pfv M11a A 13 71 (.ref (z + 1 + 1 + 1 + 1 + 1 + 1 + 1 + 1 + 1 + 1 + 1))) fun M11b => K M11b
theorem mS4_m (h : MC W z A [59, 58, 57, 52, 51, 49, 48, 47, 46, 45, 43, 42, 41, 40, 38, 36, 35, 34, 33, 32, 31, 30, 27, 16, 15, 14, 13, 12, 11, 10, 9, 8, 7, 6, 4, 3, 2, 0] [52, 51, 49, 48, 47, 46, 45, 43, 42, 41, 40, 38, 36, 35, 34, 33, 32, 31, 30, 27, 16, 15, 14, 13, 12, 11, 10, 9, 8, 7, 6, 4, 3, 2, 0]) (hz : S 13 0 = zOb) : ∃ W', (∀ (β : Type) (K : mM → Option β), mS4 A (mem W S) z K = K (mem W' S)) ∧ MC W' (z + 1 + 1 + 1 + 1 + 1 + 1 + 1 + 1 + 1 + 1 + 1 + 1) A [71, 70, 69, 68, 67, 66, 65, 64, 63, 62, 61, 60, 59, 58, 57, 52, 51, 49, 48, 47, 46, 45, 43, 42, 41, 40, 38, 36, 35, 34, 33, 32, 31, 30, 27, 16, 15, 14, 13, 12, 11, 10, 9, 8, 7, 6, 4, 3, 2, 0] [71, 70, 69, 68, 67, 66, 65, 64, 63, 62, 61, 60, 52, 51, 49, 48, 47, 46, 45, 43, 42, 41, 40, 38, 36, 35, 34, 33, 32, 31, 30, 27, 16, 15, 14, 13, 12, 11, 10, 9, 8, 7, 6, 4, 3, 2, 0] ∧ FX [(13, 0)] W W' := by
  obtain ⟨W1, g1, c1, f1⟩ := st_mA (S := S) (kk := 0) h 60 34 (by decide) rfl rfl (by decide) rfl hz
  have x1 := f1
  obtain ⟨W2, g2, c2, f2⟩ := st_mA (S := S) (kk := 0) c1 61 34 (by decide) rfl rfl (by decide) rfl hz
  have x2 := x1.trans f2
  obtain ⟨W3, g3, c3, f3⟩ := st_mA (S := S) (kk := 1) c2 62 128 (by decide) rfl rfl (by decide) rfl hz
  have x3 := x2.trans f3
  obtain ⟨W4, g4, c4, f4⟩ := st_mA (S := S) (kk := 1) c3 63 32 (by decide) rfl rfl (by decide) rfl hz
  have x4 := x3.trans f4
  obtain ⟨W5, g5, c5, f5⟩ := st_mA (S := S) (kk := 1) c4 64 32 (by decide) rfl rfl (by decide) rfl hz
  have x5 := x4.trans f5
  obtain ⟨W6, g6, c6, f6⟩ := st_mA (S := S) (kk := 1) c5 65 64 (by decide) rfl rfl (by decide) rfl hz
  have x6 := x5.trans f6
  obtain ⟨W7, g7, c7, f7⟩ := st_mA (S := S) (kk := 0) c6 66 34 (by decide) rfl rfl (by decide) rfl hz
  have x7 := x6.trans f7
  obtain ⟨W8, g8, c8, f8⟩ := st_mA (S := S) (kk := 1) c7 67 32 (by decide) rfl rfl (by decide) rfl hz
  have x8 := x7.trans f8
  obtain ⟨W9, g9, c9, f9⟩ := st_mA (S := S) (kk := 0) c8 68 34 (by decide) rfl rfl (by decide) rfl hz
  have x9 := x8.trans f9
  obtain ⟨W10, g10, c10, f10⟩ := st_mA (S := S) (kk := 0) c9 69 34 (by decide) rfl rfl (by decide) rfl hz
  have x10 := x9.trans f10
  obtain ⟨W11, g11, c11, f11⟩ := st_mA (S := S) (kk := 0) c10 70 34 (by decide) rfl rfl (by decide) rfl hz
  have x11 := x10.trans f11
  obtain ⟨W12, g12, c12, f12⟩ := st_mA (S := S) (kk := 0) c11 71 34 (by decide) rfl rfl (by decide) rfl hz
  have x12 := x11.trans f12
  refine ⟨W12, fun β K => ?_, c12, x12⟩
  unfold mS4
  refine (g1 _ _).trans ?_
  refine (g2 _ _).trans ?_
  refine (g3 _ _).trans ?_
  refine (g4 _ _).trans ?_
  refine (g5 _ _).trans ?_
  refine (g6 _ _).trans ?_
  refine (g7 _ _).trans ?_
  refine (g8 _ _).trans ?_
  refine (g9 _ _).trans ?_
  refine (g10 _ _).trans ?_
  refine (g11 _ _).trans ?_
  exact g12 _ _
def mS5 {β : Type} (A : Nat) (M : mM) (z : Nat) (K : mM → Option β) : Option β := bO (nwA M (z) 0 (34 : Int32)) fun M0a => bO (pfv M0a A 13 72 (.ref (z))) fun M0b => bO (nwA M0b (z + 1) 0 (34 : Int32)) fun M1a => bO (pfv M1a A 13 74 (.ref (z + 1))) fun M1b => bO (nwA M1b (z + 1 + 1) 0 (34 : Int32)) fun M2a => bO (pfv M2a A 13 75 (.ref (z + 1 + 1))) fun M2b => bO (nwA M2b (z + 1 + 1 + 1) 0 (34 : Int32)) fun M3a => bO (pfv M3a A 13 76 (.ref (z + 1 + 1 + 1))) fun M3b => bO (nwA M3b (z + 1 + 1 + 1 + 1) 0 (34 : Int32)) fun M4a => bO (pfv M4a A 13 77 (.ref (z + 1 + 1 + 1 + 1))) fun M4b => bO (nwA M4b (z + 1 + 1 + 1 + 1 + 1) 0 (34 : Int32)) fun M5a => bO (pfv M5a A 13 78 (.ref (z + 1 + 1 + 1 + 1 + 1))) fun M5b => bO (nwA M5b (z + 1 + 1 + 1 + 1 + 1 + 1) 1 (64 : Int32)) fun M6a => bO (pfv M6a A 13 79 (.ref (z + 1 + 1 + 1 + 1 + 1 + 1))) fun M6b => bO (nwA M6b (z + 1 + 1 + 1 + 1 + 1 + 1 + 1) 1 (64 : Int32)) fun M7a => bO (pfv M7a A 13 80 (.ref (z + 1 + 1 + 1 + 1 + 1 + 1 + 1))) fun M7b => bO (nwA M7b (z + 1 + 1 + 1 + 1 + 1 + 1 + 1 + 1) 1 (128 : Int32)) fun M8a => bO (pfv M8a A 13 81 (.ref (z + 1 + 1 + 1 + 1 + 1 + 1 + 1 + 1))) fun M8b => bO (nwA M8b (z + 1 + 1 + 1 + 1 + 1 + 1 + 1 + 1 + 1) 1 (128 : Int32)) fun M9a => bO (pfv M9a A 13 82 (.ref (z + 1 + 1 + 1 + 1 + 1 + 1 + 1 + 1 + 1))) fun M9b => bO (nwA M9b (z + 1 + 1 + 1 + 1 + 1 + 1 + 1 + 1 + 1 + 1) 3 (16 : Int32)) fun M10a => bO (pfv M10a A 13 83 (.ref (z + 1 + 1 + 1 + 1 + 1 + 1 + 1 + 1 + 1 + 1))) fun M10b => bO (nwA M10b (z + 1 + 1 + 1 + 1 + 1 + 1 + 1 + 1 + 1 + 1 + 1) 0 (16 : Int32)) fun M11a => bO (pfv M11a A 13 84 (.ref (z + 1 + 1 + 1 + 1 + 1 + 1 + 1 + 1 + 1 + 1 + 1))) fun M11b => K M11b
theorem mS5_m (h : MC W z A [71, 70, 69, 68, 67, 66, 65, 64, 63, 62, 61, 60, 59, 58, 57, 52, 51, 49, 48, 47, 46, 45, 43, 42, 41, 40, 38, 36, 35, 34, 33, 32, 31, 30, 27, 16, 15, 14, 13, 12, 11, 10, 9, 8, 7, 6, 4, 3, 2, 0] [71, 70, 69, 68, 67, 66, 65, 64, 63, 62, 61, 60, 52, 51, 49, 48, 47, 46, 45, 43, 42, 41, 40, 38, 36, 35, 34, 33, 32, 31, 30, 27, 16, 15, 14, 13, 12, 11, 10, 9, 8, 7, 6, 4, 3, 2, 0]) (hz : S 13 0 = zOb) : ∃ W', (∀ (β : Type) (K : mM → Option β), mS5 A (mem W S) z K = K (mem W' S)) ∧ MC W' (z + 1 + 1 + 1 + 1 + 1 + 1 + 1 + 1 + 1 + 1 + 1 + 1) A [84, 83, 82, 81, 80, 79, 78, 77, 76, 75, 74, 72, 71, 70, 69, 68, 67, 66, 65, 64, 63, 62, 61, 60, 59, 58, 57, 52, 51, 49, 48, 47, 46, 45, 43, 42, 41, 40, 38, 36, 35, 34, 33, 32, 31, 30, 27, 16, 15, 14, 13, 12, 11, 10, 9, 8, 7, 6, 4, 3, 2, 0] [84, 83, 82, 81, 80, 79, 78, 77, 76, 75, 74, 72, 71, 70, 69, 68, 67, 66, 65, 64, 63, 62, 61, 60, 52, 51, 49, 48, 47, 46, 45, 43, 42, 41, 40, 38, 36, 35, 34, 33, 32, 31, 30, 27, 16, 15, 14, 13, 12, 11, 10, 9, 8, 7, 6, 4, 3, 2, 0] ∧ FX [(13, 0)] W W' := by
  obtain ⟨W1, g1, c1, f1⟩ := st_mA (S := S) (kk := 0) h 72 34 (by decide) rfl rfl (by decide) rfl hz
  have x1 := f1
  obtain ⟨W2, g2, c2, f2⟩ := st_mA (S := S) (kk := 0) c1 74 34 (by decide) rfl rfl (by decide) rfl hz
  have x2 := x1.trans f2
  obtain ⟨W3, g3, c3, f3⟩ := st_mA (S := S) (kk := 0) c2 75 34 (by decide) rfl rfl (by decide) rfl hz
  have x3 := x2.trans f3
  obtain ⟨W4, g4, c4, f4⟩ := st_mA (S := S) (kk := 0) c3 76 34 (by decide) rfl rfl (by decide) rfl hz
  have x4 := x3.trans f4
  obtain ⟨W5, g5, c5, f5⟩ := st_mA (S := S) (kk := 0) c4 77 34 (by decide) rfl rfl (by decide) rfl hz
  have x5 := x4.trans f5
  obtain ⟨W6, g6, c6, f6⟩ := st_mA (S := S) (kk := 0) c5 78 34 (by decide) rfl rfl (by decide) rfl hz
  have x6 := x5.trans f6
  obtain ⟨W7, g7, c7, f7⟩ := st_mA (S := S) (kk := 1) c6 79 64 (by decide) rfl rfl (by decide) rfl hz
  have x7 := x6.trans f7
  obtain ⟨W8, g8, c8, f8⟩ := st_mA (S := S) (kk := 1) c7 80 64 (by decide) rfl rfl (by decide) rfl hz
  have x8 := x7.trans f8
  obtain ⟨W9, g9, c9, f9⟩ := st_mA (S := S) (kk := 1) c8 81 128 (by decide) rfl rfl (by decide) rfl hz
  have x9 := x8.trans f9
  obtain ⟨W10, g10, c10, f10⟩ := st_mA (S := S) (kk := 1) c9 82 128 (by decide) rfl rfl (by decide) rfl hz
  have x10 := x9.trans f10
  obtain ⟨W11, g11, c11, f11⟩ := st_mA (S := S) (kk := 3) c10 83 16 (by decide) rfl rfl (by decide) rfl hz
  have x11 := x10.trans f11
  obtain ⟨W12, g12, c12, f12⟩ := st_mA (S := S) (kk := 0) c11 84 16 (by decide) rfl rfl (by decide) rfl hz
  have x12 := x11.trans f12
  refine ⟨W12, fun β K => ?_, c12, x12⟩
  unfold mS5
  refine (g1 _ _).trans ?_
  refine (g2 _ _).trans ?_
  refine (g3 _ _).trans ?_
  refine (g4 _ _).trans ?_
  refine (g5 _ _).trans ?_
  refine (g6 _ _).trans ?_
  refine (g7 _ _).trans ?_
  refine (g8 _ _).trans ?_
  refine (g9 _ _).trans ?_
  refine (g10 _ _).trans ?_
  refine (g11 _ _).trans ?_
  exact g12 _ _
def mS6 {β : Type} (A : Nat) (M : mM) (z : Nat) (K : mM → Option β) : Option β := bO (nwA M (z) 1 (2048 : Int32)) fun M0a => bO (pfv M0a A 13 85 (.ref (z))) fun M0b => bO (nwA M0b (z + 1) 0 (16 : Int32)) fun M1a => bO (pfv M1a A 13 86 (.ref (z + 1))) fun M1b => bO (nwA M1b (z + 1 + 1) 1 (2048 : Int32)) fun M2a => bO (pfv M2a A 13 87 (.ref (z + 1 + 1))) fun M2b => bO (nwA M2b (z + 1 + 1 + 1) 0 (16 : Int32)) fun M3a => bO (pfv M3a A 13 88 (.ref (z + 1 + 1 + 1))) fun M3b => bO (nwA M3b (z + 1 + 1 + 1 + 1) 1 (2048 : Int32)) fun M4a => bO (pfv M4a A 13 89 (.ref (z + 1 + 1 + 1 + 1))) fun M4b => bO (nwA M4b (z + 1 + 1 + 1 + 1 + 1) 0 (16 : Int32)) fun M5a => bO (pfv M5a A 13 90 (.ref (z + 1 + 1 + 1 + 1 + 1))) fun M5b => bO (nwA M5b (z + 1 + 1 + 1 + 1 + 1 + 1) 0 (16 : Int32)) fun M6a => bO (pfv M6a A 13 91 (.ref (z + 1 + 1 + 1 + 1 + 1 + 1))) fun M6b => bO (nwA M6b (z + 1 + 1 + 1 + 1 + 1 + 1 + 1) 1 (131200 : Int32)) fun M7a => bO (pfv M7a A 13 92 (.ref (z + 1 + 1 + 1 + 1 + 1 + 1 + 1))) fun M7b => bO (nwA M7b (z + 1 + 1 + 1 + 1 + 1 + 1 + 1 + 1) 0 (16 : Int32)) fun M8a => bO (pfv M8a A 13 93 (.ref (z + 1 + 1 + 1 + 1 + 1 + 1 + 1 + 1))) fun M8b => bO (nwA M8b (z + 1 + 1 + 1 + 1 + 1 + 1 + 1 + 1 + 1) 1 (131200 : Int32)) fun M9a => bO (pfv M9a A 13 94 (.ref (z + 1 + 1 + 1 + 1 + 1 + 1 + 1 + 1 + 1))) fun M9b => bO (nwA M9b (z + 1 + 1 + 1 + 1 + 1 + 1 + 1 + 1 + 1 + 1) 0 (16 : Int32)) fun M10a => bO (pfv M10a A 13 95 (.ref (z + 1 + 1 + 1 + 1 + 1 + 1 + 1 + 1 + 1 + 1))) fun M10b => bO (nwA M10b (z + 1 + 1 + 1 + 1 + 1 + 1 + 1 + 1 + 1 + 1 + 1) 1 (8200 : Int32)) fun M11a => bO (pfv M11a A 13 96 (.ref (z + 1 + 1 + 1 + 1 + 1 + 1 + 1 + 1 + 1 + 1 + 1))) fun M11b => K M11b
theorem mS6_m (h : MC W z A [84, 83, 82, 81, 80, 79, 78, 77, 76, 75, 74, 72, 71, 70, 69, 68, 67, 66, 65, 64, 63, 62, 61, 60, 59, 58, 57, 52, 51, 49, 48, 47, 46, 45, 43, 42, 41, 40, 38, 36, 35, 34, 33, 32, 31, 30, 27, 16, 15, 14, 13, 12, 11, 10, 9, 8, 7, 6, 4, 3, 2, 0] [84, 83, 82, 81, 80, 79, 78, 77, 76, 75, 74, 72, 71, 70, 69, 68, 67, 66, 65, 64, 63, 62, 61, 60, 52, 51, 49, 48, 47, 46, 45, 43, 42, 41, 40, 38, 36, 35, 34, 33, 32, 31, 30, 27, 16, 15, 14, 13, 12, 11, 10, 9, 8, 7, 6, 4, 3, 2, 0]) (hz : S 13 0 = zOb) : ∃ W', (∀ (β : Type) (K : mM → Option β), mS6 A (mem W S) z K = K (mem W' S)) ∧ MC W' (z + 1 + 1 + 1 + 1 + 1 + 1 + 1 + 1 + 1 + 1 + 1 + 1) A [96, 95, 94, 93, 92, 91, 90, 89, 88, 87, 86, 85, 84, 83, 82, 81, 80, 79, 78, 77, 76, 75, 74, 72, 71, 70, 69, 68, 67, 66, 65, 64, 63, 62, 61, 60, 59, 58, 57, 52, 51, 49, 48, 47, 46, 45, 43, 42, 41, 40, 38, 36, 35, 34, 33, 32, 31, 30, 27, 16, 15, 14, 13, 12, 11, 10, 9, 8, 7, 6, 4, 3, 2, 0] [96, 95, 94, 93, 92, 91, 90, 89, 88, 87, 86, 85, 84, 83, 82, 81, 80, 79, 78, 77, 76, 75, 74, 72, 71, 70, 69, 68, 67, 66, 65, 64, 63, 62, 61, 60, 52, 51, 49, 48, 47, 46, 45, 43, 42, 41, 40, 38, 36, 35, 34, 33, 32, 31, 30, 27, 16, 15, 14, 13, 12, 11, 10, 9, 8, 7, 6, 4, 3, 2, 0] ∧ FX [(13, 0)] W W' := by
  obtain ⟨W1, g1, c1, f1⟩ := st_mA (S := S) (kk := 1) h 85 2048 (by decide) rfl rfl (by decide) rfl hz
  have x1 := f1
  obtain ⟨W2, g2, c2, f2⟩ := st_mA (S := S) (kk := 0) c1 86 16 (by decide) rfl rfl (by decide) rfl hz
  have x2 := x1.trans f2
  obtain ⟨W3, g3, c3, f3⟩ := st_mA (S := S) (kk := 1) c2 87 2048 (by decide) rfl rfl (by decide) rfl hz
  have x3 := x2.trans f3
  obtain ⟨W4, g4, c4, f4⟩ := st_mA (S := S) (kk := 0) c3 88 16 (by decide) rfl rfl (by decide) rfl hz
  have x4 := x3.trans f4
  obtain ⟨W5, g5, c5, f5⟩ := st_mA (S := S) (kk := 1) c4 89 2048 (by decide) rfl rfl (by decide) rfl hz
  have x5 := x4.trans f5
  obtain ⟨W6, g6, c6, f6⟩ := st_mA (S := S) (kk := 0) c5 90 16 (by decide) rfl rfl (by decide) rfl hz
  have x6 := x5.trans f6
  obtain ⟨W7, g7, c7, f7⟩ := st_mA (S := S) (kk := 0) c6 91 16 (by decide) rfl rfl (by decide) rfl hz
  have x7 := x6.trans f7
  obtain ⟨W8, g8, c8, f8⟩ := st_mA (S := S) (kk := 1) c7 92 131200 (by decide) rfl rfl (by decide) rfl hz
  have x8 := x7.trans f8
  obtain ⟨W9, g9, c9, f9⟩ := st_mA (S := S) (kk := 0) c8 93 16 (by decide) rfl rfl (by decide) rfl hz
  have x9 := x8.trans f9
  obtain ⟨W10, g10, c10, f10⟩ := st_mA (S := S) (kk := 1) c9 94 131200 (by decide) rfl rfl (by decide) rfl hz
  have x10 := x9.trans f10
  obtain ⟨W11, g11, c11, f11⟩ := st_mA (S := S) (kk := 0) c10 95 16 (by decide) rfl rfl (by decide) rfl hz
  have x11 := x10.trans f11
  obtain ⟨W12, g12, c12, f12⟩ := st_mA (S := S) (kk := 1) c11 96 8200 (by decide) rfl rfl (by decide) rfl hz
  have x12 := x11.trans f12
  refine ⟨W12, fun β K => ?_, c12, x12⟩
  unfold mS6
  refine (g1 _ _).trans ?_
  refine (g2 _ _).trans ?_
  refine (g3 _ _).trans ?_
  refine (g4 _ _).trans ?_
  refine (g5 _ _).trans ?_
  refine (g6 _ _).trans ?_
  refine (g7 _ _).trans ?_
  refine (g8 _ _).trans ?_
  refine (g9 _ _).trans ?_
  refine (g10 _ _).trans ?_
  refine (g11 _ _).trans ?_
  exact g12 _ _
def mS7 {β : Type} (A : Nat) (M : mM) (z : Nat) (K : mM → Option β) : Option β := bO (nwA M (z) 1 (8200 : Int32)) fun M0a => bO (pfv M0a A 13 97 (.ref (z))) fun M0b => bO (nwA M0b (z + 1) 1 (8200 : Int32)) fun M1a => bO (pfv M1a A 13 98 (.ref (z + 1))) fun M1b => bO (nwA M1b (z + 1 + 1) 1 (64 : Int32)) fun M2a => bO (pfv M2a A 13 107 (.ref (z + 1 + 1))) fun M2b => bO (nwA M2b (z + 1 + 1 + 1) 1 (8200 : Int32)) fun M3a => bO (pfv M3a A 13 108 (.ref (z + 1 + 1 + 1))) fun M3b => bO (nwA M3b (z + 1 + 1 + 1 + 1) 1 (8200 : Int32)) fun M4a => bO (pfv M4a A 13 109 (.ref (z + 1 + 1 + 1 + 1))) fun M4b => bO (nwA M4b (z + 1 + 1 + 1 + 1 + 1) 1 (8200 : Int32)) fun M5a => bO (pfv M5a A 13 112 (.ref (z + 1 + 1 + 1 + 1 + 1))) fun M5b => bO (nwA M5b (z + 1 + 1 + 1 + 1 + 1 + 1) 1 (32 : Int32)) fun M6a => bO (pfv M6a A 13 114 (.ref (z + 1 + 1 + 1 + 1 + 1 + 1))) fun M6b => bO (nwA M6b (z + 1 + 1 + 1 + 1 + 1 + 1 + 1) 1 (64 : Int32)) fun M7a => bO (pfv M7a A 13 115 (.ref (z + 1 + 1 + 1 + 1 + 1 + 1 + 1))) fun M7b => bO (nwA M7b (z + 1 + 1 + 1 + 1 + 1 + 1 + 1 + 1) 0 (34 : Int32)) fun M8a => bO (pfv M8a A 13 116 (.ref (z + 1 + 1 + 1 + 1 + 1 + 1 + 1 + 1))) fun M8b => bO (nwA M8b (z + 1 + 1 + 1 + 1 + 1 + 1 + 1 + 1 + 1) 0 (34 : Int32)) fun M9a => bO (pfv M9a A 13 117 (.ref (z + 1 + 1 + 1 + 1 + 1 + 1 + 1 + 1 + 1))) fun M9b => bO (nwA M9b (z + 1 + 1 + 1 + 1 + 1 + 1 + 1 + 1 + 1 + 1) 0 (34 : Int32)) fun M10a => bO (pfv M10a A 13 118 (.ref (z + 1 + 1 + 1 + 1 + 1 + 1 + 1 + 1 + 1 + 1))) fun M10b => bO (nwA M10b (z + 1 + 1 + 1 + 1 + 1 + 1 + 1 + 1 + 1 + 1 + 1) 1 (8300 : Int32)) fun M11a => bO (pfv M11a A 13 119 (.ref (z + 1 + 1 + 1 + 1 + 1 + 1 + 1 + 1 + 1 + 1 + 1))) fun M11b => K M11b
theorem mS7_m (h : MC W z A [96, 95, 94, 93, 92, 91, 90, 89, 88, 87, 86, 85, 84, 83, 82, 81, 80, 79, 78, 77, 76, 75, 74, 72, 71, 70, 69, 68, 67, 66, 65, 64, 63, 62, 61, 60, 59, 58, 57, 52, 51, 49, 48, 47, 46, 45, 43, 42, 41, 40, 38, 36, 35, 34, 33, 32, 31, 30, 27, 16, 15, 14, 13, 12, 11, 10, 9, 8, 7, 6, 4, 3, 2, 0] [96, 95, 94, 93, 92, 91, 90, 89, 88, 87, 86, 85, 84, 83, 82, 81, 80, 79, 78, 77, 76, 75, 74, 72, 71, 70, 69, 68, 67, 66, 65, 64, 63, 62, 61, 60, 52, 51, 49, 48, 47, 46, 45, 43, 42, 41, 40, 38, 36, 35, 34, 33, 32, 31, 30, 27, 16, 15, 14, 13, 12, 11, 10, 9, 8, 7, 6, 4, 3, 2, 0]) (hz : S 13 0 = zOb) : ∃ W', (∀ (β : Type) (K : mM → Option β), mS7 A (mem W S) z K = K (mem W' S)) ∧ MC W' (z + 1 + 1 + 1 + 1 + 1 + 1 + 1 + 1 + 1 + 1 + 1 + 1) A [119, 118, 117, 116, 115, 114, 112, 109, 108, 107, 98, 97, 96, 95, 94, 93, 92, 91, 90, 89, 88, 87, 86, 85, 84, 83, 82, 81, 80, 79, 78, 77, 76, 75, 74, 72, 71, 70, 69, 68, 67, 66, 65, 64, 63, 62, 61, 60, 59, 58, 57, 52, 51, 49, 48, 47, 46, 45, 43, 42, 41, 40, 38, 36, 35, 34, 33, 32, 31, 30, 27, 16, 15, 14, 13, 12, 11, 10, 9, 8, 7, 6, 4, 3, 2, 0] [119, 118, 117, 116, 115, 114, 112, 109, 108, 107, 98, 97, 96, 95, 94, 93, 92, 91, 90, 89, 88, 87, 86, 85, 84, 83, 82, 81, 80, 79, 78, 77, 76, 75, 74, 72, 71, 70, 69, 68, 67, 66, 65, 64, 63, 62, 61, 60, 52, 51, 49, 48, 47, 46, 45, 43, 42, 41, 40, 38, 36, 35, 34, 33, 32, 31, 30, 27, 16, 15, 14, 13, 12, 11, 10, 9, 8, 7, 6, 4, 3, 2, 0] ∧ FX [(13, 0)] W W' := by
  obtain ⟨W1, g1, c1, f1⟩ := st_mA (S := S) (kk := 1) h 97 8200 (by decide) rfl rfl (by decide) rfl hz
  have x1 := f1
  obtain ⟨W2, g2, c2, f2⟩ := st_mA (S := S) (kk := 1) c1 98 8200 (by decide) rfl rfl (by decide) rfl hz
  have x2 := x1.trans f2
  obtain ⟨W3, g3, c3, f3⟩ := st_mA (S := S) (kk := 1) c2 107 64 (by decide) rfl rfl (by decide) rfl hz
  have x3 := x2.trans f3
  obtain ⟨W4, g4, c4, f4⟩ := st_mA (S := S) (kk := 1) c3 108 8200 (by decide) rfl rfl (by decide) rfl hz
  have x4 := x3.trans f4
  obtain ⟨W5, g5, c5, f5⟩ := st_mA (S := S) (kk := 1) c4 109 8200 (by decide) rfl rfl (by decide) rfl hz
  have x5 := x4.trans f5
  obtain ⟨W6, g6, c6, f6⟩ := st_mA (S := S) (kk := 1) c5 112 8200 (by decide) rfl rfl (by decide) rfl hz
  have x6 := x5.trans f6
  obtain ⟨W7, g7, c7, f7⟩ := st_mA (S := S) (kk := 1) c6 114 32 (by decide) rfl rfl (by decide) rfl hz
  have x7 := x6.trans f7
  obtain ⟨W8, g8, c8, f8⟩ := st_mA (S := S) (kk := 1) c7 115 64 (by decide) rfl rfl (by decide) rfl hz
  have x8 := x7.trans f8
  obtain ⟨W9, g9, c9, f9⟩ := st_mA (S := S) (kk := 0) c8 116 34 (by decide) rfl rfl (by decide) rfl hz
  have x9 := x8.trans f9
  obtain ⟨W10, g10, c10, f10⟩ := st_mA (S := S) (kk := 0) c9 117 34 (by decide) rfl rfl (by decide) rfl hz
  have x10 := x9.trans f10
  obtain ⟨W11, g11, c11, f11⟩ := st_mA (S := S) (kk := 0) c10 118 34 (by decide) rfl rfl (by decide) rfl hz
  have x11 := x10.trans f11
  obtain ⟨W12, g12, c12, f12⟩ := st_mA (S := S) (kk := 1) c11 119 8300 (by decide) rfl rfl (by decide) rfl hz
  have x12 := x11.trans f12
  refine ⟨W12, fun β K => ?_, c12, x12⟩
  unfold mS7
  refine (g1 _ _).trans ?_
  refine (g2 _ _).trans ?_
  refine (g3 _ _).trans ?_
  refine (g4 _ _).trans ?_
  refine (g5 _ _).trans ?_
  refine (g6 _ _).trans ?_
  refine (g7 _ _).trans ?_
  refine (g8 _ _).trans ?_
  refine (g9 _ _).trans ?_
  refine (g10 _ _).trans ?_
  refine (g11 _ _).trans ?_
  exact g12 _ _
def mS8 {β : Type} (A : Nat) (M : mM) (z : Nat) (K : mM → Option β) : Option β := bO (nwA M (z) 1 (60000 : Int32)) fun M0a => bO (pfv M0a A 13 121 (.ref (z))) fun M0b => bO (nwA M0b (z + 1) 0 (6 : Int32)) fun M1a => bO (pfv M1a A 13 123 (.ref (z + 1))) fun M1b => bO (nwA M1b (z + 1 + 1) 1 (8200 : Int32)) fun M2a => bO (pfv M2a A 13 124 (.ref (z + 1 + 1))) fun M2b => bO (nwA M2b (z + 1 + 1 + 1) 1 (64 : Int32)) fun M3a => bO (pfv M3a A 13 125 (.ref (z + 1 + 1 + 1))) fun M3b => bO (nwA M3b (z + 1 + 1 + 1 + 1) 1 (8200 : Int32)) fun M4a => bO (pfv M4a A 13 126 (.ref (z + 1 + 1 + 1 + 1))) fun M4b => bO (nwA M4b (z + 1 + 1 + 1 + 1 + 1) 1 (8200 : Int32)) fun M5a => bO (pfv M5a A 13 128 (.ref (z + 1 + 1 + 1 + 1 + 1))) fun M5b => bO (nwA M5b (z + 1 + 1 + 1 + 1 + 1 + 1) 1 (64 : Int32)) fun M6a => bO (pfv M6a A 13 130 (.ref (z + 1 + 1 + 1 + 1 + 1 + 1))) fun M6b => bO (nwA M6b (z + 1 + 1 + 1 + 1 + 1 + 1 + 1) 1 (32 : Int32)) fun M7a => bO (pfv M7a A 13 131 (.ref (z + 1 + 1 + 1 + 1 + 1 + 1 + 1))) fun M7b => bO (nwA M7b (z + 1 + 1 + 1 + 1 + 1 + 1 + 1 + 1) 1 (8200 : Int32)) fun M8a => bO (pfv M8a A 13 132 (.ref (z + 1 + 1 + 1 + 1 + 1 + 1 + 1 + 1))) fun M8b => bO (nwA M8b (z + 1 + 1 + 1 + 1 + 1 + 1 + 1 + 1 + 1) 1 (8200 : Int32)) fun M9a => bO (pfv M9a A 13 133 (.ref (z + 1 + 1 + 1 + 1 + 1 + 1 + 1 + 1 + 1))) fun M9b => K M9b
theorem mS8_m (h : MC W z A [119, 118, 117, 116, 115, 114, 112, 109, 108, 107, 98, 97, 96, 95, 94, 93, 92, 91, 90, 89, 88, 87, 86, 85, 84, 83, 82, 81, 80, 79, 78, 77, 76, 75, 74, 72, 71, 70, 69, 68, 67, 66, 65, 64, 63, 62, 61, 60, 59, 58, 57, 52, 51, 49, 48, 47, 46, 45, 43, 42, 41, 40, 38, 36, 35, 34, 33, 32, 31, 30, 27, 16, 15, 14, 13, 12, 11, 10, 9, 8, 7, 6, 4, 3, 2, 0] [119, 118, 117, 116, 115, 114, 112, 109, 108, 107, 98, 97, 96, 95, 94, 93, 92, 91, 90, 89, 88, 87, 86, 85, 84, 83, 82, 81, 80, 79, 78, 77, 76, 75, 74, 72, 71, 70, 69, 68, 67, 66, 65, 64, 63, 62, 61, 60, 52, 51, 49, 48, 47, 46, 45, 43, 42, 41, 40, 38, 36, 35, 34, 33, 32, 31, 30, 27, 16, 15, 14, 13, 12, 11, 10, 9, 8, 7, 6, 4, 3, 2, 0]) (hz : S 13 0 = zOb) : ∃ W', (∀ (β : Type) (K : mM → Option β), mS8 A (mem W S) z K = K (mem W' S)) ∧ MC W' (z + 1 + 1 + 1 + 1 + 1 + 1 + 1 + 1 + 1 + 1) A [133, 132, 131, 130, 128, 126, 125, 124, 123, 121, 119, 118, 117, 116, 115, 114, 112, 109, 108, 107, 98, 97, 96, 95, 94, 93, 92, 91, 90, 89, 88, 87, 86, 85, 84, 83, 82, 81, 80, 79, 78, 77, 76, 75, 74, 72, 71, 70, 69, 68, 67, 66, 65, 64, 63, 62, 61, 60, 59, 58, 57, 52, 51, 49, 48, 47, 46, 45, 43, 42, 41, 40, 38, 36, 35, 34, 33, 32, 31, 30, 27, 16, 15, 14, 13, 12, 11, 10, 9, 8, 7, 6, 4, 3, 2, 0] [133, 132, 131, 130, 128, 126, 125, 124, 123, 121, 119, 118, 117, 116, 115, 114, 112, 109, 108, 107, 98, 97, 96, 95, 94, 93, 92, 91, 90, 89, 88, 87, 86, 85, 84, 83, 82, 81, 80, 79, 78, 77, 76, 75, 74, 72, 71, 70, 69, 68, 67, 66, 65, 64, 63, 62, 61, 60, 52, 51, 49, 48, 47, 46, 45, 43, 42, 41, 40, 38, 36, 35, 34, 33, 32, 31, 30, 27, 16, 15, 14, 13, 12, 11, 10, 9, 8, 7, 6, 4, 3, 2, 0] ∧ FX [(13, 0)] W W' := by
  obtain ⟨W1, g1, c1, f1⟩ := st_mA (S := S) (kk := 1) h 121 60000 (by decide) rfl rfl (by decide) rfl hz
  have x1 := f1
  obtain ⟨W2, g2, c2, f2⟩ := st_mA (S := S) (kk := 0) c1 123 6 (by decide) rfl rfl (by decide) rfl hz
  have x2 := x1.trans f2
  obtain ⟨W3, g3, c3, f3⟩ := st_mA (S := S) (kk := 1) c2 124 8200 (by decide) rfl rfl (by decide) rfl hz
  have x3 := x2.trans f3
  obtain ⟨W4, g4, c4, f4⟩ := st_mA (S := S) (kk := 1) c3 125 64 (by decide) rfl rfl (by decide) rfl hz
  have x4 := x3.trans f4
  obtain ⟨W5, g5, c5, f5⟩ := st_mA (S := S) (kk := 1) c4 126 8200 (by decide) rfl rfl (by decide) rfl hz
  have x5 := x4.trans f5
  obtain ⟨W6, g6, c6, f6⟩ := st_mA (S := S) (kk := 1) c5 128 8200 (by decide) rfl rfl (by decide) rfl hz
  have x6 := x5.trans f6
  obtain ⟨W7, g7, c7, f7⟩ := st_mA (S := S) (kk := 1) c6 130 64 (by decide) rfl rfl (by decide) rfl hz
  have x7 := x6.trans f7
  obtain ⟨W8, g8, c8, f8⟩ := st_mA (S := S) (kk := 1) c7 131 32 (by decide) rfl rfl (by decide) rfl hz
  have x8 := x7.trans f8
  obtain ⟨W9, g9, c9, f9⟩ := st_mA (S := S) (kk := 1) c8 132 8200 (by decide) rfl rfl (by decide) rfl hz
  have x9 := x8.trans f9
  obtain ⟨W10, g10, c10, f10⟩ := st_mA (S := S) (kk := 1) c9 133 8200 (by decide) rfl rfl (by decide) rfl hz
  have x10 := x9.trans f10
  refine ⟨W10, fun β K => ?_, c10, x10⟩
  unfold mS8
  refine (g1 _ _).trans ?_
  refine (g2 _ _).trans ?_
  refine (g3 _ _).trans ?_
  refine (g4 _ _).trans ?_
  refine (g5 _ _).trans ?_
  refine (g6 _ _).trans ?_
  refine (g7 _ _).trans ?_
  refine (g8 _ _).trans ?_
  refine (g9 _ _).trans ?_
  exact g10 _ _
theorem m_blocks {M : mM} {sl : Nat} : P_X13_init G F A M z sl = mS0 A M (z) fun N0 => mS1 A N0 (z + 1 + 1 + 1 + 1 + 1 + 1 + 1 + 1 + 1 + 1 + 1 + 1) fun N1 => mS2 A N1 (z + 1 + 1 + 1 + 1 + 1 + 1 + 1 + 1 + 1 + 1 + 1 + 1 + 1 + 1 + 1 + 1 + 1 + 1 + 1 + 1 + 1 + 1 + 1 + 1) fun N2 => mS3 G F A N2 (z + 1 + 1 + 1 + 1 + 1 + 1 + 1 + 1 + 1 + 1 + 1 + 1 + 1 + 1 + 1 + 1 + 1 + 1 + 1 + 1 + 1 + 1 + 1 + 1 + 1 + 1 + 1 + 1 + 1 + 1 + 1 + 1 + 1 + 1 + 1) (sl + ((8192 : Int32)).toNatClampNeg + ((65536 : Int32)).toNatClampNeg + ((8 : Int32)).toNatClampNeg + ((8192 : Int32)).toNatClampNeg + ((1200 : Int32)).toNatClampNeg + ((1200 : Int32)).toNatClampNeg + ((1200 : Int32)).toNatClampNeg + ((1200 : Int32)).toNatClampNeg + ((1200 : Int32)).toNatClampNeg + ((1200 : Int32)).toNatClampNeg + ((1200 : Int32)).toNatClampNeg + ((1200 : Int32)).toNatClampNeg + ((1200 : Int32)).toNatClampNeg + ((16400 : Int32)).toNatClampNeg + ((2 : Int32)).toNatClampNeg + ((8300 : Int32)).toNatClampNeg + ((8200 : Int32)).toNatClampNeg + ((64 : Int32)).toNatClampNeg + ((8 : Int32)).toNatClampNeg + ((80 : Int32)).toNatClampNeg + ((8 : Int32)).toNatClampNeg + ((64 : Int32)).toNatClampNeg + ((33100 : Int32)).toNatClampNeg + ((25000 : Int32)).toNatClampNeg + ((128 : Int32)).toNatClampNeg + ((256 : Int32)).toNatClampNeg + ((256 : Int32)).toNatClampNeg + ((240 : Int32)).toNatClampNeg + ((16 : Int32)).toNatClampNeg + ((16 : Int32)).toNatClampNeg + ((16 : Int32)).toNatClampNeg + ((80 : Int32)).toNatClampNeg + ((8300 : Int32)).toNatClampNeg + ((64 : Int32)).toNatClampNeg + ((16 : Int32)).toNatClampNeg) fun N3 z9 k9 => mS4 A N3 (z9) fun N4 => mS5 A N4 (z9 + 1 + 1 + 1 + 1 + 1 + 1 + 1 + 1 + 1 + 1 + 1 + 1) fun N5 => mS6 A N5 (z9 + 1 + 1 + 1 + 1 + 1 + 1 + 1 + 1 + 1 + 1 + 1 + 1 + 1 + 1 + 1 + 1 + 1 + 1 + 1 + 1 + 1 + 1 + 1 + 1) fun N6 => mS7 A N6 (z9 + 1 + 1 + 1 + 1 + 1 + 1 + 1 + 1 + 1 + 1 + 1 + 1 + 1 + 1 + 1 + 1 + 1 + 1 + 1 + 1 + 1 + 1 + 1 + 1 + 1 + 1 + 1 + 1 + 1 + 1 + 1 + 1 + 1 + 1 + 1 + 1) fun N7 => mS8 A N7 (z9 + 1 + 1 + 1 + 1 + 1 + 1 + 1 + 1 + 1 + 1 + 1 + 1 + 1 + 1 + 1 + 1 + 1 + 1 + 1 + 1 + 1 + 1 + 1 + 1 + 1 + 1 + 1 + 1 + 1 + 1 + 1 + 1 + 1 + 1 + 1 + 1 + 1 + 1 + 1 + 1 + 1 + 1 + 1 + 1 + 1 + 1 + 1 + 1) fun N8 => bO (rcv N8 A 13) fun _ => bO (P_X13_layCipher G F A N8) fun M1 => bO (rcv M1 A 13) fun _ => bO (P_X13_layCurve G F A M1) fun M2 => some (M2, z9 + 1 + 1 + 1 + 1 + 1 + 1 + 1 + 1 + 1 + 1 + 1 + 1 + 1 + 1 + 1 + 1 + 1 + 1 + 1 + 1 + 1 + 1 + 1 + 1 + 1 + 1 + 1 + 1 + 1 + 1 + 1 + 1 + 1 + 1 + 1 + 1 + 1 + 1 + 1 + 1 + 1 + 1 + 1 + 1 + 1 + 1 + 1 + 1 + 1 + 1 + 1 + 1 + 1 + 1 + 1 + 1 + 1 + 1, k9 + ((34 : Int32)).toNatClampNeg + ((34 : Int32)).toNatClampNeg + ((128 : Int32)).toNatClampNeg + ((32 : Int32)).toNatClampNeg + ((32 : Int32)).toNatClampNeg + ((64 : Int32)).toNatClampNeg + ((34 : Int32)).toNatClampNeg + ((32 : Int32)).toNatClampNeg + ((34 : Int32)).toNatClampNeg + ((34 : Int32)).toNatClampNeg + ((34 : Int32)).toNatClampNeg + ((34 : Int32)).toNatClampNeg + ((34 : Int32)).toNatClampNeg + ((34 : Int32)).toNatClampNeg + ((34 : Int32)).toNatClampNeg + ((34 : Int32)).toNatClampNeg + ((34 : Int32)).toNatClampNeg + ((34 : Int32)).toNatClampNeg + ((64 : Int32)).toNatClampNeg + ((64 : Int32)).toNatClampNeg + ((128 : Int32)).toNatClampNeg + ((128 : Int32)).toNatClampNeg + ((16 : Int32)).toNatClampNeg + ((16 : Int32)).toNatClampNeg + ((2048 : Int32)).toNatClampNeg + ((16 : Int32)).toNatClampNeg + ((2048 : Int32)).toNatClampNeg + ((16 : Int32)).toNatClampNeg + ((2048 : Int32)).toNatClampNeg + ((16 : Int32)).toNatClampNeg + ((16 : Int32)).toNatClampNeg + ((131200 : Int32)).toNatClampNeg + ((16 : Int32)).toNatClampNeg + ((131200 : Int32)).toNatClampNeg + ((16 : Int32)).toNatClampNeg + ((8200 : Int32)).toNatClampNeg + ((8200 : Int32)).toNatClampNeg + ((8200 : Int32)).toNatClampNeg + ((64 : Int32)).toNatClampNeg + ((8200 : Int32)).toNatClampNeg + ((8200 : Int32)).toNatClampNeg + ((8200 : Int32)).toNatClampNeg + ((32 : Int32)).toNatClampNeg + ((64 : Int32)).toNatClampNeg + ((34 : Int32)).toNatClampNeg + ((34 : Int32)).toNatClampNeg + ((34 : Int32)).toNatClampNeg + ((8300 : Int32)).toNatClampNeg + ((60000 : Int32)).toNatClampNeg + ((6 : Int32)).toNatClampNeg + ((8200 : Int32)).toNatClampNeg + ((64 : Int32)).toNatClampNeg + ((8200 : Int32)).toNatClampNeg + ((8200 : Int32)).toNatClampNeg + ((64 : Int32)).toNatClampNeg + ((32 : Int32)).toNatClampNeg + ((8200 : Int32)).toNatClampNeg + ((8200 : Int32)).toNatClampNeg) := by
  unfold P_X13_init
  rfl
theorem m_sl1 (sl : Nat) : sl + ((8192 : Int32)).toNatClampNeg + ((65536 : Int32)).toNatClampNeg + ((8 : Int32)).toNatClampNeg + ((8192 : Int32)).toNatClampNeg + ((1200 : Int32)).toNatClampNeg + ((1200 : Int32)).toNatClampNeg + ((1200 : Int32)).toNatClampNeg + ((1200 : Int32)).toNatClampNeg + ((1200 : Int32)).toNatClampNeg + ((1200 : Int32)).toNatClampNeg + ((1200 : Int32)).toNatClampNeg + ((1200 : Int32)).toNatClampNeg + ((1200 : Int32)).toNatClampNeg + ((16400 : Int32)).toNatClampNeg + ((2 : Int32)).toNatClampNeg + ((8300 : Int32)).toNatClampNeg + ((8200 : Int32)).toNatClampNeg + ((64 : Int32)).toNatClampNeg + ((8 : Int32)).toNatClampNeg + ((80 : Int32)).toNatClampNeg + ((8 : Int32)).toNatClampNeg + ((64 : Int32)).toNatClampNeg + ((33100 : Int32)).toNatClampNeg + ((25000 : Int32)).toNatClampNeg + ((128 : Int32)).toNatClampNeg + ((256 : Int32)).toNatClampNeg + ((256 : Int32)).toNatClampNeg + ((240 : Int32)).toNatClampNeg + ((16 : Int32)).toNatClampNeg + ((16 : Int32)).toNatClampNeg + ((16 : Int32)).toNatClampNeg + ((80 : Int32)).toNatClampNeg + ((8300 : Int32)).toNatClampNeg + ((64 : Int32)).toNatClampNeg + ((16 : Int32)).toNatClampNeg = sl + 193342 := by
  show sl + 8192 + 65536 + 8 + 8192 + 1200 + 1200 + 1200 + 1200 + 1200 + 1200 + 1200 + 1200 + 1200 + 16400 + 2 + 8300 + 8200 + 64 + 8 + 80 + 8 + 64 + 33100 + 25000 + 128 + 256 + 256 + 240 + 16 + 16 + 16 + 80 + 8300 + 64 + 16 = sl + 193342
  omega
theorem m_sl2 (sl : Nat) : sl + ((34 : Int32)).toNatClampNeg + ((34 : Int32)).toNatClampNeg + ((128 : Int32)).toNatClampNeg + ((32 : Int32)).toNatClampNeg + ((32 : Int32)).toNatClampNeg + ((64 : Int32)).toNatClampNeg + ((34 : Int32)).toNatClampNeg + ((32 : Int32)).toNatClampNeg + ((34 : Int32)).toNatClampNeg + ((34 : Int32)).toNatClampNeg + ((34 : Int32)).toNatClampNeg + ((34 : Int32)).toNatClampNeg + ((34 : Int32)).toNatClampNeg + ((34 : Int32)).toNatClampNeg + ((34 : Int32)).toNatClampNeg + ((34 : Int32)).toNatClampNeg + ((34 : Int32)).toNatClampNeg + ((34 : Int32)).toNatClampNeg + ((64 : Int32)).toNatClampNeg + ((64 : Int32)).toNatClampNeg + ((128 : Int32)).toNatClampNeg + ((128 : Int32)).toNatClampNeg + ((16 : Int32)).toNatClampNeg + ((16 : Int32)).toNatClampNeg + ((2048 : Int32)).toNatClampNeg + ((16 : Int32)).toNatClampNeg + ((2048 : Int32)).toNatClampNeg + ((16 : Int32)).toNatClampNeg + ((2048 : Int32)).toNatClampNeg + ((16 : Int32)).toNatClampNeg + ((16 : Int32)).toNatClampNeg + ((131200 : Int32)).toNatClampNeg + ((16 : Int32)).toNatClampNeg + ((131200 : Int32)).toNatClampNeg + ((16 : Int32)).toNatClampNeg + ((8200 : Int32)).toNatClampNeg + ((8200 : Int32)).toNatClampNeg + ((8200 : Int32)).toNatClampNeg + ((64 : Int32)).toNatClampNeg + ((8200 : Int32)).toNatClampNeg + ((8200 : Int32)).toNatClampNeg + ((8200 : Int32)).toNatClampNeg + ((32 : Int32)).toNatClampNeg + ((64 : Int32)).toNatClampNeg + ((34 : Int32)).toNatClampNeg + ((34 : Int32)).toNatClampNeg + ((34 : Int32)).toNatClampNeg + ((8300 : Int32)).toNatClampNeg + ((60000 : Int32)).toNatClampNeg + ((6 : Int32)).toNatClampNeg + ((8200 : Int32)).toNatClampNeg + ((64 : Int32)).toNatClampNeg + ((8200 : Int32)).toNatClampNeg + ((8200 : Int32)).toNatClampNeg + ((64 : Int32)).toNatClampNeg + ((32 : Int32)).toNatClampNeg + ((8200 : Int32)).toNatClampNeg + ((8200 : Int32)).toNatClampNeg = sl + 428714 := by
  show sl + 34 + 34 + 128 + 32 + 32 + 64 + 34 + 32 + 34 + 34 + 34 + 34 + 34 + 34 + 34 + 34 + 34 + 34 + 64 + 64 + 128 + 128 + 16 + 16 + 2048 + 16 + 2048 + 16 + 2048 + 16 + 16 + 131200 + 16 + 131200 + 16 + 8200 + 8200 + 8200 + 64 + 8200 + 8200 + 8200 + 32 + 64 + 34 + 34 + 34 + 8300 + 60000 + 6 + 8200 + 64 + 8200 + 8200 + 64 + 32 + 8200 + 8200 = sl + 428714
  omega
theorem nw_model0 {sl : Nat} (h : MC W z A [] []) (v0 : frS W 12 0) (v1 : frS W 12 1) (v2 : frS W 12 2) (hz : S 13 0 = zOb) (o0 : S 12 0 = zOb) (o1 : S 12 1 = zOb) (o2 : S 12 2 = zOb) : ∃ W' z' sl', P_X13_init G F A (mem W S) z sl = (bO (rcv (mem W' S) A 13) fun _ => bO (P_X13_layCipher G F A (mem W' S)) fun M1 => bO (rcv M1 A 13) fun _ => bO (P_X13_layCurve G F A M1) fun M2 => some (M2, z', sl')) ∧ WF W' z' ∧ (z ≤ z' ∧ z' ≤ z + 200) ∧ sl' ≤ sl + 622956 ∧ FX [(13, 0), (12, 0), (12, 1), (12, 2)] W W' ∧ W'.ad (.o 13 0) = A ∧ isM W' ∧ isMm W' := by
  obtain ⟨W0, g0, c0, f0⟩ := mS0_m (S := S) h hz
  have x0 : FX [(13, 0), (12, 0), (12, 1), (12, 2)] W W0 := f0.mono (by decide)
  have u0 : FX [(13, 0)] W W0 := f0
  obtain ⟨W1, g1, c1, f1⟩ := mS1_m (S := S) c0 hz
  have x1 : FX [(13, 0), (12, 0), (12, 1), (12, 2)] W W1 := x0.trans (f1.mono (by decide))
  have u1 : FX [(13, 0)] W W1 := u0.trans f1
  obtain ⟨W2, g2, c2, f2⟩ := mS2_m (S := S) c1 hz
  have x2 : FX [(13, 0), (12, 0), (12, 1), (12, 2)] W W2 := x1.trans (f2.mono (by decide))
  have u2 : FX [(13, 0)] W W2 := u1.trans f2
  obtain ⟨W3, z3, s3, g3, c3, ⟨lz, uz⟩, us, f3, mm⟩ := mS3_m (G := G) (F := F) (S := S) (sl := sl + ((8192 : Int32)).toNatClampNeg + ((65536 : Int32)).toNatClampNeg + ((8 : Int32)).toNatClampNeg + ((8192 : Int32)).toNatClampNeg + ((1200 : Int32)).toNatClampNeg + ((1200 : Int32)).toNatClampNeg + ((1200 : Int32)).toNatClampNeg + ((1200 : Int32)).toNatClampNeg + ((1200 : Int32)).toNatClampNeg + ((1200 : Int32)).toNatClampNeg + ((1200 : Int32)).toNatClampNeg + ((1200 : Int32)).toNatClampNeg + ((1200 : Int32)).toNatClampNeg + ((16400 : Int32)).toNatClampNeg + ((2 : Int32)).toNatClampNeg + ((8300 : Int32)).toNatClampNeg + ((8200 : Int32)).toNatClampNeg + ((64 : Int32)).toNatClampNeg + ((8 : Int32)).toNatClampNeg + ((80 : Int32)).toNatClampNeg + ((8 : Int32)).toNatClampNeg + ((64 : Int32)).toNatClampNeg + ((33100 : Int32)).toNatClampNeg + ((25000 : Int32)).toNatClampNeg + ((128 : Int32)).toNatClampNeg + ((256 : Int32)).toNatClampNeg + ((256 : Int32)).toNatClampNeg + ((240 : Int32)).toNatClampNeg + ((16 : Int32)).toNatClampNeg + ((16 : Int32)).toNatClampNeg + ((16 : Int32)).toNatClampNeg + ((80 : Int32)).toNatClampNeg + ((8300 : Int32)).toNatClampNeg + ((64 : Int32)).toNatClampNeg + ((16 : Int32)).toNatClampNeg) c2 ((u2.2 12 0 (by decide)).1 v0) ((u2.2 12 1 (by decide)).1 v1) ((u2.2 12 2 (by decide)).1 v2) o0 o1 o2
  have x3 : FX [(13, 0), (12, 0), (12, 1), (12, 2)] W W3 := x2.trans f3
  rw [m_sl1] at us
  obtain ⟨W4, g4, c4, f4⟩ := mS4_m (S := S) c3 hz
  have x4 : FX [(13, 0), (12, 0), (12, 1), (12, 2)] W W4 := x3.trans (f4.mono (by decide))
  have y4 : FX [(13, 0)] W3 W4 := f4
  obtain ⟨W5, g5, c5, f5⟩ := mS5_m (S := S) c4 hz
  have x5 : FX [(13, 0), (12, 0), (12, 1), (12, 2)] W W5 := x4.trans (f5.mono (by decide))
  have y5 : FX [(13, 0)] W3 W5 := y4.trans f5
  obtain ⟨W6, g6, c6, f6⟩ := mS6_m (S := S) c5 hz
  have x6 : FX [(13, 0), (12, 0), (12, 1), (12, 2)] W W6 := x5.trans (f6.mono (by decide))
  have y6 : FX [(13, 0)] W3 W6 := y5.trans f6
  obtain ⟨W7, g7, c7, f7⟩ := mS7_m (S := S) c6 hz
  have x7 : FX [(13, 0), (12, 0), (12, 1), (12, 2)] W W7 := x6.trans (f7.mono (by decide))
  have y7 : FX [(13, 0)] W3 W7 := y6.trans f7
  obtain ⟨W8, g8, c8, f8⟩ := mS8_m (S := S) c7 hz
  have x8 : FX [(13, 0), (12, 0), (12, 1), (12, 2)] W W8 := x7.trans (f8.mono (by decide))
  have y8 : FX [(13, 0)] W3 W8 := y7.trans f8
  have hs : ∀ k, 0 < mLen k → hasA W8 13 0 k (mLen k) := fun k hk => c8.2 k ((by decide +kernel : ∀ k, k < 134 → 0 < mLen k → k ∈ [133, 132, 131, 130, 128, 126, 125, 124, 123, 121, 119, 118, 117, 116, 115, 114, 112, 109, 108, 107, 98, 97, 96, 95, 94, 93, 92, 91, 90, 89, 88, 87, 86, 85, 84, 83, 82, 81, 80, 79, 78, 77, 76, 75, 74, 72, 71, 70, 69, 68, 67, 66, 65, 64, 63, 62, 61, 60, 52, 51, 49, 48, 47, 46, 45, 43, 42, 41, 40, 38, 36, 35, 34, 33, 32, 31, 30, 27, 16, 15, 14, 13, 12, 11, 10, 9, 8, 7, 6, 4, 3, 2, 0]) k (mLen_in k hk) hk)
  have mM : isMm W8 := ⟨y8.1.rr mm.1, y8.1.rr mm.2.1, y8.1.rr mm.2.2.1, y8.1.md mm.2.2.2.1, y8.1.md mm.2.2.2.2.1, y8.1.md mm.2.2.2.2.2⟩
  have iM : isM W8 := ⟨c8.1.2.1.1, fun k hk => (hs k hk).1, fun k hk => (hs k hk).2.1, fun k hk => (hs k hk).2.2.1⟩
  have wf := c8.1.1
  have ad := c8.1.2.2
  have xx := x8
  clear c0 c1 c2 c3 c4 c5 c6 c7 c8
  refine ⟨W8, z3 + 1 + 1 + 1 + 1 + 1 + 1 + 1 + 1 + 1 + 1 + 1 + 1 + 1 + 1 + 1 + 1 + 1 + 1 + 1 + 1 + 1 + 1 + 1 + 1 + 1 + 1 + 1 + 1 + 1 + 1 + 1 + 1 + 1 + 1 + 1 + 1 + 1 + 1 + 1 + 1 + 1 + 1 + 1 + 1 + 1 + 1 + 1 + 1 + 1 + 1 + 1 + 1 + 1 + 1 + 1 + 1 + 1 + 1, s3 + ((34 : Int32)).toNatClampNeg + ((34 : Int32)).toNatClampNeg + ((128 : Int32)).toNatClampNeg + ((32 : Int32)).toNatClampNeg + ((32 : Int32)).toNatClampNeg + ((64 : Int32)).toNatClampNeg + ((34 : Int32)).toNatClampNeg + ((32 : Int32)).toNatClampNeg + ((34 : Int32)).toNatClampNeg + ((34 : Int32)).toNatClampNeg + ((34 : Int32)).toNatClampNeg + ((34 : Int32)).toNatClampNeg + ((34 : Int32)).toNatClampNeg + ((34 : Int32)).toNatClampNeg + ((34 : Int32)).toNatClampNeg + ((34 : Int32)).toNatClampNeg + ((34 : Int32)).toNatClampNeg + ((34 : Int32)).toNatClampNeg + ((64 : Int32)).toNatClampNeg + ((64 : Int32)).toNatClampNeg + ((128 : Int32)).toNatClampNeg + ((128 : Int32)).toNatClampNeg + ((16 : Int32)).toNatClampNeg + ((16 : Int32)).toNatClampNeg + ((2048 : Int32)).toNatClampNeg + ((16 : Int32)).toNatClampNeg + ((2048 : Int32)).toNatClampNeg + ((16 : Int32)).toNatClampNeg + ((2048 : Int32)).toNatClampNeg + ((16 : Int32)).toNatClampNeg + ((16 : Int32)).toNatClampNeg + ((131200 : Int32)).toNatClampNeg + ((16 : Int32)).toNatClampNeg + ((131200 : Int32)).toNatClampNeg + ((16 : Int32)).toNatClampNeg + ((8200 : Int32)).toNatClampNeg + ((8200 : Int32)).toNatClampNeg + ((8200 : Int32)).toNatClampNeg + ((64 : Int32)).toNatClampNeg + ((8200 : Int32)).toNatClampNeg + ((8200 : Int32)).toNatClampNeg + ((8200 : Int32)).toNatClampNeg + ((32 : Int32)).toNatClampNeg + ((64 : Int32)).toNatClampNeg + ((34 : Int32)).toNatClampNeg + ((34 : Int32)).toNatClampNeg + ((34 : Int32)).toNatClampNeg + ((8300 : Int32)).toNatClampNeg + ((60000 : Int32)).toNatClampNeg + ((6 : Int32)).toNatClampNeg + ((8200 : Int32)).toNatClampNeg + ((64 : Int32)).toNatClampNeg + ((8200 : Int32)).toNatClampNeg + ((8200 : Int32)).toNatClampNeg + ((64 : Int32)).toNatClampNeg + ((32 : Int32)).toNatClampNeg + ((8200 : Int32)).toNatClampNeg + ((8200 : Int32)).toNatClampNeg, ?_, wf, ⟨by omega, by omega⟩, by rw [m_sl2]; omega, xx, ad, iM, mM⟩
  rw [m_blocks]
  refine (g0 _ _).trans ?_
  refine (g1 _ _).trans ?_
  refine (g2 _ _).trans ?_
  refine (g3 _ _).trans ?_
  refine (g4 _ _).trans ?_
  refine (g5 _ _).trans ?_
  refine (g6 _ _).trans ?_
  refine (g7 _ _).trans ?_
  refine (g8 _ _).trans ?_
  rfl
end NMO
