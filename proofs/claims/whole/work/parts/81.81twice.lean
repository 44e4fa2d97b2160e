/-! THE CLASS'S CURVE: twice -/
def dM (x z : Int) : Int := 3 * ((x - z * z) * (x + z * z))
def dS_ (x y : Int) : Int := 4 * (x * (y * y))
def dX (x y z : Int) : Int := dM x z * dM x z - 2 * dS_ x y
def dY (x y z : Int) : Int := dM x z * (dS_ x y - dX x y z) - 8 * (y * y * (y * y))
def dZ (y z : Int) : Int := 2 * (y * z)
abbrev JP : Type := Option (Int × Int × Int)
def dblS (s : JP) : JP := match s with
  | none => none
  | some (x, y, z) => if dZ y z % (pP : Int) = 0 then none else some (dX x y z, dY x y z, dZ y z)
def CJ (V : Nat → Int) (s : JP) : Prop := match s with
  | none => V 2 % (pP : Int) = 0
  | some (x, y, z) => V 0 = x ∧ V 1 = y ∧ V 2 = z ∧ z % (pP : Int) ≠ 0
/-- all cells that the sums write -/
abbrev CuL : List Cl := [wc 0, wc 1, wc 2, wc 3, wc 4, wc 5, wc 6, wc 7, wc 8, .a 6 1 7]
theorem dz_0 {y z : Int} (h : z % (pP : Int) = 0) : dZ y z % (pP : Int) = 0 := by
  unfold dZ
  rw [Int.mul_emod, Int.mul_emod y, h, Int.mul_zero, Int.zero_emod, Int.mul_zero, Int.zero_emod]
section TWICE
variable {W : WR} {G : mG} {F : Nat} {S : ST} {V : Nat → Int}
theorem isCu.gl (h : isCu W) (k j : Nat) (hk : (k = 0 ∧ j < 2) ∨ (k = 1 ∧ j < 2) ∨ (k = 10 ∧ j < 3) ∨ (k = 11 ∧ j < 6)) (S : ST) : aR (mem W S) 6 (W.ad (.a 3 0 k)) (@OfNat.ofNat Int32 j Int32.instOfNat) = some (W.ad (.b 3 0 k j)) := h.ge k j hk S
theorem Q3_twice (X : Cx G F W) (h : isCu W) (C : CS S V) : ∃ S' V', P_X3_twice G F (W.ad (.o 3 0)) (mem W S) = some (mem W S') ∧ lfr CuL S S' ∧ CS S' V' ∧ (∀ k, 9 ≤ k → V' k = V k) ∧ V' 0 = dX (V 0) (V 1) (V 2) ∧ V' 1 = dY (V 0) (V 1) (V 2) ∧ V' 2 = dZ (V 1) (V 2) := by
  unfold P_X3_twice
  obtain ⟨S1, g1, f1, C1⟩ := cu_times (G := G) (F := F) X h C 2 2 3 (by decide) (by decide) (by decide)
  have g1' : P_X6_times G F (W.ad (.o 6 1)) (W.ad (.b 3 0 10 2)) (W.ad (.b 3 0 10 2)) (W.ad (.b 3 0 11 0)) (mem W S) = some (mem W S1) := g1
  obtain ⟨V1, hV1⟩ : ∃ Vn, Vn = iu V 3 (V 2 * V 2) := ⟨_, rfl⟩
  rw [← hV1] at C1
  rw [h.gA 10 (by decide) rfl, bO_s, h.gl 10 0 (by decide), bO_s, bO_s, h.gl 10 1 (by decide), bO_s, bO_s, h.gl 10 2 (by decide), bO_s, h.gf, bO_s, h.gA 11 (by decide) rfl, bO_s, h.gl 11 0 (by decide), bO_s, rcv_m h.mo.1, bO_s, g1', bO_s]
  obtain ⟨S2, g2, f2, C2⟩ := cu_times (G := G) (F := F) X h C1 1 1 4 (by decide) (by decide) (by decide)
  have g2' : P_X6_times G F (W.ad (.o 6 1)) (W.ad (.b 3 0 10 1)) (W.ad (.b 3 0 10 1)) (W.ad (.b 3 0 11 1)) (mem W S1) = some (mem W S2) := g2
  obtain ⟨V2, hV2⟩ : ∃ Vn, Vn = iu V1 4 (V1 1 * V1 1) := ⟨_, rfl⟩
  rw [← hV2] at C2
  rw [h.gf, bO_s, h.gA 11 (by decide) rfl, bO_s, h.gl 11 1 (by decide), bO_s, rcv_m h.mo.1, bO_s, g2', bO_s]
  obtain ⟨S3, g3, f3, C3⟩ := cu_times (G := G) (F := F) X h C2 0 4 5 (by decide) (by decide) (by decide)
  have g3' : P_X6_times G F (W.ad (.o 6 1)) (W.ad (.b 3 0 10 0)) (W.ad (.b 3 0 11 1)) (W.ad (.b 3 0 11 2)) (mem W S2) = some (mem W S3) := g3
  obtain ⟨V3, hV3⟩ : ∃ Vn, Vn = iu V2 5 (V2 0 * V2 4) := ⟨_, rfl⟩
  rw [← hV3] at C3
  rw [h.gf, bO_s, h.gA 11 (by decide) rfl, bO_s, h.gl 11 1 (by decide), bO_s, bO_s, h.gl 11 2 (by decide), bO_s, rcv_m h.mo.1, bO_s, g3', bO_s]
  obtain ⟨S4, g4, f4, C4⟩ := cu_minus (G := G) (F := F) X h C3 0 3 6 (by decide) (by decide) (by decide)
  have g4' : P_X6_minus G F (W.ad (.o 6 1)) (W.ad (.b 3 0 10 0)) (W.ad (.b 3 0 11 0)) (W.ad (.b 3 0 11 3)) (mem W S3) = some (mem W S4) := g4
  obtain ⟨V4, hV4⟩ : ∃ Vn, Vn = iu V3 6 (V3 0 - V3 3) := ⟨_, rfl⟩
  rw [← hV4] at C4
  rw [h.gf, bO_s, h.gA 11 (by decide) rfl, bO_s, h.gl 11 0 (by decide), bO_s, bO_s, h.gl 11 3 (by decide), bO_s, rcv_m h.mo.1, bO_s, g4', bO_s]
  obtain ⟨S5, g5, f5, C5⟩ := cu_plus (G := G) (F := F) X h C4 0 3 7 (by decide) (by decide) (by decide)
  have g5' : P_X6_plus G F (W.ad (.o 6 1)) (W.ad (.b 3 0 10 0)) (W.ad (.b 3 0 11 0)) (W.ad (.b 3 0 11 4)) (mem W S4) = some (mem W S5) := g5
  obtain ⟨V5, hV5⟩ : ∃ Vn, Vn = iu V4 7 (V4 0 + V4 3) := ⟨_, rfl⟩
  rw [← hV5] at C5
  rw [h.gf, bO_s, h.gA 11 (by decide) rfl, bO_s, h.gl 11 0 (by decide), bO_s, bO_s, h.gl 11 4 (by decide), bO_s, rcv_m h.mo.1, bO_s, g5', bO_s]
  obtain ⟨S6, g6, f6, C6⟩ := cu_times (G := G) (F := F) X h C5 6 7 6 (by decide) (by decide) (by decide)
  have g6' : P_X6_times G F (W.ad (.o 6 1)) (W.ad (.b 3 0 11 3)) (W.ad (.b 3 0 11 4)) (W.ad (.b 3 0 11 3)) (mem W S5) = some (mem W S6) := g6
  obtain ⟨V6, hV6⟩ : ∃ Vn, Vn = iu V5 6 (V5 6 * V5 7) := ⟨_, rfl⟩
  rw [← hV6] at C6
  rw [h.gf, bO_s, h.gA 11 (by decide) rfl, bO_s, h.gl 11 3 (by decide), bO_s, bO_s, h.gl 11 4 (by decide), bO_s, bO_s, h.gl 11 3 (by decide), bO_s, rcv_m h.mo.1, bO_s, g6', bO_s]
  obtain ⟨S7, g7, f7, C7⟩ := cu_plus (G := G) (F := F) X h C6 6 6 7 (by decide) (by decide) (by decide)
  have g7' : P_X6_plus G F (W.ad (.o 6 1)) (W.ad (.b 3 0 11 3)) (W.ad (.b 3 0 11 3)) (W.ad (.b 3 0 11 4)) (mem W S6) = some (mem W S7) := g7
  obtain ⟨V7, hV7⟩ : ∃ Vn, Vn = iu V6 7 (V6 6 + V6 6) := ⟨_, rfl⟩
  rw [← hV7] at C7
  rw [h.gf, bO_s, h.gA 11 (by decide) rfl, bO_s, h.gl 11 3 (by decide), bO_s, bO_s, h.gl 11 3 (by decide), bO_s, bO_s, h.gl 11 4 (by decide), bO_s, rcv_m h.mo.1, bO_s, g7', bO_s]
  obtain ⟨S8, g8, f8, C8⟩ := cu_plus (G := G) (F := F) X h C7 7 6 6 (by decide) (by decide) (by decide)
  have g8' : P_X6_plus G F (W.ad (.o 6 1)) (W.ad (.b 3 0 11 4)) (W.ad (.b 3 0 11 3)) (W.ad (.b 3 0 11 3)) (mem W S7) = some (mem W S8) := g8
  obtain ⟨V8, hV8⟩ : ∃ Vn, Vn = iu V7 6 (V7 7 + V7 6) := ⟨_, rfl⟩
  rw [← hV8] at C8
  rw [h.gf, bO_s, h.gA 11 (by decide) rfl, bO_s, h.gl 11 4 (by decide), bO_s, bO_s, h.gl 11 3 (by decide), bO_s, bO_s, h.gl 11 3 (by decide), bO_s, rcv_m h.mo.1, bO_s, g8', bO_s]
  obtain ⟨S9, g9, f9, C9⟩ := cu_plus (G := G) (F := F) X h C8 1 2 2 (by decide) (by decide) (by decide)
  have g9' : P_X6_plus G F (W.ad (.o 6 1)) (W.ad (.b 3 0 10 1)) (W.ad (.b 3 0 10 2)) (W.ad (.b 3 0 10 2)) (mem W S8) = some (mem W S9) := g9
  obtain ⟨V9, hV9⟩ : ∃ Vn, Vn = iu V8 2 (V8 1 + V8 2) := ⟨_, rfl⟩
  rw [← hV9] at C9
  rw [h.gf, bO_s, rcv_m h.mo.1, bO_s, g9', bO_s]
  obtain ⟨S10, g10, f10, C10⟩ := cu_times (G := G) (F := F) X h C9 2 2 2 (by decide) (by decide) (by decide)
  have g10' : P_X6_times G F (W.ad (.o 6 1)) (W.ad (.b 3 0 10 2)) (W.ad (.b 3 0 10 2)) (W.ad (.b 3 0 10 2)) (mem W S9) = some (mem W S10) := g10
  obtain ⟨V10, hV10⟩ : ∃ Vn, Vn = iu V9 2 (V9 2 * V9 2) := ⟨_, rfl⟩
  rw [← hV10] at C10
  rw [h.gf, bO_s, rcv_m h.mo.1, bO_s, g10', bO_s]
  obtain ⟨S11, g11, f11, C11⟩ := cu_minus (G := G) (F := F) X h C10 2 4 2 (by decide) (by decide) (by decide)
  have g11' : P_X6_minus G F (W.ad (.o 6 1)) (W.ad (.b 3 0 10 2)) (W.ad (.b 3 0 11 1)) (W.ad (.b 3 0 10 2)) (mem W S10) = some (mem W S11) := g11
  obtain ⟨V11, hV11⟩ : ∃ Vn, Vn = iu V10 2 (V10 2 - V10 4) := ⟨_, rfl⟩
  rw [← hV11] at C11
  rw [h.gf, bO_s, h.gA 11 (by decide) rfl, bO_s, h.gl 11 1 (by decide), bO_s, rcv_m h.mo.1, bO_s, g11', bO_s]
  obtain ⟨S12, g12, f12, C12⟩ := cu_minus (G := G) (F := F) X h C11 2 3 2 (by decide) (by decide) (by decide)
  have g12' : P_X6_minus G F (W.ad (.o 6 1)) (W.ad (.b 3 0 10 2)) (W.ad (.b 3 0 11 0)) (W.ad (.b 3 0 10 2)) (mem W S11) = some (mem W S12) := g12
  obtain ⟨V12, hV12⟩ : ∃ Vn, Vn = iu V11 2 (V11 2 - V11 3) := ⟨_, rfl⟩
  rw [← hV12] at C12
  rw [h.gf, bO_s, h.gA 11 (by decide) rfl, bO_s, h.gl 11 0 (by decide), bO_s, rcv_m h.mo.1, bO_s, g12', bO_s]
  obtain ⟨S13, g13, f13, C13⟩ := cu_plus (G := G) (F := F) X h C12 5 5 5 (by decide) (by decide) (by decide)
  have g13' : P_X6_plus G F (W.ad (.o 6 1)) (W.ad (.b 3 0 11 2)) (W.ad (.b 3 0 11 2)) (W.ad (.b 3 0 11 2)) (mem W S12) = some (mem W S13) := g13
  obtain ⟨V13, hV13⟩ : ∃ Vn, Vn = iu V12 5 (V12 5 + V12 5) := ⟨_, rfl⟩
  rw [← hV13] at C13
  rw [h.gf, bO_s, h.gA 11 (by decide) rfl, bO_s, h.gl 11 2 (by decide), bO_s, bO_s, h.gl 11 2 (by decide), bO_s, bO_s, h.gl 11 2 (by decide), bO_s, rcv_m h.mo.1, bO_s, g13', bO_s]
  obtain ⟨S14, g14, f14, C14⟩ := cu_plus (G := G) (F := F) X h C13 5 5 5 (by decide) (by decide) (by decide)
  have g14' : P_X6_plus G F (W.ad (.o 6 1)) (W.ad (.b 3 0 11 2)) (W.ad (.b 3 0 11 2)) (W.ad (.b 3 0 11 2)) (mem W S13) = some (mem W S14) := g14
  obtain ⟨V14, hV14⟩ : ∃ Vn, Vn = iu V13 5 (V13 5 + V13 5) := ⟨_, rfl⟩
  rw [← hV14] at C14
  rw [h.gf, bO_s, h.gA 11 (by decide) rfl, bO_s, h.gl 11 2 (by decide), bO_s, bO_s, h.gl 11 2 (by decide), bO_s, bO_s, h.gl 11 2 (by decide), bO_s, rcv_m h.mo.1, bO_s, g14', bO_s]
  obtain ⟨S15, g15, f15, C15⟩ := cu_times (G := G) (F := F) X h C14 6 6 0 (by decide) (by decide) (by decide)
  have g15' : P_X6_times G F (W.ad (.o 6 1)) (W.ad (.b 3 0 11 3)) (W.ad (.b 3 0 11 3)) (W.ad (.b 3 0 10 0)) (mem W S14) = some (mem W S15) := g15
  obtain ⟨V15, hV15⟩ : ∃ Vn, Vn = iu V14 0 (V14 6 * V14 6) := ⟨_, rfl⟩
  rw [← hV15] at C15
  rw [h.gf, bO_s, h.gA 11 (by decide) rfl, bO_s, h.gl 11 3 (by decide), bO_s, bO_s, h.gl 11 3 (by decide), bO_s, rcv_m h.mo.1, bO_s, g15', bO_s]
  obtain ⟨S16, g16, f16, C16⟩ := cu_minus (G := G) (F := F) X h C15 0 5 0 (by decide) (by decide) (by decide)
  have g16' : P_X6_minus G F (W.ad (.o 6 1)) (W.ad (.b 3 0 10 0)) (W.ad (.b 3 0 11 2)) (W.ad (.b 3 0 10 0)) (mem W S15) = some (mem W S16) := g16
  obtain ⟨V16, hV16⟩ : ∃ Vn, Vn = iu V15 0 (V15 0 - V15 5) := ⟨_, rfl⟩
  rw [← hV16] at C16
  rw [h.gf, bO_s, h.gA 11 (by decide) rfl, bO_s, h.gl 11 2 (by decide), bO_s, rcv_m h.mo.1, bO_s, g16', bO_s]
  obtain ⟨S17, g17, f17, C17⟩ := cu_minus (G := G) (F := F) X h C16 0 5 0 (by decide) (by decide) (by decide)
  have g17' : P_X6_minus G F (W.ad (.o 6 1)) (W.ad (.b 3 0 10 0)) (W.ad (.b 3 0 11 2)) (W.ad (.b 3 0 10 0)) (mem W S16) = some (mem W S17) := g17
  obtain ⟨V17, hV17⟩ : ∃ Vn, Vn = iu V16 0 (V16 0 - V16 5) := ⟨_, rfl⟩
  rw [← hV17] at C17
  rw [h.gf, bO_s, h.gA 11 (by decide) rfl, bO_s, h.gl 11 2 (by decide), bO_s, rcv_m h.mo.1, bO_s, g17', bO_s]
  obtain ⟨S18, g18, f18, C18⟩ := cu_times (G := G) (F := F) X h C17 4 4 4 (by decide) (by decide) (by decide)
  have g18' : P_X6_times G F (W.ad (.o 6 1)) (W.ad (.b 3 0 11 1)) (W.ad (.b 3 0 11 1)) (W.ad (.b 3 0 11 1)) (mem W S17) = some (mem W S18) := g18
  obtain ⟨V18, hV18⟩ : ∃ Vn, Vn = iu V17 4 (V17 4 * V17 4) := ⟨_, rfl⟩
  rw [← hV18] at C18
  rw [h.gf, bO_s, h.gA 11 (by decide) rfl, bO_s, h.gl 11 1 (by decide), bO_s, bO_s, h.gl 11 1 (by decide), bO_s, bO_s, h.gl 11 1 (by decide), bO_s, rcv_m h.mo.1, bO_s, g18', bO_s]
  obtain ⟨S19, g19, f19, C19⟩ := cu_plus (G := G) (F := F) X h C18 4 4 4 (by decide) (by decide) (by decide)
  have g19' : P_X6_plus G F (W.ad (.o 6 1)) (W.ad (.b 3 0 11 1)) (W.ad (.b 3 0 11 1)) (W.ad (.b 3 0 11 1)) (mem W S18) = some (mem W S19) := g19
  obtain ⟨V19, hV19⟩ : ∃ Vn, Vn = iu V18 4 (V18 4 + V18 4) := ⟨_, rfl⟩
  rw [← hV19] at C19
  rw [h.gf, bO_s, h.gA 11 (by decide) rfl, bO_s, h.gl 11 1 (by decide), bO_s, bO_s, h.gl 11 1 (by decide), bO_s, bO_s, h.gl 11 1 (by decide), bO_s, rcv_m h.mo.1, bO_s, g19', bO_s]
  obtain ⟨S20, g20, f20, C20⟩ := cu_plus (G := G) (F := F) X h C19 4 4 4 (by decide) (by decide) (by decide)
  have g20' : P_X6_plus G F (W.ad (.o 6 1)) (W.ad (.b 3 0 11 1)) (W.ad (.b 3 0 11 1)) (W.ad (.b 3 0 11 1)) (mem W S19) = some (mem W S20) := g20
  obtain ⟨V20, hV20⟩ : ∃ Vn, Vn = iu V19 4 (V19 4 + V19 4) := ⟨_, rfl⟩
  rw [← hV20] at C20
  rw [h.gf, bO_s, h.gA 11 (by decide) rfl, bO_s, h.gl 11 1 (by decide), bO_s, bO_s, h.gl 11 1 (by decide), bO_s, bO_s, h.gl 11 1 (by decide), bO_s, rcv_m h.mo.1, bO_s, g20', bO_s]
  obtain ⟨S21, g21, f21, C21⟩ := cu_plus (G := G) (F := F) X h C20 4 4 4 (by decide) (by decide) (by decide)
  have g21' : P_X6_plus G F (W.ad (.o 6 1)) (W.ad (.b 3 0 11 1)) (W.ad (.b 3 0 11 1)) (W.ad (.b 3 0 11 1)) (mem W S20) = some (mem W S21) := g21
  obtain ⟨V21, hV21⟩ : ∃ Vn, Vn = iu V20 4 (V20 4 + V20 4) := ⟨_, rfl⟩
  rw [← hV21] at C21
  rw [h.gf, bO_s, h.gA 11 (by decide) rfl, bO_s, h.gl 11 1 (by decide), bO_s, bO_s, h.gl 11 1 (by decide), bO_s, bO_s, h.gl 11 1 (by decide), bO_s, rcv_m h.mo.1, bO_s, g21', bO_s]
  obtain ⟨S22, g22, f22, C22⟩ := cu_minus (G := G) (F := F) X h C21 5 0 5 (by decide) (by decide) (by decide)
  have g22' : P_X6_minus G F (W.ad (.o 6 1)) (W.ad (.b 3 0 11 2)) (W.ad (.b 3 0 10 0)) (W.ad (.b 3 0 11 2)) (mem W S21) = some (mem W S22) := g22
  obtain ⟨V22, hV22⟩ : ∃ Vn, Vn = iu V21 5 (V21 5 - V21 0) := ⟨_, rfl⟩
  rw [← hV22] at C22
  rw [h.gf, bO_s, h.gA 11 (by decide) rfl, bO_s, h.gl 11 2 (by decide), bO_s, bO_s, h.gl 11 2 (by decide), bO_s, rcv_m h.mo.1, bO_s, g22', bO_s]
  obtain ⟨S23, g23, f23, C23⟩ := cu_times (G := G) (F := F) X h C22 6 5 1 (by decide) (by decide) (by decide)
  have g23' : P_X6_times G F (W.ad (.o 6 1)) (W.ad (.b 3 0 11 3)) (W.ad (.b 3 0 11 2)) (W.ad (.b 3 0 10 1)) (mem W S22) = some (mem W S23) := g23
  obtain ⟨V23, hV23⟩ : ∃ Vn, Vn = iu V22 1 (V22 6 * V22 5) := ⟨_, rfl⟩
  rw [← hV23] at C23
  rw [h.gf, bO_s, h.gA 11 (by decide) rfl, bO_s, h.gl 11 3 (by decide), bO_s, bO_s, h.gl 11 2 (by decide), bO_s, rcv_m h.mo.1, bO_s, g23', bO_s]
  obtain ⟨S24, g24, f24, C24⟩ := cu_minus (G := G) (F := F) X h C23 1 4 1 (by decide) (by decide) (by decide)
  have g24' : P_X6_minus G F (W.ad (.o 6 1)) (W.ad (.b 3 0 10 1)) (W.ad (.b 3 0 11 1)) (W.ad (.b 3 0 10 1)) (mem W S23) = some (mem W S24) := g24
  obtain ⟨V24, hV24⟩ : ∃ Vn, Vn = iu V23 1 (V23 1 - V23 4) := ⟨_, rfl⟩
  rw [← hV24] at C24
  rw [h.gf, bO_s, h.gA 11 (by decide) rfl, bO_s, h.gl 11 1 (by decide), bO_s, rcv_m h.mo.1, bO_s, g24', bO_s]
  refine ⟨S24, V24, rfl, ((((((((((((((((((((((((f1.mono (by simp)).trans (f2.mono (by simp))).trans (f3.mono (by simp))).trans (f4.mono (by simp))).trans (f5.mono (by simp))).trans (f6.mono (by simp))).trans (f7.mono (by simp))).trans (f8.mono (by simp))).trans (f9.mono (by simp))).trans (f10.mono (by simp))).trans (f11.mono (by simp))).trans (f12.mono (by simp))).trans (f13.mono (by simp))).trans (f14.mono (by simp))).trans (f15.mono (by simp))).trans (f16.mono (by simp))).trans (f17.mono (by simp))).trans (f18.mono (by simp))).trans (f19.mono (by simp))).trans (f20.mono (by simp))).trans (f21.mono (by simp))).trans (f22.mono (by simp))).trans (f23.mono (by simp))).trans (f24.mono (by simp))), C24, ?_, ?_, ?_, ?_⟩
  · intro k hk
    have q : ∀ i, i < 9 → k ≠ i := fun i hi => by omega
    simp only [hV24, hV23, hV22, hV21, hV20, hV19, hV18, hV17, hV16, hV15, hV14, hV13, hV12, hV11, hV10, hV9, hV8, hV7, hV6, hV5, hV4, hV3, hV2, hV1, iu, q 0 (by omega), q 1 (by omega), q 2 (by omega), q 3 (by omega), q 4 (by omega), q 5 (by omega), q 6 (by omega), q 7 (by omega), q 8 (by omega), if_false]
  · simp only [hV24, hV23, hV22, hV21, hV20, hV19, hV18, hV17, hV16, hV15, hV14, hV13, hV12, hV11, hV10, hV9, hV8, hV7, hV6, hV5, hV4, hV3, hV2, hV1, iu]
    simp
    unfold dX dM dS_
    grind
  · simp only [hV24, hV23, hV22, hV21, hV20, hV19, hV18, hV17, hV16, hV15, hV14, hV13, hV12, hV11, hV10, hV9, hV8, hV7, hV6, hV5, hV4, hV3, hV2, hV1, iu]
    simp
    unfold dY dX dM dS_
    grind
  · simp only [hV24, hV23, hV22, hV21, hV20, hV19, hV18, hV17, hV16, hV15, hV14, hV13, hV12, hV11, hV10, hV9, hV8, hV7, hV6, hV5, hV4, hV3, hV2, hV1, iu]
    simp
    unfold dZ
    grind
end TWICE
