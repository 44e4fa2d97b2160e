/-! THE MODEL'S CURVE: the field's cells, twicePoint, addPoint -/
def mwC : Nat → Cl
  | 0 => .a 13 0 70
  | 1 => .a 13 0 71
  | 2 => .a 13 0 72
  | 3 => .a 13 0 74
  | 4 => .a 13 0 75
  | 5 => .a 13 0 76
  | 6 => .a 13 0 77
  | 7 => .a 13 0 78
  | 8 => .a 13 0 68
  | 9 => .a 13 0 69
  | _ => .a 13 0 66
def mcn : Cl → Nat
  | .inr (.inl (_, _, 70)) => 0
  | .inr (.inl (_, _, 71)) => 1
  | .inr (.inl (_, _, 72)) => 2
  | .inr (.inl (_, _, 74)) => 3
  | .inr (.inl (_, _, 75)) => 4
  | .inr (.inl (_, _, 76)) => 5
  | .inr (.inl (_, _, 77)) => 6
  | .inr (.inl (_, _, 78)) => 7
  | .inr (.inl (_, _, 68)) => 8
  | .inr (.inl (_, _, 69)) => 9
  | _ => 10
theorem mcn_mcl : ∀ i, i < 11 → mcn (mwC i) = i := by decide
theorem mcl_inj (i : Nat) (hi : i < 11) (k : Nat) (hk : k < 11) (h : mwC i = mwC k) : i = k := by
  have := congrArg mcn h
  rw [mcn_mcl i hi, mcn_mcl k hk] at this
  exact this
theorem mcl_ow : ∀ i, i < 11 → ow (mwC i) = (13, 0) := by decide
theorem mcl_no (i : Nat) (hi : i < 11) (q k : Nat) : mwC i ≠ .a 12 q k := fun e => by
  have := mcl_ow i hi
  rw [e] at this
  exact absurd this (by simp [ow])
theorem mcl_ok {W : WR} (h : isM W) (k : Nat) (hk : k < 11) : iok W (mwC k) 34 := by
  have : k = 0 ∨ k = 1 ∨ k = 2 ∨ k = 3 ∨ k = 4 ∨ k = 5 ∨ k = 6 ∨ k = 7 ∨ k = 8 ∨ k = 9 ∨ k = 10 := by omega
  rcases this with rfl | rfl | rfl | rfl | rfl | rfl | rfl | rfl | rfl | rfl | rfl <;> exact h.iok _ (by decide) rfl
def GV (S : ST) (c : Cl) (A : Int) : Prop := IV (igt S c) 8 (mf 8 pP A)
def MP (S : ST) (V : Nat → Int) : Prop := MdS S 1 8 pP ∧ ∀ k, k < 11 → GV S (mwC k) (V k)
abbrev isMp (W : WR) : Prop := W.r 13 0 58 = some (.o 12 1) ∧ isMd W 1 ∧ isM W
theorem isMp.d {W : WR} (h : isMp W) : isMd W 1 := h.2.1
theorem isMp.g58 {W : WR} (h : isMp W) (S : ST) : gfR (mem W S) (W.ad (.o 13 0)) 13 58 = some (W.ad (.o 12 1)) := gfR_m h.2.2.lo rfl h.1
def GJ (S : ST) (V : Nat → Int) (s : JP) : Prop := match s with
  | none => (S 13 0).f 73 = 1
  | some (x, y, z) => (S 13 0).f 73 = 0 ∧ V 0 = x ∧ V 1 = y ∧ V 2 = z ∧ z % (pP : Int) ≠ 0
abbrev MpL : List Cl := [mwC 0, mwC 1, mwC 2, mwC 3, mwC 4, mwC 5, mwC 6, mwC 7, .a 12 1 5]
/-- what sums of points leave -/
abbrev PF (S S' : ST) : Prop := fr [(12, 1), (13, 0)] S S' ∧ agr [73] [] [68, 69, 70, 71, 72, 74, 75, 76, 77, 78] [] (S 13 0) (S' 13 0)
theorem PF.refl (S : ST) : PF S S := ⟨fr.refl _ _, agr.refl _ _ _ _ _⟩
theorem PF.trans {S S1 S2 : ST} (h1 : PF S S1) (h2 : PF S1 S2) : PF S S2 := ⟨h1.1.trans h2.1, h1.2.trans h2.2⟩
theorem PF_i {S S' : ST} (h : ifr MpL S S') : PF S S' := ⟨h.fr (by simp [ow, mwC]), (h.agr (as := [70, 71, 72, 74, 75, 76, 77, 78]) (by simp [mwC])).mono (by simp) (by simp) (by simp) (by simp)⟩
theorem PF_f (S : ST) (v : Int32) : PF S (S.so 13 0 ((S 13 0).sf 73 v)) := ⟨fr_so (by simp), by rw [so_eq]; exact agr_sf (by simp)⟩
theorem MP.sf {S : ST} {V : Nat → Int} (h : MP S V) (v : Int32) : MP (S.so 13 0 ((S 13 0).sf 73 v)) V := by
  obtain ⟨⟨⟨a, b, c, d, e⟩, ⟨tw, f⟩, g, i⟩, j⟩ := h
  refine ⟨⟨⟨by rw [so_ne (by omega)]; exact a, b, c, by rw [igt_sf]; exact d, e⟩, ⟨tw, by rw [so_ne (by omega)]; exact f⟩, by rw [igt_sf]; exact g, by rw [igt_sf]; exact i⟩, fun k hk => ?_⟩
  unfold GV
  rw [igt_sf]
  exact j k hk
section GFLD
variable {W : WR} {G : mG} {F : Nat} {S : ST} {V : Nat → Int}
theorem MP.put {S' : ST} {k : Nat} {A : Int} {L : List Cl} (C : MP S V) (hk : k < 11) (f : ifr L S S') (hL : ∀ x ∈ L, x = mwC k ∨ x = .a 12 1 5 ∨ x = .a 12 1 6 ∨ x = .a 12 1 7 ∨ x = .a 12 1 8) (hv : IV (igt S' (mwC k)) 8 (mf 8 pP A)) : MP S' (iu V k A) := by
  have nin : ∀ j, j = 0 ∨ j = 3 ∨ j = 4 → (.a 12 1 j : Cl) ∉ L := by
    intro j hj q
    rcases hL _ q with e | e | e | e | e
    · exact mcl_no k hk 1 j e.symm
    · simp at e; omega
    · simp at e; omega
    · simp at e; omega
    · simp at e; omega
  refine ⟨C.1.ifr f (nin 0 (by omega)) (nin 3 (by omega)) (nin 4 (by omega)), fun j hj => ?_⟩
  unfold GV iu
  by_cases c : j = k
  · rw [if_pos c, c]; exact hv
  · rw [if_neg c, f.2 _ (fun q => by
      rcases hL _ q with e | e | e | e | e
      · exact c (mcl_inj j hj k hk e)
      · exact mcl_no j hj 1 _ e
      · exact mcl_no j hj 1 _ e
      · exact mcl_no j hj 1 _ e
      · exact mcl_no j hj 1 _ e)]
    exact C.2 j hj
theorem gm_product (X : Cx G F W) (h : isM W) (hp : isMp W) (C : MP S V) (i j k : Nat) (hi : i < 11) (hj : j < 11) (hk : k < 11) : ∃ S', P_X12_product G F (W.ad (.o 12 1)) (W.ad (mwC i)) (W.ad (mwC j)) (W.ad (mwC k)) (mem W S) = some (mem W S') ∧ ifr [mwC k, .a 12 1 5] S S' ∧ MP S' (iu V k (V i * V j)) := by
  obtain ⟨S1, g1, f1, v1⟩ := Q12_product (G := G) (F := F) X hp.d C.1.b C.1.tw (mcl_ok h i hi) (mcl_ok h j hj) (mcl_ok h k hk) (by omega) (by omega) (by omega) (mcl_no i hi 1 5) (mcl_no j hj 1 5) (mcl_no k hk 1 5).symm (mcl_no k hk 1 0).symm (C.2 i hi) (C.2 j hj) (mf_lt pP_1 _)
  rw [mf_mul pP_1 pP_2] at v1
  exact ⟨S1, g1, f1, C.put hk f1 (by simp) v1⟩
theorem gm_add (X : Cx G F W) (h : isM W) (hp : isMp W) (C : MP S V) (i j k : Nat) (hi : i < 11) (hj : j < 11) (hk : k < 11) : ∃ S', P_X12_add G F (W.ad (.o 12 1)) (W.ad (mwC i)) (W.ad (mwC j)) (W.ad (mwC k)) (mem W S) = some (mem W S') ∧ ifr [mwC k, .a 12 1 5] S S' ∧ MP S' (iu V k (V i + V j)) := by
  have l1 := mf_lt (n := 8) pP_1 (V i)
  have l2 := mf_lt (n := 8) pP_1 (V j)
  obtain ⟨S1, g1, f1, v1⟩ := Q12_add (G := G) (F := F) X hp.d C.1.b (mcl_ok h i hi) (mcl_ok h j hj) (mcl_ok h k hk) (by omega) (by omega) (by omega) (mcl_no k hk 1 0).symm (C.2 i hi) (C.2 j hj) (by omega)
  rw [mf_add pP_1] at v1
  exact ⟨S1, g1, f1.mono (by simp), C.put hk f1 (by simp) v1⟩
theorem gm_subtract (X : Cx G F W) (h : isM W) (hp : isMp W) (C : MP S V) (i j k : Nat) (hi : i < 11) (hj : j < 11) (hk : k < 11) : ∃ S', P_X12_subtract G F (W.ad (.o 12 1)) (W.ad (mwC i)) (W.ad (mwC j)) (W.ad (mwC k)) (mem W S) = some (mem W S') ∧ ifr [mwC k, .a 12 1 5] S S' ∧ MP S' (iu V k (V i - V j)) := by
  obtain ⟨S1, g1, f1, v1⟩ := Q12_subtract (G := G) (F := F) X hp.d C.1.b (mcl_ok h i hi) (mcl_ok h j hj) (mcl_ok h k hk) (by omega) (by omega) (by omega) (mcl_no k hk 1 0).symm (C.2 i hi) (C.2 j hj) (mf_lt pP_1 _) (mf_lt pP_1 _)
  rw [mf_sub pP_1] at v1
  exact ⟨S1, g1, f1.mono (by simp), C.put hk f1 (by simp) v1⟩
theorem gm_zero (X : Cx G F W) (h : isM W) (hp : isMp W) (C : MP S V) (i : Nat) (hi : i < 11) : P_X12_isZero G F (W.ad (.o 12 1)) (W.ad (mwC i)) (mem W S) = some (if V i % (pP : Int) = 0 then 1 else 0, mem W S) := by
  rw [Q12_isZero X hp.d (mcl_ok h i hi) (by omega) (by omega) C.1.b.1 (C.2 i hi)]
  simp only [mf_zero pP_1 pP_2]
theorem QM_twiceP {s : JP} (X : Cx G F W) (h : isM W) (hp : isMp W) (C : MP S V) (J : GJ S V s) : ∃ S' V', P_X13_twicePoint G F (W.ad (.o 13 0)) (mem W S) = some (mem W S') ∧ PF S S' ∧ MP S' V' ∧ (∀ k, 8 ≤ k → V' k = V k) ∧ GJ S' V' (dblS s) := by
  unfold P_X13_twicePoint
  rw [h.gI 73 rfl, bO_s]
  match s, J with
  | none, J =>
    have J : (S 13 0).f 73 = 1 := J
    rw [J, if_neg (by decide)]
    exact ⟨S, V, rfl, PF.refl _, C, fun _ _ => rfl, J⟩
  | some (x, y, z), J =>
    obtain ⟨jf, rfl, rfl, rfl, hz⟩ := J
    rw [jf, if_pos rfl]
    obtain ⟨S1, g1, f1, C1⟩ := gm_product (G := G) (F := F) X h hp C 2 2 6 (by decide) (by decide) (by decide)
    have g1' : P_X12_product G F (W.ad (.o 12 1)) (W.ad (.a 13 0 72)) (W.ad (.a 13 0 72)) (W.ad (.a 13 0 77)) (mem W S) = some (mem W S1) := g1
    obtain ⟨V1, hV1⟩ : ∃ Vn, Vn = iu V 6 (V 2 * V 2) := ⟨_, rfl⟩
    rw [← hV1] at C1
    rw [hp.g58, bO_s, h.gR 72 rfl (by decide), bO_s, bO_s, h.gR 77 rfl (by decide), bO_s, rcv_m hp.d.1, bO_s, g1', bO_s]
    obtain ⟨S2, g2, f2, C2⟩ := gm_subtract (G := G) (F := F) X h hp C1 0 6 7 (by decide) (by decide) (by decide)
    have g2' : P_X12_subtract G F (W.ad (.o 12 1)) (W.ad (.a 13 0 70)) (W.ad (.a 13 0 77)) (W.ad (.a 13 0 78)) (mem W S1) = some (mem W S2) := g2
    obtain ⟨V2, hV2⟩ : ∃ Vn, Vn = iu V1 7 (V1 0 - V1 6) := ⟨_, rfl⟩
    rw [← hV2] at C2
    rw [hp.g58, bO_s, h.gR 70 rfl (by decide), bO_s, h.gR 77 rfl (by decide), bO_s, h.gR 78 rfl (by decide), bO_s, rcv_m hp.d.1, bO_s, g2', bO_s]
    obtain ⟨S3, g3, f3, C3⟩ := gm_add (G := G) (F := F) X h hp C2 0 6 6 (by decide) (by decide) (by decide)
    have g3' : P_X12_add G F (W.ad (.o 12 1)) (W.ad (.a 13 0 70)) (W.ad (.a 13 0 77)) (W.ad (.a 13 0 77)) (mem W S2) = some (mem W S3) := g3
    obtain ⟨V3, hV3⟩ : ∃ Vn, Vn = iu V2 6 (V2 0 + V2 6) := ⟨_, rfl⟩
    rw [← hV3] at C3
    rw [hp.g58, bO_s, h.gR 70 rfl (by decide), bO_s, h.gR 77 rfl (by decide), bO_s, bO_s, rcv_m hp.d.1, bO_s, g3', bO_s]
    obtain ⟨S4, g4, f4, C4⟩ := gm_product (G := G) (F := F) X h hp C3 6 7 6 (by decide) (by decide) (by decide)
    have g4' : P_X12_product G F (W.ad (.o 12 1)) (W.ad (.a 13 0 77)) (W.ad (.a 13 0 78)) (W.ad (.a 13 0 77)) (mem W S3) = some (mem W S4) := g4
    obtain ⟨V4, hV4⟩ : ∃ Vn, Vn = iu V3 6 (V3 6 * V3 7) := ⟨_, rfl⟩
    rw [← hV4] at C4
    rw [hp.g58, bO_s, h.gR 77 rfl (by decide), bO_s, h.gR 78 rfl (by decide), bO_s, bO_s, rcv_m hp.d.1, bO_s, g4', bO_s]
    obtain ⟨S5, g5, f5, C5⟩ := gm_add (G := G) (F := F) X h hp C4 6 6 5 (by decide) (by decide) (by decide)
    have g5' : P_X12_add G F (W.ad (.o 12 1)) (W.ad (.a 13 0 77)) (W.ad (.a 13 0 77)) (W.ad (.a 13 0 76)) (mem W S4) = some (mem W S5) := g5
    obtain ⟨V5, hV5⟩ : ∃ Vn, Vn = iu V4 5 (V4 6 + V4 6) := ⟨_, rfl⟩
    rw [← hV5] at C5
    rw [hp.g58, bO_s, h.gR 77 rfl (by decide), bO_s, bO_s, h.gR 76 rfl (by decide), bO_s, rcv_m hp.d.1, bO_s, g5', bO_s]
    obtain ⟨S6, g6, f6, C6⟩ := gm_add (G := G) (F := F) X h hp C5 5 6 5 (by decide) (by decide) (by decide)
    have g6' : P_X12_add G F (W.ad (.o 12 1)) (W.ad (.a 13 0 76)) (W.ad (.a 13 0 77)) (W.ad (.a 13 0 76)) (mem W S5) = some (mem W S6) := g6
    obtain ⟨V6, hV6⟩ : ∃ Vn, Vn = iu V5 5 (V5 5 + V5 6) := ⟨_, rfl⟩
    rw [← hV6] at C6
    rw [hp.g58, bO_s, h.gR 76 rfl (by decide), bO_s, h.gR 77 rfl (by decide), bO_s, bO_s, rcv_m hp.d.1, bO_s, g6', bO_s]
    obtain ⟨S7, g7, f7, C7⟩ := gm_product (G := G) (F := F) X h hp C6 1 2 2 (by decide) (by decide) (by decide)
    have g7' : P_X12_product G F (W.ad (.o 12 1)) (W.ad (.a 13 0 71)) (W.ad (.a 13 0 72)) (W.ad (.a 13 0 72)) (mem W S6) = some (mem W S7) := g7
    obtain ⟨V7, hV7⟩ : ∃ Vn, Vn = iu V6 2 (V6 1 * V6 2) := ⟨_, rfl⟩
    rw [← hV7] at C7
    rw [hp.g58, bO_s, h.gR 71 rfl (by decide), bO_s, h.gR 72 rfl (by decide), bO_s, bO_s, rcv_m hp.d.1, bO_s, g7', bO_s]
    obtain ⟨S8, g8, f8, C8⟩ := gm_add (G := G) (F := F) X h hp C7 2 2 2 (by decide) (by decide) (by decide)
    have g8' : P_X12_add G F (W.ad (.o 12 1)) (W.ad (.a 13 0 72)) (W.ad (.a 13 0 72)) (W.ad (.a 13 0 72)) (mem W S7) = some (mem W S8) := g8
    obtain ⟨V8, hV8⟩ : ∃ Vn, Vn = iu V7 2 (V7 2 + V7 2) := ⟨_, rfl⟩
    rw [← hV8] at C8
    rw [hp.g58, bO_s, h.gR 72 rfl (by decide), bO_s, bO_s, bO_s, rcv_m hp.d.1, bO_s, g8', bO_s]
    obtain ⟨S9, g9, f9, C9⟩ := gm_product (G := G) (F := F) X h hp C8 1 1 3 (by decide) (by decide) (by decide)
    have g9' : P_X12_product G F (W.ad (.o 12 1)) (W.ad (.a 13 0 71)) (W.ad (.a 13 0 71)) (W.ad (.a 13 0 74)) (mem W S8) = some (mem W S9) := g9
    obtain ⟨V9, hV9⟩ : ∃ Vn, Vn = iu V8 3 (V8 1 * V8 1) := ⟨_, rfl⟩
    rw [← hV9] at C9
    rw [hp.g58, bO_s, h.gR 71 rfl (by decide), bO_s, bO_s, h.gR 74 rfl (by decide), bO_s, rcv_m hp.d.1, bO_s, g9', bO_s]
    obtain ⟨S10, g10, f10, C10⟩ := gm_product (G := G) (F := F) X h hp C9 0 3 4 (by decide) (by decide) (by decide)
    have g10' : P_X12_product G F (W.ad (.o 12 1)) (W.ad (.a 13 0 70)) (W.ad (.a 13 0 74)) (W.ad (.a 13 0 75)) (mem W S9) = some (mem W S10) := g10
    obtain ⟨V10, hV10⟩ : ∃ Vn, Vn = iu V9 4 (V9 0 * V9 3) := ⟨_, rfl⟩
    rw [← hV10] at C10
    rw [hp.g58, bO_s, h.gR 70 rfl (by decide), bO_s, h.gR 74 rfl (by decide), bO_s, h.gR 75 rfl (by decide), bO_s, rcv_m hp.d.1, bO_s, g10', bO_s]
    obtain ⟨S11, g11, f11, C11⟩ := gm_add (G := G) (F := F) X h hp C10 4 4 4 (by decide) (by decide) (by decide)
    have g11' : P_X12_add G F (W.ad (.o 12 1)) (W.ad (.a 13 0 75)) (W.ad (.a 13 0 75)) (W.ad (.a 13 0 75)) (mem W S10) = some (mem W S11) := g11
    obtain ⟨V11, hV11⟩ : ∃ Vn, Vn = iu V10 4 (V10 4 + V10 4) := ⟨_, rfl⟩
    rw [← hV11] at C11
    rw [hp.g58, bO_s, h.gR 75 rfl (by decide), bO_s, bO_s, bO_s, rcv_m hp.d.1, bO_s, g11', bO_s]
    obtain ⟨S12, g12, f12, C12⟩ := gm_add (G := G) (F := F) X h hp C11 4 4 4 (by decide) (by decide) (by decide)
    have g12' : P_X12_add G F (W.ad (.o 12 1)) (W.ad (.a 13 0 75)) (W.ad (.a 13 0 75)) (W.ad (.a 13 0 75)) (mem W S11) = some (mem W S12) := g12
    obtain ⟨V12, hV12⟩ : ∃ Vn, Vn = iu V11 4 (V11 4 + V11 4) := ⟨_, rfl⟩
    rw [← hV12] at C12
    rw [hp.g58, bO_s, h.gR 75 rfl (by decide), bO_s, bO_s, bO_s, rcv_m hp.d.1, bO_s, g12', bO_s]
    obtain ⟨S13, g13, f13, C13⟩ := gm_product (G := G) (F := F) X h hp C12 5 5 0 (by decide) (by decide) (by decide)
    have g13' : P_X12_product G F (W.ad (.o 12 1)) (W.ad (.a 13 0 76)) (W.ad (.a 13 0 76)) (W.ad (.a 13 0 70)) (mem W S12) = some (mem W S13) := g13
    obtain ⟨V13, hV13⟩ : ∃ Vn, Vn = iu V12 0 (V12 5 * V12 5) := ⟨_, rfl⟩
    rw [← hV13] at C13
    rw [hp.g58, bO_s, h.gR 76 rfl (by decide), bO_s, bO_s, h.gR 70 rfl (by decide), bO_s, rcv_m hp.d.1, bO_s, g13', bO_s]
    obtain ⟨S14, g14, f14, C14⟩ := gm_subtract (G := G) (F := F) X h hp C13 0 4 0 (by decide) (by decide) (by decide)
    have g14' : P_X12_subtract G F (W.ad (.o 12 1)) (W.ad (.a 13 0 70)) (W.ad (.a 13 0 75)) (W.ad (.a 13 0 70)) (mem W S13) = some (mem W S14) := g14
    obtain ⟨V14, hV14⟩ : ∃ Vn, Vn = iu V13 0 (V13 0 - V13 4) := ⟨_, rfl⟩
    rw [← hV14] at C14
    rw [hp.g58, bO_s, h.gR 70 rfl (by decide), bO_s, h.gR 75 rfl (by decide), bO_s, bO_s, rcv_m hp.d.1, bO_s, g14', bO_s]
    obtain ⟨S15, g15, f15, C15⟩ := gm_subtract (G := G) (F := F) X h hp C14 0 4 0 (by decide) (by decide) (by decide)
    have g15' : P_X12_subtract G F (W.ad (.o 12 1)) (W.ad (.a 13 0 70)) (W.ad (.a 13 0 75)) (W.ad (.a 13 0 70)) (mem W S14) = some (mem W S15) := g15
    obtain ⟨V15, hV15⟩ : ∃ Vn, Vn = iu V14 0 (V14 0 - V14 4) := ⟨_, rfl⟩
    rw [← hV15] at C15
    rw [hp.g58, bO_s, h.gR 70 rfl (by decide), bO_s, h.gR 75 rfl (by decide), bO_s, bO_s, rcv_m hp.d.1, bO_s, g15', bO_s]
    obtain ⟨S16, g16, f16, C16⟩ := gm_product (G := G) (F := F) X h hp C15 3 3 3 (by decide) (by decide) (by decide)
    have g16' : P_X12_product G F (W.ad (.o 12 1)) (W.ad (.a 13 0 74)) (W.ad (.a 13 0 74)) (W.ad (.a 13 0 74)) (mem W S15) = some (mem W S16) := g16
    obtain ⟨V16, hV16⟩ : ∃ Vn, Vn = iu V15 3 (V15 3 * V15 3) := ⟨_, rfl⟩
    rw [← hV16] at C16
    rw [hp.g58, bO_s, h.gR 74 rfl (by decide), bO_s, bO_s, bO_s, rcv_m hp.d.1, bO_s, g16', bO_s]
    obtain ⟨S17, g17, f17, C17⟩ := gm_add (G := G) (F := F) X h hp C16 3 3 3 (by decide) (by decide) (by decide)
    have g17' : P_X12_add G F (W.ad (.o 12 1)) (W.ad (.a 13 0 74)) (W.ad (.a 13 0 74)) (W.ad (.a 13 0 74)) (mem W S16) = some (mem W S17) := g17
    obtain ⟨V17, hV17⟩ : ∃ Vn, Vn = iu V16 3 (V16 3 + V16 3) := ⟨_, rfl⟩
    rw [← hV17] at C17
    rw [hp.g58, bO_s, h.gR 74 rfl (by decide), bO_s, bO_s, bO_s, rcv_m hp.d.1, bO_s, g17', bO_s]
    obtain ⟨S18, g18, f18, C18⟩ := gm_add (G := G) (F := F) X h hp C17 3 3 3 (by decide) (by decide) (by decide)
    have g18' : P_X12_add G F (W.ad (.o 12 1)) (W.ad (.a 13 0 74)) (W.ad (.a 13 0 74)) (W.ad (.a 13 0 74)) (mem W S17) = some (mem W S18) := g18
    obtain ⟨V18, hV18⟩ : ∃ Vn, Vn = iu V17 3 (V17 3 + V17 3) := ⟨_, rfl⟩
    rw [← hV18] at C18
    rw [hp.g58, bO_s, h.gR 74 rfl (by decide), bO_s, bO_s, bO_s, rcv_m hp.d.1, bO_s, g18', bO_s]
    obtain ⟨S19, g19, f19, C19⟩ := gm_add (G := G) (F := F) X h hp C18 3 3 3 (by decide) (by decide) (by decide)
    have g19' : P_X12_add G F (W.ad (.o 12 1)) (W.ad (.a 13 0 74)) (W.ad (.a 13 0 74)) (W.ad (.a 13 0 74)) (mem W S18) = some (mem W S19) := g19
    obtain ⟨V19, hV19⟩ : ∃ Vn, Vn = iu V18 3 (V18 3 + V18 3) := ⟨_, rfl⟩
    rw [← hV19] at C19
    rw [hp.g58, bO_s, h.gR 74 rfl (by decide), bO_s, bO_s, bO_s, rcv_m hp.d.1, bO_s, g19', bO_s]
    obtain ⟨S20, g20, f20, C20⟩ := gm_subtract (G := G) (F := F) X h hp C19 4 0 4 (by decide) (by decide) (by decide)
    have g20' : P_X12_subtract G F (W.ad (.o 12 1)) (W.ad (.a 13 0 75)) (W.ad (.a 13 0 70)) (W.ad (.a 13 0 75)) (mem W S19) = some (mem W S20) := g20
    obtain ⟨V20, hV20⟩ : ∃ Vn, Vn = iu V19 4 (V19 4 - V19 0) := ⟨_, rfl⟩
    rw [← hV20] at C20
    rw [hp.g58, bO_s, h.gR 75 rfl (by decide), bO_s, h.gR 70 rfl (by decide), bO_s, bO_s, rcv_m hp.d.1, bO_s, g20', bO_s]
    obtain ⟨S21, g21, f21, C21⟩ := gm_product (G := G) (F := F) X h hp C20 5 4 1 (by decide) (by decide) (by decide)
    have g21' : P_X12_product G F (W.ad (.o 12 1)) (W.ad (.a 13 0 76)) (W.ad (.a 13 0 75)) (W.ad (.a 13 0 71)) (mem W S20) = some (mem W S21) := g21
    obtain ⟨V21, hV21⟩ : ∃ Vn, Vn = iu V20 1 (V20 5 * V20 4) := ⟨_, rfl⟩
    rw [← hV21] at C21
    rw [hp.g58, bO_s, h.gR 76 rfl (by decide), bO_s, h.gR 75 rfl (by decide), bO_s, h.gR 71 rfl (by decide), bO_s, rcv_m hp.d.1, bO_s, g21', bO_s]
    obtain ⟨S22, g22, f22, C22⟩ := gm_subtract (G := G) (F := F) X h hp C21 1 3 1 (by decide) (by decide) (by decide)
    have g22' : P_X12_subtract G F (W.ad (.o 12 1)) (W.ad (.a 13 0 71)) (W.ad (.a 13 0 74)) (W.ad (.a 13 0 71)) (mem W S21) = some (mem W S22) := g22
    obtain ⟨V22, hV22⟩ : ∃ Vn, Vn = iu V21 1 (V21 1 - V21 3) := ⟨_, rfl⟩
    rw [← hV22] at C22
    rw [hp.g58, bO_s, h.gR 71 rfl (by decide), bO_s, h.gR 74 rfl (by decide), bO_s, bO_s, rcv_m hp.d.1, bO_s, g22', bO_s]
    have e0 : V22 0 = dX (V 0) (V 1) (V 2) := by
      simp only [hV22, hV21, hV20, hV19, hV18, hV17, hV16, hV15, hV14, hV13, hV12, hV11, hV10, hV9, hV8, hV7, hV6, hV5, hV4, hV3, hV2, hV1, iu]
      simp
      unfold dX dM dS_
      grind
    have e1 : V22 1 = dY (V 0) (V 1) (V 2) := by
      simp only [hV22, hV21, hV20, hV19, hV18, hV17, hV16, hV15, hV14, hV13, hV12, hV11, hV10, hV9, hV8, hV7, hV6, hV5, hV4, hV3, hV2, hV1, iu]
      simp
      unfold dY dX dM dS_
      grind
    have e2 : V22 2 = dZ (V 1) (V 2) := by
      simp only [hV22, hV21, hV20, hV19, hV18, hV17, hV16, hV15, hV14, hV13, hV12, hV11, hV10, hV9, hV8, hV7, hV6, hV5, hV4, hV3, hV2, hV1, iu]
      simp
      unfold dZ
      grind
    have ek : ∀ k, 8 ≤ k → V22 k = V k := by
      intro k hk
      have q : ∀ i, i < 8 → k ≠ i := fun i hi => by omega
      simp only [hV22, hV21, hV20, hV19, hV18, hV17, hV16, hV15, hV14, hV13, hV12, hV11, hV10, hV9, hV8, hV7, hV6, hV5, hV4, hV3, hV2, hV1, iu, q 0 (by omega), q 1 (by omega), q 2 (by omega), q 3 (by omega), q 4 (by omega), q 5 (by omega), q 6 (by omega), q 7 (by omega), if_false]
    have F0 : ifr MpL S S22 := ((((((((((((((((((((((f1.mono (by simp)).trans (f2.mono (by simp))).trans (f3.mono (by simp))).trans (f4.mono (by simp))).trans (f5.mono (by simp))).trans (f6.mono (by simp))).trans (f7.mono (by simp))).trans (f8.mono (by simp))).trans (f9.mono (by simp))).trans (f10.mono (by simp))).trans (f11.mono (by simp))).trans (f12.mono (by simp))).trans (f13.mono (by simp))).trans (f14.mono (by simp))).trans (f15.mono (by simp))).trans (f16.mono (by simp))).trans (f17.mono (by simp))).trans (f18.mono (by simp))).trans (f19.mono (by simp))).trans (f20.mono (by simp))).trans (f21.mono (by simp))).trans (f22.mono (by simp)))
    have z1 : P_X12_isZero G F (W.ad (.o 12 1)) (W.ad (.a 13 0 72)) (mem W S22) = _ := gm_zero (G := G) (F := F) X h hp C22 2 (by decide)
    rw [e2] at z1
    rw [hp.g58, bO_s, h.gR 72 rfl (by decide), bO_s, rcv_m hp.d.1, bO_s, z1, bP_s]
    unfold dblS
    by_cases c : dZ (V 1) (V 2) % (pP : Int) = 0
    · simp only [if_pos c]
      rw [pfZ_m h.lo rfl (Or.inr rfl), bO_s]
      exact ⟨_, V22, rfl, (PF_i F0).trans (PF_f _ _), C22.sf 1, ek, by show ((S22.so 13 0 _) 13 0).f 73 = 1; rw [so_eq, sf_f, if_pos rfl]⟩
    · simp only [if_neg c]
      rw [pfZ_m h.lo rfl (Or.inl rfl), bO_s]
      exact ⟨_, V22, rfl, (PF_i F0).trans (PF_f _ _), C22.sf 0, ek, by show ((S22.so 13 0 _) 13 0).f 73 = 0; rw [so_eq, sf_f, if_pos rfl], e0, e1, e2, c⟩
theorem QM_add9 (X : Cx G F W) (h : isM W) (hp : isMp W) {d8 d9 d3 : Nat → Nat} : ∀ (q j fuel : Nat) (S : ST), q < fuel → j + q = 8 → ID (igt S (.a 13 0 68)) 8 d8 → ID (igt S (.a 13 0 69)) 8 d9 → ID (igt S (.a 12 1 3)) 8 d3 → ID (igt S (.a 13 0 70)) j d8 → ID (igt S (.a 13 0 71)) j d9 → ID (igt S (.a 13 0 72)) j d3 → ∃ S', B_X13_addPoint_9 G F fuel (W.ad (.o 13 0)) (Int32.ofNat j) (mem W S) = some (mem W (S'.so 13 0 ((S' 13 0).sf 73 0))) ∧ ifr [mwC 0, mwC 1, mwC 2] S S' ∧ ID (igt S' (.a 13 0 70)) 8 d8 ∧ ID (igt S' (.a 13 0 71)) 8 d9 ∧ ID (igt S' (.a 13 0 72)) 8 d3 := by
  have o0 : iok W (.a 13 0 70) 34 := mcl_ok h 0 (by decide)
  have o1 : iok W (.a 13 0 71) 34 := mcl_ok h 1 (by decide)
  have o2 : iok W (.a 13 0 72) 34 := mcl_ok h 2 (by decide)
  have o8 : iok W (.a 13 0 68) 34 := mcl_ok h 8 (by decide)
  have o9 : iok W (.a 13 0 69) 34 := mcl_ok h 9 (by decide)
  have g3 : ∀ S : ST, gfR (mem W S) (W.ad (.o 12 1)) 12 3 = some (W.ad (.a 12 1 3)) := fun S => hp.d.gR (by omega)
  have snoc : ∀ (j : Nat) (f : Nat → Int32) (g : Nat → Nat), ID f j g → g j < 4294967296 → ID (upd f j (Int32.ofNat (g j))) (j + 1) g := by
    intro j f g hg hgl t h2
    by_cases c : t = j
    · rw [c, upd_eq]; exact ⟨rfl, hgl⟩
    · rw [upd_ne c]; exact hg t (by omega)
  intro q
  induction q with
  | zero =>
    intro j fuel S hf hj h8 h9 h3 q0 q1 q2
    obtain ⟨fuel, rfl⟩ : ∃ q, fuel = q + 1 := ⟨fuel - 1, by omega⟩
    obtain rfl : j = 8 := by omega
    rw [B_X13_addPoint_9, if_pos (by decide), pfZ_m h.lo rfl (Or.inl rfl), bO_s]
    exact ⟨S, rfl, ifr.refl _ _, q0, q1, q2⟩
  | succ q ih =>
    intro j fuel S hf hj h8 h9 h3 q0 q1 q2
    obtain ⟨fuel, rfl⟩ : ∃ q, fuel = q + 1 := ⟨fuel - 1, by omega⟩
    have a8 := h8 j (by omega)
    have a9 := h9 j (by omega)
    have a3 := h3 j (by omega)
    obtain ⟨S1, hS1⟩ : ∃ S1, S1 = ist S (.a 13 0 70) (upd (igt S (.a 13 0 70)) j (Int32.ofNat (d8 j))) := ⟨_, rfl⟩
    obtain ⟨S2, hS2⟩ : ∃ S2, S2 = ist S1 (.a 13 0 71) (upd (igt S1 (.a 13 0 71)) j (Int32.ofNat (d9 j))) := ⟨_, rfl⟩
    have f1 : ifr [mwC 0, mwC 1, mwC 2] S S1 := by rw [hS1]; exact ifr_ist (by simp [mwC])
    have f2 : ifr [mwC 0, mwC 1, mwC 2] S S2 := f1.trans (by rw [hS2]; exact ifr_ist (by simp [mwC]))
    have e9 : igt S1 (.a 13 0 69) j = (Int32.ofNat (d9 j)) := by rw [f1.2 _ (by simp [mwC])]; exact a9.1
    have e3 : igt S2 (.a 12 1 3) j = (Int32.ofNat (d3 j)) := by rw [f2.2 _ (by simp [mwC])]; exact a3.1
    rw [B_X13_addPoint_9, if_neg (by rw [lit 8]; exact fun q => absurd ((n_le (by omega) (by omega)).mp q) (by omega)), h.gR 70 rfl (by decide), bO_s, h.gR 68 rfl (by decide), bO_s, ix_get o8 (by omega), bO_s, a8.1, ix_set o0 (by omega), bO_s, ← hS1, h.gR 71 rfl (by decide), bO_s, h.gR 69 rfl (by decide), bO_s, ix_get o9 (by omega), bO_s, e9, ix_set o1 (by omega), bO_s, ← hS2, h.gR 72 rfl (by decide), bO_s, hp.g58, bO_s, g3, bO_s, ix_get hp.d.l3 (by omega), bO_s, e3, ix_set o2 (by omega), bO_s, n_addL j 1]
    obtain ⟨S', g1, g2, g3, g4, g5⟩ := ih (j + 1) fuel (ist S2 (.a 13 0 72) (upd (igt S2 (.a 13 0 72)) j (Int32.ofNat (d3 j)))) (by omega) (by omega) (by rw [igt_ne (by simp), f2.2 _ (by simp [mwC])]; exact h8) (by rw [igt_ne (by simp), f2.2 _ (by simp [mwC])]; exact h9) (by rw [igt_ne (by simp), f2.2 _ (by simp [mwC])]; exact h3) (by rw [igt_ne (by simp), hS2, igt_ne (by simp), hS1, igt_eq o0]; exact snoc _ _ _ q0 a8.2) (by rw [igt_ne (by simp), hS2, igt_eq o1, hS1, igt_ne (by simp)]; exact snoc _ _ _ q1 a9.2) (by rw [igt_eq o2, hS2, igt_ne (by simp), hS1, igt_ne (by simp)]; exact snoc _ _ _ q2 a3.2)
    exact ⟨S', g1, (f2.trans (ifr_ist (by simp [mwC]))).trans g2, g3, g4, g5⟩
theorem QM_addP {s : JP} (pr : PrP) (X : Cx G F W) (h : isM W) (hp : isMp W) (C : MP S V) (J : GJ S V s) : ∃ S' V', P_X13_addPoint G F (W.ad (.o 13 0)) (mem W S) = some (mem W S') ∧ PF S S' ∧ MP S' V' ∧ (∀ k, 8 ≤ k → V' k = V k) ∧ GJ S' V' (addS s (V 8, V 9)) := by
  have hF := X.hF
  have p1 : (1 : Int) % (pP : Int) = 1 := Int.emod_eq_of_lt (by omega) (by have := pP_1; omega)
  unfold P_X13_addPoint
  rw [h.gI 73 rfl, bO_s]
  match s, J with
  | none, J =>
    have J : (S 13 0).f 73 = 1 := J
    rw [J, if_neg (by decide)]
    obtain ⟨d8, h8, v8⟩ := C.2 8 (by decide)
    obtain ⟨d9, h9, v9⟩ := C.2 9 (by decide)
    obtain ⟨d3, h3, v3⟩ := C.1.unit
    obtain ⟨S1, g1, f1, q0, q1, q2⟩ := QM_add9 (G := G) (F := F) X h hp (d8 := d8) (d9 := d9) (d3 := d3) 8 0 F S (by omega) (by omega) h8 h9 h3 (fun t ht => by omega) (fun t ht => by omega) (fun t ht => by omega)
    have g1' : B_X13_addPoint_9 G F F (W.ad (.o 13 0)) 0 (mem W S) = _ := g1
    have eu : vN d3 8 = mf 8 pP 1 := by
      rw [v3]
      unfold mf
      have : rs pP 1 = 1 := by
        unfold rs
        rw [p1]
        rfl
      rw [this, Nat.one_mul]
    have C1 : MP S1 (iu (iu (iu V 0 (V 8)) 1 (V 9)) 2 1) := by
      refine ⟨C.1.ifr f1 (by simp [mwC]) (by simp [mwC]) (by simp [mwC]), fun k hk => ?_⟩
      unfold GV iu
      by_cases c2 : k = 2
      · rw [if_pos c2, c2]; exact ⟨d3, q2, eu⟩
      · rw [if_neg c2]
        by_cases c1 : k = 1
        · rw [if_pos c1, c1]; exact ⟨d9, q1, v9⟩
        · rw [if_neg c1]
          by_cases c0 : k = 0
          · rw [if_pos c0, c0]; exact ⟨d8, q0, v8⟩
          · rw [if_neg c0, f1.2 _ (by
              simp
              exact ⟨fun e => c0 (mcl_inj k hk 0 (by decide) e), fun e => c1 (mcl_inj k hk 1 (by decide) e), fun e => c2 (mcl_inj k hk 2 (by decide) e)⟩)]
            exact C.2 k hk
    rw [g1']
    refine ⟨_, _, rfl, (PF_i (f1.mono (by simp))).trans (PF_f _ _), C1.sf 0, fun k hk => ?_, ?_⟩
    · unfold iu
      rw [if_neg (by omega), if_neg (by omega), if_neg (by omega)]
    · refine ⟨by rw [so_eq, sf_f, if_pos rfl], ?_, ?_, ?_, by rw [p1]; decide⟩
      · simp [iu]
      · simp [iu]
      · simp [iu]
  | some (x, y, z), J =>
    obtain ⟨jf, rfl, rfl, rfl, hz⟩ := J
    rw [jf, if_pos rfl]
    obtain ⟨S1, g1, f1, C1⟩ := gm_product (G := G) (F := F) X h hp C 2 2 3 (by decide) (by decide) (by decide)
    have g1' : P_X12_product G F (W.ad (.o 12 1)) (W.ad (.a 13 0 72)) (W.ad (.a 13 0 72)) (W.ad (.a 13 0 74)) (mem W S) = some (mem W S1) := g1
    obtain ⟨V1, hV1⟩ : ∃ Vn, Vn = iu V 3 (V 2 * V 2) := ⟨_, rfl⟩
    rw [← hV1] at C1
    rw [hp.g58, bO_s, h.gR 72 rfl (by decide), bO_s, bO_s, h.gR 74 rfl (by decide), bO_s, rcv_m hp.d.1, bO_s, g1', bO_s]
    obtain ⟨S2, g2, f2, C2⟩ := gm_product (G := G) (F := F) X h hp C1 8 3 4 (by decide) (by decide) (by decide)
    have g2' : P_X12_product G F (W.ad (.o 12 1)) (W.ad (.a 13 0 68)) (W.ad (.a 13 0 74)) (W.ad (.a 13 0 75)) (mem W S1) = some (mem W S2) := g2
    obtain ⟨V2, hV2⟩ : ∃ Vn, Vn = iu V1 4 (V1 8 * V1 3) := ⟨_, rfl⟩
    rw [← hV2] at C2
    rw [hp.g58, bO_s, h.gR 68 rfl (by decide), bO_s, h.gR 74 rfl (by decide), bO_s, h.gR 75 rfl (by decide), bO_s, rcv_m hp.d.1, bO_s, g2', bO_s]
    obtain ⟨S3, g3, f3, C3⟩ := gm_product (G := G) (F := F) X h hp C2 3 2 3 (by decide) (by decide) (by decide)
    have g3' : P_X12_product G F (W.ad (.o 12 1)) (W.ad (.a 13 0 74)) (W.ad (.a 13 0 72)) (W.ad (.a 13 0 74)) (mem W S2) = some (mem W S3) := g3
    obtain ⟨V3, hV3⟩ : ∃ Vn, Vn = iu V2 3 (V2 3 * V2 2) := ⟨_, rfl⟩
    rw [← hV3] at C3
    rw [hp.g58, bO_s, h.gR 74 rfl (by decide), bO_s, h.gR 72 rfl (by decide), bO_s, bO_s, rcv_m hp.d.1, bO_s, g3', bO_s]
    obtain ⟨S4, g4, f4, C4⟩ := gm_product (G := G) (F := F) X h hp C3 9 3 5 (by decide) (by decide) (by decide)
    have g4' : P_X12_product G F (W.ad (.o 12 1)) (W.ad (.a 13 0 69)) (W.ad (.a 13 0 74)) (W.ad (.a 13 0 76)) (mem W S3) = some (mem W S4) := g4
    obtain ⟨V4, hV4⟩ : ∃ Vn, Vn = iu V3 5 (V3 9 * V3 3) := ⟨_, rfl⟩
    rw [← hV4] at C4
    rw [hp.g58, bO_s, h.gR 69 rfl (by decide), bO_s, h.gR 74 rfl (by decide), bO_s, h.gR 76 rfl (by decide), bO_s, rcv_m hp.d.1, bO_s, g4', bO_s]
    obtain ⟨S5, g5, f5, C5⟩ := gm_subtract (G := G) (F := F) X h hp C4 4 0 4 (by decide) (by decide) (by decide)
    have g5' : P_X12_subtract G F (W.ad (.o 12 1)) (W.ad (.a 13 0 75)) (W.ad (.a 13 0 70)) (W.ad (.a 13 0 75)) (mem W S4) = some (mem W S5) := g5
    obtain ⟨V5, hV5⟩ : ∃ Vn, Vn = iu V4 4 (V4 4 - V4 0) := ⟨_, rfl⟩
    rw [← hV5] at C5
    rw [hp.g58, bO_s, h.gR 75 rfl (by decide), bO_s, h.gR 70 rfl (by decide), bO_s, bO_s, rcv_m hp.d.1, bO_s, g5', bO_s]
    obtain ⟨S6, g6, f6, C6⟩ := gm_subtract (G := G) (F := F) X h hp C5 5 1 5 (by decide) (by decide) (by decide)
    have g6' : P_X12_subtract G F (W.ad (.o 12 1)) (W.ad (.a 13 0 76)) (W.ad (.a 13 0 71)) (W.ad (.a 13 0 76)) (mem W S5) = some (mem W S6) := g6
    obtain ⟨V6, hV6⟩ : ∃ Vn, Vn = iu V5 5 (V5 5 - V5 1) := ⟨_, rfl⟩
    rw [← hV6] at C6
    rw [hp.g58, bO_s, h.gR 76 rfl (by decide), bO_s, h.gR 71 rfl (by decide), bO_s, bO_s, rcv_m hp.d.1, bO_s, g6', bO_s]
    have eh : V6 4 = aH (V 8) (V 0) (V 2) := by
      simp only [hV6, hV5, hV4, hV3, hV2, hV1, iu]
      simp
      unfold aH
      rfl
    have er : V6 5 = aJ (V 9) (V 1) (V 2) := by
      simp only [hV6, hV5, hV4, hV3, hV2, hV1, iu]
      simp
      unfold aJ
      rfl
    have e0 : V6 0 = V 0 := by simp only [hV6, hV5, hV4, hV3, hV2, hV1, iu]; simp
    have e1 : V6 1 = V 1 := by simp only [hV6, hV5, hV4, hV3, hV2, hV1, iu]; simp
    have e2 : V6 2 = V 2 := by simp only [hV6, hV5, hV4, hV3, hV2, hV1, iu]; simp
    have ek : ∀ k, 8 ≤ k → V6 k = V k := by
      intro k hk
      have q : ∀ i, i < 8 → k ≠ i := fun i hi => by omega
      simp only [hV6, hV5, hV4, hV3, hV2, hV1, iu, q 0 (by omega), q 1 (by omega), q 2 (by omega), q 3 (by omega), q 4 (by omega), q 5 (by omega), q 6 (by omega), q 7 (by omega), if_false]
    have F0 : ifr MpL S S6 := ((((((f1.mono (by simp)).trans (f2.mono (by simp))).trans (f3.mono (by simp))).trans (f4.mono (by simp))).trans (f5.mono (by simp))).trans (f6.mono (by simp)))
    have z1 : P_X12_isZero G F (W.ad (.o 12 1)) (W.ad (.a 13 0 75)) (mem W S6) = _ := gm_zero (G := G) (F := F) X h hp C6 4 (by decide)
    have z2 : P_X12_isZero G F (W.ad (.o 12 1)) (W.ad (.a 13 0 76)) (mem W S6) = _ := gm_zero (G := G) (F := F) X h hp C6 5 (by decide)
    rw [eh] at z1
    rw [er] at z2
    have jf' : (S6 13 0).f 73 = 0 := by rw [(F0.1 13 0).1]; exact jf
    rw [hp.g58, bO_s, h.gR 75 rfl (by decide), bO_s, rcv_m hp.d.1, bO_s, z1, bP_s]
    unfold addS
    by_cases ch : aH (V 8) (V 0) (V 2) % (pP : Int) = 0
    · simp only [if_pos ch]
      rw [if_neg (by decide), hp.g58, bO_s, h.gR 76 rfl (by decide), bO_s, rcv_m hp.d.1, bO_s, z2, bP_s]
      by_cases cr : aJ (V 9) (V 1) (V 2) % (pP : Int) = 0
      · simp only [if_pos cr]
        rw [if_neg (by decide), rcv_m h.lo, bO_s]
        obtain ⟨Sa, Va, ga, fa, Ca, ka, Ja⟩ := QM_twiceP (G := G) (F := F) (s := some (V 0, V 1, V 2)) X h hp C6 ⟨jf', e0, e1, e2, hz⟩
        rw [ga, bO_s]
        exact ⟨Sa, Va, rfl, (PF_i F0).trans fa, Ca, fun k hk => (ka k hk).trans (ek k hk), Ja⟩
      · simp only [if_neg cr]
        rw [if_pos trivial, pfZ_m h.lo rfl (Or.inr rfl), bO_s]
        exact ⟨_, V6, rfl, (PF_i F0).trans (PF_f _ _), C6.sf 1, ek, by show ((S6.so 13 0 _) 13 0).f 73 = 1; rw [so_eq, sf_f, if_pos rfl]⟩
    · simp only [if_neg ch]
      rw [if_pos trivial]
      obtain ⟨S7, g7, f7, C7⟩ := gm_product (G := G) (F := F) X h hp C6 2 4 2 (by decide) (by decide) (by decide)
      have g7' : P_X12_product G F (W.ad (.o 12 1)) (W.ad (.a 13 0 72)) (W.ad (.a 13 0 75)) (W.ad (.a 13 0 72)) (mem W S6) = some (mem W S7) := g7
      obtain ⟨V7, hV7⟩ : ∃ Vn, Vn = iu V6 2 (V6 2 * V6 4) := ⟨_, rfl⟩
      rw [← hV7] at C7
      rw [hp.g58, bO_s, h.gR 72 rfl (by decide), bO_s, h.gR 75 rfl (by decide), bO_s, bO_s, rcv_m hp.d.1, bO_s, g7', bO_s]
      obtain ⟨S8, g8, f8, C8⟩ := gm_product (G := G) (F := F) X h hp C7 4 4 6 (by decide) (by decide) (by decide)
      have g8' : P_X12_product G F (W.ad (.o 12 1)) (W.ad (.a 13 0 75)) (W.ad (.a 13 0 75)) (W.ad (.a 13 0 77)) (mem W S7) = some (mem W S8) := g8
      obtain ⟨V8, hV8⟩ : ∃ Vn, Vn = iu V7 6 (V7 4 * V7 4) := ⟨_, rfl⟩
      rw [← hV8] at C8
      rw [hp.g58, bO_s, h.gR 75 rfl (by decide), bO_s, bO_s, h.gR 77 rfl (by decide), bO_s, rcv_m hp.d.1, bO_s, g8', bO_s]
      obtain ⟨S9, g9, f9, C9⟩ := gm_product (G := G) (F := F) X h hp C8 6 4 7 (by decide) (by decide) (by decide)
      have g9' : P_X12_product G F (W.ad (.o 12 1)) (W.ad (.a 13 0 77)) (W.ad (.a 13 0 75)) (W.ad (.a 13 0 78)) (mem W S8) = some (mem W S9) := g9
      obtain ⟨V9, hV9⟩ : ∃ Vn, Vn = iu V8 7 (V8 6 * V8 4) := ⟨_, rfl⟩
      rw [← hV9] at C9
      rw [hp.g58, bO_s, h.gR 77 rfl (by decide), bO_s, h.gR 75 rfl (by decide), bO_s, h.gR 78 rfl (by decide), bO_s, rcv_m hp.d.1, bO_s, g9', bO_s]
      obtain ⟨S10, g10, f10, C10⟩ := gm_product (G := G) (F := F) X h hp C9 0 6 6 (by decide) (by decide) (by decide)
      have g10' : P_X12_product G F (W.ad (.o 12 1)) (W.ad (.a 13 0 70)) (W.ad (.a 13 0 77)) (W.ad (.a 13 0 77)) (mem W S9) = some (mem W S10) := g10
      obtain ⟨V10, hV10⟩ : ∃ Vn, Vn = iu V9 6 (V9 0 * V9 6) := ⟨_, rfl⟩
      rw [← hV10] at C10
      rw [hp.g58, bO_s, h.gR 70 rfl (by decide), bO_s, h.gR 77 rfl (by decide), bO_s, bO_s, rcv_m hp.d.1, bO_s, g10', bO_s]
      obtain ⟨S11, g11, f11, C11⟩ := gm_product (G := G) (F := F) X h hp C10 5 5 0 (by decide) (by decide) (by decide)
      have g11' : P_X12_product G F (W.ad (.o 12 1)) (W.ad (.a 13 0 76)) (W.ad (.a 13 0 76)) (W.ad (.a 13 0 70)) (mem W S10) = some (mem W S11) := g11
      obtain ⟨V11, hV11⟩ : ∃ Vn, Vn = iu V10 0 (V10 5 * V10 5) := ⟨_, rfl⟩
      rw [← hV11] at C11
      rw [hp.g58, bO_s, h.gR 76 rfl (by decide), bO_s, bO_s, h.gR 70 rfl (by decide), bO_s, rcv_m hp.d.1, bO_s, g11', bO_s]
      obtain ⟨S12, g12, f12, C12⟩ := gm_subtract (G := G) (F := F) X h hp C11 0 7 0 (by decide) (by decide) (by decide)
      have g12' : P_X12_subtract G F (W.ad (.o 12 1)) (W.ad (.a 13 0 70)) (W.ad (.a 13 0 78)) (W.ad (.a 13 0 70)) (mem W S11) = some (mem W S12) := g12
      obtain ⟨V12, hV12⟩ : ∃ Vn, Vn = iu V11 0 (V11 0 - V11 7) := ⟨_, rfl⟩
      rw [← hV12] at C12
      rw [hp.g58, bO_s, h.gR 70 rfl (by decide), bO_s, h.gR 78 rfl (by decide), bO_s, bO_s, rcv_m hp.d.1, bO_s, g12', bO_s]
      obtain ⟨S13, g13, f13, C13⟩ := gm_subtract (G := G) (F := F) X h hp C12 0 6 0 (by decide) (by decide) (by decide)
      have g13' : P_X12_subtract G F (W.ad (.o 12 1)) (W.ad (.a 13 0 70)) (W.ad (.a 13 0 77)) (W.ad (.a 13 0 70)) (mem W S12) = some (mem W S13) := g13
      obtain ⟨V13, hV13⟩ : ∃ Vn, Vn = iu V12 0 (V12 0 - V12 6) := ⟨_, rfl⟩
      rw [← hV13] at C13
      rw [hp.g58, bO_s, h.gR 70 rfl (by decide), bO_s, h.gR 77 rfl (by decide), bO_s, bO_s, rcv_m hp.d.1, bO_s, g13', bO_s]
      obtain ⟨S14, g14, f14, C14⟩ := gm_subtract (G := G) (F := F) X h hp C13 0 6 0 (by decide) (by decide) (by decide)
      have g14' : P_X12_subtract G F (W.ad (.o 12 1)) (W.ad (.a 13 0 70)) (W.ad (.a 13 0 77)) (W.ad (.a 13 0 70)) (mem W S13) = some (mem W S14) := g14
      obtain ⟨V14, hV14⟩ : ∃ Vn, Vn = iu V13 0 (V13 0 - V13 6) := ⟨_, rfl⟩
      rw [← hV14] at C14
      rw [hp.g58, bO_s, h.gR 70 rfl (by decide), bO_s, h.gR 77 rfl (by decide), bO_s, bO_s, rcv_m hp.d.1, bO_s, g14', bO_s]
      obtain ⟨S15, g15, f15, C15⟩ := gm_product (G := G) (F := F) X h hp C14 1 7 7 (by decide) (by decide) (by decide)
      have g15' : P_X12_product G F (W.ad (.o 12 1)) (W.ad (.a 13 0 71)) (W.ad (.a 13 0 78)) (W.ad (.a 13 0 78)) (mem W S14) = some (mem W S15) := g15
      obtain ⟨V15, hV15⟩ : ∃ Vn, Vn = iu V14 7 (V14 1 * V14 7) := ⟨_, rfl⟩
      rw [← hV15] at C15
      rw [hp.g58, bO_s, h.gR 71 rfl (by decide), bO_s, h.gR 78 rfl (by decide), bO_s, bO_s, rcv_m hp.d.1, bO_s, g15', bO_s]
      obtain ⟨S16, g16, f16, C16⟩ := gm_subtract (G := G) (F := F) X h hp C15 6 0 6 (by decide) (by decide) (by decide)
      have g16' : P_X12_subtract G F (W.ad (.o 12 1)) (W.ad (.a 13 0 77)) (W.ad (.a 13 0 70)) (W.ad (.a 13 0 77)) (mem W S15) = some (mem W S16) := g16
      obtain ⟨V16, hV16⟩ : ∃ Vn, Vn = iu V15 6 (V15 6 - V15 0) := ⟨_, rfl⟩
      rw [← hV16] at C16
      rw [hp.g58, bO_s, h.gR 77 rfl (by decide), bO_s, h.gR 70 rfl (by decide), bO_s, bO_s, rcv_m hp.d.1, bO_s, g16', bO_s]
      obtain ⟨S17, g17, f17, C17⟩ := gm_product (G := G) (F := F) X h hp C16 5 6 1 (by decide) (by decide) (by decide)
      have g17' : P_X12_product G F (W.ad (.o 12 1)) (W.ad (.a 13 0 76)) (W.ad (.a 13 0 77)) (W.ad (.a 13 0 71)) (mem W S16) = some (mem W S17) := g17
      obtain ⟨V17, hV17⟩ : ∃ Vn, Vn = iu V16 1 (V16 5 * V16 6) := ⟨_, rfl⟩
      rw [← hV17] at C17
      rw [hp.g58, bO_s, h.gR 76 rfl (by decide), bO_s, h.gR 77 rfl (by decide), bO_s, h.gR 71 rfl (by decide), bO_s, rcv_m hp.d.1, bO_s, g17', bO_s]
      obtain ⟨S18, g18, f18, C18⟩ := gm_subtract (G := G) (F := F) X h hp C17 1 7 1 (by decide) (by decide) (by decide)
      have g18' : P_X12_subtract G F (W.ad (.o 12 1)) (W.ad (.a 13 0 71)) (W.ad (.a 13 0 78)) (W.ad (.a 13 0 71)) (mem W S17) = some (mem W S18) := g18
      obtain ⟨V18, hV18⟩ : ∃ Vn, Vn = iu V17 1 (V17 1 - V17 7) := ⟨_, rfl⟩
      rw [← hV18] at C18
      rw [hp.g58, bO_s, h.gR 71 rfl (by decide), bO_s, h.gR 78 rfl (by decide), bO_s, bO_s, rcv_m hp.d.1, bO_s, g18', bO_s]
      have F1 : ifr MpL S6 S18 := ((((((((((((f7.mono (by simp)).trans (f8.mono (by simp))).trans (f9.mono (by simp))).trans (f10.mono (by simp))).trans (f11.mono (by simp))).trans (f12.mono (by simp))).trans (f13.mono (by simp))).trans (f14.mono (by simp))).trans (f15.mono (by simp))).trans (f16.mono (by simp))).trans (f17.mono (by simp))).trans (f18.mono (by simp)))
      have ek2 : ∀ k, 8 ≤ k → V18 k = V k := by
        intro k hk
        rw [← ek k hk]
        have q : ∀ i, i < 8 → k ≠ i := fun i hi => by omega
        simp only [hV18, hV17, hV16, hV15, hV14, hV13, hV12, hV11, hV10, hV9, hV8, hV7, iu, q 0 (by omega), q 1 (by omega), q 2 (by omega), q 3 (by omega), q 4 (by omega), q 5 (by omega), q 6 (by omega), q 7 (by omega), if_false]
      refine ⟨S18, V18, rfl, (PF_i F0).trans (PF_i F1), C18, ek2, by rw [(F1.1 13 0).1]; exact jf', ?_, ?_, ?_, ?_⟩
      · rw [← eh, ← er, ← e0]
        simp only [hV18, hV17, hV16, hV15, hV14, hV13, hV12, hV11, hV10, hV9, hV8, hV7, iu]
        simp
        unfold aX'
        grind
      · rw [← eh, ← er, ← e0, ← e1]
        simp only [hV18, hV17, hV16, hV15, hV14, hV13, hV12, hV11, hV10, hV9, hV8, hV7, iu]
        simp
        unfold aY' aX'
        grind
      · rw [← eh, ← e2]
        simp only [hV18, hV17, hV16, hV15, hV14, hV13, hV12, hV11, hV10, hV9, hV8, hV7, iu]
        simp
      · intro q
        rcases pr _ _ q with q | q
        · exact hz q
        · exact ch q
end GFLD
