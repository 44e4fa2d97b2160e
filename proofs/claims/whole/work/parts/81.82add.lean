/-! THE CLASS'S CURVE: add -/
def aH (px x z : Int) : Int := px * (z * z) - x
def aJ (py y z : Int) : Int := py * (z * z * z) - y
def aX' (h r x : Int) : Int := r * r - h * (h * h) - 2 * (x * (h * h))
def aY' (h r x y : Int) : Int := r * (x * (h * h) - aX' h r x) - y * (h * (h * h))
section ADDP
variable {W : WR} {G : mG} {F : Nat} {S : ST} {V : Nat → Int}
theorem cu_copy (h : isCu W) (C : CS S V) (i k : Nat) (hi : i < 15) (hk : k < 15) : ∃ S', cpL G (mem W S) (W.ad (wc i)) 0 (W.ad (wc k)) 0 8 = some (mem W S') ∧ lfr [wc k, .a 6 1 7] S S' ∧ CS S' (iu V k (V i)) := by
  have cp := lx_cp (G := G) (S := S) (p := 0) (q := 0) (cnt := 8) (h.lk hi) (h.lk hk) (by omega) (by omega)
  have f1 : lfr [wc k, .a 6 1 7] S (lst S (wc k) (va_cpy (lgt S (wc i)) (lgt S (wc k)) 0 0 8)) := lfr_lst (by simp)
  refine ⟨_, cp, f1, C.put hk f1 ?_⟩
  rw [lgt_eq (h.lk hk)]
  refine LV.congr (C.2 i hi) (fun t ht => ?_)
  unfold va_cpy
  rw [if_pos (by omega)]
  congr 1
  omega
theorem Q3_add227 (X : Cx G F W) (h : isCu W) (C : CS S V) : ∃ S' V', B_X3_add_227 G F (W.ad (.o 3 0)) (W.ad (.b 3 0 10 0)) (W.ad (.b 3 0 10 1)) (W.ad (.b 3 0 10 2)) (mem W S) = some (1, mem W S') ∧ lfr CuL S S' ∧ CS S' V' ∧ (∀ k, 9 ≤ k → V' k = V k) ∧ V' 0 = aX' (V 4) (V 5) (V 0) ∧ V' 1 = aY' (V 4) (V 5) (V 0) (V 1) ∧ V' 2 = V 2 * V 4 := by
  unfold B_X3_add_227
  obtain ⟨S1, g1, f1, C1⟩ := cu_times (G := G) (F := F) X h C 2 4 2 (by decide) (by decide) (by decide)
  have g1' : P_X6_times G F (W.ad (.o 6 1)) (W.ad (.b 3 0 10 2)) (W.ad (.b 3 0 11 1)) (W.ad (.b 3 0 10 2)) (mem W S) = some (mem W S1) := g1
  obtain ⟨V1, hV1⟩ : ∃ Vn, Vn = iu V 2 (V 2 * V 4) := ⟨_, rfl⟩
  rw [← hV1] at C1
  rw [h.gf, bO_s, h.gA 11 (by decide) rfl, bO_s, h.gl 11 1 (by decide), bO_s, rcv_m h.mo.1, bO_s, g1', bO_s]
  obtain ⟨S2, g2, f2, C2⟩ := cu_times (G := G) (F := F) X h C1 4 4 6 (by decide) (by decide) (by decide)
  have g2' : P_X6_times G F (W.ad (.o 6 1)) (W.ad (.b 3 0 11 1)) (W.ad (.b 3 0 11 1)) (W.ad (.b 3 0 11 3)) (mem W S1) = some (mem W S2) := g2
  obtain ⟨V2, hV2⟩ : ∃ Vn, Vn = iu V1 6 (V1 4 * V1 4) := ⟨_, rfl⟩
  rw [← hV2] at C2
  rw [h.gf, bO_s, h.gA 11 (by decide) rfl, bO_s, h.gl 11 1 (by decide), bO_s, bO_s, h.gl 11 1 (by decide), bO_s, bO_s, h.gl 11 3 (by decide), bO_s, rcv_m h.mo.1, bO_s, g2', bO_s]
  obtain ⟨S3, g3, f3, C3⟩ := cu_times (G := G) (F := F) X h C2 4 6 7 (by decide) (by decide) (by decide)
  have g3' : P_X6_times G F (W.ad (.o 6 1)) (W.ad (.b 3 0 11 1)) (W.ad (.b 3 0 11 3)) (W.ad (.b 3 0 11 4)) (mem W S2) = some (mem W S3) := g3
  obtain ⟨V3, hV3⟩ : ∃ Vn, Vn = iu V2 7 (V2 4 * V2 6) := ⟨_, rfl⟩
  rw [← hV3] at C3
  rw [h.gf, bO_s, h.gA 11 (by decide) rfl, bO_s, h.gl 11 1 (by decide), bO_s, bO_s, h.gl 11 3 (by decide), bO_s, bO_s, h.gl 11 4 (by decide), bO_s, rcv_m h.mo.1, bO_s, g3', bO_s]
  obtain ⟨S4, g4, f4, C4⟩ := cu_times (G := G) (F := F) X h C3 0 6 6 (by decide) (by decide) (by decide)
  have g4' : P_X6_times G F (W.ad (.o 6 1)) (W.ad (.b 3 0 10 0)) (W.ad (.b 3 0 11 3)) (W.ad (.b 3 0 11 3)) (mem W S3) = some (mem W S4) := g4
  obtain ⟨V4, hV4⟩ : ∃ Vn, Vn = iu V3 6 (V3 0 * V3 6) := ⟨_, rfl⟩
  rw [← hV4] at C4
  rw [h.gf, bO_s, h.gA 11 (by decide) rfl, bO_s, h.gl 11 3 (by decide), bO_s, bO_s, h.gl 11 3 (by decide), bO_s, rcv_m h.mo.1, bO_s, g4', bO_s]
  obtain ⟨S5, g5, f5, C5⟩ := cu_times (G := G) (F := F) X h C4 5 5 0 (by decide) (by decide) (by decide)
  have g5' : P_X6_times G F (W.ad (.o 6 1)) (W.ad (.b 3 0 11 2)) (W.ad (.b 3 0 11 2)) (W.ad (.b 3 0 10 0)) (mem W S4) = some (mem W S5) := g5
  obtain ⟨V5, hV5⟩ : ∃ Vn, Vn = iu V4 0 (V4 5 * V4 5) := ⟨_, rfl⟩
  rw [← hV5] at C5
  rw [h.gf, bO_s, h.gA 11 (by decide) rfl, bO_s, h.gl 11 2 (by decide), bO_s, bO_s, h.gl 11 2 (by decide), bO_s, rcv_m h.mo.1, bO_s, g5', bO_s]
  obtain ⟨S6, g6, f6, C6⟩ := cu_minus (G := G) (F := F) X h C5 0 7 0 (by decide) (by decide) (by decide)
  have g6' : P_X6_minus G F (W.ad (.o 6 1)) (W.ad (.b 3 0 10 0)) (W.ad (.b 3 0 11 4)) (W.ad (.b 3 0 10 0)) (mem W S5) = some (mem W S6) := g6
  obtain ⟨V6, hV6⟩ : ∃ Vn, Vn = iu V5 0 (V5 0 - V5 7) := ⟨_, rfl⟩
  rw [← hV6] at C6
  rw [h.gf, bO_s, h.gA 11 (by decide) rfl, bO_s, h.gl 11 4 (by decide), bO_s, rcv_m h.mo.1, bO_s, g6', bO_s]
  obtain ⟨S7, g7, f7, C7⟩ := cu_minus (G := G) (F := F) X h C6 0 6 0 (by decide) (by decide) (by decide)
  have g7' : P_X6_minus G F (W.ad (.o 6 1)) (W.ad (.b 3 0 10 0)) (W.ad (.b 3 0 11 3)) (W.ad (.b 3 0 10 0)) (mem W S6) = some (mem W S7) := g7
  obtain ⟨V7, hV7⟩ : ∃ Vn, Vn = iu V6 0 (V6 0 - V6 6) := ⟨_, rfl⟩
  rw [← hV7] at C7
  rw [h.gf, bO_s, h.gA 11 (by decide) rfl, bO_s, h.gl 11 3 (by decide), bO_s, rcv_m h.mo.1, bO_s, g7', bO_s]
  obtain ⟨S8, g8, f8, C8⟩ := cu_minus (G := G) (F := F) X h C7 0 6 0 (by decide) (by decide) (by decide)
  have g8' : P_X6_minus G F (W.ad (.o 6 1)) (W.ad (.b 3 0 10 0)) (W.ad (.b 3 0 11 3)) (W.ad (.b 3 0 10 0)) (mem W S7) = some (mem W S8) := g8
  obtain ⟨V8, hV8⟩ : ∃ Vn, Vn = iu V7 0 (V7 0 - V7 6) := ⟨_, rfl⟩
  rw [← hV8] at C8
  rw [h.gf, bO_s, h.gA 11 (by decide) rfl, bO_s, h.gl 11 3 (by decide), bO_s, rcv_m h.mo.1, bO_s, g8', bO_s]
  obtain ⟨S9, g9, f9, C9⟩ := cu_minus (G := G) (F := F) X h C8 6 0 6 (by decide) (by decide) (by decide)
  have g9' : P_X6_minus G F (W.ad (.o 6 1)) (W.ad (.b 3 0 11 3)) (W.ad (.b 3 0 10 0)) (W.ad (.b 3 0 11 3)) (mem W S8) = some (mem W S9) := g9
  obtain ⟨V9, hV9⟩ : ∃ Vn, Vn = iu V8 6 (V8 6 - V8 0) := ⟨_, rfl⟩
  rw [← hV9] at C9
  rw [h.gf, bO_s, h.gA 11 (by decide) rfl, bO_s, h.gl 11 3 (by decide), bO_s, bO_s, h.gl 11 3 (by decide), bO_s, rcv_m h.mo.1, bO_s, g9', bO_s]
  obtain ⟨S10, g10, f10, C10⟩ := cu_times (G := G) (F := F) X h C9 5 6 6 (by decide) (by decide) (by decide)
  have g10' : P_X6_times G F (W.ad (.o 6 1)) (W.ad (.b 3 0 11 2)) (W.ad (.b 3 0 11 3)) (W.ad (.b 3 0 11 3)) (mem W S9) = some (mem W S10) := g10
  obtain ⟨V10, hV10⟩ : ∃ Vn, Vn = iu V9 6 (V9 5 * V9 6) := ⟨_, rfl⟩
  rw [← hV10] at C10
  rw [h.gf, bO_s, h.gA 11 (by decide) rfl, bO_s, h.gl 11 2 (by decide), bO_s, bO_s, h.gl 11 3 (by decide), bO_s, bO_s, h.gl 11 3 (by decide), bO_s, rcv_m h.mo.1, bO_s, g10', bO_s]
  obtain ⟨S11, g11, f11, C11⟩ := cu_times (G := G) (F := F) X h C10 1 7 7 (by decide) (by decide) (by decide)
  have g11' : P_X6_times G F (W.ad (.o 6 1)) (W.ad (.b 3 0 10 1)) (W.ad (.b 3 0 11 4)) (W.ad (.b 3 0 11 4)) (mem W S10) = some (mem W S11) := g11
  obtain ⟨V11, hV11⟩ : ∃ Vn, Vn = iu V10 7 (V10 1 * V10 7) := ⟨_, rfl⟩
  rw [← hV11] at C11
  rw [h.gf, bO_s, h.gA 11 (by decide) rfl, bO_s, h.gl 11 4 (by decide), bO_s, bO_s, h.gl 11 4 (by decide), bO_s, rcv_m h.mo.1, bO_s, g11', bO_s]
  obtain ⟨S12, g12, f12, C12⟩ := cu_minus (G := G) (F := F) X h C11 6 7 1 (by decide) (by decide) (by decide)
  have g12' : P_X6_minus G F (W.ad (.o 6 1)) (W.ad (.b 3 0 11 3)) (W.ad (.b 3 0 11 4)) (W.ad (.b 3 0 10 1)) (mem W S11) = some (mem W S12) := g12
  obtain ⟨V12, hV12⟩ : ∃ Vn, Vn = iu V11 1 (V11 6 - V11 7) := ⟨_, rfl⟩
  rw [← hV12] at C12
  rw [h.gf, bO_s, h.gA 11 (by decide) rfl, bO_s, h.gl 11 3 (by decide), bO_s, bO_s, h.gl 11 4 (by decide), bO_s, rcv_m h.mo.1, bO_s, g12', bO_s]
  rw [retZ1]
  refine ⟨S12, V12, rfl, ((((((((((((f1.mono (by simp)).trans (f2.mono (by simp))).trans (f3.mono (by simp))).trans (f4.mono (by simp))).trans (f5.mono (by simp))).trans (f6.mono (by simp))).trans (f7.mono (by simp))).trans (f8.mono (by simp))).trans (f9.mono (by simp))).trans (f10.mono (by simp))).trans (f11.mono (by simp))).trans (f12.mono (by simp))), C12, ?_, ?_, ?_, ?_⟩
  · intro k hk
    have q : ∀ i, i < 9 → k ≠ i := fun i hi => by omega
    simp only [hV12, hV11, hV10, hV9, hV8, hV7, hV6, hV5, hV4, hV3, hV2, hV1, iu, q 0 (by omega), q 1 (by omega), q 2 (by omega), q 3 (by omega), q 4 (by omega), q 5 (by omega), q 6 (by omega), q 7 (by omega), q 8 (by omega), if_false]
  · simp only [hV12, hV11, hV10, hV9, hV8, hV7, hV6, hV5, hV4, hV3, hV2, hV1, iu]
    simp
    unfold aX'
    grind
  · simp only [hV12, hV11, hV10, hV9, hV8, hV7, hV6, hV5, hV4, hV3, hV2, hV1, iu]
    simp
    unfold aY' aX'
    grind
  · simp only [hV12, hV11, hV10, hV9, hV8, hV7, hV6, hV5, hV4, hV3, hV2, hV1, iu]
    simp
theorem Q3_add_0 (X : Cx G F W) (h : isCu W) (C : CS S V) : ∃ S' V' b, P_X3_add G F (W.ad (.o 3 0)) (W.ad (.a 3 0 0)) (mem W S) = some (b, mem W S') ∧ lfr CuL S S' ∧ CS S' V' ∧ (∀ k, 9 ≤ k → V' k = V k) ∧ (if V 2 % (pP : Int) = 0 then b = 1 ∧ V' 0 = V 9 ∧ V' 1 = V 10 ∧ V' 2 = V 14 else if aH (V 9) (V 0) (V 2) % (pP : Int) = 0 ∧ aJ (V 10) (V 1) (V 2) % (pP : Int) = 0 then b = 0 ∧ V' 0 = V 0 ∧ V' 1 = V 1 ∧ V' 2 = V 2 else b = 1 ∧ V' 0 = aX' (aH (V 9) (V 0) (V 2)) (aJ (V 10) (V 1) (V 2)) (V 0) ∧ V' 1 = aY' (aH (V 9) (V 0) (V 2)) (aJ (V 10) (V 1) (V 2)) (V 0) (V 1) ∧ V' 2 = V 2 * aH (V 9) (V 0) (V 2)) := by
  have z0 : P_X6_isZero G F (W.ad (.o 6 1)) (W.ad (.b 3 0 10 2)) (mem W S) = _ := cu_zero (G := G) (F := F) X h C 2 (by decide)
  unfold P_X3_add
  rw [h.gA 10 (by decide) rfl, bO_s, h.gl 10 0 (by decide), bO_s, bO_s, h.gl 10 1 (by decide), bO_s, bO_s, h.gl 10 2 (by decide), bO_s, h.gf, bO_s, rcv_m h.mo.1, bO_s]
  rw [z0, bP_s]
  by_cases hz : V 2 % (pP : Int) = 0
  · rw [if_pos hz, if_neg (by decide), h.gl 0 0 (by decide), bO_s]
    obtain ⟨S1, g1, f1, C1⟩ := cu_copy (G := G) h C 9 0 (by decide) (by decide)
    have g1' : cpL G (mem W S) (W.ad (.b 3 0 0 0)) 0 (W.ad (.b 3 0 10 0)) 0 8 = some (mem W S1) := g1
    obtain ⟨V1, hV1⟩ : ∃ Vn, Vn = iu V 0 (V 9) := ⟨_, rfl⟩
    rw [← hV1] at C1
    obtain ⟨S2, g2, f2, C2⟩ := cu_copy (G := G) h C1 10 1 (by decide) (by decide)
    have g2' : cpL G (mem W S1) (W.ad (.b 3 0 0 1)) 0 (W.ad (.b 3 0 10 1)) 0 8 = some (mem W S2) := g2
    obtain ⟨V2, hV2⟩ : ∃ Vn, Vn = iu V1 1 (V1 10) := ⟨_, rfl⟩
    rw [← hV2] at C2
    obtain ⟨S3, g3, f3, C3⟩ := cu_copy (G := G) h C2 14 2 (by decide) (by decide)
    have g3' : cpL G (mem W S2) (W.ad (.a 3 0 9)) 0 (W.ad (.b 3 0 10 2)) 0 8 = some (mem W S3) := g3
    obtain ⟨V3, hV3⟩ : ∃ Vn, Vn = iu V2 2 (V2 14) := ⟨_, rfl⟩
    rw [← hV3] at C3
    rw [g1', bO_s, h.gl 0 1 (by decide), bO_s, g2', bO_s, h.gA 9 (by decide) rfl, bO_s, g3', bO_s, retZ1]
    refine ⟨S3, V3, 1, rfl, ((f1.mono (by simp)).trans (f2.mono (by simp))).trans (f3.mono (by simp)), C3, ?_, ?_⟩
    · intro k hk
      have q : ∀ i, i < 9 → k ≠ i := fun i hi => by omega
      simp only [hV3, hV2, hV1, iu, q 0 (by omega), q 1 (by omega), q 2 (by omega), if_false]
    · rw [if_pos hz]
      refine ⟨rfl, ?_, ?_, ?_⟩
      · simp only [hV3, hV2, hV1, iu]; simp
      · simp only [hV3, hV2, hV1, iu]; simp
      · simp only [hV3, hV2, hV1, iu]; simp
  rw [if_neg hz, if_pos (by rfl)]
  obtain ⟨S1, g1, f1, C1⟩ := cu_times (G := G) (F := F) X h C 2 2 3 (by decide) (by decide) (by decide)
  have g1' : P_X6_times G F (W.ad (.o 6 1)) (W.ad (.b 3 0 10 2)) (W.ad (.b 3 0 10 2)) (W.ad (.b 3 0 11 0)) (mem W S) = some (mem W S1) := g1
  obtain ⟨V1, hV1⟩ : ∃ Vn, Vn = iu V 3 (V 2 * V 2) := ⟨_, rfl⟩
  rw [← hV1] at C1
  rw [h.gf, bO_s, h.gA 11 (by decide) rfl, bO_s, h.gl 11 0 (by decide), bO_s, rcv_m h.mo.1, bO_s, g1', bO_s]
  obtain ⟨S2, g2, f2, C2⟩ := cu_times (G := G) (F := F) X h C1 9 3 4 (by decide) (by decide) (by decide)
  have g2' : P_X6_times G F (W.ad (.o 6 1)) (W.ad (.b 3 0 0 0)) (W.ad (.b 3 0 11 0)) (W.ad (.b 3 0 11 1)) (mem W S1) = some (mem W S2) := g2
  obtain ⟨V2, hV2⟩ : ∃ Vn, Vn = iu V1 4 (V1 9 * V1 3) := ⟨_, rfl⟩
  rw [← hV2] at C2
  rw [h.gf, bO_s, h.gl 0 0 (by decide), bO_s, h.gA 11 (by decide) rfl, bO_s, h.gl 11 0 (by decide), bO_s, bO_s, h.gl 11 1 (by decide), bO_s, rcv_m h.mo.1, bO_s, g2', bO_s]
  obtain ⟨S3, g3, f3, C3⟩ := cu_minus (G := G) (F := F) X h C2 4 0 4 (by decide) (by decide) (by decide)
  have g3' : P_X6_minus G F (W.ad (.o 6 1)) (W.ad (.b 3 0 11 1)) (W.ad (.b 3 0 10 0)) (W.ad (.b 3 0 11 1)) (mem W S2) = some (mem W S3) := g3
  obtain ⟨V3, hV3⟩ : ∃ Vn, Vn = iu V2 4 (V2 4 - V2 0) := ⟨_, rfl⟩
  rw [← hV3] at C3
  rw [h.gf, bO_s, h.gA 11 (by decide) rfl, bO_s, h.gl 11 1 (by decide), bO_s, bO_s, h.gl 11 1 (by decide), bO_s, rcv_m h.mo.1, bO_s, g3', bO_s]
  obtain ⟨S4, g4, f4, C4⟩ := cu_times (G := G) (F := F) X h C3 3 2 3 (by decide) (by decide) (by decide)
  have g4' : P_X6_times G F (W.ad (.o 6 1)) (W.ad (.b 3 0 11 0)) (W.ad (.b 3 0 10 2)) (W.ad (.b 3 0 11 0)) (mem W S3) = some (mem W S4) := g4
  obtain ⟨V4, hV4⟩ : ∃ Vn, Vn = iu V3 3 (V3 3 * V3 2) := ⟨_, rfl⟩
  rw [← hV4] at C4
  rw [h.gf, bO_s, h.gA 11 (by decide) rfl, bO_s, h.gl 11 0 (by decide), bO_s, bO_s, h.gl 11 0 (by decide), bO_s, rcv_m h.mo.1, bO_s, g4', bO_s]
  obtain ⟨S5, g5, f5, C5⟩ := cu_times (G := G) (F := F) X h C4 10 3 5 (by decide) (by decide) (by decide)
  have g5' : P_X6_times G F (W.ad (.o 6 1)) (W.ad (.b 3 0 0 1)) (W.ad (.b 3 0 11 0)) (W.ad (.b 3 0 11 2)) (mem W S4) = some (mem W S5) := g5
  obtain ⟨V5, hV5⟩ : ∃ Vn, Vn = iu V4 5 (V4 10 * V4 3) := ⟨_, rfl⟩
  rw [← hV5] at C5
  rw [h.gf, bO_s, h.gl 0 1 (by decide), bO_s, h.gA 11 (by decide) rfl, bO_s, h.gl 11 0 (by decide), bO_s, bO_s, h.gl 11 2 (by decide), bO_s, rcv_m h.mo.1, bO_s, g5', bO_s]
  obtain ⟨S6, g6, f6, C6⟩ := cu_minus (G := G) (F := F) X h C5 5 1 5 (by decide) (by decide) (by decide)
  have g6' : P_X6_minus G F (W.ad (.o 6 1)) (W.ad (.b 3 0 11 2)) (W.ad (.b 3 0 10 1)) (W.ad (.b 3 0 11 2)) (mem W S5) = some (mem W S6) := g6
  obtain ⟨V6, hV6⟩ : ∃ Vn, Vn = iu V5 5 (V5 5 - V5 1) := ⟨_, rfl⟩
  rw [← hV6] at C6
  rw [h.gf, bO_s, h.gA 11 (by decide) rfl, bO_s, h.gl 11 2 (by decide), bO_s, bO_s, h.gl 11 2 (by decide), bO_s, rcv_m h.mo.1, bO_s, g6', bO_s]
  rw [h.gf, bO_s, h.gA 11 (by decide) rfl, bO_s, h.gl 11 1 (by decide), bO_s, rcv_m h.mo.1, bO_s]
  have eh : V6 4 = aH (V 9) (V 0) (V 2) := by
    simp only [hV6, hV5, hV4, hV3, hV2, hV1, iu]
    simp
    unfold aH
    rfl
  have er : V6 5 = aJ (V 10) (V 1) (V 2) := by
    simp only [hV6, hV5, hV4, hV3, hV2, hV1, iu]
    simp
    unfold aJ
    rfl
  have e0 : V6 0 = V 0 := by simp only [hV6, hV5, hV4, hV3, hV2, hV1, iu]; simp
  have e1 : V6 1 = V 1 := by simp only [hV6, hV5, hV4, hV3, hV2, hV1, iu]; simp
  have e2 : V6 2 = V 2 := by simp only [hV6, hV5, hV4, hV3, hV2, hV1, iu]; simp
  have ek : ∀ k, 9 ≤ k → V6 k = V k := by
    intro k hk
    have q : ∀ i, i < 9 → k ≠ i := fun i hi => by omega
    simp only [hV6, hV5, hV4, hV3, hV2, hV1, iu, q 0 (by omega), q 1 (by omega), q 2 (by omega), q 3 (by omega), q 4 (by omega), q 5 (by omega), q 6 (by omega), q 7 (by omega), q 8 (by omega), if_false]
  have F0 : lfr CuL S S6 := ((((((f1.mono (by simp)).trans (f2.mono (by simp))).trans (f3.mono (by simp))).trans (f4.mono (by simp))).trans (f5.mono (by simp))).trans (f6.mono (by simp)))
  have z1 : P_X6_isZero G F (W.ad (.o 6 1)) (W.ad (.b 3 0 11 1)) (mem W S6) = _ := cu_zero (G := G) (F := F) X h C6 4 (by decide)
  have z2 : P_X6_isZero G F (W.ad (.o 6 1)) (W.ad (.b 3 0 11 2)) (mem W S6) = _ := cu_zero (G := G) (F := F) X h C6 5 (by decide)
  obtain ⟨Sa, Va, ga, fa, Ca, ka, va0, va1, va2⟩ := Q3_add227 (G := G) (F := F) X h C6
  rw [eh, er, e0] at va0
  rw [eh, er, e0, e1] at va1
  rw [e2, eh] at va2
  rw [eh] at z1
  rw [er] at z2
  have fin : ∃ S' V' b, some ((1 : Int32), mem W Sa) = some (b, mem W S') ∧ lfr CuL S S' ∧ CS S' V' ∧ (∀ k, 9 ≤ k → V' k = V k) ∧ (b = 1 ∧ V' 0 = aX' (aH (V 9) (V 0) (V 2)) (aJ (V 10) (V 1) (V 2)) (V 0) ∧ V' 1 = aY' (aH (V 9) (V 0) (V 2)) (aJ (V 10) (V 1) (V 2)) (V 0) (V 1) ∧ V' 2 = V 2 * aH (V 9) (V 0) (V 2)) := ⟨Sa, Va, 1, rfl, F0.trans fa, Ca, fun k hk => (ka k hk).trans (ek k hk), rfl, va0, va1, va2⟩
  rw [z1, bP_s]
  by_cases ch : aH (V 9) (V 0) (V 2) % (pP : Int) = 0
  · rw [if_pos ch, if_neg (by decide), h.gf, bO_s, h.gA 11 (by decide) rfl, bO_s, h.gl 11 2 (by decide), bO_s, rcv_m h.mo.1, bO_s, z2, bP_s]
    by_cases cr : aJ (V 10) (V 1) (V 2) % (pP : Int) = 0
    · rw [if_pos cr, if_neg (by decide), retZ0]
      exact ⟨S6, V6, 0, rfl, F0, C6, ek, by rw [if_neg hz, if_pos ⟨ch, cr⟩]; exact ⟨rfl, e0, e1, e2⟩⟩
    · rw [if_neg cr, if_pos (by rfl), ga]
      obtain ⟨S', V', b, q1, q2, q3, q4, q5⟩ := fin
      exact ⟨S', V', b, q1, q2, q3, q4, by rw [if_neg hz, if_neg (fun q => cr q.2)]; exact q5⟩
  · rw [if_neg ch, if_pos (by rfl), ga]
    obtain ⟨S', V', b, q1, q2, q3, q4, q5⟩ := fin
    exact ⟨S', V', b, q1, q2, q3, q4, by rw [if_neg hz, if_neg (fun q => ch q.1)]; exact q5⟩
theorem Q3_add_1 (X : Cx G F W) (h : isCu W) (C : CS S V) : ∃ S' V' b, P_X3_add G F (W.ad (.o 3 0)) (W.ad (.a 3 0 1)) (mem W S) = some (b, mem W S') ∧ lfr CuL S S' ∧ CS S' V' ∧ (∀ k, 9 ≤ k → V' k = V k) ∧ (if V 2 % (pP : Int) = 0 then b = 1 ∧ V' 0 = V 11 ∧ V' 1 = V 12 ∧ V' 2 = V 14 else if aH (V 11) (V 0) (V 2) % (pP : Int) = 0 ∧ aJ (V 12) (V 1) (V 2) % (pP : Int) = 0 then b = 0 ∧ V' 0 = V 0 ∧ V' 1 = V 1 ∧ V' 2 = V 2 else b = 1 ∧ V' 0 = aX' (aH (V 11) (V 0) (V 2)) (aJ (V 12) (V 1) (V 2)) (V 0) ∧ V' 1 = aY' (aH (V 11) (V 0) (V 2)) (aJ (V 12) (V 1) (V 2)) (V 0) (V 1) ∧ V' 2 = V 2 * aH (V 11) (V 0) (V 2)) := by
  have z0 : P_X6_isZero G F (W.ad (.o 6 1)) (W.ad (.b 3 0 10 2)) (mem W S) = _ := cu_zero (G := G) (F := F) X h C 2 (by decide)
  unfold P_X3_add
  rw [h.gA 10 (by decide) rfl, bO_s, h.gl 10 0 (by decide), bO_s, bO_s, h.gl 10 1 (by decide), bO_s, bO_s, h.gl 10 2 (by decide), bO_s, h.gf, bO_s, rcv_m h.mo.1, bO_s]
  rw [z0, bP_s]
  by_cases hz : V 2 % (pP : Int) = 0
  · rw [if_pos hz, if_neg (by decide), h.gl 1 0 (by decide), bO_s]
    obtain ⟨S1, g1, f1, C1⟩ := cu_copy (G := G) h C 11 0 (by decide) (by decide)
    have g1' : cpL G (mem W S) (W.ad (.b 3 0 1 0)) 0 (W.ad (.b 3 0 10 0)) 0 8 = some (mem W S1) := g1
    obtain ⟨V1, hV1⟩ : ∃ Vn, Vn = iu V 0 (V 11) := ⟨_, rfl⟩
    rw [← hV1] at C1
    obtain ⟨S2, g2, f2, C2⟩ := cu_copy (G := G) h C1 12 1 (by decide) (by decide)
    have g2' : cpL G (mem W S1) (W.ad (.b 3 0 1 1)) 0 (W.ad (.b 3 0 10 1)) 0 8 = some (mem W S2) := g2
    obtain ⟨V2, hV2⟩ : ∃ Vn, Vn = iu V1 1 (V1 12) := ⟨_, rfl⟩
    rw [← hV2] at C2
    obtain ⟨S3, g3, f3, C3⟩ := cu_copy (G := G) h C2 14 2 (by decide) (by decide)
    have g3' : cpL G (mem W S2) (W.ad (.a 3 0 9)) 0 (W.ad (.b 3 0 10 2)) 0 8 = some (mem W S3) := g3
    obtain ⟨V3, hV3⟩ : ∃ Vn, Vn = iu V2 2 (V2 14) := ⟨_, rfl⟩
    rw [← hV3] at C3
    rw [g1', bO_s, h.gl 1 1 (by decide), bO_s, g2', bO_s, h.gA 9 (by decide) rfl, bO_s, g3', bO_s, retZ1]
    refine ⟨S3, V3, 1, rfl, ((f1.mono (by simp)).trans (f2.mono (by simp))).trans (f3.mono (by simp)), C3, ?_, ?_⟩
    · intro k hk
      have q : ∀ i, i < 9 → k ≠ i := fun i hi => by omega
      simp only [hV3, hV2, hV1, iu, q 0 (by omega), q 1 (by omega), q 2 (by omega), if_false]
    · rw [if_pos hz]
      refine ⟨rfl, ?_, ?_, ?_⟩
      · simp only [hV3, hV2, hV1, iu]; simp
      · simp only [hV3, hV2, hV1, iu]; simp
      · simp only [hV3, hV2, hV1, iu]; simp
  rw [if_neg hz, if_pos (by rfl)]
  obtain ⟨S1, g1, f1, C1⟩ := cu_times (G := G) (F := F) X h C 2 2 3 (by decide) (by decide) (by decide)
  have g1' : P_X6_times G F (W.ad (.o 6 1)) (W.ad (.b 3 0 10 2)) (W.ad (.b 3 0 10 2)) (W.ad (.b 3 0 11 0)) (mem W S) = some (mem W S1) := g1
  obtain ⟨V1, hV1⟩ : ∃ Vn, Vn = iu V 3 (V 2 * V 2) := ⟨_, rfl⟩
  rw [← hV1] at C1
  rw [h.gf, bO_s, h.gA 11 (by decide) rfl, bO_s, h.gl 11 0 (by decide), bO_s, rcv_m h.mo.1, bO_s, g1', bO_s]
  obtain ⟨S2, g2, f2, C2⟩ := cu_times (G := G) (F := F) X h C1 11 3 4 (by decide) (by decide) (by decide)
  have g2' : P_X6_times G F (W.ad (.o 6 1)) (W.ad (.b 3 0 1 0)) (W.ad (.b 3 0 11 0)) (W.ad (.b 3 0 11 1)) (mem W S1) = some (mem W S2) := g2
  obtain ⟨V2, hV2⟩ : ∃ Vn, Vn = iu V1 4 (V1 11 * V1 3) := ⟨_, rfl⟩
  rw [← hV2] at C2
  rw [h.gf, bO_s, h.gl 1 0 (by decide), bO_s, h.gA 11 (by decide) rfl, bO_s, h.gl 11 0 (by decide), bO_s, bO_s, h.gl 11 1 (by decide), bO_s, rcv_m h.mo.1, bO_s, g2', bO_s]
  obtain ⟨S3, g3, f3, C3⟩ := cu_minus (G := G) (F := F) X h C2 4 0 4 (by decide) (by decide) (by decide)
  have g3' : P_X6_minus G F (W.ad (.o 6 1)) (W.ad (.b 3 0 11 1)) (W.ad (.b 3 0 10 0)) (W.ad (.b 3 0 11 1)) (mem W S2) = some (mem W S3) := g3
  obtain ⟨V3, hV3⟩ : ∃ Vn, Vn = iu V2 4 (V2 4 - V2 0) := ⟨_, rfl⟩
  rw [← hV3] at C3
  rw [h.gf, bO_s, h.gA 11 (by decide) rfl, bO_s, h.gl 11 1 (by decide), bO_s, bO_s, h.gl 11 1 (by decide), bO_s, rcv_m h.mo.1, bO_s, g3', bO_s]
  obtain ⟨S4, g4, f4, C4⟩ := cu_times (G := G) (F := F) X h C3 3 2 3 (by decide) (by decide) (by decide)
  have g4' : P_X6_times G F (W.ad (.o 6 1)) (W.ad (.b 3 0 11 0)) (W.ad (.b 3 0 10 2)) (W.ad (.b 3 0 11 0)) (mem W S3) = some (mem W S4) := g4
  obtain ⟨V4, hV4⟩ : ∃ Vn, Vn = iu V3 3 (V3 3 * V3 2) := ⟨_, rfl⟩
  rw [← hV4] at C4
  rw [h.gf, bO_s, h.gA 11 (by decide) rfl, bO_s, h.gl 11 0 (by decide), bO_s, bO_s, h.gl 11 0 (by decide), bO_s, rcv_m h.mo.1, bO_s, g4', bO_s]
  obtain ⟨S5, g5, f5, C5⟩ := cu_times (G := G) (F := F) X h C4 12 3 5 (by decide) (by decide) (by decide)
  have g5' : P_X6_times G F (W.ad (.o 6 1)) (W.ad (.b 3 0 1 1)) (W.ad (.b 3 0 11 0)) (W.ad (.b 3 0 11 2)) (mem W S4) = some (mem W S5) := g5
  obtain ⟨V5, hV5⟩ : ∃ Vn, Vn = iu V4 5 (V4 12 * V4 3) := ⟨_, rfl⟩
  rw [← hV5] at C5
  rw [h.gf, bO_s, h.gl 1 1 (by decide), bO_s, h.gA 11 (by decide) rfl, bO_s, h.gl 11 0 (by decide), bO_s, bO_s, h.gl 11 2 (by decide), bO_s, rcv_m h.mo.1, bO_s, g5', bO_s]
  obtain ⟨S6, g6, f6, C6⟩ := cu_minus (G := G) (F := F) X h C5 5 1 5 (by decide) (by decide) (by decide)
  have g6' : P_X6_minus G F (W.ad (.o 6 1)) (W.ad (.b 3 0 11 2)) (W.ad (.b 3 0 10 1)) (W.ad (.b 3 0 11 2)) (mem W S5) = some (mem W S6) := g6
  obtain ⟨V6, hV6⟩ : ∃ Vn, Vn = iu V5 5 (V5 5 - V5 1) := ⟨_, rfl⟩
  rw [← hV6] at C6
  rw [h.gf, bO_s, h.gA 11 (by decide) rfl, bO_s, h.gl 11 2 (by decide), bO_s, bO_s, h.gl 11 2 (by decide), bO_s, rcv_m h.mo.1, bO_s, g6', bO_s]
  rw [h.gf, bO_s, h.gA 11 (by decide) rfl, bO_s, h.gl 11 1 (by decide), bO_s, rcv_m h.mo.1, bO_s]
  have eh : V6 4 = aH (V 11) (V 0) (V 2) := by
    simp only [hV6, hV5, hV4, hV3, hV2, hV1, iu]
    simp
    unfold aH
    rfl
  have er : V6 5 = aJ (V 12) (V 1) (V 2) := by
    simp only [hV6, hV5, hV4, hV3, hV2, hV1, iu]
    simp
    unfold aJ
    rfl
  have e0 : V6 0 = V 0 := by simp only [hV6, hV5, hV4, hV3, hV2, hV1, iu]; simp
  have e1 : V6 1 = V 1 := by simp only [hV6, hV5, hV4, hV3, hV2, hV1, iu]; simp
  have e2 : V6 2 = V 2 := by simp only [hV6, hV5, hV4, hV3, hV2, hV1, iu]; simp
  have ek : ∀ k, 9 ≤ k → V6 k = V k := by
    intro k hk
    have q : ∀ i, i < 9 → k ≠ i := fun i hi => by omega
    simp only [hV6, hV5, hV4, hV3, hV2, hV1, iu, q 0 (by omega), q 1 (by omega), q 2 (by omega), q 3 (by omega), q 4 (by omega), q 5 (by omega), q 6 (by omega), q 7 (by omega), q 8 (by omega), if_false]
  have F0 : lfr CuL S S6 := ((((((f1.mono (by simp)).trans (f2.mono (by simp))).trans (f3.mono (by simp))).trans (f4.mono (by simp))).trans (f5.mono (by simp))).trans (f6.mono (by simp)))
  have z1 : P_X6_isZero G F (W.ad (.o 6 1)) (W.ad (.b 3 0 11 1)) (mem W S6) = _ := cu_zero (G := G) (F := F) X h C6 4 (by decide)
  have z2 : P_X6_isZero G F (W.ad (.o 6 1)) (W.ad (.b 3 0 11 2)) (mem W S6) = _ := cu_zero (G := G) (F := F) X h C6 5 (by decide)
  obtain ⟨Sa, Va, ga, fa, Ca, ka, va0, va1, va2⟩ := Q3_add227 (G := G) (F := F) X h C6
  rw [eh, er, e0] at va0
  rw [eh, er, e0, e1] at va1
  rw [e2, eh] at va2
  rw [eh] at z1
  rw [er] at z2
  have fin : ∃ S' V' b, some ((1 : Int32), mem W Sa) = some (b, mem W S') ∧ lfr CuL S S' ∧ CS S' V' ∧ (∀ k, 9 ≤ k → V' k = V k) ∧ (b = 1 ∧ V' 0 = aX' (aH (V 11) (V 0) (V 2)) (aJ (V 12) (V 1) (V 2)) (V 0) ∧ V' 1 = aY' (aH (V 11) (V 0) (V 2)) (aJ (V 12) (V 1) (V 2)) (V 0) (V 1) ∧ V' 2 = V 2 * aH (V 11) (V 0) (V 2)) := ⟨Sa, Va, 1, rfl, F0.trans fa, Ca, fun k hk => (ka k hk).trans (ek k hk), rfl, va0, va1, va2⟩
  rw [z1, bP_s]
  by_cases ch : aH (V 11) (V 0) (V 2) % (pP : Int) = 0
  · rw [if_pos ch, if_neg (by decide), h.gf, bO_s, h.gA 11 (by decide) rfl, bO_s, h.gl 11 2 (by decide), bO_s, rcv_m h.mo.1, bO_s, z2, bP_s]
    by_cases cr : aJ (V 12) (V 1) (V 2) % (pP : Int) = 0
    · rw [if_pos cr, if_neg (by decide), retZ0]
      exact ⟨S6, V6, 0, rfl, F0, C6, ek, by rw [if_neg hz, if_pos ⟨ch, cr⟩]; exact ⟨rfl, e0, e1, e2⟩⟩
    · rw [if_neg cr, if_pos (by rfl), ga]
      obtain ⟨S', V', b, q1, q2, q3, q4, q5⟩ := fin
      exact ⟨S', V', b, q1, q2, q3, q4, by rw [if_neg hz, if_neg (fun q => cr q.2)]; exact q5⟩
  · rw [if_neg ch, if_pos (by rfl), ga]
    obtain ⟨S', V', b, q1, q2, q3, q4, q5⟩ := fin
    exact ⟨S', V', b, q1, q2, q3, q4, by rw [if_neg hz, if_neg (fun q => ch q.1)]; exact q5⟩
end ADDP
