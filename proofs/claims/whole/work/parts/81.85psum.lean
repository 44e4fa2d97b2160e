/-! THE CLASS'S CURVE: load, putSum -/
abbrev CuM : List Cl := [wc 0, wc 1, wc 2, wc 3, wc 4, wc 5, wc 6, wc 7, wc 8, wc 11, wc 12, .a 6 1 5, .a 6 1 6, .a 6 1 7]
section LOADC
variable {W : WR} {G : mG} {F : Nat} {S : ST} {V : Nat → Int}
theorem Q3_load {ib room : Nat} {xy : List UInt8} {l : Bool} (X : Cx G F W) (h : isCu W) (K : CK S V) (hB : isB W ib room) (hb : Byt room (S 0 ib) xy l) (hl : 64 ≤ xy.length) : ∃ S' V', P_X3_load G F (W.ad (.o 3 0)) (W.ad (.o 0 ib)) (mem W S) = some (if onC (beN (seg xy 0 32)) (beN (seg xy 32 32)) = true then 1 else 0, mem W S') ∧ lfr CuM S S' ∧ CK S' V' ∧ (∀ k, 9 ≤ k → k ≠ 11 → k ≠ 12 → V' k = V k) ∧ (onC (beN (seg xy 0 32)) (beN (seg xy 32 32)) = true → V' 11 = ((beN (seg xy 0 32) : Nat) : Int) ∧ V' 12 = ((beN (seg xy 32 32) : Nat) : Int)) := by
  have hle := hb.le
  have hr := hB.hr
  obtain ⟨C, k9, k10, k13, k14, kM, b1, b2, b3, b4, b5⟩ := id K
  have c1 := Q0_cmpN (G := G) (F := F) (a := 0) (b := 0) (cnt := 32) X hB hb (h.bb 0 (by decide)) b1 (by omega) (by decide) (by decide)
  have c2 := Q0_cmpN (G := G) (F := F) (a := 32) (b := 0) (cnt := 32) X hB hb (h.bb 0 (by decide)) b1 (by omega) (by decide) (by decide)
  rw [bv_seg 32 0 (by omega), bv_seg 32 0 (by rw [beV_len]; omega)] at c1 c2
  simp only [Nat.add_zero] at c1 c2
  rw [seg_all (beV_len 32 pP), beN_32 (by omega)] at c1 c2
  have c1' : P_X0_compare G F (W.ad (.o 0 ib)) 0 (W.ad (.o 0 72)) 0 32 (mem W S) = _ := c1
  have c2' : P_X0_compare G F (W.ad (.o 0 ib)) 32 (W.ad (.o 0 72)) 0 32 (mem W S) = _ := c2
  have gb' : gfR (mem W S) (W.ad (.o 3 0)) 3 4 = some (W.ad (.o 0 72)) := h.gb 0 (by decide) S
  unfold P_X3_load
  rw [gb', bO_s, c1', bP_s]
  by_cases q1 : pP ≤ beN (seg xy 0 32)
  · have no : onC (beN (seg xy 0 32)) (beN (seg xy 32 32)) = false := decide_eq_false (by omega)
    rw [if_pos (ordF_neg.2.1.mpr q1), retZ0, no]
    exact ⟨S, V, rfl, lfr.refl _ _, K, fun _ _ _ _ => rfl, fun q => absurd q (by decide)⟩
  rw [if_neg (fun q => q1 (ordF_neg.2.1.mp q)), gb', bO_s, c2', bP_s]
  by_cases q2 : beN (seg xy 32 32) < pP
  · rw [if_pos (ordF_neg.1.mpr q2)]
    obtain ⟨S1, A1, g1, f1, C1, L1⟩ := cu_take (G := G) (F := F) (p := 0) X h C 11 (by decide) hB hb (by omega)
    have g1' : P_X6_take G F (W.ad (.o 6 1)) (W.ad (.o 0 ib)) 0 32 (W.ad (.b 3 0 1 0)) (mem W S) = some (mem W S1) := g1
    obtain ⟨V1, hV1⟩ : ∃ Vn, Vn = iu V 11 A1 := ⟨_, rfl⟩
    rw [← hV1] at C1
    rw [h.gA 1 (by decide) rfl, bO_s, h.gl 1 0 (by decide), bO_s, bO_s, h.gl 1 1 (by decide), bO_s, h.gf, bO_s, rcv_m h.mo.1, bO_s, g1', bO_s]
    have hb_1 := Byt.lfr f1 hb
    obtain ⟨S2, A2, g2, f2, C2, L2⟩ := cu_take (G := G) (F := F) (p := 32) X h C1 12 (by decide) hB hb_1 (by omega)
    have g2' : P_X6_take G F (W.ad (.o 6 1)) (W.ad (.o 0 ib)) 32 32 (W.ad (.b 3 0 1 1)) (mem W S1) = some (mem W S2) := g2
    obtain ⟨V2, hV2⟩ : ∃ Vn, Vn = iu V1 12 A2 := ⟨_, rfl⟩
    rw [← hV2] at C2
    rw [h.gf, bO_s, rcv_m h.mo.1, bO_s, g2', bO_s]
    have hb_2 := Byt.lfr f2 hb_1
    have lv11_2 : LV (lgt S2 (wc 11)) 8 (beN (seg xy 0 32) % pP) := by rw [f2.2 _ (by simp [wc])]; exact L1
    obtain ⟨S3, g3, f3, C3⟩ := cu_lead (G := G) (F := F) X h C2 11 (by decide) lv11_2
    have g3' : P_X6_lead G F (W.ad (.o 6 1)) (W.ad (.b 3 0 1 0)) (mem W S2) = some (mem W S3) := g3
    obtain ⟨V3, hV3⟩ : ∃ Vn, Vn = iu V2 11 ((((beN (seg xy 0 32) % pP) : Nat) : Int)) := ⟨_, rfl⟩
    rw [← hV3] at C3
    rw [h.gf, bO_s, rcv_m h.mo.1, bO_s, g3', bO_s]
    have hb_3 := Byt.lfr f3 hb_2
    have lv12_3 : LV (lgt S3 (wc 12)) 8 (beN (seg xy 32 32) % pP) := by rw [f3.2 _ (by simp [wc])]; exact L2
    obtain ⟨S4, g4, f4, C4⟩ := cu_lead (G := G) (F := F) X h C3 12 (by decide) lv12_3
    have g4' : P_X6_lead G F (W.ad (.o 6 1)) (W.ad (.b 3 0 1 1)) (mem W S3) = some (mem W S4) := g4
    obtain ⟨V4, hV4⟩ : ∃ Vn, Vn = iu V3 12 ((((beN (seg xy 32 32) % pP) : Nat) : Int)) := ⟨_, rfl⟩
    rw [← hV4] at C4
    rw [h.gf, bO_s, rcv_m h.mo.1, bO_s, g4', bO_s]
    have hb_4 := Byt.lfr f4 hb_3
    obtain ⟨S5, g5, f5, C5⟩ := cu_times (G := G) (F := F) X h C4 11 11 3 (by decide) (by decide) (by decide)
    have g5' : P_X6_times G F (W.ad (.o 6 1)) (W.ad (.b 3 0 1 0)) (W.ad (.b 3 0 1 0)) (W.ad (.b 3 0 11 0)) (mem W S4) = some (mem W S5) := g5
    obtain ⟨V5, hV5⟩ : ∃ Vn, Vn = iu V4 3 (V4 11 * V4 11) := ⟨_, rfl⟩
    rw [← hV5] at C5
    rw [h.gf, bO_s, h.gA 11 (by decide) rfl, bO_s, h.gl 11 0 (by decide), bO_s, rcv_m h.mo.1, bO_s, g5', bO_s]
    have hb_5 := Byt.lfr f5 hb_4
    obtain ⟨S6, g6, f6, C6⟩ := cu_times (G := G) (F := F) X h C5 3 11 3 (by decide) (by decide) (by decide)
    have g6' : P_X6_times G F (W.ad (.o 6 1)) (W.ad (.b 3 0 11 0)) (W.ad (.b 3 0 1 0)) (W.ad (.b 3 0 11 0)) (mem W S5) = some (mem W S6) := g6
    obtain ⟨V6, hV6⟩ : ∃ Vn, Vn = iu V5 3 (V5 3 * V5 11) := ⟨_, rfl⟩
    rw [← hV6] at C6
    rw [h.gf, bO_s, h.gA 11 (by decide) rfl, bO_s, h.gl 11 0 (by decide), bO_s, bO_s, h.gl 11 0 (by decide), bO_s, rcv_m h.mo.1, bO_s, g6', bO_s]
    have hb_6 := Byt.lfr f6 hb_5
    obtain ⟨S7, g7, f7, C7⟩ := cu_minus (G := G) (F := F) X h C6 3 11 3 (by decide) (by decide) (by decide)
    have g7' : P_X6_minus G F (W.ad (.o 6 1)) (W.ad (.b 3 0 11 0)) (W.ad (.b 3 0 1 0)) (W.ad (.b 3 0 11 0)) (mem W S6) = some (mem W S7) := g7
    obtain ⟨V7, hV7⟩ : ∃ Vn, Vn = iu V6 3 (V6 3 - V6 11) := ⟨_, rfl⟩
    rw [← hV7] at C7
    rw [h.gf, bO_s, h.gA 11 (by decide) rfl, bO_s, h.gl 11 0 (by decide), bO_s, bO_s, h.gl 11 0 (by decide), bO_s, rcv_m h.mo.1, bO_s, g7', bO_s]
    have hb_7 := Byt.lfr f7 hb_6
    obtain ⟨S8, g8, f8, C8⟩ := cu_minus (G := G) (F := F) X h C7 3 11 3 (by decide) (by decide) (by decide)
    have g8' : P_X6_minus G F (W.ad (.o 6 1)) (W.ad (.b 3 0 11 0)) (W.ad (.b 3 0 1 0)) (W.ad (.b 3 0 11 0)) (mem W S7) = some (mem W S8) := g8
    obtain ⟨V8, hV8⟩ : ∃ Vn, Vn = iu V7 3 (V7 3 - V7 11) := ⟨_, rfl⟩
    rw [← hV8] at C8
    rw [h.gf, bO_s, h.gA 11 (by decide) rfl, bO_s, h.gl 11 0 (by decide), bO_s, bO_s, h.gl 11 0 (by decide), bO_s, rcv_m h.mo.1, bO_s, g8', bO_s]
    have hb_8 := Byt.lfr f8 hb_7
    obtain ⟨S9, g9, f9, C9⟩ := cu_minus (G := G) (F := F) X h C8 3 11 3 (by decide) (by decide) (by decide)
    have g9' : P_X6_minus G F (W.ad (.o 6 1)) (W.ad (.b 3 0 11 0)) (W.ad (.b 3 0 1 0)) (W.ad (.b 3 0 11 0)) (mem W S8) = some (mem W S9) := g9
    obtain ⟨V9, hV9⟩ : ∃ Vn, Vn = iu V8 3 (V8 3 - V8 11) := ⟨_, rfl⟩
    rw [← hV9] at C9
    rw [h.gf, bO_s, h.gA 11 (by decide) rfl, bO_s, h.gl 11 0 (by decide), bO_s, bO_s, h.gl 11 0 (by decide), bO_s, rcv_m h.mo.1, bO_s, g9', bO_s]
    have hb_9 := Byt.lfr f9 hb_8
    obtain ⟨S10, g10, f10, C10⟩ := cu_plus (G := G) (F := F) X h C9 3 13 3 (by decide) (by decide) (by decide)
    have g10' : P_X6_plus G F (W.ad (.o 6 1)) (W.ad (.b 3 0 11 0)) (W.ad (.a 3 0 8)) (W.ad (.b 3 0 11 0)) (mem W S9) = some (mem W S10) := g10
    obtain ⟨V10, hV10⟩ : ∃ Vn, Vn = iu V9 3 (V9 3 + V9 13) := ⟨_, rfl⟩
    rw [← hV10] at C10
    rw [h.gf, bO_s, h.gA 11 (by decide) rfl, bO_s, h.gl 11 0 (by decide), bO_s, h.gA 8 (by decide) rfl, bO_s, bO_s, h.gl 11 0 (by decide), bO_s, rcv_m h.mo.1, bO_s, g10', bO_s]
    have hb_10 := Byt.lfr f10 hb_9
    obtain ⟨S11, g11, f11, C11⟩ := cu_times (G := G) (F := F) X h C10 12 12 4 (by decide) (by decide) (by decide)
    have g11' : P_X6_times G F (W.ad (.o 6 1)) (W.ad (.b 3 0 1 1)) (W.ad (.b 3 0 1 1)) (W.ad (.b 3 0 11 1)) (mem W S10) = some (mem W S11) := g11
    obtain ⟨V11, hV11⟩ : ∃ Vn, Vn = iu V10 4 (V10 12 * V10 12) := ⟨_, rfl⟩
    rw [← hV11] at C11
    rw [h.gf, bO_s, h.gA 11 (by decide) rfl, bO_s, h.gl 11 1 (by decide), bO_s, rcv_m h.mo.1, bO_s, g11', bO_s]
    have hb_11 := Byt.lfr f11 hb_10
    rw [h.gf, bO_s, h.gA 11 (by decide) rfl, bO_s, h.gl 11 0 (by decide), bO_s, bO_s, h.gl 11 1 (by decide), bO_s, rcv_m h.mo.1, bO_s]
    have e3 : V11 3 = ((beN (seg xy 0 32) % pP : Nat) : Int) * ((beN (seg xy 0 32) % pP : Nat) : Int) * ((beN (seg xy 0 32) % pP : Nat) : Int) - ((beN (seg xy 0 32) % pP : Nat) : Int) - ((beN (seg xy 0 32) % pP : Nat) : Int) - ((beN (seg xy 0 32) % pP : Nat) : Int) + V 13 := by simp only [hV11, hV10, hV9, hV8, hV7, hV6, hV5, hV4, hV3, hV2, hV1, iu]; simp
    have e4 : V11 4 = ((beN (seg xy 32 32) % pP : Nat) : Int) * ((beN (seg xy 32 32) % pP : Nat) : Int) := by simp only [hV11, hV10, hV9, hV8, hV7, hV6, hV5, hV4, hV3, hV2, hV1, iu]; simp
    have e11 : V11 11 = ((beN (seg xy 0 32) % pP : Nat) : Int) := by simp only [hV11, hV10, hV9, hV8, hV7, hV6, hV5, hV4, hV3, hV2, hV1, iu]; simp
    have e12 : V11 12 = ((beN (seg xy 32 32) % pP : Nat) : Int) := by simp only [hV11, hV10, hV9, hV8, hV7, hV6, hV5, hV4, hV3, hV2, hV1, iu]; simp
    have ek : ∀ k, 9 ≤ k → k ≠ 11 → k ≠ 12 → V11 k = V k := by
      intro k hk h1 h2
      have q : ∀ i, i < 9 → k ≠ i := fun i hi => by omega
      simp only [hV11, hV10, hV9, hV8, hV7, hV6, hV5, hV4, hV3, hV2, hV1, iu, q 3 (by omega), q 4 (by omega), h1, h2, if_false]
    have F0 : lfr CuM S S11 := (((((((((((f1.mono (by simp)).trans (f2.mono (by simp))).trans (f3.mono (by simp))).trans (f4.mono (by simp))).trans (f5.mono (by simp))).trans (f6.mono (by simp))).trans (f7.mono (by simp))).trans (f8.mono (by simp))).trans (f9.mono (by simp))).trans (f10.mono (by simp))).trans (f11.mono (by simp)))
    have sm := cu_same (G := G) (F := F) X h C11 3 4 (by decide) (by decide)
    rw [Nat.mod_eq_of_lt (by omega)] at e3 e11
    rw [Nat.mod_eq_of_lt q2] at e4 e12
    rw [e3, e4, k13] at sm
    have sm' : P_X6_areSame G F (W.ad (.o 6 1)) (W.ad (.b 3 0 11 0)) (W.ad (.b 3 0 11 1)) (mem W S11) = _ := sm
    rw [sm', bP_s]
    refine ⟨S11, V11, ?_, F0, K.keep F0 (by simp [wc]) C11 ek, ek, fun _ => ⟨e11, e12⟩⟩
    unfold onC
    by_cases q3 : (((beN (seg xy 0 32) : Nat) : Int) * ((beN (seg xy 0 32) : Nat) : Int) * ((beN (seg xy 0 32) : Nat) : Int) - ((beN (seg xy 0 32) : Nat) : Int) - ((beN (seg xy 0 32) : Nat) : Int) - ((beN (seg xy 0 32) : Nat) : Int) + ((bP_ : Nat) : Int)) % (pP : Int) = (((beN (seg xy 32 32) : Nat) : Int) * ((beN (seg xy 32 32) : Nat) : Int)) % (pP : Int)
    · rw [if_pos q3, decide_eq_true ⟨by omega, q2, q3⟩, if_pos rfl, retZ1]
    · rw [if_neg q3, decide_eq_false (fun q => q3 q.2.2), if_neg (by decide), retZ0]
  · have no : onC (beN (seg xy 0 32)) (beN (seg xy 32 32)) = false := decide_eq_false (by omega)
    rw [if_neg (fun q => q2 (ordF_neg.1.mp q)), retZ0, no]
    exact ⟨S, V, rfl, lfr.refl _ _, K, fun _ _ _ _ => rfl, fun q => absurd q (by decide)⟩
/-- the inverse of z, and x and y of a sum -/
def zin (z : Int) : Int := ((rz (rs pP z) pP (beV 32 (pP - 2)) 256 : Nat) : Int)
def affS (s : JP) : Option (Nat × Nat) := match s with
  | none => none
  | some (x, y, z) => some (rs pP (x * (zin z * zin z)), rs pP (y * (zin z * zin z * zin z)))
def ptB (q : Nat × Nat) : List UInt8 := beV 32 q.1 ++ beV 32 q.2
theorem ptB_len (q : Nat × Nat) : (ptB q).length = 64 := by unfold ptB; rw [List.length_append, beV_len, beV_len]
theorem Q3_putSum {it room : Nat} {t : List UInt8} {l : Bool} {s : JP} (X : Cx G F W) (h : isCu W) (K : CK S V) (J : CJ V s) (ht : isB W it room) (hroom : 64 ≤ room) (hit : it ∉ [72, 73, 74, 75, 79]) (bt : Byt room (S 0 it) t l) : ∃ S' V', P_X3_putSum G F (W.ad (.o 3 0)) (W.ad (.o 0 it)) (mem W S) = some (if (affS s).isSome = true then 1 else 0, mem W S') ∧ fr [(3, 0), (6, 1), (0, it)] S S' ∧ CK S' V' ∧ (∀ k, 9 ≤ k → V' k = V k) ∧ match affS s with | some q => Byt room (S' 0 it) (ptB q) false | none => S' = S := by
  obtain ⟨C, k9, k10, k13, k14, kM, b1, b2, b3, b4, b5⟩ := id K
  have z0 : P_X6_isZero G F (W.ad (.o 6 1)) (W.ad (.b 3 0 10 2)) (mem W S) = _ := cu_zero (G := G) (F := F) X h C 2 (by decide)
  unfold P_X3_putSum
  rw [h.gf, bO_s, h.gA 10 (by decide) rfl, bO_s, h.gl 10 2 (by decide), bO_s, rcv_m h.mo.1, bO_s, z0, bP_s]
  match s, J with
  | none, J =>
    have J : V 2 % (pP : Int) = 0 := J
    rw [if_pos J, if_neg (by decide), retZ0]
    exact ⟨S, V, rfl, fr.refl _ _, K, fun _ _ => rfl, rfl⟩
  | some (x, y, z), J =>
    obtain ⟨rfl, rfl, rfl, hz⟩ := J
    rw [if_neg hz, if_pos (by rfl)]
    obtain ⟨S1, A1, g1, f1, C1, L1⟩ := cu_back (G := G) (F := F) X h C 2 (by decide)
    have g1' : P_X6_leadBack G F (W.ad (.o 6 1)) (W.ad (.b 3 0 10 2)) (mem W S) = some (mem W S1) := g1
    obtain ⟨V1, hV1⟩ : ∃ Vn, Vn = iu V 2 A1 := ⟨_, rfl⟩
    rw [← hV1] at C1
    rw [h.gf, bO_s, h.gA 10 (by decide) rfl, bO_s, h.gl 10 2 (by decide), bO_s, rcv_m h.mo.1, bO_s, g1', bO_s]
    have b2_1 := Byt.lfr f1 b2
    have bt_1 := Byt.lfr f1 bt
    obtain ⟨S2, A2, g2, f2, C2, L2⟩ := cu_raise (G := G) (F := F) X h C1 2 3 (by decide) (by decide) (h.bb 1 (by decide)) b2_1 (by rw [beV_len]; decide) L1
    have g2' : P_X6_raise G F (W.ad (.o 6 1)) (W.ad (.b 3 0 10 2)) (W.ad (.o 0 73)) (W.ad (.b 3 0 11 0)) (mem W S1) = some (mem W S2) := g2
    obtain ⟨V2, hV2⟩ : ∃ Vn, Vn = iu V1 3 A2 := ⟨_, rfl⟩
    rw [← hV2] at C2
    rw [h.gf, bO_s, h.gA 10 (by decide) rfl, bO_s, h.gl 10 2 (by decide), bO_s, h.gb 1 (by decide), bO_s, h.gA 11 (by decide) rfl, bO_s, h.gl 11 0 (by decide), bO_s, rcv_m h.mo.1, bO_s, g2', bO_s]
    have b2_2 := Byt.lfr f2 b2_1
    have bt_2 := Byt.lfr f2 bt_1
    have lv2_2 : LV (lgt S2 (wc 2)) 8 (rs pP (V 2)) := by rw [f2.2 _ (by simp [wc])]; exact L1
    obtain ⟨S3, g3, f3, C3⟩ := cu_lead (G := G) (F := F) X h C2 3 (by decide) L2
    have g3' : P_X6_lead G F (W.ad (.o 6 1)) (W.ad (.b 3 0 11 0)) (mem W S2) = some (mem W S3) := g3
    obtain ⟨V3, hV3⟩ : ∃ Vn, Vn = iu V2 3 ((((rz (rs pP (V 2)) pP (beV 32 (pP - 2)) (8 * (beV 32 (pP - 2)).length)) : Nat) : Int)) := ⟨_, rfl⟩
    rw [← hV3] at C3
    rw [h.gf, bO_s, h.gA 11 (by decide) rfl, bO_s, h.gl 11 0 (by decide), bO_s, rcv_m h.mo.1, bO_s, g3', bO_s]
    have b2_3 := Byt.lfr f3 b2_2
    have bt_3 := Byt.lfr f3 bt_2
    have lv2_3 : LV (lgt S3 (wc 2)) 8 (rs pP (V 2)) := by rw [f3.2 _ (by simp [wc])]; exact lv2_2
    obtain ⟨S4, g4, f4, C4⟩ := cu_times (G := G) (F := F) X h C3 3 3 4 (by decide) (by decide) (by decide)
    have g4' : P_X6_times G F (W.ad (.o 6 1)) (W.ad (.b 3 0 11 0)) (W.ad (.b 3 0 11 0)) (W.ad (.b 3 0 11 1)) (mem W S3) = some (mem W S4) := g4
    obtain ⟨V4, hV4⟩ : ∃ Vn, Vn = iu V3 4 (V3 3 * V3 3) := ⟨_, rfl⟩
    rw [← hV4] at C4
    rw [h.gf, bO_s, h.gA 11 (by decide) rfl, bO_s, h.gl 11 0 (by decide), bO_s, bO_s, h.gl 11 0 (by decide), bO_s, bO_s, h.gl 11 1 (by decide), bO_s, rcv_m h.mo.1, bO_s, g4', bO_s]
    have b2_4 := Byt.lfr f4 b2_3
    have bt_4 := Byt.lfr f4 bt_3
    have lv2_4 : LV (lgt S4 (wc 2)) 8 (rs pP (V 2)) := by rw [f4.2 _ (by simp [wc])]; exact lv2_3
    obtain ⟨S5, g5, f5, C5⟩ := cu_times (G := G) (F := F) X h C4 4 3 5 (by decide) (by decide) (by decide)
    have g5' : P_X6_times G F (W.ad (.o 6 1)) (W.ad (.b 3 0 11 1)) (W.ad (.b 3 0 11 0)) (W.ad (.b 3 0 11 2)) (mem W S4) = some (mem W S5) := g5
    obtain ⟨V5, hV5⟩ : ∃ Vn, Vn = iu V4 5 (V4 4 * V4 3) := ⟨_, rfl⟩
    rw [← hV5] at C5
    rw [h.gf, bO_s, h.gA 11 (by decide) rfl, bO_s, h.gl 11 1 (by decide), bO_s, bO_s, h.gl 11 0 (by decide), bO_s, bO_s, h.gl 11 2 (by decide), bO_s, rcv_m h.mo.1, bO_s, g5', bO_s]
    have b2_5 := Byt.lfr f5 b2_4
    have bt_5 := Byt.lfr f5 bt_4
    have lv2_5 : LV (lgt S5 (wc 2)) 8 (rs pP (V 2)) := by rw [f5.2 _ (by simp [wc])]; exact lv2_4
    obtain ⟨S6, g6, f6, C6⟩ := cu_times (G := G) (F := F) X h C5 0 4 4 (by decide) (by decide) (by decide)
    have g6' : P_X6_times G F (W.ad (.o 6 1)) (W.ad (.b 3 0 10 0)) (W.ad (.b 3 0 11 1)) (W.ad (.b 3 0 11 1)) (mem W S5) = some (mem W S6) := g6
    obtain ⟨V6, hV6⟩ : ∃ Vn, Vn = iu V5 4 (V5 0 * V5 4) := ⟨_, rfl⟩
    rw [← hV6] at C6
    rw [h.gf, bO_s, h.gA 10 (by decide) rfl, bO_s, h.gl 10 0 (by decide), bO_s, h.gA 11 (by decide) rfl, bO_s, h.gl 11 1 (by decide), bO_s, bO_s, h.gl 11 1 (by decide), bO_s, rcv_m h.mo.1, bO_s, g6', bO_s]
    have b2_6 := Byt.lfr f6 b2_5
    have bt_6 := Byt.lfr f6 bt_5
    have lv2_6 : LV (lgt S6 (wc 2)) 8 (rs pP (V 2)) := by rw [f6.2 _ (by simp [wc])]; exact lv2_5
    obtain ⟨S7, g7, f7, C7⟩ := cu_times (G := G) (F := F) X h C6 1 5 5 (by decide) (by decide) (by decide)
    have g7' : P_X6_times G F (W.ad (.o 6 1)) (W.ad (.b 3 0 10 1)) (W.ad (.b 3 0 11 2)) (W.ad (.b 3 0 11 2)) (mem W S6) = some (mem W S7) := g7
    obtain ⟨V7, hV7⟩ : ∃ Vn, Vn = iu V6 5 (V6 1 * V6 5) := ⟨_, rfl⟩
    rw [← hV7] at C7
    rw [h.gf, bO_s, h.gA 10 (by decide) rfl, bO_s, h.gl 10 1 (by decide), bO_s, h.gA 11 (by decide) rfl, bO_s, h.gl 11 2 (by decide), bO_s, bO_s, h.gl 11 2 (by decide), bO_s, rcv_m h.mo.1, bO_s, g7', bO_s]
    have b2_7 := Byt.lfr f7 b2_6
    have bt_7 := Byt.lfr f7 bt_6
    have lv2_7 : LV (lgt S7 (wc 2)) 8 (rs pP (V 2)) := by rw [f7.2 _ (by simp [wc])]; exact lv2_6
    obtain ⟨S8, A8, g8, f8, C8, L8⟩ := cu_back (G := G) (F := F) X h C7 4 (by decide)
    have g8' : P_X6_leadBack G F (W.ad (.o 6 1)) (W.ad (.b 3 0 11 1)) (mem W S7) = some (mem W S8) := g8
    obtain ⟨V8, hV8⟩ : ∃ Vn, Vn = iu V7 4 A8 := ⟨_, rfl⟩
    rw [← hV8] at C8
    rw [h.gf, bO_s, h.gA 11 (by decide) rfl, bO_s, h.gl 11 1 (by decide), bO_s, rcv_m h.mo.1, bO_s, g8', bO_s]
    have b2_8 := Byt.lfr f8 b2_7
    have bt_8 := Byt.lfr f8 bt_7
    have lv2_8 : LV (lgt S8 (wc 2)) 8 (rs pP (V 2)) := by rw [f8.2 _ (by simp [wc])]; exact lv2_7
    obtain ⟨S9, A9, g9, f9, C9, L9⟩ := cu_back (G := G) (F := F) X h C8 5 (by decide)
    have g9' : P_X6_leadBack G F (W.ad (.o 6 1)) (W.ad (.b 3 0 11 2)) (mem W S8) = some (mem W S9) := g9
    obtain ⟨V9, hV9⟩ : ∃ Vn, Vn = iu V8 5 A9 := ⟨_, rfl⟩
    rw [← hV9] at C9
    rw [h.gf, bO_s, h.gA 11 (by decide) rfl, bO_s, h.gl 11 2 (by decide), bO_s, rcv_m h.mo.1, bO_s, g9', bO_s]
    have b2_9 := Byt.lfr f9 b2_8
    have bt_9 := Byt.lfr f9 bt_8
    have lv2_9 : LV (lgt S9 (wc 2)) 8 (rs pP (V 2)) := by rw [f9.2 _ (by simp [wc])]; exact lv2_8
    have lv4_9 : LV (lgt S9 (wc 4)) 8 (rs pP (V7 4)) := by rw [f9.2 _ (by simp [wc])]; exact L8
    have ez : rz (rs pP (V 2)) pP (beV 32 (pP - 2)) (8 * (beV 32 (pP - 2)).length) = rz (rs pP (V 2)) pP (beV 32 (pP - 2)) 256 := by rw [beV_len]
    have ek : ∀ k, 9 ≤ k → V9 k = V k := by
      intro k hk
      have q : ∀ i, i < 9 → k ≠ i := fun i hi => by omega
      simp only [hV9, hV8, hV7, hV6, hV5, hV4, hV3, hV2, hV1, iu, q 2 (by omega), q 3 (by omega), q 4 (by omega), q 5 (by omega), if_false]
    have F0 : lfr CuM S S9 := (((((((((f1.mono (by simp)).trans (f2.mono (by simp))).trans (f3.mono (by simp))).trans (f4.mono (by simp))).trans (f5.mono (by simp))).trans (f6.mono (by simp))).trans (f7.mono (by simp))).trans (f8.mono (by simp))).trans (f9.mono (by simp)))
    have ex : (rs pP (V7 4)) = rs pP (V 0 * (zin (V 2) * zin (V 2))) := by
      unfold zin
      rw [← ez]
      simp only [hV9, hV8, hV7, hV6, hV5, hV4, hV3, hV2, hV1, iu]
      simp
    have ey : (rs pP (V8 5)) = rs pP (V 1 * (zin (V 2) * zin (V 2) * zin (V 2))) := by
      unfold zin
      rw [← ez]
      simp only [hV9, hV8, hV7, hV6, hV5, hV4, hV3, hV2, hV1, iu]
      simp
    have l4 := lv4_9
    have l5 := L9
    rw [ex] at l4
    rw [ey] at l5
    have K1 : CK S9 V9 := K.keep F0 (by simp [wc]) C9 (fun k hk _ _ => ek k hk)
    obtain ⟨o1, u1, d1⟩ := Q0_clear (G := G) (F := F) ht bt_9
    obtain ⟨o2, u2, d2⟩ := Q6_give (G := G) (F := F) (S := S9.so 0 it o1) (n := 8) (x := wc 4) (k := 32) X h.mo ht (h.lk (k := 4) (by decide)) (by omega) (by omega) (by rw [wc_ow 4 (by decide)]; simp) (by omega) (by rw [so_ne (by omega)]; exact C9.1.b.1) (by rw [lgt_so (by rw [wc_ow 4 (by decide)]; simp)]; exact l4) (by rw [so_eq]; exact d1)
    rw [so_so] at u2
    rw [tkl_fit (by rw [beV_len]; simp; omega), lsl_fit (by rw [beV_len]; simp; omega), List.nil_append] at d2
    obtain ⟨o3, u3, d3⟩ := Q6_give (G := G) (F := F) (S := S9.so 0 it o2) (n := 8) (x := wc 5) (k := 32) X h.mo ht (h.lk (k := 5) (by decide)) (by omega) (by omega) (by rw [wc_ow 5 (by decide)]; simp) (by omega) (by rw [so_ne (by omega)]; exact C9.1.b.1) (by rw [lgt_so (by rw [wc_ow 5 (by decide)]; simp)]; exact l5) (by rw [so_eq]; exact d2)
    rw [so_so] at u3
    rw [tkl_fit (by rw [beV_len, beV_len]; omega), lsl_fit (by rw [beV_len, beV_len]; omega)] at d3
    have u2' : P_X6_give G F (W.ad (.o 6 1)) (W.ad (.b 3 0 11 1)) 32 (W.ad (.o 0 it)) (mem W (S9.so 0 it o1)) = some (mem W (S9.so 0 it o2)) := u2
    have u3' : P_X6_give G F (W.ad (.o 6 1)) (W.ad (.b 3 0 11 2)) 32 (W.ad (.o 0 it)) (mem W (S9.so 0 it o2)) = some (mem W (S9.so 0 it o3)) := u3
    rw [rcv_m ht.lo, bO_s, u1, bO_s, h.gf, bO_s, h.gA 11 (by decide) rfl, bO_s, h.gl 11 1 (by decide), bO_s, rcv_m h.mo.1, bO_s, u2', bO_s, h.gf, bO_s, h.gA 11 (by decide) rfl, bO_s, h.gl 11 2 (by decide), bO_s, rcv_m h.mo.1, bO_s, u3', bO_s, retZ1]
    have hn : ∀ q, q = 72 ∨ q = 73 ∨ q = 74 ∨ q = 75 ∨ q = 79 → ¬ q = it := by
      intro q hq e
      apply hit
      rw [← e]
      simp
      omega
    refine ⟨_, V9, rfl, (F0.fr (L' := [(3, 0), (6, 1), (0, it)]) (by simp [ow, wc])).trans (fr_so (by simp)), K1.fr (fr_so (L := [(0, it)]) (by simp)) (by simp; exact ⟨hn 72 (by omega), hn 73 (by omega), hn 74 (by omega), hn 75 (by omega), hn 79 (by omega)⟩), ek, ?_⟩
    show Byt room ((S9.so 0 it o3) 0 it) _ false
    rw [so_eq]
    exact d3
end LOADC
