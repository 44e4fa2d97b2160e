/-! THE PARTS OF A SEALED TOKEN READ: the class -/
/-- have the parts the lengths that they must have? -/
def whB (xs : List UInt8) (w : Nat) : Bool := decide ((dec (ptX xs 1)).length ≤ 128) && (decide ((dec (ptX xs 2)).length = ivOf w) && decide ((dec (ptX xs 4)).length = wayM w))
theorem ptX_two {xs : List UInt8} (h : (ptA xs).length = 4) : (ptX xs 3).length + (ptX xs 4).length ≤ xs.length := by
  obtain ⟨a1, a2⟩ := part_le (xs := xs) (p := 3) (by omega)
  obtain ⟨b1, b2⟩ := part_le (xs := xs) (p := 4) (by omega)
  have e3 : (ptX xs 3).length ≤ peP xs 3 - stP (ptA xs) 3 := by unfold ptX; rw [List.length_take]; omega
  have e4 : (ptX xs 4).length ≤ peP xs 4 - stP (ptA xs) 4 := by unfold ptX; rw [List.length_take]; omega
  have q : peP xs 3 + 1 = stP (ptA xs) 4 := by
    unfold peP
    rw [if_neg (by omega)]
    rfl
  omega
section RSP
variable {W : WR} {G : mG} {F : Nat} {S : ST} {xs : List UInt8} {l : Bool} {r w : Nat}
theorem Q10_readSealedParts (X : Cx G F W) (h : isTK W) (ab : AB W S) (T : SPT (S 10 0) xs) (h4 : (ptA xs).length = 4) (hw : w < 4) (f2 : (S 10 0).f 2 = (Int32.ofNat w)) (hr : r < 8) (hR : isB W r 8192) (bx : Byt 8192 (S 0 r) xs l) (B12 : isB W 12 8192) (hf : ∀ p, p < 5 → fltF (ptX xs p) = none) : ∃ S', P_X10_readSealedParts G F (W.ad (.o 10 0)) (W.ad (.o 0 r)) (W.ad (.o 0 12)) (mem W S) = some (if whB xs w = true then 1 else 0, mem W S') ∧ fr [(0, 12), (0, 90), (0, 91)] S S' ∧ AB W S' ∧ (whB xs w = true → Byt 128 (S' 0 90) (dec (ptX xs 1)) false ∧ Byt 16 (S' 0 91) (dec (ptX xs 2)) false ∧ Byt 8192 (S' 0 12) (dec (ptX xs 3) ++ dec (ptX xs 4)) false) := by
  have hl := bx.le
  have g10 : ∀ S, gfR (mem W S) (W.ad (.o 10 0)) 10 10 = some (W.ad (.o 0 90)) := fun S => gfR_m h.1.1 rfl (h.2.2 10 (by decide) (by decide)).1
  have g11 : ∀ S, gfR (mem W S) (W.ad (.o 10 0)) 10 11 = some (W.ad (.o 0 91)) := fun S => gfR_m h.1.1 rfl (h.2.2 11 (by decide) (by decide)).1
  have B90 : isB W 90 128 := (h.2.2 10 (by decide) (by decide)).2
  have B91 : isB W 91 16 := (h.2.2 11 (by decide) (by decide)).2
  have x2 : gfI (mem W S) (W.ad (.o 10 0)) 10 2 = some (Int32.ofNat w) := by rw [gfI_m h.1.1 rfl, f2]
  have pb : ∀ p, p ≤ 4 → P_X10_partBytes G F (W.ad (.o 10 0)) (Int32.ofNat p) (mem W S) = some ((Int32.ofNat (dec (ptX xs p)).length), mem W S) := fun p hp => by
    rw [Q10_partBytes h.1 T (by omega) hl, dec_len]
  have pb1 : P_X10_partBytes G F (W.ad (.o 10 0)) 1 (mem W S) = _ := pb 1 (by decide)
  have pb2 : P_X10_partBytes G F (W.ad (.o 10 0)) 2 (mem W S) = _ := pb 2 (by decide)
  have pb4 : P_X10_partBytes G F (W.ad (.o 10 0)) 4 (mem W S) = _ := pb 4 (by decide)
  have plx : ∀ p, (ptX xs p).length ≤ xs.length := fun p => by
    unfold ptX
    rw [List.length_take, List.length_drop]
    omega
  have d1 := dec_len (ptX xs 1)
  have d2 := dec_len (ptX xs 2)
  have d3 := dec_len (ptX xs 3)
  have d4 := dec_len (ptX xs 4)
  have p1 := plx 1
  have p2 := plx 2
  have p3 := plx 3
  have p4 := plx 4
  have p34 := ptX_two h4
  have ivl := ivOf_le w
  have wm := wayM_32 w
  have no : whB xs w = false → ∃ S', some ((0 : Int32), mem W S) = some (if whB xs w = true then (1 : Int32) else 0, mem W S') ∧ fr [(0, 12), (0, 90), (0, 91)] S S' ∧ AB W S' ∧ (whB xs w = true → Byt 128 (S' 0 90) (dec (ptX xs 1)) false ∧ Byt 16 (S' 0 91) (dec (ptX xs 2)) false ∧ Byt 8192 (S' 0 12) (dec (ptX xs 3) ++ dec (ptX xs 4)) false) := fun q => by
    rw [q]
    exact ⟨S, rfl, fr.refl _ _, ab, fun z => absurd z (by decide)⟩
  unfold P_X10_readSealedParts
  rw [rcv_m h.1.1, bO_s, pb1, bP_s, g10, bO_s, B90.gR, bO_s, B90.ln, bO_s]
  have xa : ((Int32.ofNat 128) < (Int32.ofNat (dec (ptX xs 1)).length)) = (128 < (dec (ptX xs 1)).length) := propext (n_lt (by omega) (by omega))
  have xb : ((Int32.ofNat (dec (ptX xs 2)).length) = (Int32.ofNat (ivOf w))) = ((dec (ptX xs 2)).length = ivOf w) := propext (n_eq (by omega) (by omega))
  have xc : ((Int32.ofNat (dec (ptX xs 4)).length) = (Int32.ofNat (wayM w))) = ((dec (ptX xs 4)).length = wayM w) := propext (n_eq (by omega) (by omega))
  simp only [xa]
  by_cases c1 : 128 < (dec (ptX xs 1)).length
  · rw [if_pos c1, retZ0]
    exact no (by unfold whB; rw [decide_eq_false (by omega)]; rfl)
  rw [if_neg c1, rcv_m h.1.1, bO_s, pb2, bP_s, x2, bO_s, way_t6 X hw, bO_s]
  simp only [xb]
  by_cases c2 : (dec (ptX xs 2)).length = ivOf w
  · rw [if_pos c2, rcv_m h.1.1, bO_s, pb4, bP_s, x2, bO_s, way_t7 X hw, bO_s]
    simp only [xc]
    by_cases c3 : (dec (ptX xs 4)).length = wayM w
    · have yes : whB xs w = true := by
        unfold whB
        rw [decide_eq_true (by omega), decide_eq_true c2, decide_eq_true c3]
        rfl
      obtain ⟨t1, m1, b1⟩ := ab 90 128 (by decide) B90
      obtain ⟨o1, g1, q1⟩ := Q10_readPart (G := G) (F := F) (S := S) (p := 1) (it := 90) X h.1 T (by omega) hR bx B90 b1 (by omega) (hf 1 (by decide)) (by omega)
      have T1 : SPT ((S.so 0 90 o1) 10 0) xs := by rw [so_ne (by omega)]; exact T
      have bx1 : Byt 8192 ((S.so 0 90 o1) 0 r) xs l := by rw [so_ne (by omega)]; exact bx
      have ab1 := ab.so B90 q1
      obtain ⟨t2, m2, b2⟩ := ab1 91 16 (by decide) B91
      obtain ⟨o2, g2, q2⟩ := Q10_readPart (G := G) (F := F) (S := S.so 0 90 o1) (p := 2) (it := 91) X h.1 T1 (by omega) hR bx1 B91 b2 (by omega) (hf 2 (by decide)) (by omega)
      have T2 : SPT (((S.so 0 90 o1).so 0 91 o2) 10 0) xs := by rw [so_ne (by omega)]; exact T1
      have bx2 : Byt 8192 (((S.so 0 90 o1).so 0 91 o2) 0 r) xs l := by rw [so_ne (by omega)]; exact bx1
      have ab2 := ab1.so B91 q2
      obtain ⟨t3, m3, b3⟩ := ab2 12 8192 (by decide) B12
      obtain ⟨o3, g3, q3⟩ := Q10_readPart (G := G) (F := F) (S := (S.so 0 90 o1).so 0 91 o2) (p := 3) (it := 12) X h.1 T2 (by omega) hR bx2 B12 b3 (by omega) (hf 3 (by decide)) (by omega)
      have T3 : SPT ((((S.so 0 90 o1).so 0 91 o2).so 0 12 o3) 10 0) xs := by rw [so_ne (by omega)]; exact T2
      have bx3 : Byt 8192 ((((S.so 0 90 o1).so 0 91 o2).so 0 12 o3) 0 r) xs l := by rw [so_ne (by omega)]; exact bx2
      obtain ⟨s1, s2⟩ := part_le (xs := xs) (p := 4) (by omega)
      obtain ⟨o4, g4, q4⟩ := Q0_putUnlettered (G := G) (F := F) (S := ((S.so 0 90 o1).so 0 91 o2).so 0 12 o3) (i := 12) (i2 := r) (st := stP (ptA xs) 4) (stop := peP xs 4) X B12 (by rw [so_eq]; exact q3) hR bx3 (by omega) s1 s2 (by omega) (flt_none (hf 4 (by decide)))
      rw [so_so] at g4
      have q4 : Byt 8192 o4 (tkl 8192 (dec (ptX xs 3)) (dec (ptX xs 4))) (lsl 8192 (dec (ptX xs 3)) (dec (ptX xs 4)) false) := q4
      rw [tkl_fit (by omega), lsl_fit (by omega)] at q4
      have g1 : P_X10_readPart G F (W.ad (.o 10 0)) (W.ad (.o 0 r)) 1 (W.ad (.o 0 90)) (mem W S) = _ := g1
      have g2 : P_X10_readPart G F (W.ad (.o 10 0)) (W.ad (.o 0 r)) 2 (W.ad (.o 0 91)) (mem W (S.so 0 90 o1)) = _ := g2
      have g3 : P_X10_readPart G F (W.ad (.o 10 0)) (W.ad (.o 0 r)) 3 (W.ad (.o 0 12)) (mem W ((S.so 0 90 o1).so 0 91 o2)) = _ := g3
      have e1 := Q10_start (G := G) (F := F) (S := ((S.so 0 90 o1).so 0 91 o2).so 0 12 o3) (p := 4) h.1 T3 (by omega)
      have e1 : P_X10_partStart G F (W.ad (.o 10 0)) 4 (mem W (((S.so 0 90 o1).so 0 91 o2).so 0 12 o3)) = _ := e1
      have e2 := Q10_end (G := G) (F := F) (S := ((S.so 0 90 o1).so 0 91 o2).so 0 12 o3) (p := 4) h.1 T3 (by omega)
      have e2 : P_X10_partEnd G F (W.ad (.o 10 0)) 4 (mem W (((S.so 0 90 o1).so 0 91 o2).so 0 12 o3)) = _ := e2
      rw [if_pos c3, g10, bO_s, rcv_m h.1.1, bO_s, g1, bO_s, g11, bO_s, rcv_m h.1.1, bO_s, g2, bO_s, rcv_m h.1.1, bO_s, g3, bO_s, rcv_m h.1.1, bO_s, e1, bP_s, rcv_m h.1.1, bO_s, e2, bP_s, rcv_m B12.lo, bO_s, g4, bO_s, retZ1, yes]
      refine ⟨_, rfl, ((fr_so (by simp)).trans (fr_so (by simp))).trans (fr_so (by simp)), ab2.so B12 q4, fun _ => ⟨?_, ?_, ?_⟩⟩
      · rw [so_ne (by omega), so_ne (by omega), so_eq]; exact q1
      · rw [so_ne (by omega), so_eq]; exact q2
      · rw [so_eq]; exact q4
    · rw [if_neg c3, retZ0]
      exact no (by unfold whB; rw [decide_eq_false c3, Bool.and_false, Bool.and_false])
  · rw [if_neg c2, retZ0]
    exact no (by unfold whB; rw [decide_eq_false c2, Bool.false_and, Bool.and_false])
end RSP
