/-! SEALED CONTENT: the class, marks, back, lock and unlock -/
def ivOf (way : Nat) : Nat := if way < 2 then 16 else 12
/-- sealed, and opened -/
def sealF (way : Nat) (key iv al u : List UInt8) : List UInt8 := if 2 ≤ way then ctrF (ksF (key.length / 4) key) (key.length / 4 + 6) iv u ++ gmarkF (ksF (key.length / 4) key) (key.length / 4 + 6) iv al (ctrF (ksF (key.length / 4) key) (key.length / 4 + 6) iv u) else cbcF (ksF (key.length / 2 / 4) (key.drop (key.length / 2))) (key.length / 2 / 4 + 6) iv u ++ cmarkF way key iv al (cbcF (ksF (key.length / 2 / 4) (key.drop (key.length / 2))) (key.length / 2 / 4 + 6) iv u)
def openC (way : Nat) (key iv al c mk : List UInt8) : Option (List UInt8) := if 2 ≤ way then (if gmarkF (ksF (key.length / 4) key) (key.length / 4 + 6) iv al c = mk then some (ctrF (ksF (key.length / 4) key) (key.length / 4 + 6) iv c) else none) else if c.length = 0 ∨ c.length % 16 ≠ 0 then none else if cmarkF way key iv al c = mk then unpadF (ucbc (ksF (key.length / 2 / 4) (key.drop (key.length / 2))) (key.length / 2 / 4 + 6) (c.length / 16) iv c) else none
def openF (way : Nat) (key iv al u : List UInt8) : Option (List UInt8) := if u.length < wayM way then none else openC way key iv al (u.take (u.length - wayM way)) (u.drop (u.length - wayM way))
section CBC2
variable {W : WR} {G : mG} {F : Nat} {ks : Nat → UInt8} {nr : Nat}
theorem Q2_markByCode {S : ST} {ik i1 i2 i3 rk r1 r2 r3 many way : Nat} {key iv al xs ys zs : List UInt8} {lk l1 l2 l3 l4 l5 : Bool} (X : Cx G F W) (hd : isD W) (h : isCo W) (hK : isB W ik rk) (hB1 : isB W i1 r1) (hB2 : isB W i2 r2) (hB3 : isB W i3 r3) (nk : ik ≠ 67 ∧ ik ≠ 68) (n1 : i1 ≠ 67 ∧ i1 ≠ 68) (n2 : i2 ≠ 67 ∧ i2 ≠ 68) (n3 : i3 ≠ 67 ∧ i3 ≠ 68) (hw : way < 2) (bk : Byt rk (S 0 ik) key lk) (b1 : Byt r1 (S 0 i1) iv l1) (b2 : Byt r2 (S 0 i2) al l2) (b3 : Byt r3 (S 0 i3) xs l3) (b4 : Byt 64 (S 0 68) ys l4) (b5 : Byt 64 (S 0 67) zs l5) (hm : many ≤ xs.length) (hx : xs.length < 80000) (ha : al.length < 80000) (hi : iv.length < 80000) (hkk : key.length < 80000) : ∃ S', P_X2_markByCode G F (W.ad (.o 2 0)) (Int32.ofNat way) (W.ad (.o 0 ik)) (W.ad (.o 0 i1)) (W.ad (.o 0 i2)) (W.ad (.o 0 i3)) (Int32.ofNat many) (mem W S) = some (mem W S') ∧ fr [(4, 0), (0, 67), (0, 68)] S S' ∧ Byt 64 (S' 0 68) (cmarkF way key iv al (xs.take many)) false ∧ ∃ zs l, Byt 64 (S' 0 67) zs l := by
  have hF := X.hF
  have lo := h.1
  have hr0 := h.2.1
  have hr4 := h.2.2.2.2.2.1
  have hB4 := h.2.2.2.2.2.2
  have hb128 : ∀ w, bb w ≤ 128 := by intro w; cases w <;> decide
  obtain ⟨wide, hwide⟩ : ∃ wide, wide = decide (way ≠ 0) := ⟨_, rfl⟩
  have main : ∃ S', B_X2_markByCode_17 G F (W.ad (.o 2 0)) (Int32.ofNat way) (W.ad (.o 0 ik)) (W.ad (.o 0 i1)) (W.ad (.o 0 i2)) (W.ad (.o 0 i3)) (Int32.ofNat many) (W.ad (.o 4 0)) (if wide then 512 else 256) (mem W S) = some (mem W S') ∧ fr [(4, 0), (0, 67), (0, 68)] S S' ∧ Byt 64 (S' 0 68) (cmarkF way key iv al (xs.take many)) false ∧ ∃ zs l, Byt 64 (S' 0 67) zs l := by
    have d2 : (Int32.ofNat key.length) / (2 : Int32) = (Int32.ofNat (key.length / 2)) := n_div (b := 2) (by omega) (by decide)
    obtain ⟨S1, g1, f1, d1, k1, z1, q1, i1_⟩ := Q4_startCode (S := S) (wide := wide) (i := ik) (start := 0) (stop := key.length / 2) (xs := key) X hd hK nk.1 (by omega) (by omega) (by omega) bk b5
    rw [List.drop_zero, Nat.sub_zero] at d1 k1
    have g1' : P_X4_startCode G F (W.ad (.o 4 0)) (if wide then 512 else 256) (W.ad (.o 0 ik)) 0 (Int32.ofNat (key.length / 2)) (mem W S) = some (mem W S1) := g1
    have s1 : ∀ j, j ≠ 67 → S1 0 j = S 0 j := fun j hj => f1 0 j (by simp [hj])
    obtain ⟨KK, hKK⟩ : ∃ KK, KK = key.take (key.length / 2) := ⟨_, rfl⟩
    rw [← hKK] at d1 k1
    have eS1 : S1 = S1.so 4 0 (S1 4 0) := (so_self S1 4 0).symm
    obtain ⟨o2, g2, d2_, a2⟩ := Q4_addAll (S := S1) (o0 := S1 4 0) X hd hB2 (by rw [s1 i2 n2.1]; exact b2) (by omega) d1 (by rw [xk_len]; have := hb128 wide; omega)
    rw [so_self] at g2
    obtain ⟨o3, g3, d3, a3⟩ := Q4_addAll (S := S1) (o0 := o2) X hd hB1 (by rw [s1 i1 n1.1]; exact b1) (by omega) d2_ (by simp [xk_len]; have := hb128 wide; omega)
    obtain ⟨o4, g4, d4, a4⟩ := Q4_add (S := S1.so 4 0 o3) (k := 0) (stop := many) (xs := xs) X hd hB3 (by omega) hm (by omega) (by rw [so_ne (by omega), s1 i3 n3.1]; exact b3) (by rw [so_eq]; exact d3) (by simp [xk_len]; have := hb128 wide; omega)
    rw [so_so] at g4
    rw [so_eq] at a4
    rw [List.drop_zero, Nat.sub_zero] at d4
    have g4' : P_X4_add G F (W.ad (.o 4 0)) (W.ad (.o 0 i3)) 0 (Int32.ofNat many) (mem W (S1.so 4 0 o3)) = some (mem W (S1.so 4 0 o4)) := g4
    have htl : (xs.take many).length = many := by rw [List.length_take]; omega
    obtain ⟨o5, g5, d5, a5⟩ := Q4_addWord' (S := S1) (x := 0) X hd d4 (by simp [xk_len, htl]; have := hb128 wide; omega)
    obtain ⟨o6, g6, d6, a6⟩ := Q4_addWord' (S := S1) (x := (Int32.ofNat (8 * al.length))) X hd d5 (by simp [xk_len, htl, w4_len]; have := hb128 wide; omega)
    have aa : agD (S1 4 0) o6 := (((a2.trans a3).trans a4).trans a5).trans a6
    have h68 : S1 0 68 = S 0 68 := s1 68 (by decide)
    obtain ⟨o7, g7, b7⟩ := Q0_clear (G := G) (F := F) (S := S1.so 4 0 o6) hB4 (by rw [so_ne (by omega), h68]; exact b4)
    have d6' : DG o6 wide (xk (keyK wide KK) 54 (bb wide) ++ cmsg iv al (xs.take many)) := by
      have e : xk (keyK wide KK) 54 (bb wide) ++ cmsg iv al (xs.take many) = (((((xk (keyK wide KK) 54 (bb wide) ++ al) ++ iv) ++ xs.take many) ++ w4 0) ++ w4 (Int32.ofNat (8 * al.length))) := by
        unfold cmsg
        simp only [List.append_assoc]
      rw [e]
      exact d6
    have hml : (cmsg iv al (xs.take many)).length < 2 ^ 19 := by
      unfold cmsg
      simp [htl, w4_len]
      omega
    obtain ⟨S8, g8, f8, b8, z8⟩ := Q4_finishCode (S := (S1.so 4 0 o6).so 0 68 o7) (i := 68) (xs := []) (l1 := false) (key := KK) (msg := cmsg iv al (xs.take many)) X hd hB4 (by decide) (by rw [so_ne (by omega), so_eq]; exact d6') hml (fun t ht => by rw [so_ne (by omega), so_eq, aa.2.2.1 9 (by decide)]; exact k1 t ht) (by rw [so_eq]; exact b7) (by rw [so_ne (by omega), so_ne (by omega)]; exact i1_)
    have hml2 : (hmac wide KK (cmsg iv al (xs.take many))).length ≤ 64 := by rw [hmac_len]; cases wide <;> decide
    rw [tkl_fit (by simp; omega), lsl_fit (by simp; omega), List.nil_append] at b8
    have hwm : wayM way < 2 ^ 31 := by unfold wayM; split <;> decide
    obtain ⟨o9, g9, b9⟩ := Q0_cutTo (G := G) (F := F) (S := S8) (n := wayM way) hB4 b8 hwm
    have em : (Int32.ofNat al.length) * (8 : Int32) = (Int32.ofNat (8 * al.length)) := by
      rw [show (Int32.ofNat al.length) * (8 : Int32) = (Int32.ofNat (al.length * 8)) from n_mul _ 8, Nat.mul_comm]
    have al1 : ∀ o, gfI (mem W (S1.so 4 0 o)) (W.ad (.o 0 i2)) 0 1 = some (Int32.ofNat al.length) := fun o => by rw [hB2.gI 1 rfl, so_ne (by omega), s1 i2 n2.1, b2.many]
    have al0 : gfI (mem W S1) (W.ad (.o 0 i2)) 0 1 = some (Int32.ofNat al.length) := by rw [hB2.gI 1 rfl, s1 i2 n2.1, b2.many]
    have iv1 : ∀ o, gfI (mem W (S1.so 4 0 o)) (W.ad (.o 0 i1)) 0 1 = some (Int32.ofNat iv.length) := fun o => by rw [hB1.gI 1 rfl, so_ne (by omega), s1 i1 n1.1, b1.many]
    have r0 : ∀ S, gfR (mem W S) (W.ad (.o 2 0)) 2 0 = some (W.ad (.o 4 0)) := fun S => gfR_m lo rfl hr0
    have r4 : ∀ S, gfR (mem W S) (W.ad (.o 2 0)) 2 4 = some (W.ad (.o 0 68)) := fun S => gfR_m lo rfl hr4
    have rd : ∀ S, rcv (mem W S) (W.ad (.o 4 0)) 4 = some () := fun S => rcv_m hd.1
    unfold B_X2_markByCode_17
    rw [hK.gI 1 rfl, bO_s, bk.many, d2, rd, bO_s, g1', bO_s, r0, bO_s, al0, bO_s, rd, bO_s, g2, bO_s, r0, bO_s, iv1, bO_s, rd, bO_s, g3, bO_s, r0, bO_s, rd, bO_s, g4', bO_s, r0, bO_s, rd, bO_s, g5, bO_s, r0, bO_s, al1, bO_s, rd, bO_s, em, g6, bO_s, r4, bO_s, rcv_m hB4.lo, bO_s, g7, bO_s, r0, bO_s, r4, bO_s, rd, bO_s, g8, bO_s, r4, bO_s, way_t7 X (by omega), bO_s, rcv_m hB4.lo, bO_s, g9, bO_s]
    refine ⟨_, rfl, ?_, ?_, ?_⟩
    · exact (((f1.mono (by simp)).trans (fr_so (by simp))).trans (fr_so (by simp))).trans ((f8.mono (by simp)).trans (fr_so (by simp)))
    · rw [so_eq, cmarkF, ← hwide, ← hKK]
      exact b9
    · obtain ⟨zs, l, z8⟩ := z8
      exact ⟨zs, l, by rw [so_ne (by omega)]; exact z8⟩
  unfold P_X2_markByCode
  rw [gfR_m lo rfl hr0, bO_s]
  have hw2 : way = 0 ∨ way = 1 := by omega
  rcases hw2 with rfl | rfl
  · rw [if_pos (by rfl)]
    have : wide = false := by rw [hwide]; rfl
    rw [this] at main
    exact main
  · rw [if_neg (by decide)]
    have : wide = true := by rw [hwide]; rfl
    rw [this] at main
    exact main
theorem Q2_markStands {S : ST} {i room at_ : Nat} {mk xs : List UInt8} {l1 l2 : Bool} (X : Cx G F W) (h : isCo W) (hB : isB W i room) (b1 : Byt 64 (S 0 68) mk l1) (b2 : Byt room (S 0 i) xs l2) (hl : at_ + mk.length = xs.length) (hx : xs.length < 80000) : P_X2_markStands G F (W.ad (.o 2 0)) (W.ad (.o 0 i)) (Int32.ofNat at_) (mem W S) = some (if mk = xs.drop at_ then 1 else 0, mem W S) := by
  have hr4 := h.2.2.2.2.2.1
  have hB4 := h.2.2.2.2.2.2
  have cm := Q0_compare (G := G) (F := F) (S := S) (a := 0) (b := at_) (cnt := mk.length) X hB4 b1 hB b2 (by omega) (by omega) (by omega)
  have cm' : P_X0_compare G F (W.ad (.o 0 68)) 0 (W.ad (.o 0 i)) (Int32.ofNat at_) (Int32.ofNat mk.length) (mem W S) = _ := cm
  unfold P_X2_markStands
  rw [gfR_m h.1 rfl hr4, bO_s, bO_s, hB4.gI 1 rfl, bO_s, b1.many, cm', bP_s]
  have iff : cmpF (fun k => gB mk (0 + k)) (fun k => gB xs (at_ + k)) 0 mk.length = 0 ↔ mk = xs.drop at_ := by
    rw [cmpF_zero]
    constructor
    · intro q
      apply List.ext_getElem?
      intro j
      by_cases hj : j < mk.length
      · have := q j (by omega) (by omega)
        rw [Nat.zero_add, gB_lt hj, gB_lt (show at_ + j < xs.length by omega)] at this
        rw [List.getElem?_drop, List.getElem?_eq_getElem hj, List.getElem?_eq_getElem (by omega), b32_inj this]
      · rw [List.getElem?_eq_none (by omega), List.getElem?_eq_none (by simp; omega)]
    · intro q j _ hj
      have e : mk[j]? = xs[at_ + j]? := by rw [← List.getElem?_drop, ← q]
      unfold gB
      rw [Nat.zero_add, e]
  by_cases hq : mk = xs.drop at_
  · rw [if_pos (iff.mpr hq), if_pos hq, retZ1]
  · rw [if_neg (fun z => hq (iff.mp z)), if_neg hq, retZ0]
end CBC2
