/-! RSA: the class's mask -/
def mkB (seed : List UInt8) (t : Nat) : UInt8 := (sha false (seed ++ w4 (Int32.ofNat (t / 32)))).getD (t % 32) 0
/-- t bytes from a on are masked -/
def mskL (xs seed : List UInt8) (a t : Nat) : List UInt8 := (List.range xs.length).map fun j => if a ≤ j ∧ j < a + t then xs.getD j 0 ^^^ mkB seed (j - a) else xs.getD j 0
theorem mskL_len (xs seed : List UInt8) (a t : Nat) : (mskL xs seed a t).length = xs.length := by
  unfold mskL
  rw [List.length_map, List.length_range]
theorem mskL_at {xs seed : List UInt8} {a t j : Nat} (h : j < xs.length) : (mskL xs seed a t)[j]? = some (if a ≤ j ∧ j < a + t then xs.getD j 0 ^^^ mkB seed (j - a) else xs.getD j 0) := by
  unfold mskL
  simp [h]
theorem mskL_0 (xs seed : List UInt8) (a : Nat) : mskL xs seed a 0 = xs := by
  apply List.ext_getElem?
  intro j
  by_cases c : j < xs.length
  · rw [mskL_at c, if_neg (by omega), List.getD_eq_getElem?_getD, List.getElem?_eq_getElem c]
    rfl
  · rw [List.getElem?_eq_none (by rw [mskL_len]; omega), List.getElem?_eq_none (by omega)]
theorem mskL_s {xs seed : List UInt8} {a t : Nat} (h : a + t < xs.length) : (mskL xs seed a t).set (a + t) (xs.getD (a + t) 0 ^^^ mkB seed t) = mskL xs seed a (t + 1) := by
  apply List.ext_getElem?
  intro j
  by_cases c : j < xs.length
  · rw [mskL_at c, List.getElem?_set]
    by_cases d : a + t = j
    · rw [if_pos d, if_pos (by rw [mskL_len]; omega), if_pos (by omega), ← d, show a + t - a = t by omega]
    · rw [if_neg d, mskL_at c]
      by_cases e : a ≤ j ∧ j < a + t
      · rw [if_pos e, if_pos (by omega)]
      · rw [if_neg e, if_neg (by omega)]
  · rw [List.getElem?_eq_none (by rw [List.length_set, mskL_len]; omega), List.getElem?_eq_none (by rw [mskL_len]; omega)]
theorem mskL_sd {xs : List UInt8} {sd sn a t : Nat} (hx : sd + sn ≤ xs.length) (hd : sd + sn ≤ a ∨ a + t ≤ sd) (seed : List UInt8) : seg (mskL xs seed a t) sd sn = seg xs sd sn := by
  unfold seg
  apply List.ext_getElem?
  intro j
  rw [List.getElem?_take, List.getElem?_take]
  by_cases c : j < sn
  · rw [if_pos c, if_pos c, List.getElem?_drop, List.getElem?_drop, mskL_at (by omega), if_neg (by omega), List.getD_eq_getElem?_getD, List.getElem?_eq_getElem (by omega)]
    rfl
  · rw [if_neg c, if_neg c]
