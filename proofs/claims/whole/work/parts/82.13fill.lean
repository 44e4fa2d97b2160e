/-! RSA: the model's frame of a digest -/
theorem rp_l {m i : Nat} {T : List UInt8} (h : i < m) : (List.replicate m (255 : UInt8) ++ T)[i]? = some 255 := by
  rw [List.getElem?_append_left (by rw [List.length_replicate]; exact h), List.getElem?_replicate, if_pos h]
theorem rp_r {m j : Nat} {T : List UInt8} : (List.replicate m (255 : UInt8) ++ T)[m + j]? = T[j]? := by
  rw [List.getElem?_append_right (by rw [List.length_replicate]; omega), List.length_replicate, show m + j - m = j by omega]
theorem pk_2 {z : List UInt8} {n i : Nat} (h1 : 2 ≤ i) (h2 : i < n - 52) : (pkF z n).getD i 0 = 255 := by
  obtain ⟨k, rfl⟩ : ∃ k, i = k + 2 := ⟨i - 2, by omega⟩
  rw [List.getD_eq_getElem?_getD]
  show (((List.replicate (n - 54) (255 : UInt8) ++ (0 :: (infB ++ z)))[k]?).getD 0) = 255
  rw [rp_l (by omega)]
  rfl
theorem pk_3 {z : List UInt8} {n : Nat} (h : 54 ≤ n) : (pkF z n).getD (n - 52) 0 = 0 := by
  rw [show n - 52 = (n - 54 + 0) + 2 by omega, List.getD_eq_getElem?_getD]
  show (((List.replicate (n - 54) (255 : UInt8) ++ (0 :: (infB ++ z)))[n - 54 + 0]?).getD 0) = 0
  rw [rp_r]
  rfl
theorem pk_4 {z : List UInt8} {n j : Nat} (h : 54 ≤ n) (hj : j < 19) : (pkF z n).getD (n - 51 + j) 0 = infB.getD j 0 := by
  rw [show n - 51 + j = (n - 54 + (j + 1)) + 2 by omega, List.getD_eq_getElem?_getD]
  show (((List.replicate (n - 54) (255 : UInt8) ++ (0 :: (infB ++ z)))[n - 54 + (j + 1)]?).getD 0) = infB.getD j 0
  rw [rp_r]
  show ((infB ++ z)[j]?).getD 0 = infB.getD j 0
  rw [List.getElem?_append_left (by show j < 19; exact hj), List.getD_eq_getElem?_getD]
theorem pk_5 {z : List UInt8} {n j : Nat} (h : 54 ≤ n) : (pkF z n).getD (n - 32 + j) 0 = z.getD j 0 := by
  rw [show n - 32 + j = (n - 54 + ((19 + j) + 1)) + 2 by omega, List.getD_eq_getElem?_getD]
  show (((List.replicate (n - 54) (255 : UInt8) ++ (0 :: (infB ++ z)))[n - 54 + ((19 + j) + 1)]?).getD 0) = z.getD j 0
  rw [rp_r]
  show ((infB ++ z)[19 + j]?).getD 0 = z.getD j 0
  rw [List.getElem?_append_right (by show 19 ≤ 19 + j; omega), show infB.length = 19 from rfl, show 19 + j - 19 = j by omega, List.getD_eq_getElem?_getD]
def hexF (c : Int32) : Int32 := if c < 48 then (if c < 97 then (if c < 65 then -1 else if 70 < c then -1 else c - 55) else if 102 < c then (if c < 65 then -1 else if 70 < c then -1 else c - 55) else c - 87) else if 57 < c then (if c < 97 then (if c < 65 then -1 else if 70 < c then -1 else c - 55) else if 102 < c then (if c < 65 then -1 else if 70 < c then -1 else c - 55) else c - 87) else c - 48
theorem inf_h : ∀ j, j < 19 → (((16 : Int32) * hexF ((mbyt.getD 113 []).getD (2 * j) 0) + hexF ((mbyt.getD 113 []).getD (2 * j + 1) 0)).toInt8.toInt32).toInt8.toInt32 = sb (infB.getD j 0) := by decide +kernel
theorem inf_l : (mbyt.getD 113 []).length = 38 := by decide +kernel
section FILL
variable {W : WR} {G : mG} {F : Nat} {S : ST}
theorem QM_hexOf (c : Int32) (M : mM) : P_X13_hexOf G F c M = some (hexF c, M) := by
  unfold P_X13_hexOf P_X13_isDigit B_X13_hexOf_33 hexF
  by_cases a : c < 48
  · rw [if_pos a, retZ0, bP_s, if_pos rfl, if_pos a]
    by_cases b : c < 97
    · rw [if_pos b, if_pos b]
      by_cases d : c < 65
      · rw [if_pos d, if_pos d]
      · rw [if_neg d, if_neg d]
        by_cases e : 70 < c
        · rw [if_pos e, if_pos e]
        · rw [if_neg e, if_neg e]
    · rw [if_neg b, if_neg b]
      by_cases e : 102 < c
      · rw [if_pos e, if_pos e]
        by_cases d : c < 65
        · rw [if_pos d, if_pos d]
        · rw [if_neg d, if_neg d]
          by_cases e : 70 < c
          · rw [if_pos e, if_pos e]
          · rw [if_neg e, if_neg e]
      · rw [if_neg e, if_neg e]
  · rw [if_neg a, if_neg a]
    by_cases a2 : 57 < c
    · rw [if_pos a2, retZ0, bP_s, if_pos rfl, if_pos a2]
      by_cases b : c < 97
      · rw [if_pos b, if_pos b]
        by_cases d : c < 65
        · rw [if_pos d, if_pos d]
        · rw [if_neg d, if_neg d]
          by_cases e : 70 < c
          · rw [if_pos e, if_pos e]
          · rw [if_neg e, if_neg e]
      · rw [if_neg b, if_neg b]
        by_cases e : 102 < c
        · rw [if_pos e, if_pos e]
          by_cases d : c < 65
          · rw [if_pos d, if_pos d]
          · rw [if_neg d, if_neg d]
            by_cases e : 70 < c
            · rw [if_pos e, if_pos e]
            · rw [if_neg e, if_neg e]
        · rw [if_neg e, if_neg e]
    · rw [if_neg a2, retZ1, bP_s, if_neg (by decide), if_neg a2]
/-- one byte more stands -/
theorem up_next {β : Nat → UInt8} {g : Nat → UInt8} {i : Nat} (h : ∀ j, j < i → β j = g j) : ∀ j, j < i + 1 → va_up β i (g i) j = g j := by
  intro j hj
  unfold va_up
  by_cases c : j = i
  · rw [if_pos c, c]
  · rw [if_neg c]
    exact h j (by omega)
end FILL
