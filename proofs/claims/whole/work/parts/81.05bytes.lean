/-! BYTES, ON: whole copies, comparing -/
section BYTES4
variable {W : WR} {S : ST} {G : mG} {F i room : Nat} {xs : List UInt8} {lost : Bool} {i2 room2 : Nat} {ys : List UInt8} {lost2 : Bool}
theorem Q0_putAll (hB : isB W i room) (hb : Byt room (S 0 i) xs lost) (hB2 : isB W i2 room2) (hb2 : Byt room2 (S 0 i2) ys lost2) : ∃ o, P_X0_putAll G F (W.ad (.o 0 i)) (W.ad (.o 0 i2)) (mem W S) = some (mem W (S.so 0 i o)) ∧ Byt room o (tkl room xs ys) (lsl room xs ys lost) := by
  obtain ⟨o, h1, h2⟩ := Q0_putPart (G := G) (F := F) (p := 0) (n := ys.length) hB hb hB2 hb2 (by omega)
  rw [List.drop_zero, List.take_of_length_le (Nat.le_refl _)] at h2
  refine ⟨o, ?_, h2⟩
  simp only [P_X0_putAll, hB2.gI 1 rfl, hb2.many, bO_s, rcv_m hB.lo]
  rw [z32, h1, bO_s]
theorem Q0_become (hB : isB W i room) (hb : Byt room (S 0 i) xs lost) (hB2 : isB W i2 room2) (hb2 : Byt room2 (S 0 i2) ys lost2) (hne : i2 ≠ i) : ∃ o, P_X0_become G F (W.ad (.o 0 i)) (W.ad (.o 0 i2)) (mem W S) = some (mem W (S.so 0 i o)) ∧ Byt room o (tkl room [] ys) (lsl room [] ys false) := by
  obtain ⟨o0, h0, b0⟩ := Q0_clear (G := G) (F := F) hB hb
  have e2 : (S.so 0 i o0) 0 i2 = S 0 i2 := so_ne (fun h => hne h.2)
  obtain ⟨o, h1, h2⟩ := Q0_putPart (G := G) (F := F) (S := S.so 0 i o0) (p := 0) (n := ys.length) hB (by rw [so_eq]; exact b0) hB2 (by rw [e2]; exact hb2) (by omega)
  rw [List.drop_zero, List.take_of_length_le (Nat.le_refl _)] at h2
  refine ⟨o, ?_, h2⟩
  simp only [P_X0_become, rcv_m hB.lo, h0, bO_s, hB2.gI 1 rfl, e2, hb2.many]
  rw [z32, h1, bO_s, so_so]
theorem Q0_holds_l {c : Int32} (hB : isB W i room) (hb : Byt room (S 0 i) xs lost) : ∀ (m k n : Nat), m < n → k + m = xs.length → B_X0_holds_2 G F n (W.ad (.o 0 i)) c (Int32.ofNat k) (mem W S) = some (if (xs.drop k).any (fun x => decide (b32 x = c)) then 1 else 0, mem W S) := by
  have h1 := hb.le
  have h2 := hB.hr
  intro m
  induction m with
  | zero =>
    intro k n hn hk
    obtain ⟨n, rfl⟩ : ∃ q, n = q + 1 := ⟨n - 1, by omega⟩
    rw [B_X0_holds_2, hB.gI 1 rfl, bO_s, hb.many, if_pos ((n_le (by omega) (by omega)).mpr (by omega)), List.drop_eq_nil_of_le (by omega)]
    rfl
  | succ m ih =>
    intro k n hn hk
    obtain ⟨n, rfl⟩ : ∃ q, n = q + 1 := ⟨n - 1, by omega⟩
    have e : xs[k]? = some xs[k] := List.getElem?_eq_getElem (by omega)
    rw [B_X0_holds_2, hB.gI 1 rfl, bO_s, hb.many, if_neg (by rw [n_le (by omega) (by omega)]; omega), hB.gR, bO_s, aI_m hB.la rfl (by decide) (by decide) (by rw [hB.n]; exact inB_n (by omega) (by omega)), bO_s, n_at (by omega), hb.at_ k _ e, List.drop_eq_getElem_cons (by omega : k < xs.length), List.any_cons]
    by_cases hc : b32 xs[k] = c
    · rw [if_pos hc, decide_eq_true hc]
      rfl
    · rw [if_neg hc, decide_eq_false hc, Bool.false_or, o32, n_add]
      exact ih (k + 1) n (by omega) (by omega)
theorem Q0_holds {c : Int32} (X : Cx G F W) (hB : isB W i room) (hr : room < 90000) (hb : Byt room (S 0 i) xs lost) : P_X0_holds G F (W.ad (.o 0 i)) c (mem W S) = some (if xs.any (fun x => decide (b32 x = c)) then 1 else 0, mem W S) := by
  have h1 := hb.le
  have := X.hF
  exact Q0_holds_l hB hb xs.length 0 F (by omega) (Nat.zero_add _)
/-- what compare tells -/
def cmpF (f g : Nat → Int32) : Nat → Nat → Int32
  | _, 0 => 0
  | k, n + 1 => if f k = g k then cmpF f g (k + 1) n else if g k ≤ f k then 1 else -1
theorem Q0_compare_l {a b cnt : Nat} (hB : isB W i room) (hb : Byt room (S 0 i) xs lost) (hB2 : isB W i2 room2) (hb2 : Byt room2 (S 0 i2) ys lost2) (ha : a + cnt < 2 ^ 31) (hbb : b + cnt < 2 ^ 31) : ∀ (m k n : Nat), m < n → k + m = cnt → B_X0_compare_3 G F n (W.ad (.o 0 i)) (Int32.ofNat a) (W.ad (.o 0 i2)) (Int32.ofNat b) (Int32.ofNat cnt) (Int32.ofNat k) (mem W S) = some (cmpF (fun k => gB xs (a + k)) (fun k => gB ys (b + k)) k m, mem W S) := by
  intro m
  induction m with
  | zero =>
    intro k n hn hk
    obtain ⟨n, rfl⟩ : ∃ q, n = q + 1 := ⟨n - 1, by omega⟩
    rw [B_X0_compare_3, if_pos ((n_le (by omega) (by omega)).mpr (by omega))]
    rfl
  | succ m ih =>
    intro k n hn hk
    obtain ⟨n, rfl⟩ : ∃ q, n = q + 1 := ⟨n - 1, by omega⟩
    rw [B_X0_compare_3, if_neg (by rw [n_le (by omega) (by omega)]; omega), rcv_m hB.lo, bO_s, n_add, Q0_get hB hb (by omega), bP_s, rcv_m hB2.lo, bO_s, n_add, Q0_get hB2 hb2 (by omega), bP_s, cmpF]
    by_cases hc : gB xs (a + k) = gB ys (b + k)
    · rw [if_pos hc, if_pos hc, o32, n_add]
      exact ih (k + 1) n (by omega) (by omega)
    · rw [if_neg hc, if_neg hc]
      split <;> rfl
theorem Q0_compare {a b cnt : Nat} (X : Cx G F W) (hB : isB W i room) (hb : Byt room (S 0 i) xs lost) (hB2 : isB W i2 room2) (hb2 : Byt room2 (S 0 i2) ys lost2) (ha : a < 2 ^ 30) (hbb : b < 2 ^ 30) (hc : cnt < 90000) : P_X0_compare G F (W.ad (.o 0 i)) (Int32.ofNat a) (W.ad (.o 0 i2)) (Int32.ofNat b) (Int32.ofNat cnt) (mem W S) = some (cmpF (fun k => gB xs (a + k)) (fun k => gB ys (b + k)) 0 cnt, mem W S) := by
  have := X.hF
  exact Q0_compare_l hB hb hB2 hb2 (by omega) (by omega) cnt 0 F (by omega) (Nat.zero_add _)
theorem Q0_compare0 {cnt : Nat} (X : Cx G F W) (hB : isB W i room) (hb : Byt room (S 0 i) xs lost) (hB2 : isB W i2 room2) (hb2 : Byt room2 (S 0 i2) ys lost2) (hc : cnt < 90000) : P_X0_compare G F (W.ad (.o 0 i)) 0 (W.ad (.o 0 i2)) 0 (Int32.ofNat cnt) (mem W S) = some (cmpF (fun k => gB xs (0 + k)) (fun k => gB ys (0 + k)) 0 cnt, mem W S) := Q0_compare (a := 0) (b := 0) X hB hb hB2 hb2 (by omega) (by omega) hc
theorem cmpF_zero {f g : Nat → Int32} : ∀ (n k : Nat), cmpF f g k n = 0 ↔ ∀ j, k ≤ j → j < k + n → f j = g j := by
  intro n
  induction n with
  | zero => intro k; exact ⟨fun _ j h1 h2 => by omega, fun _ => rfl⟩
  | succ n ih =>
    intro k
    rw [cmpF]
    by_cases h : f k = g k
    · rw [if_pos h, ih]
      constructor
      · intro q j h1 h2
        by_cases hj : j = k
        · rw [hj]; exact h
        · exact q j (by omega) (by omega)
      · intro q j h1 h2
        exact q j (by omega) (by omega)
    · rw [if_neg h]
      constructor
      · intro q
        exfalso
        split at q <;> exact absurd q (by decide)
      · intro q
        exact absurd (q k (Nat.le_refl _) (by omega)) h
theorem b32_inj {x y : UInt8} (h : b32 x = b32 y) : x = y := by
  have h1 := x.toNat_lt
  have h2 := y.toNat_lt
  exact UInt8.toNat_inj.mp ((n_eq (by omega) (by omega)).mp h)
theorem gB_lt {j : Nat} (h : j < xs.length) : gB xs j = b32 xs[j] := by
  simp [gB, h]
theorem cmp_eq (h : xs.length = ys.length) : cmpF (fun k => gB xs (0 + k)) (fun k => gB ys (0 + k)) 0 xs.length = 0 ↔ xs = ys := by
  rw [cmpF_zero]
  constructor
  · intro q
    apply List.ext_getElem h
    intro j h1 h2
    have h3 := q j (by omega) (by omega)
    simp only [Nat.zero_add, gB_lt h1, gB_lt h2] at h3
    exact b32_inj h3
  · intro q j _ _
    rw [q]
theorem Q0_same (X : Cx G F W) (hB : isB W i room) (hb : Byt room (S 0 i) xs lost) (hB2 : isB W i2 room2) (hb2 : Byt room2 (S 0 i2) ys lost2) (hr : room < 90000) (hr2 : room2 < 90000) : P_X0_same G F (W.ad (.o 0 i)) (W.ad (.o 0 i2)) (mem W S) = some (if xs = ys then 1 else 0, mem W S) := by
  have h1 := hb.le
  have h2 := hb2.le
  unfold P_X0_same
  rw [hB.gI 1 rfl, bO_s, hB2.gI 1 rfl, bO_s, hb.many, hb2.many]
  by_cases h : xs.length = ys.length
  · rw [if_pos ((n_eq (by omega) (by omega)).mpr h), bO_s, Q0_compare0 X hB hb hB2 hb2 (by omega), bP_s]
    by_cases hq : xs = ys
    · rw [if_pos hq, if_pos ((cmp_eq h).mpr hq)]
      rfl
    · rw [if_neg hq, if_neg (fun q => hq ((cmp_eq h).mp q))]
      rfl
  · rw [if_neg (by rw [n_eq (by omega) (by omega)]; exact h), if_neg (fun q => h (by rw [q]))]
    rfl
/-- below, as numbers without 0s in front -/
def belF (xs ys : List UInt8) : Bool := decide (xs.length < ys.length) || (decide (xs.length = ys.length) && decide (cmpF (fun k => gB xs (0 + k)) (fun k => gB ys (0 + k)) 0 xs.length < 0))
theorem Q0_isBelow (X : Cx G F W) (hB : isB W i room) (hb : Byt room (S 0 i) xs lost) (hB2 : isB W i2 room2) (hb2 : Byt room2 (S 0 i2) ys lost2) (hr : room < 90000) (hr2 : room2 < 90000) : P_X0_isBelow G F (W.ad (.o 0 i)) (W.ad (.o 0 i2)) (mem W S) = some (if belF xs ys then 1 else 0, mem W S) := by
  have h1 := hb.le
  have h2 := hb2.le
  unfold P_X0_isBelow belF
  rw [hB.gI 1 rfl, bO_s, hB2.gI 1 rfl, bO_s, hb.many, hb2.many]
  by_cases h0 : xs.length < ys.length
  · rw [if_pos ((n_lt (by omega) (by omega)).mpr h0), decide_eq_true h0]
    rfl
  rw [if_neg (by rw [n_lt (by omega) (by omega)]; exact h0), bO_s, bO_s, decide_eq_false h0, Bool.false_or]
  by_cases h : xs.length = ys.length
  · rw [if_pos ((n_eq (by omega) (by omega)).mpr h), bO_s, Q0_compare0 X hB hb hB2 hb2 (by omega), bP_s, decide_eq_true h, Bool.true_and]
    by_cases hq : cmpF (fun k => gB xs (0 + k)) (fun k => gB ys (0 + k)) 0 xs.length < 0
    · rw [if_neg (Int32.not_le.mpr hq), decide_eq_true hq]
      rfl
    · rw [if_pos (Int32.not_lt.mp hq), decide_eq_false hq]
      rfl
  · rw [if_neg (by rw [n_eq (by omega) (by omega)]; exact h), decide_eq_false h]
    rfl
theorem n_div {a b : Nat} (ha : a < 2 ^ 31) (hb : b < 2 ^ 31) : (Int32.ofNat a) / (Int32.ofNat b) = (Int32.ofNat (a / b)) := (Int32.ofNat_div ha hb).symm
theorem Q0_lettersFor {n : Nat} {M : mM} (h : n < 2 ^ 28) : P_X0_lettersFor G F (Int32.ofNat n) M = some ((Int32.ofNat ((n * 4 + 2) / 3)), M) := by
  unfold P_X0_lettersFor
  rw [lit 4, lit 2, lit 3, n_mul, n_add, n_div (by omega) (by omega)]
theorem Q0_bytesFor {n : Nat} {M : mM} (h : n < 2 ^ 28) : P_X0_bytesFor G F (Int32.ofNat n) M = some ((Int32.ofNat (n * 3 / 4)), M) := by
  unfold P_X0_bytesFor
  rw [lit 3, lit 4, n_mul, n_div (by omega) (by omega)]
end BYTES4
