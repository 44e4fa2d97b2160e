/-! INTS AS NUMBERS, BYTES -/
theorem lit (n : Nat) [NeZero n] : (OfNat.ofNat n : Int32) = (Int32.ofNat n) := rfl
theorem z32 : (0 : Int32) = (Int32.ofNat 0) := rfl
theorem o32 : (1 : Int32) = (Int32.ofNat 1) := rfl
theorem n_le {a b : Nat} (ha : a < 2 ^ 31) (hb : b < 2 ^ 31) : (Int32.ofNat a) ≤ (Int32.ofNat b) ↔ a ≤ b := Int32.ofNat_le_iff_le ha hb
theorem n_lt {a b : Nat} (ha : a < 2 ^ 31) (hb : b < 2 ^ 31) : (Int32.ofNat a) < (Int32.ofNat b) ↔ a < b := Int32.ofNat_lt_iff_lt ha hb
theorem n_eq {a b : Nat} (ha : a < 2 ^ 31) (hb : b < 2 ^ 31) : (Int32.ofNat a) = (Int32.ofNat b) ↔ a = b := ⟨fun h => by
  have := congrArg Int32.toNatClampNeg h
  rwa [Int32.toNatClampNeg_ofNat_of_lt ha, Int32.toNatClampNeg_ofNat_of_lt hb] at this, fun h => by rw [h]⟩
theorem n_at {a : Nat} (ha : a < 2 ^ 31) : ((Int32.ofNat a)).toNatClampNeg = a := Int32.toNatClampNeg_ofNat_of_lt ha
theorem n_add (a b : Nat) : (Int32.ofNat a) + (Int32.ofNat b) = (Int32.ofNat (a + b)) := (Int32.ofNat_add a b).symm
theorem n_mul (a b : Nat) : (Int32.ofNat a) * (Int32.ofNat b) = (Int32.ofNat (a * b)) := (Int32.ofNat_mul a b).symm
theorem n_sub {a b : Nat} (h : b ≤ a) : (Int32.ofNat a) - (Int32.ofNat b) = (Int32.ofNat (a - b)) := (Int32.ofNat_sub a b h).symm
theorem n_min {a b : Nat} (ha : a < 2 ^ 31) (hb : b < 2 ^ 31) : (if (Int32.ofNat a) < (Int32.ofNat b) then (Int32.ofNat a) else (Int32.ofNat b)) = (Int32.ofNat (min a b)) := by
  simp only [n_lt ha hb]
  split <;> (congr 1; omega)
theorem n_max {a b : Nat} (ha : a < 2 ^ 31) (hb : b < 2 ^ 31) : (if (Int32.ofNat a) < (Int32.ofNat b) then (Int32.ofNat b) else (Int32.ofNat a)) = (Int32.ofNat (max a b)) := by
  simp only [n_lt ha hb]
  split <;> (congr 1; omega)
theorem inB_n {a n : Nat} (h : a < n) (hn : n < 2 ^ 31) : inB (Int32.ofNat a) n = true := by
  have h0 : ¬ (Int32.ofNat a) < 0 := by
    rw [z32, n_lt (by omega) (by omega)]
    omega
  simp [inB, h0, n_at (show a < 2 ^ 31 by omega), h]
theorem bO_s {α β : Type} (x : α) (k : α → Option β) : bO (some x) k = k x := rfl
theorem bP_s {α β : Type} (x : α) (M : mM) (k : α → mM → Option β) : bP (some (x, M)) k = k x M := rfl
def b32 (x : UInt8) : Int32 := (Int32.ofNat x.toNat)
def lo8 (x : Int32) : UInt8 := x.toUInt32.toUInt8
theorem and255 (x : Int32) : x &&& 255 = b32 (lo8 x) := by
  apply Int32.toBitVec_inj.mp
  apply BitVec.eq_of_toNat_eq
  simp [b32, lo8, Nat.and_two_pow_sub_one_eq_mod x.toBitVec.toNat 8]
  show x.toBitVec.toNat % 256 = x.toBitVec.toNat % 256 % 4294967296
  omega
theorem b32_lt (x : UInt8) : x.toNat < 256 := x.toNat_lt
/-- a Bytes object with room, what is in it, whether it lost something -/
abbrev isB (W : WR) (i room : Nat) : Prop := W.live (.o 0 i) = true ∧ W.live (.a 0 i 0) = true ∧ W.r 0 i 0 = some (.a 0 i 0) ∧ W.n (.a 0 i 0) = room ∧ room < 2 ^ 30
abbrev Byt (room : Nat) (o : Ob) (xs : List UInt8) (lost : Bool) : Prop := o.f 1 = (Int32.ofNat xs.length) ∧ (∀ j x, xs[j]? = some x → o.a 0 j = b32 x) ∧ (o.f 2 = if lost then 1 else 0) ∧ xs.length ≤ room
theorem isB.lo {W : WR} {i room : Nat} (h : isB W i room) : W.live (.o 0 i) = true := h.1
theorem isB.la {W : WR} {i room : Nat} (h : isB W i room) : W.live (.a 0 i 0) = true := h.2.1
theorem isB.r {W : WR} {i room : Nat} (h : isB W i room) : W.r 0 i 0 = some (.a 0 i 0) := h.2.2.1
theorem isB.n {W : WR} {i room : Nat} (h : isB W i room) : W.n (.a 0 i 0) = room := h.2.2.2.1
theorem isB.hr {W : WR} {i room : Nat} (h : isB W i room) : room < 2 ^ 30 := h.2.2.2.2
theorem Byt.many {room : Nat} {o : Ob} {xs : List UInt8} {lost : Bool} (h : Byt room o xs lost) : o.f 1 = (Int32.ofNat xs.length) := h.1
theorem Byt.at_ {room : Nat} {o : Ob} {xs : List UInt8} {lost : Bool} (h : Byt room o xs lost) : ∀ j x, xs[j]? = some x → o.a 0 j = b32 x := h.2.1
theorem Byt.lost {room : Nat} {o : Ob} {xs : List UInt8} {lost : Bool} (h : Byt room o xs lost) : o.f 2 = if lost then 1 else 0 := h.2.2.1
theorem Byt.le {room : Nat} {o : Ob} {xs : List UInt8} {lost : Bool} (h : Byt room o xs lost) : xs.length ≤ room := h.2.2.2
section BYTES
variable {W : WR} {S : ST} {G : mG} {F i room : Nat} {xs : List UInt8} {lost : Bool}
theorem isB.gI (h : isB W i room) (k : Nat) (q : (kdF 0)[k]? = some 0) : gfI (mem W S) (W.ad (.o 0 i)) 0 k = some ((S 0 i).f k) := gfI_m h.lo q
theorem isB.gR (h : isB W i room) : gfR (mem W S) (W.ad (.o 0 i)) 0 0 = some (W.ad (.a 0 i 0)) := gfR_m h.lo rfl h.r
theorem isB.ln (h : isB W i room) : aln G (mem W S) (W.ad (.a 0 i 0)) = some (Int32.ofNat room) := by rw [aln_m h.la, h.n]
theorem Q0_clear (hB : isB W i room) (hb : Byt room (S 0 i) xs lost) : ∃ o, P_X0_clear G F (W.ad (.o 0 i)) (mem W S) = some (mem W (S.so 0 i o)) ∧ Byt room o [] false := by
  refine ⟨((S 0 i).sf 1 0).sf 2 0, ?_, ?_⟩
  · simp only [P_X0_clear, bO_s, pfI_m hB.lo (k := 1) rfl, pfZ_m hB.lo (k := 2) rfl (Or.inl rfl), so_eq, so_so]
  · exact ⟨rfl, fun j x h => (by cases h), rfl, Nat.zero_le _⟩
theorem Q0_put {x : Int32} (hB : isB W i room) (hb : Byt room (S 0 i) xs lost) : ∃ o, P_X0_put G F (W.ad (.o 0 i)) x (mem W S) = some (mem W (S.so 0 i o)) ∧ Byt room o ((xs ++ [lo8 x]).take room) (lost || decide (room ≤ xs.length)) := by
  have h1 := hb.le
  have h2 := hB.hr
  by_cases hf : room ≤ xs.length
  · refine ⟨(S 0 i).sf 2 1, ?_, ?_⟩
    · simp only [P_X0_put, bO_s, hB.gI 1 rfl, hB.gR, hB.ln, hb.many]
      rw [if_pos ((n_le (by omega) (by omega)).mpr hf), pfZ_m hB.lo rfl (Or.inr rfl)]
      rfl
    · have e : (xs ++ [lo8 x]).take room = xs := by rw [List.take_append_of_le_length (by omega), List.take_of_length_le (by omega)]
      rw [e]
      exact ⟨hb.many, hb.at_, by simp [hf, sf_f], hb.le⟩
  · refine ⟨((S 0 i).sA 0 (upd ((S 0 i).a 0) xs.length (b32 (lo8 x)))).sf 1 (Int32.ofNat (xs.length + 1)), ?_, ?_⟩
    · simp only [P_X0_put, bO_s, hB.gI 1 rfl, hB.gR, hB.ln, hb.many]
      rw [if_neg (fun h => hf ((n_le (by omega) (by omega)).mp h)), sI_m hB.la rfl (by decide) (by decide) (by rw [hB.n]; exact inB_n (by omega) (by omega))]
      simp only [bO_s, hB.gI 1 rfl, pfI_m hB.lo (k := 1) rfl, so_eq, so_so, n_at (show xs.length < 2 ^ 31 by omega), and255]
      have e : ((S 0 i).sA 0 (upd ((S 0 i).a 0) xs.length (b32 (lo8 x)))).f 1 + 1 = (Int32.ofNat (xs.length + 1)) := by
        show (S 0 i).f 1 + 1 = _
        rw [hb.many, o32, n_add]
      rw [e]
    · have e : (xs ++ [lo8 x]).take room = xs ++ [lo8 x] := List.take_of_length_le (by simp; omega)
      rw [e]
      refine ⟨by simp [sf_f], fun j y hy => ?_, by simp [hf, sf_f, sA_f, hb.lost], by simp; omega⟩
      show (va_up (S 0 i).a 0 (upd ((S 0 i).a 0) xs.length (b32 (lo8 x)))) 0 j = _
      simp only [va_up, if_true, upd]
      by_cases hj : j = xs.length
      · subst hj
        simp at hy
        simp [hy]
      · rw [if_neg hj]
        refine hb.at_ j y ?_
        rw [List.getElem?_append] at hy
        split at hy
        · exact hy
        · exfalso
          have := (List.getElem?_eq_some_iff.mp hy).1
          simp at this
          omega
def tkl (room : Nat) (xs ys : List UInt8) : List UInt8 := (xs ++ ys).take room
def lsl (room : Nat) (xs ys : List UInt8) (lost : Bool) : Bool := lost || decide (room < xs.length + ys.length)
theorem tkl_tkl (room : Nat) (xs ys zs : List UInt8) : tkl room (tkl room xs ys) zs = tkl room xs (ys ++ zs) := by
  unfold tkl
  rw [← List.append_assoc, List.take_append, List.take_append (l₁ := xs ++ ys), List.take_take, Nat.min_self, List.length_take]
  congr 2
  omega
theorem lsl_lsl (room : Nat) (xs ys zs : List UInt8) (lost : Bool) : lsl room (tkl room xs ys) zs (lsl room xs ys lost) = lsl room xs (ys ++ zs) lost := by
  unfold lsl tkl
  rw [List.length_take, List.length_append, List.length_append, Bool.or_assoc, ← Bool.decide_or]
  congr 1
  rw [decide_eq_decide]
  omega
theorem tkl_nil {room : Nat} {xs : List UInt8} (h : xs.length ≤ room) : tkl room xs [] = xs := by
  unfold tkl
  rw [List.append_nil, List.take_of_length_le h]
theorem lsl_nil {room : Nat} {xs : List UInt8} {lost : Bool} (h : xs.length ≤ room) : lsl room xs [] lost = lost := by
  unfold lsl
  rw [List.length_nil, decide_eq_false (by omega), Bool.or_false]
theorem tkl_fit {room : Nat} {xs ys : List UInt8} (h : xs.length + ys.length ≤ room) : tkl room xs ys = xs ++ ys := List.take_of_length_le (by rw [List.length_append]; exact h)
theorem lsl_fit {room : Nat} {xs ys : List UInt8} {lost : Bool} (h : xs.length + ys.length ≤ room) : lsl room xs ys lost = lost := by
  unfold lsl
  rw [decide_eq_false (by omega), Bool.or_false]
theorem Q0_put1 {x : Int32} (hB : isB W i room) (hb : Byt room (S 0 i) xs lost) : ∃ o, P_X0_put G F (W.ad (.o 0 i)) x (mem W S) = some (mem W (S.so 0 i o)) ∧ Byt room o (tkl room xs [lo8 x]) (lsl room xs [lo8 x] lost) := by
  obtain ⟨o, h1, h2⟩ := Q0_put (x := x) (G := G) (F := F) hB hb
  refine ⟨o, h1, ?_⟩
  have e : lsl room xs [lo8 x] lost = (lost || decide (room ≤ xs.length)) := by
    unfold lsl
    congr 1
    show decide (room < xs.length + 1) = _
    rw [decide_eq_decide]
    omega
  rw [e]
  exact h2
def gB (xs : List UInt8) (j : Nat) : Int32 := match xs[j]? with
  | some x => b32 x
  | none => 0
def pB (xs : List UInt8) (j : Nat) : Int32 := match xs[j]? with
  | some x => b32 x
  | none => -1
theorem Q0_get {j : Nat} (hB : isB W i room) (hb : Byt room (S 0 i) xs lost) (hj : j < 2 ^ 31) : P_X0_get G F (W.ad (.o 0 i)) (Int32.ofNat j) (mem W S) = some (gB xs j, mem W S) := by
  have h1 := hb.le
  have h2 := hB.hr
  unfold P_X0_get
  rw [if_neg (by rw [z32, n_lt hj (by omega)]; omega), hB.gI 1 rfl, bO_s, hb.many]
  by_cases h : xs.length ≤ j
  · rw [if_pos ((n_le (by omega) hj).mpr h)]
    simp [gB, h]
  · rw [if_neg (fun q => h ((n_le (by omega) hj).mp q)), hB.gR, bO_s, aI_m hB.la rfl (by decide) (by decide) (by rw [hB.n]; exact inB_n (by omega) (by omega)), bO_s, n_at hj]
    have e : xs[j]? = some xs[j] := List.getElem?_eq_getElem (by omega)
    rw [hb.at_ j _ e]
    simp [gB, e]
theorem Q0_get_neg {x : Int32} (h : x < 0) (M : mM) (a : Nat) : P_X0_get G F a x M = some (0, M) := by
  unfold P_X0_get
  rw [if_pos h]
theorem Q0_peek {j : Nat} (hB : isB W i room) (hb : Byt room (S 0 i) xs lost) (hj : j < 2 ^ 31) : P_X0_peek G F (W.ad (.o 0 i)) (Int32.ofNat j) (mem W S) = some (pB xs j, mem W S) := by
  have h1 := hb.le
  have h2 := hB.hr
  unfold P_X0_peek
  rw [if_neg (by rw [z32, n_lt hj (by omega)]; omega), hB.gI 1 rfl, bO_s, hb.many]
  by_cases h : xs.length ≤ j
  · rw [if_pos ((n_le (by omega) hj).mpr h)]
    simp [pB, h]
  · rw [if_neg (fun q => h ((n_le (by omega) hj).mp q)), hB.gR, bO_s, aI_m hB.la rfl (by decide) (by decide) (by rw [hB.n]; exact inB_n (by omega) (by omega)), bO_s, n_at hj]
    have e : xs[j]? = some xs[j] := List.getElem?_eq_getElem (by omega)
    rw [hb.at_ j _ e]
    simp [pB, e]
/-- every Int32 is negative or a number -/
theorem i_cases (x : Int32) : x < 0 ∨ ∃ j, j < 2 ^ 31 ∧ x = (Int32.ofNat j) := by
  by_cases h : x < 0
  · exact Or.inl h
  · refine Or.inr ⟨x.toNatClampNeg, x.toNatClampNeg_lt, ?_⟩
    exact (Int32.ofNat_toNatClampNeg x (Int32.not_lt.mp h)).symm
theorem Q0_set {j : Nat} {v : Int32} (hB : isB W i room) (hb : Byt room (S 0 i) xs lost) (hj : j < 2 ^ 31) : ∃ o, P_X0_set G F (W.ad (.o 0 i)) (Int32.ofNat j) v (mem W S) = some (mem W (S.so 0 i o)) ∧ Byt room o (xs.set j (lo8 v)) lost := by
  have h1 := hb.le
  have h2 := hB.hr
  unfold P_X0_set
  rw [if_neg (by rw [z32, n_lt hj (by omega)]; omega), hB.gI 1 rfl, bO_s, hb.many]
  by_cases h : xs.length ≤ j
  · rw [if_pos ((n_le (by omega) hj).mpr h)]
    exact ⟨S 0 i, by rw [so_self], by rw [List.set_eq_of_length_le h]; exact hb⟩
  · rw [if_neg (fun q => h ((n_le (by omega) hj).mp q)), hB.gR, bO_s, sI_m hB.la rfl (by decide) (by decide) (by rw [hB.n]; exact inB_n (by omega) (by omega)), bO_s, n_at hj, and255]
    refine ⟨_, rfl, ⟨by rw [List.length_set]; exact hb.many, fun k y hy => ?_, hb.lost, by rw [List.length_set]; exact h1⟩⟩
    show (va_up (S 0 i).a 0 (upd ((S 0 i).a 0) j (b32 (lo8 v)))) 0 k = _
    simp only [va_up, if_true, upd]
    rw [List.getElem?_set] at hy
    by_cases hk : k = j
    · subst hk
      rw [if_pos rfl, if_pos (by omega)] at hy
      cases hy
      rw [if_pos rfl]
    · rw [if_neg (fun q => hk q.symm)] at hy
      rw [if_neg hk]
      exact hb.at_ k y hy
theorem Q0_cutTo {n : Nat} (hB : isB W i room) (hb : Byt room (S 0 i) xs lost) (hn : n < 2 ^ 31) : ∃ o, P_X0_cutTo G F (W.ad (.o 0 i)) (Int32.ofNat n) (mem W S) = some (mem W (S.so 0 i o)) ∧ Byt room o (xs.take n) lost := by
  have h1 := hb.le
  have h2 := hB.hr
  have e : (if (0 : Int32) < (if (Int32.ofNat xs.length) < (Int32.ofNat n) then (Int32.ofNat xs.length) else (Int32.ofNat n)) then (if (Int32.ofNat xs.length) < (Int32.ofNat n) then (Int32.ofNat xs.length) else (Int32.ofNat n)) else (0 : Int32)) = (Int32.ofNat (xs.take n).length) := by
    rw [n_min (by omega) hn, z32, n_max (by omega) (by omega), List.length_take]
    congr 1
    omega
  unfold P_X0_cutTo
  rw [hB.gI 1 rfl, bO_s, hb.many, e, pfI_m hB.lo rfl, bO_s]
  refine ⟨_, rfl, ⟨by simp [sf_f], fun k y hy => ?_, by simp [sf_f, hb.lost], by rw [List.length_take]; omega⟩⟩
  exact hb.at_ k y (by rw [List.getElem?_take] at hy; split at hy; exact hy; cases hy)
end BYTES
