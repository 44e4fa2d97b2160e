/-! A TOKEN'S PARTS: the class -/
theorem pts_up {xs : List UInt8} : ∀ m k t, t + 1 < (pts xs m k).length → (pts xs m k).getD t 0 < (pts xs m k).getD (t + 1) 0
  | 0, _, _, h => absurd h (by simp [pts])
  | m + 1, k, t, h => by
    have e : pts xs (m + 1) k = if gB xs k = 46 then k :: pts xs m (k + 1) else pts xs m (k + 1) := rfl
    rw [e] at h ⊢
    by_cases c : gB xs k = 46
    · rw [if_pos c] at h ⊢
      rw [List.length_cons] at h
      cases t with
      | zero =>
        show k < (pts xs m (k + 1)).getD 0 0
        have hl : 0 < (pts xs m (k + 1)).length := by omega
        have := pts_in m (k + 1) ((pts xs m (k + 1))[0]) (List.getElem_mem hl)
        rw [List.getD_eq_getElem?_getD, List.getElem?_eq_getElem hl]
        show k < (pts xs m (k + 1))[0]
        omega
      | succ t =>
        show (pts xs m (k + 1)).getD t 0 < (pts xs m (k + 1)).getD (t + 1) 0
        exact pts_up m (k + 1) t (by omega)
    · rw [if_neg c] at h ⊢
      exact pts_up m (k + 1) t h
theorem ptA_lt {xs : List UInt8} {t : Nat} (h : t < (ptA xs).length) : (ptA xs).getD t 0 < xs.length := by
  have := pts_in xs.length 0 ((ptA xs)[t]) (List.getElem_mem h)
  rw [List.getD_eq_getElem?_getD, List.getElem?_eq_getElem h]
  show (ptA xs)[t] < xs.length
  omega
/-- where a part ends -/
def peP (xs : List UInt8) (p : Nat) : Nat := if p = (ptA xs).length then xs.length else (ptA xs).getD p 0
theorem part_le {xs : List UInt8} {p : Nat} (h : p ≤ (ptA xs).length) : stP (ptA xs) p ≤ peP xs p ∧ peP xs p ≤ xs.length := by
  unfold peP
  cases p with
  | zero =>
    refine ⟨Nat.zero_le _, ?_⟩
    split
    · exact Nat.le_refl _
    · exact Nat.le_of_lt (ptA_lt (by omega))
  | succ t =>
    have l := ptA_lt (xs := xs) (t := t) (by omega)
    show (ptA xs).getD t 0 + 1 ≤ _ ∧ _
    split
    · exact ⟨by omega, Nat.le_refl _⟩
    · have := pts_up xs.length 0 t (by show t + 1 < (ptA xs).length; omega)
      exact ⟨this, Nat.le_of_lt (ptA_lt (by omega))⟩
/-- a part's letters -/
def ptX (xs : List UInt8) (p : Nat) : List UInt8 := (xs.drop (stP (ptA xs) p)).take (peP xs p - stP (ptA xs) p)
/-- a token was split -/
def SPT (o : Ob) (xs : List UInt8) : Prop := (ptA xs).length ≤ 4 ∧ (∀ t, t ≤ (ptA xs).length → o.a 14 t = (Int32.ofNat (stP (ptA xs) t))) ∧ o.a 14 ((ptA xs).length + 1) = (Int32.ofNat (xs.length + 1))
section PRT2
variable {W : WR} {G : mG} {F : Nat} {S : ST} {xs : List UInt8} {l : Bool} {ir : Nat}
theorem tk_A {j : Nat} (h : isTk W) (hj : j < 6) : aI G (mem W S) 0 (W.ad (.a 10 0 14)) (Int32.ofNat j) = some ((S 10 0).a 14 j) := by
  have := tk_a (G := G) (S := S) (o := S 10 0) h hj
  rwa [so_self] at this
theorem Q10_start {p : Nat} (h : isTk W) (T : SPT (S 10 0) xs) (hp : p ≤ (ptA xs).length) : P_X10_partStart G F (W.ad (.o 10 0)) (Int32.ofNat p) (mem W S) = some ((Int32.ofNat (stP (ptA xs) p)), mem W S) := by
  have := T.1
  unfold P_X10_partStart
  rw [gfR_m h.1 rfl h.2.1, bO_s, tk_A h (by omega), bO_s, T.2.1 p hp]
theorem Q10_end {p : Nat} (h : isTk W) (T : SPT (S 10 0) xs) (hp : p ≤ (ptA xs).length) : P_X10_partEnd G F (W.ad (.o 10 0)) (Int32.ofNat p) (mem W S) = some ((Int32.ofNat (peP xs p)), mem W S) := by
  have := T.1
  unfold P_X10_partEnd peP
  rw [gfR_m h.1 rfl h.2.1, bO_s, n_i1, tk_A h (by omega), bO_s]
  by_cases c : p = (ptA xs).length
  · rw [if_pos c, c, T.2.2, n_subL 1 (by omega), Nat.add_sub_cancel]
  · rw [if_neg c, T.2.1 (p + 1) (by omega)]
    show some ((Int32.ofNat ((ptA xs).getD p 0 + 1)) - 1, mem W S) = _
    rw [n_subL 1 (by omega), Nat.add_sub_cancel]
theorem Q10_isFaulty {p : Nat} (X : Cx G F W) (h : isTk W) (T : SPT (S 10 0) xs) (hp : p ≤ (ptA xs).length) (hR : isB W ir 8192) (bx : Byt 8192 (S 0 ir) xs l) : P_X10_isFaulty G F (W.ad (.o 10 0)) (W.ad (.o 0 ir)) (Int32.ofNat p) (mem W S) = some (if fltF (ptX xs p) = none then 0 else 1, mem W S) := by
  have hl := bx.le
  obtain ⟨p1, p2⟩ := part_le hp
  unfold P_X10_isFaulty
  rw [rcv_m h.1, bO_s, Q10_start h T hp, bP_s, rcv_m h.1, bO_s, Q10_end h T hp, bP_s, Q0_letterFault X hR bx p1 p2 (by omega), bP_s]
  show (if oN (fltF (ptX xs p)) = -1 then _ else _) = _
  cases e : fltF (ptX xs p) with
  | none => rw [if_pos (show oN none = -1 from rfl), if_pos rfl, rz0]
  | some k =>
    have lk : k ≤ (ptX xs p).length := fltF_lt e
    have lx : (ptX xs p).length ≤ xs.length := by
      unfold ptX
      rw [List.length_take, List.length_drop]
      omega
    rw [if_neg (show ¬ oN (some k) = -1 from n_nm (by omega)), if_neg (by simp), rz1]
theorem Q10_partBytes {p : Nat} (h : isTk W) (T : SPT (S 10 0) xs) (hp : p ≤ (ptA xs).length) (hl : xs.length ≤ 8192) : P_X10_partBytes G F (W.ad (.o 10 0)) (Int32.ofNat p) (mem W S) = some ((Int32.ofNat ((ptX xs p).length * 3 / 4)), mem W S) := by
  obtain ⟨p1, p2⟩ := part_le hp
  have lx : (ptX xs p).length = peP xs p - stP (ptA xs) p := by
    unfold ptX
    rw [List.length_take, List.length_drop]
    omega
  unfold P_X10_partBytes
  rw [rcv_m h.1, bO_s, Q10_end h T hp, bP_s, rcv_m h.1, bO_s, Q10_start h T hp, bP_s, n_sub p1, Q0_bytesFor (by omega), bP_s, lx]
end PRT2
