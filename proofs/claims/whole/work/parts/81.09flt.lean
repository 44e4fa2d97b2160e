/-! FAULTS OF LETTERS -/
section FLT
variable {W : WR} {S : ST} {G : mG} {F i room : Nat} {ys : List UInt8} {lost : Bool}
theorem seg_at {st k stop : Nat} (h1 : st ≤ k) (h2 : k < stop) (h3 : stop ≤ ys.length) : ((ys.drop st).take (stop - st))[k - st]? = some ys[k] := by
  rw [List.getElem?_take, if_pos (by omega), List.getElem?_drop, show st + (k - st) = k by omega]
  exact List.getElem?_eq_getElem (by omega)
theorem Q0_flt72 {stop n v : Nat} {mask : Nat} (hB : isB W i room) (hb : Byt room (S 0 i) ys lost) (h1 : 0 < stop) (h2 : stop ≤ ys.length) (hn : 0 < n) (hn2 : n < 2 ^ 31) (hv : sv ys[stop - 1] = some v) (hm : mask = 15 ∨ mask = 3) : B_X0_letterFault_72 G F (W.ad (.o 0 i)) (Int32.ofNat stop) (Int32.ofNat n) (Int32.ofNat mask) (mem W S) = some (if v % (mask + 1) = 0 then -1 else (Int32.ofNat (n - 1)), mem W S) := by
  have h3 := hb.le
  have h4 := hB.hr
  have hv64 := sv_lt hv
  have e0 : ¬ (Int32.ofNat mask) = 0 := by
    rw [z32, n_eq (by omega) (by omega)]
    omega
  have ev : (Int32.ofNat v) &&& (Int32.ofNat mask) = (Int32.ofNat (v % (mask + 1))) := by
    rw [n_and]
    rcases hm with rfl | rfl
    · rw [and_mask _ 4]
    · rw [and_mask _ 2]
  rw [B_X0_letterFault_72, if_neg e0, rcv_m hB.lo, bO_s, o32, n_sub (by omega), Q0_get hB hb (by omega), bP_s, gB_lt (by omega), Q0_letterValue, bP_s, lv_b32, hv]
  show (if ((Int32.ofNat v) &&& (Int32.ofNat mask)) = 0 then _ else _) = _
  rw [ev]
  by_cases hz : v % (mask + 1) = 0
  · rw [if_pos (by rw [hz]; rfl), if_pos hz, if_neg (by decide)]
  · have hlt : v % (mask + 1) < 64 := Nat.lt_of_le_of_lt (Nat.mod_le _ _) hv64
    rw [if_neg (by rw [z32, n_eq (by omega) (by omega)]; exact hz), if_neg hz, if_pos rfl, n_sub (by omega)]
theorem Q0_flt0 {stop n : Nat} {M : mM} {a : Nat} : B_X0_letterFault_72 G F a (Int32.ofNat stop) (Int32.ofNat n) (0 : Int32) M = some (-1, M) := by
  rw [B_X0_letterFault_72, if_pos rfl, if_neg (by decide)]
theorem Q0_fault_l {st stop : Nat} (X : Cx G F W) (hB : isB W i room) (hb : Byt room (S 0 i) ys lost) (h1 : st ≤ stop) (h2 : stop ≤ ys.length) (h3 : stop < 90000) : ∀ (m k n : Nat), m < n → k + m = stop → st ≤ k → (∀ j x, ((ys.drop st).take (stop - st))[j]? = some x → j < k - st → sv x ≠ none) → B_X0_letterFault_2 G F n (W.ad (.o 0 i)) (Int32.ofNat st) (Int32.ofNat stop) (Int32.ofNat k) (mem W S) = some (oN (fltF ((ys.drop st).take (stop - st))), mem W S) := by
  have hlen : ((ys.drop st).take (stop - st)).length = stop - st := by simp; omega
  intro m
  induction m with
  | zero =>
    intro k n hn hk hst hall
    obtain ⟨n, rfl⟩ : ∃ q, n = q + 1 := ⟨n - 1, by omega⟩
    obtain rfl : k = stop := by omega
    have hnone : ((ys.drop st).take (k - st)).findIdx? (fun x => (sv x).isNone) = none := by
      rw [List.findIdx?_eq_none_iff]
      intro x hx
      obtain ⟨j, hj⟩ := List.getElem?_of_mem hx
      have hjl := (List.getElem?_eq_some_iff.mp hj).1
      cases hq : sv x with
      | none => exact absurd hq (hall j x hj (by omega))
      | some v => rfl
    have ec : (if (Int32.ofNat k) - (Int32.ofNat st) < (0 : Int32) then (0 : Int32) else (Int32.ofNat k) - (Int32.ofNat st)) = (Int32.ofNat (k - st)) := by
      rw [n_sub h1, if_neg (nn (by omega))]
    have e3 : (Int32.ofNat (k - st)) &&& (3 : Int32) = (Int32.ofNat ((k - st) % 4)) := by rw [lit 3, n_and, and_mask _ 2]
    have hm4 : (k - st) % 4 < 4 := Nat.mod_lt _ (by decide)
    have el : 0 < k - st → ∃ v, sv ys[k - 1]! = some v ∧ ((((ys.drop st).take (k - st)).getLast?).bind sv).getD 0 = v ∧ ys[k - 1]! = ys[k - 1]! := by
      intro hp
      have hg : ((ys.drop st).take (k - st))[k - 1 - st]? = some ys[k - 1] := seg_at (k := k - 1) (stop := k) (by omega) (by omega) h2
      have hb1 : ys[k - 1]! = ys[k - 1] := getElem!_pos ys (k - 1) (by omega)
      cases hq : sv ys[k - 1] with
      | none => exact absurd hq (hall _ _ hg (by omega))
      | some v =>
        refine ⟨v, by rw [hb1]; exact hq, ?_, rfl⟩
        rw [List.getLast?_eq_getElem?, hlen, show k - st - 1 = k - 1 - st by omega, hg]
        simp [hq]
    rw [B_X0_letterFault_2, if_pos ((n_le (by omega) (by omega)).mpr (Nat.le_refl _)), ec, e3]
    unfold fltF
    rw [hnone, hlen]
    simp only []
    by_cases c1 : (k - st) % 4 = 1
    · rw [c1, if_pos (show (Int32.ofNat 1) = (1 : Int32) from rfl), if_pos rfl]
      rfl
    · rw [if_neg (by rw [o32, n_eq (by omega) (by omega)]; exact c1), if_neg c1]
      by_cases c2 : (k - st) % 4 = 2
      · obtain ⟨v, hv, hl, -⟩ := el (by omega)
        rw [getElem!_pos ys (k - 1) (by omega)] at hv
        rw [c2, if_pos (show (Int32.ofNat 2) = (2 : Int32) from rfl), hl]
        have := Q0_flt72 (G := G) (F := F) (n := k - st) hB hb (by omega) h2 (by omega) (by omega) hv (Or.inl rfl)
        rw [show (15 : Int32) = (Int32.ofNat 15) from rfl, this]
        by_cases hz : v % 16 = 0
        · rw [if_pos hz, if_neg (fun q => q.2 hz), if_neg (fun q => absurd q.1 (by decide))]
          rfl
        · rw [if_neg hz, if_pos ⟨rfl, hz⟩]
          rfl
      · rw [if_neg (by rw [lit 2, n_eq (by omega) (by omega)]; exact c2), if_neg (c := (k - st) % 4 = 2 ∧ _) (fun q => c2 q.1)]
        by_cases c3 : (k - st) % 4 = 3
        · obtain ⟨v, hv, hl, -⟩ := el (by omega)
          rw [getElem!_pos ys (k - 1) (by omega)] at hv
          rw [c3, if_pos (show (Int32.ofNat 3) = (3 : Int32) from rfl), hl]
          have := Q0_flt72 (G := G) (F := F) (n := k - st) hB hb (by omega) h2 (by omega) (by omega) hv (Or.inr rfl)
          rw [show (3 : Int32) = (Int32.ofNat 3) from rfl, this]
          by_cases hz : v % 4 = 0
          · rw [if_pos hz, if_neg (fun q => q.2 hz)]
            rfl
          · rw [if_neg hz, if_pos ⟨rfl, hz⟩]
            rfl
        · rw [if_neg (by rw [lit 3, n_eq (by omega) (by omega)]; exact c3), if_neg (c := (k - st) % 4 = 3 ∧ _) (fun q => c3 q.1), Q0_flt0]
          rfl
  | succ m ih =>
    intro k n hn hk hst hall
    obtain ⟨n, rfl⟩ : ∃ q, n = q + 1 := ⟨n - 1, by omega⟩
    have hky : k < ys.length := by omega
    have hg := seg_at (ys := ys) hst (show k < stop by omega) h2
    rw [B_X0_letterFault_2, if_neg (by rw [n_le (by omega) (by omega)]; omega), rcv_m hB.lo, bO_s, Q0_get hB hb (by omega), bP_s, gB_lt hky, Q0_letterValue, bP_s, lv_b32]
    cases hq : sv ys[k] with
    | none =>
      rw [if_pos (show oN none = -1 from rfl), n_sub hst]
      have : ((ys.drop st).take (stop - st)).findIdx? (fun x => (sv x).isNone) = some (k - st) := by
        rw [List.findIdx?_eq_some_iff_getElem]
        refine ⟨by omega, ?_, fun j hj => ?_⟩
        · have e := (List.getElem?_eq_some_iff.mp hg).2
          rw [e, hq]
          rfl
        · have e : ((ys.drop st).take (stop - st))[j]? = some ((ys.drop st).take (stop - st))[j] := List.getElem?_eq_getElem (by omega)
          have := hall j _ e hj
          cases hz : sv ((ys.drop st).take (stop - st))[j] with
          | none => exact absurd hz this
          | some v => exact Bool.false_ne_true
      unfold fltF
      rw [this]
      rfl
    | some v =>
      have hv64 := sv_lt hq
      rw [if_neg (by
        show ¬ (Int32.ofNat v) = -1
        have : ∀ v, v < 64 → ¬ (Int32.ofNat v) = -1 := by decide +kernel
        exact this v hv64), o32, n_add]
      refine ih (k + 1) n (by omega) (by omega) (by omega) (fun j x hx hj => ?_)
      by_cases hjk : j = k - st
      · subst hjk
        rw [hg] at hx
        cases hx
        rw [hq]
        exact fun h => nomatch h
      · exact hall j x hx (by omega)
theorem Q0_letterFault {st stop : Nat} (X : Cx G F W) (hB : isB W i room) (hb : Byt room (S 0 i) ys lost) (h1 : st ≤ stop) (h2 : stop ≤ ys.length) (h3 : stop < 90000) : P_X0_letterFault G F (W.ad (.o 0 i)) (Int32.ofNat st) (Int32.ofNat stop) (mem W S) = some (oN (fltF ((ys.drop st).take (stop - st))), mem W S) := by
  have := X.hF
  exact Q0_fault_l X hB hb h1 h2 h3 (stop - st) st F (by omega) (by omega) (Nat.le_refl _) (fun j x _ h => by omega)
theorem flt_none {zs : List UInt8} (h : fltF zs = none) : ∀ x ∈ zs, sv x ≠ none := by
  intro x hx hn
  unfold fltF at h
  cases hq : zs.findIdx? (fun x => (sv x).isNone) with
  | some k => rw [hq] at h; cases h
  | none =>
    rw [List.findIdx?_eq_none_iff] at hq
    have := hq x hx
    rw [hn] at this
    cases this
end FLT
