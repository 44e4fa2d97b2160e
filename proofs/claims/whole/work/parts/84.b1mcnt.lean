/-! CALLS seal AND open: what the model asks first -/
section MCT
variable {W : WR} {G : mG} {F : Nat} {S : ST}
theorem QM_isContent {rows : Nat → List UInt8} {w k b a r : Int32} (h : isM W) (hR : mRows (S 13 0) rows) : P_X13_isContent G F (W.ad (.o 13 0)) w k b a r (mem W S) = some (if (waySt rows w k b && (isr a && isr r)) = true then 1 else 0, mem W S) := by
  obtain ⟨βr, w1, w2⟩ := id hR
  unfold P_X13_isContent waySt
  rcases i_cases w with hx | ⟨w', hw', rfl⟩
  · have iw : isw w = false := by
      unfold isw
      exact decide_eq_false (fun q => absurd hx (Int32.not_lt.mpr q.1))
    rw [if_pos hx, retZ0, iw]
    rfl
  rw [if_neg (nn hw')]
  by_cases c4 : 4 ≤ w'
  · have iw : isw (Int32.ofNat w') = false := by
      unfold isw
      refine decide_eq_false (fun q => ?_)
      have := (n_lt (b := 4) hw' (by omega)).mp q.2
      omega
    rw [if_pos (show (4 : Int32) ≤ (Int32.ofNat w') from (n_le (a := 4) (by omega) hw').mpr c4), retZ0, iw]
    rfl
  have iw : isw (Int32.ofNat w') = true := by
    unfold isw
    exact decide_eq_true ⟨Int32.not_lt.mp (nn hw'), (n_lt (b := 4) hw' (by omega)).mpr (by omega)⟩
  rw [if_neg (show ¬ (4 : Int32) ≤ (Int32.ofNat w') from fun q => c4 ((n_le (a := 4) (by omega) hw').mp q)), iw, Bool.true_and, Q13_isRow, bP_s]
  rcases isr_cases k with e | ⟨k', hk', rfl, e⟩
  · rw [e, if_pos (by rfl), retZ0]
    rfl
  rw [e, if_neg (by decide), Q13_isRow, bP_s, Bool.true_and]
  rcases isr_cases b with e2 | ⟨b', hb', rfl, e2⟩
  · rw [e2, if_pos (by rfl), retZ0]
    rfl
  rw [e2, if_neg (by decide), Q13_isRow, bP_s, Bool.true_and]
  cases e3 : isr a with
  | false =>
    rw [if_pos (by rfl), retZ0, Bool.false_and, Bool.and_false]
    rfl
  | true =>
    rw [if_neg (by decide), Q13_isRow, bP_s, Bool.true_and]
    cases e4 : isr r with
    | false =>
      rw [if_pos (by rfl), retZ0, Bool.and_false]
      rfl
    | true =>
      obtain ⟨k3, k4, k5⟩ := w2 k' hk'
      obtain ⟨b3, b4, b5⟩ := w2 b' hb'
      have wl := wayK_le w'
      have il := ivOf_le w'
      have rk : aI G (mem W S) 0 (W.ad (.a 13 0 3)) (Int32.ofNat k') = some (Int32.ofNat (rows k').length) := by rw [h.aN rfl (show k' < mLen 3 from hk') (by decide), k3]
      have rb : aI G (mem W S) 0 (W.ad (.a 13 0 3)) (Int32.ofNat b') = some (Int32.ofNat (rows b').length) := by rw [h.aN rfl (show b' < mLen 3 from hb') (by decide), b3]
      rw [if_neg (by decide), h.gR 3 rfl (by decide), bO_s, rk, bO_s, oM_keyOf (by omega), bP_s, Bool.and_true, n_at (by omega), n_at (by omega), n_at (by omega)]
      by_cases c1 : (rows k').length = wayK w'
      · rw [if_pos (by rw [c1]), decide_eq_true c1, Bool.true_and, h.gR 3 rfl (by decide), bO_s, rb, bO_s, oM_begOf (by omega), bP_s]
        by_cases c2 : (rows b').length = ivOf w'
        · rw [if_pos (by rw [c2]), decide_eq_true c2, retZ1]
          rfl
        · rw [if_neg (fun q => c2 ((n_eq (by omega) (by omega)).mp q)), decide_eq_false c2, retZ0]
          rfl
      · rw [if_neg (fun q => c1 ((n_eq (by omega) (by omega)).mp q)), decide_eq_false c1, retZ0]
        rfl
end MCT
