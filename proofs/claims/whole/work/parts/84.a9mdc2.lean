/-! CALL decrypt: the model -/
theorem epB_h {J : JT} (h : agB J = true) : seg (epB J) 0 32 = lB J (fN J (str 29) (fd J 68)) ∧ seg (epB J) 32 32 = lB J (fN J (str 30) (fd J 68)) := by
  unfold agB at h
  rw [Bool.and_eq_true, Bool.and_eq_true, Bool.and_eq_true, Bool.and_eq_true, decide_eq_true_iff] at h
  obtain ⟨_, _, _, ⟨e1, e2⟩, _⟩ := h
  unfold inL at e1 e2
  rw [Bool.and_eq_true, decide_eq_true_iff, decide_eq_true_iff] at e1 e2
  have l1 : (lB J (fN J (str 29) (fd J 68))).length = 32 := by omega
  have l2 : (lB J (fN J (str 30) (fd J 68))).length = 32 := by omega
  unfold epB seg
  rw [List.drop_zero, List.take_left' l1, List.drop_left' l1, List.take_of_length_le (by omega)]
  exact ⟨rfl, rfl⟩
theorem hdV_t (s : List UInt8) : hdV s true = match rdT s with | .inl _ => -22 | .inr J => dcR J := by
  unfold hdV
  cases rdT s with
  | inl p => rfl
  | inr J =>
    show (if sdH J true = true then hdR J true else -23) = dcR J
    have es : sdH J true = (hdS J && (kB J (fd J 66) 4 && (fd J 67).isNone)) := rfl
    rw [es]
    by_cases c1 : (hdS J && (kB J (fd J 66) 4 && (fd J 67).isNone)) = true
    · rw [if_pos c1]
      have er : slR J = if fd J 54 = none then (if slA J = none ∨ slW J = none then -25 else if (slA J).getD 0 < 4 ∨ agB J = true then 0 else -23) else -24 := by
        unfold slR
        rw [if_pos c1]
      have eh : hdR J true = if fd J 54 = none then (if slA J = none ∨ slW J = none then -25 else if (slA J).getD 0 < 4 ∨ agM J = true then 0 else -23) else -24 := rfl
      rw [eh]
      unfold dcR
      by_cases c2 : fd J 54 = none
      · rw [if_pos c2] at er
        rw [if_pos c2]
        by_cases c3 : slA J = none ∨ slW J = none
        · rw [if_pos c3] at er
          rw [if_pos c3, er, if_neg (fun q => absurd q.1 (by decide))]
        · rw [if_neg c3] at er
          rw [if_neg c3]
          by_cases c4 : (slA J).getD 0 < 4
          · rw [if_pos (Or.inl c4)] at er
            rw [if_pos (Or.inl c4), er, if_neg (fun q => by omega)]
          · cases cb : agB J with
            | false =>
              rw [if_neg (fun q => q.elim c4 (by rw [cb]; decide))] at er
              rw [er, if_neg (fun q => q.elim c4 (fun z => by unfold agM at z; rw [cb, Bool.false_and] at z; exact absurd z (by decide))), if_neg (fun q => absurd q.1 (by decide))]
            | true =>
              rw [if_pos (Or.inr cb)] at er
              obtain ⟨h1, h2⟩ := epB_h cb
              have em : agM J = onC (beN (seg (epB J) 0 32)) (beN (seg (epB J) 32 32)) := by
                unfold agM
                rw [cb, h1, h2]
                rfl
              rw [er, em]
              cases on : onC (beN (seg (epB J) 0 32)) (beN (seg (epB J) 32 32)) with
              | true => rw [if_pos (Or.inr rfl), if_neg (fun q => absurd q.2.2 (by decide))]
              | false => rw [if_neg (fun q => q.elim c4 (by decide)), if_pos ⟨rfl, by omega, rfl⟩]
      · rw [if_neg c2] at er
        rw [if_neg c2, er, if_neg (fun q => absurd q.1 (by decide))]
    · have er : slR J = -23 := by
        unfold slR
        rw [if_neg c1]
      rw [if_neg c1]
      unfold dcR
      rw [er, if_neg (fun q => absurd q.1 (by decide))]
theorem QM_decrypt_bad {G : mG} {F : Nat} {x : Int32} (a : Nat) (M : mM) (hx : isr x = false) : P_X13_decrypt G F a x M = some (-2, M) := by
  unfold P_X13_decrypt
  rw [Q13_isRow, bP_s, hx, if_pos (by rfl)]
