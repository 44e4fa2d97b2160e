/-! CALL encrypt: what the model refuses outright -/
section MEB
variable {W : WR} {G : mG} {F : Nat} {S : ST} {A : Nat → Option KY}
theorem QM_encrypt_bad {k alg way pay rnd x6 x7 : Int32} (h : isM W) (KK : KM (S 13 0) A) (hb : encBad A k alg way pay rnd x6 x7 = true) : P_X13_encrypt G F (W.ad (.o 13 0)) k alg way pay rnd x6 x7 (mem W S) = some (-2, mem W S) := by
  have ik := oM_isKey (G := G) (F := F) (S := S) (o := S 13 0) h KK k
  rw [so_self] at ik
  have e60 : ∀ s : Int32, B_X13_encrypt_60 G F (W.ad (.o 13 0)) k alg way pay rnd x6 x7 s 0 (mem W S) = some (-2, mem W S) := fun s => by
    unfold B_X13_encrypt_60
    rw [if_pos rfl]
  have e10 : ∀ s : Int32, (s = 0 → alg < 4) → B_X13_encrypt_10 G F (W.ad (.o 13 0)) k alg way pay rnd x6 x7 s (mem W S) = some (-2, mem W S) := by
    intro s hs
    unfold B_X13_encrypt_10
    unfold encBad at hb
    rw [rcv_m h.lo, bO_s, ik, bP_s]
    cases c1 : isk A k with
    | false => rw [if_neg Bool.false_ne_true, if_pos rfl, e60]
    | true =>
      rw [c1] at hb
      rw [if_pos rfl, if_neg (by decide)]
      by_cases c2 : alg < 0
      · rw [if_pos c2, e60]
      rw [if_neg c2]
      rw [decide_eq_false c2] at hb
      by_cases c3 : (6 : Int32) ≤ alg
      · rw [if_pos c3, e60]
      rw [if_neg c3]
      rw [decide_eq_false c3] at hb
      by_cases c4 : way < 0
      · rw [if_pos c4, e60]
      rw [if_neg c4]
      rw [decide_eq_false c4] at hb
      by_cases c5 : (4 : Int32) ≤ way
      · rw [if_pos c5, e60]
      rw [if_neg c5, Q13_isRow, bP_s]
      rw [decide_eq_false c5] at hb
      cases c6 : isr pay with
      | false => rw [if_neg Bool.false_ne_true, if_pos rfl, e60]
      | true =>
        rw [c6] at hb
        rw [if_pos rfl, if_neg (by decide), Q13_isRow, bP_s]
        cases c7 : isr rnd with
        | false => rw [if_neg Bool.false_ne_true, if_pos rfl, e60]
        | true =>
          rw [c7] at hb
          have hb : (!decide (alg < 4) && (!ron x6 || !ron x7)) = true := hb
          rw [Bool.and_eq_true] at hb
          have c8 : ¬ alg < 4 := fun q => by rw [decide_eq_true q] at hb; exact absurd hb.1 (by decide)
          have hb := hb.2
          have s0 : ¬ s = 0 := fun q => c8 (hs q)
          rw [if_pos rfl, if_neg (by decide)]
          unfold B_X13_encrypt_60
          rw [if_neg (by decide), if_neg s0]
          have t7 : ron x7 = false → (if x7 = (-1 : Int32) then (B_X13_encrypt_103 G F (W.ad (.o 13 0)) k alg way pay rnd x6 x7 s (mem W S)) else (bP (P_X13_isRow G F x7 (mem W S)) fun v94 M94 => if v94 = 0 then (some ((-2 : Int32), M94)) else (B_X13_encrypt_103 G F (W.ad (.o 13 0)) k alg way pay rnd x6 x7 s M94))) = some (-2, mem W S) := by
            intro r7
            unfold ron at r7
            rw [Bool.or_eq_false_iff] at r7
            rw [if_neg (of_decide_eq_false r7.1), Q13_isRow, bP_s, r7.2]
            rfl
          by_cases d6 : x6 = -1
          · have r6 : ron x6 = true := by unfold ron; rw [decide_eq_true d6]; rfl
            rw [r6] at hb
            rw [if_pos d6]
            refine t7 ?_
            cases r7 : ron x7 with
            | false => rfl
            | true => rw [r7] at hb; exact absurd hb (by decide)
          · rw [if_neg d6, Q13_isRow, bP_s]
            cases i6 : isr x6 with
            | false => rw [if_pos (by rfl)]
            | true =>
              have r6 : ron x6 = true := by unfold ron; rw [i6, Bool.or_true]
              rw [r6] at hb
              rw [if_neg (by decide)]
              refine t7 ?_
              cases r7 : ron x7 with
              | false => rfl
              | true => rw [r7] at hb; exact absurd hb (by decide)
  unfold P_X13_encrypt
  by_cases c : alg ≤ 3
  · rw [if_pos c]
    refine e10 0 (fun _ => ?_)
    rcases i_cases alg with hx | ⟨a, hal, rfl⟩
    · exact Int32.lt_trans hx (by decide)
    · have := (n_le (b := 3) hal (by omega)).mp c
      exact (n_lt (b := 4) hal (by omega)).mpr (by omega)
  · rw [if_neg c]
    exact e10 1 (fun q => absurd q (by decide))
end MEB
