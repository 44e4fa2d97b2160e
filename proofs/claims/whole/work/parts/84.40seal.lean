/-! WHO MAY SEAL: the class -/
def slKd (w : Nat) : Nat := if w ≤ 2 then 0 else if w = 3 then 1 else 2
/-- has the key the length that is wanted, and its secret? -/
def slLn (K : KY) (w way : Nat) (sec : Bool) : Bool := if w = 0 then decide (K.2.1.1.length = wayK way) else if w = 1 then decide (K.2.1.1.length = 16) else if w = 2 then decide (K.2.1.1.length = 32) else if w = 3 then decide (66 + wayK way ≤ K.2.1.1.length) && (!sec || K.2.1.2.2.isSome) else (!sec || K.2.1.2.2.isSome)
def maySl (K : KY) (w way : Nat) (sec : Bool) : Bool := decide (K.1 = slKd w) && (decide (K.2.2.1 ≠ 1 ∧ K.2.2.1 ≠ 3) && ((decide (K.2.2.2.1 = -1) || decide (K.2.2.2.1 = (Int32.ofNat (5 + w)))) && slLn K w way sec))
section MAYS
variable {W : WR} {G : mG} {F : Nat} {S : ST} {j κ rk : Nat} {K : KY}
theorem Q5_maySeal {w way : Nat} (sec : Bool) (X : Cx G F W) (H : isKo W j) (O : KyO S j κ rk K) (V : KyV K) (hw : w ≤ 5) (hy : way < 4) : P_X5_maySeal G F (W.ad (.o 5 j)) (Int32.ofNat w) (Int32.ofNat way) (if sec = true then 1 else 0) (mem W S) = some (if maySl K w way sec = true then 1 else 0, mem W S) := by
  obtain ⟨o1, o2, o3, o4, o5, ⟨t1, t2, t3⟩, o7⟩ := O
  have k2 := V.kd
  have u3 := V.us
  have lm := t1.le
  have wk : wayK way ≤ 64 := by
    have h4 : way = 0 ∨ way = 1 ∨ way = 2 ∨ way = 3 := by omega
    rcases h4 with rfl | rfl | rfl | rfl <;> decide
  have g6 : gfR (mem W S) (W.ad (.o 5 j)) 5 6 = some (W.ad (.o 0 (16 + 3 * j))) := gfR_m H.1 rfl H.2.1
  have g61 : gfI (mem W S) (W.ad (.o 0 (16 + 3 * j))) 0 1 = some (Int32.ofNat (K.2.1.1.length)) := by rw [H.2.2.2.2.1.gI 1 rfl, t1.many]
  have sc : (if (if sec = true then (1 : Int32) else 0) = 0 then retZ (1 : Int32) (mem W S) else (bO (gfI (mem W S) (W.ad (.o 5 j)) 5 5) fun v176 => if v176 = 0 then (retZ (0 : Int32) (mem W S)) else (retZ (1 : Int32) (mem W S)))) = some (if (!sec || K.2.1.2.2.isSome) = true then 1 else 0, mem W S) := by
    cases sec with
    | false => rw [if_neg Bool.false_ne_true, if_pos rfl, rz1]; rfl
    | true =>
      rw [if_pos rfl, if_neg (by decide), ko_I H rfl, bO_s, o2]
      cases K.2.1.2.2 <;> rfl
  have two : ∀ (a b : Nat), a < 2 ^ 31 → b < 2 ^ 31 → (if (Int32.ofNat a) = (Int32.ofNat b) then retZ (1 : Int32) (mem W S) else retZ (0 : Int32) (mem W S)) = some (if decide (a = b) = true then 1 else 0, mem W S) := by
    intro a b ha hb
    by_cases c : a = b
    · rw [if_pos (by rw [c]), rz1, if_pos (decide_eq_true c)]
    · rw [if_neg (fun q => c ((n_eq ha hb).mp q)), rz0, if_neg (by rw [decide_eq_false c]; decide)]
  have e66 : B_X5_maySeal_66 G F (W.ad (.o 5 j)) (Int32.ofNat w) (Int32.ofNat way) (if sec = true then 1 else 0) (mem W S) = some (if slLn K w way sec = true then 1 else 0, mem W S) := by
    unfold B_X5_maySeal_66
    have h6 : w = 0 ∨ w = 1 ∨ w = 2 ∨ w = 3 ∨ w = 4 ∨ w = 5 := by omega
    rcases h6 with rfl | rfl | rfl | rfl | rfl | rfl
    · rw [if_pos (show (Int32.ofNat 0) = (0 : Int32) from rfl), g6, bO_s, g61, bO_s, way_t5 X hy, bO_s]
      exact two _ _ (by omega) (by omega)
    · rw [if_neg (show ¬ (Int32.ofNat 1) = (0 : Int32) by decide), if_pos (show (Int32.ofNat 1) = (1 : Int32) from rfl), g6, bO_s, g61, bO_s]
      exact two _ 16 (by omega) (by omega)
    · rw [if_neg (show ¬ (Int32.ofNat 2) = (0 : Int32) by decide), if_neg (show ¬ (Int32.ofNat 2) = (1 : Int32) by decide), if_pos (show (Int32.ofNat 2) = (2 : Int32) from rfl), g6, bO_s, g61, bO_s]
      exact two _ 32 (by omega) (by omega)
    · rw [if_neg (show ¬ (Int32.ofNat 3) = (0 : Int32) by decide), if_neg (show ¬ (Int32.ofNat 3) = (1 : Int32) by decide), if_neg (show ¬ (Int32.ofNat 3) = (2 : Int32) by decide), if_pos (show (Int32.ofNat 3) = (3 : Int32) from rfl), g6, bO_s, g61, bO_s, way_t5 X hy, bO_s, show (66 : Int32) + (Int32.ofNat (wayK way)) = (Int32.ofNat (66 + wayK way)) from n_add 66 _, sc]
      show _ = some (if (decide (66 + wayK way ≤ K.2.1.1.length) && (!sec || K.2.1.2.2.isSome)) = true then 1 else 0, mem W S)
      by_cases c : 66 + wayK way ≤ K.2.1.1.length
      · rw [if_neg (fun q => by have := (n_lt (by omega) (by omega)).mp q; omega), decide_eq_true c, Bool.true_and]
      · rw [if_pos ((n_lt (by omega) (by omega)).mpr (by omega)), decide_eq_false c, Bool.false_and, rz0]
        rfl
    · rw [if_neg (show ¬ (Int32.ofNat 4) = (0 : Int32) by decide), if_neg (show ¬ (Int32.ofNat 4) = (1 : Int32) by decide), if_neg (show ¬ (Int32.ofNat 4) = (2 : Int32) by decide), if_neg (show ¬ (Int32.ofNat 4) = (3 : Int32) by decide), sc]
      rfl
    · rw [if_neg (show ¬ (Int32.ofNat 5) = (0 : Int32) by decide), if_neg (show ¬ (Int32.ofNat 5) = (1 : Int32) by decide), if_neg (show ¬ (Int32.ofNat 5) = (2 : Int32) by decide), if_neg (show ¬ (Int32.ofNat 5) = (3 : Int32) by decide), sc]
      rfl
  have e19 : B_X5_maySeal_19 G F (W.ad (.o 5 j)) (Int32.ofNat w) (Int32.ofNat way) (if sec = true then 1 else 0) (Int32.ofNat (slKd w)) (mem W S) = some (if maySl K w way sec = true then 1 else 0, mem W S) := by
    have ks : slKd w ≤ 2 := by unfold slKd; split <;> (try split) <;> omega
    have x1 : (Int32.ofNat (K.2.2.1)) = (1 : Int32) ↔ K.2.2.1 = 1 := n_eq (b := 1) (by omega) (by omega)
    have x3 : (Int32.ofNat (K.2.2.1)) = (3 : Int32) ↔ K.2.2.1 = 3 := n_eq (b := 3) (by omega) (by omega)
    unfold B_X5_maySeal_19 maySl
    rw [ko_I H rfl, bO_s, o1]
    by_cases c1 : K.1 = slKd w
    · rw [if_pos (by rw [c1]), decide_eq_true c1, Bool.true_and, ko_I H rfl, bO_s, o3]
      by_cases c2 : K.2.2.1 = 1
      · rw [if_pos (x1.mpr c2), decide_eq_false (fun q => q.1 c2), Bool.false_and, rz0]
        rfl
      rw [if_neg (fun q => c2 (x1.mp q)), bO_s]
      by_cases c3 : K.2.2.1 = 3
      · rw [if_pos (x3.mpr c3), decide_eq_false (fun q => q.2 c3), Bool.false_and, rz0]
        rfl
      rw [if_neg (fun q => c3 (x3.mp q)), decide_eq_true ⟨c2, c3⟩, Bool.true_and, ko_I H rfl, bO_s, o4, show (5 : Int32) + (Int32.ofNat w) = (Int32.ofNat (5 + w)) from n_add 5 w]
      by_cases c4 : K.2.2.2.1 = -1
      · rw [if_pos c4, decide_eq_true c4, Bool.true_or, Bool.true_and]
        exact e66
      · rw [if_neg c4, decide_eq_false c4, Bool.false_or, bO_s]
        by_cases c5 : K.2.2.2.1 = (Int32.ofNat (5 + w))
        · rw [if_pos c5, decide_eq_true c5, Bool.true_and]
          exact e66
        · rw [if_neg c5, decide_eq_false c5, Bool.false_and, rz0]
          rfl
    · rw [if_neg (fun q => c1 ((n_eq (by omega) (by omega)).mp q)), decide_eq_false c1, Bool.false_and, rz0]
      rfl
  unfold P_X5_maySeal
  have h6 : w = 0 ∨ w = 1 ∨ w = 2 ∨ w = 3 ∨ w = 4 ∨ w = 5 := by omega
  rcases h6 with rfl | rfl | rfl | rfl | rfl | rfl <;> exact e19
end MAYS
