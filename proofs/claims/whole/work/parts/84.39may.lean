/-! WHO MAY SIGN: the class; key with a row that is none -/
theorem key_bad {G : mG} {F z s : Nat} {x : Int32} (a : Nat) (M : mM) (hA : rcv M a 11 = some ()) (hx : isr x = false) : P_X11_key G F a x M z s = some (-2, M, z, s) := by
  unfold P_X11_key B_X11_key_5
  rw [hA, bO_s, Q11_isRow, bP_s, hx, if_pos (by rfl)]
theorem mkey_bad {G : mG} {F : Nat} {x : Int32} (a : Nat) (M : mM) (hx : isr x = false) : P_X13_key G F a x M = some (-2, M) := by
  unfold P_X13_key
  rw [Q13_isRow, bP_s, hx, if_pos (by rfl)]
theorem KyV.us {K : KY} (h : KyV K) : K.2.2.1 ≤ 3 := by
  obtain ⟨s, J, kd, k, h1, h2, h3, h4, h5⟩ := h
  rw [h5]
  show usN J ≤ 3
  unfold usN
  split
  · omega
  · split
    · omega
    · split <;> omega
def sgKd (w : Nat) : Nat := if w ≤ 1 then 0 else if w ≤ 3 then 1 else 2
def sgLe (w : Nat) : Nat := if w = 0 then 32 else if w = 1 then 64 else if w = 3 then 67 else 0
/-- may this key sign so? -/
def maySg (K : KY) (w : Nat) (sec : Bool) : Bool := decide (K.1 = sgKd w) && (decide (K.2.2.1 ≤ 1) && ((decide (K.2.2.2.1 = -1) || decide (K.2.2.2.1 = (Int32.ofNat w))) && (decide (sgLe w ≤ K.2.1.1.length) && (!sec || (decide (K.1 = 0) || K.2.1.2.2.isSome)))))
section MAY
variable {W : WR} {G : mG} {F : Nat} {S : ST} {j κ rk : Nat} {K : KY}
theorem Q5_maySign {w : Nat} (sec : Bool) (H : isKo W j) (O : KyO S j κ rk K) (V : KyV K) (hw : w ≤ 4) : P_X5_maySign G F (W.ad (.o 5 j)) (Int32.ofNat w) (if sec = true then 1 else 0) (mem W S) = some (if maySg K w sec = true then 1 else 0, mem W S) := by
  obtain ⟨o1, o2, o3, o4, o5, ⟨t1, t2, t3⟩, o7⟩ := O
  have k2 := V.kd
  have u3 := V.us
  have lm := t1.le
  have g6 : gfR (mem W S) (W.ad (.o 5 j)) 5 6 = some (W.ad (.o 0 (16 + 3 * j))) := gfR_m H.1 rfl H.2.1
  -- the length and the secret
  have e84 : ∀ n : Nat, n ≤ 100 → B_X5_maySign_84 G F (W.ad (.o 5 j)) (if sec = true then 1 else 0) (Int32.ofNat n) (mem W S) = some (if (decide (n ≤ K.2.1.1.length) && (!sec || (decide (K.1 = 0) || K.2.1.2.2.isSome))) = true then 1 else 0, mem W S) := by
    intro n hn
    unfold B_X5_maySign_84
    rw [g6, bO_s, H.2.2.2.2.1.gI 1 rfl, bO_s, t1.many]
    by_cases c : n ≤ K.2.1.1.length
    · rw [if_neg (fun q => by have := (n_lt (by omega) (by omega)).mp q; omega), decide_eq_true c, Bool.true_and]
      cases sec with
      | false => rw [if_neg Bool.false_ne_true, if_pos rfl, rz1]; rfl
      | true =>
        rw [if_pos rfl, if_neg (by decide), ko_I H rfl, bO_s, o1]
        by_cases c0 : K.1 = 0
        · rw [if_pos (show (Int32.ofNat (K.1)) = 0 by rw [c0]; rfl), rz1, decide_eq_true c0]; rfl
        · rw [if_neg (show ¬ (Int32.ofNat (K.1)) = 0 from fun q => c0 ((n_eq (b := 0) (by omega) (by omega)).mp q)), ko_I H rfl, bO_s, o2, decide_eq_false c0]
          cases K.2.1.2.2 <;> rfl
    · rw [if_pos ((n_lt (by omega) (by omega)).mpr (by omega)), decide_eq_false c, Bool.false_and, rz0]
      rfl
  have e54 : B_X5_maySign_54 G F (W.ad (.o 5 j)) (Int32.ofNat w) (if sec = true then 1 else 0) (mem W S) = some (if (decide (sgLe w ≤ K.2.1.1.length) && (!sec || (decide (K.1 = 0) || K.2.1.2.2.isSome))) = true then 1 else 0, mem W S) := by
    unfold B_X5_maySign_54
    have h5 : w = 0 ∨ w = 1 ∨ w = 2 ∨ w = 3 ∨ w = 4 := by omega
    rcases h5 with rfl | rfl | rfl | rfl | rfl
    · exact e84 32 (by decide)
    · exact e84 64 (by decide)
    · exact e84 0 (by decide)
    · exact e84 67 (by decide)
    · exact e84 0 (by decide)
  have e19 : B_X5_maySign_19 G F (W.ad (.o 5 j)) (Int32.ofNat w) (if sec = true then 1 else 0) (Int32.ofNat (sgKd w)) (mem W S) = some (if maySg K w sec = true then 1 else 0, mem W S) := by
    have ks : sgKd w ≤ 2 := by unfold sgKd; split <;> (try split) <;> omega
    unfold B_X5_maySign_19 maySg
    rw [ko_I H rfl, bO_s, o1]
    by_cases c1 : K.1 = sgKd w
    · rw [if_pos (by rw [c1]), decide_eq_true c1, Bool.true_and, ko_I H rfl, bO_s, o3]
      have x1 : (1 : Int32) < (Int32.ofNat (K.2.2.1)) ↔ 1 < K.2.2.1 := n_lt (a := 1) (by omega) (by omega)
      by_cases c2 : K.2.2.1 ≤ 1
      · rw [if_neg (fun q => by have := x1.mp q; omega), decide_eq_true c2, Bool.true_and, ko_I H rfl, bO_s, o4]
        by_cases c3 : K.2.2.2.1 = -1
        · rw [if_pos c3, decide_eq_true c3, Bool.true_or, Bool.true_and]
          exact e54
        · rw [if_neg c3, decide_eq_false c3, Bool.false_or, bO_s]
          by_cases c4 : K.2.2.2.1 = (Int32.ofNat w)
          · rw [if_pos c4, decide_eq_true c4, Bool.true_and]
            exact e54
          · rw [if_neg c4, decide_eq_false c4, Bool.false_and, rz0]
            rfl
      · rw [if_pos (x1.mpr (by omega)), decide_eq_false c2, Bool.false_and, rz0]
        rfl
    · rw [if_neg (fun q => c1 ((n_eq (by omega) (by omega)).mp q)), decide_eq_false c1, Bool.false_and, rz0]
      rfl
  unfold P_X5_maySign
  have h5 : w = 0 ∨ w = 1 ∨ w = 2 ∨ w = 3 ∨ w = 4 := by omega
  rcases h5 with rfl | rfl | rfl | rfl | rfl <;> exact e19
end MAY
