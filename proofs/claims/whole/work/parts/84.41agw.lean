/-! AN ALG'S TEXT AND ITS NUMBER -/
theorem agN_cases {d : List UInt8} : ∀ (m k : Nat) (a : Int32), agN d m k a = a ∨ ∃ q, k ≤ q ∧ q < k + m ∧ d = str (33 + q) ∧ agN d m k a = (Int32.ofNat q)
  | 0, _, _ => Or.inl rfl
  | m + 1, k, a => by
    have ih := agN_cases (d := d) m (k + 1) (if d = str (33 + k) then (Int32.ofNat k) else a)
    have e : agN d (m + 1) k a = agN d m (k + 1) (if d = str (33 + k) then (Int32.ofNat k) else a) := rfl
    rw [e]
    rcases ih with h | ⟨q, h1, h2, h3, h4⟩
    · by_cases c : d = str (33 + k)
      · rw [if_pos c] at h ⊢
        exact Or.inr ⟨k, Nat.le_refl _, by omega, c, h⟩
      · rw [if_neg c] at h ⊢
        exact Or.inl h
    · exact Or.inr ⟨q, by omega, by omega, h3, h4⟩
theorem agN_at : ∀ w, w < 11 → agN (str (33 + w)) 11 0 11 = (Int32.ofNat w) := by decide +kernel
theorem agW_w {d : List UInt8} {w : Nat} (hw : w < 11) : agW (some d) = (Int32.ofNat w) ↔ d = str (33 + w) := by
  show agN d 11 0 11 = (Int32.ofNat w) ↔ _
  constructor
  · intro e
    rcases agN_cases (d := d) 11 0 11 with h | ⟨q, h1, h2, h3, h4⟩
    · rw [h] at e
      have e : (Int32.ofNat 11) = (Int32.ofNat w) := e
      have := (n_eq (by omega) (by omega)).mp e
      omega
    · rw [h4] at e
      have := (n_eq (by omega) (by omega)).mp e
      rw [← this]
      exact h3
  · intro e
    rw [e]
    exact agN_at w hw
/-- rows of words, each with a blank behind it -/
def rwW : List (List UInt8) → List UInt8
  | [] => []
  | w :: ws => w ++ ([32] ++ rwW ws)
theorem row_108 : str 108 = rwW [str 33, str 34, str 35, str 36, str 37] := by decide +kernel
theorem row_117 : str 117 = rwW [str 38, str 39, str 40, str 41, str 42, str 43] := by decide +kernel
/-- the place of a word in a row of words -/
def wdF (d : List UInt8) : List (List UInt8) → Nat → Option Nat
  | [], _ => none
  | w :: ws, k => if d = w then some k else wdF d ws (k + 1)
