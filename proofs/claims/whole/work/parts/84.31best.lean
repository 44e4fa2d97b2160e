/-! NUMBERS THAT ARE RIGHT AND BELONG TOGETHER, in one word -/
def bstN (J : JT) (kd : Nat) : Option Ky3 := match kyN J kd with
  | some k => if blF kd k = true then some k else none
  | none => none
theorem kyD_c {J : JT} {kd : Nat} (h0 : kd ≠ 0) (h : (!kyD J kd || (ltB J (fd J 23)).isSome) = true) : (kyD J kd = true ∧ ltB J (fd J 23) = some (lB J (fd J 23))) ∨ (kyD J kd = false ∧ ltB J (fd J 23) = none) := by
  have e : kyD J kd = (fd J 23).isSome := by unfold kyD; rw [decide_eq_true h0, Bool.true_and]
  cases e2 : fd J 23 with
  | none => exact Or.inr ⟨by rw [e, e2]; rfl, rfl⟩
  | some i =>
    have e3 : kyD J kd = true := by rw [e, e2]; rfl
    rw [e3, e2] at h
    exact Or.inl ⟨e3, lB_of (by simpa using h)⟩
theorem kyL_1 {J : JT} (h : kyL J 1 = true) : (ltB J (fd J 25)).isSome = true ∧ (ltB J (fd J 26)).isSome = true ∧ (!kyD J 1 || (ltB J (fd J 23)).isSome) = true := by
  have h : ((ltB J (fd J 25)).isSome && (ltB J (fd J 26)).isSome && (!kyD J 1 || (ltB J (fd J 23)).isSome)) = true := h
  rw [Bool.and_eq_true, Bool.and_eq_true] at h
  exact ⟨h.1.1, h.1.2, h.2⟩
theorem kyL_2 {J : JT} (h : kyL J 2 = true) : (ltB J (fd J 29)).isSome = true ∧ (ltB J (fd J 30)).isSome = true ∧ (!kyD J 2 || (ltB J (fd J 23)).isSome) = true := by
  have h : ((sayB J (fd J 27) (str 28) && ((ltB J (fd J 29)).isSome && (ltB J (fd J 30)).isSome)) && (!kyD J 2 || (ltB J (fd J 23)).isSome)) = true := h
  rw [Bool.and_eq_true, Bool.and_eq_true, Bool.and_eq_true] at h
  exact ⟨h.1.2.1, h.1.2.2, h.2⟩
theorem bst_0 (J : JT) : bstN J 0 = if inL (lB J (fd J 24)) 1 128 = true then some (lB J (fd J 24), [], none) else none := by
  unfold bstN
  show (match (if inL (lB J (fd J 24)) 1 128 = true then some (lB J (fd J 24), [], none) else none : Option Ky3) with | some k => if blF 0 k = true then some k else none | none => none) = _
  split <;> rename_i e
  · split at e
    · have := Option.some.inj e
      rename_i c
      rw [if_pos c, ← this]
      rfl
    · exact absurd e (by simp)
  · split at e
    · exact absurd e (by simp)
    · rename_i c
      rw [if_neg c]
theorem bst_1 {J : JT} (h : kyL J 1 = true) : bstN J 1 = if rsM (lB J (fd J 25)) (lB J (fd J 26)) (ltB J (fd J 23)) = true then some (lB J (fd J 25), lB J (fd J 26), ltB J (fd J 23)) else none := by
  obtain ⟨h1, h2, h3⟩ := kyL_1 h
  have en : kyN J 1 = rsaN J := rfl
  unfold bstN
  rw [en]
  unfold rsaN rsM
  by_cases c : inL (lB J (fd J 25)) 64 128 = true ∧ suitsF (lB J (fd J 25)) = true ∧ inL (lB J (fd J 26)) 1 128 = true ∧ suitsF (lB J (fd J 26)) = true ∧ belF (lB J (fd J 26)) (lB J (fd J 25)) = true
  · have g : rsG (lB J (fd J 25)) (lB J (fd J 26)) = true := decide_eq_true c
    rw [if_pos c, g, Bool.true_and]
    rcases kyD_c (by decide) h3 with ⟨d1, d2⟩ | ⟨d1, d2⟩
    · rw [if_pos d1, d2]
      show _ = if rsC (lB J (fd J 25)) (lB J (fd J 26)) (lB J (fd J 23)) = true then _ else none
      unfold rsC
      by_cases c2 : inL (lB J (fd J 23)) 1 128 = true ∧ gN (lB J (fd J 23)) 0 ≠ 0 ∧ belF (lB J (fd J 23)) (lB J (fd J 25)) = true
      · rw [if_pos c2, decide_eq_true c2, Bool.true_and]
        rfl
      · rw [if_neg c2, decide_eq_false c2, Bool.false_and, if_neg Bool.false_ne_true]
    · rw [if_neg (by rw [d1]; exact Bool.false_ne_true), d2]
      rfl
  · have g : rsG (lB J (fd J 25)) (lB J (fd J 26)) = false := decide_eq_false c
    rw [if_neg c, g, Bool.false_and, if_neg Bool.false_ne_true]
theorem seg_l {a b : List UInt8} (h : a.length = 32) : seg (a ++ b) 0 32 = a := by
  unfold seg
  rw [List.drop_zero, ← h, List.take_left]
theorem seg_r {a b : List UInt8} (h : a.length = 32) (h2 : b.length = 32) : seg (a ++ b) 32 32 = b := by
  unfold seg
  rw [← h, List.drop_left, h, ← h2, List.take_length]
theorem bst_2 {J : JT} (h : kyL J 2 = true) : bstN J 2 = if ecM (lB J (fd J 29)) (lB J (fd J 30)) (ltB J (fd J 23)) = true then some (lB J (fd J 29) ++ lB J (fd J 30), [], ltB J (fd J 23)) else none := by
  obtain ⟨h1, h2, h3⟩ := kyL_2 h
  have en : kyN J 2 = ecN J := rfl
  unfold bstN
  rw [en]
  unfold ecN ecM
  have iL : ∀ d : List UInt8, inL d 32 32 = true ↔ d.length = 32 := fun d => ⟨inL_eq, fun q => by unfold inL; rw [q]; rfl⟩
  by_cases c : (lB J (fd J 29)).length = 32 ∧ (lB J (fd J 30)).length = 32
  · rw [if_pos ⟨(iL _).mpr c.1, (iL _).mpr c.2⟩, decide_eq_true c, Bool.true_and]
    have s1 := seg_l (b := lB J (fd J 30)) c.1
    have s2 := seg_r c.1 c.2
    rcases kyD_c (by decide) h3 with ⟨d1, d2⟩ | ⟨d1, d2⟩
    · rw [if_pos d1, d2]
      show _ = if (decide ((lB J (fd J 23)).length = 32) && (onC (beN (lB J (fd J 29))) (beN (lB J (fd J 30))) && pairF (lB J (fd J 23)) (lB J (fd J 29) ++ lB J (fd J 30)))) = true then _ else none
      by_cases c2 : (lB J (fd J 23)).length = 32
      · rw [if_pos ((iL _).mpr c2), decide_eq_true c2, Bool.true_and]
        show (if (onC (beN (seg (lB J (fd J 29) ++ lB J (fd J 30)) 0 32)) (beN (seg (lB J (fd J 29) ++ lB J (fd J 30)) 32 32)) && pairF (lB J (fd J 23)) (lB J (fd J 29) ++ lB J (fd J 30))) = true then _ else none) = _
        rw [s1, s2]
      · rw [if_neg (fun q => c2 ((iL _).mp q)), decide_eq_false c2, Bool.false_and, if_neg Bool.false_ne_true]
    · rw [if_neg (by rw [d1]; exact Bool.false_ne_true), d2]
      show (if (onC (beN (seg (lB J (fd J 29) ++ lB J (fd J 30)) 0 32)) (beN (seg (lB J (fd J 29) ++ lB J (fd J 30)) 32 32)) && true) = true then _ else none) = if onC (beN (lB J (fd J 29))) (beN (lB J (fd J 30))) = true then _ else none
      rw [s1, s2, Bool.and_true]
  · rw [if_neg (fun q => c ⟨(iL _).mp q.1, (iL _).mp q.2⟩), decide_eq_false c, Bool.false_and, if_neg Bool.false_ne_true]
/-- what key answers, by the steps that both sides take -/
theorem keyW_s {A : Nat → Option KY} {s : List UInt8} {J : JT} (e : rdT s = .inr J) : keyW A s = if kB J (some 0) 6 = true then (match kyKind J with
  | none => (-13, A)
  | some kd => if okN J 20 = true ∧ okN J 21 = true ∧ okN J 22 = true then (if kyL J kd = true then (match bstN J kd with
    | none => (-16, A)
    | some k => (match frN A with
      | none => (-17, A)
      | some q => ((Int32.ofNat q), up A q (some (kyA J kd k))))) else (-15, A)) else (-14, A)) else (-12, A) := by
  unfold keyW
  simp only [e]
  unfold kyR bstN
  by_cases c6 : kB J (some 0) 6 = true
  · simp only [if_pos c6]
    cases ek : kyKind J with
    | none => rfl
    | some kd =>
      by_cases co : okN J 20 = true ∧ okN J 21 = true ∧ okN J 22 = true
      · simp only [if_pos co]
        by_cases cl : kyL J kd = true
        · simp only [if_pos cl]
          cases en : kyN J kd with
          | none => rfl
          | some k =>
            by_cases cb : blF kd k = true
            · simp only [if_pos cb]
              cases frN A <;> rfl
            · simp only [if_neg cb]
        · simp only [if_neg cl]
          rfl
      · simp only [if_neg co]
        rfl
  · simp only [if_neg c6]
    rfl
