/-! THE HOUSE'S OWN CALLS: letters -/
section TOP3
variable {W : WR} {S : ST} {G : mG} {F : Nat} {t u : List UInt8} {l l2 : Bool}
theorem encL_len : ∀ (xs : List UInt8) (b r : Nat), (b = 0 ∨ b = 2 ∨ b = 4) → (encL b r xs).length = (xs.length * 8 + b + 5) / 6 := by
  intro xs
  induction xs with
  | nil =>
    intro b r hb
    unfold encL
    rcases hb with rfl | rfl | rfl <;> rfl
  | cons x xs ih =>
    intro b r hb
    rw [encL]
    by_cases h4 : b = 4
    · subst h4
      rw [if_pos rfl]
      simp only [List.length_cons]
      rw [ih 0 0 (Or.inl rfl)]
      omega
    · rw [if_neg h4]
      simp only [List.length_cons]
      rw [ih (b + 2) _ (by omega)]
      omega
/-- letters for bytes -/
def enc (xs : List UInt8) : List UInt8 := encL 0 0 xs
theorem enc_len (xs : List UInt8) : (enc xs).length = (xs.length * 4 + 2) / 3 := by
  unfold enc
  rw [encL_len xs 0 0 (Or.inl rfl)]
  omega
def dec (xs : List UInt8) : List UInt8 := decL 0 0 xs
theorem decL_len : ∀ (xs : List UInt8) (b r : Nat), (b = 0 ∨ b = 2 ∨ b = 4 ∨ b = 6) → (decL b r xs).length = (xs.length * 6 + b) / 8 := by
  intro xs
  induction xs with
  | nil =>
    intro b r hb
    unfold decL
    rcases hb with rfl | rfl | rfl | rfl <;> rfl
  | cons x xs ih =>
    intro b r hb
    rw [decL]
    by_cases h4 : b = 0
    · subst h4
      rw [if_pos rfl, ih 6 _ (by omega)]
      simp only [List.length_cons]
      omega
    · rw [if_neg h4]
      simp only [List.length_cons]
      rw [ih (b - 2) _ (by omega)]
      omega
theorem dec_len (xs : List UInt8) : (dec xs).length = xs.length * 3 / 4 := by
  unfold dec
  rw [decL_len xs 0 0 (Or.inl rfl)]
  omega
theorem Q11_encode {r : Nat} (X : Cx G F W) (h : isT W) (hr : r < 8) (hs : Byt 8192 (S 0 9) t l) (hb : Byt 8192 (S 0 r) u l2) : ∃ o, P_X11_encode G F (W.ad (.o 11 0)) (Int32.ofNat r) (mem W S) = some (if (enc u).length ≤ 8192 then (Int32.ofNat (enc u).length) else -3, mem W (S.so 0 9 o)) ∧ ((enc u).length ≤ 8192 → Byt 8192 o (enc u) false) ∧ (¬ (enc u).length ≤ 8192 → o = S 0 9) := by
  have hle := hb.le
  have hR := h.rb r hr
  unfold P_X11_encode
  rw [rcv_m h.lo, bO_s, Q11_isRow, bP_s, isr_i hr, if_pos rfl, if_neg (by decide), h.gR rfl h.ra, bO_s, h.row hr, bO_s, hR.gI 1 rfl, bO_s, hb.many, Q0_lettersFor (by omega), bP_s, ← enc_len u]
  have hel := enc_len u
  by_cases hq : (enc u).length ≤ 8192
  · rw [if_pos (by rw [lit 8192, n_le (by omega) (by omega)]; exact hq), if_pos hq]
    obtain ⟨o0, g0, b0⟩ := Q0_clear (G := G) (F := F) h.sb hs
    have e : (S.so 0 9 o0) 0 r = S 0 r := so_ne (by omega)
    obtain ⟨o, g, b⟩ := Q0_putLetters (S := S.so 0 9 o0) (st := 0) (stop := u.length) X h.sb (by rw [so_eq]; exact b0) hR (by rw [e]; exact hb) (by omega) (Nat.zero_le _) (Nat.le_refl _) (by omega)
    rw [List.drop_zero, Nat.sub_zero, List.take_of_length_le (Nat.le_refl _)] at b
    have hz : ([] : List UInt8).length + (encL 0 0 u).length ≤ 8192 := by
      have := enc_len u
      unfold enc at this
      rw [List.length_nil, this]
      omega
    rw [tkl_fit hz, lsl_fit hz, List.nil_append] at b
    refine ⟨o, ?_, fun _ => b, fun q => absurd hq q⟩
    have g' : P_X0_putLetters G F (W.ad (.o 0 9)) (W.ad (.o 0 r)) 0 (Int32.ofNat u.length) (mem W (S.so 0 9 o0)) = some (mem W ((S.so 0 9 o0).so 0 9 o)) := g
    simp only [h.gR (k := 2) rfl h.shown, h.gR (k := 0) rfl h.ra, h.row hr, bO_s, rcv_m h.sb.lo, g0, hR.gI 1 rfl, e, hb.many, g', so_so, h.sb.gI 1 rfl, so_eq]
    rw [b.many]
    rfl
  · rw [if_neg (by rw [lit 8192, n_le (by omega) (by omega)]; exact hq), if_neg hq]
    exact ⟨S 0 9, by rw [so_self], fun q => absurd q hq, fun _ => rfl⟩
theorem Q11_decode {r : Nat} (X : Cx G F W) (h : isT W) (hr : r < 8) (hs : Byt 8192 (S 0 9) t l) (hb : Byt 8192 (S 0 r) u l2) : ∃ o, P_X11_decode G F (W.ad (.o 11 0)) (Int32.ofNat r) (mem W S) = some (match fltF u with | some k => -100 - (Int32.ofNat k) | none => (Int32.ofNat (dec u).length), mem W (S.so 0 9 o)) ∧ (fltF u = none → Byt 8192 o (dec u) false) ∧ (fltF u ≠ none → o = S 0 9) := by
  have hle := hb.le
  have hR := h.rb r hr
  have gf : P_X0_letterFault G F (W.ad (.o 0 r)) 0 (Int32.ofNat u.length) (mem W S) = some (oN (fltF u), mem W S) := by
    have := Q0_letterFault (st := 0) (stop := u.length) X hR hb (Nat.zero_le _) (Nat.le_refl _) (by omega)
    rwa [List.drop_zero, Nat.sub_zero, List.take_of_length_le (Nat.le_refl _)] at this
  unfold P_X11_decode
  rw [rcv_m h.lo, bO_s, Q11_isRow, bP_s, isr_i hr, if_pos rfl, if_neg (by decide), h.gR rfl h.ra, bO_s, h.row hr, bO_s]
  simp only [bO_s, h.row hr, hR.gI 1 rfl, hb.many, gf, bP_s]
  cases hq : fltF u with
  | none =>
    rw [if_pos (show oN none = -1 from rfl)]
    obtain ⟨o0, g0, b0⟩ := Q0_clear (G := G) (F := F) h.sb hs
    have e : (S.so 0 9 o0) 0 r = S 0 r := so_ne (by omega)
    obtain ⟨o, g, b⟩ := Q0_putUnlettered (S := S.so 0 9 o0) (st := 0) (stop := u.length) X h.sb (by rw [so_eq]; exact b0) hR (by rw [e]; exact hb) (by omega) (Nat.zero_le _) (Nat.le_refl _) (by omega) (by
      rw [List.drop_zero, Nat.sub_zero, List.take_of_length_le (Nat.le_refl _)]
      exact flt_none hq)
    rw [List.drop_zero, Nat.sub_zero, List.take_of_length_le (Nat.le_refl _)] at b
    have hz : ([] : List UInt8).length + (decL 0 0 u).length ≤ 8192 := by
      have := dec_len u
      unfold dec at this
      rw [List.length_nil, this]
      omega
    rw [tkl_fit hz, lsl_fit hz, List.nil_append] at b
    refine ⟨o, ?_, fun _ => b, fun q => absurd rfl q⟩
    have g' : P_X0_putUnlettered G F (W.ad (.o 0 9)) (W.ad (.o 0 r)) 0 (Int32.ofNat u.length) (mem W (S.so 0 9 o0)) = some (mem W ((S.so 0 9 o0).so 0 9 o)) := g
    simp only [h.gR (k := 2) rfl h.shown, h.gR (k := 0) rfl h.ra, h.row hr, bO_s, rcv_m h.sb.lo, g0, hR.gI 1 rfl, e, hb.many, g', so_so, h.sb.gI 1 rfl, so_eq]
    rw [b.many]
    rfl
  | some k =>
    have hk : k ≤ u.length := by
      unfold fltF at hq
      cases hf : u.findIdx? (fun x => (sv x).isNone) with
      | some j =>
        rw [hf] at hq
        cases hq
        have := (List.findIdx?_eq_some_iff_getElem.mp hf).1
        omega
      | none =>
        rw [hf] at hq
        simp only [] at hq
        repeat' split at hq
        all_goals (cases hq; try omega)
    have hne : ¬ oN (some k) = -1 := by
      show ¬ (Int32.ofNat k) = -1
      intro q
      have := nn (show k < 2 ^ 31 by omega)
      rw [q] at this
      exact this (by decide)
    rw [if_neg hne]
    exact ⟨S 0 9, by rw [so_self]; rfl, fun q => (nomatch q), fun _ => rfl⟩
theorem Q11_noRow2 {x : Int32} (hx : isr x = false) (a : Nat) (M : mM) (ha : rcv M a 11 = some ()) : P_X11_encode G F a x M = some (-2, M) ∧ P_X11_decode G F a x M = some (-2, M) := by
  unfold P_X11_encode P_X11_decode
  rw [ha, bO_s, Q11_isRow, bP_s, hx]
  exact ⟨rfl, rfl⟩
end TOP3
