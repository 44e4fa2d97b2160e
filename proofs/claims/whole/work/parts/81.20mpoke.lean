/-! THE MODEL'S POKE -/
section MPOKE
variable {W : WR} {G : mG} {F : Nat} {S : ST} {rows : Nat → List UInt8}
theorem sb_xor (x y : UInt8) : sb x ^^^ sb y = sb (x ^^^ y) := by
  unfold sb
  rw [← Int8.toInt32_xor]
  rfl
theorem QM_poke {r j y : Nat} (h : isM W) (hr : r < 8) (hR : mRows (S 13 0) rows) (hj : j < (rows r).length) (hy : y < 256) : ∃ o, P_X13_poke G F (W.ad (.o 13 0)) (Int32.ofNat r) (Int32.ofNat j) (Int32.ofNat y) (mem W S) = some (b32 ((rows r)[j] ^^^ UInt8.ofNat y), mem W (S.so 13 0 o)) ∧ agr [] [] [2] [] (S 13 0) o ∧ mRows o (setR rows r ((rows r).set j ((rows r)[j] ^^^ UInt8.ofNat y))) := by
  obtain ⟨β, c1, c2⟩ := hR
  obtain ⟨c3, c4, c5⟩ := c2 r hr
  have ej : (rows r)[j] = β (8192 * r + j) := by
    have e1 : (rows r)[j]? = some (β (8192 * r + j)) := by
      conv => lhs; rw [← c5]
      exact rdB_at hj
    exact (List.getElem?_eq_some_iff.mp e1).2
  have hb : 8192 * r + j < 65536 := by omega
  have ex : ((Int32.ofNat (y))).toInt8.toInt32 = sb (UInt8.ofNat y) := by rw [sb_lo8, lo8_n]
  have ev : (((sb (β (8192 * r + j)) ^^^ sb (UInt8.ofNat y)).toInt8.toInt32).toInt8.toInt32) = sb ((rows r)[j] ^^^ UInt8.ofNat y) := by
    rw [sb_xor, sb_sb, sb_sb, ej]
  have gs := h.sB (S := S) (k := 2) (j := 8192 * r + j) (y := (rows r)[j] ^^^ UInt8.ofNat y) rfl c1 hb (by decide)
  refine ⟨(S 13 0).sA 2 (fun j' => sb (va_up β (8192 * r + j) ((rows r)[j] ^^^ UInt8.ofNat y) j')), ?_, agr_sA (by decide), va_up β (8192 * r + j) ((rows r)[j] ^^^ UInt8.ofNat y), mB_sA _ _ _, ?_⟩
  · unfold P_X13_poke
    rw [Q13_isRow, bP_s, isr_i hr, if_pos rfl, if_neg (by decide), if_neg (nn (by omega)), h.gR 3 rfl (by decide), bO_s, h.aN rfl (show r < 8 from hr) (by decide), bO_s, c3]
    rw [if_neg (by rw [n_le (by omega) (by omega)]; omega), if_neg (nn (by omega)), if_pos (by rw [lit 255, n_le (by omega) (by omega)]; omega), h.gR 2 rfl (by decide), bO_s, lit 8192, n_mul, n_add, h.aB rfl c1 hb (by decide), bO_s, ex, ev, gs, bO_s, h.gR 2 rfl (by decide), bO_s, h.aB rfl (by rw [so_eq]; exact mB_sA _ _ _) hb (by decide), bO_s, sb_and]
    simp [va_up]
  · intro r' hr'
    rw [sA_a' (by decide)]
    unfold setR
    by_cases e : r' = r
    · rw [if_pos e, e]
      refine ⟨by rw [List.length_set]; exact c3, by rw [List.length_set]; exact c4, ?_⟩
      rw [List.length_set]
      apply List.ext_getElem?
      intro n
      rw [List.getElem?_set]
      by_cases hn : n < (rows r).length
      · rw [rdB_at hn]
        unfold va_up
        by_cases hnj : j = n
        · rw [if_pos (by omega), if_pos hnj, if_pos (by omega)]
        · rw [if_neg (by omega), if_neg hnj, ← rdB_at hn, c5]
      · rw [List.getElem?_eq_none (by rw [rdB_len]; omega), if_neg (by omega), List.getElem?_eq_none (by omega)]
    · obtain ⟨d1, d2, d3⟩ := c2 r' hr'
      rw [if_neg e]
      refine ⟨d1, d2, ?_⟩
      conv => rhs; rw [← d3]
      unfold rdB
      apply List.map_congr_left
      intro n hn
      rw [List.mem_range] at hn
      unfold va_up
      rw [if_neg (by omega)]
theorem QM_poke_bad {x i v : Int32} (h : isM W) (hR : mRows (S 13 0) rows) (hb : ∀ r, r < 8 → x = (Int32.ofNat r) → ¬ (0 ≤ v ∧ v ≤ 255 ∧ 0 ≤ i ∧ i < (Int32.ofNat (rows r).length))) : P_X13_poke G F (W.ad (.o 13 0)) x i v (mem W S) = some (-2, mem W S) := by
  obtain ⟨β, c1, c2⟩ := hR
  unfold P_X13_poke
  rw [Q13_isRow, bP_s]
  rcases isr_cases x with hx | ⟨r, hr, rfl, hx⟩
  · rw [hx]
    rfl
  · obtain ⟨c3, c4, c5⟩ := c2 r hr
    have hn := hb r hr rfl
    rw [hx, if_pos rfl, if_neg (by decide)]
    by_cases h3 : i < 0
    · rw [if_pos h3]
    rw [if_neg h3, h.gR 3 rfl (by decide), bO_s, h.aN rfl (show r < 8 from hr) (by decide), bO_s, c3]
    by_cases h4 : (Int32.ofNat (rows r).length) ≤ i
    · rw [if_pos h4]
    rw [if_neg h4]
    by_cases h1 : v < 0
    · rw [if_pos h1]
    rw [if_neg h1]
    by_cases h2 : v ≤ 255
    · exact absurd ⟨Int32.not_lt.mp h1, h2, Int32.not_lt.mp h3, Int32.not_le.mp h4⟩ hn
    · rw [if_neg h2]
end MPOKE
