/-! RSA: the class's maskFrame -/
theorem div32_t : ∀ c, c < 5 → ((Int32.ofNat (32 * c)) / (32 : Int32)) = (Int32.ofNat c) := by decide
section MASKC
variable {W : WR} {G : mG} {F : Nat} {S : ST}
theorem isRs.g0 (h : isRs W) (S : ST) : gfR (mem W S) (W.ad (.o 8 0)) 8 0 = some (W.ad (.o 4 0)) := gfR_m h.1 rfl h.2.1
theorem isRs.g5 (h : isRs W) (S : ST) : gfR (mem W S) (W.ad (.o 8 0)) 8 5 = some (W.ad (.o 0 71)) := gfR_m h.1 rfl h.2.2.2.2.2.2.2.1
theorem isRs.b5 {W : WR} (h : isRs W) : isB W 71 32 := h.2.2.2.2.2.2.2.2.2.2.1
theorem Q8_mask68 {r3 : Nat → Int32 → Int32 → Int32 → Int32 → Int32 → mM → Option mM} {a many c : Nat} {s1 s2 : Int32} {xs seed : List UInt8} (h : isRs W) (hx : a + many ≤ xs.length) (hl : xs.length ≤ 128) (hc : 32 * c < many) : ∀ (q j fuel : Nat) (S : ST), q < fuel → j + q = min 32 (many - 32 * c) → Byt 128 (S 0 69) (mskL xs seed a (32 * c + j)) false → Byt 32 (S 0 71) (sha false (seed ++ w4 (Int32.ofNat c))) false → ∃ S', B_X8_maskFrame_68 G F r3 fuel (W.ad (.o 8 0)) s1 s2 (Int32.ofNat a) (Int32.ofNat many) (Int32.ofNat (32 * c)) (Int32.ofNat j) (mem W S) = r3 (W.ad (.o 8 0)) s1 s2 (Int32.ofNat a) (Int32.ofNat many) (Int32.ofNat (32 * (c + 1))) (mem W S') ∧ fr [(0, 69)] S S' ∧ Byt 128 (S' 0 69) (mskL xs seed a (min (32 * (c + 1)) many)) false := by
  intro q
  induction q with
  | zero =>
    intro j fuel S hf hj b69 b71
    obtain ⟨f, rfl⟩ : ∃ f, fuel = f + 1 := ⟨fuel - 1, by omega⟩
    have e : (Int32.ofNat (32 * c)) + 32 = (Int32.ofNat (32 * (c + 1))) := by rw [n_addL (32 * c) 32, show 32 * c + 32 = 32 * (c + 1) by omega]
    rw [show 32 * c + j = min (32 * (c + 1)) many by omega] at b69
    refine ⟨S, ?_, fr.refl _ _, b69⟩
    rw [B_X8_maskFrame_68, e]
    by_cases c1 : 32 ≤ j
    · rw [if_pos (by rw [lit 32, n_le (by omega) (by omega)]; exact c1)]
    · rw [if_neg (fun o => by rw [lit 32, n_le (by omega) (by omega)] at o; omega), if_pos (by rw [n_add, n_le (by omega) (by omega)]; omega)]
  | succ q ih =>
    intro j fuel S hf hj b69 b71
    obtain ⟨f, rfl⟩ : ∃ f, fuel = f + 1 := ⟨fuel - 1, by omega⟩
    have g1 : P_X0_get G F (W.ad (.o 0 69)) (Int32.ofNat (a + 32 * c + j)) (mem W S) = some (b32 (xs.getD (a + (32 * c + j)) 0), mem W S) := by
      rw [Q0_get h.b3 b69 (by omega), show a + 32 * c + j = a + (32 * c + j) by omega]
      unfold gB
      rw [mskL_at (by omega), if_neg (by omega)]
    have g2 : P_X0_get G F (W.ad (.o 0 71)) (Int32.ofNat j) (mem W S) = some (b32 (mkB seed (32 * c + j)), mem W S) := by
      rw [Q0_get h.b5 b71 (by omega)]
      unfold gB mkB
      rw [show (32 * c + j) / 32 = c by omega, show (32 * c + j) % 32 = j by omega, List.getD_eq_getElem?_getD, List.getElem?_eq_getElem (by rw [sha_len]; show j < 32; omega)]
      rfl
    obtain ⟨o, g3, b3⟩ := Q0_set (G := G) (F := F) (S := S) (j := a + 32 * c + j) (v := b32 (xs.getD (a + (32 * c + j)) 0) ^^^ b32 (mkB seed (32 * c + j))) h.b3 b69 (by omega)
    rw [b32_x, b32_lo, show a + 32 * c + j = a + (32 * c + j) by omega, mskL_s (by omega)] at b3
    obtain ⟨S', g, f', b⟩ := ih (j + 1) f (S.so 0 69 o) (by omega) (by omega) (by rw [so_eq]; exact b3) (by rw [so_ne (by omega)]; exact b71)
    refine ⟨S', ?_, (fr_so (by simp)).trans f', b⟩
    rw [B_X8_maskFrame_68, if_neg (fun o => by rw [lit 32, n_le (by omega) (by omega)] at o; omega), if_neg (fun o => by rw [n_add, n_le (by omega) (by omega)] at o; omega), h.g3, bO_s, bO_s, rcv_m h.b3.1, bO_s, n_add, n_add, g1, bP_s, h.g5, bO_s, rcv_m h.b5.1, bO_s, g2, bP_s, rcv_m h.b3.1, bO_s, g3, bO_s, n_addL j 1]
    exact g
theorem Q8_mask3 {a many sd sn : Nat} {xs : List UInt8} (X : Cx G F W) (h : isRs W) (hd : isD W) (hx : a + many ≤ xs.length) (hsx : sd + sn ≤ xs.length) (hl : xs.length ≤ 128) (dj : sd + sn ≤ a ∨ a + many ≤ sd) : ∀ (q c fuel : Nat) (S : ST), q < fuel → c + q = (many + 31) / 32 → Byt 128 (S 0 69) (mskL xs (seg xs sd sn) a (min (32 * c) many)) false → (∃ y l, Byt 32 (S 0 71) y l) → ∃ S', B_X8_maskFrame_3 G F fuel (W.ad (.o 8 0)) (Int32.ofNat sd) (Int32.ofNat sn) (Int32.ofNat a) (Int32.ofNat many) (Int32.ofNat (32 * c)) (mem W S) = some (mem W S') ∧ fr [(4, 0), (0, 69), (0, 71)] S S' ∧ Byt 128 (S' 0 69) (mskL xs (seg xs sd sn) a many) false ∧ agD (S 4 0) (S' 4 0) ∧ ∃ y l, Byt 32 (S' 0 71) y l := by
  have hF := X.hF
  intro q
  induction q with
  | zero =>
    intro c fuel S hf hq b69 b71
    obtain ⟨f, rfl⟩ : ∃ f, fuel = f + 1 := ⟨fuel - 1, by omega⟩
    rw [show min (32 * c) many = many by omega] at b69
    refine ⟨S, ?_, fr.refl _ _, b69, agr.refl _ _ _ _ _, b71⟩
    rw [B_X8_maskFrame_3, if_pos (by rw [n_le (by omega) (by omega)]; omega)]
  | succ q ih =>
    intro c fuel S hf hq b69 b71
    obtain ⟨y, ly, b71⟩ := b71
    obtain ⟨f, rfl⟩ : ∃ f, fuel = f + 1 := ⟨fuel - 1, by omega⟩
    have hc : 32 * c < many := by omega
    obtain ⟨o1, g1, d1, a1⟩ := Q4_start (G := G) (F := F) (S := S) (wide := false) X hd
    have g1' : P_X4_start G F (W.ad (.o 4 0)) 256 (mem W S) = some (mem W (S.so 4 0 o1)) := g1
    obtain ⟨o2, g2, d2, a2⟩ := Q4_add (G := G) (F := F) (S := S.so 4 0 o1) (xs := mskL xs (seg xs sd sn) a (min (32 * c) many)) (k := sd) (stop := sd + sn) X hd h.b3 (by omega) (by rw [mskL_len]; exact hsx) (by omega) (by rw [so_ne (by omega)]; exact b69) (by rw [so_eq]; exact d1) (by decide)
    rw [so_so] at g2
    rw [so_eq] at a2
    rw [List.nil_append, show sd + sn - sd = sn by omega] at d2
    have es : ((mskL xs (seg xs sd sn) a (min (32 * c) many)).drop sd).take sn = seg xs sd sn := mskL_sd hsx (by omega) _
    rw [es] at d2
    have sl : (seg xs sd sn).length = sn := seg_len hsx
    obtain ⟨o3, g3, d3, a3⟩ := Q4_addWord' (G := G) (F := F) (S := S) (x := (Int32.ofNat c)) X hd d2 (by omega)
    obtain ⟨o4, g4, b4⟩ := Q0_clear (G := G) (F := F) (S := S.so 4 0 o3) h.b5 (by rw [so_ne (by omega)]; exact b71)
    obtain ⟨S5, g5, f5, d5, a5, b5⟩ := Q4_finish (G := G) (F := F) (S := (S.so 4 0 o3).so 0 71 o4) X hd h.b5 (by rw [so_ne (by omega), so_eq]; exact d3) (by rw [List.length_append, sl]; show sn + 4 < _; omega) (by rw [so_eq]; exact b4)
    rw [so_ne (by omega), so_eq] at a5
    rw [tkl_fit (by rw [sha_len]; decide), List.nil_append, show lsl 32 [] (sha false (seg xs sd sn ++ w4 (Int32.ofNat c))) false = false by unfold lsl; rw [Bool.false_or, decide_eq_false (by rw [sha_len]; decide)]] at b5
    have b69_5 : Byt 128 (S5 0 69) (mskL xs (seg xs sd sn) a (32 * c + 0)) false := by
      rw [f5 0 69 (by simp), so_ne (by omega), so_ne (by omega), show 32 * c + 0 = min (32 * c) many by omega]
      exact b69
    obtain ⟨S6, g6, f6, b6⟩ := Q8_mask68 (G := G) (F := F) (r3 := B_X8_maskFrame_3 G F f) (s1 := (Int32.ofNat sd)) (s2 := (Int32.ofNat sn)) (a := a) (many := many) (c := c) h hx hl hc (min 32 (many - 32 * c)) 0 F S5 (by omega) (by omega) b69_5 b5
    have g6' : B_X8_maskFrame_68 G F (B_X8_maskFrame_3 G F f) F (W.ad (.o 8 0)) (Int32.ofNat sd) (Int32.ofNat sn) (Int32.ofNat a) (Int32.ofNat many) (Int32.ofNat (32 * c)) 0 (mem W S5) = _ := g6
    obtain ⟨S7, g7, f7, b7, a7, r7⟩ := ih (c + 1) f S6 (by omega) (by omega) b6 ⟨_, _, by rw [f6 0 71 (by simp)]; exact b5⟩
    have e40 : S6 4 0 = S5 4 0 := f6 4 0 (by simp)
    rw [e40] at a7
    have f05 : fr [(4, 0), (0, 69), (0, 71)] S S5 := ((fr_so (S := S) (c := 4) (i := 0) (o := o3) (by simp)).trans (fr_so (by simp))).trans (f5.mono (by simp))
    refine ⟨S7, ?_, (f05.trans (f6.mono (by simp))).trans f7, b7, (((a1.trans a2).trans a3).trans a5).trans a7, r7⟩
    rw [B_X8_maskFrame_3, if_neg (fun o => by rw [n_le (by omega) (by omega)] at o; omega), h.g0, bO_s, rcv_m hd.1, bO_s, g1', bO_s, h.g0, bO_s, h.g3, bO_s, rcv_m hd.1, bO_s, n_add, g2, bO_s, h.g0, bO_s, rcv_m hd.1, bO_s, div32_t c (by omega), g3, bO_s, h.g5, bO_s, rcv_m h.b5.1, bO_s, g4, bO_s, h.g0, bO_s, h.g5, bO_s, rcv_m hd.1, bO_s, g5, bO_s, g6']
    exact g7
theorem Q8_maskFrame {a many sd sn : Nat} {xs y : List UInt8} {l : Bool} (X : Cx G F W) (h : isRs W) (hd : isD W) (hx : a + many ≤ xs.length) (hsx : sd + sn ≤ xs.length) (hl : xs.length ≤ 128) (dj : sd + sn ≤ a ∨ a + many ≤ sd) (b69 : Byt 128 (S 0 69) xs false) (b71 : Byt 32 (S 0 71) y l) : ∃ S', P_X8_maskFrame G F (W.ad (.o 8 0)) (Int32.ofNat sd) (Int32.ofNat sn) (Int32.ofNat a) (Int32.ofNat many) (mem W S) = some (mem W S') ∧ fr [(4, 0), (0, 69), (0, 71)] S S' ∧ Byt 128 (S' 0 69) (mskL xs (seg xs sd sn) a many) false ∧ agD (S 4 0) (S' 4 0) ∧ ∃ y l, Byt 32 (S' 0 71) y l := by
  have hF := X.hF
  have := Q8_mask3 (G := G) (F := F) X h hd hx hsx hl dj ((many + 31) / 32) 0 F S (by omega) (by omega) (by rw [show min (32 * 0) many = 0 by omega, mskL_0]; exact b69) ⟨y, l, b71⟩
  unfold P_X8_maskFrame
  exact this
end MASKC
