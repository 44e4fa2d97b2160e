/-! THE HOUSE'S OWN CALLS: bytes -/
/-- the house stands: rows 0 .. 7, tape 8, shown 9, nothing 10, work 11, sealed 12, plain 13 -/
abbrev isT (W : WR) : Prop := (W.live (.o 11 0) = true) ∧ (W.r 11 0 0 = some (.a 11 0 0)) ∧ (W.live (.a 11 0 0) = true) ∧ (W.n (.a 11 0 0) = 8) ∧ (∀ r, r < 8 → W.e (.a 11 0 0) r = some (.o 0 r)) ∧ (∀ r, r < 8 → isB W r 8192) ∧ (W.r 11 0 1 = some (.o 0 8)) ∧ (isB W 8 8192) ∧ (W.r 11 0 2 = some (.o 0 9)) ∧ (isB W 9 8192) ∧ (W.r 11 0 3 = some (.o 0 10)) ∧ (isB W 10 0) ∧ (W.r 11 0 4 = some (.o 0 11)) ∧ (isB W 11 22528) ∧ (W.r 11 0 5 = some (.o 0 12)) ∧ (isB W 12 8192) ∧ (W.r 11 0 6 = some (.o 0 13)) ∧ (isB W 13 8192)
theorem isT.lo {W : WR} (h : isT W) : W.live (.o 11 0) = true := h.1
theorem isT.ra {W : WR} (h : isT W) : W.r 11 0 0 = some (.a 11 0 0) := h.2.1
theorem isT.rl {W : WR} (h : isT W) : W.live (.a 11 0 0) = true := h.2.2.1
theorem isT.rn {W : WR} (h : isT W) : W.n (.a 11 0 0) = 8 := h.2.2.2.1
theorem isT.re {W : WR} (h : isT W) : ∀ r, r < 8 → W.e (.a 11 0 0) r = some (.o 0 r) := h.2.2.2.2.1
theorem isT.rb {W : WR} (h : isT W) : ∀ r, r < 8 → isB W r 8192 := h.2.2.2.2.2.1
theorem isT.tape {W : WR} (h : isT W) : W.r 11 0 1 = some (.o 0 8) := h.2.2.2.2.2.2.1
theorem isT.tb {W : WR} (h : isT W) : isB W 8 8192 := h.2.2.2.2.2.2.2.1
theorem isT.shown {W : WR} (h : isT W) : W.r 11 0 2 = some (.o 0 9) := h.2.2.2.2.2.2.2.2.1
theorem isT.sb {W : WR} (h : isT W) : isB W 9 8192 := h.2.2.2.2.2.2.2.2.2.1
theorem isT.nothing {W : WR} (h : isT W) : W.r 11 0 3 = some (.o 0 10) := h.2.2.2.2.2.2.2.2.2.2.1
theorem isT.nb {W : WR} (h : isT W) : isB W 10 0 := h.2.2.2.2.2.2.2.2.2.2.2.1
theorem isT.work {W : WR} (h : isT W) : W.r 11 0 4 = some (.o 0 11) := h.2.2.2.2.2.2.2.2.2.2.2.2.1
theorem isT.wb {W : WR} (h : isT W) : isB W 11 22528 := h.2.2.2.2.2.2.2.2.2.2.2.2.2.1
theorem isT.sealed {W : WR} (h : isT W) : W.r 11 0 5 = some (.o 0 12) := h.2.2.2.2.2.2.2.2.2.2.2.2.2.2.1
theorem isT.eb {W : WR} (h : isT W) : isB W 12 8192 := h.2.2.2.2.2.2.2.2.2.2.2.2.2.2.2.1
theorem isT.plain {W : WR} (h : isT W) : W.r 11 0 6 = some (.o 0 13) := h.2.2.2.2.2.2.2.2.2.2.2.2.2.2.2.2.1
theorem isT.pb {W : WR} (h : isT W) : isB W 13 8192 := h.2.2.2.2.2.2.2.2.2.2.2.2.2.2.2.2.2
def isr (x : Int32) : Bool := decide (0 ≤ x ∧ x < 8)
theorem isr_cases (x : Int32) : (isr x = false) ∨ ∃ r, r < 8 ∧ x = (Int32.ofNat r) ∧ isr x = true := by
  rcases i_cases x with h | ⟨j, hj, rfl⟩
  · refine Or.inl (decide_eq_false (fun q => ?_))
    exact absurd h (Int32.not_lt.mpr q.1)
  · by_cases h8 : j < 8
    · refine Or.inr ⟨j, h8, rfl, decide_eq_true ⟨by rw [z32, n_le (by omega) hj]; omega, by rw [lit 8, n_lt hj (by omega)]; exact h8⟩⟩
    · refine Or.inl (decide_eq_false (fun q => h8 ?_))
      have := q.2
      rwa [lit 8, n_lt hj (by omega)] at this
section TOP
variable {W : WR} {S : ST} {G : mG} {F : Nat} {t : List UInt8} {l : Bool}
theorem Q11_isRow (x : Int32) (a : Nat) (M : mM) : P_X11_isRow G F a x M = some (if isr x then 1 else 0, M) := by
  unfold P_X11_isRow isr
  by_cases h1 : x < 0
  · rw [if_pos h1, decide_eq_false (fun q => absurd h1 (Int32.not_lt.mpr q.1))]
    rfl
  · rw [if_neg h1]
    by_cases h2 : (8 : Int32) ≤ x
    · rw [if_pos h2, decide_eq_false (fun q => absurd q.2 (Int32.not_lt.mpr h2))]
      rfl
    · rw [if_neg h2, decide_eq_true ⟨Int32.not_lt.mp h1, Int32.not_le.mp h2⟩]
      rfl
theorem Q13_isRow (x : Int32) (M : mM) : P_X13_isRow G F x M = some (if isr x then 1 else 0, M) := Q11_isRow (F := F) (G := G) x 0 M
theorem isT.gR (h : isT W) {k : Nat} {c : Cl} (q : (kdF 11)[k]? = some 2) (hr : W.r 11 0 k = some c) : gfR (mem W S) (W.ad (.o 11 0)) 11 k = some (W.ad c) := gfR_m h.lo q hr
theorem isT.row (h : isT W) {r : Nat} (hr : r < 8) : aR (mem W S) 4 (W.ad (.a 11 0 0)) (Int32.ofNat r) = some (W.ad (.o 0 r)) := by
  refine aR_m h.rl rfl (by decide) (by rw [h.rn]; exact inB_n hr (by omega)) ?_
  rw [n_at (by omega)]
  exact h.re r hr
def fed (a b c d e : Int32) : List UInt8 := w4 a ++ (w4 b ++ (w4 c ++ (w4 d ++ w4 e)))
theorem fed_len (a b c d e : Int32) : (fed a b c d e).length = 20 := rfl
theorem Q11_feed {a b c d e : Int32} (h : isT W) (hb : Byt 8192 (S 0 8) t l) : ∃ o, P_X11_feed G F (W.ad (.o 11 0)) a b c d e (mem W S) = some (if t.length + 20 ≤ 8192 then (Int32.ofNat (t.length + 20)) else -2, mem W (S.so 0 8 o)) ∧ Byt 8192 o (if t.length + 20 ≤ 8192 then t ++ fed a b c d e else t) l := by
  have hle := hb.le
  unfold P_X11_feed
  rw [h.gR rfl h.tape, bO_s, h.tb.gI 1 rfl, bO_s, hb.many]
  have e20 : (Int32.ofNat t.length) + 20 = (Int32.ofNat (t.length + 20)) := by rw [lit 20, n_add]
  rw [e20]
  by_cases hq : t.length + 20 ≤ 8192
  · rw [if_pos (by rw [lit 8192, n_le (by omega) (by omega)]; exact hq), if_pos hq, if_pos hq]
    obtain ⟨o1, g1, b1⟩ := Q0_putWord (G := G) (F := F) (x := a) h.tb hb
    obtain ⟨o2, g2, b2⟩ := Q0_putWord (S := S.so 0 8 o1) (G := G) (F := F) (x := b) h.tb (by rw [so_eq]; exact b1)
    obtain ⟨o3, g3, b3⟩ := Q0_putWord (S := S.so 0 8 o2) (G := G) (F := F) (x := c) h.tb (by rw [so_eq]; exact b2)
    obtain ⟨o4, g4, b4⟩ := Q0_putWord (S := S.so 0 8 o3) (G := G) (F := F) (x := d) h.tb (by rw [so_eq]; exact b3)
    obtain ⟨o5, g5, b5⟩ := Q0_putWord (S := S.so 0 8 o4) (G := G) (F := F) (x := e) h.tb (by rw [so_eq]; exact b4)
    rw [so_so] at g2 g3 g4 g5
    rw [tkl_tkl, lsl_lsl, tkl_tkl, lsl_lsl, tkl_tkl, lsl_lsl, tkl_tkl, lsl_lsl] at b5
    have hf : t.length + (w4 a ++ (w4 b ++ (w4 c ++ (w4 d ++ w4 e)))).length ≤ 8192 := hq
    rw [tkl_fit hf, lsl_fit hf] at b5
    refine ⟨o5, ?_, b5⟩
    simp only [h.gR (k := 1) rfl h.tape, bO_s, rcv_m h.tb.lo, g1, g2, g3, g4, g5, h.tb.gI 1 rfl, so_eq]
    rw [b5.many]
    simp only [List.length_append]
    rfl
  · rw [if_neg (by rw [lit 8192, n_le (by omega) (by omega)]; exact hq), if_neg hq, if_neg hq]
    exact ⟨S 0 8, by rw [so_self], hb⟩
theorem Q11_end {n : Int32} (h : isT W) (hb : Byt 8192 (S 0 8) t l) : ∃ o, P_X11_end G F (W.ad (.o 11 0)) n (mem W S) = some (if 0 ≤ n ∧ n ≤ (Int32.ofNat t.length) then n else -2, mem W (S.so 0 8 o)) ∧ Byt 8192 o (if 0 ≤ n ∧ n ≤ (Int32.ofNat t.length) then t.take n.toNatClampNeg else t) l := by
  have hle := hb.le
  unfold P_X11_end
  rcases i_cases n with hn | ⟨j, hj, rfl⟩
  · rw [if_pos hn, if_neg (fun q => absurd hn (Int32.not_lt.mpr q.1)), if_neg (fun q => absurd hn (Int32.not_lt.mpr q.1))]
    exact ⟨S 0 8, by rw [so_self], hb⟩
  · have h0 : (0 : Int32) ≤ (Int32.ofNat j) := Int32.not_lt.mp (nn hj)
    rw [if_neg (nn hj), h.gR rfl h.tape, bO_s, h.tb.gI 1 rfl, bO_s, hb.many]
    by_cases hq : (Int32.ofNat j) ≤ (Int32.ofNat t.length)
    · rw [if_pos hq, if_pos ⟨h0, hq⟩, if_pos ⟨h0, hq⟩, bO_s, rcv_m h.tb.lo, bO_s]
      obtain ⟨o, g, b⟩ := Q0_cutTo (G := G) (F := F) h.tb hb hj
      rw [g, bO_s, n_at hj]
      exact ⟨o, rfl, b⟩
    · rw [if_neg hq, if_neg (fun q => hq q.2), if_neg (fun q => hq q.2)]
      exact ⟨S 0 8, by rw [so_self], hb⟩
theorem Q11_row {r : Nat} {u : List UInt8} {l2 : Bool} (h : isT W) (hr : r < 8) (hb : Byt 8192 (S 0 8) t l) (hb2 : Byt 8192 (S 0 r) u l2) : ∃ o o', P_X11_row G F (W.ad (.o 11 0)) (Int32.ofNat r) (mem W S) = some ((Int32.ofNat t.length), mem W ((S.so 0 r o).so 0 8 o')) ∧ Byt 8192 o t false ∧ Byt 8192 o' [] false := by
  obtain ⟨o, g, b⟩ := Q0_become (G := G) (F := F) (h.rb r hr) hb2 h.tb hb (by omega)
  have e8 : (S.so 0 r o) 0 8 = S 0 8 := so_ne (by omega)
  obtain ⟨o', g', b'⟩ := Q0_clear (S := S.so 0 r o) (G := G) (F := F) h.tb (by rw [e8]; exact hb)
  have hz : ([] : List UInt8).length + t.length ≤ 8192 := by rw [List.length_nil, Nat.zero_add]; exact hb.le
  rw [tkl_fit hz, lsl_fit hz, List.nil_append] at b
  refine ⟨o, o', ?_, b, b'⟩
  have er : ((S.so 0 r o).so 0 8 o') 0 r = o := by rw [so_ne (by omega), so_eq]
  unfold P_X11_row
  have hi : isr (Int32.ofNat r) = true := by
    have : ∀ r, r < 8 → isr (Int32.ofNat r) = true := by decide +kernel
    exact this r hr
  rw [rcv_m h.lo, bO_s, Q11_isRow, bP_s, hi, if_pos rfl, if_neg (by decide)]
  simp only [h.gR (k := 0) rfl h.ra, h.gR (k := 1) rfl h.tape, h.row hr, bO_s, rcv_m (h.rb r hr).lo, rcv_m h.tb.lo, g, g', (h.rb r hr).gI 1 rfl, er]
  rw [b.many]
theorem Q11_noRow {x : Int32} (hx : isr x = false) (a : Nat) (M : mM) (ha : rcv M a 11 = some ()) : P_X11_row G F a x M = some (-2, M) ∧ P_X11_keep G F a x M = some (-2, M) := by
  unfold P_X11_row P_X11_keep
  rw [ha, bO_s, Q11_isRow, bP_s, hx]
  exact ⟨rfl, rfl⟩
theorem Q11_keep {r : Nat} {u : List UInt8} {l2 : Bool} (h : isT W) (hr : r < 8) (hb : Byt 8192 (S 0 9) t l) (hb2 : Byt 8192 (S 0 r) u l2) : ∃ o, P_X11_keep G F (W.ad (.o 11 0)) (Int32.ofNat r) (mem W S) = some ((Int32.ofNat t.length), mem W (S.so 0 r o)) ∧ Byt 8192 o t false := by
  obtain ⟨o, g, b⟩ := Q0_become (G := G) (F := F) (h.rb r hr) hb2 h.sb hb (by omega)
  have hz : ([] : List UInt8).length + t.length ≤ 8192 := by rw [List.length_nil, Nat.zero_add]; exact hb.le
  rw [tkl_fit hz, lsl_fit hz, List.nil_append] at b
  refine ⟨o, ?_, b⟩
  unfold P_X11_keep
  have hi : isr (Int32.ofNat r) = true := by
    have : ∀ r, r < 8 → isr (Int32.ofNat r) = true := by decide +kernel
    exact this r hr
  rw [rcv_m h.lo, bO_s, Q11_isRow, bP_s, hi, if_pos rfl, if_neg (by decide)]
  simp only [h.gR (k := 0) rfl h.ra, h.gR (k := 2) rfl h.shown, h.row hr, bO_s, rcv_m (h.rb r hr).lo, g, (h.rb r hr).gI 1 rfl, so_eq]
  rw [b.many]
theorem Q11_out {x : Int32} (h : isT W) (hb : Byt 8192 (S 0 9) t l) : P_X11_out G F (W.ad (.o 11 0)) x (mem W S) = some (if x < 0 then -1 else pB t x.toNatClampNeg, mem W S) := by
  unfold P_X11_out
  rw [h.gR rfl h.shown, bO_s, rcv_m h.sb.lo, bO_s]
  rcases i_cases x with hx | ⟨j, hj, rfl⟩
  · unfold P_X0_peek
    rw [if_pos hx, if_pos hx]
    rfl
  · rw [Q0_peek h.sb hb hj, bP_s, if_neg (nn hj), n_at hj]
end TOP
