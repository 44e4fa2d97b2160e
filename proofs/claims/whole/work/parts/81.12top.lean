/-! THE HOUSE'S OWN CALLS: poke, size, show; the model's: bytes -/
section TOP2
variable {W : WR} {S : ST} {G : mG} {F : Nat} {t : List UInt8} {l : Bool}
theorem isr_i {r : Nat} (hr : r < 8) : isr (Int32.ofNat r) = true := by
  have : ∀ r, r < 8 → isr (Int32.ofNat r) = true := by decide +kernel
  exact this r hr
theorem b32_xor (x : UInt8) {y : Nat} (hy : y < 256) : b32 x ^^^ (Int32.ofNat y) = b32 (x ^^^ UInt8.ofNat y) := by
  unfold b32
  rw [n_xor, UInt8.toNat_xor, UInt8.toNat_ofNat', Nat.mod_eq_of_lt hy]
/-- poke, where all is as it must be -/
theorem Q11_poke {r j y : Nat} (h : isT W) (hr : r < 8) (hb : Byt 8192 (S 0 r) t l) (hj : j < t.length) (hy : y < 256) : ∃ o, P_X11_poke G F (W.ad (.o 11 0)) (Int32.ofNat r) (Int32.ofNat j) (Int32.ofNat y) (mem W S) = some (b32 (t[j] ^^^ UInt8.ofNat y), mem W (S.so 0 r o)) ∧ Byt 8192 o (t.set j (t[j] ^^^ UInt8.ofNat y)) l := by
  have hle := hb.le
  have hR := h.rb r hr
  have e : t[j]? = some t[j] := List.getElem?_eq_getElem hj
  refine ⟨(S 0 r).sA 0 (upd ((S 0 r).a 0) j (b32 (t[j] ^^^ UInt8.ofNat y))), ?_, ?_⟩
  · unfold P_X11_poke
    rw [rcv_m h.lo, bO_s, Q11_isRow, bP_s, isr_i hr, if_pos rfl, if_neg (by decide), if_neg (nn (by omega)), if_neg (by rw [lit 255, n_lt (by omega) (by omega)]; omega), if_neg (nn (by omega))]
    simp only [h.gR (k := 0) rfl h.ra, h.row hr, bO_s, hR.gI 1 rfl, hb.many]
    rw [if_pos ((n_lt (by omega) (by omega)).mpr hj)]
    simp only [hR.gR, bO_s]
    rw [aI_m hR.la rfl (by decide) (by decide) (by rw [hR.n]; exact inB_n (by omega) (by omega)), bO_s, n_at (by omega), hb.at_ j _ e, b32_xor _ hy, sI_m hR.la rfl (by decide) (by decide) (by rw [hR.n]; exact inB_n (by omega) (by omega)), bO_s, n_at (by omega)]
    simp only [h.gR (k := 0) rfl h.ra, h.row hr, bO_s, hR.gR]
    rw [aI_m hR.la rfl (by decide) (by decide) (by rw [hR.n]; exact inB_n (by omega) (by omega)), bO_s, n_at (by omega), so_eq, sA_a]
    simp [upd]
  · refine ⟨by rw [List.length_set]; exact hb.many, fun k x hx => ?_, hb.lost, by rw [List.length_set]; exact hle⟩
    rw [sA_a, upd]
    rw [List.getElem?_set] at hx
    by_cases hk : j = k
    · subst hk
      rw [if_pos rfl, if_pos hj] at hx
      cases hx
      rw [if_pos rfl]
    · rw [if_neg hk] at hx
      rw [if_neg (fun q => hk q.symm)]
      exact hb.at_ k x hx
/-- poke, where something is not -/
theorem Q11_poke_bad {x i v : Int32} (h : isT W) (hb : ∀ r, r < 8 → x = (Int32.ofNat r) → ∃ t l, Byt 8192 (S 0 r) t l ∧ ¬ (0 ≤ v ∧ v ≤ 255 ∧ 0 ≤ i ∧ i < (Int32.ofNat t.length))) : P_X11_poke G F (W.ad (.o 11 0)) x i v (mem W S) = some (-2, mem W S) := by
  unfold P_X11_poke
  rw [rcv_m h.lo, bO_s, Q11_isRow, bP_s]
  rcases isr_cases x with hx | ⟨r, hr, rfl, hx⟩
  · rw [hx]
    rfl
  · obtain ⟨t, l, hb, hn⟩ := hb r hr rfl
    rw [hx, if_pos rfl, if_neg (by decide)]
    by_cases h1 : v < 0
    · rw [if_pos h1]
    rw [if_neg h1]
    by_cases h2 : (255 : Int32) < v
    · rw [if_pos h2]
    rw [if_neg h2]
    by_cases h3 : i < 0
    · rw [if_pos h3]
    rw [if_neg h3]
    simp only [h.gR (k := 0) rfl h.ra, h.row hr, bO_s, (h.rb r hr).gI 1 rfl, hb.many]
    rw [if_neg (fun q => hn ⟨Int32.not_lt.mp h1, Int32.not_lt.mp h2, Int32.not_lt.mp h3, q⟩)]
theorem Q11_size {x : Int32} (h : isT W) (hs : Byt 8192 (S 0 9) t l) {rows : Nat → List UInt8} (hb : ∀ r, r < 8 → ∃ l, Byt 8192 (S 0 r) (rows r) l) : P_X11_size G F (W.ad (.o 11 0)) x (mem W S) = some (if x = -1 then (Int32.ofNat t.length) else if isr x then (Int32.ofNat (rows x.toNatClampNeg).length) else -2, mem W S) := by
  unfold P_X11_size
  by_cases h1 : x = -1
  · rw [if_pos h1, if_pos h1, h.gR rfl h.shown, bO_s, h.sb.gI 1 rfl, bO_s, hs.many]
  · rw [if_neg h1, if_neg h1, rcv_m h.lo, bO_s, Q11_isRow, bP_s]
    rcases isr_cases x with hx | ⟨r, hr, rfl, hx⟩
    · rw [hx]
      rfl
    · obtain ⟨l, hb⟩ := hb r hr
      rw [hx, if_pos rfl, if_neg (by decide), if_pos rfl, h.gR rfl h.ra, bO_s, h.row hr, bO_s, (h.rb r hr).gI 1 rfl, bO_s, hb.many, n_at (by omega)]
/-- show: a part of some Bytes comes to OUT -/
theorem Q11_show {i room p n : Nat} {u : List UInt8} {l2 : Bool} (h : isT W) (hs : Byt 8192 (S 0 9) t l) (hB : isB W i room) (hb : Byt room (S 0 i) u l2) (hi : i ≠ 9) (hle : p + n ≤ u.length) (hn : n ≤ 8192) : ∃ o, P_X11_show G F (W.ad (.o 11 0)) (W.ad (.o 0 i)) (Int32.ofNat p) (Int32.ofNat n) (mem W S) = some ((Int32.ofNat n), mem W (S.so 0 9 o)) ∧ Byt 8192 o ((u.drop p).take n) false := by
  obtain ⟨o0, g0, b0⟩ := Q0_clear (G := G) (F := F) h.sb hs
  have e : (S.so 0 9 o0) 0 i = S 0 i := so_ne (fun q => hi q.2)
  obtain ⟨o, g, b⟩ := Q0_putPart (S := S.so 0 9 o0) (G := G) (F := F) h.sb (by rw [so_eq]; exact b0) hB (by rw [e]; exact hb) hle
  have hlen : ((u.drop p).take n).length = n := by simp; omega
  have hz : ([] : List UInt8).length + ((u.drop p).take n).length ≤ 8192 := by rw [List.length_nil, hlen]; omega
  rw [tkl_fit hz, lsl_fit hz, List.nil_append] at b
  refine ⟨o, ?_, b⟩
  simp only [P_X11_show, h.gR (k := 2) rfl h.shown, bO_s, rcv_m h.sb.lo, g0, g, so_so, h.sb.gI 1 rfl, so_eq]
  rw [b.many, hlen]
end TOP2
