/-! BYTES, ON: many puts, parts, comparing -/
section BYTES3
variable {W : WR} {S : ST} {G : mG} {F i room : Nat} {xs : List UInt8} {lost : Bool}
theorem Q0_putSame_l {x : Int32} {cnt : Nat} (hB : isB W i room) (hc : cnt < 2 ^ 31) : ∀ (m k n : Nat) (S : ST) (xs : List UInt8) (lost : Bool), m < n → k + m = cnt → Byt room (S 0 i) xs lost → ∃ o, B_X0_putSame_2 G F n (W.ad (.o 0 i)) x (Int32.ofNat cnt) (Int32.ofNat k) (mem W S) = some (mem W (S.so 0 i o)) ∧ Byt room o (tkl room xs (List.replicate m (lo8 x))) (lsl room xs (List.replicate m (lo8 x)) lost) := by
  intro m
  induction m with
  | zero =>
    intro k n S xs lost hn hk hb
    obtain ⟨n, rfl⟩ : ∃ q, n = q + 1 := ⟨n - 1, by omega⟩
    rw [B_X0_putSame_2, if_pos ((n_le (by omega) (by omega)).mpr (by omega))]
    refine ⟨S 0 i, by rw [so_self], ?_⟩
    rw [List.replicate_zero, tkl_nil hb.le, lsl_nil hb.le]
    exact hb
  | succ m ih =>
    intro k n S xs lost hn hk hb
    obtain ⟨n, rfl⟩ : ∃ q, n = q + 1 := ⟨n - 1, by omega⟩
    rw [B_X0_putSame_2, if_neg (by rw [n_le (by omega) (by omega)]; omega), rcv_m hB.lo, bO_s]
    obtain ⟨o, h1, h2⟩ := Q0_put1 (G := G) (F := F) (x := x) hB hb
    rw [h1, bO_s, o32, n_add]
    obtain ⟨o', h3, h4⟩ := ih (k + 1) n (S.so 0 i o) _ _ (by omega) (by omega) (by rw [so_eq]; exact h2)
    refine ⟨o', by rw [h3, so_so], ?_⟩
    rw [tkl_tkl, lsl_lsl] at h4
    exact h4
theorem Q0_putSame {x : Int32} {cnt : Nat} (X : Cx G F W) (hB : isB W i room) (hc : cnt < 100000) (hb : Byt room (S 0 i) xs lost) : ∃ o, P_X0_putSame G F (W.ad (.o 0 i)) x (Int32.ofNat cnt) (mem W S) = some (mem W (S.so 0 i o)) ∧ Byt room o (tkl room xs (List.replicate cnt (lo8 x))) (lsl room xs (List.replicate cnt (lo8 x)) lost) := by
  have := X.hF
  exact Q0_putSame_l hB (by omega) cnt 0 F S xs lost (by omega) (by omega) hb
/-- the four bytes of an int -/
def w4 (x : Int32) : List UInt8 := [lo8 (ushI x 24), lo8 (ushI x 16), lo8 (ushI x 8), lo8 x]
theorem Q0_putWord {x : Int32} (hB : isB W i room) (hb : Byt room (S 0 i) xs lost) : ∃ o, P_X0_putWord G F (W.ad (.o 0 i)) x (mem W S) = some (mem W (S.so 0 i o)) ∧ Byt room o (tkl room xs (w4 x)) (lsl room xs (w4 x) lost) := by
  obtain ⟨o1, h1, b1⟩ := Q0_put1 (G := G) (F := F) (x := ushI x 24) hB hb
  obtain ⟨o2, h2, b2⟩ := Q0_put1 (S := S.so 0 i o1) (G := G) (F := F) (x := ushI x 16) hB (by rw [so_eq]; exact b1)
  obtain ⟨o3, h3, b3⟩ := Q0_put1 (S := S.so 0 i o2) (G := G) (F := F) (x := ushI x 8) hB (by rw [so_eq]; exact b2)
  obtain ⟨o4, h4, b4⟩ := Q0_put1 (S := S.so 0 i o3) (G := G) (F := F) (x := x) hB (by rw [so_eq]; exact b3)
  rw [so_so] at h2 h3 h4
  refine ⟨o4, ?_, ?_⟩
  · simp only [P_X0_putWord, rcv_m hB.lo, bO_s, h1, h2, h3, h4]
  · rw [tkl_tkl, lsl_lsl, tkl_tkl, lsl_lsl, tkl_tkl, lsl_lsl] at b4
    exact b4
theorem Q0_putText_l {j : Nat} (X : Cx G F W) (hB : isB W i room) (hj : j < 124) : ∀ (m k n : Nat) (S : ST) (xs : List UInt8) (lost : Bool), m < n → k + m = (mbyt.getD j []).length → Byt room (S 0 i) xs lost → ∃ o, B_X0_putText_2 G F n (W.ad (.o 0 i)) (G.1 j) (Int32.ofNat k) (mem W S) = some (mem W (S.so 0 i o)) ∧ Byt room o (tkl room xs ((str j).drop k)) (lsl room xs ((str j).drop k) lost) := by
  have hl := mby_len j hj
  obtain ⟨-, v, -, h3, -⟩ := X.ro.1.1 j hj
  have e3 : rcs G (G.1 j) = some () := by simp [rcs, h3]
  have hsl : (str j).length = (mbyt.getD j []).length := by simp [str]
  intro m
  induction m with
  | zero =>
    intro k n S xs lost hn hk hb
    obtain ⟨n, rfl⟩ : ∃ q, n = q + 1 := ⟨n - 1, by omega⟩
    rw [B_X0_putText_2, e3, bO_s, QJ_length X hj, bP_s, if_pos ((n_le (by omega) (by omega)).mpr (by omega))]
    refine ⟨S 0 i, by rw [so_self], ?_⟩
    rw [List.drop_eq_nil_of_le (by omega), tkl_nil hb.le, lsl_nil hb.le]
    exact hb
  | succ m ih =>
    intro k n S xs lost hn hk hb
    obtain ⟨n, rfl⟩ : ∃ q, n = q + 1 := ⟨n - 1, by omega⟩
    rw [B_X0_putText_2, e3, bO_s, QJ_length X hj, bP_s, if_neg (by rw [n_le (by omega) (by omega)]; omega), bO_s, QJ_charAt X hj (by omega), bP_s, rcv_m hB.lo, bO_s]
    obtain ⟨o, h1, h2⟩ := Q0_put1 (G := G) (F := F) (x := (mbyt.getD j []).getD k 0) hB hb
    rw [h1, bO_s, o32, n_add]
    obtain ⟨o', h3, h4⟩ := ih (k + 1) n (S.so 0 i o) _ _ (by omega) (by omega) (by rw [so_eq]; exact h2)
    refine ⟨o', by rw [h3, so_so], ?_⟩
    rw [tkl_tkl, lsl_lsl] at h4
    have e : (str j).drop k = [lo8 ((mbyt.getD j []).getD k 0)] ++ (str j).drop (k + 1) := by
      rw [List.drop_eq_getElem_cons (by omega)]
      congr 1
      simp only [str, List.getElem_map]
      congr 1
      rw [List.getD_eq_getElem?_getD (l := mbyt.getD j []), List.getElem?_eq_getElem (by omega)]
      rfl
    rw [e]
    exact h4
theorem Q0_putText {j : Nat} (X : Cx G F W) (hB : isB W i room) (hj : j < 124) (hb : Byt room (S 0 i) xs lost) : ∃ o, P_X0_putText G F (W.ad (.o 0 i)) (G.1 j) (mem W S) = some (mem W (S.so 0 i o)) ∧ Byt room o (tkl room xs (str j)) (lsl room xs (str j) lost) := by
  have := X.hF
  have hl := mby_len j hj
  exact Q0_putText_l X hB hj _ 0 F S xs lost (by omega) (Nat.zero_add _) hb
theorem Q0_putPart {i2 room2 p n : Nat} {ys : List UInt8} {lost2 : Bool} (hB : isB W i room) (hb : Byt room (S 0 i) xs lost) (hB2 : isB W i2 room2) (hb2 : Byt room2 (S 0 i2) ys lost2) (hle : p + n ≤ ys.length) : ∃ o, P_X0_putPart G F (W.ad (.o 0 i)) (W.ad (.o 0 i2)) (Int32.ofNat p) (Int32.ofNat n) (mem W S) = some (mem W (S.so 0 i o)) ∧ Byt room o (tkl room xs ((ys.drop p).take n)) (lsl room xs ((ys.drop p).take n) lost) := by
  have h1 := hb.le
  have h2 := hB.hr
  have h3 := hb2.le
  have h4 := hB2.hr
  have e1 : (if (Int32.ofNat room) - (Int32.ofNat xs.length) < (Int32.ofNat n) then (Int32.ofNat room) - (Int32.ofNat xs.length) else (Int32.ofNat n)) = (Int32.ofNat (min (room - xs.length) n)) := by
    rw [n_sub h1, n_min (by omega) (by omega)]
  have hlen : ((ys.drop p).take n).length = n := by simp; omega
  have hlo : ((S 0 i).sA 0 (va_cpy ((S 0 i2).a 0) ((S 0 i).a 0) p xs.length (min (room - xs.length) n))).f 2 = if lost then 1 else 0 := hb.lost
  refine ⟨(((S 0 i).sA 0 (va_cpy ((S 0 i2).a 0) ((S 0 i).a 0) p xs.length (min (room - xs.length) n))).sf 1 (Int32.ofNat (xs.length + min (room - xs.length) n))).sf 2 (if lsl room xs ((ys.drop p).take n) lost then 1 else 0), ?_, ?_⟩
  · simp only [P_X0_putPart, if_neg (nn (show p < 2 ^ 31 by omega)), if_neg (nn (show n < 2 ^ 31 by omega)), hB2.gI 1 rfl, hb2.many, bO_s]
    rw [n_sub (show n ≤ ys.length by omega), if_pos ((n_le (by omega) (by omega)).mpr (by omega))]
    simp only [hB.gR, hB.ln, hB.gI 1 rfl, hb.many, hB2.gR, bO_s, e1]
    rw [cpI_g (srI_m hB2.la rfl) hB.la rfl (by omega) (by omega) (by omega) (by rw [hB2.n]; omega) (by rw [hB.n]; omega)]
    simp only [bO_s, hB.gI 1 rfl, so_eq]
    have e2 : ((S 0 i).sA 0 (va_cpy ((S 0 i2).a 0) ((S 0 i).a 0) p xs.length (min (room - xs.length) n))).f 1 + (Int32.ofNat (min (room - xs.length) n)) = (Int32.ofNat (xs.length + min (room - xs.length) n)) := by
      show (S 0 i).f 1 + _ = _
      rw [hb.many, n_add]
    rw [e2, pfI_m hB.lo rfl]
    simp only [bO_s, hB.gI 2 rfl, so_eq, so_so]
    have e3 : (((S 0 i).sA 0 (va_cpy ((S 0 i2).a 0) ((S 0 i).a 0) p xs.length (min (room - xs.length) n))).sf 1 (Int32.ofNat (xs.length + min (room - xs.length) n))).f 2 = if lost then 1 else 0 := by
      rw [← hb.lost]
      rfl
    rw [e3]
    cases lost with
    | true =>
      rw [if_neg (by decide), pfZ_m hB.lo rfl (Or.inr rfl), bO_s]
      simp [lsl, so_eq, so_so]
    | false =>
      rw [if_pos (by rfl)]
      by_cases hq : n ≤ min (room - xs.length) n
      · rw [if_pos ((n_le (by omega) (by omega)).mpr hq), pfZ_m hB.lo rfl (Or.inl rfl), bO_s, so_eq, so_so]
        have : ¬ room < xs.length + ((ys.drop p).take n).length := by omega
        simp only [lsl, decide_eq_false this, Bool.or_false]
        rfl
      · rw [if_neg (fun h => hq ((n_le (by omega) (by omega)).mp h)), pfZ_m hB.lo rfl (Or.inr rfl), bO_s, so_eq, so_so]
        have : room < xs.length + ((ys.drop p).take n).length := by omega
        simp only [lsl, decide_eq_true this, Bool.or_true]
        rfl
  · have hl2 : (tkl room xs ((ys.drop p).take n)).length = xs.length + min (room - xs.length) n := by
      simp only [tkl, List.length_take, List.length_append, hlen]
      omega
    refine ⟨by rw [hl2]; simp [sf_f], fun k y hy => ?_, by simp [sf_f], by rw [hl2]; omega⟩
    show va_cpy ((S 0 i2).a 0) ((S 0 i).a 0) p xs.length (min (room - xs.length) n) k = b32 y
    have hk : k < xs.length + min (room - xs.length) n := by
      have := (List.getElem?_eq_some_iff.mp hy).1
      rwa [hl2] at this
    unfold tkl at hy
    rw [List.getElem?_take, if_pos (by omega), List.getElem?_append] at hy
    unfold va_cpy
    by_cases hx : k < xs.length
    · rw [if_pos hx] at hy
      rw [if_neg (by omega)]
      exact hb.at_ k y hy
    · rw [if_neg hx, List.getElem?_take, if_pos (by omega), List.getElem?_drop] at hy
      rw [if_pos (by omega)]
      exact hb2.at_ _ y hy
end BYTES3
