/-! A KEY'S USE, ALG AND KID: the class -/
/-- a number of Bytes that is not taken -/
def frsh (W : WR) (ν : Nat) : Prop := W.live (.o 0 ν) = false ∧ (∀ k, W.live (.a 0 ν k) = false) ∧ (∀ k j, W.live (.b 0 ν k j) = false) ∧ ∀ k, W.r 0 ν k = none
/-- new cells and a new wire at one place, all else as it was -/
def WX (W W' : WR) (c i k : Nat) : Prop := (∀ x, W.live x = true → W'.live x = true ∧ W'.ad x = W.ad x ∧ W'.n x = W.n x) ∧ (∀ c' i' k', W.live (.o c' i') = true → ¬ (c' = c ∧ i' = i ∧ k' = k) → W'.r c' i' k' = W.r c' i' k') ∧ W'.e = W.e ∧ W'.lo = W.lo
theorem WX.refl (W : WR) (c i k : Nat) : WX W W c i k := ⟨fun _ h => ⟨h, rfl, rfl⟩, fun _ _ _ _ _ => rfl, rfl, rfl⟩
theorem WX.b {W W' : WR} {c i k ib rb : Nat} (h : WX W W' c i k) (hc : c ≠ 0) (H : isB W ib rb) : isB W' ib rb := by
  obtain ⟨a1, a2, a3, a4, a5⟩ := H
  obtain ⟨x1, x2, x3, x4⟩ := h
  exact ⟨(x1 _ a1).1, (x1 _ a2).1, by rw [x2 0 ib 0 a1 (by omega)]; exact a3, by rw [(x1 _ a2).2.2]; exact a4, a5⟩
theorem WX.t {W W' : WR} {c i k t ip : Nat} (h : WX W W' c i k) (hc : c ≠ 0) (h9 : c ≠ 9) (H : isTx W t ip) : isTx W' t ip := by
  obtain ⟨a1, a2, a3, a4⟩ := H
  refine ⟨(h.1 _ a1).1, by rw [h.2.1 9 t 10 a1 (by omega)]; exact a2, h.b hc a3, fun k' q1 q2 => ?_⟩
  obtain ⟨b1, b2, b3⟩ := a4 k' q1 q2
  exact ⟨(h.1 _ b1).1, by rw [h.2.1 9 t k' a1 (by omega)]; exact b2, by rw [(h.1 _ b1).2.2]; exact b3⟩
section KID
variable {W : WR} {G : mG} {F : Nat} {S : ST} {t ip j : Nat} {J : JT} {lp : Bool}
/-- a new row of bytes -/
theorem newB {ν room z sl : Nat} (hf : WF W z) (hv : frsh W ν) (hr : room ≤ 1000000) : ∃ W' o, (bO (some (nwO (mem W S) z 0 dfX0)) fun M46 => P_X0_init G F z (Int32.ofNat room) M46 (z + 1) (sl + 3)) = some (mem W' (S.so 0 ν o), z + 2, sl + 3 + room) ∧ WF W' (z + 2) ∧ W'.ad (.o 0 ν) = z ∧ isB W' ν room ∧ Byt room o [] false ∧ (∀ x, W.live x = true → W'.live x = true ∧ W'.ad x = W.ad x ∧ W'.n x = W.n x) ∧ (∀ c' i' k', W.live (.o c' i') = true → W'.r c' i' k' = W.r c' i' k') ∧ W'.e = W.e ∧ W'.lo = W.lo ∧ ∀ ν', ν' ≠ ν → frsh W ν' → frsh W' ν' := by
  obtain ⟨v1, v2, v3, v4⟩ := hv
  have hx2 : (W.nw (.o 0 ν) z 0 hf v1).live (.a 0 ν 0) = false := by
    rw [nw_live, if_neg (by simp)]
    exact v2 0
  have hf2 : WF (W.nw (.o 0 ν) z 0 hf v1) (z + 1) := WF.nw
  have e1 : nwO (mem W S) z 0 dfX0 = mem (W.nw (.o 0 ν) z 0 hf v1) (S.so 0 ν zOb) := nwO_m hf v1 v2 v3 v4
  have e2 := nwA_m (W := W.nw (.o 0 ν) z 0 hf v1) (S := S.so 0 ν zOb) (c := 0) (i := ν) (a := z + 1) (k := 0) (kk := 0) (n := room) hf2 hx2 rfl (by decide) (by decide) hr
  rw [so_so, so_eq] at e2
  obtain ⟨V, hV⟩ : ∃ V, V = (W.nw (.o 0 ν) z 0 hf v1).nw (.a 0 ν 0) (z + 1) room hf2 hx2 := ⟨_, rfl⟩
  rw [← hV] at e2
  have lo1 : V.live (.o 0 ν) = true := by
    rw [hV]
    exact nw_lv (if_pos rfl)
  have ad1 : V.ad (.o 0 ν) = z := by
    rw [hV, nw_o (by simp)]
    exact nw_x
  have ad2 : V.ad (.a 0 ν 0) = z + 1 := by rw [hV]; exact nw_x
  have e3 := pfR_m (W := V) (S := S.so 0 ν (zOb.sA 0 (fun _ => 0))) (c := 0) (i := ν) (k := 0) (t := .a 0 ν 0) lo1 rfl
  rw [ad1, ad2] at e3
  have lv : ∀ x, W.live x = true → V.live x = true ∧ V.ad x = W.ad x ∧ V.n x = W.n x := by
    intro x hx
    have l1 : (W.nw (.o 0 ν) z 0 hf v1).live x = true := nw_lv hx
    rw [hV]
    exact ⟨nw_lv l1, by rw [nw_adl l1, nw_adl hx], by rw [nw_nl l1, nw_nl hx]⟩
  refine ⟨V.sr 0 ν 0 (.a 0 ν 0), zOb.sA 0 (fun _ => 0), ?_, ?_, ad1, ⟨lo1, ?_, sr_eq _ _ _ _ _, ?_, by omega⟩, ⟨rfl, fun j x h => absurd h (by simp), rfl, Nat.zero_le _⟩, lv, fun c' i' k' h => ?_, ?_, ?_, fun ν' hn h => ?_⟩
  · rw [bO_s, e1]
    unfold P_X0_init
    rw [if_neg (show ¬ (Int32.ofNat room) < (0 : Int32) from nn (by omega)), e2, bO_s, e3, bO_s, n_at (by omega)]
  · have w2 : WF V (z + 2) := by rw [hV]; exact WF.nw
    obtain ⟨w1, w2, w3, w4⟩ := w2
    refine ⟨fun c i k t' h => ?_, w2, w3, w4⟩
    rw [sr_r] at h
    split at h
    · rw [← Option.some.inj h]
      show V.live (.a 0 ν 0) = true
      rw [hV]
      exact if_pos rfl
    · exact w1 c i k t' h
  · show V.live (.a 0 ν 0) = true
    rw [hV]
    exact if_pos rfl
  · show V.n (.a 0 ν 0) = room
    rw [hV]
    exact if_pos rfl
  · have hn : ¬ (c' = 0 ∧ i' = ν ∧ k' = 0) := fun q => by
      have h : W.live (.o c' i') = true := h
      rw [q.1, q.2.1, v1] at h
      exact absurd h (by decide)
    rw [sr_ne hn, hV]
    rfl
  · rw [hV]; rfl
  · rw [hV]; rfl
  · obtain ⟨u1, u2, u3, u4⟩ := h
    have ne : ∀ x, x ≠ .o 0 ν → x ≠ .a 0 ν 0 → V.live x = W.live x := by
      intro x h1 h2
      rw [hV, nw_live, if_neg h2, nw_live, if_neg h1]
    refine ⟨?_, fun k => ?_, fun k j => ?_, fun k => ?_⟩
    · show V.live (.o 0 ν') = false
      rw [ne _ (by simp [hn]) (by simp)]; exact u1
    · show V.live (.a 0 ν' k) = false
      rw [ne _ (by simp) (by simp [hn])]; exact u2 k
    · show V.live (.b 0 ν' k j) = false
      rw [ne _ (by simp) (by simp)]; exact u3 k j
    · rw [sr_ne (fun q => hn q.2.1), hV]
      exact u4 k
/-- rooms are 64 doubled -/
def rmK (rk : Nat) : Prop := ∃ m, m ≤ 7 ∧ rk = 64 * 2 ^ m
theorem Q5_room_l {κ rk many z sl : Nat} (H : W.live (.o 5 j) = true) (h9 : W.r 5 j 9 = some (.o 0 κ)) (hB : isB W κ rk) (hmany : many ≤ 8192) : ∀ (d r m fuel : Nat), d < fuel → r = 64 * 2 ^ m → m + d = 7 → rk ≤ r → ∃ r', r ≤ r' ∧ many ≤ r' ∧ rmK r' ∧ (r' = r ∨ 2 * r ≤ r') ∧ B_X5_makeKidRoom_14 G F fuel (W.ad (.o 5 j)) (Int32.ofNat many) (Int32.ofNat r) (mem W S) z sl = B_X5_makeKidRoom_42 G F (W.ad (.o 5 j)) (Int32.ofNat r') (Int32.ofNat r') (Int32.ofNat rk) (mem W S) z sl := by
  have e9 : gfR (mem W S) (W.ad (.o 5 j)) 5 9 = some (W.ad (.o 0 κ)) := gfR_m H rfl h9
  have hrk := hB.hr
  have stop : ∀ (fuel r m : Nat), 0 < fuel → r = 64 * 2 ^ m → m ≤ 7 → rk ≤ r → (many ≤ r ∨ 8192 ≤ r) → B_X5_makeKidRoom_14 G F fuel (W.ad (.o 5 j)) (Int32.ofNat many) (Int32.ofNat r) (mem W S) z sl = B_X5_makeKidRoom_42 G F (W.ad (.o 5 j)) (Int32.ofNat r) (Int32.ofNat r) (Int32.ofNat rk) (mem W S) z sl := by
    intro fuel r m hf hr hm hle hs
    obtain ⟨fuel, rfl⟩ : ∃ q, fuel = q + 1 := ⟨fuel - 1, by omega⟩
    have hp : (2 : Nat) ^ m ≤ 2 ^ 7 := Nat.pow_le_pow_right (by decide) hm
    rw [B_X5_makeKidRoom_14]
    unfold B_X5_makeKidRoom_16
    by_cases h1 : many ≤ r
    · rw [if_pos ((n_le (by omega) (by omega)).mpr h1), e9, bO_s, hB.gR, bO_s, hB.ln, bO_s]
    · rw [if_neg (fun q => h1 ((n_le (by omega) (by omega)).mp q))]
      unfold B_X5_makeKidRoom_23
      rw [if_pos (show (8192 : Int32) ≤ (Int32.ofNat r) from (n_le (a := 8192) (by omega) (by omega)).mpr (by omega)), e9, bO_s, hB.gR, bO_s, hB.ln, bO_s]
  intro d
  induction d with
  | zero =>
    intro r m fuel hf hr hm hle
    have em : m = 7 := by omega
    have er : r = 8192 := by rw [hr, em]
    exact ⟨r, Nat.le_refl _, by omega, ⟨m, by omega, hr⟩, Or.inl rfl, stop fuel r m (by omega) hr (by omega) hle (Or.inr (by omega))⟩
  | succ d ih =>
    intro r m fuel hf hr hm hle
    have hp : (2 : Nat) ^ m ≤ 2 ^ 7 := Nat.pow_le_pow_right (by decide) (by omega)
    by_cases hs : many ≤ r ∨ 8192 ≤ r
    · have hmr : many ≤ r := by omega
      exact ⟨r, Nat.le_refl _, hmr, ⟨m, by omega, hr⟩, Or.inl rfl, stop fuel r m (by omega) hr (by omega) hle hs⟩
    · obtain ⟨fuel, rfl⟩ : ∃ q, fuel = q + 1 := ⟨fuel - 1, by omega⟩
      have h2 : r * 2 = 64 * 2 ^ (m + 1) := by rw [hr, Nat.pow_succ]; omega
      obtain ⟨r', a1, a2, a3, a4, a5⟩ := ih (r * 2) (m + 1) fuel (by omega) h2 (by omega) (by omega)
      refine ⟨r', by omega, a2, a3, Or.inr (by omega), ?_⟩
      rw [B_X5_makeKidRoom_14]
      unfold B_X5_makeKidRoom_16 B_X5_makeKidRoom_23
      rw [if_neg (fun q => absurd ((n_le (by omega) (by omega)).mp q) (by omega)), if_neg (show ¬ (8192 : Int32) ≤ (Int32.ofNat r) from fun q => absurd ((n_le (a := 8192) (by omega) (by omega)).mp q) (by omega)), show (Int32.ofNat r) * (2 : Int32) = (Int32.ofNat (r * 2)) from n_mul r 2]
      exact a5
theorem Q5_kidRoom {κ rk many ν z sl : Nat} (X : Cx G F W) (H : W.live (.o 5 j) = true) (h9 : W.r 5 j 9 = some (.o 0 κ)) (hB : isB W κ rk) (hrk : rmK rk) (hb : Byt rk (S 0 κ) [] false) (hmany : many ≤ 8192) (hf : WF W z) (hv : frsh W ν) : ∃ W' o κ' rk' z' sl', P_X5_makeKidRoom G F (W.ad (.o 5 j)) (Int32.ofNat many) (mem W S) z sl = some (mem W' (S.so 0 κ' o), z', sl') ∧ WX W W' 5 j 9 ∧ WF W' z' ∧ W'.r 5 j 9 = some (.o 0 κ') ∧ isB W' κ' rk' ∧ rmK rk' ∧ Byt rk' o [] false ∧ many ≤ rk' ∧ ((κ' = κ ∧ rk' = rk ∧ z' = z ∧ sl' = sl ∧ W' = W) ∨ (κ' = ν ∧ 2 * rk ≤ rk' ∧ z' = z + 2 ∧ sl' = sl + 3 + rk')) ∧ ∀ ν', ν' ≠ ν → frsh W ν' → frsh W' ν' := by
  have hF := X.hF
  obtain ⟨m, hm, hrk'⟩ := id hrk
  have hp : (2 : Nat) ^ m ≤ 2 ^ 7 := Nat.pow_le_pow_right (by decide) hm
  have hp1 : 1 ≤ (2 : Nat) ^ m := Nat.one_le_two_pow
  have e9 : gfR (mem W S) (W.ad (.o 5 j)) 5 9 = some (W.ad (.o 0 κ)) := gfR_m H rfl h9
  obtain ⟨r', a1, a2, a3, a4, a5⟩ := Q5_room_l (G := G) (F := F) (S := S) (κ := κ) (z := z) (sl := sl) H h9 hB hmany (7 - m) rk m F (by omega) hrk' (by omega) (Nat.le_refl _)
  have hr8 : r' ≤ 8192 := by
    obtain ⟨m2, h1, h2⟩ := a3
    have : (2 : Nat) ^ m2 ≤ 2 ^ 7 := Nat.pow_le_pow_right (by decide) h1
    omega
  unfold P_X5_makeKidRoom
  rw [e9, bO_s, hB.gR, bO_s, hB.ln, bO_s, if_neg (show ¬ (Int32.ofNat rk) < (64 : Int32) from fun q => absurd ((n_lt (b := 64) (by omega) (by omega)).mp q) (by omega)), a5]
  unfold B_X5_makeKidRoom_42
  by_cases c : r' ≤ rk
  · have er : r' = rk := by omega
    rw [if_pos ((n_le (by omega) (by omega)).mpr c)]
    exact ⟨W, S 0 κ, κ, rk, z, sl, by rw [so_self], WX.refl _ _ _ _, hf, h9, hB, hrk, hb, by omega, Or.inl ⟨rfl, rfl, rfl, rfl, rfl⟩, fun _ _ h => h⟩
  · obtain ⟨W', o, g, w1, w2, w3, w4, w5, w6, w7, w8, w9⟩ := newB (G := G) (F := F) (S := S) (ν := ν) (room := r') (z := z) (sl := sl) hf hv (by omega)
    have l5 : W'.live (.o 5 j) = true := (w5 _ H).1
    have p := pfR_m (W := W') (S := S.so 0 ν o) (c := 5) (i := j) (k := 9) (t := .o 0 ν) l5 rfl
    rw [w2, (w5 _ H).2.1] at p
    have g' : bA (P_X0_init G F z (Int32.ofNat r') (nwO (mem W S) z 0 dfX0) (z + 1) (sl + 3)) (fun M51 z51 k51 => bO (pfv M51 (W.ad (.o 5 j)) 5 9 (.ref z)) fun M54 => some (M54, z51, k51)) = some (mem (W'.sr 5 j 9 (.o 0 ν)) (S.so 0 ν o), z + 2, sl + 3 + r') := by
      rw [bO_s] at g
      rw [g]
      show bO (pfv (mem W' (S.so 0 ν o)) (W.ad (.o 5 j)) 5 9 (.ref z)) _ = _
      rw [p, bO_s]
    rw [if_neg (fun q => c ((n_le (by omega) (by omega)).mp q)), bO_s, g']
    refine ⟨W'.sr 5 j 9 (.o 0 ν), o, ν, r', z + 2, sl + 3 + r', rfl, ⟨w5, fun c' i' k' h hn => ?_, w7, w8⟩, ?_, sr_eq _ _ _ _ _, w3.sr (by decide), a3, w4, a2, Or.inr ⟨rfl, by omega, rfl, rfl⟩, fun ν' hn h => ?_⟩
    · rw [sr_ne hn]
      exact w6 c' i' k' h
    · obtain ⟨u1, u2, u3, u4⟩ := w1
      refine ⟨fun c i k t' h => ?_, u2, u3, u4⟩
      rw [sr_r] at h
      split at h
      · rw [← Option.some.inj h]
        exact w3.lo
      · exact u1 c i k t' h
    · obtain ⟨f1, f2, f3, f4⟩ := w9 ν' hn h
      exact ⟨f1, f2, f3, fun k => by rw [sr_ne (by omega)]; exact f4 k⟩
end KID
