/-! WORDS OF A ROW SAID: the model -/
section MWD
variable {W : WR} {G : mG} {F : Nat} {S : ST}
theorem ch_dr {j i : Nat} {c : UInt8} {rest : List UInt8} (X : Cx G F W) (hj : j < 124) (h : (str j).drop i = c :: rest) : P_J0_charAt_5068e G F (G.1 j) (Int32.ofNat i) (mem W S) = some (b32 c, mem W S) ∧ i < (str j).length := by
  have il : i < (str j).length := by
    by_cases q : i < (str j).length
    · exact q
    · rw [List.drop_eq_nil_of_le (by omega)] at h
      exact absurd h (by simp)
  rw [List.drop_eq_getElem_cons il] at h
  have hc := (List.cons.inj h).1
  refine ⟨?_, il⟩
  rw [QJ_charAt X hj (by rw [← str_len]; exact il), (chr hj il).1, hc]
theorem drop_s {xs : List UInt8} {i : Nat} {c : UInt8} {rest : List UInt8} (h : xs.drop i = c :: rest) : xs.drop (i + 1) = rest := by
  rw [← List.drop_drop, h]
  rfl
theorem sp_32 {c : UInt8} : (b32 c = (32 : Int32)) = (c = 32) := b32_eq rfl
theorem QM_begins9 {j : Nat} {r4 : Nat → Int32 → Int32 → Int32 → mM → Option (Int32 × mM)} {l1 l3 : Int32} (X : Cx G F W) (hj : j < 124) : ∀ (w : List UInt8) (i fuel : Nat) (rest : List UInt8), w.length < fuel → (str j).drop i = w ++ (32 :: rest) → (∀ x ∈ w, x ≠ 32) → B_X13_begins_9 G F r4 fuel (G.1 j) l1 (Int32.ofNat i) l3 (mem W S) = r4 (G.1 j) l1 (Int32.ofNat (i + w.length + 1)) (l3 + 1) (mem W S) := by
  intro w
  induction w with
  | nil =>
    intro i fuel rest hf h hx
    obtain ⟨fuel, rfl⟩ : ∃ q, fuel = q + 1 := ⟨fuel - 1, by omega⟩
    obtain ⟨g, il⟩ := ch_dr (G := G) (F := F) (S := S) X hj h
    rw [B_X13_begins_9, srcs X hj, bO_s, g, bP_s, if_pos (show b32 32 = (32 : Int32) from rfl), n_i1]
    rfl
  | cons c w ih =>
    intro i fuel rest hf h hx
    obtain ⟨fuel, rfl⟩ : ∃ q, fuel = q + 1 := ⟨fuel - 1, by omega⟩
    obtain ⟨g, il⟩ := ch_dr (G := G) (F := F) (S := S) X hj h
    have l1 : (c :: w).length = w.length + 1 := rfl
    rw [B_X13_begins_9, srcs X hj, bO_s, g, bP_s]
    simp only [sp_32]
    rw [if_neg (hx c (by simp)), n_i1, ih (i + 1) fuel rest (by omega) (drop_s h) (fun x hx' => hx x (by simp [hx'])), l1, show i + 1 + w.length + 1 = i + (w.length + 1) + 1 by omega]
theorem QM_begins4 {j k : Nat} (X : Cx G F W) (hj : j < 124) : ∀ (m n i fuel : Nat) (ws : List (List UInt8)), m < fuel → n + m = k → m ≤ ws.length → k < 100 → i < 2 ^ 20 → (str j).drop i = rwW ws → (∀ w ∈ ws, ∀ x ∈ w, x ≠ 32) → B_X13_begins_4 G F fuel (G.1 j) (Int32.ofNat k) (Int32.ofNat i) (Int32.ofNat n) (mem W S) = some ((Int32.ofNat (i + (rwW (ws.take m)).length)), mem W S) ∧ (str j).drop (i + (rwW (ws.take m)).length) = rwW (ws.drop m) := by
  have hF := X.hF
  have sl := str_lt hj
  intro m
  induction m with
  | zero =>
    intro n i fuel ws hf hk hm hk2 hi h hx
    obtain ⟨fuel, rfl⟩ : ∃ q, fuel = q + 1 := ⟨fuel - 1, by omega⟩
    refine ⟨?_, h⟩
    rw [B_X13_begins_4, if_pos ((n_le (by omega) (by omega)).mpr (by omega))]
    rfl
  | succ m ih =>
    intro n i fuel ws hf hk hm hk2 hi h hx
    obtain ⟨fuel, rfl⟩ : ∃ q, fuel = q + 1 := ⟨fuel - 1, by omega⟩
    cases ws with
    | nil => exact absurd hm (by simp)
    | cons w ws =>
      have h : (str j).drop i = w ++ (32 :: rwW ws) := h
      have hl := congrArg List.length h
      rw [List.length_drop, List.length_append, List.length_cons] at hl
      have wl : w.length < 100 := by omega
      have d1 : (str j).drop (i + w.length + 1) = rwW ws := by
        rw [Nat.add_assoc, ← List.drop_drop, h, ← List.drop_drop, List.drop_left]
        rfl
      obtain ⟨g, d⟩ := ih (n + 1) (i + w.length + 1) fuel ws (by omega) (by omega) (by have : (w :: ws).length = ws.length + 1 := rfl; omega) hk2 (by omega) d1 (fun w' hw' => hx w' (by simp [hw']))
      have e : (rwW ((w :: ws).take (m + 1))).length = w.length + 1 + (rwW (ws.take m)).length := by
        show (w ++ ([32] ++ rwW (ws.take m))).length = _
        rw [List.length_append, List.length_append]
        show w.length + (1 + _) = _
        omega
      rw [e, ← Nat.add_assoc, ← Nat.add_assoc]
      refine ⟨?_, d⟩
      rw [B_X13_begins_4, if_neg (fun z => by have := (n_le (by omega) (by omega)).mp z; omega), QM_begins9 X hj w i F _ (by omega) h (hx w (by simp)), n_i1]
      exact g
/-- where a row's word begins -/
theorem QM_begins {j k : Nat} {ws : List (List UInt8)} {w : List UInt8} (X : Cx G F W) (hj : j < 124) (hR : str j = rwW ws) (hx : ∀ w ∈ ws, ∀ x ∈ w, x ≠ 32) (hw : ws[k]? = some w) (hk : k < 100) : ∃ i, P_X13_begins G F (G.1 j) (Int32.ofNat k) (mem W S) = some ((Int32.ofNat i), mem W S) ∧ i < 100 ∧ ∃ rest, (str j).drop i = w ++ (32 :: rest) := by
  have hF := X.hF
  have sl := str_lt hj
  have kl : k < ws.length := (List.getElem?_eq_some_iff.mp hw).1
  obtain ⟨g, d⟩ := QM_begins4 (G := G) (F := F) (S := S) (k := k) X hj k 0 0 F ws (by omega) (by omega) (by omega) hk (by omega) (by rw [List.drop_zero]; exact hR) hx
  have ew : ws.drop k = w :: ws.drop (k + 1) := by
    rw [List.drop_eq_getElem_cons kl]
    congr 1
    exact (List.getElem?_eq_some_iff.mp hw).2
  rw [ew] at d
  have d : (str j).drop (0 + (rwW (ws.take k)).length) = w ++ (32 :: rwW (ws.drop (k + 1))) := d
  have il : 0 + (rwW (ws.take k)).length < 100 := by
    by_cases q : 0 + (rwW (ws.take k)).length < (str j).length
    · omega
    · rw [List.drop_eq_nil_of_le (by omega)] at d
      exact absurd d.symm (by simp)
  exact ⟨_, g, il, _, d⟩
theorem QM_sayWord6 {j : Nat} (X : Cx G F W) (h : isM W) (hj : j < 124) : ∀ (w : List UInt8) (i fuel : Nat) (o : Ob) (ys rest : List UInt8), w.length < fuel → (str j).drop i = w ++ (32 :: rest) → (∀ x ∈ w, x ≠ 32) → mDr o ys → ys.length + w.length < 2 ^ 29 → ∃ o', B_X13_sayWord_6 G F fuel (W.ad (.o 13 0)) (G.1 j) (Int32.ofNat i) (mem W (S.so 13 0 o)) = some (mem W (S.so 13 0 o')) ∧ mDr o' (ys ++ w) ∧ agr [28] [] [27] [] o o' := by
  intro w
  induction w with
  | nil =>
    intro i fuel o ys rest hf hd hx hy hl
    obtain ⟨fuel, rfl⟩ : ∃ q, fuel = q + 1 := ⟨fuel - 1, by omega⟩
    obtain ⟨g, il⟩ := ch_dr (G := G) (F := F) (S := S.so 13 0 o) X hj hd
    rw [B_X13_sayWord_6, srcs X hj, bO_s, g, bP_s, if_pos (show b32 32 = (32 : Int32) from rfl), List.append_nil]
    exact ⟨o, rfl, hy, agr.refl _ _ _ _ _⟩
  | cons c w ih =>
    intro i fuel o ys rest hf hd hx hy hl
    obtain ⟨fuel, rfl⟩ : ∃ q, fuel = q + 1 := ⟨fuel - 1, by omega⟩
    have l1 : (c :: w).length = w.length + 1 := rfl
    obtain ⟨g, il⟩ := ch_dr (G := G) (F := F) (S := S.so 13 0 o) X hj hd
    obtain ⟨o1, g1, d1, a1⟩ := oM_sayc (G := G) (F := F) (S := S) (o := o) (x := b32 c) (y := c) h hy (by omega) (lo8_b32 c)
    obtain ⟨o2, g2, d2, a2⟩ := ih (i + 1) fuel o1 (ys ++ [c]) rest (by omega) (drop_s hd) (fun x hx' => hx x (by simp [hx'])) d1 (by rw [List.length_append]; show ys.length + 1 + _ < _; omega)
    rw [List.append_assoc] at d2
    rw [B_X13_sayWord_6, srcs X hj, bO_s, g, bP_s]
    simp only [sp_32]
    rw [if_neg (hx c (by simp)), bO_s, g, bP_s, rcv_m h.lo, bO_s, g1, bO_s, n_i1]
    exact ⟨o2, g2, d2, a1.trans a2⟩
theorem oM_sayWord {j k : Nat} {ws : List (List UInt8)} {w ys : List UInt8} {o : Ob} (X : Cx G F W) (h : isM W) (hj : j < 124) (hR : str j = rwW ws) (hx : ∀ w ∈ ws, ∀ x ∈ w, x ≠ 32) (hw : ws[k]? = some w) (hk : k < 100) (hd : mDr o ys) (hy : ys.length < 2 ^ 28) : ∃ o', P_X13_sayWord G F (W.ad (.o 13 0)) (G.1 j) (Int32.ofNat k) (mem W (S.so 13 0 o)) = some (mem W (S.so 13 0 o')) ∧ mDr o' (ys ++ w) ∧ agr [28] [] [27] [] o o' := by
  have hF := X.hF
  have sl := str_lt hj
  obtain ⟨i, g, il, rest, d⟩ := QM_begins (G := G) (F := F) (S := S.so 13 0 o) X hj hR hx hw hk
  have hl := congrArg List.length d
  rw [List.length_drop, List.length_append, List.length_cons] at hl
  obtain ⟨o', g2, d2, a2⟩ := QM_sayWord6 (G := G) (F := F) (S := S) X h hj w i F o ys rest (by omega) d (hx w (List.mem_of_getElem? hw)) hd (by omega)
  unfold P_X13_sayWord
  rw [g, bP_s]
  exact ⟨o', g2, d2, a2⟩
theorem QM_nameOf9 {j : Nat} (X : Cx G F W) (h : isM W) (hj : j < 124) : ∀ (w : List UInt8) (i n fuel : Nat) (o : Ob) (β : Nat → UInt8) (rest : List UInt8), w.length < fuel → (str j).drop i = w ++ (32 :: rest) → (∀ x ∈ w, x ≠ 32) → mB o 131 β → n + w.length ≤ 32 → ∃ o', B_X13_nameOf_9 G F fuel (W.ad (.o 13 0)) (G.1 j) (Int32.ofNat n) (Int32.ofNat i) (mem W (S.so 13 0 o)) = some ((Int32.ofNat (n + w.length)), mem W (S.so 13 0 o')) ∧ mB o' 131 (wrB β n w) ∧ agr [] [] [131] [] o o' := by
  intro w
  induction w with
  | nil =>
    intro i n fuel o β rest hf hd hx hb hl
    obtain ⟨fuel, rfl⟩ : ∃ q, fuel = q + 1 := ⟨fuel - 1, by omega⟩
    obtain ⟨g, il⟩ := ch_dr (G := G) (F := F) (S := S.so 13 0 o) X hj hd
    rw [B_X13_nameOf_9, srcs X hj, bO_s, g, bP_s, if_pos (show b32 32 = (32 : Int32) from rfl), wrB_nil]
    exact ⟨o, rfl, hb, agr.refl _ _ _ _ _⟩
  | cons c w ih =>
    intro i n fuel o β rest hf hd hx hb hl
    obtain ⟨fuel, rfl⟩ : ∃ q, fuel = q + 1 := ⟨fuel - 1, by omega⟩
    have l1 : (c :: w).length = w.length + 1 := rfl
    obtain ⟨g, il⟩ := ch_dr (G := G) (F := F) (S := S.so 13 0 o) X hj hd
    have s1 : sI (mem W (S.so 13 0 o)) 1 (W.ad (.a 13 0 131)) (Int32.ofNat n) (((b32 c).toInt8.toInt32).toInt8.toInt32) = some (mem W (S.so 13 0 (o.sA 131 (fun j => sb (va_up β n c j))))) := by
      rw [sb_lo8, sb_lo8, lo8_sb, lo8_b32]
      exact h.sB' rfl hb (by show n < 32; omega) (by decide)
    have b1 : mB (o.sA 131 (fun j => sb (va_up β n c j))) 131 (va_up β n c) := mB_sA _ _ _
    have a1 : agr [] [] [131] [] o (o.sA 131 (fun j => sb (va_up β n c j))) := agr_sA (by simp)
    obtain ⟨o2, g2, b2, a2⟩ := ih (i + 1) (n + 1) fuel _ (va_up β n c) rest (by omega) (drop_s hd) (fun x hx' => hx x (by simp [hx'])) b1 (by omega)
    have e : wrB (va_up β n c) (n + 1) w = wrB β n (c :: w) := by
      have e1 := wrB_snoc β n [] c
      rw [wrB_nil, List.nil_append, List.length_nil, Nat.add_zero] at e1
      have e2 := wrB_app β n [c] w
      rw [e1] at e2
      exact e2
    rw [e] at b2
    rw [B_X13_nameOf_9, srcs X hj, bO_s, g, bP_s]
    simp only [sp_32]
    rw [if_neg (hx c (by simp)), h.gR 131 rfl (by decide), bO_s, bO_s, g, bP_s, s1, bO_s, n_i1, n_i1, g2, l1, show n + 1 + w.length = n + (w.length + 1) by omega]
    exact ⟨o2, rfl, b2, a1.trans a2⟩
theorem oM_nameOf {j k : Nat} {ws : List (List UInt8)} {w : List UInt8} {o : Ob} (X : Cx G F W) (h : isM W) (hj : j < 124) (hR : str j = rwW ws) (hx : ∀ w ∈ ws, ∀ x ∈ w, x ≠ 32) (hw : ws[k]? = some w) (hk : k < 100) (hb : ∃ β, mB o 131 β) (hl : w.length ≤ 32) : ∃ o' β, P_X13_nameOf G F (W.ad (.o 13 0)) (G.1 j) (Int32.ofNat k) (mem W (S.so 13 0 o)) = some ((Int32.ofNat w.length), mem W (S.so 13 0 o')) ∧ mB o' 131 β ∧ rdB β 0 w.length = w ∧ agr [] [] [131] [] o o' := by
  have hF := X.hF
  obtain ⟨β, hb⟩ := hb
  obtain ⟨i, g, il, rest, d⟩ := QM_begins (G := G) (F := F) (S := S.so 13 0 o) X hj hR hx hw hk
  obtain ⟨o', g2, b2, a2⟩ := QM_nameOf9 (G := G) (F := F) (S := S) X h hj w i 0 F o β rest (by omega) d (hx w (List.mem_of_getElem? hw)) hb (by omega)
  rw [Nat.zero_add] at g2
  refine ⟨o', wrB β 0 w, ?_, b2, rdB_wrB _ _ _, a2⟩
  unfold P_X13_nameOf
  rw [g, bP_s]
  exact g2
end MWD
