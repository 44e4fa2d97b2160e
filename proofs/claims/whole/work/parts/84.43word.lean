/-! A WORD'S PLACE IN A ROW: the model -/
section WRD2
variable {W : WR} {G : mG} {F : Nat} {S : ST}
theorem atW_of {pre w rest : List UInt8} (hw : ∀ x ∈ w, x ≠ 32) : atW (pre ++ (w ++ ([32] ++ rest))) pre.length w := by
  refine ⟨by simp only [List.length_append, List.length_cons, List.length_nil]; omega, fun q hq => ⟨?_, hw _ (List.getElem_mem hq)⟩, ?_⟩
  · rw [List.getElem?_append_right (by omega), Nat.add_sub_cancel_left, List.getElem?_append_left hq, List.getElem?_eq_getElem hq]
  · rw [List.getElem?_append_right (by omega), Nat.add_sub_cancel_left, List.getElem?_append_right (Nat.le_refl _), Nat.sub_self]
    rfl
theorem QM_word6 {j n kb p : Nat} {β : Nat → UInt8} (X : Cx G F W) (h : isM W) (hj : j < 124) (qb : (kdA 13)[kb]? = some 1) (lb_ : mLen kb < 2 ^ 30) (hb : mB (S 13 0) kb β) (hn : n < 10000) (hp : p + n ≤ mLen kb) : ∀ (ws : List (List UInt8)) (pre : List UInt8) (k fuel : Nat), ws.length < fuel → str j = pre ++ rwW ws → (∀ w ∈ ws, ∀ x ∈ w, x ≠ 32) → B_X13_wordOf_6 G F fuel (G.1 j) (W.ad (.a 13 0 kb)) (Int32.ofNat p) (Int32.ofNat n) (Int32.ofNat k) (Int32.ofNat pre.length) (mem W S) = some (oI (wdF (rdB β p n) ws k), mem W S) := by
  have hF := X.hF
  have sl := str_lt hj
  intro ws
  induction ws with
  | nil =>
    intro pre k fuel hf hR hx
    obtain ⟨fuel, rfl⟩ : ∃ q, fuel = q + 1 := ⟨fuel - 1, by omega⟩
    have hR : str j = pre := by rw [hR]; exact List.append_nil _
    rw [B_X13_wordOf_6, srcs X hj, bO_s, QJ_length X hj, bP_s, ← str_len, hR, if_pos ((n_le (by rw [← hR]; omega) (by rw [← hR]; omega)).mpr (Nat.le_refl _))]
    rfl
  | cons w ws ih =>
    intro pre k fuel hf hR hx
    obtain ⟨fuel, rfl⟩ : ∃ q, fuel = q + 1 := ⟨fuel - 1, by omega⟩
    have hR : str j = pre ++ (w ++ ([32] ++ rwW ws)) := hR
    have hw : atW (str j) pre.length w := by rw [hR]; exact atW_of (hx w (by simp))
    have hl := hw.1
    rw [B_X13_wordOf_6, srcs X hj, bO_s, QJ_length X hj, bP_s, ← str_len, if_neg (fun z => by have := (n_le (by omega) (by omega)).mp z; omega)]
    have st := QM_word18 (G := G) (F := F) (S := S) (k := k) (r6 := B_X13_wordOf_6 G F fuel) X h hj hw qb lb_ hb hn hp n 0 F (by omega) (by omega) (Nat.zero_le _) (fun t ht hq => absurd hq (Nat.not_lt_zero _))
    have st : B_X13_wordOf_18 G F (B_X13_wordOf_6 G F fuel) F (G.1 j) (W.ad (.a 13 0 kb)) (Int32.ofNat p) (Int32.ofNat n) (Int32.ofNat k) (Int32.ofNat pre.length) 0 (mem W S) = _ := st
    rw [st]
    show _ = some (oI (if rdB β p n = w then some k else wdF (rdB β p n) ws (k + 1)), mem W S)
    by_cases c : rdB β p n = w
    · rw [if_pos c, if_pos c]
      rfl
    · rw [if_neg c, if_neg c]
      have e : pre.length + w.length + 1 = (pre ++ (w ++ [32])).length := by
        simp only [List.length_append, List.length_cons, List.length_nil]
        omega
      rw [e]
      have hf' : ws.length < fuel := by
        have : (w :: ws).length = ws.length + 1 := rfl
        omega
      exact ih (pre ++ (w ++ [32])) (k + 1) fuel hf' (by rw [hR]; simp only [List.append_assoc]) (fun w' hw' => hx w' (by simp [hw']))
theorem QM_wordOf {j n kb p : Nat} {β : Nat → UInt8} {ws : List (List UInt8)} (X : Cx G F W) (h : isM W) (hj : j < 124) (qb : (kdA 13)[kb]? = some 1) (lb_ : mLen kb < 2 ^ 30) (hb : mB (S 13 0) kb β) (hn : n < 10000) (hp : p + n ≤ mLen kb) (hR : str j = rwW ws) (hl : ws.length < 100) (hx : ∀ w ∈ ws, ∀ x ∈ w, x ≠ 32) : P_X13_wordOf G F (G.1 j) (W.ad (.a 13 0 kb)) (Int32.ofNat p) (Int32.ofNat n) (mem W S) = some (oI (wdF (rdB β p n) ws 0), mem W S) := by
  have hF := X.hF
  exact QM_word6 (G := G) (F := F) (S := S) X h hj qb lb_ hb hn hp ws [] 0 F (by omega) hR hx
end WRD2
