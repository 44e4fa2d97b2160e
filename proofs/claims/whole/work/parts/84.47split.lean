/-! PARTS OF A TOKEN: the class -/
/-- the places of points -/
def pts (xs : List UInt8) : Nat → Nat → List Nat
  | 0, _ => []
  | m + 1, k => if gB xs k = 46 then k :: pts xs m (k + 1) else pts xs m (k + 1)
def ptA (xs : List UInt8) : List Nat := pts xs xs.length 0
/-- where a part starts -/
def stP (L : List Nat) : Nat → Nat
  | 0 => 0
  | t + 1 => L.getD t 0 + 1
theorem stP_app {L M : List Nat} {t : Nat} (h : t ≤ L.length) : stP (L ++ M) t = stP L t := by
  cases t with
  | zero => rfl
  | succ t =>
    show (L ++ M).getD t 0 + 1 = L.getD t 0 + 1
    rw [List.getD_eq_getElem?_getD, List.getD_eq_getElem?_getD, List.getElem?_append_left (by omega)]
theorem stP_last {L : List Nat} {k : Nat} : stP (L ++ [k]) (L.length + 1) = k + 1 := by
  show (L ++ [k]).getD L.length 0 + 1 = k + 1
  rw [List.getD_eq_getElem?_getD, List.getElem?_append_right (Nat.le_refl _), Nat.sub_self]
  rfl
theorem pts_le {xs : List UInt8} : ∀ m k, (pts xs m k).length ≤ m
  | 0, _ => Nat.le_refl _
  | m + 1, k => by
    have := pts_le (xs := xs) m (k + 1)
    show (if gB xs k = 46 then k :: pts xs m (k + 1) else pts xs m (k + 1)).length ≤ m + 1
    split
    · rw [List.length_cons]; omega
    · omega
theorem pts_in {xs : List UInt8} : ∀ m k p, p ∈ pts xs m k → k ≤ p ∧ p < k + m
  | 0, _, _, h => absurd h (by simp [pts])
  | m + 1, k, p, h => by
    have h : p ∈ (if gB xs k = 46 then k :: pts xs m (k + 1) else pts xs m (k + 1)) := h
    split at h
    · rcases List.mem_cons.mp h with e | e
      · omega
      · have := pts_in m (k + 1) p e
        omega
    · have := pts_in m (k + 1) p h
      omega
abbrev isTk (W : WR) : Prop := W.live (.o 10 0) = true ∧ W.r 10 0 14 = some (.a 10 0 14) ∧ W.live (.a 10 0 14) = true ∧ W.n (.a 10 0 14) = 6
section SPL
variable {W : WR} {G : mG} {F : Nat} {S : ST}
theorem tk_s {o : Ob} {j : Nat} {v : Int32} (h : isTk W) (hj : j < 6) : sI (mem W (S.so 10 0 o)) 0 (W.ad (.a 10 0 14)) (Int32.ofNat j) v = some (mem W (S.so 10 0 (o.sA 14 (upd (o.a 14) j v)))) := by
  rw [sI_m h.2.2.1 rfl (by decide) (by decide) (by rw [h.2.2.2]; exact inB_n hj (by decide)), n_at (by omega), so_eq, so_so]
theorem tk_a {o : Ob} {j : Nat} (h : isTk W) (hj : j < 6) : aI G (mem W (S.so 10 0 o)) 0 (W.ad (.a 10 0 14)) (Int32.ofNat j) = some (o.a 14 j) := by
  rw [aI_m h.2.2.1 rfl (by decide) (by decide) (by rw [h.2.2.2]; exact inB_n hj (by decide)), n_at (by omega), so_eq]
theorem Q10_split_l {ir parts : Nat} {xs : List UInt8} {l : Bool} (h : isTk W) (hR : isB W ir 8192) (bx : Byt 8192 (S 0 ir) xs l) (hp : parts ≤ 5) : ∀ (m k fuel : Nat) (o : Ob) (L : List Nat), m < fuel → k + m = xs.length → L.length ≤ k → (∀ t, t ≤ L.length → t < parts → o.a 14 t = (Int32.ofNat (stP L t))) → ∃ o', B_X10_split_12 G F fuel (W.ad (.o 10 0)) (W.ad (.o 0 ir)) (Int32.ofNat parts) (Int32.ofNat (L.length + 1)) (Int32.ofNat k) (mem W (S.so 10 0 o)) = some (if (L ++ pts xs m k).length + 1 = parts then 1 else 0, mem W (S.so 10 0 o')) ∧ agr [] [] [14] [] o o' ∧ ((L ++ pts xs m k).length + 1 = parts → (∀ t, t < parts → o'.a 14 t = (Int32.ofNat (stP (L ++ pts xs m k) t))) ∧ o'.a 14 parts = (Int32.ofNat (xs.length + 1))) := by
  have hl := bx.le
  have g14 : ∀ S : ST, gfR (mem W S) (W.ad (.o 10 0)) 10 14 = some (W.ad (.a 10 0 14)) := fun S => gfR_m h.1 rfl h.2.1
  have b0 : ∀ o, Byt 8192 ((S.so 10 0 o) 0 ir) xs l := fun o => by rw [so_ne (by omega)]; exact bx
  have mn : ∀ o, gfI (mem W (S.so 10 0 o)) (W.ad (.o 0 ir)) 0 1 = some (Int32.ofNat xs.length) := fun o => by rw [hR.gI 1 rfl, (b0 o).many]
  intro m
  induction m with
  | zero =>
    intro k fuel o L hf hk hL hi
    obtain ⟨fuel, rfl⟩ : ∃ q, fuel = q + 1 := ⟨fuel - 1, by omega⟩
    have e0 : L ++ pts xs 0 k = L := List.append_nil _
    have a1 : agr [] [] [14] [] o (o.sA 14 (upd (o.a 14) parts (Int32.ofNat (xs.length + 1)))) := agr_sA (by simp)
    refine ⟨o.sA 14 (upd (o.a 14) parts (Int32.ofNat (xs.length + 1))), ?_, a1, ?_⟩
    · rw [B_X10_split_12, mn, bO_s, if_pos ((n_le (by omega) (by omega)).mpr (by omega)), g14, bO_s, bO_s, n_i1, tk_s h (by omega), bO_s, e0]
      by_cases c : L.length + 1 = parts
      · rw [if_pos (by rw [c]), if_pos c, rz1]
      · rw [if_neg (fun z => c ((n_eq (by omega) (by omega)).mp z)), if_neg c, rz0]
    · rw [e0]
      intro c
      refine ⟨fun t ht => ?_, by rw [sA_a, upd_eq]⟩
      rw [sA_a, upd_ne (by omega)]
      exact hi t (by omega) ht
  | succ m ih =>
    intro k fuel o L hf hk hL hi
    obtain ⟨fuel, rfl⟩ : ∃ q, fuel = q + 1 := ⟨fuel - 1, by omega⟩
    rw [B_X10_split_12, mn, bO_s, if_neg (fun z => by have := (n_le (by omega) (by omega)).mp z; omega), rcv_m hR.lo, bO_s, Q0_get hR (b0 o) (by omega), bP_s]
    have ep : pts xs (m + 1) k = if gB xs k = 46 then k :: pts xs m (k + 1) else pts xs m (k + 1) := rfl
    by_cases c : gB xs k = 46
    · rw [if_pos c] at ep ⊢
      have eL : L ++ pts xs (m + 1) k = (L ++ [k]) ++ pts xs m (k + 1) := by rw [ep, List.append_assoc]; rfl
      have lL : (L ++ [k]).length = L.length + 1 := by simp
      rw [eL]
      by_cases d : parts ≤ L.length + 1
      · rw [if_pos ((n_le (by omega) (by omega)).mpr d), n_i1, n_i1, ← lL]
        exact ih (k + 1) fuel o (L ++ [k]) (by omega) (by omega) (by omega) (fun t ht htp => by rw [stP_app (by omega)]; exact hi t (by omega) htp)
      · rw [if_neg (fun z => d ((n_le (by omega) (by omega)).mp z)), g14, bO_s, n_i1, tk_s h (by omega), bO_s, n_i1, ← lL]
        obtain ⟨o', q1, q2, q3⟩ := ih (k + 1) fuel (o.sA 14 (upd (o.a 14) (L.length + 1) (Int32.ofNat (k + 1)))) (L ++ [k]) (by omega) (by omega) (by omega) (fun t ht htp => by
          rw [sA_a]
          by_cases z : t = L.length + 1
          · rw [z, upd_eq, stP_last]
          · rw [upd_ne z, stP_app (by omega)]
            exact hi t (by omega) htp)
        rw [lL] at q1 ⊢
        exact ⟨o', q1, (agr_sA (by simp)).trans q2, q3⟩
    · rw [if_neg c] at ep ⊢
      rw [n_i1, ep]
      exact ih (k + 1) fuel o L (by omega) (by omega) (by omega) hi
theorem Q10_split {ir parts : Nat} {xs : List UInt8} {l : Bool} (X : Cx G F W) (h : isTk W) (hR : isB W ir 8192) (bx : Byt 8192 (S 0 ir) xs l) (hp : parts ≤ 5) (hp0 : 0 < parts) : ∃ o', P_X10_split G F (W.ad (.o 10 0)) (W.ad (.o 0 ir)) (Int32.ofNat parts) (mem W S) = some (if (ptA xs).length + 1 = parts then 1 else 0, mem W (S.so 10 0 o')) ∧ agr [] [] [14] [] (S 10 0) o' ∧ ((ptA xs).length + 1 = parts → (∀ t, t < parts → o'.a 14 t = (Int32.ofNat (stP (ptA xs) t))) ∧ o'.a 14 parts = (Int32.ofNat (xs.length + 1))) := by
  have hF := X.hF
  have hl := bx.le
  have g14 : gfR (mem W S) (W.ad (.o 10 0)) 10 14 = some (W.ad (.a 10 0 14)) := gfR_m h.1 rfl h.2.1
  have s0 := tk_s (S := S) (o := S 10 0) (j := 0) (v := 0) h (by decide)
  rw [so_self] at s0
  have s0 : sI (mem W S) 0 (W.ad (.a 10 0 14)) 0 0 = _ := s0
  obtain ⟨o', q1, q2, q3⟩ := Q10_split_l (G := G) (F := F) (S := S) h hR bx hp xs.length 0 F ((S 10 0).sA 14 (upd ((S 10 0).a 14) 0 0)) [] (by omega) (by omega) (Nat.le_refl _) (fun t ht htp => by
    have : t = 0 := by
      have : ([] : List Nat).length = 0 := rfl
      omega
    rw [this, sA_a, upd_eq]
    rfl)
  refine ⟨o', ?_, (agr_sA (by simp)).trans q2, q3⟩
  unfold P_X10_split
  rw [g14, bO_s, s0, bO_s]
  exact q1
end SPL
