/-! PARTS OF A TOKEN: the model -/
section MPT
variable {W : WR} {G : mG} {F : Nat} {S : ST}
theorem oM_points_l {r : Nat} {rows : Nat → List UInt8} (h : isM W) (hr : r < 8) : ∀ (m k fuel : Nat) (o : Ob) (L : List Nat), mRows o rows → m < fuel → k + m = (rows r).length → L.length ≤ k → (∀ t, t < L.length → t < 6 → o.a 123 t = (Int32.ofNat (L.getD t 0))) → ∃ o', B_X13_pointsOf_4 G F fuel (W.ad (.o 13 0)) (Int32.ofNat r) (Int32.ofNat L.length) (Int32.ofNat k) (mem W (S.so 13 0 o)) = some ((Int32.ofNat (L ++ pts (rows r) m k).length), mem W (S.so 13 0 o')) ∧ agr [] [] [123] [] o o' ∧ ∀ t, t < (L ++ pts (rows r) m k).length → t < 6 → o'.a 123 t = (Int32.ofNat ((L ++ pts (rows r) m k).getD t 0)) := by
  intro m
  induction m with
  | zero =>
    intro k fuel o L hR hf hk hL hi
    obtain ⟨fuel, rfl⟩ : ∃ q, fuel = q + 1 := ⟨fuel - 1, by omega⟩
    obtain ⟨β, r1, r2⟩ := hR
    obtain ⟨r3, r4, r5⟩ := r2 r hr
    have e0 : L ++ pts (rows r) 0 k = L := List.append_nil _
    rw [e0]
    refine ⟨o, ?_, agr.refl _ _ _ _ _, hi⟩
    rw [B_X13_pointsOf_4, h.gR 3 rfl (by decide), bO_s, h.aN rfl (show r < 8 from hr) (by decide), bO_s, so_eq, r3, if_pos ((n_le (by omega) (by omega)).mpr (by omega))]
  | succ m ih =>
    intro k fuel o L hR hf hk hL hi
    obtain ⟨fuel, rfl⟩ : ∃ q, fuel = q + 1 := ⟨fuel - 1, by omega⟩
    obtain ⟨β, r1, r2⟩ := id hR
    obtain ⟨r3, r4, r5⟩ := r2 r hr
    have e8 : (8192 : Int32) * (Int32.ofNat r) + (Int32.ofNat k) = (Int32.ofNat (8192 * r + k)) := by rw [show (8192 : Int32) = (Int32.ofNat 8192) from rfl, n_mul, n_add]
    have hx : gB (rows r) k = b32 (β (8192 * r + k)) := by
      rw [← r5]
      unfold gB
      rw [rdB_at (by omega)]
    have iff : sb (β (8192 * r + k)) = (46 : Int32) ↔ gB (rows r) k = 46 := by
      rw [hx]
      have := sb_asc (x := β (8192 * r + k)) (y := 46) (by decide)
      constructor
      · intro z
        rw [this.mp z]
        rfl
      · intro z
        exact this.mpr (b32_inj (y := 46) z)
    rw [B_X13_pointsOf_4, h.gR 3 rfl (by decide), bO_s, h.aN rfl (show r < 8 from hr) (by decide), bO_s, so_eq, r3, if_neg (fun z => by have := (n_le (by omega) (by omega)).mp z; omega), h.gR 2 rfl (by decide), bO_s, e8, h.aB (k := 2) (j := 8192 * r + k) rfl (by rw [so_eq]; exact r1) (by show _ < 65536; omega) (by decide), bO_s]
    have ep : pts (rows r) (m + 1) k = if gB (rows r) k = 46 then k :: pts (rows r) m (k + 1) else pts (rows r) m (k + 1) := rfl
    by_cases c : gB (rows r) k = 46
    · rw [if_pos c] at ep
      rw [if_pos (iff.mpr c)]
      have eL : L ++ pts (rows r) (m + 1) k = (L ++ [k]) ++ pts (rows r) m (k + 1) := by rw [ep, List.append_assoc]; rfl
      have lL : (L ++ [k]).length = L.length + 1 := by simp
      have gd : ∀ t, t < L.length → (L ++ [k]).getD t 0 = L.getD t 0 := fun t ht => by rw [List.getD_eq_getElem?_getD, List.getD_eq_getElem?_getD, List.getElem?_append_left ht]
      have gl : (L ++ [k]).getD L.length 0 = k := by
        rw [List.getD_eq_getElem?_getD, List.getElem?_append_right (Nat.le_refl _), Nat.sub_self]
        rfl
      rw [eL]
      by_cases d : 6 ≤ L.length
      · rw [if_pos (show (6 : Int32) ≤ (Int32.ofNat L.length) from (n_le (a := 6) (by omega) (by omega)).mpr d), n_i1, n_i1, ← lL]
        exact ih (k + 1) fuel o (L ++ [k]) hR (by omega) (by omega) (by omega) (fun t ht h6 => by rw [gd t (by omega)]; exact hi t (by omega) h6)
      · rw [if_neg (show ¬ (6 : Int32) ≤ (Int32.ofNat L.length) from fun z => d ((n_le (a := 6) (by omega) (by omega)).mp z)), h.gR 123 rfl (by decide), bO_s, oM_sN h rfl (show L.length < 6 by omega) (by decide), bO_s, n_i1, n_i1, ← lL]
        have a1 : agr [] [] [123] [] o (o.sA 123 (upd (o.a 123) L.length (Int32.ofNat k))) := agr_sA (by simp)
        obtain ⟨o', q1, q2, q3⟩ := ih (k + 1) fuel (o.sA 123 (upd (o.a 123) L.length (Int32.ofNat k))) (L ++ [k]) ⟨β, a1.mB r1 (by decide), fun r' hr' => by rw [a1.2.2.1 3 (by decide)]; exact r2 r' hr'⟩ (by omega) (by omega) (by omega) (fun t ht h6 => by
          rw [sA_a]
          by_cases z : t = L.length
          · rw [z, upd_eq, gl]
          · rw [upd_ne z, gd t (by omega)]
            exact hi t (by omega) h6)
        exact ⟨o', q1, a1.trans q2, q3⟩
    · rw [if_neg c] at ep
      rw [if_neg (fun z => c (iff.mp z)), n_i1, ep]
      exact ih (k + 1) fuel o L hR (by omega) (by omega) (by omega) hi
theorem oM_points {r : Nat} {rows : Nat → List UInt8} {o : Ob} (X : Cx G F W) (h : isM W) (hr : r < 8) (hR : mRows o rows) : ∃ o', P_X13_pointsOf G F (W.ad (.o 13 0)) (Int32.ofNat r) (mem W (S.so 13 0 o)) = some ((Int32.ofNat (ptA (rows r)).length), mem W (S.so 13 0 o')) ∧ agr [] [] [123] [] o o' ∧ ∀ t, t < (ptA (rows r)).length → t < 6 → o'.a 123 t = (Int32.ofNat ((ptA (rows r)).getD t 0)) := by
  have hF := X.hF
  obtain ⟨β, r1, r2⟩ := id hR
  have r4 := (r2 r hr).2.1
  exact oM_points_l (G := G) (F := F) (S := S) h hr (rows r).length 0 F o [] hR (by omega) (by omega) (Nat.le_refl _) (fun t ht => absurd ht (Nat.not_lt_zero _))
end MPT
