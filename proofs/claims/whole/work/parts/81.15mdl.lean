/-! THE MODEL'S CALLS ABOUT BYTES -/
theorem wrB_app (β : Nat → UInt8) (p : Nat) (xs ys : List UInt8) : wrB (wrB β p xs) (p + xs.length) ys = wrB β p (xs ++ ys) := by
  funext j
  unfold wrB
  rw [List.length_append]
  by_cases h1 : p + xs.length ≤ j ∧ j < p + xs.length + ys.length
  · rw [if_pos h1, if_pos ⟨by omega, by omega⟩]
    simp only [List.getD_eq_getElem?_getD]
    rw [List.getElem?_append_right (by omega), show j - p - xs.length = j - (p + xs.length) by omega]
  · rw [if_neg h1]
    by_cases h2 : p ≤ j ∧ j < p + xs.length
    · rw [if_pos h2, if_pos ⟨by omega, by omega⟩]
      simp only [List.getD_eq_getElem?_getD]
      rw [List.getElem?_append_left (by omega)]
    · rw [if_neg h2, if_neg (by omega)]
theorem rdB_app (β : Nat → UInt8) (p : Nat) (ys : List UInt8) (n : Nat) : rdB (wrB β (p + n) ys) p (n + ys.length) = rdB β p n ++ ys := by
  apply List.ext_getElem?
  intro j
  by_cases h : j < n + ys.length
  · rw [rdB_at h]
    unfold wrB
    by_cases hn : j < n
    · rw [if_neg (by omega), List.getElem?_append_left (by rw [rdB_len]; exact hn), rdB_at hn]
    · rw [if_pos ⟨by omega, by omega⟩, List.getElem?_append_right (by rw [rdB_len]; omega), rdB_len, show p + j - (p + n) = j - n by omega]
      rw [List.getD_eq_getElem?_getD, List.getElem?_eq_getElem (by omega)]
      rfl
  · rw [List.getElem?_eq_none (by rw [rdB_len]; omega), List.getElem?_eq_none (by rw [List.length_append, rdB_len]; omega)]
theorem rdB_take (β : Nat → UInt8) (p n m : Nat) (h : m ≤ n) : rdB β p m = (rdB β p n).take m := by
  unfold rdB
  rw [← List.map_take, List.take_range, Nat.min_eq_left h]
theorem n_addL (a n : Nat) [NeZero n] : (Int32.ofNat a) + (OfNat.ofNat n : Int32) = (Int32.ofNat (a + n)) := n_add a n
/-- the tape, OUT and the rows as the model keeps them -/
abbrev mTape (o : Ob) (t : List UInt8) : Prop := o.f 1 = (Int32.ofNat t.length) ∧ t.length ≤ 8192 ∧ ∃ β, mB o 0 β ∧ rdB β 0 t.length = t
abbrev mOut (o : Ob) (t : List UInt8) : Prop := o.f 5 = (Int32.ofNat t.length) ∧ t.length ≤ 8192 ∧ ∃ β, mB o 4 β ∧ rdB β 0 t.length = t
abbrev mRows (o : Ob) (rows : Nat → List UInt8) : Prop := ∃ β, mB o 2 β ∧ ∀ r, r < 8 → o.a 3 r = (Int32.ofNat (rows r).length) ∧ (rows r).length ≤ 8192 ∧ rdB β (8192 * r) (rows r).length = rows r
section MDL3
variable {W : WR} {S : ST} {G : mG} {F : Nat} {t : List UInt8}
theorem QM_feed {a b c d e : Int32} (X : Cx G F W) (h : isM W) (ht : mTape (S 13 0) t) : ∃ f v, P_X13_feed G F (W.ad (.o 13 0)) a b c d e (mem W S) = some (if t.length + 20 ≤ 8192 then (Int32.ofNat (t.length + 20)) else -2, mem W (S.so 13 0 (((S 13 0).sA 0 f).sf 1 v))) ∧ mTape (((S 13 0).sA 0 f).sf 1 v) (if t.length + 20 ≤ 8192 then t ++ fed a b c d e else t) := by
  obtain ⟨h1, h2, β, h3, h4⟩ := ht
  by_cases hq : t.length + 20 ≤ 8192
  · refine ⟨fun j => sb (wrB β t.length (fed a b c d e) j), (Int32.ofNat (t.length + 20)), ?_, ?_⟩
    · have p4 : ∀ (x : Int32) (p : Nat) (S : ST) (β : Nat → UInt8), p + 4 ≤ 8192 → mB (S 13 0) 0 β → P_X13_put G F (W.ad (.a 13 0 0)) (Int32.ofNat p) 4 x.toInt64 (mem W S) = some (mem W (S.so 13 0 ((S 13 0).sA 0 (fun j' => sb (wrB β p (w4 x) j'))))) := by
        intro x p S β hp hβ
        have := QM_put (cnt := 4) (x := x.toInt64) X h rfl (by decide) hp (by omega) hβ
        rwa [w4_beL] at this
      unfold P_X13_feed
      rw [h.gI 1 rfl, bO_s, h1, n_addL _ 20, if_pos (by rw [lit 8192, n_le (by omega) (by omega)]; exact hq), if_pos hq, h.gR 0 rfl (by decide), bO_s, bO_s]
      rw [p4 a t.length S β (by omega) h3, bO_s]
      simp only [h.gR 0 rfl (by decide), h.gI 1 rfl, so_eq, sA_f, h1, bO_s]
      rw [n_addL _ 4, p4 b (t.length + 4) _ _ (by omega) (by rw [so_eq]; exact mB_sA _ _ _), bO_s]
      simp only [h.gR 0 rfl (by decide), h.gI 1 rfl, so_eq, so_so, sA_sA, sA_f, h1, bO_s]
      rw [n_addL _ 8, p4 c (t.length + 8) _ _ (by omega) (by rw [so_eq]; exact mB_sA _ _ _), bO_s]
      simp only [h.gR 0 rfl (by decide), h.gI 1 rfl, so_eq, so_so, sA_sA, sA_f, h1, bO_s]
      rw [n_addL _ 12, p4 d (t.length + 12) _ _ (by omega) (by rw [so_eq]; exact mB_sA _ _ _), bO_s]
      simp only [h.gR 0 rfl (by decide), h.gI 1 rfl, so_eq, so_so, sA_sA, sA_f, h1, bO_s]
      rw [n_addL _ 16, p4 e (t.length + 16) _ _ (by omega) (by rw [so_eq]; exact mB_sA _ _ _), bO_s]
      simp only [h.gI 1 rfl, so_eq, so_so, sA_sA, sA_f, h1, bO_s]
      rw [h.pI 1 _ rfl, bO_s, h.gI 1 rfl, bO_s, so_so, so_eq, so_eq, sf_f, if_pos rfl, n_addL _ 20]
      have e2 : wrB (wrB (wrB (wrB (wrB β t.length (w4 a)) (t.length + 4) (w4 b)) (t.length + 8) (w4 c)) (t.length + 12) (w4 d)) (t.length + 16) (w4 e) = wrB β t.length (fed a b c d e) := by
        rw [show t.length + 4 = t.length + (w4 a).length from rfl, wrB_app, show t.length + 8 = t.length + (w4 a ++ w4 b).length from rfl, wrB_app, show t.length + 12 = t.length + (w4 a ++ w4 b ++ w4 c).length from rfl, wrB_app, show t.length + 16 = t.length + (w4 a ++ w4 b ++ w4 c ++ w4 d).length from rfl, wrB_app]
        rfl
      rw [e2]
    · rw [if_pos hq]
      refine ⟨by rw [sf_f, if_pos rfl, List.length_append]; rfl, by rw [List.length_append, fed_len]; exact hq, wrB β t.length (fed a b c d e), by unfold mB; rw [sf_a, sA_a], ?_⟩
      rw [List.length_append]
      have := rdB_app β 0 (fed a b c d e) t.length
      rw [Nat.zero_add, h4] at this
      exact this
  · refine ⟨(S 13 0).a 0, (S 13 0).f 1, ?_, ?_⟩
    · have e : ((S 13 0).sA 0 ((S 13 0).a 0)).sf 1 ((S 13 0).f 1) = S 13 0 := by
        rw [sA_self rfl]
        show Ob.mk (upd (S 13 0).f 1 ((S 13 0).f 1)) _ _ _ _ = _
        have e2 : upd (S 13 0).f 1 ((S 13 0).f 1) = (S 13 0).f := by
          funext j
          unfold upd
          split
          · rename_i q
            rw [q]
          · rfl
        rw [e2]
        rfl
      rw [e, so_self]
      unfold P_X13_feed
      rw [h.gI 1 rfl, bO_s, h1, n_addL _ 20, if_neg (by rw [lit 8192, n_le (by omega) (by omega)]; exact hq), if_neg hq]
    · rw [if_neg hq]
      refine ⟨by rw [sf_f, if_pos rfl]; exact h1, h2, β, ?_, h4⟩
      unfold mB
      rw [sf_a, sA_a]
      exact h3
end MDL3
section MDL4
variable {W : WR} {S : ST} {G : mG} {F : Nat} {t u : List UInt8} {rows : Nat → List UInt8}
theorem sf_self (o : Ob) (k : Nat) : o.sf k (o.f k) = o := by
  show Ob.mk (upd o.f k (o.f k)) _ _ _ _ = _
  have e2 : upd o.f k (o.f k) = o.f := by
    funext j
    unfold upd
    split
    · rename_i q
      rw [q]
    · rfl
  rw [e2]
  rfl
theorem QM_end {n : Int32} (h : isM W) (ht : mTape (S 13 0) t) : ∃ v, P_X13_end G F (W.ad (.o 13 0)) n (mem W S) = some (if 0 ≤ n ∧ n ≤ (Int32.ofNat t.length) then n else -2, mem W (S.so 13 0 ((S 13 0).sf 1 v))) ∧ mTape ((S 13 0).sf 1 v) (if 0 ≤ n ∧ n ≤ (Int32.ofNat t.length) then t.take n.toNatClampNeg else t) := by
  obtain ⟨h1, h2, β, h3, h4⟩ := ht
  unfold P_X13_end
  rcases i_cases n with hn | ⟨j, hj, rfl⟩
  · refine ⟨(S 13 0).f 1, ?_, ?_⟩
    · rw [if_pos hn, if_neg (fun q => absurd hn (Int32.not_lt.mpr q.1)), sf_self, so_self]
    · rw [if_neg (fun q => absurd hn (Int32.not_lt.mpr q.1)), sf_self]
      exact ⟨h1, h2, β, h3, h4⟩
  · have h0 : (0 : Int32) ≤ (Int32.ofNat j) := Int32.not_lt.mp (nn hj)
    by_cases hq : (Int32.ofNat j) ≤ (Int32.ofNat t.length)
    · refine ⟨(Int32.ofNat j), ?_, ?_⟩
      · rw [if_neg (nn hj), h.gI 1 rfl, bO_s, h1, if_pos hq, if_pos ⟨h0, hq⟩, h.pI 1 _ rfl, bO_s]
      · rw [if_pos ⟨h0, hq⟩, n_at hj]
        have hjl : j ≤ t.length := (n_le hj (by omega)).mp hq
        have hl : (t.take j).length = j := by rw [List.length_take]; omega
        refine ⟨by rw [sf_f, if_pos rfl, hl], by omega, β, h3, ?_⟩
        rw [hl, rdB_take β 0 t.length j hjl, h4]
    · refine ⟨(S 13 0).f 1, ?_, ?_⟩
      · rw [if_neg (nn hj), h.gI 1 rfl, bO_s, h1, if_neg hq, if_neg (fun q => hq q.2), ← h1, sf_self, so_self]
      · rw [if_neg (fun q => hq q.2), sf_self]
        exact ⟨h1, h2, β, h3, h4⟩
/-- a row changes, the others stay -/
def setR (rows : Nat → List UInt8) (r : Nat) (u : List UInt8) : Nat → List UInt8 := fun r' => if r' = r then u else rows r'
theorem QM_row {r : Nat} (X : Cx G F W) (h : isM W) (hr : r < 8) (ht : mTape (S 13 0) t) (hR : mRows (S 13 0) rows) : ∃ f g, P_X13_row G F (W.ad (.o 13 0)) (Int32.ofNat r) (mem W S) = some ((Int32.ofNat t.length), mem W (S.so 13 0 ((((S 13 0).sA 2 f).sA 3 g).sf 1 0))) ∧ mTape ((((S 13 0).sA 2 f).sA 3 g).sf 1 0) [] ∧ mRows ((((S 13 0).sA 2 f).sA 3 g).sf 1 0) (setR rows r t) := by
  obtain ⟨h1, h2, β, h3, h4⟩ := ht
  obtain ⟨β2, b1, b2⟩ := hR
  have g : P_X13_move G F (W.ad (.a 13 0 0)) 0 (W.ad (.a 13 0 2)) (Int32.ofNat (8192 * r)) (Int32.ofNat t.length) (mem W S) = some (mem W (S.so 13 0 ((S 13 0).sA 2 (fun j => sb (wrB β2 (8192 * r) (rdB β 0 t.length) j))))) := QM_move (p1 := 0) X h rfl rfl (by decide) (by decide) (by decide) (by show 0 + t.length ≤ 8192; omega) (by show 8192 * r + t.length ≤ 65536; omega) (by omega) h3 b1
  refine ⟨fun j => sb (wrB β2 (8192 * r) t j), upd ((S 13 0).a 3) r (Int32.ofNat t.length), ?_, ?_, ?_⟩
  · unfold P_X13_row
    rw [Q13_isRow, bP_s, isr_i hr, if_pos rfl, if_neg (by decide), h.gR 0 rfl (by decide), bO_s, h.gR 2 rfl (by decide), bO_s, h.gI 1 rfl, bO_s, h1, lit 8192, n_mul, g, bO_s, h4]
    rw [h.gR 3 rfl (by decide), bO_s, h.gI 1 rfl, bO_s, so_eq, sA_f, h1, h.sN rfl (show r < 8 from hr) (by decide), bO_s, so_so, so_eq, h.pI 1 _ rfl, bO_s, so_so, so_eq, h.gR 3 rfl (by decide), bO_s, h.aN rfl (show r < 8 from hr) (by decide), bO_s, so_eq, sf_a, sA_a, sA_a' (by decide)]
    simp [upd]
  · exact ⟨by rw [sf_f, if_pos rfl]; rfl, by simp, β, by unfold mB; rw [sf_a, sA_a' (by decide), sA_a' (by decide)]; exact h3, rfl⟩
  · refine ⟨wrB β2 (8192 * r) t, by unfold mB; rw [sf_a, sA_a' (by decide), sA_a], fun r' hr' => ?_⟩
    rw [sf_a, sA_a]
    unfold setR upd
    by_cases e : r' = r
    · rw [if_pos e, if_pos e, e]
      exact ⟨rfl, h2, rdB_wrB _ _ _⟩
    · obtain ⟨c1, c2, c3⟩ := b2 r' hr'
      rw [if_neg e, if_neg e]
      exact ⟨c1, c2, by rw [rdB_off (by omega)]; exact c3⟩
theorem QM_noRow {x : Int32} (hx : isr x = false) (a : Nat) (M : mM) : P_X13_row G F a x M = some (-2, M) ∧ P_X13_keep G F a x M = some (-2, M) := by
  unfold P_X13_row P_X13_keep
  rw [Q13_isRow, bP_s, hx]
  exact ⟨rfl, rfl⟩
theorem QM_keep {r : Nat} (X : Cx G F W) (h : isM W) (hr : r < 8) (ht : mOut (S 13 0) t) (hR : mRows (S 13 0) rows) : ∃ f g, P_X13_keep G F (W.ad (.o 13 0)) (Int32.ofNat r) (mem W S) = some ((Int32.ofNat t.length), mem W (S.so 13 0 (((S 13 0).sA 2 f).sA 3 g))) ∧ mRows (((S 13 0).sA 2 f).sA 3 g) (setR rows r t) := by
  obtain ⟨h1, h2, β, h3, h4⟩ := ht
  obtain ⟨β2, b1, b2⟩ := hR
  have g : P_X13_move G F (W.ad (.a 13 0 4)) 0 (W.ad (.a 13 0 2)) (Int32.ofNat (8192 * r)) (Int32.ofNat t.length) (mem W S) = some (mem W (S.so 13 0 ((S 13 0).sA 2 (fun j => sb (wrB β2 (8192 * r) (rdB β 0 t.length) j))))) := QM_move (p1 := 0) X h rfl rfl (by decide) (by decide) (by decide) (by show 0 + t.length ≤ 8192; omega) (by show 8192 * r + t.length ≤ 65536; omega) (by omega) h3 b1
  refine ⟨fun j => sb (wrB β2 (8192 * r) t j), upd ((S 13 0).a 3) r (Int32.ofNat t.length), ?_, ?_⟩
  · unfold P_X13_keep
    rw [Q13_isRow, bP_s, isr_i hr, if_pos rfl, if_neg (by decide), h.gR 4 rfl (by decide), bO_s, h.gR 2 rfl (by decide), bO_s, h.gI 5 rfl, bO_s, h1, lit 8192, n_mul, g, bO_s, h4]
    rw [h.gR 3 rfl (by decide), bO_s, h.gI 5 rfl, bO_s, so_eq, sA_f, h1, h.sN rfl (show r < 8 from hr) (by decide), bO_s, so_so, so_eq, h.gI 5 rfl, bO_s, so_eq, sA_f, sA_f, h1, sA_a' (by decide)]
  · refine ⟨wrB β2 (8192 * r) t, by unfold mB; rw [sA_a' (by decide), sA_a], fun r' hr' => ?_⟩
    rw [sA_a]
    unfold setR upd
    by_cases e : r' = r
    · rw [if_pos e, if_pos e, e]
      exact ⟨rfl, h2, rdB_wrB _ _ _⟩
    · obtain ⟨c1, c2, c3⟩ := b2 r' hr'
      rw [if_neg e, if_neg e]
      exact ⟨c1, c2, by rw [rdB_off (by omega)]; exact c3⟩
theorem QM_out {x : Int32} (h : isM W) (ht : mOut (S 13 0) t) : P_X13_out G F (W.ad (.o 13 0)) x (mem W S) = some (if x < 0 then -1 else pB t x.toNatClampNeg, mem W S) := by
  obtain ⟨h1, h2, β, h3, h4⟩ := ht
  unfold P_X13_out
  rcases i_cases x with hx | ⟨j, hj, rfl⟩
  · rw [if_pos hx, if_pos hx]
  · rw [if_neg (nn hj), if_neg (nn hj), h.gI 5 rfl, bO_s, h1, n_at hj]
    unfold pB
    by_cases hq : j < t.length
    · have e : t[j]? = some (β j) := by
        conv => lhs; rw [← h4]
        rw [rdB_at hq, Nat.zero_add]
      rw [if_pos ((n_lt hj (by omega)).mpr hq), h.gR 4 rfl (by decide), bO_s, h.aB rfl h3 (show j < 8192 by omega) (by decide), bO_s, sb_and, e]
    · rw [if_neg (by rw [n_lt hj (by omega)]; exact hq), List.getElem?_eq_none (by omega)]
theorem QM_size {x : Int32} (h : isM W) (ht : mOut (S 13 0) t) (hR : mRows (S 13 0) rows) : P_X13_size G F (W.ad (.o 13 0)) x (mem W S) = some (if x = -1 then (Int32.ofNat t.length) else if isr x then (Int32.ofNat (rows x.toNatClampNeg).length) else -2, mem W S) := by
  obtain ⟨h1, h2, β, h3, h4⟩ := ht
  obtain ⟨β2, b1, b2⟩ := hR
  unfold P_X13_size
  by_cases hx1 : x = -1
  · rw [if_pos hx1, if_pos hx1, h.gI 5 rfl, bO_s, h1]
  · rw [if_neg hx1, if_neg hx1, Q13_isRow, bP_s]
    rcases isr_cases x with hx | ⟨r, hr, rfl, hx⟩
    · rw [hx]
      rfl
    · rw [hx, if_pos rfl, if_neg (by decide), if_pos rfl, h.gR 3 rfl (by decide), bO_s, h.aN rfl (show r < 8 from hr) (by decide), bO_s, (b2 r hr).1, n_at (by omega)]
end MDL4
