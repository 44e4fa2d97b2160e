/-! WHAT THE MODEL SAYS INTO ITS DRAFT -/
/-- the draft, its bytes and their count set -/
def dr (o : Ob) (f : Nat → Int32) (v : Int32) : Ob := (o.sA 27 f).sf 28 v
theorem sA_sf (o : Ob) (k k' : Nat) (f : Nat → Int32) (v : Int32) : (o.sf k' v).sA k f = (o.sA k f).sf k' v := rfl
theorem sf_sf (o : Ob) (k : Nat) (v w : Int32) : (o.sf k v).sf k w = o.sf k w := by
  have e : upd (upd o.f k v) k w = upd o.f k w := by
    funext j
    unfold upd
    split <;> rfl
  show Ob.mk (upd (upd o.f k v) k w) _ _ _ _ = _
  rw [e]
  rfl
theorem dr_dr (o : Ob) (f g : Nat → Int32) (v w : Int32) : dr (dr o f v) g w = dr o g w := by
  unfold dr
  rw [sA_sf, sf_sf, sA_sA]
/-- all that was said; what goes beyond 8192 bytes is only counted -/
abbrev mDr (o : Ob) (ys : List UInt8) : Prop := o.f 28 = (Int32.ofNat ys.length) ∧ ∃ β, mB o 27 β ∧ rdB β 0 (min ys.length 8192) = ys.take 8192
section SAY
variable {W : WR} {S : ST} {G : mG} {F : Nat} {ys : List UInt8}
theorem QM_say {x : Int32} (h : isM W) (hd : mDr (S 13 0) ys) (hl : ys.length < 2 ^ 30) : ∃ f v, P_X13_say G F (W.ad (.o 13 0)) x (mem W S) = some (mem W (S.so 13 0 (dr (S 13 0) f v))) ∧ mDr (dr (S 13 0) f v) (ys ++ [lo8 x]) := by
  obtain ⟨h1, β, h2, h3⟩ := hd
  by_cases hq : 8192 ≤ ys.length
  · refine ⟨(S 13 0).a 27, (Int32.ofNat (ys.length + 1)), ?_, ?_⟩
    · unfold P_X13_say dr
      rw [h.gI 28 rfl, bO_s, h1, if_pos (by rw [lit 8192, n_le (by omega) (by omega)]; exact hq), bO_s, o32, n_add, h.pI 28 _ rfl, bO_s, sA_self rfl]
    · refine ⟨by rw [List.length_append]; rfl, β, ?_, ?_⟩
      · unfold mB dr
        rw [sf_a, sA_a]
        exact h2
      · rw [List.length_append, List.take_append_of_le_length hq, ← h3]
        congr 1
        simp
        omega
  · refine ⟨fun j => sb (va_up β ys.length (lo8 x) j), (Int32.ofNat (ys.length + 1)), ?_, ?_⟩
    · unfold P_X13_say dr
      rw [h.gI 28 rfl, bO_s, h1, if_neg (by rw [lit 8192, n_le (by omega) (by omega)]; exact hq), h.gR 27 rfl (by decide), bO_s, bO_s, sb_lo8, sb_lo8, lo8_sb, h.sB rfl h2 (show ys.length < 8300 by omega) (by decide), bO_s, h.gI 28 rfl, bO_s, so_eq, sA_f, h1, o32, n_add, h.pI 28 _ rfl, bO_s, so_so, so_eq]
    · refine ⟨by rw [List.length_append]; rfl, va_up β ys.length (lo8 x), ?_, ?_⟩
      · unfold mB dr
        rw [sf_a, sA_a]
      · rw [List.take_of_length_le (by rw [List.length_append]; simp; omega), List.length_append]
        have e : min (ys.length + [lo8 x].length) 8192 = ys.length + [lo8 x].length := by simp; omega
        rw [e]
        have h4 : rdB β 0 ys.length = ys := by
          rw [Nat.min_eq_left (by omega), List.take_of_length_le (by omega)] at h3
          exact h3
        have h5 := rdB_app β 0 [lo8 x] ys.length
        rw [h4, Nat.zero_add] at h5
        rw [← h5]
        congr 1
        have h6 := wrB_snoc β ys.length [] (lo8 x)
        rw [wrB_nil, List.nil_append, List.length_nil, Nat.add_zero] at h6
        exact h6.symm
theorem QM_sayAll_l {j : Nat} (X : Cx G F W) (h : isM W) (hj : j < 124) : ∀ (m k n : Nat) (S : ST) (ys : List UInt8), m < n → k + m = (mbyt.getD j []).length → ys.length + m < 2 ^ 30 → mDr (S 13 0) ys → ∃ f v, B_X13_sayAll_2 G F n (W.ad (.o 13 0)) (G.1 j) (Int32.ofNat k) (mem W S) = some (mem W (S.so 13 0 (dr (S 13 0) f v))) ∧ mDr (dr (S 13 0) f v) (ys ++ (str j).drop k) := by
  have hl := mby_len j hj
  obtain ⟨-, v, -, h3, -⟩ := X.ro.1.1 j hj
  have e3 : rcs G (G.1 j) = some () := by simp [rcs, h3]
  have hsl : (str j).length = (mbyt.getD j []).length := by simp [str]
  have hdr : ∀ (o : Ob), dr o (o.a 27) (o.f 28) = o := fun o => by unfold dr; rw [sA_self rfl, sf_self]
  intro m
  induction m with
  | zero =>
    intro k n S ys hn hk hy hd
    obtain ⟨n, rfl⟩ : ∃ q, n = q + 1 := ⟨n - 1, by omega⟩
    refine ⟨(S 13 0).a 27, (S 13 0).f 28, ?_, ?_⟩
    · rw [B_X13_sayAll_2, e3, bO_s, QJ_length X hj, bP_s, if_pos ((n_le (by omega) (by omega)).mpr (by omega)), hdr, so_self]
    · rw [hdr, List.drop_eq_nil_of_le (by omega), List.append_nil]
      exact hd
  | succ m ih =>
    intro k n S ys hn hk hy hd
    obtain ⟨n, rfl⟩ : ∃ q, n = q + 1 := ⟨n - 1, by omega⟩
    obtain ⟨f1, v1, g1, d1⟩ := QM_say (G := G) (F := F) (x := (mbyt.getD j []).getD k 0) h hd (by omega)
    obtain ⟨f2, v2, g2, d2⟩ := ih (k + 1) n (S.so 13 0 (dr (S 13 0) f1 v1)) (ys ++ [lo8 ((mbyt.getD j []).getD k 0)]) (by omega) (by omega) (by rw [List.length_append]; simp; omega) (by rw [so_eq]; exact d1)
    rw [so_eq, dr_dr] at g2 d2
    refine ⟨f2, v2, ?_, ?_⟩
    · rw [B_X13_sayAll_2, e3, bO_s, QJ_length X hj, bP_s, if_neg (by rw [n_le (by omega) (by omega)]; omega), bO_s, QJ_charAt X hj (by omega), bP_s, rcv_m h.lo, bO_s, g1, bO_s, o32, n_add, g2, so_so]
    · have e : (str j).drop k = [lo8 ((mbyt.getD j []).getD k 0)] ++ (str j).drop (k + 1) := by
        rw [List.drop_eq_getElem_cons (by omega)]
        congr 1
        simp only [str, List.getElem_map]
        congr 1
        rw [List.getD_eq_getElem?_getD (l := mbyt.getD j []), List.getElem?_eq_getElem (by omega)]
        rfl
      rw [e, ← List.append_assoc]
      exact d2
theorem QM_sayAll {j : Nat} (X : Cx G F W) (h : isM W) (hj : j < 124) (hd : mDr (S 13 0) ys) (hy : ys.length < 2 ^ 29) : ∃ f v, P_X13_sayAll G F (W.ad (.o 13 0)) (G.1 j) (mem W S) = some (mem W (S.so 13 0 (dr (S 13 0) f v))) ∧ mDr (dr (S 13 0) f v) (ys ++ str j) := by
  have := X.hF
  have hl := mby_len j hj
  exact QM_sayAll_l X h hj _ 0 F S ys (by omega) (Nat.zero_add _) (by omega) hd
/-- saved: OUT takes what was said, or it was too much -/
theorem QM_saved {t : List UInt8} (X : Cx G F W) (h : isM W) (hd : mDr (S 13 0) ys) (hy : ys.length < 2 ^ 30) (ho : mOut (S 13 0) t) : ∃ f v, P_X13_saved G F (W.ad (.o 13 0)) (mem W S) = some (if ys.length ≤ 8192 then (Int32.ofNat ys.length) else -3, mem W (S.so 13 0 (((S 13 0).sA 4 f).sf 5 v))) ∧ mOut (((S 13 0).sA 4 f).sf 5 v) (if ys.length ≤ 8192 then ys else t) := by
  obtain ⟨h1, β, h2, h3⟩ := hd
  obtain ⟨o1, o2, β4, o3, o4⟩ := ho
  unfold P_X13_saved
  rw [h.gI 28 rfl, bO_s, h1]
  by_cases hq : ys.length ≤ 8192
  · refine ⟨fun j => sb (wrB β4 0 ys j), (Int32.ofNat ys.length), ?_, ?_⟩
    · rw [Nat.min_eq_left hq, List.take_of_length_le hq] at h3
      have g : P_X13_tell G F (W.ad (.o 13 0)) (W.ad (.a 13 0 27)) 0 (Int32.ofNat ys.length) (mem W S) = some ((Int32.ofNat ys.length), mem W (S.so 13 0 (((S 13 0).sA 4 (fun j => sb (wrB β4 0 (rdB β 0 ys.length) j))).sf 5 (Int32.ofNat ys.length)))) := QM_tell (p := 0) X h rfl (by decide) (by decide) (by show 0 + ys.length ≤ 8300; omega) hq h2 o3
      rw [if_pos (by rw [lit 8192, n_le (by omega) (by omega)]; exact hq), if_pos hq, h.gR 27 rfl (by decide), bO_s, bO_s, rcv_m h.lo, bO_s, g, bP_s, h3]
    · rw [if_pos hq]
      exact ⟨by rw [sf_f, if_pos rfl], hq, wrB β4 0 ys, by unfold mB; rw [sf_a, sA_a], rdB_wrB _ _ _⟩
  · refine ⟨(S 13 0).a 4, (S 13 0).f 5, ?_, ?_⟩
    · rw [if_neg (by rw [lit 8192, n_le (by omega) (by omega)]; exact hq), if_neg hq, sA_self rfl, sf_self, so_self]
    · rw [if_neg hq, sA_self rfl, sf_self]
      exact ⟨o1, o2, β4, o3, o4⟩
end SAY
