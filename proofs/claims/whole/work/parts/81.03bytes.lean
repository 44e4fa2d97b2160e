/-! BYTES, ON: copies, Strings, comparing -/
theorem getD_mem {α : Type} {l : List α} {k : Nat} {d : α} (h : k < l.length) : l.getD k d ∈ l := by
  rw [List.getD_eq_getElem?_getD, List.getElem?_eq_getElem h]
  exact List.getElem_mem h
section COPY
variable {W : WR} {S : ST} {G : mG} {c i k c' i' k' : Nat}
theorem srI_m (h : W.live (.a c i k) = true) (q : (kdA c)[k]? = some 0) : srI G (mem W S) (W.ad (.a c i k)) = some (W.n (.a c i k), (S c i).a k) := by
  unfold srI
  rw [mem_at h]
  simp [cell, cellB, h, acl, q]
theorem srL_m (h : W.live (.a c i k) = true) (q : (kdA c)[k]? = some 2) : srL G (mem W S) (W.ad (.a c i k)) = some (W.n (.a c i k), (S c i).l k) := by
  unfold srL
  rw [mem_at h]
  simp [cell, cellB, h, acl, q]
theorem sA_m (h : W.live (.a c i k) = true) (q : (kdA c)[k]? = some 0) (f : Nat → Int32) : va_up (mem W S) (W.ad (.a c i k)) (some (.inl (0, W.n (.a c i k), .inl f))) = mem W (S.so c i ((S c i).sA k f)) := by
  refine mem_up (W' := W) h ?_ (fun y hy => cell_a hy (fun c' i' hn => so_ne hn) (by rw [so_eq]; rfl) (by rw [so_eq]; rfl) (fun k' hk => by rw [so_eq]; simp [sA_at, hk]) (fun k' hk => by rw [so_eq]; rfl) (by rw [so_eq]; rfl))
  simp [cell, cellB, h, acl, q, so_eq, sA_at]
theorem nn {a : Nat} (ha : a < 2 ^ 31) : ¬ (Int32.ofNat a) < 0 := by rw [z32, n_lt ha (by omega)]; omega
theorem cpI_g {p q m na : Nat} {f : Nat → Int32} {a : Nat} (hs : srI G (mem W S) a = some (na, f)) (h2 : W.live (.a c' i' k') = true) (q2 : (kdA c')[k']? = some 0) (hp : p < 2 ^ 31) (hq : q < 2 ^ 31) (hm : m < 2 ^ 31) (b1 : p + m ≤ na) (b2 : q + m ≤ W.n (.a c' i' k')) : cpI G (mem W S) a (Int32.ofNat p) (W.ad (.a c' i' k')) (Int32.ofNat q) (Int32.ofNat m) = some (mem W (S.so c' i' ((S c' i').sA k' (va_cpy f ((S c' i').a k') p q m)))) := by
  unfold cpI
  rw [hs, mem_at h2]
  have e : cell W S (.a c' i' k') = some (.inl (0, W.n (.a c' i' k'), .inl ((S c' i').a k'))) := by simp [cell, cellB, h2, acl, q2]
  rw [e]
  show (if _ then some _ else none) = _
  rw [if_pos ⟨rfl, nn hp, nn hq, nn hm, by rw [n_at hp, n_at hm]; exact b1, by rw [n_at hq, n_at hm]; exact b2⟩, n_at hp, n_at hq, n_at hm]
  congr 1
  exact sA_m h2 q2 _
end COPY
/-- what the constants say, and that no other table lies where a String's bytes lie -/
def RoQ (G : mG) (sz : Nat) : Prop := RoOK G sz ∧ ∀ j v, j < 124 → G.2.1 (G.1 j) = some [.ref v, .int 0] → roN G v = some (mbyt.getD j []).length
/-- THE PURE THEOREM, as a word -/
def PureG : Prop := ∀ (G : mG) (b L : Nat) (xs : Nat → Int32) (sz : Nat), RoQ G sz → b < sz → G.2.2.1 b = some (L, xs) → L ≤ 4096 → ∃ (F : Nat) (M : mM) (Z S : Nat), P_L_law G F b (fun _ => none) sz 0 = some (1, M, Z, S) ∧ Z - sz ≤ 600000 ∧ S ≤ 7302250
section STR
variable {W : WR} {S : ST} {G : mG} {F : Nat}
/-- the world of the pure theorem: constants below the store, fuel -/
abbrev Cx (G : mG) (F : Nat) (W : WR) : Prop := RoQ G W.lo ∧ 100000 ≤ F
theorem Cx.ro {G : mG} {F : Nat} {W : WR} (h : Cx G F W) : RoQ G W.lo := h.1
theorem Cx.hF {G : mG} {F : Nat} {W : WR} (h : Cx G F W) : 100000 ≤ F := h.2
theorem mby_ok : ∀ j, j < 124 → ∀ c ∈ mbyt.getD j [], (0 ≤ ((c &&& (255 : Int32)).toUInt32 % 65536).toInt32 ∧ ((c &&& (255 : Int32)).toUInt32 % 65536).toInt32 ≤ 65535) ∧ ((c &&& (255 : Int32)).toUInt32 % 65536).toInt32 = c := by decide +kernel
theorem mby_len : ∀ j, j < 124 → (mbyt.getD j []).length < 100 := by decide +kernel
theorem QJ_length {j : Nat} (X : Cx G F W) (hj : j < 124) : P_J0_length_8abf5 G F (G.1 j) (mem W S) = some ((Int32.ofNat (mbyt.getD j []).length), mem W S) := by
  obtain ⟨h1, v, h2, h3, h4⟩ := X.ro.1.1 j hj
  have h5 := mby_len j hj
  unfold P_J0_length_8abf5 P_J0_coder_7d493
  have e1 : sVl G (G.1 j) = some v := by simp [sVl, h3]
  have e2 : sCo G (G.1 j) = some 0 := by simp [sCo, h3]
  have e3 : rcs G (G.1 j) = some () := by simp [rcs, h3]
  have e4 : aln G (mem W S) v = some (Int32.ofNat (mbyt.getD j []).length) := by
    unfold aln
    rw [mem_lo h2]
    simp [X.ro.2 j v hj h3]
  simp only [e1, e2, e3, e4, bO_s, bP_s]
  have e5 : (if (1 : Int32) = 0 then retZ (1 : Int32) (mem W S) else retZ 0 (mem W S)) = some (0, mem W S) := by
    rw [if_neg (by decide)]
    rfl
  rw [e5, bP_s]
  have e6 : (0 : Int32) &&& 31 = 0 := by decide
  rw [e6, Int32.shiftRight_zero]
theorem QJ_charAt {j k : Nat} (X : Cx G F W) (hj : j < 124) (hk : k < (mbyt.getD j []).length) : P_J0_charAt_5068e G F (G.1 j) (Int32.ofNat k) (mem W S) = some ((mbyt.getD j []).getD k 0, mem W S) := by
  obtain ⟨h1, v, h2, h3, h4⟩ := X.ro.1.1 j hj
  have h5 := mby_len j hj
  have h6 := mby_ok j hj ((mbyt.getD j []).getD k 0) (getD_mem hk)
  unfold P_J0_charAt_5068e P_J0_isLatin1_aae02 P_J1_charAt_3b067
  have e1 : sVl G (G.1 j) = some v := by simp [sVl, h3]
  have e2 : sCo G (G.1 j) = some 0 := by simp [sCo, h3]
  have e3 : rcs G (G.1 j) = some () := by simp [rcs, h3]
  have e4 : aln G (mem W S) v = some (Int32.ofNat (mbyt.getD j []).length) := by
    unfold aln
    rw [mem_lo h2]
    simp [X.ro.2 j v hj h3]
  have e7 : P_J0_checkIndex_df160 G F (Int32.ofNat k) (Int32.ofNat (mbyt.getD j []).length) (mem W S) = some (mem W S) := by
    unfold P_J0_checkIndex_df160
    rw [if_pos ⟨by rw [z32, n_le (by omega) (by omega)]; omega, (n_lt (by omega) (by omega)).mpr hk⟩]
  have e8 : aI G (mem W S) 1 v (Int32.ofNat k) = some ((mbyt.getD j []).getD k 0) := by
    unfold aI
    rw [mem_lo h2]
    simp only [Nat.one_ne_zero, if_false, if_true, h4]
    rw [if_pos (inB_n hk (by omega)), n_at (by omega)]
  simp only [e1, e2, e3, bO_s, bP_s]
  rw [if_neg (by decide : ¬ (1 : Int32) = 0), if_pos trivial]
  have e9 : retZ (1 : Int32) (mem W S) = some (1, mem W S) := rfl
  rw [e9, bP_s, if_neg (by decide : ¬ (1 : Int32) = 0)]
  simp only [e4, e7, e8, bO_s, bP_s, h6.2]
  have e10 : retC ((mbyt.getD j []).getD k 0) (mem W S) = some ((mbyt.getD j []).getD k 0, mem W S) := by
    unfold retC
    rw [if_pos ⟨by rw [← h6.2]; exact h6.1.1, by rw [← h6.2]; exact h6.1.2⟩]
  rw [e10, bP_s, e10]
/-- what a String says, as bytes -/
def str (j : Nat) : List UInt8 := (mbyt.getD j []).map lo8
end STR
