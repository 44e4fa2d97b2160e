/-! RSA: the model's fillOut -/
theorem rd_getD {L : List UInt8} {f : Nat → UInt8} {n : Nat} (hl : L.length = n) (h : ∀ i, i < n → f i = L.getD i 0) : rdB f 0 n = L := by
  apply List.ext_getElem?
  intro i
  by_cases c : i < n
  · rw [rdB_at c, Nat.zero_add, h i c, List.getD_eq_getElem?_getD, List.getElem?_eq_getElem (by omega)]
    rfl
  · rw [List.getElem?_eq_none (by rw [rdB_len]; omega), List.getElem?_eq_none (by omega)]
theorem sb_k : ((0 : Int32).toInt8.toInt32 = sb 0) ∧ ((1 : Int32).toInt8.toInt32 = sb 1) ∧ ((-1 : Int32).toInt8.toInt32 = sb 255) := by decide
section FILL2
variable {W : WR} {G : mG} {F : Nat} {S : ST}
theorem QM_fill53 {n : Nat} {z : List UInt8} {γ : Nat → UInt8} (X : Cx G F W) (h : isM W) (hn : 54 ≤ n) (hn2 : n ≤ 128) (hz : z.length = 32) (eγ : rdB γ 0 32 = z) : ∀ (m j fuel : Nat) (o : Ob) (β : Nat → UInt8), m < fuel → j + m = 19 → mB o 82 β → mB o 35 γ → (∀ i, i < n - 51 + j → β i = (pkF z n).getD i 0) → ∃ o' β', B_X13_fillOut_53 G F fuel (W.ad (.o 13 0)) (Int32.ofNat n) (Int32.ofNat j) (mem W (S.so 13 0 o)) = some (mem W (S.so 13 0 o')) ∧ mB o' 82 β' ∧ rdB β' 0 n = pkF z n ∧ agr [] [] [82] [] o o' := by
  intro m
  induction m with
  | zero =>
    intro j fuel o β hf hj hb hg hi
    obtain ⟨f, rfl⟩ : ∃ f, fuel = f + 1 := ⟨fuel - 1, by omega⟩
    have hj : j = 19 := by omega
    subst hj
    have mv := QM_move (G := G) (F := F) (S := S.so 13 0 o) (k1 := 35) (k2 := 82) (p1 := 0) (p2 := n - 32) (cnt := 32) X h rfl rfl (by decide) (by decide) (by decide) (by decide) (by show _ ≤ 128; omega) (by decide) (by rw [so_eq]; exact hg) (by rw [so_eq]; exact hb)
    rw [so_so, so_eq, eγ] at mv
    have mv' : P_X13_move G F (W.ad (.a 13 0 35)) 0 (W.ad (.a 13 0 82)) (Int32.ofNat (n - 32)) 32 (mem W (S.so 13 0 o)) = _ := mv
    rw [B_X13_fillOut_53, if_pos (by decide), h.gR 35 rfl (by decide), bO_s, h.gR 82 rfl (by decide), bO_s, n_subL 32 (by omega), mv', bO_s]
    refine ⟨_, _, rfl, mB_sA _ _ _, rd_getD (pkF_len hz hn) (fun i hi2 => ?_), agr_sA (by simp)⟩
    unfold wrB
    by_cases c : n - 32 ≤ i
    · rw [if_pos ⟨c, by omega⟩]
      have := pk_5 (z := z) (n := n) (j := i - (n - 32)) hn
      rw [show n - 32 + (i - (n - 32)) = i by omega] at this
      exact this.symm
    · rw [if_neg (fun q => c q.1)]
      exact hi i (by omega)
  | succ m ih =>
    intro j fuel o β hf hj hb hg hi
    obtain ⟨f, rfl⟩ : ∃ f, fuel = f + 1 := ⟨fuel - 1, by omega⟩
    have c1 := QJ_charAt (G := G) (F := F) (S := S.so 13 0 o) (j := 113) (k := 2 * j) X (by decide) (by rw [inf_l]; omega)
    have c2 := QJ_charAt (G := G) (F := F) (S := S.so 13 0 o) (j := 113) (k := 2 * j + 1) X (by decide) (by rw [inf_l]; omega)
    have rs : rcs G (G.1 113) = some () := by
      obtain ⟨h1, v, h2, h3, h4⟩ := X.ro.1.1 113 (by decide)
      simp [rcs, h3]
    have st := h.sB' (S := S) (o := o) (k := 82) (j := n - 51 + j) (y := infB.getD j 0) rfl hb (by show _ < 128; omega) (by decide)
    obtain ⟨o', β', g, b, e, a⟩ := ih (j + 1) f (o.sA 82 (fun j' => sb (va_up β (n - 51 + j) (infB.getD j 0) j'))) (va_up β (n - 51 + j) (infB.getD j 0)) (by omega) (by omega) (mB_sA _ _ _) (mB_sA' (by decide) hg) (by
      rw [← pk_4 (z := z) hn (by omega), show n - 51 + (j + 1) = n - 51 + j + 1 by omega]
      exact up_next hi)
    refine ⟨o', β', ?_, b, e, (agr_sA (by simp)).trans a⟩
    rw [B_X13_fillOut_53, if_neg (fun q => by rw [lit 19, n_le (by omega) (by omega)] at q; omega), h.gR 82 rfl (by decide), bO_s, rs, bO_s, show (2 : Int32) * (Int32.ofNat j) = (Int32.ofNat (2 * j)) from n_mul 2 j, c1, bP_s, QM_hexOf, bP_s, bO_s, n_addL (2 * j) 1, c2, bP_s, QM_hexOf, bP_s, inf_h j (by omega), n_subL 51 (by omega), n_add, st, bO_s, n_addL j 1]
    exact g
theorem QM_fill20 {n : Nat} {z : List UInt8} {γ : Nat → UInt8} (X : Cx G F W) (h : isM W) (hn : 54 ≤ n) (hn2 : n ≤ 128) (hz : z.length = 32) (eγ : rdB γ 0 32 = z) : ∀ (m i fuel : Nat) (o : Ob) (β : Nat → UInt8), m < fuel → i + m = n - 52 → 2 ≤ i → mB o 82 β → mB o 35 γ → (∀ j, j < i → β j = (pkF z n).getD j 0) → ∃ o' β', B_X13_fillOut_20 G F fuel (W.ad (.o 13 0)) (Int32.ofNat n) (Int32.ofNat i) (mem W (S.so 13 0 o)) = some (mem W (S.so 13 0 o')) ∧ mB o' 82 β' ∧ rdB β' 0 n = pkF z n ∧ agr [] [] [82] [] o o' := by
  have hF := X.hF
  obtain ⟨k0, k1, km⟩ := sb_k
  intro m
  induction m with
  | zero =>
    intro i fuel o β hf hi h2 hb hg hj
    obtain ⟨f, rfl⟩ : ∃ f, fuel = f + 1 := ⟨fuel - 1, by omega⟩
    have hi : i = n - 52 := by omega
    subst hi
    have st := h.sB' (S := S) (o := o) (k := 82) (j := n - 52) (y := 0) rfl hb (by show _ < 128; omega) (by decide)
    obtain ⟨o', β', g, b, e, a⟩ := QM_fill53 (G := G) (F := F) (S := S) X h hn hn2 hz eγ 19 0 F (o.sA 82 (fun j' => sb (va_up β (n - 52) 0 j'))) (va_up β (n - 52) 0) (by omega) (by omega) (mB_sA _ _ _) (mB_sA' (by decide) hg) (by
      have := up_next hj
      rw [pk_3 hn] at this
      rw [show n - 51 + 0 = n - 52 + 1 by omega]
      exact this)
    refine ⟨o', β', ?_, b, e, (agr_sA (by simp)).trans a⟩
    rw [B_X13_fillOut_20, n_subL 52 (by omega), if_pos ((n_le (by omega) (by omega)).mpr (Nat.le_refl _)), h.gR 82 rfl (by decide), bO_s, k0, st, bO_s]
    exact g
  | succ m ih =>
    intro i fuel o β hf hi h2 hb hg hj
    obtain ⟨f, rfl⟩ : ∃ f, fuel = f + 1 := ⟨fuel - 1, by omega⟩
    have st := h.sB' (S := S) (o := o) (k := 82) (j := i) (y := 255) rfl hb (by show _ < 128; omega) (by decide)
    obtain ⟨o', β', g, b, e, a⟩ := ih (i + 1) f (o.sA 82 (fun j' => sb (va_up β i 255 j'))) (va_up β i 255) (by omega) (by omega) (by omega) (mB_sA _ _ _) (mB_sA' (by decide) hg) (by
      have := up_next hj
      rw [pk_2 h2 (by omega)] at this
      exact this)
    refine ⟨o', β', ?_, b, e, (agr_sA (by simp)).trans a⟩
    rw [B_X13_fillOut_20, n_subL 52 (by omega), if_neg (fun q => by rw [n_le (by omega) (by omega)] at q; omega), h.gR 82 rfl (by decide), bO_s, km, st, bO_s, n_addL i 1]
    exact g
theorem QM_fillOut {n : Nat} {msg : List UInt8} (X : Cx G F W) (h : isM W) (hd : mDig (S 13 0)) (hm : mMsg (S 13 0) msg) (h82 : ∃ β, mB (S 13 0) 82 β) (hn : 54 ≤ n) (hn2 : n ≤ 128) : ∃ o β, P_X13_fillOut G F (W.ad (.o 13 0)) (Int32.ofNat n) (mem W S) = some (mem W (S.so 13 0 o)) ∧ mB o 82 β ∧ rdB β 0 n = pkF (sha false msg) n ∧ mDig o ∧ agr [37] [] [36, 31, 32, 35, 82] [33, 34] (S 13 0) o := by
  have hF := X.hF
  obtain ⟨k0, k1, km⟩ := sb_k
  obtain ⟨β, h82⟩ := h82
  obtain ⟨o0, γ, g0, b0, d0, a0⟩ := QM_digestMessage (G := G) (F := F) X h hd hm
  have s1 := h.sB' (S := S) (o := o0) (k := 82) (j := 0) (y := 0) rfl (a0.mB h82 (by decide)) (by decide) (by decide)
  have s1' : sI (mem W (S.so 13 0 o0)) 1 (W.ad (.a 13 0 82)) 0 (sb 0) = _ := s1
  have s2 := h.sB' (S := S) (o := o0.sA 82 (fun j' => sb (va_up β 0 0 j'))) (k := 82) (j := 1) (y := 1) rfl (mB_sA _ _ _) (by decide) (by decide)
  have s2' : sI (mem W (S.so 13 0 (o0.sA 82 (fun j' => sb (va_up β 0 0 j'))))) 1 (W.ad (.a 13 0 82)) 1 (sb 1) = _ := s2
  have e0 : rdB (wrB γ 0 (sha false msg)) 0 32 = sha false msg := by
    have := rdB_wrB γ 0 (sha false msg)
    rw [sha_len] at this
    exact this
  obtain ⟨o', β', g, b, e, a⟩ := QM_fill20 (G := G) (F := F) (S := S) (n := n) (z := sha false msg) X h hn hn2 (by rw [sha_len]; rfl) e0 (n - 54) 2 F ((o0.sA 82 (fun j' => sb (va_up β 0 0 j'))).sA 82 (fun j' => sb (va_up (va_up β 0 0) 1 1 j'))) (va_up (va_up β 0 0) 1 1) (by omega) (by omega) (by omega) (mB_sA _ _ _) (mB_sA' (by decide) (mB_sA' (by decide) b0)) (by
    intro j hj
    have : j = 0 ∨ j = 1 := by omega
    rcases this with rfl | rfl
    · rfl
    · rfl)
  have aa : agr [] [] [82] [] o0 o' := ((agr_sA (by simp)).trans (agr_sA (by simp))).trans a
  refine ⟨o', β', ?_, b, e, aa.mDig d0 (by decide), (a0.mono (by simp) (by simp) (by simp) (by simp)).trans (aa.mono (by simp) (by simp) (by simp) (by simp))⟩
  unfold P_X13_fillOut
  rw [rcv_m h.lo, bO_s, g0, bO_s, h.gR 82 rfl (by decide), bO_s, k0, s1', bO_s, h.gR 82 rfl (by decide), bO_s, k1, s2', bO_s]
  exact g
end FILL2
