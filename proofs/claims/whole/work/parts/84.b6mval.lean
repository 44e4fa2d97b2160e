/-! VALUES WRITTEN: the model -/
section MVL
variable {W : WR} {G : mG} {F : Nat} {S : ST} {bk : Nat} {J : JT} {o : Ob}
theorem mvo (h : isM W) (k j : Nat) (hj : j < 1200) (hk : k ∈ [6, 7, 8, 9, 10, 11, 12, 13, 14] := by decide) : aI G (mem W (S.so 13 0 o)) 0 (W.ad (.a 13 0 k)) (Int32.ofNat j) = some (o.a k j) := by
  rw [mva h k j hj hk, so_eq]
theorem oM_sayAll {j : Nat} {L : List UInt8} (X : Cx G F W) (h : isM W) (hj : j < 124) (hd : mDr o L) (hl : L.length < 2 ^ 29) : ∃ o', P_X13_sayAll G F (W.ad (.o 13 0)) (G.1 j) (mem W (S.so 13 0 o)) = some (mem W (S.so 13 0 o')) ∧ mDr o' (L ++ str j) ∧ agr [28] [] [27] [] o o' := by
  obtain ⟨f, v, g, d⟩ := QM_sayAll (G := G) (F := F) (S := S.so 13 0 o) (ys := L) X h hj (by rw [so_eq]; exact hd) hl
  rw [so_eq, so_so] at g
  rw [so_eq] at d
  exact ⟨_, g, d, agr_dr⟩
theorem m_seg {β : Nat → UInt8} {a n : Nat} (hb : rdB β (8200 * bk) J.2.2.length = J.2.2) (hl : a + n ≤ J.2.2.length) : rdB β (8200 * bk + a) n = seg J.2.2 a n := by
  have := seg_rd (β := β) (p := 8200 * bk) (n := J.2.2.length) (a := a) (b := n) hl
  rw [hb] at this
  exact this.symm
/-- a number's bytes -/
theorem oM_sayNum {rv_ : Nat → Int32 → mM → Option mM} {v : Nat} (X : Cx G F W) (h : isM W) (hbk : bk ≤ 1) (Y : JX J) (hv : v < J.1) : ∀ (m k f : Nat) (o : Ob) (L : List UInt8), k + m = J.2.1 7 v → m < f → MTx o bk J → mDr o L → L.length + m < 2 ^ 28 → ∃ o', B_X13_sayValue_o_50 G F rv_ f (W.ad (.o 13 0)) (Int32.ofNat (600 * bk + v)) (Int32.ofNat k) (mem W (S.so 13 0 o)) = some (mem W (S.so 13 0 o')) ∧ mDr o' (L ++ seg J.2.2 (J.2.1 6 v + k) m) ∧ agr [28] [] [27] [] o o' := by
  have Y2 := Y.2.1
  have yv := Y.2.2 v hv
  have y1 := Y.1
  intro m
  induction m with
  | zero =>
    intro k f o L hk hf M hd hl
    obtain ⟨f, rfl⟩ : ∃ q, f = q + 1 := ⟨f - 1, by omega⟩
    have tv := M.2.1 v (Nat.zero_le _) hv
    refine ⟨o, ?_, by rw [show seg J.2.2 (J.2.1 6 v + k) 0 = [] from rfl, List.append_nil]; exact hd, agr.refl _ _ _ _ _⟩
    rw [B_X13_sayValue_o_50, mvr h 12, bO_s, mvo h 12 _ (by omega), bO_s, tv.2.2.2.2.2.2.1, if_pos ((n_le (by omega) (by omega)).mpr (by omega))]
  | succ m ih =>
    intro k f o L hk hf M hd hl
    obtain ⟨f, rfl⟩ : ∃ q, f = q + 1 := ⟨f - 1, by omega⟩
    have tv := M.2.1 v (Nat.zero_le _) hv
    obtain ⟨β, hb, hp⟩ := M.2.2
    obtain ⟨o1, g1, d1, a1⟩ := oM_sayc (G := G) (F := F) (S := S) (x := sb (β (8200 * bk + J.2.1 6 v + k))) (y := β (8200 * bk + J.2.1 6 v + k)) h hd (by omega) (lo8_sb _)
    obtain ⟨o2, g2, d2, a2⟩ := ih (k + 1) f o1 _ (by omega) (by omega) (M.agr a1 (by decide)) d1 (by rw [List.length_append]; show _ + 1 + _ < _; omega)
    refine ⟨o2, ?_, ?_, a1.trans a2⟩
    · rw [B_X13_sayValue_o_50, mvr h 12, bO_s, mvo h 12 _ (by omega), bO_s, tv.2.2.2.2.2.2.1, if_neg (fun q => absurd ((n_le (by omega) (by omega)).mp q) (by omega)), h.gR 15 rfl (by decide), bO_s, mvr h 11, bO_s, mvo h 11 _ (by omega), bO_s, tv.2.2.2.2.2.1, n_add, h.aB' (k := 15) rfl hb (by show _ < 16400; omega) (by decide), bO_s, rcv_m h.lo, bO_s, g1, bO_s, n_i1, g2]
    · have e : seg J.2.2 (J.2.1 6 v + k) (m + 1) = β (8200 * bk + J.2.1 6 v + k) :: seg J.2.2 (J.2.1 6 v + (k + 1)) m := by
        rw [← m_seg hp (show J.2.1 6 v + k + (m + 1) ≤ J.2.2.length by omega), ← m_seg hp (show J.2.1 6 v + (k + 1) + m ≤ J.2.2.length by omega), rdB_succ, show 8200 * bk + (J.2.1 6 v + k) = 8200 * bk + J.2.1 6 v + k by omega, show 8200 * bk + J.2.1 6 v + k + 1 = 8200 * bk + (J.2.1 6 v + (k + 1)) by omega]
      rw [e]
      rw [List.append_assoc] at d2
      exact d2
def mSub (W : WR) (S : ST) (bk : Nat) (J : JT) (rv_ : Nat → Int32 → mM → Option mM) (R : Nat → Nat → List UInt8 → Prop) : Prop := ∀ v e Lv o L, R v e Lv → e ≤ J.1 → MTx o bk J → mDr o L → L.length + Lv.length < 2 ^ 27 → ∃ o', rv_ (W.ad (.o 13 0)) (Int32.ofNat (600 * bk + v)) (mem W (S.so 13 0 o)) = some (mem W (S.so 13 0 o')) ∧ mDr o' (L ++ Lv) ∧ agr [28] [] [27] [] o o'
/-- what is not in v itself is passed over -/
theorem oM_skip {rv_ : Nat → Int32 → mM → Option mM} {v n : Nat} {l2 : Int32} (h : isM W) (hbk : bk ≤ 1) (Y : JX J) (M : MTx o bk J) (hv : v < J.1) (hn : n < J.2.1 5 v) : ∀ (m a f : Nat), a + m ≤ J.1 → (∀ i, a ≤ i → i < a + m → J.2.1 2 i ≠ v + 1) → B_X13_sayValue_o_153 G F rv_ (f + m) (W.ad (.o 13 0)) (Int32.ofNat (600 * bk + v)) l2 (Int32.ofNat (600 * bk)) (Int32.ofNat n) (Int32.ofNat (600 * bk + a)) (mem W (S.so 13 0 o)) = B_X13_sayValue_o_153 G F rv_ f (W.ad (.o 13 0)) (Int32.ofNat (600 * bk + v)) l2 (Int32.ofNat (600 * bk)) (Int32.ofNat n) (Int32.ofNat (600 * bk + (a + m))) (mem W (S.so 13 0 o)) := by
  have Y2 := Y.2.1
  intro m
  induction m with
  | zero => exact fun a f _ _ => rfl
  | succ m ih =>
    intro a f ha hi
    have tv := M.2.1 v (Nat.zero_le _) hv
    have ta := M.2.1 a (Nat.zero_le _) (by omega)
    have yv := Y.2.2 v hv
    have ya := Y.2.2 a (by omega)
    rw [show f + (m + 1) = (f + m) + 1 by omega, B_X13_sayValue_o_153, show (Int32.ofNat (600 * bk)) + (600 : Int32) = (Int32.ofNat (600 * bk + 600)) from n_add _ 600, if_neg (fun q => absurd ((n_le (by omega) (by omega)).mp q) (by omega)), mvr h 10, bO_s, mvo h 10 _ (by omega), bO_s, tv.2.2.2.2.1, if_neg (fun q => absurd ((n_le (by omega) (by omega)).mp q) (by omega)), mvr h 7, bO_s, mvo h 7 _ (by omega), bO_s, ta.2.1, n_sub (by omega), show 600 * bk + v - 600 * bk = v by omega, if_neg (fun q => hi a (Nat.le_refl _) (by omega) ((paI_eq (by omega) (by omega)).mp q)), n_i1, show 600 * bk + a + 1 = 600 * bk + (a + 1) by omega, ih (a + 1) f (by omega) (fun i p q => hi i (by omega) (by omega)), show a + 1 + m = a + (m + 1) by omega]
theorem oM_kids {rv_ : Nat → Int32 → mM → Option mM} {v : Nat} {R : Nat → Nat → List UInt8 → Prop} (X : Cx G F W) (h : isM W) (hbk : bk ≤ 1) (Y : JX J) (hR : mSub W S bk J rv_ R) (hin : ∀ a b L, R a b L → ∀ i, a < i → i < b → a + 1 ≤ J.2.1 2 i) (hv : v < J.1) (h5 : 5 ≤ J.2.1 1 v) : ∀ (r k e n f : Nat) (L' L : List UInt8) (o : Ob), kdO R J.2.1 J.2.2 v r k e n L' → v < k → e ≤ J.1 → n + r = J.2.1 5 v → e - k < f → MTx o bk J → mDr o L → L.length + L'.length + 1 < 2 ^ 27 → ∃ o', B_X13_sayValue_o_153 G F rv_ f (W.ad (.o 13 0)) (Int32.ofNat (600 * bk + v)) (Int32.ofNat (J.2.1 1 v)) (Int32.ofNat (600 * bk)) (Int32.ofNat n) (Int32.ofNat (600 * bk + k)) (mem W (S.so 13 0 o)) = some (mem W (S.so 13 0 o')) ∧ mDr o' (L ++ (L' ++ [clV J.2.1 v])) ∧ agr [28] [] [27] [] o o' := by
  have Y2 := Y.2.1
  have y1 := Y.1
  have yv := Y.2.2 v hv
  have k6 : J.2.1 1 v = 5 ∨ J.2.1 1 v = 6 := by omega
  intro r
  induction r with
  | zero =>
    intro k e n f L' L o hk hvk he hn hf M hd hl
    obtain ⟨f, rfl⟩ : ∃ q, f = q + 1 := ⟨f - 1, by omega⟩
    obtain ⟨k1, k2⟩ := hk
    subst k1
    subst k2
    have tv := M.2.1 v (Nat.zero_le _) hv
    have cl : ∀ P : Option mM, P = (if (Int32.ofNat (J.2.1 1 v)) = (5 : Int32) then (bO (rcv (mem W (S.so 13 0 o)) (W.ad (.o 13 0)) 13) fun _ => bO (P_X13_say G F (W.ad (.o 13 0)) (93 : Int32) (mem W (S.so 13 0 o))) fun M260 => some M260) else (bO (rcv (mem W (S.so 13 0 o)) (W.ad (.o 13 0)) 13) fun _ => bO (P_X13_say G F (W.ad (.o 13 0)) (125 : Int32) (mem W (S.so 13 0 o))) fun M260 => some M260)) → ∃ o', P = some (mem W (S.so 13 0 o')) ∧ mDr o' (L ++ ([] ++ [clV J.2.1 v])) ∧ agr [28] [] [27] [] o o' := by
      intro P hP
      rw [hP]
      have hl : L.length < 2 ^ 30 := by omega
      rcases k6 with k5 | k5
      · obtain ⟨o1, g1, d1, a1⟩ := oM_sayc (G := G) (F := F) (S := S) (x := 93) (y := 93) h hd hl rfl
        refine ⟨o1, ?_, by rw [show clV J.2.1 v = 93 by unfold clV; rw [k5]; rfl]; exact d1, a1⟩
        rw [k5, if_pos (show (Int32.ofNat 5) = (5 : Int32) from rfl), rcv_m h.lo, bO_s, g1, bO_s]
      · obtain ⟨o1, g1, d1, a1⟩ := oM_sayc (G := G) (F := F) (S := S) (x := 125) (y := 125) h hd hl rfl
        refine ⟨o1, ?_, by rw [show clV J.2.1 v = 125 by unfold clV; rw [k5]; rfl]; exact d1, a1⟩
        rw [k5, if_neg (show ¬ (Int32.ofNat 6) = (5 : Int32) by decide), rcv_m h.lo, bO_s, g1, bO_s]
    refine cl _ ?_
    rw [B_X13_sayValue_o_153, mvr h 10, bO_s, mvo h 10 _ (by omega), bO_s, tv.2.2.2.2.1, if_pos (show (Int32.ofNat (J.2.1 5 v)) ≤ (Int32.ofNat n) from (n_le (by omega) (by omega)).mpr (by omega)), ite_self]
  | succ r ih =>
    intro k e n f L' L o hk hvk he hn hf M hd hl
    obtain ⟨a1, a2, k', L1, L2, b1, b2, b3, b4, b5⟩ := hk
    obtain ⟨f, rfl⟩ : ∃ q, f = q + 1 := ⟨f - 1, by omega⟩
    have tv := M.2.1 v (Nat.zero_le _) hv
    have tk := M.2.1 k (Nat.zero_le _) (by omega)
    have yk := Y.2.2 k (by omega)
    have ll : L'.length = (spV n).length + (nmV J.2.1 J.2.2 v k).length + (L1.length + L2.length) := by
      rw [b5]
      simp only [List.length_append]
    have fin : ∀ (o1 : Ob), agr [28] [] [27] [] o o1 → mDr o1 (L ++ (spV n ++ nmV J.2.1 J.2.2 v k)) → ∃ o', (bO (rcv (mem W (S.so 13 0 o1)) (W.ad (.o 13 0)) 13) fun _ => bO (rv_ (W.ad (.o 13 0)) (Int32.ofNat (600 * bk + k)) (mem W (S.so 13 0 o1))) fun M238 => B_X13_sayValue_o_153 G F rv_ f (W.ad (.o 13 0)) (Int32.ofNat (600 * bk + v)) (Int32.ofNat (J.2.1 1 v)) (Int32.ofNat (600 * bk)) ((Int32.ofNat n) + 1) ((Int32.ofNat (600 * bk + k)) + 1) M238) = some (mem W (S.so 13 0 o')) ∧ mDr o' (L ++ (L' ++ [clV J.2.1 v])) ∧ agr [28] [] [27] [] o o' := by
      intro o1 c1 d1
      have M1 := M.agr c1 (by decide)
      obtain ⟨o2, g2, d2, c2⟩ := hR k k' L1 o1 _ b3 (by omega) M1 d1 (by simp only [List.length_append]; omega)
      have M2 := M1.agr c2 (by decide)
      obtain ⟨o3, g3, d3, c3⟩ := ih k' e (n + 1) (f - (k' - k - 1)) L2 _ o2 b4 (by omega) he (by omega) (by omega) M2 d2 (by simp only [List.length_append]; omega)
      refine ⟨o3, ?_, ?_, (c1.trans c2).trans c3⟩
      · rw [rcv_m h.lo, bO_s, g2, bO_s, n_i1, n_i1, show 600 * bk + k + 1 = 600 * bk + (k + 1) by omega]
        by_cases hr : r = 0
        · -- the last one: what follows is never looked at
          subst hr
          have e5 : n + 1 = J.2.1 5 v := by omega
          obtain ⟨f, rfl⟩ : ∃ q, f = q + 1 := ⟨f - 1, by omega⟩
          have t2 := M2.2.1 v (Nat.zero_le _) hv
          obtain ⟨w, hw⟩ : ∃ w, f + 1 - (k' - k - 1) = w + 1 := ⟨f + 1 - (k' - k - 1) - 1, by omega⟩
          have cls : ∀ (f : Nat) (l5 : Int32), B_X13_sayValue_o_153 G F rv_ (f + 1) (W.ad (.o 13 0)) (Int32.ofNat (600 * bk + v)) (Int32.ofNat (J.2.1 1 v)) (Int32.ofNat (600 * bk)) (Int32.ofNat (n + 1)) l5 (mem W (S.so 13 0 o2)) = (if (Int32.ofNat (J.2.1 1 v)) = (5 : Int32) then (bO (rcv (mem W (S.so 13 0 o2)) (W.ad (.o 13 0)) 13) fun _ => bO (P_X13_say G F (W.ad (.o 13 0)) (93 : Int32) (mem W (S.so 13 0 o2))) fun M260 => some M260) else (bO (rcv (mem W (S.so 13 0 o2)) (W.ad (.o 13 0)) 13) fun _ => bO (P_X13_say G F (W.ad (.o 13 0)) (125 : Int32) (mem W (S.so 13 0 o2))) fun M260 => some M260)) := by
            intro f l5
            rw [B_X13_sayValue_o_153, mvr h 10, bO_s, mvo h 10 _ (by omega), bO_s, t2.2.2.2.2.1, if_pos (show (Int32.ofNat (J.2.1 5 v)) ≤ (Int32.ofNat (n + 1)) from (n_le (by omega) (by omega)).mpr (by omega)), ite_self]
          rw [← g3, hw, cls, cls]
        · have sk := oM_skip (G := G) (F := F) (S := S) (rv_ := rv_) (l2 := (Int32.ofNat (J.2.1 1 v))) (n := n + 1) h hbk Y M2 hv (by omega) (k' - k - 1) (k + 1) (f - (k' - k - 1)) (by omega) (fun i p q => by have := hin _ _ _ b3 i (by omega) (by omega); omega)
          rw [show f - (k' - k - 1) + (k' - k - 1) = f by omega, show k + 1 + (k' - k - 1) = k' by omega] at sk
          rw [sk, g3]
      · rw [b5]
        simp only [List.append_assoc] at d3 ⊢
        exact d3
    have b198 : ∀ (o1 : Ob), agr [28] [] [27] [] o o1 → mDr o1 (L ++ spV n) → ∃ o', B_X13_sayValue_o_198 G F rv_ (B_X13_sayValue_o_153 G F rv_ f) (W.ad (.o 13 0)) (Int32.ofNat (600 * bk + v)) (Int32.ofNat (J.2.1 1 v)) (Int32.ofNat (600 * bk)) (Int32.ofNat n) (Int32.ofNat (600 * bk + k)) (mem W (S.so 13 0 o1)) = some (mem W (S.so 13 0 o')) ∧ mDr o' (L ++ (L' ++ [clV J.2.1 v])) ∧ agr [28] [] [27] [] o o' := by
      intro o1 c1 d1
      have M1 := M.agr c1 (by decide)
      unfold B_X13_sayValue_o_198
      by_cases h6 : J.2.1 1 v = 6
      · have t1 := (M1.2.1 k (Nat.zero_le _) (by omega)).2.2.2.2.2.2.2.1 ⟨by omega, by rw [a1]; exact h6⟩
        obtain ⟨β, hb, hp⟩ := M1.2.2
        have en : nmV J.2.1 J.2.2 v k = strP (seg J.2.2 (J.2.1 8 k) (J.2.1 9 k)) ++ [58] := if_pos h6
        have ln : (nmV J.2.1 J.2.2 v k).length = (strP (seg J.2.2 (J.2.1 8 k) (J.2.1 9 k))).length + 1 := by rw [en, List.length_append]; rfl
        obtain ⟨o2, g2, d2, c2⟩ := oM_sayString (G := G) (F := F) (S := S) (kb := 15) (p := 8200 * bk + J.2.1 8 k) (n := J.2.1 9 k) X h rfl (by decide) (by show _ ≤ 16400; omega) (by decide) d1 hb (by rw [List.length_append]; omega) (by omega)
        rw [m_seg hp (by omega)] at d2
        obtain ⟨o3, g3, d3, c3⟩ := oM_sayc (G := G) (F := F) (S := S) (x := 58) (y := 58) h d2 (by simp only [List.length_append]; omega) rfl
        obtain ⟨o4, g4, q4⟩ := fin o3 ((c1.trans c2).trans c3) (by rw [en]; simp only [List.append_assoc] at d3 ⊢; exact d3)
        refine ⟨o4, ?_, q4⟩
        rw [if_pos (by rw [h6]; rfl), h.gR 15 rfl (by decide), bO_s, mvr h 13, bO_s, mvo h 13 _ (by omega), bO_s, mvr h 14, bO_s, mvo h 14 _ (by omega), bO_s, rcv_m h.lo, bO_s, t1.1, t1.2, g2, bO_s, rcv_m h.lo, bO_s, g3, bO_s]
        exact g4
      · rw [if_neg (show ¬ (Int32.ofNat (J.2.1 1 v)) = (6 : Int32) from fun q => h6 ((n_eq (b := 6) (by omega) (by decide)).mp q))]
        exact fin o1 c1 (by rw [show nmV J.2.1 J.2.2 v k = [] from if_neg h6, List.append_nil]; exact d1)
    rw [B_X13_sayValue_o_153, show (Int32.ofNat (600 * bk)) + (600 : Int32) = (Int32.ofNat (600 * bk + 600)) from n_add _ 600, if_neg (fun q => absurd ((n_le (by omega) (by omega)).mp q) (by omega)), mvr h 10, bO_s, mvo h 10 _ (by omega), bO_s, tv.2.2.2.2.1, if_neg (fun q => absurd ((n_le (by omega) (by omega)).mp q) (by omega)), mvr h 7, bO_s, mvo h 7 _ (by omega), bO_s, tk.2.1, n_sub (by omega), show 600 * bk + v - 600 * bk = v by omega, if_pos ((paI_eq (by omega) (by omega)).mpr a1)]
    by_cases h0 : n = 0
    · rw [if_pos (by rw [h0]; decide)]
      exact b198 o (agr.refl _ _ _ _ _) (by rw [show spV n = [] from if_pos h0, List.append_nil]; exact hd)
    · obtain ⟨o1, g1, d1, c1⟩ := oM_sayc (G := G) (F := F) (S := S) (x := 44) (y := 44) h hd (by omega) rfl
      rw [if_neg (show ¬ (Int32.ofNat n) ≤ (0 : Int32) from fun q => h0 (by have := (n_le (b := 0) (by omega) (by omega)).mp q; omega)), rcv_m h.lo, bO_s, g1, bO_s]
      exact b198 o1 c1 (by rw [show spV n = [44] from if_neg h0]; exact d1)
theorem st_79 : str 81 = str 12 ∧ str 80 = str 13 ∧ str 79 = str 14 := by decide +kernel
theorem oM_sayV (X : Cx G F W) (h : isM W) (hbk : bk ≤ 1) (Y : JX J) : ∀ d, mSub W S bk J (PD_X13_sayValue G F d) (ouV J.2.1 J.2.2 d) := by
  have Y2 := Y.2.1
  have y1 := Y.1
  have hF := X.hF
  intro d
  induction d with
  | zero => exact fun _ _ _ _ _ h => absurd h id
  | succ d ih =>
    intro v e Lv o L hv he M hd hl
    have hlt := ouV_lt hv
    have yv := Y.2.2 v (by omega)
    have tv := M.2.1 v (Nat.zero_le _) (by omega)
    have ek : ∀ n : Nat, n < 100 → ((Int32.ofNat (J.2.1 1 v)) = (Int32.ofNat n)) = (J.2.1 1 v = n) := fun n hn => propext (n_eq (by omega) (by omega))
    rw [PD_X13_sayValue]
    unfold P_X13_sayValue_o
    rw [mvr h 6, bO_s, mvo h 6 _ (by omega), bO_s, tv.1]
    rcases hv with ⟨a, b, c⟩ | ⟨a, b, L', c, dL⟩
    · have w : ∀ j, j < 124 → Lv = str j → ∃ o', (bO (rcv (mem W (S.so 13 0 o)) (W.ad (.o 13 0)) 13) fun _ => bO (P_X13_sayAll G F (W.ad (.o 13 0)) (G.1 j) (mem W (S.so 13 0 o))) fun M37 => some M37) = some (mem W (S.so 13 0 o')) ∧ mDr o' (L ++ Lv) ∧ agr [28] [] [27] [] o o' := by
        intro j hj e
        obtain ⟨o1, g1, d1, a1⟩ := oM_sayAll (G := G) (F := F) (S := S) X h hj hd (by omega)
        exact ⟨o1, by rw [rcv_m h.lo, bO_s, g1, bO_s], by rw [e]; exact d1, a1⟩
      by_cases k0 : J.2.1 1 v = 0
      · rw [if_neg (by rw [k0]; decide), if_pos (by rw [k0]; rfl)]
        exact w 81 (by decide) (by rw [c, st_79.1]; unfold scV; rw [k0]; rfl)
      by_cases k1 : J.2.1 1 v = 1
      · rw [if_neg (by rw [k1]; decide), if_neg (by rw [k1]; decide), if_pos (by rw [k1]; rfl)]
        exact w 80 (by decide) (by rw [c, st_79.2.1]; unfold scV; rw [k1]; rfl)
      by_cases k2 : J.2.1 1 v = 2
      · rw [if_neg (by rw [k2]; decide), if_neg (by rw [k2]; decide), if_neg (by rw [k2]; decide)]
        exact w 79 (by decide) (by rw [c, st_79.2.2]; unfold scV; rw [k2]; rfl)
      by_cases k3 : J.2.1 1 v = 3
      · have ec : Lv = seg J.2.2 (J.2.1 6 v) (J.2.1 7 v) := by rw [c]; unfold scV; rw [k3]; rfl
        rw [if_pos (by rw [k3]; decide), if_pos (by rw [k3]; rfl), ec]
        rw [ec, seg_len (by omega)] at hl
        exact oM_sayNum X h hbk Y (by omega) _ 0 F o L (by omega) (by omega) M hd (by omega)
      · have k4 : J.2.1 1 v = 4 := by omega
        have ec : Lv = strP (seg J.2.2 (J.2.1 6 v) (J.2.1 7 v)) := by rw [c]; unfold scV; rw [k4]; rfl
        obtain ⟨β, hb, hp⟩ := M.2.2
        obtain ⟨o2, g2, d2, c2⟩ := oM_sayString (G := G) (F := F) (S := S) (kb := 15) (p := 8200 * bk + J.2.1 6 v) (n := J.2.1 7 v) X h rfl (by decide) (by show _ ≤ 16400; omega) (by decide) hd hb (by omega) (by omega)
        rw [m_seg hp (by omega)] at d2
        refine ⟨o2, ?_, by rw [ec]; exact d2, c2⟩
        rw [if_pos (by rw [k4]; decide), if_neg (by rw [k4]; decide), if_pos (by rw [k4]; rfl), h.gR 15 rfl (by decide), bO_s, mvr h 11, bO_s, mvo h 11 _ (by omega), bO_s, mvr h 12, bO_s, mvo h 12 _ (by omega), bO_s, rcv_m h.lo, bO_s, tv.2.2.2.2.2.1, tv.2.2.2.2.2.2.1, g2, bO_s]
    · have L1 : Lv.length = L'.length + 2 := by rw [dL, List.length_cons, List.length_append]; rfl
      have go : ∀ (c : Int32), lo8 c = opV J.2.1 v → ∃ o', B_X13_sayValue_o_127 G F (PD_X13_sayValue G F d) (W.ad (.o 13 0)) (Int32.ofNat (600 * bk + v)) (Int32.ofNat (J.2.1 1 v)) (W.ad (.o 13 0)) c (mem W (S.so 13 0 o)) = some (mem W (S.so 13 0 o')) ∧ mDr o' (L ++ Lv) ∧ agr [28] [] [27] [] o o' := by
        intro cc hc
        obtain ⟨o1, g1, d1, c1⟩ := oM_sayc (G := G) (F := F) (S := S) (x := cc) h hd (by omega) hc
        obtain ⟨o2, g2, d2, c2⟩ := oM_kids (G := G) (F := F) (S := S) X h hbk Y ih (fun a b L q => ouV_in q) (show v < J.1 by omega) a _ (v + 1) e 0 F L' _ o1 c (Nat.lt_succ_self v) he (by omega) (by omega) (M.agr c1 (by decide)) d1 (by rw [List.length_append]; show _ + 1 + _ + 1 < _; omega)
        refine ⟨o2, ?_, ?_, c1.trans c2⟩
        · unfold B_X13_sayValue_o_127
          rw [rcv_m h.lo, bO_s, g1, bO_s, ← g2, show (Int32.ofNat (600 * bk + v)) + (1 : Int32) = (Int32.ofNat (600 * bk + (v + 1))) from n_i1 _]
          have : bk = 0 ∨ bk = 1 := by omega
          rcases this with rfl | rfl
          · rw [if_pos (show (Int32.ofNat (600 * 0 + v)) < (600 : Int32) from (n_lt (b := 600) (by omega) (by omega)).mpr (by omega))]
            rfl
          · rw [if_neg (show ¬ (Int32.ofNat (600 * 1 + v)) < (600 : Int32) from fun q => absurd ((n_lt (b := 600) (by omega) (by omega)).mp q) (by omega))]
            rfl
        · rw [dL]
          rw [List.append_assoc] at d2
          exact d2
      rw [if_pos (show (3 : Int32) ≤ (Int32.ofNat (J.2.1 1 v)) from (n_le (a := 3) (by decide) (by omega)).mpr (by omega)), if_neg (show ¬ (Int32.ofNat (J.2.1 1 v)) = (3 : Int32) from fun q => absurd ((ek 3 (by decide)).mp q) (by omega)), if_neg (show ¬ (Int32.ofNat (J.2.1 1 v)) = (4 : Int32) from fun q => absurd ((ek 4 (by decide)).mp q) (by omega))]
      by_cases k5 : J.2.1 1 v = 5
      · rw [if_pos (show (Int32.ofNat (J.2.1 1 v)) = (5 : Int32) from (ek 5 (by decide)).mpr k5)]
        exact go 91 (by unfold opV; rw [k5]; rfl)
      · rw [if_neg (show ¬ (Int32.ofNat (J.2.1 1 v)) = (5 : Int32) from fun q => k5 ((ek 5 (by decide)).mp q))]
        exact go 123 (by unfold opV; rw [if_pos (by omega)]; rfl)
end MVL
