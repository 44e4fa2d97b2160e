/-! THE CALL power -/
section POWER
variable {W : WR} {G : mG} {F : Nat} {S : ST}
theorem Q11_power {rows : Nat → List UInt8} {t : List UInt8} {l : Bool} {x y z : Int32} (X : Cx G F W) (h : isT W) (hr : isRs W) (h15 : W.r 11 0 15 = some (.o 8 0)) (hs : Byt 8192 (S 0 9) t l) (hR : ∀ r, r < 8 → ∃ l, Byt 8192 (S 0 r) (rows r) l) : ∃ S', P_X11_power G F (W.ad (.o 11 0)) x y z (mem W S) = some (match powC rows x y z with | some u => (Int32.ofNat u.length) | none => -2, mem W S') ∧ fr [(6, 0), (8, 0), (0, 9)] S S' ∧ match powC rows x y z with | some u => Byt 8192 (S' 0 9) u false | none => S' = S := by
  unfold P_X11_power powC
  have stay : fr [(6, 0), (8, 0), (0, 9)] S S := fr.refl _ _
  rw [rcv_m h.lo, bO_s, Q11_isRow, bP_s]
  rcases isr_cases x with hx | ⟨x', hx', rfl, hx⟩
  · rw [hx, if_pos (by rfl)]
    exact ⟨S, rfl, stay, rfl⟩
  rw [hx, if_neg (by decide), rcv_m h.lo, bO_s, Q11_isRow, bP_s]
  rcases isr_cases y with hy | ⟨y', hy', rfl, hy⟩
  · rw [hy, if_pos (by rfl)]
    exact ⟨S, rfl, stay, rfl⟩
  rw [hy, if_neg (by decide), rcv_m h.lo, bO_s, Q11_isRow, bP_s]
  rcases isr_cases z with hz | ⟨z', hz', rfl, hz⟩
  · rw [hz, if_pos (by rfl)]
    exact ⟨S, rfl, stay, rfl⟩
  obtain ⟨lx, bx⟩ := hR x' hx'
  obtain ⟨ly, by_⟩ := hR y' hy'
  obtain ⟨lz, bz⟩ := hR z' hz'
  have hlx := bx.le
  have hly := by_.le
  rw [hz, if_neg (by decide), h.gR rfl h.ra, bO_s, h.row hx', bO_s, (h.rb x' hx').gI 1 rfl, bO_s, bx.many, n_at (by omega), n_at (by omega), n_at (by omega)]
  by_cases c1 : (rows x').length ≤ 128
  · rw [if_neg (by rw [lit 128]; exact fun q => absurd ((n_lt (by omega) (by omega)).mp q) (by omega)), decide_eq_true c1, bO_s, h.row hy', bO_s, (h.rb y' hy').gI 1 rfl, bO_s, by_.many]
    by_cases c2 : (rows y').length ≤ 128
    · rw [if_neg (by rw [lit 128]; exact fun q => absurd ((n_lt (by omega) (by omega)).mp q) (by omega)), decide_eq_true c2, bO_s, h.row hz', bO_s, Q6_suits (h.rb z' hz') bz, bP_s]
      cases hsu : suitsF (rows z') with
      | false =>
        rw [if_neg (c := false = true) (by decide), if_pos rfl]
        exact ⟨S, rfl, stay, rfl⟩
      | true =>
        obtain ⟨s1, s2, _⟩ := of_decide_eq_true hsu
        obtain ⟨S1, g1, f1, b1⟩ := Q8_raise (G := G) (F := F) (S := S) (it := 9) X hr (h.rb x' hx') (h.rb y' hy') (h.rb z' hz') h.sb (by omega) (by omega) (by omega) bx by_ bz hs (by omega) (by omega) hsu (by omega)
        rw [if_pos (c := true = true) rfl, if_neg (by decide), h.gR rfl h15, bO_s, h.gR rfl h.ra, bO_s, h.row hx', bO_s, bO_s, h.row hy', bO_s, bO_s, h.row hz', bO_s, h.gR rfl h.shown, bO_s, rcv_m hr.1, bO_s, g1, bO_s, h.gR rfl h.shown, bO_s, h.sb.gI 1 rfl, bO_s, b1.many]
        simp only [Bool.and_self, if_true]
        exact ⟨S1, rfl, f1, b1⟩
    · rw [if_pos (by rw [lit 128]; exact (n_lt (by omega) (by omega)).mpr (by omega)), decide_eq_false c2]
      exact ⟨S, rfl, stay, rfl⟩
  · rw [if_pos (by rw [lit 128]; exact (n_lt (by omega) (by omega)).mpr (by omega)), decide_eq_false c1]
    exact ⟨S, rfl, stay, rfl⟩
theorem QM_power {rows : Nat → List UInt8} {t : List UInt8} {x y z : Int32} (X : Cx G F W) (h : isM W) (hmm : isMm W) (ho : mOut (S 13 0) t) (hR : mRows (S 13 0) rows) (h62 : ∃ β, mB (S 13 0) 62 β) : ∃ S', P_X13_power G F (W.ad (.o 13 0)) x y z (mem W S) = some (match powC rows x y z with | some u => (Int32.ofNat u.length) | none => -2, mem W S') ∧ fr [(12, 0), (13, 0)] S S' ∧ agr [5] [] [60, 61, 62, 4] [] (S 13 0) (S' 13 0) ∧ (∃ β, mB (S' 13 0) 62 β) ∧ mOut (S' 13 0) (match powC rows x y z with | some u => u | none => t) := by
  have hR' := hR
  obtain ⟨β, r1, r2⟩ := hR
  obtain ⟨β62, h62⟩ := h62
  have bad : ∃ S', some ((-2 : Int32), mem W S) = some ((-2 : Int32), mem W S') ∧ fr [(12, 0), (13, 0)] S S' ∧ agr [5] [] [60, 61, 62, 4] [] (S 13 0) (S' 13 0) ∧ (∃ β, mB (S' 13 0) 62 β) ∧ mOut (S' 13 0) t := ⟨S, rfl, fr.refl _ _, agr.refl _ _ _ _ _, ⟨β62, h62⟩, ho⟩
  unfold P_X13_power powC
  rw [Q13_isRow, bP_s]
  rcases isr_cases x with hx | ⟨x', hx', rfl, hx⟩
  · rw [hx, if_pos (by rfl)]
    exact bad
  rw [hx, if_neg (by decide), Q13_isRow, bP_s]
  rcases isr_cases y with hy | ⟨y', hy', rfl, hy⟩
  · rw [hy, if_pos (by rfl)]
    exact bad
  rw [hy, if_neg (by decide), Q13_isRow, bP_s]
  rcases isr_cases z with hz | ⟨z', hz', rfl, hz⟩
  · rw [hz, if_pos (by rfl)]
    exact bad
  obtain ⟨x3, x4, x5⟩ := r2 x' hx'
  obtain ⟨y3, y4, y5⟩ := r2 y' hy'
  obtain ⟨z3, z4, z5⟩ := r2 z' hz'
  rw [hz, if_neg (by decide), h.gR 3 rfl (by decide), bO_s, h.aN rfl (show x' < 8 from hx') (by decide), bO_s, x3, n_at (by omega), n_at (by omega), n_at (by omega)]
  by_cases c1 : (rows x').length ≤ 128
  · rw [if_neg (by rw [lit 128]; exact fun q => absurd ((n_lt (by omega) (by omega)).mp q) (by omega)), decide_eq_true c1, bO_s, h.aN rfl (show y' < 8 from hy') (by decide), bO_s, y3]
    by_cases c2 : (rows y').length ≤ 128
    · rw [if_neg (by rw [lit 128]; exact fun q => absurd ((n_lt (by omega) (by omega)).mp q) (by omega)), decide_eq_true c2, bO_s, h.aN rfl (show z' < 8 from hz') (by decide), bO_s, z3]
      have no : ¬ (1 ≤ (rows z').length ∧ (rows z').length ≤ 128 ∧ gN (rows z') 0 ≠ 0 ∧ gN (rows z') ((rows z').length - 1) % 2 = 1 ∧ (1 < (rows z').length ∨ 1 < gN (rows z') 0)) → suitsF (rows z') = false := fun q => decide_eq_false q
      by_cases c3 : (rows z').length < 1
      · rw [if_pos (by rw [lit 1]; exact (n_lt (by omega) (by omega)).mpr c3), no (by omega)]
        exact bad
      rw [if_neg (by rw [lit 1]; exact fun q => c3 ((n_lt (by omega) (by omega)).mp q)), bO_s, h.aN rfl (show z' < 8 from hz') (by decide), bO_s, z3]
      by_cases c4 : (rows z').length ≤ 128
      · have g0 : gN (rows z') 0 = (β (8192 * z')).toNat := by rw [← z5, gN_rdB (by omega), Nat.add_zero]
        have g1 : gN (rows z') ((rows z').length - 1) = (β (8192 * z' + (rows z').length - 1)).toNat := by
          rw [show 8192 * z' + (rows z').length - 1 = 8192 * z' + ((rows z').length - 1) by omega]
          conv => lhs; rw [← z5]
          rw [rdB_len]
          exact gN_rdB (by omega)
        have q0 := sb_z (β (8192 * z'))
        have q1 := sb_z (β (8192 * z' + (rows z').length - 1))
        rw [if_pos (by rw [lit 128]; exact (n_le (by omega) (by omega)).mpr c4), bO_s, h.aN rfl (show z' < 8 from hz') (by decide), bO_s, z3, h.gR 2 rfl (by decide), bO_s, show (8192 : Int32) * (Int32.ofNat z') = (Int32.ofNat (8192 * z')) from n_mul 8192 z', h.aB rfl r1 (show 8192 * z' < 65536 by omega) (by decide), bO_s]
        by_cases c5 : (β (8192 * z')).toNat = 0
        · rw [if_pos (q0.1.mpr c5), no (by omega)]
          exact bad
        rw [if_neg (fun q => c5 (q0.1.mp q)), bO_s, n_add, n_subL 1 (by omega), h.aB rfl r1 (show 8192 * z' + (rows z').length - 1 < 65536 by omega) (by decide), bO_s]
        by_cases c6 : (β (8192 * z' + (rows z').length - 1)).toNat % 2 = 0
        · rw [if_pos (q1.2.2.mpr c6), no (by omega)]
          exact bad
        rw [if_neg (fun q => c6 (q1.2.2.mp q))]
        have main : suitsF (rows z') = true → ∃ S', B_X13_power_132 G F (W.ad (.o 13 0)) (Int32.ofNat x') (Int32.ofNat y') (Int32.ofNat (8192 * z')) (Int32.ofNat (rows z').length) (mem W S) = some ((Int32.ofNat (powF (rows x') (rows y') (rows z')).length), mem W S') ∧ fr [(12, 0), (13, 0)] S S' ∧ agr [5] [] [60, 61, 62, 4] [] (S 13 0) (S' 13 0) ∧ (∃ β, mB (S' 13 0) 62 β) ∧ mOut (S' 13 0) (powF (rows x') (rows y') (rows z')) := by
          intro hsu
          have hlen := powF_len (rows x') (rows y') (rows z')
          unfold B_X13_power_132
          obtain ⟨S1, e1, f1, a1, m1⟩ := QM_raise (G := G) (F := F) (S := S) (kb := 2) (ke := 2) (km := 2) (pb := 8192 * x') (pe := 8192 * y') (pm := 8192 * z') (sb_ := (rows x').length) (se := (rows y').length) (sm := (rows z').length) X h hmm rfl rfl rfl (by decide) (by decide) (by decide) (by decide) (by decide) (by decide) (by show _ ≤ 65536; omega) (by show _ ≤ 65536; omega) (by show _ ≤ 65536; omega) (by omega) (by omega) r1 r1 r1 h62 (by rw [z5]; exact hsu)
          rw [x5, y5, z5] at m1
          obtain ⟨_, o2, β4, o4, o5⟩ := ho
          have m4 : mB (S1 13 0) 4 β4 := a1.mB o4 (by decide)
          have tl := QM_tell (G := G) (F := F) (S := S1) (k := 62) (p := 0) (cnt := (rows z').length) X h rfl (by decide) (by decide) (by show 0 + _ ≤ 128; omega) (by omega) m1 m4
          rw [show rdB (wrB β62 0 (powF (rows x') (rows y') (rows z'))) 0 (rows z').length = powF (rows x') (rows y') (rows z') by rw [← hlen]; exact rdB_wrB _ _ _] at tl
          have tl' : P_X13_tell G F (W.ad (.o 13 0)) (W.ad (.a 13 0 62)) 0 (Int32.ofNat (rows z').length) (mem W S1) = _ := tl
          rw [h.gR 2 rfl (by decide), bO_s, h.gR 3 rfl (by decide), bO_s, h.aN rfl (show x' < 8 from hx') (by decide), bO_s, bO_s, bO_s, h.aN rfl (show y' < 8 from hy') (by decide), bO_s, bO_s, rcv_m h.lo, bO_s, x3, y3, show (8192 : Int32) * (Int32.ofNat x') = (Int32.ofNat (8192 * x')) from n_mul 8192 x', show (8192 : Int32) * (Int32.ofNat y') = (Int32.ofNat (8192 * y')) from n_mul 8192 y', e1, bO_s, h.gR 62 rfl (by decide), bO_s, rcv_m h.lo, bO_s, tl', bP_s]
          refine ⟨_, by rw [hlen], f1.trans (fr_so (by simp)), ?_, ⟨_, by rw [so_eq]; exact mB_sA' (by decide) m1⟩, ?_⟩
          · rw [so_eq]
            exact ((a1.mono (by decide) (by decide) (by decide) (by decide)).trans (agr_sA (by decide))).trans (agr_sf (by decide))
          · rw [so_eq]
            refine ⟨by rw [sf_f, if_pos rfl, hlen], by omega, _, mB_sA _ _ _, ?_⟩
            rw [hlen, ← hlen]
            exact rdB_wrB _ 0 _
        by_cases c7 : (rows z').length = 1
        · rw [if_pos (show (Int32.ofNat (rows z').length) = 1 by rw [c7]; rfl), bO_s, h.aB rfl r1 (show 8192 * z' < 65536 by omega) (by decide), bO_s]
          by_cases c8 : (β (8192 * z')).toNat = 1
          · rw [if_pos (q0.2.1.mpr c8), no (by omega)]
            exact bad
          · have hsu : suitsF (rows z') = true := decide_eq_true ⟨by omega, by omega, by omega, by omega, Or.inr (by omega)⟩
            rw [if_neg (fun q => c8 (q0.2.1.mp q)), hsu]
            exact main hsu
        · have hsu : suitsF (rows z') = true := decide_eq_true ⟨by omega, by omega, by omega, by omega, Or.inl (by omega)⟩
          rw [if_neg (show ¬ (Int32.ofNat (rows z').length) = 1 by rw [lit 1]; exact fun q => c7 ((n_eq (by omega) (by omega)).mp q)), hsu]
          exact main hsu
      · rw [if_neg (by rw [lit 128]; exact fun q => c4 ((n_le (by omega) (by omega)).mp q)), no (by omega)]
        exact bad
    · rw [if_pos (by rw [lit 128]; exact (n_lt (by omega) (by omega)).mpr (by omega)), decide_eq_false c2]
      exact bad
  · rw [if_pos (by rw [lit 128]; exact (n_lt (by omega) (by omega)).mpr (by omega)), decide_eq_false c1]
    exact bad
end POWER
