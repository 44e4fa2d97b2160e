/-! KEYS WRAPPED AND UNWRAPPED: the model -/
theorem wIt_add (ks : Nat → UInt8) (nr p : Nat) : ∀ (a b t : Nat) (w : Nat → UInt8), wIt ks nr p (a + b) t w = wIt ks nr p b (t + a) (wIt ks nr p a t w) := by
  intro a
  induction a with
  | zero => intro b t w; rw [Nat.zero_add]; rfl
  | succ a ih => intro b t w; rw [show a + 1 + b = (a + b) + 1 by omega, wIt, ih, wIt, show t + 1 + a = t + (a + 1) by omega]
theorem w8_beN (y0 y1 y2 y3 y4 y5 y6 y7 : UInt8) : beL 8 (Int64.ofNat (beN [y0, y1, y2, y3, y4, y5, y6, y7])) = [y0, y1, y2, y3, y4, y5, y6, y7] := by
  have g0 := y0.toNat_lt
  have g1 := y1.toNat_lt
  have g2 := y2.toNat_lt
  have g3 := y3.toNat_lt
  have g4 := y4.toNat_lt
  have g5 := y5.toNat_lt
  have g6 := y6.toNat_lt
  have g7 := y7.toNat_lt
  have en : beN [y0, y1, y2, y3, y4, y5, y6, y7] = 256 * (256 * (256 * (256 * (256 * (256 * (256 * y0.toNat + y1.toNat) + y2.toNat) + y3.toNat) + y4.toNat) + y5.toNat) + y6.toNat) + y7.toNat := by simp [beN]
  rw [en]
  show [bL _ 56, bL _ 48, bL _ 40, bL _ 32, bL _ 24, bL _ 16, bL _ 8, bL _ 0] = _
  unfold bL
  rw [bvL, BitVec.toNat_ofNat, Nat.mod_eq_of_lt (by omega)]
  have u : ∀ (a : Nat) (y : UInt8), a % 256 = y.toNat → UInt8.ofNat a = y := fun a y h => by
    apply UInt8.toNat_inj.mp
    rw [UInt8.toNat_ofNat']
    exact h
  rw [u _ y0 (by omega), u _ y1 (by omega), u _ y2 (by omega), u _ y3 (by omega), u _ y4 (by omega), u _ y5 (by omega), u _ y6 (by omega), u _ y7 (by omega)]
/-- the lowest byte of a long is met by a small number -/
theorem beL_x {bs : List UInt8} {t : Nat} (h : bs.length = 8) (ht : t < 256) : beL 8 (Int64.ofNat (beN bs) ^^^ Int64.ofNat t) = mapN (fun j => bs.getD j 0 ^^^ (if j = 7 then UInt8.ofNat t else 0)) 8 := by
  match bs, h with
  | [y0, y1, y2, y3, y4, y5, y6, y7], _ =>
    have e : Int64.ofNat (beN [y0, y1, y2, y3, y4, y5, y6, y7]) ^^^ Int64.ofNat t = Int64.ofNat (beN [y0, y1, y2, y3, y4, y5, y6, y7 ^^^ UInt8.ofNat t]) := by
      rw [l_xor]
      congr 1
      have h7 : ∀ y : UInt8, beN [y0, y1, y2, y3, y4, y5, y6, y] = beN [y0, y1, y2, y3, y4, y5, y6] * 2 ^ 8 + y.toNat := by
        intro y
        rw [show [y0, y1, y2, y3, y4, y5, y6, y] = [y0, y1, y2, y3, y4, y5, y6] ++ [y] from rfl, beN_snoc]
        omega
      rw [h7, h7, ← or_add (k := 8) y7.toNat_lt, ← or_add (k := 8) (UInt8.toNat_lt _), UInt8.toNat_xor]
      have ht' : (UInt8.ofNat t).toNat = t := by rw [UInt8.toNat_ofNat', Nat.mod_eq_of_lt ht]
      rw [ht']
      apply Nat.eq_of_testBit_eq
      intro i
      rw [Nat.testBit_xor, Nat.testBit_or, Nat.testBit_or, Nat.testBit_xor]
      by_cases hi : i < 8
      · have hz : (beN [y0, y1, y2, y3, y4, y5, y6] * 2 ^ 8).testBit i = false := by
          rw [Nat.mul_comm, Nat.testBit_two_pow_mul]
          simp
          omega
        rw [hz]
        simp
      · have hz : t.testBit i = false := Nat.testBit_lt_two_pow (Nat.lt_of_lt_of_le ht (by
          have : 2 ^ 8 ≤ 2 ^ i := Nat.pow_le_pow_right (by decide) (by omega)
          omega))
        rw [hz]
        simp
    rw [e, w8_beN]
    show _ = [y0 ^^^ 0, y1 ^^^ 0, y2 ^^^ 0, y3 ^^^ 0, y4 ^^^ 0, y5 ^^^ 0, y6 ^^^ 0, y7 ^^^ UInt8.ofNat t]
    simp only [UInt8.xor_zero]
theorem rdB_map (β : Nat → UInt8) (n : Nat) : rdB β 0 n = mapN β n := by
  unfold rdB mapN
  simp only [Nat.zero_add]
theorem mBs_eq (S : ST) (k : Nat) (β : Nat → UInt8) : mB ((S.sa 13 0 k (fun j => sb (β j))) 13 0) k β := sa_eq S 13 0 k _
theorem mBs_ne {S : ST} {k k' : Nat} {f : Nat → Int32} {β : Nat → UInt8} (h : k' ≠ k) (hb : mB (S 13 0) k' β) : mB ((S.sa 13 0 k f) 13 0) k' β := by
  unfold mB
  rw [sa_ne (by simpa using h)]
  exact hb
theorem mB_ar {L : List (Nat × Nat × Nat)} {S S' : ST} {k : Nat} {β : Nat → UInt8} (h : arF L S S') (hn : (13, 0, k) ∉ L) (hb : mB (S 13 0) k β) : mB (S' 13 0) k β := by
  unfold mB
  rw [h.1 13 0 k hn]
  exact hb
abbrev L4 : List (Nat × Nat × Nat) := [(13, 0, 45), (13, 0, 46), (13, 0, 47), (13, 0, 48)]
/-- the state between turns -/
abbrev MW (S : ST) (p : Nat) (w : Nat → UInt8) : Prop := (∃ β, mB (S 13 0) 48 β ∧ ∀ j, j < 8 + 8 * p → β j = w j) ∧ ∃ δ, mB (S 13 0) 47 δ
theorem wr2_at {δ : Nat → UInt8} {xs ys : List UInt8} (hx : xs.length = 8) (hy : ys.length = 8) : rdB (wrB (wrB δ 0 xs) 8 ys) 0 16 = m16 fun k => if k < 8 then xs.getD k 0 else ys.getD (k - 8) 0 := by
  rw [rdB_map]
  unfold mapN
  refine m16_congr (fun j hj => ?_)
  by_cases h8 : j < 8
  · rw [if_pos h8, wrB, if_neg (by omega), wrB, if_pos ⟨by omega, by omega⟩, Nat.sub_zero]
  · rw [if_neg h8, wrB, if_pos ⟨by omega, by omega⟩]
section MWRAP
variable {W : WR} {G : mG} {F : Nat} {ks : Nat → UInt8} {nr p : Nat}
theorem QM_wr_s {S : ST} {w : Nat → UInt8} {t i : Nat} {K : mM → Option (Int32 × mM)} (X : Cx G F W) (h : isM W) (hp : 1 ≤ p) (hp8 : p ≤ 8) (hi : i < p) (hti : t % p = i) (ht : t < 48) (hbx : mBX S) (hk : mKS S ks nr) (hw : MW S p w) : ∃ S', (bO (gfR (mem W S) (W.ad (.o 13 0)) 13 48) fun v64 =>
  bO (gfR (mem W S) (W.ad (.o 13 0)) 13 47) fun v69 =>
  bO (P_X13_move G F v64 (0 : Int32) v69 (0 : Int32) (8 : Int32) (mem W S)) fun M75 =>
  bO (gfR M75 (W.ad (.o 13 0)) 13 48) fun v79 =>
  bO (gfR M75 (W.ad (.o 13 0)) 13 47) fun v85 =>
  bO (P_X13_move G F v79 (Int32.ofNat (8 + 8 * i)) v85 (8 : Int32) (8 : Int32) M75) fun M92 =>
  bO (gfR M92 (W.ad (.o 13 0)) 13 47) fun v97 =>
  bO (rcv M92 (W.ad (.o 13 0)) 13) fun _ =>
  bO (P_X13_setCells G F (W.ad (.o 13 0)) v97 (0 : Int32) M92) fun M101 =>
  bO (rcv M101 (W.ad (.o 13 0)) 13) fun _ =>
  bO (P_X13_forth G F (W.ad (.o 13 0)) M101) fun M105 =>
  bO (gfR M105 (W.ad (.o 13 0)) 13 47) fun v110 =>
  bO (rcv M105 (W.ad (.o 13 0)) 13) fun _ =>
  bO (P_X13_getCells G F (W.ad (.o 13 0)) v110 (0 : Int32) M105) fun M114 =>
  bO (gfR M114 (W.ad (.o 13 0)) 13 48) fun v118 =>
  bO (gfR M114 (W.ad (.o 13 0)) 13 47) fun v125 =>
  bP (P_X13_longAt G F v125 (0 : Int32) (8 : Int32) M114) fun v131 M131 =>
  bO (P_X13_put G F v118 (0 : Int32) (8 : Int32) (v131 ^^^ (((Int32.ofNat t) + 1).toInt64)) M131) fun M138 =>
  bO (gfR M138 (W.ad (.o 13 0)) 13 47) fun v142 =>
  bO (gfR M138 (W.ad (.o 13 0)) 13 48) fun v148 =>
  bO (P_X13_move G F v142 (8 : Int32) v148 (Int32.ofNat (8 + 8 * i)) (8 : Int32) M138) K) = K (mem W S') ∧ arF L4 S S' ∧ MW S' p (wst ks nr p t w) := by
  obtain ⟨⟨β, hβ, hβw⟩, δ, hδ⟩ := hw
  have lo := h.lo
  have g47 : ∀ S, gfR (mem W S) (W.ad (.o 13 0)) 13 47 = some (W.ad (.a 13 0 47)) := fun S => h.gR 47 rfl (by decide)
  have g48 : ∀ S, gfR (mem W S) (W.ad (.o 13 0)) 13 48 = some (W.ad (.a 13 0 48)) := fun S => h.gR 48 rfl (by decide)
  obtain ⟨S1, hS1⟩ : ∃ S1, S1 = S.sa 13 0 47 (fun j => sb (wrB δ 0 (rdB β 0 8) j)) := ⟨_, rfl⟩
  have m1 : P_X13_move G F (W.ad (.a 13 0 48)) 0 (W.ad (.a 13 0 47)) 0 8 (mem W S) = some (mem W S1) := by
    rw [hS1]
    exact QM_move (k1 := 48) (k2 := 47) (p1 := 0) (p2 := 0) (cnt := 8) X h rfl rfl (by decide) (by decide) (by decide) (by decide) (by decide) (by decide) hβ hδ
  have a1 : arF L4 S S1 := by rw [hS1]; exact arF_sa (by decide)
  have d1 : mB (S1 13 0) 47 (wrB δ 0 (rdB β 0 8)) := by rw [hS1]; exact mBs_eq _ _ _
  have b1 : mB (S1 13 0) 48 β := by rw [hS1]; exact mBs_ne (by decide) hβ
  obtain ⟨S2, hS2⟩ : ∃ S2, S2 = S1.sa 13 0 47 (fun j => sb (wrB (wrB δ 0 (rdB β 0 8)) 8 (rdB β (8 + 8 * i) 8) j)) := ⟨_, rfl⟩
  have m2 : P_X13_move G F (W.ad (.a 13 0 48)) (Int32.ofNat (8 + 8 * i)) (W.ad (.a 13 0 47)) 8 8 (mem W S1) = some (mem W S2) := by
    rw [hS2]
    exact QM_move (k1 := 48) (k2 := 47) (p1 := 8 + 8 * i) (p2 := 8) (cnt := 8) X h rfl rfl (by decide) (by decide) (by decide) (by show 8 + 8 * i + 8 ≤ 80; omega) (by decide) (by decide) b1 d1
  have a2 : arF L4 S S2 := by rw [hS2]; exact a1.trans (arF_sa (by decide))
  have d2 : mB (S2 13 0) 47 (wrB (wrB δ 0 (rdB β 0 8)) 8 (rdB β (8 + 8 * i) 8)) := by rw [hS2]; exact mBs_eq _ _ _
  have b2 : mB (S2 13 0) 48 β := by rw [hS2]; exact mBs_ne (by decide) b1
  obtain ⟨S3, m3, a3, c3⟩ := QM_setCells (S := S2) (k := 47) (p := 0) X h rfl (by decide) (by decide) d2
  have m3' : P_X13_setCells G F (W.ad (.o 13 0)) (W.ad (.a 13 0 47)) 0 (mem W S2) = some (mem W S3) := m3
  have ein : rdB (wrB (wrB δ 0 (rdB β 0 8)) 8 (rdB β (8 + 8 * i) 8)) 0 16 = m16 fun k => if k < 8 then w k else w (wpart p t + (k - 8)) := by
    rw [wr2_at (rdB_len _ _ _) (rdB_len _ _ _)]
    refine m16_congr (fun k hk => ?_)
    by_cases h8 : k < 8
    · rw [if_pos h8, if_pos h8, List.getD_eq_getElem?_getD, rdB_at h8, Nat.zero_add]
      exact hβw k (by omega)
    · rw [if_neg h8, if_neg h8, List.getD_eq_getElem?_getD, rdB_at (by omega)]
      unfold wpart
      rw [hti]
      exact hβw _ (by omega)
  rw [ein] at c3
  have a13 : arF L4 S S3 := a2.trans (a3.mono (by decide))
  obtain ⟨S4, m4, a4, c4⟩ := QM_forth (S := S3) X h (mBX_ar a13 (by decide) (by decide) hbx) (mKS_ar a13 (by decide) hk) c3
  obtain ⟨B, hB⟩ : ∃ B, B = fwd ks nr (m16 fun k => if k < 8 then w k else w (wpart p t + (k - 8))) := ⟨_, rfl⟩
  rw [← hB] at c4
  have hBl : B.length = 16 := by rw [hB]; exact fwd_len _ _ _
  have a14 : arF L4 S S4 := a13.trans (a4.mono (by decide))
  have a24 : arF [(13, 0, 45), (13, 0, 46)] S2 S4 := (a3.mono (by decide)).trans a4
  have d4 := mB_ar a24 (by decide) d2
  have b4 := mB_ar a24 (by decide) b2
  have m5 := QM_getCells (S := S4) (k := 47) (p := 0) X h rfl (by decide) (by decide) d4 hBl c4
  obtain ⟨δ3, hδ3⟩ : ∃ δ3, δ3 = wrB (wrB (wrB δ 0 (rdB β 0 8)) 8 (rdB β (8 + 8 * i) 8)) 0 B := ⟨_, rfl⟩
  rw [← hδ3] at m5
  obtain ⟨S5, hS5⟩ : ∃ S5, S5 = S4.sa 13 0 47 (fun j => sb (δ3 j)) := ⟨_, rfl⟩
  rw [← hS5] at m5
  have m5' : P_X13_getCells G F (W.ad (.o 13 0)) (W.ad (.a 13 0 47)) 0 (mem W S4) = some (mem W S5) := m5
  have d5 : mB (S5 13 0) 47 δ3 := by rw [hS5]; exact mBs_eq _ _ _
  have b5 : mB (S5 13 0) 48 β := by rw [hS5]; exact mBs_ne (by decide) b4
  have a15 : arF L4 S S5 := by rw [hS5]; exact a14.trans (arF_sa (by decide))
  have r16 : rdB δ3 0 16 = B := by rw [hδ3, ← hBl, rdB_wrB]
  have δat : ∀ j, j < 16 → δ3 j = B.getD j 0 := by
    intro j hj
    rw [hδ3]
    have := wrB_at (β := wrB (wrB δ 0 (rdB β 0 8)) 8 (rdB β (8 + 8 * i) 8)) (p := 0) (ys := B) (j := j) (by omega)
    rwa [Nat.zero_add] at this
  have m6 := QM_longAt (S := S5) (k := 47) (p := 0) (cnt := 8) X h rfl (by decide) (by decide) (by decide) d5
  have m6' : P_X13_longAt G F (W.ad (.a 13 0 47)) 0 8 (mem W S5) = some (Int64.ofNat (beN (rdB δ3 0 8)), mem W S5) := m6
  have m7 := QM_put (S := S5) (k := 48) (p := 0) (cnt := 8) (x := Int64.ofNat (beN (rdB δ3 0 8)) ^^^ Int64.ofNat (t + 1)) X h rfl (by decide) (by decide) (by decide) b5
  rw [beL_x (rdB_len _ _ _) (by omega)] at m7
  obtain ⟨β1, hβ1⟩ : ∃ β1, β1 = wrB β 0 (mapN (fun j => (rdB δ3 0 8).getD j 0 ^^^ (if j = 7 then UInt8.ofNat (t + 1) else 0)) 8) := ⟨_, rfl⟩
  rw [← hβ1] at m7
  obtain ⟨S6, hS6⟩ : ∃ S6, S6 = S5.sa 13 0 48 (fun j => sb (β1 j)) := ⟨_, rfl⟩
  have m7' : P_X13_put G F (W.ad (.a 13 0 48)) 0 8 (Int64.ofNat (beN (rdB δ3 0 8)) ^^^ Int64.ofNat (t + 1)) (mem W S5) = some (mem W S6) := by rw [hS6]; exact m7
  have d6 : mB (S6 13 0) 47 δ3 := by rw [hS6]; exact mBs_ne (by decide) d5
  have b6 : mB (S6 13 0) 48 β1 := by rw [hS6]; exact mBs_eq _ _ _
  have a16 : arF L4 S S6 := by rw [hS6]; exact a15.trans (arF_sa (by decide))
  obtain ⟨S7, hS7⟩ : ∃ S7, S7 = S6.sa 13 0 48 (fun j => sb (wrB β1 (8 + 8 * i) (rdB δ3 8 8) j)) := ⟨_, rfl⟩
  have m8 : P_X13_move G F (W.ad (.a 13 0 47)) 8 (W.ad (.a 13 0 48)) (Int32.ofNat (8 + 8 * i)) 8 (mem W S6) = some (mem W S7) := by
    rw [hS7]
    exact QM_move (k1 := 47) (k2 := 48) (p1 := 8) (p2 := 8 + 8 * i) (cnt := 8) X h rfl rfl (by decide) (by decide) (by decide) (by decide) (by show 8 + 8 * i + 8 ≤ 80; omega) (by decide) d6 b6
  rw [g48, bO_s, g47, bO_s, m1, bO_s, g48, bO_s, g47, bO_s, m2, bO_s, g47, bO_s, rcv_m lo, bO_s, m3', bO_s, rcv_m lo, bO_s, m4, bO_s, g47, bO_s, rcv_m lo, bO_s, m5', bO_s, g48, bO_s, g47, bO_s, m6', bP_s, n_addL t 1, n_64 (by omega), m7', bO_s, g47, bO_s, g48, bO_s, m8, bO_s]
  refine ⟨S7, rfl, by rw [hS7]; exact a16.trans (arF_sa (by decide)), ⟨wrB β1 (8 + 8 * i) (rdB δ3 8 8), by rw [hS7]; exact mBs_eq _ _ _, fun j hj => ?_⟩, δ3, by rw [hS7]; exact mBs_ne (by decide) d6⟩
  rw [wst_at hB]
  unfold wpart
  rw [hti]
  by_cases h8 : j < 8
  · rw [if_pos h8, wrB, if_neg (by omega), hβ1, wrB, if_pos ⟨by omega, by rw [mapN_len]; omega⟩, Nat.sub_zero, List.getD_eq_getElem?_getD, mapN_at h8]
    show (rdB δ3 0 8).getD j 0 ^^^ _ = _
    rw [List.getD_eq_getElem?_getD, rdB_at h8, Nat.zero_add, ← δat j (by omega)]
    rfl
  · rw [if_neg h8, wrB, rdB_len]
    by_cases hin : 8 + 8 * i ≤ j ∧ j < 8 + 8 * i + 8
    · rw [if_pos hin, if_pos hin, List.getD_eq_getElem?_getD, rdB_at (by omega), ← δat _ (by omega)]
      rfl
    · rw [if_neg hin, if_neg hin, hβ1, wrB, if_neg (by rw [mapN_len]; omega)]
      exact hβw j hj
end MWRAP
