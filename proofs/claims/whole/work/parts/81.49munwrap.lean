/-! THE MODEL'S unwrap -/
theorem lg0 (x y : Int64) : lg_cmp x y = 0 ↔ x = y := by
  unfold lg_cmp
  by_cases h : x > y
  · rw [if_pos h]
    exact ⟨fun q => absurd q (by decide), fun q => absurd h (by rw [q]; exact Int64.lt_irrefl)⟩
  · rw [if_neg h]
    by_cases e : x = y
    · rw [if_pos e]; exact ⟨fun _ => e, fun _ => rfl⟩
    · rw [if_neg e]; exact ⟨fun q => absurd q (by decide), fun q => absurd q e⟩
theorem n_sub8 (i : Nat) : (Int32.ofNat (8 * (i + 1))) + (-8) = (Int32.ofNat (8 * i)) := by
  have : (Int32.ofNat (8 * (i + 1))) = (Int32.ofNat (8 * i)) + 8 := (n_addL (8 * i) 8).symm
  rw [this, Int32.add_assoc]
  have e : (8 : Int32) + (-8) = 0 := by decide
  show (Int32.ofNat (8 * i)) + ((8 : Int32) + (-8)) = _
  rw [e, Int32.add_zero]
theorem a6_all {y : Nat → UInt8} : Int64.ofNat (beN (rdB y 0 8)) = (-6438275382588823898 : Int64) ↔ ∀ j, j < 8 → y j = 166 := by
  have g : ∀ j, (y j).toNat < 256 := fun j => (y j).toNat_lt
  have en : beN (rdB y 0 8) = 256 * (256 * (256 * (256 * (256 * (256 * (256 * (y 0).toNat + (y 1).toNat) + (y 2).toNat) + (y 3).toNat) + (y 4).toNat) + (y 5).toNat) + (y 6).toNat) + (y 7).toNat := by
    rw [rdB_map]
    simp [beN, mapN, List.range_succ]
  have ec : (-6438275382588823898 : Int64) = Int64.ofNat 12008468691120727718 := by decide
  rw [en, ec]
  have g0 := g 0
  have g1 := g 1
  have g2 := g 2
  have g3 := g 3
  have g4 := g 4
  have g5 := g 5
  have g6 := g 6
  have g7 := g 7
  constructor
  · intro q
    have q2 := congrArg (fun z : Int64 => z.toBitVec.toNat) q
    simp only [bvL, BitVec.toNat_ofNat] at q2
    rw [Nat.mod_eq_of_lt (by omega), Nat.mod_eq_of_lt (by decide)] at q2
    have u : ∀ j, (y j).toNat = 166 → y j = 166 := fun j h => UInt8.toNat_inj.mp h
    intro j hj
    have : j = 0 ∨ j = 1 ∨ j = 2 ∨ j = 3 ∨ j = 4 ∨ j = 5 ∨ j = 6 ∨ j = 7 := by omega
    rcases this with rfl | rfl | rfl | rfl | rfl | rfl | rfl | rfl <;> (apply u; omega)
  · intro q
    rw [q 0 (by decide), q 1 (by decide), q 2 (by decide), q 3 (by decide), q 4 (by decide), q 5 (by decide), q 6 (by decide), q 7 (by decide)]
    rfl
section MUNWRAP
variable {W : WR} {G : mG} {F : Nat} {ks : Nat → UInt8} {nr p : Nat}
theorem QM_un_s {S : ST} {w : Nat → UInt8} {t i : Nat} {K : mM → Option (Int32 × mM)} (X : Cx G F W) (h : isM W) (hp : 1 ≤ p) (hp8 : p ≤ 8) (hi : i < p) (hti : t % p = i) (ht : t < 48) (hbx : mBX S) (hk : mKS S ks nr) (hw : MW S p w) : ∃ S', (bO (gfR (mem W S) (W.ad (.o 13 0)) 13 47) fun v46 =>
  bO (gfR (mem W S) (W.ad (.o 13 0)) 13 48) fun v53 =>
  bP (P_X13_longAt G F v53 (0 : Int32) (8 : Int32) (mem W S)) fun v59 M59 =>
  bO (P_X13_put G F v46 (0 : Int32) (8 : Int32) (v59 ^^^ (((Int32.ofNat (t + 1))).toInt64)) M59) fun M66 =>
  bO (gfR M66 (W.ad (.o 13 0)) 13 48) fun v70 =>
  bO (gfR M66 (W.ad (.o 13 0)) 13 47) fun v76 =>
  bO (P_X13_move G F v70 (Int32.ofNat (8 * (i + 1))) v76 (8 : Int32) (8 : Int32) M66) fun M83 =>
  bO (gfR M83 (W.ad (.o 13 0)) 13 47) fun v88 =>
  bO (rcv M83 (W.ad (.o 13 0)) 13) fun _ =>
  bO (P_X13_setCells G F (W.ad (.o 13 0)) v88 (0 : Int32) M83) fun M92 =>
  bO (rcv M92 (W.ad (.o 13 0)) 13) fun _ =>
  bO (P_X13_back G F (W.ad (.o 13 0)) M92) fun M96 =>
  bO (gfR M96 (W.ad (.o 13 0)) 13 47) fun v101 =>
  bO (rcv M96 (W.ad (.o 13 0)) 13) fun _ =>
  bO (P_X13_getCells G F (W.ad (.o 13 0)) v101 (0 : Int32) M96) fun M105 =>
  bO (gfR M105 (W.ad (.o 13 0)) 13 47) fun v109 =>
  bO (gfR M105 (W.ad (.o 13 0)) 13 48) fun v114 =>
  bO (P_X13_move G F v109 (0 : Int32) v114 (0 : Int32) (8 : Int32) M105) fun M120 =>
  bO (gfR M120 (W.ad (.o 13 0)) 13 47) fun v124 =>
  bO (gfR M120 (W.ad (.o 13 0)) 13 48) fun v130 =>
  bO (P_X13_move G F v124 (8 : Int32) v130 (Int32.ofNat (8 * (i + 1))) (8 : Int32) M120) K) = K (mem W S') ∧ arF L4 S S' ∧ MW S' p (ust ks nr p t w) := by
  obtain ⟨⟨β, hβ, hβw⟩, δ, hδ⟩ := hw
  have lo := h.lo
  have g47 : ∀ S, gfR (mem W S) (W.ad (.o 13 0)) 13 47 = some (W.ad (.a 13 0 47)) := fun S => h.gR 47 rfl (by decide)
  have g48 : ∀ S, gfR (mem W S) (W.ad (.o 13 0)) 13 48 = some (W.ad (.a 13 0 48)) := fun S => h.gR 48 rfl (by decide)
  have m0 := QM_longAt (S := S) (k := 48) (p := 0) (cnt := 8) X h rfl (by decide) (by decide) (by decide) hβ
  have m0' : P_X13_longAt G F (W.ad (.a 13 0 48)) 0 8 (mem W S) = some (Int64.ofNat (beN (rdB β 0 8)), mem W S) := m0
  have m1 := QM_put (S := S) (k := 47) (p := 0) (cnt := 8) (x := Int64.ofNat (beN (rdB β 0 8)) ^^^ Int64.ofNat (t + 1)) X h rfl (by decide) (by decide) (by decide) hδ
  rw [beL_x (rdB_len _ _ _) (by omega)] at m1
  obtain ⟨A, hA⟩ : ∃ A, A = mapN (fun j => (rdB β 0 8).getD j 0 ^^^ (if j = 7 then UInt8.ofNat (t + 1) else 0)) 8 := ⟨_, rfl⟩
  rw [← hA] at m1
  have hAl : A.length = 8 := by rw [hA, mapN_len]
  obtain ⟨S1, hS1⟩ : ∃ S1, S1 = S.sa 13 0 47 (fun j => sb (wrB δ 0 A j)) := ⟨_, rfl⟩
  have m1' : P_X13_put G F (W.ad (.a 13 0 47)) 0 8 (Int64.ofNat (beN (rdB β 0 8)) ^^^ Int64.ofNat (t + 1)) (mem W S) = some (mem W S1) := by rw [hS1]; exact m1
  have a1 : arF L4 S S1 := by rw [hS1]; exact arF_sa (by decide)
  have d1 : mB (S1 13 0) 47 (wrB δ 0 A) := by rw [hS1]; exact mBs_eq _ _ _
  have b1 : mB (S1 13 0) 48 β := by rw [hS1]; exact mBs_ne (by decide) hβ
  obtain ⟨S2, hS2⟩ : ∃ S2, S2 = S1.sa 13 0 47 (fun j => sb (wrB (wrB δ 0 A) 8 (rdB β (8 * (i + 1)) 8) j)) := ⟨_, rfl⟩
  have m2 : P_X13_move G F (W.ad (.a 13 0 48)) (Int32.ofNat (8 * (i + 1))) (W.ad (.a 13 0 47)) 8 8 (mem W S1) = some (mem W S2) := by
    rw [hS2]
    exact QM_move (k1 := 48) (k2 := 47) (p1 := 8 * (i + 1)) (p2 := 8) (cnt := 8) X h rfl rfl (by decide) (by decide) (by decide) (by show 8 * (i + 1) + 8 ≤ 80; omega) (by decide) (by decide) b1 d1
  have a2 : arF L4 S S2 := by rw [hS2]; exact a1.trans (arF_sa (by decide))
  have d2 : mB (S2 13 0) 47 (wrB (wrB δ 0 A) 8 (rdB β (8 * (i + 1)) 8)) := by rw [hS2]; exact mBs_eq _ _ _
  have b2 : mB (S2 13 0) 48 β := by rw [hS2]; exact mBs_ne (by decide) b1
  obtain ⟨S3, m3, a3, c3⟩ := QM_setCells (S := S2) (k := 47) (p := 0) X h rfl (by decide) (by decide) d2
  have m3' : P_X13_setCells G F (W.ad (.o 13 0)) (W.ad (.a 13 0 47)) 0 (mem W S2) = some (mem W S3) := m3
  have ein : rdB (wrB (wrB δ 0 A) 8 (rdB β (8 * (i + 1)) 8)) 0 16 = m16 fun k => if k < 8 then w k ^^^ (if k = 7 then UInt8.ofNat (t + 1) else 0) else w (wpart p t + (k - 8)) := by
    rw [wr2_at hAl (rdB_len _ _ _)]
    refine m16_congr (fun k hk => ?_)
    by_cases h8 : k < 8
    · rw [if_pos h8, if_pos h8, hA, List.getD_eq_getElem?_getD, mapN_at h8]
      show (rdB β 0 8).getD k 0 ^^^ _ = _
      rw [List.getD_eq_getElem?_getD, rdB_at h8, Nat.zero_add, ← hβw k (by omega)]
      rfl
    · rw [if_neg h8, if_neg h8, List.getD_eq_getElem?_getD, rdB_at (by omega)]
      unfold wpart
      rw [hti, show 8 * (i + 1) = 8 + 8 * i by omega]
      exact hβw _ (by omega)
  rw [ein] at c3
  have a13 : arF L4 S S3 := a2.trans (a3.mono (by decide))
  obtain ⟨S4, m4, a4, c4⟩ := QM_back (S := S3) X h (mBX_ar a13 (by decide) (by decide) hbx) (mKS_ar a13 (by decide) hk) c3
  obtain ⟨B, hB⟩ : ∃ B, B = bck ks nr (m16 fun k => if k < 8 then w k ^^^ (if k = 7 then UInt8.ofNat (t + 1) else 0) else w (wpart p t + (k - 8))) := ⟨_, rfl⟩
  rw [← hB] at c4
  have hBl : B.length = 16 := by rw [hB]; exact bck_len _ _ _
  have a14 : arF L4 S S4 := a13.trans (a4.mono (by decide))
  have a24 : arF [(13, 0, 45), (13, 0, 46)] S2 S4 := (a3.mono (by decide)).trans a4
  have d4 := mB_ar a24 (by decide) d2
  have b4 := mB_ar a24 (by decide) b2
  have m5 := QM_getCells (S := S4) (k := 47) (p := 0) X h rfl (by decide) (by decide) d4 hBl c4
  obtain ⟨δ3, hδ3⟩ : ∃ δ3, δ3 = wrB (wrB (wrB δ 0 A) 8 (rdB β (8 * (i + 1)) 8)) 0 B := ⟨_, rfl⟩
  rw [← hδ3] at m5
  obtain ⟨S5, hS5⟩ : ∃ S5, S5 = S4.sa 13 0 47 (fun j => sb (δ3 j)) := ⟨_, rfl⟩
  rw [← hS5] at m5
  have m5' : P_X13_getCells G F (W.ad (.o 13 0)) (W.ad (.a 13 0 47)) 0 (mem W S4) = some (mem W S5) := m5
  have d5 : mB (S5 13 0) 47 δ3 := by rw [hS5]; exact mBs_eq _ _ _
  have b5 : mB (S5 13 0) 48 β := by rw [hS5]; exact mBs_ne (by decide) b4
  have a15 : arF L4 S S5 := by rw [hS5]; exact a14.trans (arF_sa (by decide))
  have δat : ∀ j, j < 16 → δ3 j = B.getD j 0 := by
    intro j hj
    rw [hδ3]
    have := wrB_at (β := wrB (wrB δ 0 A) 8 (rdB β (8 * (i + 1)) 8)) (p := 0) (ys := B) (j := j) (by omega)
    rwa [Nat.zero_add] at this
  obtain ⟨S6, hS6⟩ : ∃ S6, S6 = S5.sa 13 0 48 (fun j => sb (wrB β 0 (rdB δ3 0 8) j)) := ⟨_, rfl⟩
  have m7 : P_X13_move G F (W.ad (.a 13 0 47)) 0 (W.ad (.a 13 0 48)) 0 8 (mem W S5) = some (mem W S6) := by
    rw [hS6]
    exact QM_move (k1 := 47) (k2 := 48) (p1 := 0) (p2 := 0) (cnt := 8) X h rfl rfl (by decide) (by decide) (by decide) (by decide) (by decide) (by decide) d5 b5
  have d6 : mB (S6 13 0) 47 δ3 := by rw [hS6]; exact mBs_ne (by decide) d5
  have b6 : mB (S6 13 0) 48 (wrB β 0 (rdB δ3 0 8)) := by rw [hS6]; exact mBs_eq _ _ _
  have a16 : arF L4 S S6 := by rw [hS6]; exact a15.trans (arF_sa (by decide))
  obtain ⟨S7, hS7⟩ : ∃ S7, S7 = S6.sa 13 0 48 (fun j => sb (wrB (wrB β 0 (rdB δ3 0 8)) (8 * (i + 1)) (rdB δ3 8 8) j)) := ⟨_, rfl⟩
  have m8 : P_X13_move G F (W.ad (.a 13 0 47)) 8 (W.ad (.a 13 0 48)) (Int32.ofNat (8 * (i + 1))) 8 (mem W S6) = some (mem W S7) := by
    rw [hS7]
    exact QM_move (k1 := 47) (k2 := 48) (p1 := 8) (p2 := 8 * (i + 1)) (cnt := 8) X h rfl rfl (by decide) (by decide) (by decide) (by decide) (by show 8 * (i + 1) + 8 ≤ 80; omega) (by decide) d6 b6
  rw [g47, bO_s, g48, bO_s, m0', bP_s, n_64 (by omega), m1', bO_s, g48, bO_s, g47, bO_s, m2, bO_s, g47, bO_s, rcv_m lo, bO_s, m3', bO_s, rcv_m lo, bO_s, m4, bO_s, g47, bO_s, rcv_m lo, bO_s, m5', bO_s, g47, bO_s, g48, bO_s, m7, bO_s, g47, bO_s, g48, bO_s, m8, bO_s]
  refine ⟨S7, rfl, by rw [hS7]; exact a16.trans (arF_sa (by decide)), ⟨wrB (wrB β 0 (rdB δ3 0 8)) (8 * (i + 1)) (rdB δ3 8 8), by rw [hS7]; exact mBs_eq _ _ _, fun j hj => ?_⟩, δ3, by rw [hS7]; exact mBs_ne (by decide) d6⟩
  rw [ust_at hB]
  unfold wpart
  rw [hti]
  by_cases h8 : j < 8
  · rw [if_pos h8, wrB, if_neg (by omega), wrB, rdB_len, if_pos ⟨by omega, by omega⟩, Nat.sub_zero, List.getD_eq_getElem?_getD, rdB_at h8, Nat.zero_add, ← δat j (by omega)]
    rfl
  · rw [if_neg h8, wrB, rdB_len]
    by_cases hin : 8 + 8 * i ≤ j ∧ j < 8 + 8 * i + 8
    · rw [if_pos hin, if_pos (show 8 * (i + 1) ≤ j ∧ j < 8 * (i + 1) + 8 by omega), List.getD_eq_getElem?_getD, rdB_at (by omega), ← δat _ (by omega), show j - 8 * (i + 1) = j - (8 + 8 * i) by omega]
      rfl
    · rw [if_neg hin, if_neg (show ¬ (8 * (i + 1) ≤ j ∧ j < 8 * (i + 1) + 8) by omega), wrB, rdB_len, if_neg (by omega)]
      exact hβw j hj
theorem QM_un_i {r25 : Nat → Int32 → Int32 → Int32 → mM → Option (Int32 × mM)} {q : Nat} {l3 l5 : Int32} (X : Cx G F W) (h : isM W) (hp : 1 ≤ p) (hp8 : p ≤ 8) (hq : q < 6) : ∀ (i n : Nat) (S : ST) (w : Nat → UInt8), i < n → i ≤ p → mBX S → mKS S ks nr → MW S p w → ∃ S' w', B_X13_unwrapIt_38 G F r25 n (W.ad (.o 13 0)) l3 (Int32.ofNat (q * p + i)) l5 (Int32.ofNat (8 * i)) (mem W S) = r25 (W.ad (.o 13 0)) l3 (Int32.ofNat (q * p)) (l5 + 1) (mem W S') ∧ arF L4 S S' ∧ MW S' p w' ∧ uIt ks nr p (q * p) w' = uIt ks nr p (q * p + i) w := by
  have hqp : q * p ≤ 40 := by
    have : q * p ≤ 5 * 8 := Nat.mul_le_mul (by omega) hp8
    omega
  intro i
  induction i with
  | zero =>
    intro n S w hn hi hbx hk hw
    obtain ⟨n, rfl⟩ : ∃ q, n = q + 1 := ⟨n - 1, by omega⟩
    rw [B_X13_unwrapIt_38, if_pos (by decide)]
    exact ⟨S, w, rfl, arF.refl _ _, hw, rfl⟩
  | succ i ih =>
    intro n S w hn hi hbx hk hw
    obtain ⟨n, rfl⟩ : ∃ q, n = q + 1 := ⟨n - 1, by omega⟩
    rw [B_X13_unwrapIt_38, if_neg (by rw [lit 8]; exact fun q => absurd ((n_lt (by omega) (by omega)).mp q) (by omega))]
    obtain ⟨S1, g1, a1, w1⟩ := QM_un_s (S := S) (w := w) (t := q * p + i) (i := i) (K := fun M137 => B_X13_unwrapIt_38 G F r25 n (W.ad (.o 13 0)) l3 ((Int32.ofNat (q * p + i + 1)) + (-1)) l5 ((Int32.ofNat (8 * (i + 1))) + (-8)) M137) X h hp hp8 (by omega) (qp_mod (by omega)) (by omega) hbx hk hw
    obtain ⟨S2, w', g2, a2, w2, u2⟩ := ih n S1 _ (by omega) (by omega) (mBX_ar a1 (by decide) (by decide) hbx) (mKS_ar a1 (by decide) hk) w1
    refine ⟨S2, w', g1.trans ?_, a1.trans a2, w2, u2⟩
    show B_X13_unwrapIt_38 G F r25 n (W.ad (.o 13 0)) l3 ((Int32.ofNat (q * p + i + 1)) + (-1)) l5 ((Int32.ofNat (8 * (i + 1))) + (-8)) (mem W S1) = _
    rw [n_dec, n_sub8]
    exact g2
theorem QM_un_q (X : Cx G F W) (h : isM W) (hp : 1 ≤ p) (hp8 : p ≤ 8) : ∀ (q n : Nat) (S : ST) (w : Nat → UInt8), q < n → q ≤ 6 → mBX S → mKS S ks nr → MW S p w → ∃ S' w', B_X13_unwrapIt_25 G F n (W.ad (.o 13 0)) (Int32.ofNat (8 * p + 8)) (Int32.ofNat (q * p)) (Int32.ofNat (6 - q)) (mem W S) = some (if okA w' then 1 else 0, mem W S') ∧ arF L4 S S' ∧ MW S' p w' ∧ w' = uIt ks nr p (q * p) w := by
  have hF := X.hF
  intro q
  induction q with
  | zero =>
    intro n S w hn hq hbx hk hw
    obtain ⟨n, rfl⟩ : ∃ q, n = q + 1 := ⟨n - 1, by omega⟩
    have hw0 := hw
    obtain ⟨⟨β, hβ, hβw⟩, -⟩ := hw
    have m0 := QM_longAt (S := S) (k := 48) (p := 0) (cnt := 8) X h rfl (by decide) (by decide) (by decide) hβ
    have m0' : P_X13_longAt G F (W.ad (.a 13 0 48)) 0 8 (mem W S) = some (Int64.ofNat (beN (rdB β 0 8)), mem W S) := m0
    rw [B_X13_unwrapIt_25, if_pos (by decide), h.gR 48 rfl (by decide), bO_s, m0', bP_s]
    refine ⟨S, w, ?_, arF.refl _ _, hw0, by rw [Nat.zero_mul]; rfl⟩
    by_cases hok : okA w = true
    · rw [if_pos ((lg0 _ _).mpr (a6_all.mpr fun j hj => by rw [hβw j (by omega)]; exact (okA_iff w).mp hok j hj)), hok]
      rfl
    · rw [if_neg (fun q => hok ((okA_iff w).mpr fun j hj => by rw [← hβw j (by omega)]; exact a6_all.mp ((lg0 _ _).mp q) j hj))]
      have : okA w = false := by
        cases hq : okA w
        · rfl
        · exact absurd hq hok
      rw [this]
      rfl
  | succ q ih =>
    intro n S w hn hq hbx hk hw
    obtain ⟨n, rfl⟩ : ∃ q, n = q + 1 := ⟨n - 1, by omega⟩
    rw [B_X13_unwrapIt_25, if_neg (by rw [lit 6]; exact fun q => absurd ((n_le (by omega) (by omega)).mp q) (by omega)), n_subL 8 (by omega), Nat.add_sub_cancel, show (q + 1) * p = q * p + p from Nat.succ_mul q p]
    obtain ⟨S1, w', g1, a1, w1, u1⟩ := QM_un_i (r25 := B_X13_unwrapIt_25 G F n) (l3 := (Int32.ofNat (8 * p + 8))) (l5 := (Int32.ofNat (6 - (q + 1)))) (q := q) (ks := ks) (nr := nr) X h hp hp8 (by omega) p F S w (by omega) (by omega) hbx hk hw
    rw [g1, n_addL _ 1, show 6 - (q + 1) + 1 = 6 - q by omega]
    obtain ⟨S2, w2, g2, a2, m2, u2⟩ := ih n S1 _ (by omega) (by omega) (mBX_ar a1 (by decide) (by decide) hbx) (mKS_ar a1 (by decide) hk) w1
    exact ⟨S2, w2, g2, a1.trans a2, m2, u2.trans u1⟩
theorem QM_unwrapIt {S : ST} {k pos : Nat} {β ω : Nat → UInt8} {u key : List UInt8} (X : Cx G F W) (h : isM W) (q : (kdA 13)[k]? = some 1) (hk48 : k ≠ 48) (hl : mLen k < 2 ^ 30) (hb : pos + u.length ≤ mLen k) (hβ : mB (S 13 0) k β) (hu : rdB β pos u.length = u) (h8 : 8 ≤ u.length) (hm : mayW (u.length - 8) = true) (hbx : mBX S) (hks : mKS S (ksF (key.length / 4) key) (key.length / 4 + 6)) (hω : mB (S 13 0) 48 ω) (h1 : ∃ δ, mB (S 13 0) 47 δ) : ∃ S' γ, P_X13_unwrapIt G F (W.ad (.o 13 0)) (W.ad (.a 13 0 k)) (Int32.ofNat pos) (Int32.ofNat u.length) (mem W S) = some (if okA (uwF key u) then 1 else 0, mem W S') ∧ arF L4 S S' ∧ mB (S' 13 0) 48 γ ∧ (∀ j, j < u.length → γ j = uwF key u j) ∧ ∃ δ, mB (S' 13 0) 47 δ := by
  have hF := X.hF
  have hm' : 16 ≤ u.length - 8 ∧ u.length - 8 ≤ 64 ∧ (u.length - 8) % 8 = 0 := of_decide_eq_true hm
  obtain ⟨p, hp⟩ : ∃ p, u.length = 8 * p + 8 := ⟨(u.length - 8) / 8, by omega⟩
  have hp8 : (u.length - 8) / 8 = p := by omega
  obtain ⟨S2, hS2⟩ : ∃ S2, S2 = S.sa 13 0 48 (fun j => sb (wrB ω 0 (rdB β pos u.length) j)) := ⟨_, rfl⟩
  have mv : P_X13_move G F (W.ad (.a 13 0 k)) (Int32.ofNat pos) (W.ad (.a 13 0 48)) 0 (Int32.ofNat u.length) (mem W S) = some (mem W S2) := by
    rw [hS2]
    exact QM_move (k1 := k) (k2 := 48) (p1 := pos) (p2 := 0) (cnt := u.length) X h q rfl hk48 hl (by decide) hb (by show 0 + u.length ≤ 80; omega) (by omega) hβ hω
  have a2 : arF L4 S S2 := by rw [hS2]; exact arF_sa (by decide)
  have w2 : MW S2 p (fun j => u.getD j 0) := by
    refine ⟨⟨wrB ω 0 (rdB β pos u.length), by rw [hS2]; exact mBs_eq _ _ _, fun j hj => ?_⟩, ?_⟩
    · rw [hu, wrB, if_pos ⟨by omega, by omega⟩, Nat.sub_zero]
    · obtain ⟨δ, h1⟩ := h1
      exact ⟨δ, by rw [hS2]; exact mBs_ne (by decide) h1⟩
  have e6 : (6 : Int32) * ((Int32.ofNat u.length) / (8 : Int32) - (1 : Int32)) = (Int32.ofNat (6 * p)) := by
    rw [show (8 : Int32) = (Int32.ofNat 8) from rfl, n_div (by omega) (by omega), show u.length / 8 = p + 1 by omega, n_subL 1 (by omega)]
    exact n_mul 6 p
  unfold P_X13_unwrapIt
  rw [h.gR 48 rfl (by decide), bO_s, mv, bO_s, e6]
  obtain ⟨S3, w', g3, a3, ⟨⟨γ, c3, d3⟩, e3⟩, u3⟩ := QM_un_q (p := p) X h (by omega) (by omega) 6 F S2 _ (by omega) (by omega) (mBX_ar a2 (by decide) (by decide) hbx) (mKS_ar a2 (by decide) hks) w2
  have euw : uwF key u = w' := by rw [uwF, hp8, u3]
  rw [euw]
  have g3' : B_X13_unwrapIt_25 G F F (W.ad (.o 13 0)) (Int32.ofNat u.length) (Int32.ofNat (6 * p)) 0 (mem W S2) = some (if okA w' then 1 else 0, mem W S3) := by rw [hp]; exact g3
  exact ⟨S3, γ, g3', a2.trans a3, c3, fun j hj => d3 j (by omega), e3⟩
theorem QM_unwrap {S : ST} {rows : Nat → List UInt8} {t : List UInt8} {x y : Int32} (X : Cx G F W) (h : isM W) (hbx : mBX S) (ho : mOut (S 13 0) t) (hR : mRows (S 13 0) rows) (h1 : ∃ β, mB (S 13 0) 47 β) (h48 : ∃ β, mB (S 13 0) 48 β) : ∃ o, P_X13_unwrap G F (W.ad (.o 13 0)) x y (mem W S) = some (match unwrapC rows x y with | some (some u) => (Int32.ofNat u.length) | some none => -1 | none => -2, mem W (S.so 13 0 o)) ∧ agr [44, 5] [] [43, 45, 46, 47, 48, 4] [] (S 13 0) o ∧ (∃ β, mB o 47 β) ∧ (∃ β, mB o 48 β) ∧ mOut o (match unwrapC rows x y with | some (some u) => u | some none => t | none => t) := by
  have hR' := hR
  obtain ⟨β, r1, r2⟩ := hR
  obtain ⟨ω, h48⟩ := h48
  have bad : ∃ o, some ((-2 : Int32), mem W S) = some ((-2 : Int32), mem W (S.so 13 0 o)) ∧ agr [44, 5] [] [43, 45, 46, 47, 48, 4] [] (S 13 0) o ∧ (∃ β, mB o 47 β) ∧ (∃ β, mB o 48 β) ∧ mOut o t := ⟨S 13 0, by rw [so_self], agr.refl _ _ _ _ _, h1, ⟨ω, h48⟩, ho⟩
  unfold P_X13_unwrap unwrapC
  rw [rcv_m h.lo, bO_s, QM_isCipherKey h hR', bP_s]
  cases hk : isCK rows x
  · rw [if_pos (by rfl)]
    exact bad
  rw [if_neg (by decide), Q13_isRow, bP_s]
  obtain ⟨rk, hrk, rfl, hkl⟩ := isCK_i hk
  rcases isr_cases y with hy | ⟨r, hr, rfl, hy⟩
  · rw [hy, if_pos (by rfl)]
    exact bad
  obtain ⟨k3, k4, k5⟩ := r2 rk hrk
  obtain ⟨r3, r4, r5⟩ := r2 r hr
  rw [hy, if_neg (by decide), h.gR 3 rfl (by decide), bO_s, h.aN rfl (show r < 8 from hr) (by decide), bO_s, r3, n_at (by omega), n_at (by omega)]
  by_cases hc : 8 ≤ (rows r).length ∧ mayW ((rows r).length - 8) = true
  · obtain ⟨h8, hm⟩ := hc
    have hm' : 16 ≤ (rows r).length - 8 ∧ (rows r).length - 8 ≤ 64 ∧ ((rows r).length - 8) % 8 = 0 := of_decide_eq_true hm
    have hd : decide (8 ≤ (rows r).length) = true := decide_eq_true h8
    rw [hm, hd, if_neg (by rw [lit 24]; exact fun q => absurd ((n_lt (by omega) (by omega)).mp q) (by omega)), bO_s, h.aN rfl (show r < 8 from hr) (by decide), bO_s, r3, if_neg (by rw [lit 72]; exact fun q => absurd ((n_lt (by omega) (by omega)).mp q) (by omega)), bO_s, h.aN rfl (show r < 8 from hr) (by decide), bO_s, r3, m8_t _ r4, if_pos (show (Int32.ofNat ((rows r).length % 8)) = 0 by rw [show (rows r).length % 8 = 0 by omega]; rfl), h.gR 2 rfl (by decide), bO_s, bO_s, h.aN rfl (show rk < 8 from hrk) (by decide), bO_s, rcv_m h.lo, bO_s, k3, show (8192 : Int32) * (Int32.ofNat rk) = (Int32.ofNat (8192 * rk)) from n_mul 8192 rk]
    obtain ⟨o1, g1, a1, s1⟩ := QM_setKey (S := S) (k := 2) (p := 8192 * rk) (n := (rows rk).length) X h rfl (by decide) hkl (by show _ ≤ 65536; omega) r1 hbx
    rw [k5] at s1
    have hbx1 : mBX (S.so 13 0 o1) := by
      have := a1.mBX (by decide) (by decide) hbx
      exact ⟨fun x => by rw [so_eq]; exact this.1 x, fun x => by rw [so_eq]; exact this.2 x⟩
    obtain ⟨δ, h1⟩ := h1
    obtain ⟨S2, γ, g2, a2, b2, e2, δ2, d2⟩ := QM_unwrapIt (S := S.so 13 0 o1) (k := 2) (pos := 8192 * r) (u := rows r) (key := rows rk) X h rfl (by decide) (by decide) (by show _ ≤ 65536; omega) (by rw [so_eq]; exact a1.mB r1 (by decide)) r5 h8 hm hbx1 s1 (by rw [so_eq]; exact a1.mB h48 (by decide)) ⟨δ, by rw [so_eq]; exact a1.mB h1 (by decide)⟩
    rw [g1, bO_s, h.gR 2 rfl (by decide), bO_s, h.gR 3 rfl (by decide), bO_s, h.aN rfl (show r < 8 from hr) (by decide), bO_s, rcv_m h.lo, bO_s, so_eq, a1.2.2.1 3 (by decide), r3, show (8192 : Int32) * (Int32.ofNat r) = (Int32.ofNat (8192 * r)) from n_mul 8192 r, g2, bP_s]
    have ag0 : agr [44] [] [43, 45, 46, 47, 48] [] (S 13 0) (S2 13 0) := by
      have := a2.ag 13 0 [45, 46, 47, 48] (by decide)
      rw [so_eq] at this
      exact (a1.mono (by decide) (by decide) (by decide) (by decide)).trans (this.mono (by decide) (by decide) (by decide) (by decide))
    have ag : agr [44, 5] [] [43, 45, 46, 47, 48] [] (S 13 0) (S2 13 0) := ag0.mono (by decide) (by decide) (by decide) (by decide)
    have f2 : S2 = S.so 13 0 (S2 13 0) := ((fr_so (by simp)).trans (a2.fr (L' := [(13, 0)]) (by decide))).one
    have ho' := ho
    obtain ⟨o1', o2, β4, o4, o5⟩ := ho
    simp only [Bool.and_self, if_true]
    unfold unwrapF
    cases hok : okA (uwF (rows rk) (rows r)) with
    | false =>
      rw [if_pos (by rfl)]
      refine ⟨S2 13 0, by rw [← f2]; rfl, ag.mono (by decide) (by decide) (by decide) (by decide), ⟨δ2, d2⟩, ⟨γ, b2⟩, ?_⟩
      exact ag0.mOut ho' (by decide) (by decide)
    | true =>
      have hlen : (mapN (fun j => uwF (rows rk) (rows r) (8 + j)) ((rows r).length - 8)).length = (rows r).length - 8 := mapN_len _ _
      rw [if_neg (by decide), h.gR 48 rfl (by decide), bO_s, h.gR 3 rfl (by decide), bO_s, h.aN rfl (show r < 8 from hr) (by decide), bO_s, rcv_m h.lo, bO_s, ag.2.2.1 3 (by decide), r3, n_subL 8 h8]
      have tl := QM_tell (S := S2) (k := 48) (p := 8) (cnt := (rows r).length - 8) X h rfl (by decide) (by decide) (by show 8 + _ ≤ 80; omega) (by omega) b2 (ag.mB o4 (by decide))
      have er : rdB γ 8 ((rows r).length - 8) = mapN (fun j => uwF (rows rk) (rows r) (8 + j)) ((rows r).length - 8) := by
        unfold rdB mapN
        apply List.map_congr_left
        intro j hj
        have := List.mem_range.mp hj
        exact e2 (8 + j) (by omega)
      rw [er] at tl
      have tl' : P_X13_tell G F (W.ad (.o 13 0)) (W.ad (.a 13 0 48)) 8 (Int32.ofNat ((rows r).length - 8)) (mem W S2) = _ := tl
      rw [tl', bP_s]
      simp only [if_true]
      rw [f2, so_so, so_eq]
      refine ⟨_, by rw [hlen], ((ag.mono (by decide) (by decide) (by decide) (by decide)).trans (agr_sA (by decide))).trans (agr_sf (by decide)), ⟨δ2, mB_sA' (by decide) d2⟩, ⟨γ, mB_sA' (by decide) b2⟩, by rw [sf_f, if_pos rfl, hlen], by omega, _, mB_sA _ _ _, rdB_wrB _ 0 _⟩
  · have hcf : (decide (8 ≤ (rows r).length) && mayW ((rows r).length - 8)) = false := by
      cases hq : mayW ((rows r).length - 8)
      · simp
      · simp
        exact Nat.lt_of_not_le fun h8 => hc ⟨h8, hq⟩
    have hm' : ¬ (8 ≤ (rows r).length ∧ 16 ≤ (rows r).length - 8 ∧ (rows r).length - 8 ≤ 64 ∧ ((rows r).length - 8) % 8 = 0) := fun q => hc ⟨q.1, decide_eq_true q.2⟩
    rw [hcf]
    simp only [Bool.and_false, Bool.false_eq_true, if_false]
    by_cases c1 : (rows r).length < 24
    · rw [if_pos (by rw [lit 24]; exact (n_lt (by omega) (by omega)).mpr c1)]
      exact bad
    rw [if_neg (by rw [lit 24]; exact fun q => c1 ((n_lt (by omega) (by omega)).mp q)), bO_s, h.aN rfl (show r < 8 from hr) (by decide), bO_s, r3]
    by_cases c2 : 72 < (rows r).length
    · rw [if_pos (by rw [lit 72]; exact (n_lt (by omega) (by omega)).mpr c2)]
      exact bad
    rw [if_neg (by rw [lit 72]; exact fun q => c2 ((n_lt (by omega) (by omega)).mp q)), bO_s, h.aN rfl (show r < 8 from hr) (by decide), bO_s, r3, m8_t _ r4, if_neg (show ¬ (Int32.ofNat ((rows r).length % 8)) = 0 by rw [z32]; exact fun q => absurd ((n_eq (by omega) (by omega)).mp q) (by omega))]
    exact bad
end MUNWRAP
