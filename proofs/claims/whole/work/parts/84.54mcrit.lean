/-! WHAT A HEAD NAMES CRITICAL: the model -/
/-- who has something inside has a next value -/
def JI (J : JT) : Prop := ∀ i, i < J.1 → 0 < J.2.1 5 i → i + 1 < J.1
theorem rd_I {s : List UInt8} {J : JT} (h : rdT s = .inr J) : JI J := by
  refine rd_inv (P := JI) (fun J kd p op na nm hP ho i hi => ?_) (fun J i bs hP j hj => ?_) (fun J bs hP => hP) (fun i hi => absurd hi (Nat.not_lt_zero _)) h
  · have hi : i < J.1 + 1 := hi
    show 0 < bgT J.2.1 J.1 kd p op J.2.2.length na nm 5 i → i + 1 < J.1 + 1
    intro q
    by_cases e : i = J.1
    · subst e
      rw [bgT_n] at q
      exact absurd (show 0 < 0 from q) (by decide)
    · omega
  · exact hP j hj
theorem st_114 : str 114 = str 54 ∧ str 115 = str 67 ∧ str 116 = str 57 ∧ str 118 = str 68 ∧ str 119 = str 71 ∧ str 120 = str 72 ∧ str 90 = str 56 ∧ str 100 = str 66 ∧ str 88 = str 55 ∧ str 84 = str 69 ∧ str 87 = str 70 ∧ str 91 = str 27 ∧ str 92 = str 28 ∧ str 95 = str 29 ∧ str 97 = str 30 := by decide +kernel
section MCR
variable {W : WR} {G : mG} {F : Nat} {S : ST} {bk : Nat} {J : JT}
theorem QM_crit95 {r39 : Nat → Int32 → Int32 → Int32 → Int32 → Int32 → mM → Option (Int32 × mM)} {c k : Nat} (X : Cx G F W) (h : isM W) (M : MTx (S 13 0) bk J) (hbk : bk ≤ 1) (Y : JX J) (hc : c < J.1) (hk : k < J.1) : ∀ (m i fuel : Nat) (g : Bool), m < fuel → i + m = k → B_X13_isCrit_95 G F r39 fuel (W.ad (.o 13 0)) (Int32.ofNat bk) (Int32.ofNat c) (Int32.ofNat (600 * bk + c)) (if g = true then 1 else 0) (Int32.ofNat (600 * bk + k)) (Int32.ofNat (600 * bk + i)) (mem W S) = r39 (W.ad (.o 13 0)) (Int32.ofNat bk) (Int32.ofNat c) (Int32.ofNat (600 * bk + c)) (if (g && (fnF (sdB J c k) m i).isNone) = true then 1 else 0) (Int32.ofNat (600 * bk + (k + 1))) (mem W S) := by
  have Y2 := Y.2.1
  have Y1 := Y.1
  obtain ⟨m1, m2, β, m3, m4⟩ := M
  intro m
  induction m with
  | zero =>
    intro i fuel g hf hi
    obtain ⟨fuel, rfl⟩ : ∃ q, fuel = q + 1 := ⟨fuel - 1, by omega⟩
    rw [B_X13_isCrit_95, if_pos ((n_le (by omega) (by omega)).mpr (by omega)), n_i1]
    show _ = r39 _ _ _ _ (if (g && true) = true then 1 else 0) _ _
    rw [Bool.and_true]
    rfl
  | succ m ih =>
    intro i fuel g hf hi
    obtain ⟨fuel, rfl⟩ : ∃ q, fuel = q + 1 := ⟨fuel - 1, by omega⟩
    rw [B_X13_isCrit_95, if_neg (fun z => by have := (n_le (by omega) (by omega)).mp z; omega)]
    cases g with
    | false =>
      rw [if_pos (show (if false = true then (1 : Int32) else 0) = 0 from rfl), n_i1]
      rfl
    | true =>
      have hil : i < J.1 := by omega
      obtain ⟨a1, a2, a3, a4, a5, a6, a7, a8, a9⟩ := m2 i (Nat.zero_le _) hil
      obtain ⟨b1, b2, b3, b4, b5, b6, b7, b8, b9⟩ := m2 k (Nat.zero_le _) hk
      have yi := Y.2.2 i hil
      have yk := Y.2.2 k hk
      have jl : 600 * bk + i < 1200 := by omega
      have kl : 600 * bk + k < 1200 := by omega
      have e2 : (paI (J.2.1 2 i) = (Int32.ofNat c)) = (J.2.1 2 i = c + 1) := paI_eq (by omega) (by omega)
      have e7 : ((Int32.ofNat (J.2.1 7 i)) = (Int32.ofNat (J.2.1 7 k))) = (J.2.1 7 i = J.2.1 7 k) := propext (n_eq (by omega) (by omega))
      have nx : ∀ g : Bool, B_X13_isCrit_95 G F r39 fuel (W.ad (.o 13 0)) (Int32.ofNat bk) (Int32.ofNat c) (Int32.ofNat (600 * bk + c)) (if g = true then 1 else 0) (Int32.ofNat (600 * bk + k)) ((Int32.ofNat (600 * bk + i)) + 1) (mem W S) = r39 (W.ad (.o 13 0)) (Int32.ofNat bk) (Int32.ofNat c) (Int32.ofNat (600 * bk + c)) (if (g && (fnF (sdB J c k) m (i + 1)).isNone) = true then 1 else 0) (Int32.ofNat (600 * bk + (k + 1))) (mem W S) := by
        intro g
        rw [n_i1]
        exact ih (i + 1) fuel g (by omega) (by omega)
      have n1 : B_X13_isCrit_95 G F r39 fuel (W.ad (.o 13 0)) (Int32.ofNat bk) (Int32.ofNat c) (Int32.ofNat (600 * bk + c)) 1 (Int32.ofNat (600 * bk + k)) ((Int32.ofNat (600 * bk + i)) + 1) (mem W S) = _ := nx true
      have n0 : B_X13_isCrit_95 G F r39 fuel (W.ad (.o 13 0)) (Int32.ofNat bk) (Int32.ofNat c) (Int32.ofNat (600 * bk + c)) 0 (Int32.ofNat (600 * bk + k)) ((Int32.ofNat (600 * bk + i)) + 1) (mem W S) = _ := nx false
      rw [if_neg (by decide)]
      simp only [mvr h 7, mvr h 11, mvr h 12, h.gR 15 rfl (by decide), bO_s, mva h 7 _ jl, mva h 12 _ jl, mva h 12 _ kl, mva h 11 _ jl, mva h 11 _ kl, a2, a6, a7, b6, b7, e2, e7]
      show _ = r39 _ _ _ _ (if (true && (if sdB J c k i = true then some i else fnF (sdB J c k) m (i + 1)).isNone) = true then 1 else 0) _ _
      have no : ¬ (J.2.1 2 i = c + 1 ∧ J.2.1 7 i = J.2.1 7 k ∧ seg J.2.2 (J.2.1 6 i) (J.2.1 7 k) = seg J.2.2 (J.2.1 6 k) (J.2.1 7 k)) → (if sdB J c k i = true then some i else fnF (sdB J c k) m (i + 1)) = fnF (sdB J c k) m (i + 1) := by
        intro z
        refine if_neg (fun q => z ?_)
        unfold sdB at q
        rw [Bool.and_eq_true, Bool.and_eq_true, decide_eq_true_iff, decide_eq_true_iff, decide_eq_true_iff] at q
        exact q
      by_cases e : J.2.1 2 i = c + 1
      · rw [if_pos e]
        by_cases f : J.2.1 7 i = J.2.1 7 k
        · have es1 : rdB β (8200 * bk + J.2.1 6 i) (J.2.1 7 k) = seg J.2.2 (J.2.1 6 i) (J.2.1 7 k) := by rw [← m4, seg_rd (by omega)]
          have es2 : rdB β (8200 * bk + J.2.1 6 k) (J.2.1 7 k) = seg J.2.2 (J.2.1 6 k) (J.2.1 7 k) := by rw [← m4, seg_rd (by omega)]
          rw [if_pos f, QM_same X h rfl rfl (by decide) (by decide) (by show _ ≤ 16400; omega) (by show _ ≤ 16400; omega) m3 m3 (by omega), bP_s, es1, es2]
          by_cases z : seg J.2.2 (J.2.1 6 i) (J.2.1 7 k) = seg J.2.2 (J.2.1 6 k) (J.2.1 7 k)
          · have sd : sdB J c k i = true := by
              unfold sdB
              rw [decide_eq_true e, decide_eq_true f, decide_eq_true z]
              rfl
            rw [if_pos z, if_neg (by decide), if_pos sd, n0]
            rfl
          · rw [if_neg z, if_pos rfl, no (fun q => z q.2.2), n1]
        · rw [if_neg f, no (fun q => f q.2.1), n1]
      · rw [if_neg e, no (fun q => e q.1), n1]
theorem QM_crit39 {c : Nat} (X : Cx G F W) (h : isM W) (M : MTx (S 13 0) bk J) (hbk : bk ≤ 1) (Y : JX J) (hc : c < J.1) : ∀ (m k fuel : Nat) (g : Bool), m < fuel → k + m = J.1 → c < k → B_X13_isCrit_39 G F fuel (W.ad (.o 13 0)) (Int32.ofNat bk) (Int32.ofNat c) (Int32.ofNat (600 * bk + c)) (if g = true then 1 else 0) (Int32.ofNat (600 * bk + k)) (mem W S) = some (if (g && (fnF (crX J c) m k).isNone) = true then 1 else 0, mem W S) := by
  have Y2 := Y.2.1
  have hF := X.hF
  have M0 := M
  obtain ⟨m1, m2, β, m3, m4⟩ := M
  have zz : ∀ g : Bool, retZ (if g = true then 1 else 0) (mem W S) = some (if g = true then 1 else 0, mem W S) := by
    intro g
    cases g <;> rfl
  have e600 : (600 : Int32) * (Int32.ofNat bk) + (Int32.ofNat J.1) = (Int32.ofNat (600 * bk + J.1)) := m600
  intro m
  induction m with
  | zero =>
    intro k fuel g hf hk hck
    obtain ⟨fuel, rfl⟩ : ∃ q, fuel = q + 1 := ⟨fuel - 1, by omega⟩
    rw [B_X13_isCrit_39, h.gR 16 rfl (by decide), bO_s, h.aN rfl (show bk < 2 by omega) (by decide), bO_s, m1, e600, if_pos ((n_le (by omega) (by omega)).mpr (by omega)), zz]
    show _ = some (if (g && true) = true then 1 else 0, _)
    rw [Bool.and_true]
  | succ m ih =>
    intro k fuel g hf hk hck
    obtain ⟨fuel, rfl⟩ : ∃ q, fuel = q + 1 := ⟨fuel - 1, by omega⟩
    rw [B_X13_isCrit_39, h.gR 16 rfl (by decide), bO_s, h.aN rfl (show bk < 2 by omega) (by decide), bO_s, m1, e600, if_neg (fun z => by have := (n_le (by omega) (by omega)).mp z; omega)]
    cases g with
    | false =>
      rw [if_pos (show (if false = true then (1 : Int32) else 0) = 0 from rfl)]
      rfl
    | true =>
      have hkl : k < J.1 := by omega
      obtain ⟨b1, b2, b3, b4, b5, b6, b7, b8, b9⟩ := m2 k (Nat.zero_le _) hkl
      have yk := Y.2.2 k hkl
      have kl : 600 * bk + k < 1200 := by omega
      have e2 : (paI (J.2.1 2 k) = (Int32.ofNat c)) = (J.2.1 2 k = c + 1) := paI_eq (by omega) (by omega)
      have e4 : ((Int32.ofNat (J.2.1 1 k)) = (4 : Int32)) = (J.2.1 1 k = 4) := propext (n_eq (b := 4) (by omega) (by omega))
      rw [if_neg (by decide)]
      simp only [mvr h 7, mvr h 6, bO_s, mva h 7 _ kl, mva h 6 _ kl, b1, b2, e2, e4]
      show _ = some (if (true && (if crX J c k = true then some k else fnF (crX J c) m (k + 1)).isNone) = true then 1 else 0, mem W S)
      by_cases e : J.2.1 2 k = c + 1
      · have in_ : ∀ g : Bool, B_X13_isCrit_95 G F (B_X13_isCrit_39 G F fuel) F (W.ad (.o 13 0)) (Int32.ofNat bk) (Int32.ofNat c) (Int32.ofNat (600 * bk + c)) (if g = true then 1 else 0) (Int32.ofNat (600 * bk + k)) (Int32.ofNat (600 * bk + (c + 1))) (mem W S) = some (if ((g && (fnF (sdB J c k) (k - (c + 1)) (c + 1)).isNone) && (fnF (crX J c) m (k + 1)).isNone) = true then 1 else 0, mem W S) := by
          intro g
          rw [QM_crit95 X h M0 hbk Y hc hkl (k - (c + 1)) (c + 1) F g (by omega) (by omega)]
          exact ih (k + 1) fuel _ (by omega) (by omega) (by omega)
        have i1 : B_X13_isCrit_95 G F (B_X13_isCrit_39 G F fuel) F (W.ad (.o 13 0)) (Int32.ofNat bk) (Int32.ofNat c) (Int32.ofNat (600 * bk + c)) 1 (Int32.ofNat (600 * bk + k)) (Int32.ofNat (600 * bk + (c + 1))) (mem W S) = _ := in_ true
        have i0 : B_X13_isCrit_95 G F (B_X13_isCrit_39 G F fuel) F (W.ad (.o 13 0)) (Int32.ofNat bk) (Int32.ofNat c) (Int32.ofNat (600 * bk + c)) 0 (Int32.ofNat (600 * bk + k)) (Int32.ofNat (600 * bk + (c + 1))) (mem W S) = _ := in_ false
        rw [if_pos e, show (Int32.ofNat (600 * bk + c)) + (1 : Int32) = (Int32.ofNat (600 * bk + (c + 1))) from n_i1 _]
        by_cases z : J.2.1 1 k = 4
        · rw [if_pos z, i1]
          by_cases y : (fnF (sdB J c k) (k - (c + 1)) (c + 1)).isSome = true
          · have cx : crX J c k = true := by
              unfold crX
              rw [decide_eq_true e, decide_eq_true z, y]
              rfl
            have yn : (fnF (sdB J c k) (k - (c + 1)) (c + 1)).isNone = false := by
              revert y
              cases fnF (sdB J c k) (k - (c + 1)) (c + 1) <;> simp
            rw [if_pos cx, yn]
            rfl
          · have yn : (fnF (sdB J c k) (k - (c + 1)) (c + 1)).isNone = true := by
              revert y
              cases fnF (sdB J c k) (k - (c + 1)) (c + 1) <;> simp
            have cx : ¬ crX J c k = true := by
              unfold crX
              rw [decide_eq_true e, decide_eq_true z, Bool.eq_false_iff.mpr y]
              decide
            rw [if_neg cx, yn]
            rfl
        · have cx : crX J c k = true := by
            unfold crX
            rw [decide_eq_true e, decide_eq_false z]
            rfl
          rw [if_neg z, i0, if_pos cx]
          rfl
      · have cx : ¬ crX J c k = true := by
          unfold crX
          rw [decide_eq_false e]
          simp
        have := ih (k + 1) fuel true (by omega) (by omega) (by omega)
        rw [if_neg e, if_neg cx, n_i1]
        exact this
theorem QM_crit {c : Nat} (X : Cx G F W) (h : isM W) (M : MTx (S 13 0) bk J) (hbk : bk ≤ 1) (Y : JX J) (hc : c < J.1) : P_X13_isCrit G F (W.ad (.o 13 0)) (Int32.ofNat bk) (Int32.ofNat c) (mem W S) = some (if crB J c = true then 1 else 0, mem W S) := by
  have hF := X.hF
  have Y2 := Y.2.1
  have yk := Y.2.2 c hc
  have L := QM_crit39 (G := G) (F := F) X h M hbk Y hc (J.1 - (c + 1)) (c + 1) F
  have L1 : B_X13_isCrit_39 G F F (W.ad (.o 13 0)) (Int32.ofNat bk) (Int32.ofNat c) (Int32.ofNat (600 * bk + c)) 1 (Int32.ofNat (600 * bk + (c + 1))) (mem W S) = _ := L true (by omega) (by omega) (by omega)
  have L0 : B_X13_isCrit_39 G F F (W.ad (.o 13 0)) (Int32.ofNat bk) (Int32.ofNat c) (Int32.ofNat (600 * bk + c)) 0 (Int32.ofNat (600 * bk + (c + 1))) (mem W S) = _ := L false (by omega) (by omega) (by omega)
  obtain ⟨b1, b2, b3, b4, b5, b6, b7, b8, b9⟩ := M.2.1 c (Nat.zero_le _) hc
  have kl : 600 * bk + c < 1200 := by omega
  have e5 : ((Int32.ofNat (J.2.1 1 c)) = (5 : Int32)) = (J.2.1 1 c = 5) := propext (n_eq (b := 5) (by omega) (by omega))
  have e0 : ((Int32.ofNat (J.2.1 5 c)) ≤ (0 : Int32)) = (J.2.1 5 c = 0) := propext ((n_le (b := 0) (by omega) (by omega)).trans (by omega))
  unfold P_X13_isCrit
  simp only [m600, mvr h 6, mvr h 10, bO_s, mva h 6 _ kl, mva h 10 _ kl, b1, b5, e5, e0]
  rw [show (Int32.ofNat (600 * bk + c)) + (1 : Int32) = (Int32.ofNat (600 * bk + (c + 1))) from n_i1 _, L1, L0]
  unfold crB
  show _ = some (if ((decide (c < J.1) && decide (J.2.1 1 c = 5)) && _) = true then 1 else 0, _)
  rw [decide_eq_true hc, Bool.true_and]
  by_cases z : J.2.1 1 c = 5
  · rw [if_pos z, decide_eq_true z, Bool.true_and]
    by_cases y : J.2.1 5 c = 0
    · rw [if_pos y, decide_eq_true y]
      rfl
    · rw [if_neg y, decide_eq_false y]
      rfl
  · rw [if_neg z, decide_eq_false z]
    rfl
theorem oM_known {c : Nat} {o : Ob} (X : Cx G F W) (h : isM W) (M : MTx o bk J) (hbk : bk ≤ 1) (Y : JX J) (I : JI J) (h0 : 0 < J.1) (e4 : fd J 54 = some c) : P_X13_isKnown G F (W.ad (.o 13 0)) (Int32.ofNat bk) (Int32.ofNat c) (mem W (S.so 13 0 o)) = some (if knB J = true then 1 else 0, mem W (S.so 13 0 (o.sf 104 (if (knB J && brB J) = true then 1 else 0)))) := by
  have Y2 := Y.2.1
  have hc := fN_lt e4
  obtain ⟨t1, t2, t3, _⟩ := st_114
  have M' : MTx ((S.so 13 0 o) 13 0) bk J := by rw [so_eq]; exact M
  obtain ⟨b1, b2, b3, b4, b5, b6, b7, b8, b9⟩ := M'.2.1 c (Nat.zero_le _) hc
  have yc := Y.2.2 c hc
  have kl : 600 * bk + c < 1200 := by omega
  have mo := QM_memberOf (G := G) (F := F) (v := 0) (j := 116) X h M' hbk Y (by decide) h0
  rw [t3] at mo
  have mo : P_X13_memberOf G F (W.ad (.o 13 0)) (Int32.ofNat bk) 0 (G.1 116) (mem W (S.so 13 0 o)) = some (oI (fd J 57), mem W (S.so 13 0 o)) := mo
  have kn : knB J = (decide (J.2.1 5 c = 1) && (sayB J (some (c + 1)) (str 57) && (kB J (fd J 57) 1 || kB J (fd J 57) 2))) := by unfold knB; rw [e4]
  have br : brB J = kB J (fd J 57) 1 := by unfold brB; rw [e4]; rfl
  have e1 : ((Int32.ofNat (J.2.1 5 c)) = (1 : Int32)) = (J.2.1 5 c = 1) := propext (n_eq (b := 1) (by omega) (by omega))
  -- the rest, by the kind of b64
  have rest : ∀ kd : Nat, kd ≤ 6 → (kB J (fd J 57) 1 = decide (kd = 1)) → (kB J (fd J 57) 2 = decide (kd = 2)) → B_X13_isKnown_30 G F (W.ad (.o 13 0)) (Int32.ofNat bk) (Int32.ofNat c) (Int32.ofNat kd) (mem W (S.so 13 0 o)) = some (if knB J = true then 1 else 0, mem W (S.so 13 0 (o.sf 104 (if (knB J && brB J) = true then 1 else 0)))) := by
    intro kd hkd k1 k2
    have x1 : ((Int32.ofNat kd) = (1 : Int32)) = (kd = 1) := propext (n_eq (b := 1) (by omega) (by omega))
    have x2 : ((Int32.ofNat kd) = (2 : Int32)) = (kd = 2) := propext (n_eq (b := 2) (by omega) (by omega))
    have s0 : B_X13_isKnown_79 G F (W.ad (.o 13 0)) (Int32.ofNat kd) 0 (mem W (S.so 13 0 o)) = some (0, mem W (S.so 13 0 (o.sf 104 0))) := by
      unfold B_X13_isKnown_79
      rw [if_pos rfl, pfZ_m h.lo rfl (Or.inl rfl), bO_s, so_eq, so_so]
      rfl
    have s1 : B_X13_isKnown_79 G F (W.ad (.o 13 0)) (Int32.ofNat kd) 1 (mem W (S.so 13 0 o)) = some (1, mem W (S.so 13 0 (o.sf 104 (if kd = 1 then 1 else 0)))) := by
      unfold B_X13_isKnown_79
      rw [if_neg (by decide)]
      simp only [x1]
      by_cases z : kd = 1
      · rw [if_pos z, if_pos z, pfZ_m h.lo rfl (Or.inr rfl), bO_s, so_eq, so_so]
        rfl
      · rw [if_neg z, if_neg z, pfZ_m h.lo rfl (Or.inl rfl), bO_s, so_eq, so_so]
        rfl
    unfold B_X13_isKnown_30
    rw [br, kn, k1, k2]
    simp only [m600, mvr h 10, bO_s, mva h 10 _ kl, b5, e1, x1, x2, s0, s1]
    by_cases z : J.2.1 5 c = 1
    · have sy := QM_says (G := G) (F := F) (o := some (c + 1)) (j := 116) X h M' hbk Y (by decide) (fun i hi => by have := Option.some.inj hi; have := I c hc (by omega); omega)
      rw [t3] at sy
      have sy : P_X13_says G F (W.ad (.o 13 0)) (Int32.ofNat bk) (Int32.ofNat (c + 1)) (G.1 116) (mem W (S.so 13 0 o)) = _ := sy
      rw [if_pos z, rcv_m h.lo, bO_s, show (Int32.ofNat c) + (1 : Int32) = (Int32.ofNat (c + 1)) from n_i1 _, sy, bP_s, decide_eq_true z, Bool.true_and]
      by_cases y : sayB J (some (c + 1)) (str 57) = true
      · rw [if_pos y, if_neg (by decide), s1, s0, y, Bool.true_and]
        by_cases w1 : kd = 1
        · rw [if_pos w1, decide_eq_true w1, if_pos w1]
          rfl
        · rw [if_neg w1, decide_eq_false w1, if_neg w1]
          by_cases w2 : kd = 2
          · rw [if_pos w2, decide_eq_true w2]
            rfl
          · rw [if_neg w2, decide_eq_false w2]
            rfl
      · rw [if_neg y, if_pos rfl, s0, Bool.eq_false_iff.mpr y]
        rfl
    · rw [if_neg z, decide_eq_false z]
      rfl
  unfold P_X13_isKnown
  rw [rcv_m h.lo, bO_s, mo, bP_s]
  cases e : fd J 57 with
  | none =>
    rw [if_neg (show ¬ (0 : Int32) ≤ oI none by decide)]
    exact rest 0 (by omega) (by rw [e]; rfl) (by rw [e]; rfl)
  | some b =>
    have hb := fN_lt e
    obtain ⟨d1, _⟩ := M'.2.1 b (Nat.zero_le _) hb
    have yb := (Y.2.2 b hb).1
    have bl : 600 * bk + b < 1200 := by omega
    have kb : ∀ q, kB J (some b) q = decide (J.2.1 1 b = q) := fun q => by
      show (decide (b < J.1) && decide (J.2.1 1 b = q)) = _
      rw [decide_eq_true hb, Bool.true_and]
    rw [if_pos (show (0 : Int32) ≤ oI (some b) from (n_le (a := 0) (by omega) (by omega)).mpr (Nat.zero_le _)), mvr h 6, bO_s, show (600 : Int32) * (Int32.ofNat bk) + oI (some b) = (Int32.ofNat (600 * bk + b)) from m600, mva h 6 _ bl, bO_s, d1]
    exact rest _ yb (by rw [e, kb]) (by rw [e, kb])
theorem sy_seg {i : Nat} {w : List UInt8} (Y : JX J) (k : kB J (some i) 4 = true) : (sayB J (some i) w = true) = (seg J.2.2 (J.2.1 6 i) (J.2.1 7 i) = w) := by
  show ((kB J (some i) 4 && decide (J.2.1 7 i = w.length ∧ seg J.2.2 (J.2.1 6 i) w.length = w)) = true) = _
  rw [k, Bool.true_and, decide_eq_true_iff]
  refine propext ⟨fun q => by rw [q.1]; exact q.2, fun q => ?_⟩
  have y := (Y.2.2 i (kB_lt k rfl).1).2.2.2.2.2.1
  have l : J.2.1 7 i = w.length := by rw [← q, seg_len y]
  exact ⟨l, by rw [← l]; exact q⟩
abbrev wrW : List (List UInt8) := [str 59, str 60, str 61, str 62]
theorem wrW_x : ∀ w ∈ wrW, ∀ x ∈ w, x ≠ 32 := by decide +kernel
theorem wrW_r : str 111 = rwW wrW := by decide +kernel
theorem ls_S {i : Nat} (Y : JX J) (k : kB J (some i) 4 = true) : lsF J (some i) (fun a => 33 + (0 + a)) 5 0 = wdF (seg J.2.2 (J.2.1 6 i) (J.2.1 7 i)) wrS 0 := by
  simp only [lsF, sy_seg Y k, wdF, wrS]
theorem ls_E {i : Nat} (Y : JX J) (k : kB J (some i) 4 = true) : lsF J (some i) (fun a => 33 + (5 + a)) 6 0 = wdF (seg J.2.2 (J.2.1 6 i) (J.2.1 7 i)) wrE 0 := by
  simp only [lsF, sy_seg Y k, wdF, wrE]
theorem ls_W {i : Nat} (Y : JX J) (k : kB J (some i) 4 = true) : lsF J (some i) (fun a => 59 + a) 4 0 = wdF (seg J.2.2 (J.2.1 6 i) (J.2.1 7 i)) wrW 0 := by
  simp only [lsF, sy_seg Y k, wdF, wrW]
theorem QM_wordAt {i j : Nat} {ws : List (List UInt8)} (X : Cx G F W) (h : isM W) (M : MTx (S 13 0) bk J) (hbk : bk ≤ 1) (Y : JX J) (hi : i < J.1) (hj : j < 124) (hR : str j = rwW ws) (hl : ws.length < 100) (hx : ∀ w ∈ ws, ∀ x ∈ w, x ≠ 32) : P_X13_wordAt G F (W.ad (.o 13 0)) (Int32.ofNat bk) (Int32.ofNat i) (G.1 j) (mem W S) = some (oI (wdF (seg J.2.2 (J.2.1 6 i) (J.2.1 7 i)) ws 0), mem W S) := by
  have Y2 := Y.2.1
  have Y1 := Y.1
  have y := Y.2.2 i hi
  obtain ⟨m1, m2, β, m3, m4⟩ := M
  obtain ⟨a1, a2, a3, a4, a5, a6, a7, a8, a9⟩ := m2 i (Nat.zero_le _) hi
  have jl : 600 * bk + i < 1200 := by omega
  have es : rdB β (8200 * bk + J.2.1 6 i) (J.2.1 7 i) = seg J.2.2 (J.2.1 6 i) (J.2.1 7 i) := by rw [← m4, seg_rd (by omega)]
  unfold P_X13_wordAt
  simp only [h.gR 15 rfl (by decide), mvr h 11, mvr h 12, m600, bO_s, mva h 11 _ jl, mva h 12 _ jl, a6, a7]
  rw [QM_wordOf X h hj rfl (by decide) m3 (by omega) (by show _ ≤ 16400; omega) hR hl hx, bP_s, es]
end MCR
