/-! A KEY IS KEPT: the model, whole -/
section MKQ
variable {W : WR} {G : mG} {F : Nat} {S : ST} {bk : Nat} {J : JT} {o : Ob}
theorem oM_mem0 {ja jc : Nat} (X : Cx G F W) (h : isM W) (M : MTx o bk J) (hbk : bk ≤ 1) (Y : JX J) (h0 : 0 < J.1) (hj : ja < 124) (hs : str ja = str jc) : P_X13_memberOf G F (W.ad (.o 13 0)) (Int32.ofNat bk) 0 (G.1 ja) (mem W (S.so 13 0 o)) = some (oI (fd J jc), mem W (S.so 13 0 o)) := by
  have mo := QM_memberOf (G := G) (F := F) (S := S.so 13 0 o) (j := ja) (v := 0) X h (by rw [so_eq]; exact M) hbk Y hj h0
  rw [hs] at mo
  exact mo
theorem oM_say0 {ja jc : Nat} {n : Option Nat} (X : Cx G F W) (h : isM W) (M : MTx o bk J) (hbk : bk ≤ 1) (Y : JX J) (hj : ja < 124) (hs : str ja = str jc) (hn : ∀ i, n = some i → i < J.1) : P_X13_says G F (W.ad (.o 13 0)) (Int32.ofNat bk) (oI n) (G.1 ja) (mem W (S.so 13 0 o)) = some (if sayB J n (str jc) = true then 1 else 0, mem W (S.so 13 0 o)) := by
  have sy := QM_says (G := G) (F := F) (S := S.so 13 0 o) (j := ja) (o := n) X h (by rw [so_eq]; exact M) hbk Y hj hn
  rw [hs] at sy
  exact sy
def kpW (o : Ob) (J : JT) (k : Nat) (u : Int32) (α92 α94 : Nat → UInt8) : Ob := ((((o.sA 91 (upd (o.a 91) k u)).sA 92 (fun q => sb (wO α92 (8200 * k) (wdJ J 20) q))).sA 93 (upd (o.a 93) k (oLn ((wdJ J 20).map List.length)))).sA 94 (fun q => sb (wO α94 (8200 * k) (wdJ J 22) q))).sA 95 (upd (o.a 95) k (oLn ((wdJ J 22).map List.length)))
theorem oM_188 {k : Nat} {u : Int32} {α92 α94 : Nat → UInt8} (X : Cx G F W) (h : isM W) (M : MTx o bk J) (hbk : bk ≤ 1) (Y : JX J) (h0 : 0 < J.1) (hk : k < 16) (h92 : mB o 92 α92) (h94 : mB o 94 α94) : B_X13_keepKey_188 G F (W.ad (.o 13 0)) (Int32.ofNat k) (Int32.ofNat bk) (W.ad (.a 13 0 91)) (Int32.ofNat k) u (mem W (S.so 13 0 o)) = some (mem W (S.so 13 0 (kpW o J k u α92 α94))) := by
  obtain ⟨t0, t1, t2, t3, t4, t5, t6, t7, t8⟩ := st_84
  have e8 : (8200 : Int32) * (Int32.ofNat k) = (Int32.ofNat (8200 * k)) := n_mul 8200 k
  obtain ⟨p1, hp1⟩ : ∃ p1, p1 = o.sA 91 (upd (o.a 91) k u) := ⟨_, rfl⟩
  have g1 : agr [] [] [91] [] o p1 := by rw [hp1]; exact agr_sA (by simp)
  have M1 := M.agr g1 (by decide)
  obtain ⟨p2, hp2⟩ : ∃ p2, p2 = p1.sA 92 (fun q => sb (wO α92 (8200 * k) (wdJ J 20) q)) := ⟨_, rfl⟩
  have g2 : agr [] [] [91, 92] [] o p2 := by rw [hp2]; exact (g1.mono (by simp) (by simp) (by simp) (by simp)).trans (agr_sA (by simp))
  obtain ⟨p3, hp3⟩ : ∃ p3, p3 = p2.sA 93 (upd (o.a 93) k (oLn ((wdJ J 20).map List.length))) := ⟨_, rfl⟩
  have g3 : agr [] [] [91, 92, 93] [] o p3 := by rw [hp3]; exact (g2.mono (by simp) (by simp) (by simp) (by simp)).trans (agr_sA (by simp))
  have M3 := M.agr g3 (by decide)
  obtain ⟨p4, hp4⟩ : ∃ p4, p4 = p3.sA 94 (fun q => sb (wO α94 (8200 * k) (wdJ J 22) q)) := ⟨_, rfl⟩
  have g4 : agr [] [] [91, 92, 93, 94] [] o p4 := by rw [hp4]; exact (g3.mono (by simp) (by simp) (by simp) (by simp)).trans (agr_sA (by simp))
  have w1 := oM_keepWord (G := G) (F := F) (S := S) (o := p1) (j := 20) (kt := 92) (p := 8200 * k) X h M1 hbk Y rfl (by decide) rfl (by omega) (g1.mB h92 (by decide))
  have w2 := oM_keepWord (G := G) (F := F) (S := S) (o := p3) (j := 22) (kt := 94) (p := 8200 * k) X h M3 hbk Y rfl (by decide) rfl (by omega) (g3.mB h94 (by decide))
  rw [← hp2] at w1
  rw [← hp4] at w2
  unfold B_X13_keepKey_188
  rw [oM_sN h rfl (show k < 16 from hk) (by decide), bO_s, ← hp1, h.gR 93 rfl (by decide), bO_s, rcv_m h.lo, bO_s, oM_mem0 X h M1 hbk Y h0 (by decide) t4, bP_s, h.gR 92 rfl (by decide), bO_s, rcv_m h.lo, bO_s, e8, w1, bP_s, oM_sN h rfl (show k < 16 from hk) (by decide), bO_s, g2.2.2.1 93 (by decide), ← hp3, h.gR 95 rfl (by decide), bO_s, rcv_m h.lo, bO_s, oM_mem0 X h M3 hbk Y h0 (by decide) t6, bP_s, h.gR 94 rfl (by decide), bO_s, rcv_m h.lo, bO_s, w2, bP_s, oM_sN h rfl (show k < 16 from hk) (by decide), bO_s, g4.2.2.1 95 (by decide)]
  rw [hp4, hp3, hp2, hp1]
  rfl
theorem oM_104 {k nC : Nat} {γc α89 α92 α94 : Nat → UInt8} (X : Cx G F W) (h : isM W) (M : MTx o bk J) (hbk : bk ≤ 1) (Y : JX J) (h0 : 0 < J.1) (hk : k < 16) (h98 : mB o 98 γc) (h89 : mB o 89 α89) (h92 : mB o 92 α92) (h94 : mB o 94 α94) (hC : nC ≤ 128) : B_X13_keepKey_104 G F (W.ad (.o 13 0)) (Int32.ofNat k) (Int32.ofNat bk) (W.ad (.a 13 0 90)) (Int32.ofNat k) (Int32.ofNat nC) (mem W (S.so 13 0 o)) = some (mem W (S.so 13 0 (kpW ((o.sA 90 (upd (o.a 90) k (Int32.ofNat nC))).sA 89 (fun q => sb (wrB α89 (128 * k) (rdB γc 0 nC) q))) J k (Int32.ofNat (usN J)) α92 α94))) := by
  obtain ⟨t1, t2, t3, t4, t5, t6, t7, t8⟩ := st_93
  obtain ⟨r0, r1, r2, r3, r4, r5, r6, r7, r8⟩ := st_84
  have e1 : (128 : Int32) * (Int32.ofNat k) = (Int32.ofNat (128 * k)) := n_mul 128 k
  obtain ⟨p1, hp1⟩ : ∃ p1, p1 = o.sA 90 (upd (o.a 90) k (Int32.ofNat nC)) := ⟨_, rfl⟩
  have g1 : agr [] [] [90] [] o p1 := by rw [hp1]; exact agr_sA (by simp)
  obtain ⟨p2, hp2⟩ : ∃ p2, p2 = p1.sA 89 (fun q => sb (wrB α89 (128 * k) (rdB γc 0 nC) q)) := ⟨_, rfl⟩
  have g2 : agr [] [] [90, 89] [] o p2 := by rw [hp2]; exact (g1.mono (by simp) (by simp) (by simp) (by simp)).trans (agr_sA (by simp))
  have M2 := M.agr g2 (by decide)
  have v90 : aI G (mem W (S.so 13 0 p1)) 0 (W.ad (.a 13 0 90)) (Int32.ofNat k) = some (Int32.ofNat nC) := by
    rw [h.aN rfl (show k < 16 from hk) (by decide), so_eq, hp1, sA_a]
    unfold upd
    rw [if_pos rfl]
  have mv := oM_mv (G := G) (F := F) (S := S) (o := p1) (k1 := 98) (k2 := 89) (p1 := 0) (p2 := 128 * k) (cnt := nC) X h rfl rfl (by decide) (by decide) (by decide) (by show 0 + nC ≤ 8200; omega) (by show 128 * k + nC ≤ 2048; omega) (by omega) (g1.mB h98 (by decide)) (g1.mB h89 (by decide))
  have mv : P_X13_move G F (W.ad (.a 13 0 98)) 0 (W.ad (.a 13 0 89)) (Int32.ofNat (128 * k)) (Int32.ofNat nC) (mem W (S.so 13 0 p1)) = _ := mv
  have fin := fun u => oM_188 (G := G) (F := F) (S := S) (o := p2) (k := k) (u := u) X h M2 hbk Y h0 hk (g2.mB h92 (by decide)) (g2.mB h94 (by decide))
  unfold B_X13_keepKey_104
  rw [oM_sN h rfl (show k < 16 from hk) (by decide), bO_s, ← hp1, h.gR 98 rfl (by decide), bO_s, h.gR 89 rfl (by decide), bO_s, h.gR 90 rfl (by decide), bO_s, v90, bO_s, e1, mv, bO_s, ← hp2, rcv_m h.lo, bO_s, oM_mem0 X h M2 hbk Y h0 (by decide) r5, bP_s, h.gR 91 rfl (by decide), bO_s]
  unfold usN
  cases e : fd J 21 with
  | none =>
    rw [if_neg (show ¬ (0 : Int32) ≤ oI none by decide), if_pos rfl]
    exact fin 0
  | some i =>
    have hi := fN_lt e
    have b := Y.2.1
    rw [if_pos (show (0 : Int32) ≤ oI (some i) from (n_le (a := 0) (b := i) (by omega) (by omega)).mpr (Nat.zero_le _)), if_neg (by simp), rcv_m h.lo, bO_s, oM_say0 (n := some i) X h M2 hbk Y (by decide) t7 (fun q hq => by have := Option.some.inj hq; omega), bP_s]
    cases c1 : sayB J (some i) (str 31) with
    | true =>
      rw [if_pos rfl, if_neg (by decide), if_pos rfl]
      exact fin 1
    | false =>
      rw [if_neg Bool.false_ne_true, if_pos rfl, if_neg Bool.false_ne_true, rcv_m h.lo, bO_s, oM_say0 (n := some i) X h M2 hbk Y (by decide) t8 (fun q hq => by have := Option.some.inj hq; omega), bP_s]
      cases c2 : sayB J (some i) (str 32) with
      | true =>
        rw [if_pos rfl, if_neg (by decide), if_pos rfl]
        exact fin 2
      | false =>
        rw [if_neg Bool.false_ne_true, if_pos rfl, if_neg Bool.false_ne_true]
        exact fin 3
theorem oM_keepKey {k kd nA nB : Nat} {c : Option Nat} {γa γb γc α85 α87 α89 α92 α94 : Nat → UInt8} (X : Cx G F W) (h : isM W) (M : MTx o bk J) (hbk : bk ≤ 1) (Y : JX J) (h0 : 0 < J.1) (hk : k < 16) (hkd : kd ≤ 2) (h96 : mB o 96 γa) (h97 : mB o 97 γb) (h98 : mB o 98 γc) (h85 : mB o 85 α85) (h87 : mB o 87 α87) (h89 : mB o 89 α89) (h92 : mB o 92 α92) (h94 : mB o 94 α94) (f1 : o.f 99 = (Int32.ofNat nA)) (f2 : o.f 100 = (Int32.ofNat nB)) (f3 : (kd = 0 → c = none) ∧ (kd ≠ 0 → o.f 101 = oLn c)) (lA : nA ≤ 128) (lB : nB ≤ 128) (lc : ∀ n, c = some n → n ≤ 128) : P_X13_keepKey G F (W.ad (.o 13 0)) (Int32.ofNat k) (Int32.ofNat kd) (Int32.ofNat bk) (mem W (S.so 13 0 o)) = some (mem W (S.so 13 0 (kpK o J k kd nA nB (c.getD 0) γa γb γc α85 α87 α89 α92 α94))) := by
  have e1 : (128 : Int32) * (Int32.ofNat k) = (Int32.ofNat (128 * k)) := n_mul 128 k
  have hl : W.live (.a 13 0 83) = true := h.la 83 (by decide)
  obtain ⟨p1, hp1⟩ : ∃ p1, p1 = o.sA 83 (upd (o.a 83) k 1) := ⟨_, rfl⟩
  have g1 : agr [] [] [83] [] o p1 := by rw [hp1]; exact agr_sA (by simp)
  obtain ⟨p2, hp2⟩ : ∃ p2, p2 = p1.sA 84 (upd (o.a 84) k (Int32.ofNat kd)) := ⟨_, rfl⟩
  have g2 : agr [] [] [83, 84] [] o p2 := by rw [hp2]; exact (g1.mono (by simp) (by simp) (by simp) (by simp)).trans (agr_sA (by simp))
  obtain ⟨p3, hp3⟩ : ∃ p3, p3 = p2.sA 86 (upd (o.a 86) k (Int32.ofNat nA)) := ⟨_, rfl⟩
  have g3 : agr [] [] [83, 84, 86] [] o p3 := by rw [hp3]; exact (g2.mono (by simp) (by simp) (by simp) (by simp)).trans (agr_sA (by simp))
  obtain ⟨p4, hp4⟩ : ∃ p4, p4 = p3.sA 85 (fun q => sb (wrB α85 (128 * k) (rdB γa 0 nA) q)) := ⟨_, rfl⟩
  have g4 : agr [] [] [83, 84, 86, 85] [] o p4 := by rw [hp4]; exact (g3.mono (by simp) (by simp) (by simp) (by simp)).trans (agr_sA (by simp))
  obtain ⟨p5, hp5⟩ : ∃ p5, p5 = p4.sA 88 (upd (o.a 88) k (Int32.ofNat nB)) := ⟨_, rfl⟩
  have g5 : agr [] [] [83, 84, 86, 85, 88] [] o p5 := by rw [hp5]; exact (g4.mono (by simp) (by simp) (by simp) (by simp)).trans (agr_sA (by simp))
  obtain ⟨p6, hp6⟩ : ∃ p6, p6 = p5.sA 87 (fun q => sb (wrB α87 (128 * k) (rdB γb 0 nB) q)) := ⟨_, rfl⟩
  have g6 : agr [] [] [83, 84, 86, 85, 88, 87] [] o p6 := by rw [hp6]; exact (g5.mono (by simp) (by simp) (by simp) (by simp)).trans (agr_sA (by simp))
  have s1 : sI (mem W (S.so 13 0 o)) 3 (W.ad (.a 13 0 83)) (Int32.ofNat k) (vp_nar .boolean (1 : Int32)) = some (mem W (S.so 13 0 p1)) := by
    rw [sI_m hl rfl (by decide) (by decide) (by rw [h.n 83 (by decide)]; exact inB_n hk (by decide)), n_at (by omega), so_eq, so_so, hp1]
    rfl
  have m1 := oM_mv (G := G) (F := F) (S := S) (o := p3) (k1 := 96) (k2 := 85) (p1 := 0) (p2 := 128 * k) (cnt := nA) X h rfl rfl (by decide) (by decide) (by decide) (by show 0 + nA ≤ 8200; omega) (by show 128 * k + nA ≤ 2048; omega) (by omega) (g3.mB h96 (by decide)) (g3.mB h85 (by decide))
  have m1 : P_X13_move G F (W.ad (.a 13 0 96)) 0 (W.ad (.a 13 0 85)) (Int32.ofNat (128 * k)) (Int32.ofNat nA) (mem W (S.so 13 0 p3)) = _ := m1
  have m2 := oM_mv (G := G) (F := F) (S := S) (o := p5) (k1 := 97) (k2 := 87) (p1 := 0) (p2 := 128 * k) (cnt := nB) X h rfl rfl (by decide) (by decide) (by decide) (by show 0 + nB ≤ 8200; omega) (by show 128 * k + nB ≤ 2048; omega) (by omega) (g5.mB h97 (by decide)) (g5.mB h87 (by decide))
  have m2 : P_X13_move G F (W.ad (.a 13 0 97)) 0 (W.ad (.a 13 0 87)) (Int32.ofNat (128 * k)) (Int32.ofNat nB) (mem W (S.so 13 0 p5)) = _ := m2
  have lc' : c.getD 0 ≤ 128 := by
    cases c with
    | none => exact Nat.zero_le _
    | some n => exact lc n rfl
  have fin := oM_104 (G := G) (F := F) (S := S) (o := p6) (k := k) (nC := c.getD 0) X h (M.agr g6 (by decide)) hbk Y h0 hk (g6.mB h98 (by decide)) (g6.mB h89 (by decide)) (g6.mB h92 (by decide)) (g6.mB h94 (by decide)) lc'
  have ex : kpW ((p6.sA 90 (upd (p6.a 90) k (Int32.ofNat (c.getD 0)))).sA 89 (fun q => sb (wrB α89 (128 * k) (rdB γc 0 (c.getD 0)) q))) J k (Int32.ofNat (usN J)) α92 α94 = kpK o J k kd nA nB (c.getD 0) γa γb γc α85 α87 α89 α92 α94 := by
    unfold kpW kpK
    rw [sA_a' (by decide), sA_a' (by decide), sA_a' (by decide), sA_a' (by decide), sA_a' (by decide), sA_a' (by decide), g6.2.2.1 90 (by decide), g6.2.2.1 91 (by decide), g6.2.2.1 93 (by decide), g6.2.2.1 95 (by decide), hp6, hp5, hp4, hp3, hp2, hp1]
  rw [ex] at fin
  unfold P_X13_keepKey
  rw [h.gR 83 rfl (by decide), bO_s, s1, bO_s, h.gR 84 rfl (by decide), bO_s, oM_sN h rfl (show k < 16 from hk) (by decide), bO_s, g1.2.2.1 84 (by decide), ← hp2, h.gR 86 rfl (by decide), bO_s, h.gI 99 rfl, bO_s, so_eq, g2.1 99 (by simp), f1, oM_sN h rfl (show k < 16 from hk) (by decide), bO_s, g2.2.2.1 86 (by decide), ← hp3, h.gR 96 rfl (by decide), bO_s, h.gR 85 rfl (by decide), bO_s, h.gI 99 rfl, bO_s, so_eq, g3.1 99 (by simp), f1, e1, m1, bO_s, ← hp4, h.gR 88 rfl (by decide), bO_s, h.gI 100 rfl, bO_s, so_eq, g4.1 100 (by simp), f2, oM_sN h rfl (show k < 16 from hk) (by decide), bO_s, g4.2.2.1 88 (by decide), ← hp5, h.gR 97 rfl (by decide), bO_s, h.gR 87 rfl (by decide), bO_s, h.gI 100 rfl, bO_s, so_eq, g5.1 100 (by simp), f2, m2, bO_s, ← hp6, h.gR 90 rfl (by decide), bO_s]
  by_cases z : kd = 0
  · rw [f3.1 z] at fin
    rw [if_pos (show (Int32.ofNat kd) = 0 by rw [z]; rfl), f3.1 z]
    exact fin
  · rw [if_neg (show ¬ (Int32.ofNat kd) = 0 from fun q => z ((n_eq (b := 0) (by omega) (by omega)).mp q)), h.gI 101 rfl, bO_s, so_eq, g6.1 101 (by simp), f3.2 z]
    cases c with
    | none =>
      rw [if_neg (show ¬ (0 : Int32) ≤ oLn none by decide)]
      exact fin
    | some n =>
      have := lc n rfl
      rw [if_pos (show (0 : Int32) ≤ oLn (some n) from (n_le (a := 0) (b := n) (by omega) (by omega)).mpr (Nat.zero_le _)), bO_s]
      exact fin
end MKQ
