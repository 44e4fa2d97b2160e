/-! A KEY'S TEXT: the model, to the numbers -/
def fA (J : JT) (kd : Nat) : Option Nat := if kd = 0 then fd J 24 else if kd = 1 then fd J 25 else fd J 29
def fB (J : JT) (kd : Nat) : Option Nat := if kd = 1 then fd J 26 else fd J 30
/-- the letters are in the model's arrays -/
def hasK (o : Ob) (J : JT) (kd : Nat) : Prop := hLt o 96 99 J (fA J kd) ∧ (kd = 0 → o.f 100 = 0 ∧ o.f 101 = 0) ∧ (kd ≠ 0 → hLt o 97 100 J (fB J kd) ∧ hLt o 98 101 J (fd J 23)) ∧ (∃ γ, mB o 97 γ) ∧ ∃ γ, mB o 98 γ
section MK3
variable {W : WR} {G : mG} {F : Nat} {S : ST} {bk : Nat} {J : JT} {o : Ob}
theorem fd_eq {a b : Nat} (h : str a = str b) : fd J a = fd J b := by
  show fN J (str a) (some 0) = fN J (str b) (some 0)
  rw [h]
theorem oM_207 {kd : Nat} (X : Cx G F W) (h : isM W) (M : MTx o bk J) (hbk : bk ≤ 1) (Y : JX J) (h0 : 0 < J.1) (hk : kd ≤ 2) (h96 : ∃ γ, mB o 96 γ) (h97 : ∃ γ, mB o 97 γ) (h98 : ∃ γ, mB o 98 γ) (f0 : o.f 100 = 0 ∧ o.f 101 = 0) (g : Bool) (hg : g = (decide (kd ≠ 2) || sayB J (fd J 27) (str 28))) : ∃ o', agr [29, 99, 100, 101] [] kyAr [] o o' ∧ MTx o' bk J ∧ hasK o' J kd ∧ B_X13_key_207 G F (W.ad (.o 13 0)) (Int32.ofNat bk) (Int32.ofNat kd) (if g = true then 1 else 0) (mem W (S.so 13 0 o)) = B_X13_key_390 G F (W.ad (.o 13 0)) (Int32.ofNat bk) (Int32.ofNat kd) (if kyL J kd = true then 1 else 0) (mem W (S.so 13 0 o')) := by
  obtain ⟨t1, t2, t3, t4, t5, t6, t7, t8⟩ := st_93
  have e23 : fd J 98 = fd J 23 := fd_eq t6
  unfold B_X13_key_207
  -- the first number, then the others
  have two : ∀ (ja jb : Nat), ja < 124 → jb < 124 → kd ≠ 0 → fd J ja = fA J kd → fd J jb = fB J kd → B_X13_key_266 G F (W.ad (.o 13 0)) (Int32.ofNat bk) (Int32.ofNat kd) = (fun s M => B_X13_key_292 G F (W.ad (.o 13 0)) (Int32.ofNat bk) (Int32.ofNat kd) s (W.ad (.o 13 0)) (W.ad (.o 13 0)) (Int32.ofNat bk) 0 (G.1 jb) M) → ∃ o', agr [29, 99, 100, 101] [] kyAr [] o o' ∧ MTx o' bk J ∧ hasK o' J kd ∧ B_X13_key_239 G F (W.ad (.o 13 0)) (Int32.ofNat bk) (Int32.ofNat kd) (if g = true then 1 else 0) (W.ad (.o 13 0)) (W.ad (.o 13 0)) (Int32.ofNat bk) 0 (G.1 ja) (mem W (S.so 13 0 o)) = B_X13_key_390 G F (W.ad (.o 13 0)) (Int32.ofNat bk) (Int32.ofNat kd) (if ((g && (ltB J (fA J kd)).isSome) && ((ltB J (fB J kd)).isSome && (!(fd J 23).isSome || (ltB J (fd J 23)).isSome))) = true then 1 else 0) (mem W (S.so 13 0 o')) := by
    intro ja jb h1 h2 hk0 ea eb e266
    obtain ⟨o1, a1, M1, L1, q1⟩ := oM_239 (G := G) (F := F) (S := S) (l4 := (Int32.ofNat kd)) X h M hbk Y h0 h1 h96 g
    have c97 : ∃ γ, mB o1 97 γ := by obtain ⟨γ, q⟩ := h97; exact ⟨γ, a1.mB q (by decide)⟩
    have c98 : ∃ γ, mB o1 98 γ := by obtain ⟨γ, q⟩ := h98; exact ⟨γ, a1.mB q (by decide)⟩
    obtain ⟨o2, a2, M2, L2, L3, q2⟩ := oM_292 (G := G) (F := F) (S := S) (l4 := (Int32.ofNat kd)) X h M1 hbk Y h0 h2 c97 c98 (g && (ltB J (fd J ja)).isSome)
    rw [ea] at L1 q1 q2
    rw [eb] at L2 q2
    rw [e23] at L3 q2
    refine ⟨o2, (a1.mono (by simp) (by simp) (by simp) (by simp)).trans (a2.mono (by simp) (by simp) (by simp) (by simp)), M2, ⟨L1.ag a2 (by decide) (by decide), fun q => absurd q hk0, fun _ => ⟨L2, L3⟩, ⟨_, L2.2.choose_spec.1⟩, _, L3.2.choose_spec.1⟩, ?_⟩
    rw [q1, e266]
    exact q2
  have h3 : kd = 0 ∨ kd = 1 ∨ kd = 2 := by omega
  rcases h3 with rfl | rfl | rfl
  · rw [if_pos (show (Int32.ofNat 0) = (0 : Int32) from rfl)]
    have hg : g = true := by rw [hg]; rfl
    obtain ⟨o1, a1, M1, L1, q1⟩ := oM_239 (G := G) (F := F) (S := S) (l4 := (Int32.ofNat 0)) (ja := 93) X h M hbk Y h0 (by decide) h96 g
    rw [fd_eq t1, hg, Bool.true_and] at q1
    rw [fd_eq t1] at L1
    have d97 : ∃ γ, mB o1 97 γ := by obtain ⟨γ, q⟩ := h97; exact ⟨γ, a1.mB q (by decide)⟩
    have d98 : ∃ γ, mB o1 98 γ := by obtain ⟨γ, q⟩ := h98; exact ⟨γ, a1.mB q (by decide)⟩
    refine ⟨o1, a1.mono (by simp) (by simp) (by simp) (by simp), M1, ⟨L1, fun _ => ⟨by rw [a1.1 100 (by decide)]; exact f0.1, by rw [a1.1 101 (by decide)]; exact f0.2⟩, fun q => absurd rfl q, d97, d98⟩, ?_⟩
    rw [hg]
    refine Eq.trans q1 ?_
    unfold B_X13_key_266
    rw [if_pos (show (Int32.ofNat 0) = (0 : Int32) from rfl)]
    rfl
  · rw [if_neg (show ¬ (Int32.ofNat 1) = (0 : Int32) by decide), if_pos (show (Int32.ofNat 1) = (1 : Int32) from rfl)]
    have hg : g = true := by rw [hg]; rfl
    obtain ⟨o1, a1, M1, L1, q1⟩ := two 94 96 (by decide) (by decide) (by decide) (fd_eq t2) (fd_eq t4) (by
      funext s M
      unfold B_X13_key_266
      rw [if_neg (show ¬ (Int32.ofNat 1) = (0 : Int32) by decide), if_pos (show (Int32.ofNat 1) = (1 : Int32) from rfl)])
    refine ⟨o1, a1, M1, L1, ?_⟩
    rw [q1]
    have ek : ((g && (ltB J (fA J 1)).isSome) && ((ltB J (fB J 1)).isSome && (!(fd J 23).isSome || (ltB J (fd J 23)).isSome))) = kyL J 1 := by
      rw [hg, Bool.true_and]
      show ((ltB J (fd J 25)).isSome && ((ltB J (fd J 26)).isSome && (!(fd J 23).isSome || (ltB J (fd J 23)).isSome))) = ((ltB J (fd J 25)).isSome && (ltB J (fd J 26)).isSome && (!(decide ((1 : Nat) ≠ 0) && (fd J 23).isSome) || (ltB J (fd J 23)).isSome))
      rw [decide_eq_true (by decide), Bool.true_and, Bool.and_assoc]
    rw [ek]
  · rw [if_neg (show ¬ (Int32.ofNat 2) = (0 : Int32) by decide), if_neg (show ¬ (Int32.ofNat 2) = (1 : Int32) by decide)]
    have hg : g = sayB J (fd J 27) (str 28) := by rw [hg]; rfl
    obtain ⟨o1, a1, M1, L1, q1⟩ := two 95 97 (by decide) (by decide) (by decide) (fd_eq t3) (fd_eq t5) (by
      funext s M
      unfold B_X13_key_266
      rw [if_neg (show ¬ (Int32.ofNat 2) = (0 : Int32) by decide), if_neg (show ¬ (Int32.ofNat 2) = (1 : Int32) by decide)])
    refine ⟨o1, a1, M1, L1, ?_⟩
    rw [q1]
    have ek : ((g && (ltB J (fA J 2)).isSome) && ((ltB J (fB J 2)).isSome && (!(fd J 23).isSome || (ltB J (fd J 23)).isSome))) = kyL J 2 := by
      rw [hg]
      show ((sayB J (fd J 27) (str 28) && (ltB J (fd J 29)).isSome) && ((ltB J (fd J 30)).isSome && (!(fd J 23).isSome || (ltB J (fd J 23)).isSome))) = ((sayB J (fd J 27) (str 28) && ((ltB J (fd J 29)).isSome && (ltB J (fd J 30)).isSome)) && (!(decide ((2 : Nat) ≠ 0) && (fd J 23).isSome) || (ltB J (fd J 23)).isSome))
      rw [decide_eq_true (by decide), Bool.true_and]
      cases sayB J (fd J 27) (str 28) <;> cases (ltB J (fd J 29)).isSome <;> cases (ltB J (fd J 30)).isSome <;> rfl
    rw [ek]
theorem oM_odd {ja jc : Nat} (X : Cx G F W) (h : isM W) (M : MTx o bk J) (hbk : bk ≤ 1) (Y : JX J) (h0 : 0 < J.1) (hj : ja < 124) (hs : str ja = str jc) : P_X13_isOdd G F (W.ad (.o 13 0)) (Int32.ofNat bk) (G.1 ja) (mem W (S.so 13 0 o)) = some (if okN J jc = true then 0 else 1, mem W (S.so 13 0 o)) := by
  rw [QM_isOdd X h (by rw [so_eq]; exact M) hbk Y hj h0, hs]
  unfold okN
  by_cases c : fd J jc = none ∨ kB J (fd J jc) 4 = true
  · rw [if_pos c, if_pos (by rw [Bool.or_eq_true, decide_eq_true_iff]; exact c)]
  · rw [if_neg c, if_neg (by rw [Bool.or_eq_true, decide_eq_true_iff]; exact c)]
theorem oM_120 {kd : Nat} (X : Cx G F W) (h : isM W) (M : MTx o bk J) (hbk : bk ≤ 1) (Y : JX J) (h0 : 0 < J.1) (hk : kd ≤ 2) (h96 : ∃ γ, mB o 96 γ) (h97 : ∃ γ, mB o 97 γ) (h98 : ∃ γ, mB o 98 γ) : ∃ o', agr [29, 99, 100, 101] [] kyAr [] o o' ∧ MTx o' bk J ∧ (∃ γ, mB o' 96 γ) ∧ (∃ γ, mB o' 97 γ) ∧ (∃ γ, mB o' 98 γ) ∧ ((okN J 20 = true ∧ okN J 21 = true ∧ okN J 22 = true) → hasK o' J kd) ∧ B_X13_key_120 G F (W.ad (.o 13 0)) (Int32.ofNat bk) (Int32.ofNat kd) (mem W (S.so 13 0 o)) = (if okN J 20 = true ∧ okN J 21 = true ∧ okN J 22 = true then B_X13_key_390 G F (W.ad (.o 13 0)) (Int32.ofNat bk) (Int32.ofNat kd) (if kyL J kd = true then 1 else 0) (mem W (S.so 13 0 o')) else some (-14, mem W (S.so 13 0 o'))) := by
  obtain ⟨t0, t1, t2, t3, t4, t5, t6, t7, t8⟩ := st_84
  have stay : ∀ (P : Option (Int32 × mM)), ¬ (okN J 20 = true ∧ okN J 21 = true ∧ okN J 22 = true) → P = some (-14, mem W (S.so 13 0 o)) → ∃ o', agr [29, 99, 100, 101] [] kyAr [] o o' ∧ MTx o' bk J ∧ (∃ γ, mB o' 96 γ) ∧ (∃ γ, mB o' 97 γ) ∧ (∃ γ, mB o' 98 γ) ∧ ((okN J 20 = true ∧ okN J 21 = true ∧ okN J 22 = true) → hasK o' J kd) ∧ P = (if okN J 20 = true ∧ okN J 21 = true ∧ okN J 22 = true then B_X13_key_390 G F (W.ad (.o 13 0)) (Int32.ofNat bk) (Int32.ofNat kd) (if kyL J kd = true then 1 else 0) (mem W (S.so 13 0 o')) else some (-14, mem W (S.so 13 0 o'))) := fun P hn hP => ⟨o, agr.refl _ _ _ _ _, M, h96, h97, h98, fun q => absurd q hn, by rw [if_neg hn]; exact hP⟩
  unfold B_X13_key_120
  rw [if_pos (show (0 : Int32) ≤ (Int32.ofNat kd) from (n_le (a := 0) (b := kd) (by omega) (by omega)).mpr (Nat.zero_le _)), rcv_m h.lo, bO_s, oM_odd X h M hbk Y h0 (by decide) t4, bP_s]
  by_cases c20 : okN J 20 = true
  · rw [if_pos c20, if_pos rfl, rcv_m h.lo, bO_s, oM_odd X h M hbk Y h0 (by decide) t5, bP_s]
    by_cases c21 : okN J 21 = true
    · rw [if_pos c21, if_pos rfl, rcv_m h.lo, bO_s, oM_odd X h M hbk Y h0 (by decide) t6, bP_s]
      by_cases c22 : okN J 22 = true
      · have cc : okN J 20 = true ∧ okN J 21 = true ∧ okN J 22 = true := ⟨c20, c21, c22⟩
        rw [if_pos c22, if_pos rfl, h.pI 100 _ rfl, bO_s, so_eq, so_so, h.pI 101 _ rfl, bO_s, so_eq, so_so]
        obtain ⟨o1, ho1⟩ : ∃ o1, o1 = (o.sf 100 0).sf 101 0 := ⟨_, rfl⟩
        rw [← ho1]
        have a1 : agr [29, 99, 100, 101] [] kyAr [] o o1 := by
          rw [ho1]
          exact (agr_sf (by simp)).trans (agr_sf (by simp))
        have M1 : MTx o1 bk J := M.agr a1 (by decide)
        have a1' : agr [100, 101] [] [] [] o o1 := by
          rw [ho1]
          exact (agr_sf (by simp)).trans (agr_sf (by simp))
        have k1 : ∀ {k : Nat}, (∃ γ, mB o k γ) → ∃ γ, mB o1 k γ := fun {k} q => by
          obtain ⟨γ, q⟩ := q
          exact ⟨γ, a1'.mB q (by simp)⟩
        have go : ∀ g : Bool, g = (decide (kd ≠ 2) || sayB J (fd J 27) (str 28)) → ∃ o', agr [29, 99, 100, 101] [] kyAr [] o o' ∧ MTx o' bk J ∧ (∃ γ, mB o' 96 γ) ∧ (∃ γ, mB o' 97 γ) ∧ (∃ γ, mB o' 98 γ) ∧ ((okN J 20 = true ∧ okN J 21 = true ∧ okN J 22 = true) → hasK o' J kd) ∧ B_X13_key_207 G F (W.ad (.o 13 0)) (Int32.ofNat bk) (Int32.ofNat kd) (if g = true then 1 else 0) (mem W (S.so 13 0 o1)) = (if okN J 20 = true ∧ okN J 21 = true ∧ okN J 22 = true then B_X13_key_390 G F (W.ad (.o 13 0)) (Int32.ofNat bk) (Int32.ofNat kd) (if kyL J kd = true then 1 else 0) (mem W (S.so 13 0 o')) else some (-14, mem W (S.so 13 0 o'))) := by
          intro g hg
          obtain ⟨o2, a2, M2, L2, q2⟩ := oM_207 (G := G) (F := F) (S := S) (kd := kd) X h M1 hbk Y h0 hk (k1 h96) (k1 h97) (k1 h98) (by rw [ho1]; exact ⟨by rw [sf_ne (by decide), sf_eq], by rw [sf_eq]⟩) g hg
          refine ⟨o2, a1.trans a2, M2, ⟨_, L2.1.2.choose_spec.1⟩, L2.2.2.2.1, L2.2.2.2.2, fun _ => L2, ?_⟩
          rw [if_pos cc]
          exact q2
        by_cases e2 : kd = 2
        · have mo := QM_memberOf (G := G) (F := F) (S := S.so 13 0 o1) (j := 91) (v := 0) X h (by rw [so_eq]; exact M1) hbk Y (by decide) h0
          have mo : P_X13_memberOf G F (W.ad (.o 13 0)) (Int32.ofNat bk) 0 (G.1 91) (mem W (S.so 13 0 o1)) = _ := mo
          have sy := QM_says (G := G) (F := F) (S := S.so 13 0 o1) (j := 92) (o := fN J (str 91) (some 0)) X h (by rw [so_eq]; exact M1) hbk Y (by decide) (fun i hi => fN_lt hi)
          rw [t7, t8] at sy
          rw [if_pos (show (Int32.ofNat kd) = (2 : Int32) by rw [e2]; rfl), rcv_m h.lo, bO_s, mo, bP_s, rcv_m h.lo, bO_s, t7, sy, bP_s]
          have hg := go (sayB J (fd J 27) (str 28)) (by rw [e2]; rfl)
          cases eg : sayB J (fN J (str 27) (some 0)) (str 28) with
          | false =>
            rw [show sayB J (fd J 27) (str 28) = false from eg, if_neg Bool.false_ne_true] at hg
            rw [if_neg Bool.false_ne_true, if_pos rfl]
            exact hg
          | true =>
            rw [show sayB J (fd J 27) (str 28) = true from eg, if_pos rfl] at hg
            rw [if_pos rfl, if_neg (by decide)]
            exact hg
        · rw [if_neg (show ¬ (Int32.ofNat kd) = (2 : Int32) from fun q => e2 ((n_eq (b := 2) (by omega) (by omega)).mp q))]
          have hg := go true (by rw [decide_eq_true e2, Bool.true_or])
          rw [if_pos rfl] at hg
          exact hg
      · rw [if_neg c22, if_neg (by decide)]
        exact stay _ (fun q => c22 q.2.2) rfl
    · rw [if_neg c21, if_neg (by decide)]
      exact stay _ (fun q => c21 q.2.1) rfl
  · rw [if_neg c20, if_neg (by decide)]
    exact stay _ (fun q => c20 q.1) rfl
end MK3
