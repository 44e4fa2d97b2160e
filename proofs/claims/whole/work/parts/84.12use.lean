/-! A KEY'S USE, ALG AND KID, TAKEN: the class -/
def usN (J : JT) : Nat := if fd J 21 = none then 0 else if sayB J (fd J 21) (str 31) = true then 1 else if sayB J (fd J 21) (str 32) = true then 2 else 3
def agL (J : JT) : Nat → Nat → Int32 → Int32
  | 0, _, a => a
  | m + 1, k, a => agL J m (k + 1) (if sayB J (fd J 22) (str (33 + k)) = true then (Int32.ofNat k) else a)
def agF (J : JT) : Int32 := agL J 11 0 (if fd J 22 = none then -1 else 11)
def kiB (J : JT) : Option (List UInt8) := match fd J 20 with
  | some i => some (seg J.2.2 (J.2.1 6 i) (J.2.1 7 i))
  | none => none
theorem Q11_alg {G : mG} {F k : Nat} {M : mM} (hk : k < 11) : P_X11_algName G F (Int32.ofNat k) M = some (G.1 (33 + k), M) := by
  have h : k = 0 ∨ k = 1 ∨ k = 2 ∨ k = 3 ∨ k = 4 ∨ k = 5 ∨ k = 6 ∨ k = 7 ∨ k = 8 ∨ k = 9 ∨ k = 10 := by omega
  rcases h with rfl | rfl | rfl | rfl | rfl | rfl | rfl | rfl | rfl | rfl | rfl <;> rfl
theorem bA_s {β : Type} (M : mM) (z s : Nat) (k : mM → Nat → Nat → Option β) : bA (some (M, z, s)) k = k M z s := rfl
theorem bAP_s {α β : Type} (v : α) (M : mM) (z s : Nat) (k : α → mM → Nat → Nat → Option β) : bAP (some (v, M, z, s)) k = k v M z s := rfl
section USE
variable {W : WR} {G : mG} {F : Nat} {t ip j : Nat} {J : JT} {lp : Bool}
theorem Q5_use_l {z sl : Nat} (X : Cx G F W) (H : isKo W j) (K : isTx W t ip) (Y : JX J) : ∀ (m k fuel : Nat) (S : ST) (a : Int32), m < fuel → k + m = 11 → TbC (S 9 t) J → Byt 8192 (S 0 ip) J.2.2 lp → (S 5 j).f 3 = a → ∃ S', fr [(5, j)] S S' ∧ (S' 5 j).f 3 = agL J m k a ∧ (∀ q, q ≠ 3 → (S' 5 j).f q = (S 5 j).f q) ∧ B_X5_takeUse_76 G F fuel (W.ad (.o 5 j)) (W.ad (.o 9 t)) (oI (fd J 22)) (Int32.ofNat k) (mem W S) z sl = B_X5_takeUse_121 G F (W.ad (.o 5 j)) (W.ad (.o 9 t)) (oI (fd J 20)) (W.ad (.o 5 j)) (oI (fd J 20)) (-1 : Int32) (mem W S') z sl := by
  intro m
  induction m with
  | zero =>
    intro k fuel S a hf hk C bp h3
    obtain ⟨fuel, rfl⟩ : ∃ q, fuel = q + 1 := ⟨fuel - 1, by omega⟩
    have hk : k = 11 := by omega
    subst hk
    rw [B_X5_takeUse_76]
    unfold B_X5_takeUse_80
    rw [if_pos (show (11 : Int32) ≤ (Int32.ofNat 11) by decide), rcv_m K.1, bO_s, Q9_find0 X K C Y bp (by decide), bP_s]
    exact ⟨S, fr.refl _ _, h3, fun _ _ => rfl, rfl⟩
  | succ m ih =>
    intro k fuel S a hf hk C bp h3
    obtain ⟨fuel, rfl⟩ : ∃ q, fuel = q + 1 := ⟨fuel - 1, by omega⟩
    rw [B_X5_takeUse_76]
    unfold B_X5_takeUse_80
    rw [if_neg (show ¬ (11 : Int32) ≤ (Int32.ofNat k) from fun q => by have := (n_le (a := 11) (b := k) (by omega) (by omega)).mp q; omega), Q11_alg (by omega), bP_s, rcv_m K.1, bO_s, Q9_says X K C Y bp (by omega) (fN_b Y), bP_s]
    unfold B_X5_takeUse_93
    show ∃ S' : ST, _ ∧ (S' 5 j).f 3 = agL J m (k + 1) (if sayB J (fd J 22) (str (33 + k)) = true then (Int32.ofNat k) else a) ∧ _
    by_cases c : sayB J (fd J 22) (str (33 + k)) = true
    · rw [if_pos c, if_pos c, if_neg (by decide), pfI_m H.1 rfl, bO_s, n_i1]
      obtain ⟨S', f1, g1, g2, g3⟩ := ih (k + 1) fuel (S.so 5 j ((S 5 j).sf 3 (Int32.ofNat k))) (Int32.ofNat k) (by omega) (by omega) (by rw [so_ne (by omega)]; exact C) (by rw [so_ne (by omega)]; exact bp) (by rw [so_eq, sf_eq])
      exact ⟨S', (fr_so (by simp)).trans f1, g1, fun q hq => by rw [g2 q hq, so_eq, sf_ne hq], g3⟩
    · rw [if_neg c, if_neg c, if_pos rfl, n_i1]
      exact ih (k + 1) fuel S a (by omega) (by omega) C bp h3
/-- what a key's use, alg and kid have become -/
def UsT (W W' : WR) (S S' : ST) (j κ κ' rk rk' ν z z' sl sl' : Nat) (J : JT) : Prop := fr [(5, j), (0, κ), (0, κ')] S S' ∧ (S' 5 j).f 2 = (Int32.ofNat (usN J)) ∧ (S' 5 j).f 3 = agF J ∧ ((S' 5 j).f 4 = if (kiB J).isSome = true then 1 else 0) ∧ (∀ q, q ≠ 2 → q ≠ 3 → q ≠ 4 → (S' 5 j).f q = (S 5 j).f q) ∧ Byt rk' (S' 0 κ') ((kiB J).getD []) false ∧ WX W W' 5 j 9 ∧ WF W' z' ∧ W'.r 5 j 9 = some (.o 0 κ') ∧ isB W' κ' rk' ∧ rmK rk' ∧ ((κ' = κ ∧ rk' = rk ∧ z' = z ∧ sl' = sl ∧ W' = W) ∨ (κ' = ν ∧ 2 * rk ≤ rk' ∧ z' = z + 2 ∧ sl' = sl + 3 + rk')) ∧ ∀ ν', ν' ≠ ν → frsh W ν' → frsh W' ν'
theorem Q5_use_k {S : ST} {κ rk ν z sl : Nat} (X : Cx G F W) (H : isKo W j) (K : isTx W t ip) (C : TbC (S 9 t) J) (Y : JX J) (bp : Byt 8192 (S 0 ip) J.2.2 lp) (h9 : W.r 5 j 9 = some (.o 0 κ)) (hB : isB W κ rk) (hrk : rmK rk) (hb : ∃ a l, Byt rk (S 0 κ) a l) (hκ : κ ≠ ip) (hf : WF W z) (hv : frsh W ν) (h2 : (S 5 j).f 2 = (Int32.ofNat (usN J))) (h3 : (S 5 j).f 3 = agF J) : ∃ W' S' κ' rk' z' sl', B_X5_takeUse_121 G F (W.ad (.o 5 j)) (W.ad (.o 9 t)) (oI (fd J 20)) (W.ad (.o 5 j)) (oI (fd J 20)) (-1 : Int32) (mem W S) z sl = some (mem W' S', z', sl') ∧ UsT W W' S S' j κ κ' rk rk' ν z z' sl sl' J := by
  obtain ⟨a0, l0, hb⟩ := hb
  have e9 : ∀ S : ST, gfR (mem W S) (W.ad (.o 5 j)) 5 9 = some (W.ad (.o 0 κ)) := fun S => gfR_m H.1 rfl h9
  have Y2 := Y.2.1
  unfold B_X5_takeUse_121
  cases e : fd J 20 with
  | none =>
    have ek : kiB J = none := by unfold kiB; rw [e]
    obtain ⟨o, q1, q2⟩ := Q0_clear (G := G) (F := F) (S := S.so 5 j ((S 5 j).sf 4 0)) hB (by rw [so_ne (by omega)]; exact hb)
    refine ⟨W, (S.so 5 j ((S 5 j).sf 4 0)).so 0 κ o, κ, rk, z, sl, ?_, ?_⟩
    · rw [if_pos (show oI none = -1 from rfl), pfZ_m H.1 rfl (Or.inl rfl), bO_s, e9, bO_s, rcv_m hB.lo, bO_s, q1, bO_s, ko_I H rfl, bO_s, so_ne (by omega), so_eq, sf_eq]
      unfold B_X5_takeUse_143
      rw [if_pos rfl]
    · have k5 : ((S.so 5 j ((S 5 j).sf 4 0)).so 0 κ o) 5 j = (S 5 j).sf 4 0 := by rw [so_ne (by omega), so_eq]
      refine ⟨(fr_so (by simp)).trans (fr_so (by simp)), ?_, ?_, ?_, fun q _ _ q4 => ?_, ?_, WX.refl _ _ _ _, hf, h9, hB, hrk, Or.inl ⟨rfl, rfl, rfl, rfl, rfl⟩, fun _ _ h => h⟩
      · rw [k5, sf_ne (by decide)]; exact h2
      · rw [k5, sf_ne (by decide)]; exact h3
      · rw [k5, sf_eq, ek]; rfl
      · rw [k5, sf_ne q4]
      · rw [so_eq, ek]; exact q2
  | some i =>
    have hi := fN_lt e
    have y := Y.2.2 i hi
    have y1 := Y.1
    have ek : kiB J = some (seg J.2.2 (J.2.1 6 i) (J.2.1 7 i)) := by unfold kiB; rw [e]
    obtain ⟨c1, c2, c3, c4, c5, c6, c7, c8⟩ := C.2 i hi
    obtain ⟨o, q1, q2⟩ := Q0_clear (G := G) (F := F) (S := S.so 5 j ((S 5 j).sf 4 1)) hB (by rw [so_ne (by omega)]; exact hb)
    obtain ⟨S2, hS2⟩ : ∃ S2, S2 = (S.so 5 j ((S 5 j).sf 4 1)).so 0 κ o := ⟨_, rfl⟩
    rw [← hS2] at q1
    have f2 : fr [(5, j), (0, κ)] S S2 := by rw [hS2]; exact (fr_so (by simp)).trans (fr_so (by simp))
    have k5 : S2 5 j = (S 5 j).sf 4 1 := by rw [hS2, so_ne (by omega), so_eq]
    have k9 : S2 9 t = S 9 t := f2 9 t (by simp)
    have kp : S2 0 ip = S 0 ip := f2 0 ip (by simp; omega)
    obtain ⟨W', o', κ', rk', z', sl', r1, r2, r3, r4, r5, r6, r7, r8, r9, r10⟩ := Q5_kidRoom (G := G) (F := F) (S := S2) (many := J.2.1 7 i) (z := z) (sl := sl) X H.1 h9 hB hrk (by rw [hS2, so_eq]; exact q2) (by omega) hf hv
    have hκ' : κ' ≠ ip := by
      rcases r9 with q | q
      · rw [q.1]; exact hκ
      · intro e2
        have := hv.1
        rw [← q.1, e2, K.2.2.1.1] at this
        exact absurd this (by decide)
    have K' : isTx W' t ip := r2.t (by decide) (by decide) K
    have a5 := (r2.1 _ H.1).2.1
    have a9 := (r2.1 _ K.1).2.1
    have l5 := (r2.1 _ H.1).1
    obtain ⟨p, t1, t2⟩ := Q0_putPart (G := G) (F := F) (S := S2.so 0 κ' o') (p := J.2.1 6 i) (n := J.2.1 7 i) r5 (by rw [so_eq]; exact r7) K'.2.2.1 (by rw [so_ne (by omega), kp]; exact bp) (by omega)
    have ln : (seg J.2.2 (J.2.1 6 i) (J.2.1 7 i)).length = J.2.1 7 i := seg_len (by omega)
    rw [show (J.2.2.drop (J.2.1 6 i)).take (J.2.1 7 i) = seg J.2.2 (J.2.1 6 i) (J.2.1 7 i) from rfl, tkl_fit (by rw [ln]; simp; omega), lsl_fit (by rw [ln]; simp; omega), List.nil_append] at t2
    have g9 : ∀ S : ST, gfR (mem W' S) (W.ad (.o 5 j)) 5 9 = some (W'.ad (.o 0 κ')) := fun S => by rw [← a5]; exact gfR_m l5 rfl r4
    have gp : ∀ S : ST, gfR (mem W' S) (W.ad (.o 9 t)) 9 10 = some (W'.ad (.o 0 ip)) := fun S => by rw [← a9]; exact gfR_m K'.1 rfl K'.2.1
    have g6 : ∀ S : ST, gfR (mem W' S) (W.ad (.o 9 t)) 9 6 = some (W'.ad (.a 9 t 6)) := fun S => by rw [← a9]; exact t9r K' 6
    have g7 : ∀ S : ST, gfR (mem W' S) (W.ad (.o 9 t)) 9 7 = some (W'.ad (.a 9 t 7)) := fun S => by rw [← a9]; exact t9r K' 7
    refine ⟨W', (S2.so 0 κ' o').so 0 κ' p, κ', rk', z', sl', ?_, ?_⟩
    · rw [if_neg (show ¬ oI (some i) = -1 from n_nm (by omega)), pfZ_m H.1 rfl (Or.inr rfl), bO_s, e9, bO_s, rcv_m hB.lo, bO_s, q1, bO_s, ko_I H rfl, bO_s, k5, sf_eq]
      unfold B_X5_takeUse_143
      show (if (1 : Int32) = 0 then _ else bO (gfR (mem W S2) (W.ad (.o 9 t)) 9 7) fun v148 => bO (aI G (mem W S2) 0 v148 (Int32.ofNat i)) _) = _
      rw [if_neg (by decide), t9r K 7, bO_s, t9a K 7 i (by omega), bO_s, rcv_m H.1, bO_s, k9, c7, r1, bA_s, g9, bO_s, gp, bO_s, g6, bO_s]
      show bO (aI G _ 0 _ (Int32.ofNat i)) _ = _
      rw [t9a K' 6 i (by omega), bO_s, g7, bO_s]
      show bO (aI G _ 0 _ (Int32.ofNat i)) _ = _
      rw [t9a K' 7 i (by omega), bO_s, rcv_m r5.lo, bO_s, so_ne (by omega), k9, c6, c7, t1, bO_s]
    · have k5' : ((S2.so 0 κ' o').so 0 κ' p) 5 j = (S 5 j).sf 4 1 := by rw [so_ne (by omega), so_ne (by omega), k5]
      refine ⟨((f2.mono (by simp)).trans (fr_so (by simp))).trans (fr_so (by simp)), ?_, ?_, ?_, fun q _ _ q4 => ?_, ?_, r2, r3, r4, r5, r6, r9, r10⟩
      · rw [k5', sf_ne (by decide)]; exact h2
      · rw [k5', sf_ne (by decide)]; exact h3
      · rw [k5', sf_eq, ek]; rfl
      · rw [k5', sf_ne q4]
      · rw [so_eq, ek]; exact t2
theorem Q5_takeUse {S : ST} {κ rk ν z sl : Nat} (X : Cx G F W) (H : isKo W j) (K : isTx W t ip) (C : TbC (S 9 t) J) (Y : JX J) (bp : Byt 8192 (S 0 ip) J.2.2 lp) (h9 : W.r 5 j 9 = some (.o 0 κ)) (hB : isB W κ rk) (hrk : rmK rk) (hb : ∃ a l, Byt rk (S 0 κ) a l) (hκ : κ ≠ ip) (hf : WF W z) (hv : frsh W ν) : ∃ W' S' κ' rk' z' sl', P_X5_takeUse G F (W.ad (.o 5 j)) (W.ad (.o 9 t)) (mem W S) z sl = some (mem W' S', z', sl') ∧ UsT W W' S S' j κ κ' rk rk' ν z z' sl sl' J := by
  have hF := X.hF
  -- from the use on
  have go : ∀ u : Nat, u = usN J → ∃ W' S' κ' rk' z' sl', (bO (pfv (mem W S) (W.ad (.o 5 j)) 5 2 (.int (Int32.ofNat u))) fun M47 => bO (rcv M47 (W.ad (.o 9 t)) 9) fun _ => bP (P_X9_find G F (W.ad (.o 9 t)) (0 : Int32) (G.1 22) M47) fun v54 M54 => B_X5_takeUse_61 G F (W.ad (.o 5 j)) (W.ad (.o 9 t)) v54 (W.ad (.o 5 j)) v54 (-1 : Int32) M54 z sl) = some (mem W' S', z', sl') ∧ UsT W W' S S' j κ κ' rk rk' ν z z' sl sl' J := by
    intro u hu
    obtain ⟨a, ha⟩ : ∃ a : Int32, a = if fd J 22 = none then -1 else 11 := ⟨_, rfl⟩
    obtain ⟨S1, hS1⟩ : ∃ S1, S1 = S.so 5 j ((S 5 j).sf 2 (Int32.ofNat u)) := ⟨_, rfl⟩
    obtain ⟨S2, hS2⟩ : ∃ S2, S2 = S1.so 5 j ((S1 5 j).sf 3 a) := ⟨_, rfl⟩
    have f1 : fr [(5, j)] S S1 := by rw [hS1]; exact fr_so (by simp)
    have f2 : fr [(5, j)] S1 S2 := by rw [hS2]; exact fr_so (by simp)
    obtain ⟨S3, f3, g1, g2, g3⟩ := Q5_use_l (G := G) (F := F) (W := W) (J := J) (lp := lp) (z := z) (sl := sl) X H K Y 11 0 F S2 a (by omega) rfl (by rw [(f1.trans f2) 9 t (by simp)]; exact C) (by rw [(f1.trans f2) 0 ip (by simp)]; exact bp) (by rw [hS2, so_eq, sf_eq])
    have f := (f1.trans f2).trans f3
    have k2 : (S3 5 j).f 2 = (Int32.ofNat (usN J)) := by rw [g2 2 (by decide), hS2, so_eq, sf_ne (by decide), hS1, so_eq, sf_eq, hu]
    obtain ⟨W', S', κ', rk', z', sl', t1, t2⟩ := Q5_use_k (G := G) (F := F) (W := W) (S := S3) (J := J) (lp := lp) (z := z) (sl := sl) (ν := ν) X H K (by rw [f 9 t (by simp)]; exact C) Y (by rw [f 0 ip (by simp)]; exact bp) h9 hB hrk (by rw [f 0 κ (by simp)]; exact hb) hκ hf hv k2 (by rw [g1, ha]; rfl)
    refine ⟨W', S', κ', rk', z', sl', ?_, ?_⟩
    · rw [pfI_m H.1 rfl, bO_s, ← hS1, rcv_m K.1, bO_s, Q9_find0 X K (by rw [f1 9 t (by simp)]; exact C) Y (by rw [f1 0 ip (by simp)]; exact bp) (by decide), bP_s]
      unfold B_X5_takeUse_61
      have e76 : B_X5_takeUse_76 G F F (W.ad (.o 5 j)) (W.ad (.o 9 t)) (oI (fd J 22)) 0 (mem W S2) z sl = some (mem W' S', z', sl') := g3.trans t1
      by_cases c : fd J 22 = none
      · rw [if_pos (show oI (fd J 22) = -1 by rw [c]; rfl), pfI_m H.1 rfl, bO_s, show (-1 : Int32) = a by rw [ha, if_pos c], ← hS2]
        exact e76
      · rw [if_neg (show ¬ oI (fd J 22) = -1 by rw [oI_eq (fN_b Y)]; exact c), pfI_m H.1 rfl, bO_s, show (11 : Int32) = a by rw [ha, if_neg c], ← hS2]
        exact e76
    · obtain ⟨u1, u2, u3, u4, u5, u6⟩ := t2
      exact ⟨(f.mono (by simp)).trans u1, u2, u3, u4, fun q q2 q3 q4 => by rw [u5 q q2 q3 q4, g2 q q3, hS2, so_eq, sf_ne q3, hS1, so_eq, sf_ne q2], u6⟩
  unfold P_X5_takeUse
  rw [rcv_m K.1, bO_s, Q9_find0 X K C Y bp (by decide), bP_s]
  unfold B_X5_takeUse_11
  by_cases c0 : fd J 21 = none
  · rw [if_pos (show oI (fN J (str 21) (some 0)) = -1 by rw [show fN J (str 21) (some 0) = none from c0]; rfl)]
    exact go 0 (by unfold usN; rw [if_pos c0])
  · rw [if_neg (show ¬ oI (fN J (str 21) (some 0)) = -1 by rw [oI_eq (fN_b Y)]; exact c0), rcv_m K.1, bO_s, Q9_says X K C Y bp (by decide) (fN_b Y), bP_s]
    unfold B_X5_takeUse_25
    by_cases c1 : sayB J (fd J 21) (str 31) = true
    · rw [if_pos c1, if_neg (show ¬ (1 : Int32) = 0 by decide)]
      exact go 1 (by unfold usN; rw [if_neg c0, if_pos c1])
    · rw [if_neg c1, if_pos rfl, rcv_m K.1, bO_s, Q9_says X K C Y bp (by decide) (fN_b Y), bP_s]
      unfold B_X5_takeUse_39
      by_cases c2 : sayB J (fd J 21) (str 32) = true
      · rw [if_pos c2, if_neg (show ¬ (1 : Int32) = 0 by decide)]
        exact go 2 (by unfold usN; rw [if_neg c0, if_neg c1, if_pos c2])
      · rw [if_neg c2, if_pos rfl]
        exact go 3 (by unfold usN; rw [if_neg c0, if_neg c1, if_neg c2])
end USE
