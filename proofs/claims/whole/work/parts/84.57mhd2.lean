/-! A TOKEN'S HEAD READ: the model -/
def sdH (J : JT) (sl : Bool) : Bool := hdS J && (!sl || (kB J (fd J 66) 4 && (fd J 67).isNone))
/-- the reason against a head, or 0 -/
def hdV (s : List UInt8) (sl : Bool) : Int32 := match rdT s with
  | .inl _ => -22
  | .inr J => if sdH J sl = true then hdR J sl else -23
section MH2
variable {W : WR} {G : mG} {F : Nat} {S : ST} {bk : Nat} {J : JT}
theorem oM_str {o : Ob} {p : Option Nat} (h : isM W) (M : MTx o bk J) (hbk : bk ≤ 1) (Y : JX J) (hp : ∀ i, p = some i → i < J.1) : P_X13_isString G F (W.ad (.o 13 0)) (Int32.ofNat bk) (oI p) (mem W (S.so 13 0 o)) = some (if kB J p 4 = true then 1 else 0, mem W (S.so 13 0 o)) := QM_isString h (by rw [so_eq]; exact M) hbk Y hp
/-- the soundness, told step by step, ends as the head does -/
theorem oM_hd154 {o : Ob} {sl g : Bool} (X : Cx G F W) (h : isM W) (hp : isMp W) (mk : MK (S.so 13 0 o)) (M : MTx o bk J) (hbk : bk ≤ 1) (Y : JX J) (I : JI J) (h0 : 0 < J.1) (E : mEx o) (hg : g = true → kB J (fd J 56) 4 = true ∧ (sl = true → kB J (fd J 66) 4 = true)) : ∃ S', B_X13_headOf_154 G F (W.ad (.o 13 0)) (if sl = true then 1 else 0) (Int32.ofNat bk) (oI (fd J 56)) (oI (fd J 66)) (oI (fd J 55)) (oI (fd J 54)) (if g = true then 1 else 0) (mem W (S.so 13 0 o)) = some (if (g && (!sl || (fd J 67).isNone)) = true then hdR J sl else -23, mem W S') ∧ HdE S S' o ∧ ((g && (!sl || (fd J 67).isNone)) = true → hdR J sl = 0 → HdF (S' 13 0) bk J sl) := by
  obtain ⟨t1, t2, t3, t4, t5, t6, t7, t8, t9, t10, t11, t12, t13, t14, t15⟩ := st_114
  have stay : ∀ P : Option (Int32 × mM), P = some (-23, mem W (S.so 13 0 o)) → (g && (!sl || (fd J 67).isNone)) = false → ∃ S', P = some (if (g && (!sl || (fd J 67).isNone)) = true then hdR J sl else -23, mem W S') ∧ HdE S S' o ∧ ((g && (!sl || (fd J 67).isNone)) = true → hdR J sl = 0 → HdF (S' 13 0) bk J sl) := by
    intro P hP hf
    refine ⟨S.so 13 0 o, by rw [hP, hf]; rfl, ⟨fr_so (by simp), ?_, mk, ?_⟩, fun q => absurd q (by rw [hf]; decide)⟩
    · rw [so_eq]
      exact agr.refl _ _ _ _ _
    · rw [so_eq]
      exact E
  unfold B_X13_headOf_154
  cases g with
  | false =>
    exact stay _ (by rw [if_pos (by rfl)]) rfl
  | true =>
    obtain ⟨k4, k6⟩ := hg rfl
    obtain ⟨S', q1, q2, q3⟩ := oM_hd182 (G := G) (F := F) (S := S) (o := o) (sl := sl) X h hp mk M hbk Y I h0 E k4 k6
    cases sl with
    | false =>
      refine ⟨S', ?_, q2, fun _ => q3⟩
      rw [if_neg (by decide), if_pos (by rfl)]
      exact q1
    | true =>
      rw [if_neg (by decide), if_neg (by decide), rcv_m h.lo, bO_s, oM_mem0 X h M hbk Y h0 (by decide) t2, bP_s]
      simp only [(show (oI (fd J 67) < (0 : Int32)) = (fd J 67 = none) from oI_lt (fN_b Y))]
      cases e : fd J 67 with
      | none =>
        refine ⟨S', ?_, q2, fun _ => q3⟩
        rw [if_pos rfl]
        exact q1
      | some i =>
        rw [e] at stay
        exact stay _ (by rw [if_neg (by simp)]) rfl
theorem oM_hd133 {o : Ob} {sl : Bool} (X : Cx G F W) (h : isM W) (hp : isMp W) (mk : MK (S.so 13 0 o)) (M : MTx o bk J) (hbk : bk ≤ 1) (Y : JX J) (I : JI J) (h0 : 0 < J.1) (E : mEx o) (r6 : kB J (some 0) 6 = true) (k4 : kB J (fd J 56) 4 = true) (k6 : sl = true → kB J (fd J 66) 4 = true) (k5 : fd J 55 = none ∨ kB J (fd J 55) 4 = true) : ∃ S', B_X13_headOf_133 G F (W.ad (.o 13 0)) (if sl = true then 1 else 0) (Int32.ofNat bk) (oI (fd J 56)) (oI (fd J 66)) (oI (fd J 55)) (oI (fd J 54)) (mem W (S.so 13 0 o)) = some (if sdH J sl = true then hdR J sl else -23, mem W S') ∧ HdE S S' o ∧ (sdH J sl = true → hdR J sl = 0 → HdF (S' 13 0) bk J sl) := by
  have sd : ∀ g : Bool, ((fd J 54 = none ∧ g = true) ∨ ∃ c, fd J 54 = some c ∧ g = crB J c) → sdH J sl = (g && (!sl || (fd J 67).isNone)) := by
    intro g hg
    have hs : hdS J = g := by
      unfold hdS
      rw [r6, k4, decide_eq_true k5]
      rcases hg with ⟨e, e2⟩ | ⟨c, e, e2⟩
      · rw [e, e2]
        rfl
      · rw [e, e2]
        rfl
    unfold sdH
    rw [hs]
    cases sl with
    | false => rfl
    | true =>
      rw [k6 rfl]
      rfl
  unfold B_X13_headOf_133
  simp only [(show (oI (fd J 54) < (0 : Int32)) = (fd J 54 = none) from oI_lt (fN_b Y))]
  by_cases e : fd J 54 = none
  · have sd := sd true (Or.inl ⟨e, rfl⟩)
    obtain ⟨S', q1, q2, q3⟩ := oM_hd154 (G := G) (F := F) (S := S) (o := o) (sl := sl) (g := true) X h hp mk M hbk Y I h0 E (fun _ => ⟨k4, k6⟩)
    rw [if_pos e, sd]
    exact ⟨S', q1, q2, q3⟩
  · obtain ⟨c, hc⟩ := Option.ne_none_iff_exists'.mp e
    have cl := fN_lt hc
    have cr := QM_crit (G := G) (F := F) (S := S.so 13 0 o) X h (by rw [so_eq]; exact M) hbk Y cl
    have cr : P_X13_isCrit G F (W.ad (.o 13 0)) (Int32.ofNat bk) (oI (some c)) (mem W (S.so 13 0 o)) = _ := cr
    rw [← hc] at cr
    have sd := sd (crB J c) (Or.inr ⟨c, hc, rfl⟩)
    obtain ⟨S', q1, q2, q3⟩ := oM_hd154 (G := G) (F := F) (S := S) (o := o) (sl := sl) (g := crB J c) X h hp mk M hbk Y I h0 E (fun _ => ⟨k4, k6⟩)
    rw [if_neg e, rcv_m h.lo, bO_s, cr, bP_s, sd]
    refine ⟨S', ?_, q2, q3⟩
    rw [← q1]
    cases crB J c <;> rfl
theorem QM_headOf {ks p0 : Nat} {s : List UInt8} {sl : Bool} {α : Nat → UInt8} (X : Cx G F W) (h : isM W) (hmm : isMm W) (mk : MK S) (qk : (kdA 13)[ks]? = some 1) (lk : mLen ks < 2 ^ 30) (hks : ks ∉ rdAr) (hbk : bk ≤ 1) (h17 : (S 13 0).f 17 = (Int32.ofNat bk)) (hl : s.length ≤ 8192) (ha : mB (S 13 0) ks α) (hr : rdB α p0 s.length = s) (hb : p0 + s.length ≤ mLen ks) (h15 : ∃ β, mB (S 13 0) 15 β) (E : mEx (S 13 0)) : ∃ S', P_X13_headOf G F (W.ad (.o 13 0)) (W.ad (.a 13 0 ks)) (Int32.ofNat p0) (Int32.ofNat s.length) (if sl = true then 1 else 0) (mem W S) = some (hdV s sl, mem (W.sr 13 0 19 (.a 13 0 ks)) S') ∧ fr [(12, 1), (13, 0)] S S' ∧ agr ([20, 21, 22, 23, 24, 25, 26] ++ hdL) [] ([6, 7, 8, 9, 10, 11, 12, 13, 14, 15, 16] ++ agL_) [] (S 13 0) (S' 13 0) ∧ kpT (1 - bk) (S 13 0) (S' 13 0) ∧ MK S' ∧ mEx (S' 13 0) ∧ (∃ β, mB (S' 13 0) 15 β) ∧ (hdV s sl = 0 → ∃ J, rdT s = .inr J ∧ MTx (S' 13 0) (1 - bk) J ∧ JX J ∧ sdH J sl = true ∧ hdR J sl = 0 ∧ HdF (S' 13 0) (1 - bk) J sl) := by
  obtain ⟨β15, h15⟩ := h15
  obtain ⟨t1, t2, t3, t4, t5, t6, t7, t8, t9, t10, t11, t12, t13, t14, t15⟩ := st_114
  obtain ⟨o1, g, a, kp, b15, q⟩ := QM_read (G := G) (F := F) (ks := ks) (p0 := p0) (s := s) (bk := 1 - bk) X h qk lk hks (by omega) hl ha hr hb h15
  have e1 : (1 : Int32) - (Int32.ofNat bk) = (Int32.ofNat (1 - bk)) := n_sub (a := 1) hbk
  obtain ⟨W1, hW1⟩ : ∃ W1, W1 = W.sr 13 0 19 (.a 13 0 ks) := ⟨_, rfl⟩
  have y : WY W W1 := by rw [hW1]; exact WY.sr (Or.inr (Or.inr ⟨rfl, rfl⟩))
  have ad : W1.ad = W.ad := by rw [hW1]; rfl
  rw [← hW1] at g ⊢
  have X1 := y.cx X
  have h1 := y.m h
  have hmm1 := y.mm h.lo hmm
  have hp1 : isMp W1 := ⟨hmm1.2.1, hmm1.2.2.2.2.1, h1⟩
  have ar : agr [20, 21, 22, 23, 24, 25, 26] [] [6, 7, 8, 9, 10, 11, 12, 13, 14, 15, 16] [] (S 13 0) o1 := a
  have mk1 : MK (S.so 13 0 o1) := by
    have m0 : MK (S.so 13 0 (S 13 0)) := by rw [so_self]; exact mk
    exact m0.ag ar (by decide) rfl
  have E1 : mEx o1 := E.ag ar (by decide)
  have arL : agr ([20, 21, 22, 23, 24, 25, 26] ++ hdL) [] ([6, 7, 8, 9, 10, 11, 12, 13, 14, 15, 16] ++ agL_) [] (S 13 0) o1 := ar.mono (by simp) (by simp) (by simp) (by simp)
  -- an end from an object that differs from o1 in what a head touches
  have fin : ∀ (P : Option (Int32 × mM)) (S' : ST) (v : Int32), P = some (v, mem W1 S') → v = hdV s sl → HdE S S' o1 → (hdV s sl = 0 → ∃ J, rdT s = .inr J ∧ JX J ∧ MTx o1 (1 - bk) J ∧ sdH J sl = true ∧ hdR J sl = 0 ∧ HdF (S' 13 0) (1 - bk) J sl) → ∃ S', P = some (hdV s sl, mem W1 S') ∧ fr [(12, 1), (13, 0)] S S' ∧ agr ([20, 21, 22, 23, 24, 25, 26] ++ hdL) [] ([6, 7, 8, 9, 10, 11, 12, 13, 14, 15, 16] ++ agL_) [] (S 13 0) (S' 13 0) ∧ kpT (1 - bk) (S 13 0) (S' 13 0) ∧ MK S' ∧ mEx (S' 13 0) ∧ (∃ β, mB (S' 13 0) 15 β) ∧ (hdV s sl = 0 → ∃ J, rdT s = .inr J ∧ MTx (S' 13 0) (1 - bk) J ∧ JX J ∧ sdH J sl = true ∧ hdR J sl = 0 ∧ HdF (S' 13 0) (1 - bk) J sl) := by
    intro P S' v hP hv hE hz
    obtain ⟨x1, x2, x3, x4⟩ := hE
    refine ⟨S', by rw [hP, hv], x1, arL.trans (x2.mono (by simp) (by simp) (by simp) (by simp)), fun bk' J' q1 q2 q3 q4 => (kp bk' J' q1 q2 q3 q4).agr x2 (by decide), x3, x4, ?_, fun z => ?_⟩
    · obtain ⟨β, b⟩ := b15
      exact ⟨β, x2.mB b (by decide)⟩
    · obtain ⟨J, z1, z2, z3, z4, z5, z6⟩ := hz z
      exact ⟨J, z1, z3.agr x2 (by decide), z2, z4, z5, z6⟩
  have E0 : HdE S (S.so 13 0 o1) o1 := ⟨fr_so (by simp), by rw [so_eq]; exact agr.refl _ _ _ _ _, mk1, by rw [so_eq]; exact E1⟩
  have two : (∃ p, rdT s = .inl p) ∨ ∃ J, rdT s = .inr J := by
    cases rdT s with
    | inl p => exact Or.inl ⟨p, rfl⟩
    | inr J => exact Or.inr ⟨J, rfl⟩
  unfold P_X13_headOf
  rcases two with ⟨p, e⟩ | ⟨J, e⟩
  · rw [e] at g
    rw [h.gI 17 rfl, bO_s, h17, e1, rcv_m h.lo, bO_s, g, bP_s]
    have hv : (-22 : Int32) = hdV s sl := by unfold hdV; rw [e]
    refine fin _ (S.so 13 0 o1) (-22) ?_ hv E0 (fun z => absurd (hv.trans z) (by decide))
    rw [if_pos (by rfl)]
  · rw [e] at g q
    rw [h.gI 17 rfl, bO_s, h17, e1, rcv_m h.lo, bO_s, g, bP_s]
    obtain ⟨M1, Y⟩ := q
    have h0 : 0 < J.1 := rd_pos e
    have I := rd_I e
    have hb' : 1 - bk ≤ 1 := by omega
    obtain ⟨m1, m2, _⟩ := id M1
    have k0 := (m2 0 (Nat.le_refl _) h0).1
    have y1 := (Y.2.2 0 h0).1
    have e600 : (600 : Int32) * (Int32.ofNat (1 - bk)) = (Int32.ofNat (600 * (1 - bk))) := n_mul 600 (1 - bk)
    have v0 : aI G (mem W1 (S.so 13 0 o1)) 0 (W1.ad (.a 13 0 6)) (Int32.ofNat (600 * (1 - bk))) = some (Int32.ofNat (J.2.1 1 0)) := by
      rw [mva h1 6 _ (by omega), so_eq]
      exact congrArg some k0
    rw [← ad]
    rw [if_neg (show ¬ (1 : Int32) = 0 by decide), mvr h1 6, bO_s, e600, v0, bO_s]
    have x6 : (Int32.ofNat (J.2.1 1 0)) = (6 : Int32) ↔ J.2.1 1 0 = 6 := n_eq (b := 6) (by omega) (by omega)
    have k6 : kB J (some 0) 6 = true ↔ J.2.1 1 0 = 6 := by
      show (decide (0 < J.1) && decide (J.2.1 1 0 = 6)) = true ↔ _
      rw [decide_eq_true h0, Bool.true_and, decide_eq_true_iff]
    have V : hdV s sl = if sdH J sl = true then hdR J sl else -23 := by unfold hdV; rw [e]
    have bad : sdH J sl = false → (-23 : Int32) = hdV s sl := fun z => by rw [V, z]; rfl
    by_cases c6 : J.2.1 1 0 = 6
    · have r6 := k6.mpr c6
      rw [if_pos (x6.mpr c6), rcv_m h1.lo, bO_s, oM_mem0 X1 h1 M1 hb' Y h0 (by decide) t7, bP_s, rcv_m h1.lo, bO_s, oM_mem0 X1 h1 M1 hb' Y h0 (by decide) t8, bP_s, rcv_m h1.lo, bO_s, oM_mem0 X1 h1 M1 hb' Y h0 (by decide) t9, bP_s, rcv_m h1.lo, bO_s, oM_mem0 X1 h1 M1 hb' Y h0 (by decide) t1, bP_s, rcv_m h1.lo, bO_s, oM_str h1 M1 hb' Y (fun i hi => fN_lt hi), bP_s]
      -- not sound: the end
      have no : ∀ P : Option (Int32 × mM), P = B_X13_headOf_154 G F (W1.ad (.o 13 0)) (if sl = true then 1 else 0) (Int32.ofNat (1 - bk)) (oI (fd J 56)) (oI (fd J 66)) (oI (fd J 55)) (oI (fd J 54)) 0 (mem W1 (S.so 13 0 o1)) → sdH J sl = false → ∃ S', P = some (hdV s sl, mem W1 S') ∧ fr [(12, 1), (13, 0)] S S' ∧ agr ([20, 21, 22, 23, 24, 25, 26] ++ hdL) [] ([6, 7, 8, 9, 10, 11, 12, 13, 14, 15, 16] ++ agL_) [] (S 13 0) (S' 13 0) ∧ kpT (1 - bk) (S 13 0) (S' 13 0) ∧ MK S' ∧ mEx (S' 13 0) ∧ (∃ β, mB (S' 13 0) 15 β) ∧ (hdV s sl = 0 → ∃ J, rdT s = .inr J ∧ MTx (S' 13 0) (1 - bk) J ∧ JX J ∧ sdH J sl = true ∧ hdR J sl = 0 ∧ HdF (S' 13 0) (1 - bk) J sl) := by
        intro P hP hs
        refine fin P (S.so 13 0 o1) (-23) ?_ (bad hs) E0 (fun z => absurd ((bad hs).trans z) (by decide))
        rw [hP]
        unfold B_X13_headOf_154
        rw [if_pos rfl]
      -- sound up to the kid: the rest
      have go : kB J (fd J 56) 4 = true → (sl = true → kB J (fd J 66) 4 = true) → (fd J 55 = none ∨ kB J (fd J 55) 4 = true) → ∃ S', B_X13_headOf_133 G F (W1.ad (.o 13 0)) (if sl = true then 1 else 0) (Int32.ofNat (1 - bk)) (oI (fd J 56)) (oI (fd J 66)) (oI (fd J 55)) (oI (fd J 54)) (mem W1 (S.so 13 0 o1)) = some (hdV s sl, mem W1 S') ∧ fr [(12, 1), (13, 0)] S S' ∧ agr ([20, 21, 22, 23, 24, 25, 26] ++ hdL) [] ([6, 7, 8, 9, 10, 11, 12, 13, 14, 15, 16] ++ agL_) [] (S 13 0) (S' 13 0) ∧ kpT (1 - bk) (S 13 0) (S' 13 0) ∧ MK S' ∧ mEx (S' 13 0) ∧ (∃ β, mB (S' 13 0) 15 β) ∧ (hdV s sl = 0 → ∃ J, rdT s = .inr J ∧ MTx (S' 13 0) (1 - bk) J ∧ JX J ∧ sdH J sl = true ∧ hdR J sl = 0 ∧ HdF (S' 13 0) (1 - bk) J sl) := by
        intro k4 k6 k5
        obtain ⟨S', q1, q2, q3⟩ := oM_hd133 (G := G) (F := F) (S := S) (o := o1) (sl := sl) X1 h1 hp1 mk1 M1 hb' Y I h0 E1 r6 k4 k6 k5
        refine fin _ S' _ q1 V.symm q2 (fun z => ?_)
        rw [V] at z
        by_cases sd : sdH J sl = true
        · rw [if_pos sd] at z
          exact ⟨J, e, Y, M1, sd, z, q3 sd z⟩
        · rw [if_neg sd] at z
          exact absurd z (by decide)
      -- the kid
      have kid : kB J (fd J 56) 4 = true → (sl = true → kB J (fd J 66) 4 = true) → ∃ S', (if oI (fd J 55) < 0 then B_X13_headOf_133 G F (W1.ad (.o 13 0)) (if sl = true then 1 else 0) (Int32.ofNat (1 - bk)) (oI (fd J 56)) (oI (fd J 66)) (oI (fd J 55)) (oI (fd J 54)) (mem W1 (S.so 13 0 o1)) else bO (rcv (mem W1 (S.so 13 0 o1)) (W1.ad (.o 13 0)) 13) fun _ => bP (P_X13_isString G F (W1.ad (.o 13 0)) (Int32.ofNat (1 - bk)) (oI (fd J 55)) (mem W1 (S.so 13 0 o1))) fun v127 M127 => if v127 = 0 then B_X13_headOf_154 G F (W1.ad (.o 13 0)) (if sl = true then 1 else 0) (Int32.ofNat (1 - bk)) (oI (fd J 56)) (oI (fd J 66)) (oI (fd J 55)) (oI (fd J 54)) 0 M127 else B_X13_headOf_133 G F (W1.ad (.o 13 0)) (if sl = true then 1 else 0) (Int32.ofNat (1 - bk)) (oI (fd J 56)) (oI (fd J 66)) (oI (fd J 55)) (oI (fd J 54)) M127) = some (hdV s sl, mem W1 S') ∧ fr [(12, 1), (13, 0)] S S' ∧ agr ([20, 21, 22, 23, 24, 25, 26] ++ hdL) [] ([6, 7, 8, 9, 10, 11, 12, 13, 14, 15, 16] ++ agL_) [] (S 13 0) (S' 13 0) ∧ kpT (1 - bk) (S 13 0) (S' 13 0) ∧ MK S' ∧ mEx (S' 13 0) ∧ (∃ β, mB (S' 13 0) 15 β) ∧ (hdV s sl = 0 → ∃ J, rdT s = .inr J ∧ MTx (S' 13 0) (1 - bk) J ∧ JX J ∧ sdH J sl = true ∧ hdR J sl = 0 ∧ HdF (S' 13 0) (1 - bk) J sl) := by
        intro k4 k6
        simp only [(show (oI (fd J 55) < (0 : Int32)) = (fd J 55 = none) from oI_lt (fN_b Y))]
        by_cases c : fd J 55 = none
        · rw [if_pos c]
          exact go k4 k6 (Or.inl c)
        · rw [if_neg c, rcv_m h1.lo, bO_s, oM_str h1 M1 hb' Y (fun i hi => fN_lt hi), bP_s]
          by_cases c2 : kB J (fd J 55) 4 = true
          · rw [if_pos c2, if_neg (by decide)]
            exact go k4 k6 (Or.inr c2)
          · rw [if_neg c2, if_pos rfl]
            refine no _ rfl ?_
            unfold sdH hdS
            rw [decide_eq_false (fun q => q.elim c c2)]
            simp
      by_cases c1 : kB J (fd J 56) 4 = true
      · rw [if_pos c1, if_neg (by decide)]
        cases sl with
        | false =>
          rw [if_pos (by rfl)]
          exact kid c1 (fun q => absurd q (by decide))
        | true =>
          rw [if_neg (by decide), rcv_m h1.lo, bO_s, oM_str h1 M1 hb' Y (fun i hi => fN_lt hi), bP_s]
          by_cases c2 : kB J (fd J 66) 4 = true
          · rw [if_pos c2, if_neg (by decide)]
            exact kid c1 (fun _ => c2)
          · rw [if_neg c2, if_pos rfl]
            refine no _ rfl ?_
            unfold sdH
            rw [Bool.eq_false_iff.mpr c2]
            simp
      · rw [if_neg c1, if_pos rfl]
        refine no _ rfl ?_
        unfold sdH hdS
        rw [Bool.eq_false_iff.mpr c1]
        simp
    · rw [if_neg (fun q => c6 (x6.mp q))]
      have sd : sdH J sl = false := by
        unfold sdH hdS
        rw [Bool.eq_false_iff.mpr (fun q => c6 (k6.mp q))]
        rfl
      exact fin _ (S.so 13 0 o1) (-23) rfl (bad sd) E0 (fun z => absurd ((bad sd).trans z) (by decide))
end MH2
