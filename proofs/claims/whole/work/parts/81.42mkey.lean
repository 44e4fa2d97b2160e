/-! THE ROUND KEYS OF THE MODEL -/
theorem d4_t : ∀ d, d < 4 → (((Int32.ofNat d) + (1 : Int32)) - ((Int32.ofNat d) + (1 : Int32)) / (4 : Int32) * (4 : Int32)) = (Int32.ofNat ((d + 1) % 4)) := by decide +kernel
theorem x_z (x : UInt8) : b32 x ^^^ (0 : Int32) = b32 x := by
  have : (0 : Int32) = b32 0 := rfl
  rw [this, b32_x, UInt8.xor_zero]
section MKEYS
variable {W : WR} {G : mG} {F : Nat}
abbrev mKp (S : ST) (kw : Nat) (key : List UInt8) (n : Nat) : Prop := ∀ t, t < n → (S 13 0).a 43 t = b32 (ksF kw key t)
theorem QM_sk157 {S : ST} {r48 : Nat → Int32 → Int32 → Int32 → mM → Option mM} {r101 : Nat → Int32 → Int32 → Int32 → Int32 → Int32 → Int32 → mM → Option mM} {kw w d : Nat} {key : List UInt8} {rc y : UInt8} {first : Bool} {l7 : Int32} (h : isM W) (hkp : 0 < kw) (hw : kw ≤ w) (hw2 : w < 60) (hd : d < 4) (hk : mKp S kw key (4 * w + d)) : B_X13_setKey_157 G F r48 r101 (W.ad (.o 13 0)) (Int32.ofNat (4 * kw)) (b32 rc) (Int32.ofNat (4 * w)) (if first then 1 else 0) l7 (Int32.ofNat d) (b32 y) (mem W S) = r101 (W.ad (.o 13 0)) (Int32.ofNat (4 * kw)) (b32 rc) (Int32.ofNat (4 * w)) (if first then 1 else 0) l7 (Int32.ofNat (d + 1)) (mem W (S.sa 13 0 43 (upd ((S 13 0).a 43) (4 * w + d) (b32 ((ksF kw key (4 * (w - kw) + d) ^^^ y) ^^^ (if first ∧ d = 0 then rc else 0)))))) := by
  have h43 := h.hA 43 (by decide)
  unfold B_X13_setKey_157
  rw [h43.g h.lo rfl, bO_s, bO_s, n_sub (by omega), n_add, h43.ld rfl (show 4 * w - 4 * kw + d < 240 by omega), bO_s, n_add, show 4 * w - 4 * kw + d = 4 * (w - kw) + d by omega, hk _ (by omega), b32_x]
  cases first with
  | false =>
    rw [if_pos (by rfl), x_z, h43.sa rfl (show 4 * w + d < 240 by omega), bO_s, n_addL d 1, if_neg (show ¬ (false = true ∧ d = 0) from fun q => absurd q.1 (by decide)), UInt8.xor_zero]
  | true =>
    rw [if_neg (by decide)]
    by_cases h0 : d = 0
    · rw [if_pos (by rw [h0]; rfl), b32_x, h43.sa rfl (show 4 * w + d < 240 by omega), bO_s, n_addL d 1, if_pos (show true = true ∧ d = 0 from ⟨rfl, h0⟩)]
    · rw [if_neg (by rw [z32]; exact fun q => h0 ((n_eq (by omega) (by omega)).mp q)), x_z, h43.sa rfl (show 4 * w + d < 240 by omega), bO_s, n_addL d 1, if_neg (show ¬ (true = true ∧ d = 0) from fun q => h0 q.2), UInt8.xor_zero]
theorem QM_sk101 {S : ST} {r48 : Nat → Int32 → Int32 → Int32 → mM → Option mM} {kw w : Nat} {key : List UInt8} {first half : Bool} (X : Cx G F W) (h : isM W) (hkp : 0 < kw) (hw : kw ≤ w) (hw2 : w < 60) (hf : first = decide (w % kw = 0)) (hh : half = decide (kw = 8 ∧ w % kw = 4)) (hbx : mBX S) (hk : mKp S kw key (4 * w)) : ∃ S', B_X13_setKey_101 G F r48 F (W.ad (.o 13 0)) (Int32.ofNat (4 * kw)) (b32 (rcF ((w - 1) / kw))) (Int32.ofNat (4 * w)) (if first then 1 else 0) (if half then 1 else 0) 0 (mem W S) = r48 (W.ad (.o 13 0)) (Int32.ofNat (4 * kw)) (b32 (if first then tw (rcF ((w - 1) / kw)) else rcF ((w - 1) / kw))) (Int32.ofNat (4 * (w + 1))) (mem W S') ∧ arF [(13, 0, 43)] S S' ∧ mKp S' kw key (4 * (w + 1)) := by
  have hF := X.hF
  have h43 := h.hA 43 (by decide)
  have h41 := h.hA 41 (by decide)
  obtain ⟨n', S1, e, a1, k1⟩ := loopS (fun n j S => B_X13_setKey_101 G F r48 n (W.ad (.o 13 0)) (Int32.ofNat (4 * kw)) (b32 (rcF ((w - 1) / kw))) (Int32.ofNat (4 * w)) (if first then 1 else 0) (if half then 1 else 0) (Int32.ofNat j) (mem W S)) (fun j S' => arF [(13, 0, 43)] S S' ∧ mKp S' kw key (4 * w + j)) 4 (by
    intro n d S1 hd hI
    obtain ⟨i1, i2⟩ := hI
    have hbx1 := mBX_ar i1 (by decide) (by decide) hbx
    have w4e := ksF_w (key := key) hkp hw hd
    have go : ∀ y : UInt8, ksF kw key (4 * w + d) = (ksF kw key (4 * (w - kw) + d) ^^^ y) ^^^ (if first ∧ d = 0 then rcF ((w - 1) / kw) else 0) → ∃ S', B_X13_setKey_157 G F r48 (B_X13_setKey_101 G F r48 n) (W.ad (.o 13 0)) (Int32.ofNat (4 * kw)) (b32 (rcF ((w - 1) / kw))) (Int32.ofNat (4 * w)) (if first then 1 else 0) (if half then 1 else 0) (Int32.ofNat d) (b32 y) (mem W S1) = B_X13_setKey_101 G F r48 n (W.ad (.o 13 0)) (Int32.ofNat (4 * kw)) (b32 (rcF ((w - 1) / kw))) (Int32.ofNat (4 * w)) (if first then 1 else 0) (if half then 1 else 0) (Int32.ofNat (d + 1)) (mem W S') ∧ arF [(13, 0, 43)] S S' ∧ mKp S' kw key (4 * w + (d + 1)) := by
      intro y hy
      rw [QM_sk157 h hkp hw hw2 hd i2]
      refine ⟨_, rfl, i1.trans (arF_sa (by simp)), fun t ht => ?_⟩
      rw [sa_eq]
      by_cases et : t = 4 * w + d
      · rw [et, upd_eq, hy]
      · rw [upd_ne et]
        exact i2 t (by omega)
    show ∃ S', B_X13_setKey_101 G F r48 (n + 1) _ _ _ _ _ _ _ _ = _ ∧ _
    rw [B_X13_setKey_101, if_neg (by rw [lit 4]; exact fun q => absurd ((n_le (by omega) (by omega)).mp q) (by omega)), h43.g h.lo rfl, bO_s, n_subL 4 (by omega), d4_t d hd]
    cases hfb : first with
    | true =>
      have hz : w % kw = 0 := by rw [hfb] at hf; exact of_decide_eq_true hf.symm
      rw [if_neg (by decide), B_X13_setKey_131, n_add, h43.ld rfl (show 4 * w - 4 + (d + 1) % 4 < 240 by omega), bO_s, if_neg (by decide), h41.g h.lo rfl, bO_s, i2 _ (by omega), h.bx hbx1, bO_s]
      rw [hfb] at go
      refine go _ ?_
      rw [w4e, if_pos hz]
      simp only [true_and]
      rw [UInt8.xor_assoc]
    | false =>
      have hz : ¬ w % kw = 0 := by rw [hfb] at hf; exact of_decide_eq_false hf.symm
      rw [if_pos (by rfl), B_X13_setKey_131, n_add, h43.ld rfl (show 4 * w - 4 + d < 240 by omega), bO_s, if_pos (by rfl), i2 _ (by omega)]
      rw [hfb] at go
      cases hhb : half with
      | true =>
        have hz4 : kw = 8 ∧ w % kw = 4 := by rw [hhb] at hh; exact of_decide_eq_true hh.symm
        rw [if_neg (by decide), h41.g h.lo rfl, bO_s, h.bx hbx1, bO_s]
        rw [hhb] at go
        refine go _ ?_
        rw [w4e, if_neg hz, if_pos hz4, if_neg (by simp), UInt8.xor_zero]
      | false =>
        have hz4 : ¬ (kw = 8 ∧ w % kw = 4) := by rw [hhb] at hh; exact of_decide_eq_false hh.symm
        rw [if_pos (by rfl)]
        rw [hhb] at go
        refine go _ ?_
        rw [w4e, if_neg hz, if_neg hz4, if_neg (by simp), UInt8.xor_zero]) 4 0 F S (by omega) rfl ⟨arF.refl _ _, hk⟩
  have e' : B_X13_setKey_101 G F r48 F (W.ad (.o 13 0)) (Int32.ofNat (4 * kw)) (b32 (rcF ((w - 1) / kw))) (Int32.ofNat (4 * w)) (if first then 1 else 0) (if half then 1 else 0) 0 (mem W S) = B_X13_setKey_101 G F r48 (n' + 1) (W.ad (.o 13 0)) (Int32.ofNat (4 * kw)) (b32 (rcF ((w - 1) / kw))) (Int32.ofNat (4 * w)) (if first then 1 else 0) (if half then 1 else 0) 4 (mem W S1) := e
  rw [e', B_X13_setKey_101, if_pos (by decide), n_addL _ 4]
  cases first with
  | true =>
    rw [if_neg (by decide), QM_twice, bP_s]
    exact ⟨S1, rfl, a1, k1⟩
  | false =>
    rw [if_pos (by rfl)]
    exact ⟨S1, rfl, a1, k1⟩
theorem QM_sk48 {kw nr : Nat} {key : List UInt8} (X : Cx G F W) (h : isM W) (hkw : kw = 4 ∨ kw = 8) (hnr : nr = kw + 6) : ∀ (m w n : Nat) (S : ST), m < n → w + m = 4 * (nr + 1) → kw ≤ w → mBX S → (S 13 0).f 44 = (Int32.ofNat nr) → mKp S kw key (4 * w) → ∃ S', B_X13_setKey_48 G F n (W.ad (.o 13 0)) (Int32.ofNat (4 * kw)) (b32 (rcF ((w - 1) / kw))) (Int32.ofNat (4 * w)) (mem W S) = some (mem W S') ∧ arF [(13, 0, 43)] S S' ∧ mKS S' (ksF kw key) nr := by
  have hkp : 0 < kw := by omega
  intro m
  induction m with
  | zero =>
    intro w n S hn hw hkw2 hbx hf hk
    obtain ⟨n, rfl⟩ : ∃ q, n = q + 1 := ⟨n - 1, by omega⟩
    rw [B_X13_setKey_48, gfI_m h.lo rfl, bO_s, hf, n_addL nr 1, show (16 : Int32) * (Int32.ofNat (nr + 1)) = (Int32.ofNat (16 * (nr + 1))) from n_mul 16 _, if_pos ((n_le (by omega) (by omega)).mpr (by omega))]
    exact ⟨S, rfl, arF.refl _ _, hf, by omega, fun t ht => hk t (by omega)⟩
  | succ m ih =>
    intro w n S hn hw hkw2 hbx hf hk
    obtain ⟨n, rfl⟩ : ∃ q, n = q + 1 := ⟨n - 1, by omega⟩
    have hw60 : w < 60 := by omega
    obtain ⟨first, hfi⟩ : ∃ first, first = decide (w % kw = 0) := ⟨_, rfl⟩
    obtain ⟨half, hha⟩ : ∃ half, half = decide (kw = 8 ∧ w % kw = 4) := ⟨_, rfl⟩
    obtain ⟨S1, g1, a1, k1⟩ := QM_sk101 (S := S) (r48 := B_X13_setKey_48 G F n) (key := key) X h hkp hkw2 hw60 hfi hha hbx hk
    have em : 4 * w % (4 * kw) = 4 * (w % kw) := by rcases hkw with rfl | rfl <;> omega
    have hml : w % kw < 8 := by have := Nat.mod_lt w hkp; omega
    have ec : (if first then tw (rcF ((w - 1) / kw)) else rcF ((w - 1) / kw)) = rcF ((w + 1 - 1) / kw) := by
      rw [Nat.add_sub_cancel]
      by_cases hz : w % kw = 0
      · rw [hfi, if_pos (by simpa using hz)]
        have ew : w / kw = (w - 1) / kw + 1 := by rcases hkw with rfl | rfl <;> omega
        rw [ew]
        rfl
      · rw [hfi, if_neg (by simpa using hz)]
        have ew : w / kw = (w - 1) / kw := by rcases hkw with rfl | rfl <;> omega
        rw [ew]
    have s74 : B_X13_setKey_74 G F (B_X13_setKey_48 G F n) (W.ad (.o 13 0)) (Int32.ofNat (4 * kw)) (b32 (rcF ((w - 1) / kw))) (Int32.ofNat (4 * w)) (if first then 1 else 0) (mem W S) = B_X13_setKey_101 G F (B_X13_setKey_48 G F n) F (W.ad (.o 13 0)) (Int32.ofNat (4 * kw)) (b32 (rcF ((w - 1) / kw))) (Int32.ofNat (4 * w)) (if first then 1 else 0) (if half then 1 else 0) 0 (mem W S) := by
      unfold B_X13_setKey_74
      by_cases h8 : kw = 8
      · rw [if_pos (show (Int32.ofNat (4 * kw)) = (32 : Int32) by rw [h8]; rfl), n_rem (by omega) (by omega) (by omega), bO_s, em]
        by_cases h4 : w % kw = 4
        · have hT : half = true := by rw [hha]; exact decide_eq_true ⟨h8, h4⟩
          rw [if_pos (show (Int32.ofNat (4 * (w % kw))) = (16 : Int32) by rw [h4]; rfl), hT]
          rfl
        · have hT : half = false := by rw [hha]; exact decide_eq_false (fun q => h4 q.2)
          rw [if_neg (show ¬ (Int32.ofNat (4 * (w % kw))) = (16 : Int32) by rw [lit 16]; exact fun q => h4 (by have := (n_eq (by omega) (by omega)).mp q; omega)), hT]
          rfl
      · have hT : half = false := by rw [hha]; exact decide_eq_false (fun q => h8 q.1)
        rw [if_neg (show ¬ (Int32.ofNat (4 * kw)) = (32 : Int32) by rw [lit 32]; exact fun q => h8 (by have := (n_eq (by omega) (by omega)).mp q; omega)), hT]
        rfl
    rw [B_X13_setKey_48, gfI_m h.lo rfl, bO_s, hf, n_addL nr 1, show (16 : Int32) * (Int32.ofNat (nr + 1)) = (Int32.ofNat (16 * (nr + 1))) from n_mul 16 _, if_neg (fun q => absurd ((n_le (by omega) (by omega)).mp q) (by omega)), n_rem (by omega) (by omega) (by omega), bO_s, em]
    have e2 : (if (Int32.ofNat (4 * (w % kw))) = 0 then B_X13_setKey_74 G F (B_X13_setKey_48 G F n) (W.ad (.o 13 0)) (Int32.ofNat (4 * kw)) (b32 (rcF ((w - 1) / kw))) (Int32.ofNat (4 * w)) 1 (mem W S) else B_X13_setKey_74 G F (B_X13_setKey_48 G F n) (W.ad (.o 13 0)) (Int32.ofNat (4 * kw)) (b32 (rcF ((w - 1) / kw))) (Int32.ofNat (4 * w)) 0 (mem W S)) = B_X13_setKey_74 G F (B_X13_setKey_48 G F n) (W.ad (.o 13 0)) (Int32.ofNat (4 * kw)) (b32 (rcF ((w - 1) / kw))) (Int32.ofNat (4 * w)) (if first then 1 else 0) (mem W S) := by
      by_cases hz : w % kw = 0
      · rw [if_pos (by rw [hz]; rfl), hfi, if_pos (by simpa using hz)]
      · rw [if_neg (by rw [z32]; exact fun q => hz (by have := (n_eq (by omega) (by omega)).mp q; omega)), hfi, if_neg (by simpa using hz)]
    rw [e2, s74, g1, ec]
    obtain ⟨S2, g2, a2, k2⟩ := ih (w + 1) n S1 (by omega) (by omega) (by omega) (mBX_ar a1 (by decide) (by decide) hbx) (by rw [(a1.2 13 0).1]; exact hf) k1
    exact ⟨S2, g2, a1.trans a2, k2⟩
theorem QM_setKey {S : ST} {k p n : Nat} {β : Nat → UInt8} (X : Cx G F W) (h : isM W) (q : (kdA 13)[k]? = some 1) (hl : mLen k < 2 ^ 30) (hn : n = 16 ∨ n = 32) (hb : p + n ≤ mLen k) (hβ : mB (S 13 0) k β) (hbx : mBX S) : ∃ o, P_X13_setKey G F (W.ad (.o 13 0)) (W.ad (.a 13 0 k)) (Int32.ofNat p) (Int32.ofNat n) (mem W S) = some (mem W (S.so 13 0 o)) ∧ agr [44] [] [43] [] (S 13 0) o ∧ mKS (S.so 13 0 o) (ksF (n / 4) (rdB β p n)) (n / 4 + 6) := by
  have hF := X.hF
  have h43 := h.hA 43 (by decide)
  have hk43 : k ≠ 43 := fun e => by rw [e] at q; exact absurd q (by decide)
  obtain ⟨kw, hkw, hn4⟩ : ∃ kw, (kw = 4 ∨ kw = 8) ∧ n = 4 * kw := ⟨n / 4, by omega, by omega⟩
  have e4 : n / 4 = kw := by omega
  unfold P_X13_setKey
  rw [e4, show (4 : Int32) = (Int32.ofNat 4) from rfl, n_div (by omega) (by omega), e4, n_addL kw 6, h.pI 44 _ rfl, bO_s]
  obtain ⟨S0, hS0⟩ : ∃ S0, S0 = S.so 13 0 ((S 13 0).sf 44 (Int32.ofNat (kw + 6))) := ⟨_, rfl⟩
  rw [← hS0]
  obtain ⟨n', S1, e, a1, k1⟩ := loopS (fun m j S => B_X13_setKey_13 G F m (W.ad (.o 13 0)) (W.ad (.a 13 0 k)) (Int32.ofNat p) (Int32.ofNat n) (Int32.ofNat j) (mem W S)) (fun j S' => arF [(13, 0, 43)] S0 S' ∧ mKp S' kw (rdB β p n) j) n (by
    intro n1 j S1 hj hI
    obtain ⟨i1, i2⟩ := hI
    have hβ1 : mB (S1 13 0) k β := by
      unfold mB
      rw [i1.1 13 0 k (by simpa using hk43), hS0, so_eq]
      exact hβ
    show ∃ S', B_X13_setKey_13 G F (n1 + 1) _ _ _ _ _ _ = _ ∧ _
    rw [B_X13_setKey_13, if_neg (fun q => absurd ((n_le (by omega) (by omega)).mp q) (by omega)), h43.g h.lo rfl, bO_s, n_add, h.aB q hβ1 (by omega) (by omega), bO_s, sb_and, h43.sa rfl (show j < 240 by omega), bO_s, n_addL j 1]
    refine ⟨_, rfl, i1.trans (arF_sa (by simp)), fun t ht => ?_⟩
    rw [sa_eq]
    by_cases et : t = j
    · rw [et, upd_eq, ksF_lt (by omega), List.getD_eq_getElem?_getD, rdB_at hj]
      rfl
    · rw [upd_ne et]
      exact i2 t (by omega)) n 0 F S0 (by omega) (by omega) ⟨arF.refl _ _, fun t ht => absurd ht (Nat.not_lt_zero _)⟩
  have e' : B_X13_setKey_13 G F F (W.ad (.o 13 0)) (W.ad (.a 13 0 k)) (Int32.ofNat p) (Int32.ofNat n) 0 (mem W S0) = B_X13_setKey_13 G F (n' + 1) (W.ad (.o 13 0)) (W.ad (.a 13 0 k)) (Int32.ofNat p) (Int32.ofNat n) (Int32.ofNat n) (mem W S1) := e
  have hb0 : mBX S0 := by
    rw [hS0]
    refine ⟨fun x => ?_, fun x => ?_⟩
    · rw [so_eq]; exact hbx.1 x
    · rw [so_eq]; exact hbx.2 x
  rw [e', B_X13_setKey_13, if_pos ((n_le (by omega) (by omega)).mpr (by omega))]
  obtain ⟨S2, g2, a2, k2⟩ := QM_sk48 (key := rdB β p n) (kw := kw) (nr := kw + 6) X h hkw rfl (4 * (kw + 6 + 1) - kw) kw F S1 (by omega) (by omega) (by omega) (mBX_ar a1 (by decide) (by decide) hb0) (by rw [(a1.2 13 0).1, hS0, so_eq]; rfl) (by rw [← hn4]; exact k1)
  have ec : b32 (rcF ((kw - 1) / kw)) = 1 := by rcases hkw with rfl | rfl <;> rfl
  rw [ec, ← hn4] at g2
  have a3 := a1.trans a2
  have eS : S2 = S.so 13 0 (S2 13 0) := by
    funext c' i'
    by_cases q : c' = 13 ∧ i' = 0
    · rw [q.1, q.2, so_eq]
    · rw [so_ne q, a3.ob (c := c') (i := i') (by intro k hk; simp at hk; exact q ⟨hk.1, hk.2.1⟩), hS0, so_ne q]
  refine ⟨S2 13 0, by rw [g2, ← eS], ?_, by rw [← eS]; exact k2⟩
  obtain ⟨x1, x2, x3, x4⟩ := a3.2 13 0
  rw [hS0, so_eq] at x1 x2 x3 x4
  refine ⟨fun k hk => by rw [x1, sf_f, if_neg (by simpa using hk)], fun k _ => by rw [x2]; rfl, fun k hk => ?_, fun k _ => by rw [x3]; rfl, by rw [x4]; rfl⟩
  rw [a3.1 13 0 k (by simpa using hk), hS0, so_eq]
  rfl
end MKEYS
