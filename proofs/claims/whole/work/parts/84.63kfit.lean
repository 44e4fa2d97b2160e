/-! A HEAD THAT TELLS ONLY AN ALG AND A KEY'S KID FITS -/
def kidP (K : KY) : List UInt8 := match K.2.2.2.2 with
  | none => []
  | some d => str 53 ++ strP d
/-- the head that is made for a signed token -/
def sgnP (a : Nat) (K : KY) : List UInt8 := str 52 ++ (str (33 + a) ++ ([34] ++ (kidP K ++ [125])))
theorem sN_four {f : Nat → Nat} {n a b c d : Nat} (ha : a < n) (hb : b < n) (hc : c < n) (hd : d < n) (ab : b ≠ a) (ac : c ≠ a) (ad : d ≠ a) (bc : c ≠ b) (bd : d ≠ b) (cd_ : d ≠ c) : f a + f b + f c + f d ≤ sN f n := by
  rw [sN_pick ha, sN_pick (f := fun i => if i = a then 0 else f i) hb, sN_pick (f := fun i => if i = b then 0 else if i = a then 0 else f i) hc, sN_pick (f := fun i => if i = c then 0 else if i = b then 0 else if i = a then 0 else f i) hd]
  rw [if_neg ab, if_neg bc, if_neg ac, if_neg cd_, if_neg bd, if_neg ad]
  omega
theorem rd_W {s : List UInt8} {J : JT} (h : rdT s = .inr J) : ∃ p, JW s p J := by
  unfold rdT at h
  have w0 : JW s (skb s 0) (0, (fun _ _ => 0), []) := ⟨Nat.zero_le _, skb_len (Nat.zero_le _), Nat.zero_le _, fun i hi => absurd hi (Nat.not_lt_zero _)⟩
  cases hr : rv s 45 (skb s 0) (0, (fun _ _ => 0), []) 0 0 0 0 with
  | inl q => rw [hr] at h; exact absurd h (by simp [sB])
  | inr z =>
    obtain ⟨q, J2⟩ := z
    rw [hr] at h
    have h : (if skb s q < s.length then Sum.inl (skb s q) else Sum.inr J2 : Nat ⊕ JT) = .inr J := h
    split at h
    · exact absurd h (by simp)
    · rw [← Sum.inr.inj h]
      exact ⟨q, (rv_ok w0 (Nat.le_refl _) (Nat.le_refl _) hr).2.1⟩
theorem rd_X {s : List UInt8} {J : JT} (hl : s.length ≤ 8192) (h : rdT s = .inr J) : JX J := by
  obtain ⟨p, w⟩ := rd_W h
  exact w.x hl
theorem rd_pl {s : List UInt8} {J : JT} (h : rdT s = .inr J) : J.2.2.length ≤ s.length := by
  obtain ⟨p, w⟩ := rd_W h
  exact Nat.le_trans w.1 w.2.1
section KFT
variable {J : JT}
/-- a member of the root by its name -/
theorem fd_at {j i : Nat} (h : fd J j = some i) : kB J (some 0) 6 = true ∧ 0 < i ∧ i < J.1 ∧ J.2.1 2 i = 1 ∧ J.2.1 9 i = (str j).length ∧ seg J.2.2 (J.2.1 8 i) (str j).length = str j := by
  have h : (if kB J (some 0) 6 = true then fnF (mName J 0 (str j)) (J.1 - (0 + 1)) (0 + 1) else none) = some i := h
  split at h
  · rename_i k
    obtain ⟨q1, q2, q3⟩ := fnF_some h
    unfold mName at q3
    rw [Bool.and_eq_true, Bool.and_eq_true, decide_eq_true_iff, decide_eq_true_iff, decide_eq_true_iff] at q3
    exact ⟨k, by omega, by omega, q3.1, q3.2.1, q3.2.2⟩
  · exact absurd h (by simp)
theorem fd_ne {j j' i i' : Nat} (h : fd J j = some i) (h' : fd J j' = some i') (hs : str j ≠ str j') : i ≠ i' := by
  intro e
  subst e
  obtain ⟨_, _, _, _, a1, a2⟩ := fd_at h
  obtain ⟨_, _, _, _, b1, b2⟩ := fd_at h'
  rw [← a1] at a2
  rw [← b1] at b2
  exact hs (a2.symm.trans b2)
theorem wN_fd {j i : Nat} (h : fd J j = some i) : wN J i = (strP (str j)).length + 1 := by
  obtain ⟨k, _, _, a1, a2, a3⟩ := fd_at h
  have k6 := (kB_lt k rfl).2
  have m : mbB J.2.1 i = true := by
    unfold mbB
    rw [a1]
    show (decide ((1 : Nat) ≠ 0) && decide (J.2.1 1 0 = 6)) = true
    rw [k6]
    rfl
  unfold wN
  rw [if_pos m, a2, a3]
theorem wA_str {i : Nat} (k : kB J (some i) 4 = true) : wA J i = (strP (seg J.2.2 (J.2.1 6 i) (J.2.1 7 i))).length := if_pos (kB_lt k rfl).2
theorem kB_of_lt {o : Option Nat} (h : (ltB J o).isSome = true) : ∃ i, o = some i ∧ kB J (some i) 4 = true := by
  cases o with
  | none => exact absurd h (by simp [ltB])
  | some i =>
    refine ⟨i, rfl, ?_⟩
    have h : (if kB J (some i) 4 = true ∧ fltF (seg J.2.2 (J.2.1 6 i) (J.2.1 7 i)) = none then some (dec (seg J.2.2 (J.2.1 6 i) (J.2.1 7 i))) else none).isSome = true := h
    split at h
    · rename_i q
      exact q.1
    · exact absurd h (by simp)
theorem strP_two (ys : List UInt8) : 2 ≤ (strP ys).length := by
  unfold strP
  rw [List.length_cons, List.length_append]
  show 2 ≤ (ys.flatMap escF).length + 1 + 1
  omega
theorem kid_fit {K : KY} {a : Nat} (V : KyV K) (ha : a < 5) : (sgnP a K).length ≤ 8192 := by
  obtain ⟨s, J, kd, k, hl, hr, hk, _, rfl⟩ := V
  have sw := rd_w hr
  have Y : JX J := rd_X hl hr
  have lg : ∀ a, a < 5 → (str 52).length = 8 ∧ (str (33 + a)).length = 5 ∧ (str 53).length = 7 := by decide +kernel
  obtain ⟨l1, l2, l3⟩ := lg a ha
  have ln : (sgnP a (kyA J kd k)).length = 8 + (5 + (1 + ((kidP (kyA J kd k)).length + 1))) := by
    unfold sgnP
    rw [List.length_append, List.length_append, List.length_append, List.length_append, l1, l2]
    rfl
  rw [ln]
  have kp : kidP (kyA J kd k) = match kiB J with | none => [] | some d => str 53 ++ strP d := rfl
  rw [kp]
  unfold kiB
  cases e20 : fd J 20 with
  | none => exact (by decide : 8 + (5 + (1 + (0 + 1))) ≤ 8192)
  | some i =>
    show 8 + (5 + (1 + ((str 53 ++ strP (seg J.2.2 (J.2.1 6 i) (J.2.1 7 i))).length + 1))) ≤ 8192
    rw [List.length_append, l3]
    unfold kyR at hk
    split at hk
    · rename_i r6
      cases ek : kyKind J with
      | none => rw [ek] at hk; exact absurd hk (by simp)
      | some kd' =>
        rw [ek] at hk
        have hk : (if okN J 20 = true ∧ okN J 21 = true ∧ okN J 22 = true then (if kyL J kd' = true then (match kyN J kd' with | none => .inl 6 | some k => .inr (kd', k)) else .inl 5) else .inl 4 : Nat ⊕ (Nat × Ky3)) = .inr (kd, k) := hk
        split at hk
        · rename_i ok
          split at hk
          · rename_i kl
            have kd2 := kyKind_le ek
            -- the kty
            obtain ⟨b, hb, kb, lb⟩ : ∃ b, fd J 16 = some b ∧ kB J (some b) 4 = true ∧ 4 ≤ (strP (seg J.2.2 (J.2.1 6 b) (J.2.1 7 b))).length := by
              have says : ∀ j, sayB J (fd J 16) (str j) = true → 4 ≤ (strP (str j)).length → ∃ b, fd J 16 = some b ∧ kB J (some b) 4 = true ∧ 4 ≤ (strP (seg J.2.2 (J.2.1 6 b) (J.2.1 7 b))).length := by
                intro j hs h4
                cases e16 : fd J 16 with
                | none => rw [e16] at hs; exact absurd hs (by simp [sayB])
                | some b =>
                  rw [e16] at hs
                  have kb : kB J (some b) 4 = true := by
                    have hs : (kB J (some b) 4 && decide (J.2.1 7 b = (str j).length ∧ seg J.2.2 (J.2.1 6 b) (str j).length = str j)) = true := hs
                    rw [Bool.and_eq_true] at hs
                    exact hs.1
                  have sg := (sy_seg Y kb).mp hs
                  exact ⟨b, rfl, kb, by rw [sg]; exact h4⟩
              unfold kyKind at ek
              split at ek
              · rename_i q
                exact says 17 q (by decide +kernel)
              · split at ek
                · rename_i q
                  exact says 18 q (by decide +kernel)
                · split at ek
                  · rename_i q
                    exact says 19 q (by decide +kernel)
                  · exact absurd ek (by simp)
            -- the third
            obtain ⟨j, c, hj, hc, kc⟩ : ∃ j c, j ∈ [24, 25, 29] ∧ fd J j = some c ∧ kB J (some c) 4 = true := by
              unfold kyL at kl
              by_cases z0 : kd' = 0
              · rw [if_pos z0] at kl
                obtain ⟨c, h1, h2⟩ := kB_of_lt kl
                exact ⟨24, c, by simp, h1, h2⟩
              · rw [if_neg z0, Bool.and_eq_true] at kl
                by_cases z1 : kd' = 1
                · rw [if_pos z1, Bool.and_eq_true] at kl
                  obtain ⟨c, h1, h2⟩ := kB_of_lt kl.1.1
                  exact ⟨25, c, by simp, h1, h2⟩
                · rw [if_neg z1] at kl
                  have kl := kl.1
                  unfold ptL at kl
                  rw [Bool.and_eq_true, Bool.and_eq_true] at kl
                  obtain ⟨c, h1, h2⟩ := kB_of_lt kl.2.1
                  exact ⟨29, c, by simp, h1, h2⟩
            have ki : kB J (some i) 4 = true := by
              have q := ok.1
              unfold okN at q
              rw [e20, decide_eq_false (show ¬ (some i = none) by simp), Bool.false_or] at q
              exact q
            have st : ∀ j ∈ [24, 25, 29], str 16 ≠ str j ∧ str 20 ≠ str j ∧ 3 ≤ (strP (str j)).length := by decide +kernel
            have st2 : str 20 ≠ str 16 ∧ (strP (str 16)).length = 5 ∧ (strP (str 20)).length = 5 := by decide +kernel
            obtain ⟨s1, s2, s3⟩ := st j hj
            have n1 := fd_ne e20 hb st2.1
            have n2 := fd_ne e20 hc s2
            have n3 := fd_ne hb hc s1
            obtain ⟨_, i0, il, _⟩ := fd_at e20
            obtain ⟨_, b0, bl, _⟩ := fd_at hb
            obtain ⟨_, c0, cl, _⟩ := fd_at hc
            have four := sN_four (f := fun q => wA J q + wN J q) (n := J.1) (a := 0) (b := i) (c := b) (d := c) (by omega) il bl cl (by omega) (by omega) (by omega) (fun q => n1 q.symm) (fun q => n2 q.symm) (fun q => n3 q.symm)
            have w0 : 1 ≤ wA J 0 := by
              unfold wA
              rw [(kB_lt r6 rfl).2, if_neg (by decide), if_pos (by decide)]
              exact Nat.le_refl _
            have wi := wA_str ki
            have wb := wA_str kb
            have wc := wA_str kc
            have xi := wN_fd e20
            have xb := wN_fd hb
            have xc := wN_fd hc
            have c2 := strP_two (seg J.2.2 (J.2.1 6 c) (J.2.1 7 c))
            have four : wA J 0 + wN J 0 + (wA J i + wN J i) + (wA J b + wN J b) + (wA J c + wN J c) ≤ sW J := four
            omega
          · exact absurd hk (by simp)
        · exact absurd hk (by simp)
    · exact absurd hk (by simp)
end KFT
