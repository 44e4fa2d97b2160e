/-! CALL key: the model -/
theorem rd_pos {s : List UInt8} {J : JT} (e : rdT s = .inr J) : 0 < J.1 := by
  unfold rdT at e
  have w0 : JW s (skb s 0) (0, (fun _ _ => 0), []) := ⟨Nat.zero_le _, skb_len (Nat.zero_le _), Nat.zero_le _, fun i hi => absurd hi (Nat.not_lt_zero _)⟩
  cases hv : rv s 45 (skb s 0) (0, (fun _ _ => 0), []) 0 0 0 0 with
  | inl z =>
    rw [hv] at e
    have e : (Sum.inl z : Nat ⊕ JT) = .inr J := e
    exact absurd e (by simp)
  | inr z =>
    rw [hv] at e
    obtain ⟨k1, k2, k3, k4⟩ := rv_ok w0 (Nat.le_refl _) (Nat.le_refl _) hv
    have e : (if skb s z.1 < s.length then Sum.inl (skb s z.1) else Sum.inr z.2 : Nat ⊕ JT) = .inr J := e
    split at e
    · exact absurd e (by simp)
    · rw [← Sum.inr.inj e]
      exact Nat.lt_of_le_of_lt (Nat.zero_le _) k4
section MKEY
variable {W : WR} {G : mG} {F : Nat} {S : ST} {A : Nat → Option KY}
theorem QM_key {r bk : Nat} {rows : Nat → List UInt8} (X : Cx G F W) (h : isM W) (hmm : isMm W) (mk : MK S) (h79 : ∃ β, mB (S 13 0) 79 β) (h62 : ∃ β, mB (S 13 0) 62 β) (h17 : (S 13 0).f 17 = (Int32.ofNat bk)) (hbk : bk ≤ 1) (hr : r < 8) (hR : mRows (S 13 0) rows) (h15 : ∃ β, mB (S 13 0) 15 β) (h96 : ∃ β, mB (S 13 0) 96 β) (h97 : ∃ β, mB (S 13 0) 97 β) (h98 : ∃ β, mB (S 13 0) 98 β) (K : KM (S 13 0) A) : ∃ S', P_X13_key G F (W.ad (.o 13 0)) (Int32.ofNat r) (mem W S) = some ((keyW A (rows r)).1, mem (W.sr 13 0 19 (.a 13 0 2)) S') ∧ fr [(12, 0), (12, 1), (13, 0)] S S' ∧ agr [20, 21, 22, 23, 24, 25, 26, 29, 99, 100, 101, 73] [] ([6, 7, 8, 9, 10, 11, 12, 13, 14, 15, 16, 96, 97, 98] ++ keL) [] (S 13 0) (S' 13 0) ∧ kpT (1 - bk) (S 13 0) (S' 13 0) ∧ KM (S' 13 0) (keyW A (rows r)).2 ∧ MK S' ∧ (∃ β, mB (S' 13 0) 79 β) ∧ (∃ β, mB (S' 13 0) 62 β) ∧ (∃ β, mB (S' 13 0) 15 β) ∧ (∃ β, mB (S' 13 0) 96 β) ∧ (∃ β, mB (S' 13 0) 97 β) ∧ ∃ β, mB (S' 13 0) 98 β := by
  obtain ⟨α, r1, r2⟩ := hR
  obtain ⟨r3, r4, r5⟩ := r2 r hr
  obtain ⟨β15, h15⟩ := h15
  obtain ⟨t0, t1, t2, t3, t4, t5, t6, t7, t8⟩ := st_84
  obtain ⟨o1, g, a, kp, b15, q⟩ := QM_read (G := G) (F := F) (ks := 2) (p0 := 8192 * r) (s := rows r) (bk := 1 - bk) X h rfl (by decide) (by decide) (by omega) r4 r1 r5 (by show _ ≤ 65536; omega) h15
  have e1 : (1 : Int32) - (Int32.ofNat bk) = (Int32.ofNat (1 - bk)) := n_sub (a := 1) hbk
  have e8 : (8192 : Int32) * (Int32.ofNat r) = (Int32.ofNat (8192 * r)) := n_mul 8192 r
  obtain ⟨W1, hW1⟩ : ∃ W1, W1 = W.sr 13 0 19 (.a 13 0 2) := ⟨_, rfl⟩
  have y : WY W W1 := by rw [hW1]; exact WY.sr (Or.inr (Or.inr ⟨rfl, rfl⟩))
  have ad : W1.ad = W.ad := by rw [hW1]; rfl
  rw [← hW1] at g ⊢
  have X1 := y.cx X
  have h1 := y.m h
  have hmm1 := y.mm h.lo hmm
  have hp1 : isMp W1 := ⟨hmm1.2.1, hmm1.2.2.2.2.1, h1⟩
  have hn1 : isMn W1 := ⟨hmm1.2.2.1, hmm1.2.2.2.2.2⟩
  have ar : agr [20, 21, 22, 23, 24, 25, 26] [] [6, 7, 8, 9, 10, 11, 12, 13, 14, 15, 16] [] (S 13 0) o1 := a
  have mk1 : MK (S.so 13 0 o1) := by
    have m0 : MK (S.so 13 0 (S 13 0)) := by rw [so_self]; exact mk
    exact m0.ag ar (by decide) rfl
  have K1 : KM o1 A := K.agr ar (by decide)
  have cp : ∀ {k : Nat}, (∃ β, mB (S 13 0) k β) → k ∉ [6, 7, 8, 9, 10, 11, 12, 13, 14, 15, 16] → ∃ β, mB o1 k β := fun {k} q hk => by
    obtain ⟨β, q⟩ := q
    exact ⟨β, ar.mB q hk⟩
  have f1 : fr [(12, 0), (12, 1), (13, 0)] S (S.so 13 0 o1) := fr_so (by simp)
  -- an end from an object that differs from o1 in what a key touches
  have fin : ∀ (S' : ST) (v : Int32) (A' : Nat → Option KY) (P : Option (Int32 × mM)), P = some (v, mem W1 S') → keyW A (rows r) = (v, A') → fr [(12, 0), (12, 1), (13, 0)] (S.so 13 0 o1) S' → agr [29, 99, 100, 101, 73] [] ([96, 97, 98] ++ keL) [] o1 (S' 13 0) → KM (S' 13 0) A' → MK S' → (∃ β, mB (S' 13 0) 79 β) → (∃ β, mB (S' 13 0) 62 β) → (∃ β, mB (S' 13 0) 96 β) → (∃ β, mB (S' 13 0) 97 β) → (∃ β, mB (S' 13 0) 98 β) → ∃ S', P = some ((keyW A (rows r)).1, mem W1 S') ∧ fr [(12, 0), (12, 1), (13, 0)] S S' ∧ agr [20, 21, 22, 23, 24, 25, 26, 29, 99, 100, 101, 73] [] ([6, 7, 8, 9, 10, 11, 12, 13, 14, 15, 16, 96, 97, 98] ++ keL) [] (S 13 0) (S' 13 0) ∧ kpT (1 - bk) (S 13 0) (S' 13 0) ∧ KM (S' 13 0) (keyW A (rows r)).2 ∧ MK S' ∧ (∃ β, mB (S' 13 0) 79 β) ∧ (∃ β, mB (S' 13 0) 62 β) ∧ (∃ β, mB (S' 13 0) 15 β) ∧ (∃ β, mB (S' 13 0) 96 β) ∧ (∃ β, mB (S' 13 0) 97 β) ∧ ∃ β, mB (S' 13 0) 98 β := by
    intro S' v A' P hP hW f' a' K' m' c79 c62 c96 c97 c98
    refine ⟨S', by rw [hW]; exact hP, f1.trans f', (ar.mono (by simp) (by simp) (by simp) (by simp)).trans (a'.mono (by simp) (by simp) (by simp [keL]) (by simp)), fun bk' J' q1 q2 q3 q4 => (kp bk' J' q1 q2 q3 q4).agr a' (by decide), by rw [hW]; exact K', m', c79, c62, ?_, c96, c97, c98⟩
    obtain ⟨β, b⟩ := b15
    exact ⟨β, a'.mB b (by decide)⟩
  have stay : ∀ (v : Int32) (P : Option (Int32 × mM)), P = some (v, mem W1 (S.so 13 0 o1)) → keyW A (rows r) = (v, A) → _ := fun v P hP hW => fin (S.so 13 0 o1) v A P hP hW (fr.refl _ _) (by rw [so_eq]; exact agr.refl _ _ _ _ _) (by rw [so_eq]; exact K1) mk1 (by rw [so_eq]; exact cp h79 (by decide)) (by rw [so_eq]; exact cp h62 (by decide)) (by rw [so_eq]; exact cp h96 (by decide)) (by rw [so_eq]; exact cp h97 (by decide)) (by rw [so_eq]; exact cp h98 (by decide))
  unfold P_X13_key
  rw [Q13_isRow, bP_s, isr_i hr, if_pos rfl, if_neg (by decide), h.gI 17 rfl, bO_s, h17, e1, h.gR 2 rfl (by decide), bO_s, h.gR 3 rfl (by decide), bO_s, h.aN rfl (show r < 8 from hr) (by decide), bO_s, r3, rcv_m h.lo, bO_s, e8, g, bP_s]
  cases e : rdT (rows r) with
  | inl p =>
    refine stay (-11) _ ?_ (by unfold keyW; simp only [e])
    rw [if_pos (by rfl)]
  | inr J =>
    rw [e] at q
    obtain ⟨M1, Y⟩ := q
    have hks := keyW_s (A := A) e
    have h0 : 0 < J.1 := rd_pos e
    have hb' : 1 - bk ≤ 1 := by omega
    obtain ⟨m1, m2, _⟩ := id M1
    have k0 := (m2 0 (Nat.le_refl _) h0).1
    have y1 := (Y.2.2 0 h0).1
    have e600 : (600 : Int32) * (Int32.ofNat (1 - bk)) = (Int32.ofNat (600 * (1 - bk))) := n_mul 600 (1 - bk)
    have v0 : aI G (mem W1 (S.so 13 0 o1)) 0 (W1.ad (.a 13 0 6)) (Int32.ofNat (600 * (1 - bk))) = some (Int32.ofNat (J.2.1 1 0)) := by
      rw [mva h1 6 _ (by omega), so_eq]
      exact congrArg some k0
    rw [← ad]
    rw [if_neg (show ¬ (1 : Int32) = 0 by decide), mvr h1 6, bO_s, e600, v0, bO_s]
    have x6 : (Int32.ofNat (J.2.1 1 0)) = (6 : Int32) ↔ J.2.1 1 0 = 6 := n_eq (b := 6) (by omega) (by omega)
    have k6 : kB J (some 0) 6 = true ↔ J.2.1 1 0 = 6 := by
      show (decide (0 < J.1) && decide (J.2.1 1 0 = 6)) = true ↔ _
      rw [decide_eq_true h0, Bool.true_and, decide_eq_true_iff]
    by_cases c6 : J.2.1 1 0 = 6
    · rw [if_pos (k6.mpr c6)] at hks
      rw [if_pos (x6.mpr c6), rcv_m h1.lo, bO_s, oM_mem0 X1 h1 M1 hb' Y h0 (by decide) t0, bP_s]
      have says : ∀ {ja jc : Nat}, ja < 124 → str ja = str jc → P_X13_says G F (W1.ad (.o 13 0)) (Int32.ofNat (1 - bk)) (oI (fd J 16)) (G.1 ja) (mem W1 (S.so 13 0 o1)) = some (if sayB J (fd J 16) (str jc) = true then 1 else 0, mem W1 (S.so 13 0 o1)) := fun {ja jc} hj hs => oM_say0 X1 h1 M1 hb' Y hj hs (fun i hi => fN_lt hi)
      -- a kind is told
      have kind : ∀ kd, kyKind J = some kd → ∃ S', B_X13_key_120 G F (W1.ad (.o 13 0)) (Int32.ofNat (1 - bk)) (Int32.ofNat kd) (mem W1 (S.so 13 0 o1)) = some ((keyW A (rows r)).1, mem W1 S') ∧ fr [(12, 0), (12, 1), (13, 0)] S S' ∧ agr [20, 21, 22, 23, 24, 25, 26, 29, 99, 100, 101, 73] [] ([6, 7, 8, 9, 10, 11, 12, 13, 14, 15, 16, 96, 97, 98] ++ keL) [] (S 13 0) (S' 13 0) ∧ kpT (1 - bk) (S 13 0) (S' 13 0) ∧ KM (S' 13 0) (keyW A (rows r)).2 ∧ MK S' ∧ (∃ β, mB (S' 13 0) 79 β) ∧ (∃ β, mB (S' 13 0) 62 β) ∧ (∃ β, mB (S' 13 0) 15 β) ∧ (∃ β, mB (S' 13 0) 96 β) ∧ (∃ β, mB (S' 13 0) 97 β) ∧ ∃ β, mB (S' 13 0) 98 β := by
        intro kd ek
        have hkd := kyKind_le ek
        simp only [ek] at hks
        obtain ⟨o2, a2, M2, c96, c97, c98, H2, q2⟩ := oM_120 (G := G) (F := F) (S := S) (kd := kd) X1 h1 M1 hb' Y h0 hkd (cp h96 (by decide)) (cp h97 (by decide)) (cp h98 (by decide))
        have a2' : agr [29, 99, 100, 101, 73] [] ([96, 97, 98] ++ keL) [] o1 o2 := a2.mono (by simp) (by simp) (by simp [kyAr]) (by simp)
        have mk2 : MK (S.so 13 0 o2) := mk1.ag a2 (by decide) rfl
        have K2 : KM o2 A := K1.agr a2 (by decide)
        have c79 : ∃ β, mB o2 79 β := by obtain ⟨β, q⟩ := cp h79 (by decide); exact ⟨β, a2.mB q (by decide)⟩
        have c62 : ∃ β, mB o2 62 β := by obtain ⟨β, q⟩ := cp h62 (by decide); exact ⟨β, a2.mB q (by decide)⟩
        have f2 : fr [(12, 0), (12, 1), (13, 0)] (S.so 13 0 o1) (S.so 13 0 o2) := fun c i hn => by
          rw [so_ne (fun q => hn (by rw [q.1, q.2]; simp)), so_ne (fun q => hn (by rw [q.1, q.2]; simp))]
        rw [q2]
        by_cases co : okN J 20 = true ∧ okN J 21 = true ∧ okN J 22 = true
        · rw [if_pos co] at hks ⊢
          by_cases cl : kyL J kd = true
          · rw [if_pos cl] at hks ⊢
            have hV : ∀ k, bstN J kd = some k → KyV (kyA J kd k) := by
              intro k hk
              unfold bstN at hk
              split at hk
              · rename_i k' en
                split at hk
                · rename_i cb
                  have := Option.some.inj hk
                  subst this
                  refine ⟨rows r, J, kd, k', r4, e, ?_, cb, rfl⟩
                  unfold kyR
                  rw [if_pos (k6.mpr c6)]
                  simp only [ek]
                  rw [if_pos co, if_pos cl]
                  simp only [en]
                · exact absurd hk (by simp)
              · exact absurd hk (by simp)
            obtain ⟨S3, g3, f3, a3, K3, mk3, d79, d62⟩ := QM_key390 (G := G) (F := F) (W := W1) (S := S.so 13 0 o2) (bk := 1 - bk) (A := A) X1 h1 hmm1 hp1 hn1 mk2 (by rw [so_eq]; exact c79) (by rw [so_eq]; exact c62) (by rw [so_eq]; exact M2) hb' Y h0 hkd cl co.2.2 hV (by rw [so_eq]; exact H2 co) (by rw [so_eq]; exact K2)
            rw [so_eq] at a3
            have ea : keyW A (rows r) = ansB A J kd := hks
            have c3 : ∀ {k : Nat}, (∃ β, mB o2 k β) → k ∉ keL → ∃ β, mB (S3 13 0) k β := fun {k} q hk => by
              obtain ⟨β, q⟩ := q
              exact ⟨β, a3.mB q hk⟩
            exact fin S3 (ansB A J kd).1 (ansB A J kd).2 _ g3 ea (f2.trans f3) (a2'.trans (a3.mono (by simp) (by simp) (by simp) (by simp))) K3 mk3 d79 d62 (c3 c96 (by decide)) (c3 c97 (by decide)) (c3 c98 (by decide))
          · rw [if_neg cl] at hks ⊢
            refine fin (S.so 13 0 o2) (-15) A _ ?_ hks f2 (by rw [so_eq]; exact a2') (by rw [so_eq]; exact K2) mk2 (by rw [so_eq]; exact c79) (by rw [so_eq]; exact c62) (by rw [so_eq]; exact c96) (by rw [so_eq]; exact c97) (by rw [so_eq]; exact c98)
            unfold B_X13_key_390
            rw [if_pos rfl]
        · rw [if_neg co] at hks ⊢
          exact fin (S.so 13 0 o2) (-14) A _ rfl hks f2 (by rw [so_eq]; exact a2') (by rw [so_eq]; exact K2) mk2 (by rw [so_eq]; exact c79) (by rw [so_eq]; exact c62) (by rw [so_eq]; exact c96) (by rw [so_eq]; exact c97) (by rw [so_eq]; exact c98)
      rw [rcv_m h1.lo, bO_s, says (by decide) t1, bP_s]
      by_cases c17 : sayB J (fd J 16) (str 17) = true
      · rw [if_pos c17, if_neg (by decide)]
        exact kind 0 (if_pos c17)
      rw [if_neg c17, if_pos rfl, rcv_m h1.lo, bO_s, says (by decide) t2, bP_s]
      by_cases c18 : sayB J (fd J 16) (str 18) = true
      · rw [if_pos c18, if_neg (by decide)]
        exact kind 1 ((if_neg c17).trans (if_pos c18))
      rw [if_neg c18, if_pos rfl, rcv_m h1.lo, bO_s, says (by decide) t3, bP_s]
      by_cases c19 : sayB J (fd J 16) (str 19) = true
      · rw [if_pos c19, if_neg (by decide)]
        exact kind 2 (((if_neg c17).trans (if_neg c18)).trans (if_pos c19))
      rw [if_neg c19, if_pos rfl]
      have ek : kyKind J = none := ((if_neg c17).trans (if_neg c18)).trans (if_neg c19)
      simp only [ek] at hks
      refine stay (-13) _ ?_ hks
      unfold B_X13_key_120
      rw [if_neg (show ¬ (0 : Int32) ≤ -1 by decide)]
    · rw [if_neg (fun q => c6 (k6.mp q))] at hks
      rw [if_neg (fun q => c6 (x6.mp q))]
      exact stay (-12) _ rfl hks
end MKEY
