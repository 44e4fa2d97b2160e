/-! CALL decrypt: the model's keys in turn -/
theorem kcF_long {a w : Nat} {K : KY} {sk pt u v : List UInt8} (h : 128 < sk.length) (hn : K.2.1.1.length ≤ 128) : kcF a w K sk pt u v = none := by
  have ne : ¬ sk = [] := fun q => by rw [q] at h; exact absurd h (by decide)
  have uw : ∀ key, uwO key sk = none := fun key => by
    unfold uwO
    rw [if_neg (fun q => by
      have := (of_decide_eq_true q.2 : _ ∧ _ ∧ _).2.1
      omega)]
  unfold kcF
  by_cases c0 : a = 0
  · rw [if_pos c0, if_neg ne]
  rw [if_neg c0]
  by_cases c3 : a = 3
  · rw [if_pos c3]
    unfold oaO
    rw [if_neg (fun q => by
      have := (of_decide_eq_true q.1 : _ ∧ _).1
      omega)]
  rw [if_neg c3]
  by_cases c4 : a = 4
  · rw [if_pos c4, if_neg ne]
  rw [if_neg c4]
  by_cases c5 : a = 5
  · rw [if_pos c5, uw]
  · rw [if_neg c5, uw]
theorem opM {a w : Nat} {K : KY} {wh : Bool} {sk pt u v iv al c mk : List UInt8} (hn : K.2.1.1.length ≤ 128) (hwh : wh = (decide (sk.length ≤ 128) && (decide (iv.length = ivOf w) && decide (mk.length = wayM w)))) : opO a w K wh sk pt u v iv al (c ++ mk) = if iv.length = ivOf w ∧ mk.length = wayM w then (match kcW a w K sk pt u v with | none => none | some ck => openC w ck iv al c mk) else none := by
  by_cases c1 : iv.length = ivOf w ∧ mk.length = wayM w
  · rw [if_pos c1]
    rw [decide_eq_true c1.1, decide_eq_true c1.2, Bool.and_true, Bool.and_true] at hwh
    unfold opO kcW
    by_cases c2 : sk.length ≤ 128
    · rw [decide_eq_true c2] at hwh
      rw [hwh, if_pos rfl]
      cases kcF a w K sk pt u v with
      | none => rfl
      | some ck =>
        show (if ck.length = wayK w then openF w ck iv al (c ++ mk) else none) = (match (if ck.length = wayK w then some ck else none) with | none => none | some ck => openC w ck iv al c mk)
        by_cases c3 : ck.length = wayK w
        · rw [if_pos c3, if_pos c3]
          show openF w ck iv al (c ++ mk) = openC w ck iv al c mk
          unfold openF
          have e1 : (c ++ mk).length - wayM w = c.length := by rw [List.length_append]; omega
          rw [if_neg (by rw [List.length_append]; omega), e1, List.take_left' rfl, List.drop_left' rfl]
        · rw [if_neg c3, if_neg c3]
    · rw [decide_eq_false c2] at hwh
      rw [hwh, if_neg (by decide), kcF_long (by omega) hn]
  · rw [if_neg c1]
    have : wh = false := by
      rw [hwh]
      by_cases d1 : iv.length = ivOf w
      · rw [decide_eq_false (fun q => c1 ⟨d1, q⟩), Bool.and_false, Bool.and_false]
      · rw [decide_eq_false d1, Bool.false_and, Bool.and_false]
    unfold opO
    rw [this, if_neg (by decide)]
theorem openC_len {w : Nat} {key iv al c mk v : List UInt8} (h : openC w key iv al c mk = some v) : v.length ≤ c.length := by
  unfold openC at h
  split at h
  · split at h
    · rw [← Option.some.inj h, ctrF_len]
      exact Nat.le_refl _
    · exact absurd h (by simp)
  · split at h
    · exact absurd h (by simp)
    · split at h
      · have := unpadF_len h
        rw [ucbc_len] at this
        omega
      · exact absurd h (by simp)
abbrev deA : List Nat := [31, 32, 35, 36, 38, 40, 43, 45, 46, 47, 48, 49, 51, 52, 60, 61, 62, 67, 68, 69, 70, 71, 72, 74, 75, 76, 77, 78, 80, 82, 125, 130, 131]
section MDC
variable {W : WR} {G : mG} {F : Nat} {A : Nat → Option KY} {J : JT} {bk : Nat}
theorem QM_dec278 {a w rr p0 : Nat} {wh : Bool} {rows : Nat → List UInt8} {sk pt u v iv al c mk_ : List UInt8} (X : Cx G F W) (h : isM W) (hmm : isMm W) (hbk : bk ≤ 1) (Y : JX J) (ha : a < 6) (hw : w < 4) (hr : rr < 8) (hal : al = (rows rr).take p0) (hp0 : p0 ≤ (rows rr).length) (skl : sk.length ≤ 8192) (ivl : iv.length ≤ 8192) (cl : c.length ≤ 8192) (ml : mk_.length ≤ 8192) (hwh : wh = (decide (sk.length ≤ 128) && (decide (iv.length = ivOf w) && decide (mk_.length = wayM w)))) (f : KY → Option (List UInt8)) (hf : f = fun K => opO a w K wh sk pt u v iv al (c ++ mk_)) : ∀ (m k fuel : Nat) (may : Bool) (S : ST), m < fuel → k + m = 16 → MK S → mDig (S 13 0) → mEv (S 13 0) → oBX (S 13 0) → KM (S 13 0) A → mRows (S 13 0) rows → MTx (S 13 0) bk J → kdH (S 13 0) bk J → (S 13 0).f 102 = (Int32.ofNat a) → (S 13 0).f 103 = (Int32.ofNat w) → (S 13 0).a 123 0 = (Int32.ofNat p0) → pyM (S 13 0) 127 126 sk → pyM (S 13 0) 129 128 iv → (∃ β, mB (S 13 0) 132 β ∧ rdB β 0 c.length = c) → (∃ β, mB (S 13 0) 133 β ∧ rdB β 0 mk_.length = mk_) → (4 ≤ a → (∃ β, mB (S 13 0) 107 β ∧ rdB β 0 64 = pt) ∧ onC (beN (seg pt 0 32)) (beN (seg pt 32 32)) = true ∧ pyM (S 13 0) 110 108 u ∧ pyM (S 13 0) 111 109 v ∧ u.length ≤ 8192 ∧ v.length ≤ 8192) → ∃ S', B_X13_decrypt_278 G F fuel (W.ad (.o 13 0)) (Int32.ofNat (8192 * rr)) (Int32.ofNat c.length) (Int32.ofNat mk_.length) (if may = true then 1 else 0) (Int32.ofNat k) (mem W S) = some (ansD (dcK A J a w f m k may), mem W S') ∧ MT S S' ∧ kpT 2 (S 13 0) (S' 13 0) ∧ outO (S 13 0) (S' 13 0) (shO (dcK A J a w f m k may)) := by
  intro m
  induction m with
  | zero =>
    intro k fuel may S hf' hk mk hd E bx KK hR M kd f102 f103 f123 s126 s128 s132 s133 b4
    obtain ⟨fuel, rfl⟩ : ∃ q, fuel = q + 1 := ⟨fuel - 1, by omega⟩
    refine ⟨S, ?_, MT.refl mk hd E, fun _ _ _ _ _ q => q, ⟨rfl, rfl⟩⟩
    rw [B_X13_decrypt_278, if_pos (show (16 : Int32) ≤ (Int32.ofNat k) from (n_le (a := 16) (by omega) (by omega)).mpr (by omega))]
    cases may <;> rfl
  | succ m ih =>
    intro k fuel may S hf' hk mk hd E bx KK hR M kd f102 f103 f123 s126 s128 s132 s133 b4
    obtain ⟨fuel, rfl⟩ : ∃ q, fuel = q + 1 := ⟨fuel - 1, by omega⟩
    have k16 : k < 16 := by omega
    have nx := fun may' => ih (k + 1) fuel may' S (by omega) (by omega) mk hd E bx KK hR M kd f102 f103 f123 s126 s128 s132 s133 b4
    have x102 : gfI (mem W S) (W.ad (.o 13 0)) 13 102 = some (Int32.ofNat a) := by rw [gfI_m h.lo rfl, f102]
    have x103 : gfI (mem W S) (W.ad (.o 13 0)) 13 103 = some (Int32.ofNat w) := by rw [gfI_m h.lo rfl, f103]
    rw [B_X13_decrypt_278, if_neg (show ¬ (16 : Int32) ≤ (Int32.ofNat k) from fun q => by have := (n_le (a := 16) (by omega) (by omega)).mp q; omega), x102, bO_s, x103, bO_s, rcv_m h.lo, bO_s]
    cases e : A k with
    | none =>
      have mn := oM_maySeal_n (G := G) (F := F) (S := S) (o := S 13 0) (x := (Int32.ofNat a)) (y := (Int32.ofNat w)) (z := 1) X h KK k16 e
      rw [so_self] at mn
      have ev : dcK A J a w f (m + 1) k may = dcK A J a w f m (k + 1) may := by
        show (match A k with | none => dcK A J a w f m (k + 1) may | some K => _) = _
        rw [e]
      rw [mn, bP_s, if_pos rfl, n_i1, ev]
      exact nx may
    | some K =>
      have ms := oM_maySeal (G := G) (F := F) (S := S) (o := S 13 0) (w := a) (way := w) true X h KK k16 e (by omega) hw
      rw [so_self] at ms
      have ms : P_X13_maySeal G F (W.ad (.o 13 0)) (Int32.ofNat k) (Int32.ofNat a) (Int32.ofNat w) 1 (mem W S) = _ := ms
      have hk_ := oM_hasKid (G := G) (F := F) (S := S) (o := S 13 0) X h KK k16 e M hbk Y kd
      rw [so_self] at hk_
      have ev : dcK A J a w f (m + 1) k may = if (kdS J K && maySl K a w true) = true then (match f K with | some p => .inr (k, p) | none => dcK A J a w f m (k + 1) true) else dcK A J a w f m (k + 1) may := by
        show (match A k with | none => dcK A J a w f m (k + 1) may | some K => if (kdS J K && maySl K a w true) = true then (match f K with | some p => .inr (k, p) | none => dcK A J a w f m (k + 1) true) else dcK A J a w f m (k + 1) may) = _
        rw [e]
      rw [ms, bP_s, ev]
      by_cases c2 : maySl K a w true = true
      · rw [if_pos c2, if_neg (by decide), rcv_m h.lo, bO_s, hk_, bP_s]
        by_cases c1 : kdS J K = true
        · have cc : (kdS J K && maySl K a w true) = true := by rw [c1, c2]; rfl
          simp only [if_pos cc]
          rw [if_pos c1, if_neg (by decide), x102, bO_s, x103, bO_s, rcv_m h.lo, bO_s]
          obtain ⟨f127, β126, b126, r126⟩ := s126
          obtain ⟨f129, β128, b128, r128⟩ := s128
          obtain ⟨β132, b132, r132⟩ := s132
          obtain ⟨β133, b133, r133⟩ := s133
          have n128 : K.2.1.1.length ≤ 128 := by
            obtain ⟨_, _, _, _, _, _, _, ⟨l1, _⟩, _, _, V_⟩ := KK.at_ k16 e
            by_cases c : K.1 = 2
            · rw [V_.ec64 c]
              decide
            · unfold Ma at l1
              rw [if_neg c] at l1
              exact l1
          have fk : f K = if iv.length = ivOf w ∧ mk_.length = wayM w then (match kcW a w K sk pt u v with | none => none | some ck => openC w ck iv al c mk_) else none := by
            rw [hf]
            exact opM n128 hwh
          obtain ⟨S1, g1, f1, a1, mk1, d1, E1, q1⟩ := QM_keyComes (G := G) (F := F) (S := S) (A := A) (K := K) (k := k) (a := a) (w := w) (sk := sk) (pt := pt) (u := u) (v := v) X h hmm mk hd E bx KK k16 e ha hw c2 b126 r126 skl f127 b4
          obtain ⟨βr, w1, w2⟩ := id hR
          obtain ⟨w3, w4, w5⟩ := w2 rr hr
          have all : al.length = p0 := by rw [hal, List.length_take]; omega
          have ivm := ivOf_le w
          have wm := wayM_32 w
          have wk := wayK_le w
          -- the next key, from some memory on
          have go : ∀ S2 : ST, fr [(12, 0), (12, 1), (12, 2), (13, 0)] S S2 → agr [37, 39, 44, 50, 73] tkG deA [33, 34] (S 13 0) (S2 13 0) → MK S2 → mDig (S2 13 0) → mEv (S2 13 0) → f K = none → ∃ S', B_X13_decrypt_278 G F fuel (W.ad (.o 13 0)) (Int32.ofNat (8192 * rr)) (Int32.ofNat c.length) (Int32.ofNat mk_.length) 1 ((Int32.ofNat k) + 1) (mem W S2) = some (ansD (match f K with | some p => .inr (k, p) | none => dcK A J a w f m (k + 1) true), mem W S') ∧ MT S S' ∧ kpT 2 (S 13 0) (S' 13 0) ∧ outO (S 13 0) (S' 13 0) (shO (match f K with | some p => .inr (k, p) | none => dcK A J a w f m (k + 1) true)) := by
            intro S2 f2 a2 mk2 d2 E2 fn
            rw [fn]
            obtain ⟨kd1, kd2⟩ := kd
            obtain ⟨S4, z1, z2, z3, z4⟩ := ih (k + 1) fuel true S2 (by omega) (by omega) mk2 d2 E2 (oBX.ag bx a2 (by decide) (by decide)) (KK.agr a2 (by decide)) (a2.mRows hR (by decide) (by decide)) (M.agr a2 (by decide)) ⟨by rw [a2.1 106 (by decide)]; exact kd1, fun i hi => by rw [a2.1 105 (by decide)]; exact kd2 i hi⟩ (by rw [a2.1 102 (by decide)]; exact f102) (by rw [a2.1 103 (by decide)]; exact f103) (by rw [a2.2.2.1 123 (by decide)]; exact f123) (pyM.ag ⟨f127, β126, b126, r126⟩ a2 (by decide) (by decide)) (pyM.ag ⟨f129, β128, b128, r128⟩ a2 (by decide) (by decide)) ⟨_, a2.mB b132 (by decide), r132⟩ ⟨_, a2.mB b133 (by decide), r133⟩ (fun q => by
              obtain ⟨⟨β, t1, t2⟩, t3, t4, t5, t6⟩ := b4 q
              exact ⟨⟨β, a2.mB t1 (by decide), t2⟩, t3, t4.ag a2 (by decide) (by decide), t5.ag a2 (by decide) (by decide), t6⟩)
            have z1 : B_X13_decrypt_278 G F fuel (W.ad (.o 13 0)) (Int32.ofNat (8192 * rr)) (Int32.ofNat c.length) (Int32.ofNat mk_.length) 1 (Int32.ofNat (k + 1)) (mem W S2) = _ := z1
            have MT2 : MT S S2 := ⟨f2, a2.mono (by simp [tkF]) (by simp) (by simp [tkA]) (by simp), mk2, d2, E2⟩
            rw [n_i1, z1]
            refine ⟨S4, rfl, MT2.trans z2, fun bk' J' q1 q2 q3 q4 => z3 bk' J' q1 q2 q3 (q4.agr a2 (by decide)), ?_⟩
            revert z4
            show outO (S2 13 0) (S4 13 0) (shO (dcK A J a w f m (k + 1) true)) → outO (S 13 0) (S4 13 0) (shO (dcK A J a w f m (k + 1) true))
            cases dcK A J a w f m (k + 1) true with
            | inl b => intro z4; exact ⟨(show _ ∧ _ from z4).1.trans (a2.1 5 (by decide)), (show _ ∧ _ from z4).2.trans (a2.2.2.1 4 (by decide))⟩
            | inr b => exact id
          have a1' : agr [37, 39, 44, 50, 73] tkG deA [33, 34] (S 13 0) (S1 13 0) := a1.mono (by simp) (by simp) (by simp) (by simp)
          have g363 : f K = none → ∃ S', B_X13_decrypt_363 G F (B_X13_decrypt_278 G F fuel) (W.ad (.o 13 0)) (Int32.ofNat (8192 * rr)) (Int32.ofNat c.length) (Int32.ofNat mk_.length) 1 (Int32.ofNat k) 0 (mem W S1) = some (ansD (match f K with | some p => .inr (k, p) | none => dcK A J a w f m (k + 1) true), mem W S') ∧ MT S S' ∧ kpT 2 (S 13 0) (S' 13 0) ∧ outO (S 13 0) (S' 13 0) (shO (match f K with | some p => .inr (k, p) | none => dcK A J a w f m (k + 1) true)) := fun fn => by
            unfold B_X13_decrypt_363
            rw [if_pos rfl]
            exact go S1 (f1.mono (by simp)) a1' mk1 d1 E1 fn
          rw [g1, bP_s]
          cases ek : kcW a w K sk pt u v with
          | none =>
            rw [if_pos (show (if (none : Option (List UInt8)).isSome = true then (1 : Int32) else 0) = 0 from rfl)]
            refine g363 ?_
            rw [fk, ek]
            split <;> rfl
          | some ck =>
            have ckl : ck.length = wayK w := by
              unfold kcW at ek
              cases e2 : kcF a w K sk pt u v with
              | none => rw [e2] at ek; exact absurd ek (by simp)
              | some ck' =>
                rw [e2] at ek
                have ek : (if ck'.length = wayK w then some ck' else none) = some ck := ek
                by_cases q : ck'.length = wayK w
                · rw [if_pos q] at ek
                  rw [← Option.some.inj ek]
                  exact q
                · rw [if_neg q] at ek
                  exact absurd ek (by simp)
            obtain ⟨β125, b125, r125⟩ := q1 ck ek
            have y129 : gfI (mem W S1) (W.ad (.o 13 0)) 13 129 = some (Int32.ofNat iv.length) := by rw [gfI_m h.lo rfl, a1.1 129 (by decide), f129]
            have y103 : gfI (mem W S1) (W.ad (.o 13 0)) 13 103 = some (Int32.ofNat w) := by rw [gfI_m h.lo rfl, a1.1 103 (by decide), f103]
            have xi : ((Int32.ofNat iv.length) = (Int32.ofNat (ivOf w))) = (iv.length = ivOf w) := propext (n_eq (by omega) (by omega))
            have xm : ((Int32.ofNat mk_.length) = (Int32.ofNat (wayM w))) = (mk_.length = wayM w) := propext (n_eq (by omega) (by omega))
            rw [if_neg (show ¬ (if (some ck).isSome = true then (1 : Int32) else 0) = 0 by rw [if_pos (show (some ck).isSome = true from rfl)]; decide), y129, bO_s, y103, bO_s, oM_begOf hw, bP_s]
            simp only [xi]
            by_cases c5 : iv.length = ivOf w
            · rw [if_pos c5, y103, bO_s, oM_markOf hw, bP_s]
              simp only [xm]
              by_cases c6 : mk_.length = wayM w
              · have fk : f K = openC w ck iv al c mk_ := by rw [fk, if_pos ⟨c5, c6⟩, ek]
                rw [if_pos c6]
                obtain ⟨γ49, b49⟩ := E1 49 rfl
                obtain ⟨μ51, b51⟩ := E1 51 rfl
                have ea : rdB βr (8192 * rr) al.length = al := by
                  rw [all, hal, ← w5, rdB_tk (by omega)]
                obtain ⟨o2, g2, a2, ⟨γ', c49, q49⟩, c51, c47, c52, d2⟩ := oM_openIt (G := G) (F := F) (S := S1) (o := S1 13 0) (way := w) (kk := 125) (pk := 0) (kb := 128) (pb := 0) (ka := 2) (pa := 8192 * rr) (ko := 132) (po := 0) (km := 133) (pm := 0) (key := ck) (iv := iv) (al := al) (c := c) (mk := mk_) X h hw rfl rfl rfl rfl rfl (by decide) (by decide) (by decide) (by decide) (by decide) (by decide) (by decide) (by decide) (by decide) (by decide) (by show _ ≤ 64; omega) (by show _ ≤ 8200; omega) (by show _ ≤ 65536; omega) (by show _ ≤ 8200; omega) (by show _ ≤ 8200; omega) ckl c5 c6 (by omega) (by omega) b125 (a1.mB b128 (by decide)) (a1.mB w1 (by decide)) (a1.mB b132 (by decide)) (a1.mB b133 (by decide)) b49 b51 (E1 47 rfl) (E1 52 rfl) d1 (oBX.ag bx a1 (by decide) (by decide)) r125 r128 ea r132 r133
                rw [so_self] at g2
                have g2 : P_X13_openIt G F (W.ad (.o 13 0)) (Int32.ofNat w) (W.ad (.a 13 0 125)) 0 (W.ad (.a 13 0 128)) 0 (W.ad (.a 13 0 2)) (Int32.ofNat (8192 * rr)) (Int32.ofNat al.length) (W.ad (.a 13 0 132)) 0 (Int32.ofNat c.length) (W.ad (.a 13 0 133)) 0 (mem W S1) = _ := g2
                have M2 : MO S1 o2 := ⟨(MO.of mk1 d1 E1).1.agL a2 (by decide), d2, E1.keep a2 (fun n hn z => by
                  simp only [SLA, List.mem_cons, List.not_mem_nil, or_false] at hn
                  rcases hn with rfl | rfl | rfl | rfl | rfl | rfl | rfl | rfl | rfl | rfl | rfl | rfl | rfl
                  · exact absurd z (by decide)
                  · exact absurd z (by decide)
                  · exact absurd z (by decide)
                  · exact c47
                  · exact ⟨_, c49⟩
                  · exact c51
                  · exact c52
                  · exact d2.2.1
                  · exact absurd z (by decide)
                  · exact absurd z (by decide)
                  · exact d2.1
                  · exact d2.2.2.1
                  · exact d2.2.2.2)⟩
                have a02 : agr [37, 39, 44, 50, 73] tkG deA [33, 34] (S 13 0) o2 := a1'.trans (a2.mono (by simp) (by simp) (by simp [SLA]) (by simp))
                have f02 : fr [(12, 0), (12, 1), (12, 2), (13, 0)] S (S1.so 13 0 o2) := (f1.mono (by simp)).trans (fr_so (by simp))
                have rd123 : aI G (mem W S1) 0 (W.ad (.a 13 0 123)) 0 = some (Int32.ofNat p0) := by
                  have q := h.aN (G := G) (S := S1) (k := 123) (j := 0) rfl (by decide) (by decide)
                  have q : aI G (mem W S1) 0 (W.ad (.a 13 0 123)) 0 = _ := q
                  rw [q, a1.2.2.1 123 (by decide), f123]
                rw [all] at g2
                unfold B_X13_decrypt_363
                rw [if_neg (by decide), y103, bO_s, h.gR 125 rfl (by decide), bO_s, h.gR 128 rfl (by decide), bO_s, h.gR 2 rfl (by decide), bO_s, h.gR 123 rfl (by decide), bO_s, rd123, bO_s, h.gR 132 rfl (by decide), bO_s, h.gR 133 rfl (by decide), bO_s, rcv_m h.lo, bO_s, g2, bP_s]
                cases eo : openC w ck iv al c mk_ with
                | none =>
                  rw [if_pos (show (if (none : Option (List UInt8)).isSome = true then (1 : Int32) else 0) = 0 from rfl)]
                  exact go (S1.so 13 0 o2) f02 (by rw [so_eq]; exact a02) M2.1 (by rw [so_eq]; exact M2.2.1) (by rw [so_eq]; exact M2.2.2) (by rw [fk, eo])
                | some pl =>
                  obtain ⟨f50, e49⟩ := q49 pl eo
                  have pll : pl.length ≤ 8192 := by have := openC_len eo; omega
                  obtain ⟨β4, h4⟩ := M2.2.2 4 rfl
                  have t := QM_tell (G := G) (F := F) (S := S1.so 13 0 o2) (k := 49) (p := 0) (cnt := pl.length) X h rfl (by decide) (by decide) (by show _ ≤ 8300; omega) pll (by rw [so_eq]; exact c49) (by rw [so_eq]; exact h4)
                  rw [so_eq, so_so, e49] at t
                  have t : P_X13_tell G F (W.ad (.o 13 0)) (W.ad (.a 13 0 49)) 0 (Int32.ofNat pl.length) (mem W (S1.so 13 0 o2)) = _ := t
                  obtain ⟨o4, ho4⟩ : ∃ o4, o4 = (o2.sA 4 (fun j => sb (wrB β4 0 pl j))).sf 5 (Int32.ofNat pl.length) := ⟨_, rfl⟩
                  rw [← ho4] at t
                  have a4 : agr [5] [] [4] [] o2 o4 := by rw [ho4]; exact (agr_sA (by simp)).trans (agr_sf (by simp))
                  have out4 : mOut o4 pl := by
                    rw [ho4]
                    exact ⟨by rw [sf_eq], pll, wrB β4 0 pl, mB_sA _ _ _, rdB_wrB _ _ _⟩
                  have MO4 : MO S1 o4 := M2.ag a4 (by decide) (by decide) (fun q hq _ => by
                    rw [List.mem_singleton] at hq
                    rw [hq]
                    exact out4.2.2.imp (fun _ z => z.1))
                  have a04 : agr (5 :: [37, 39, 44, 50, 73]) tkG (4 :: deA) [33, 34] (S 13 0) o4 := (a02.mono (fun x hx => List.mem_cons_of_mem _ hx) (by simp) (fun x hx => List.mem_cons_of_mem _ hx) (by simp)).trans (a4.mono (by simp) (by simp) (by simp) (by simp))
                  have y50 : gfI (mem W (S1.so 13 0 o2)) (W.ad (.o 13 0)) 13 50 = some (Int32.ofNat pl.length) := by rw [gfI_m h.lo rfl, so_eq, f50]
                  rw [if_neg (show ¬ (if (some pl).isSome = true then (1 : Int32) else 0) = 0 by rw [if_pos (show (some pl).isSome = true from rfl)]; decide), h.gR 49 rfl (by decide), bO_s, y50, bO_s, rcv_m h.lo, bO_s, t, bP_s, fk, eo]
                  refine ⟨S1.so 13 0 o4, rfl, ⟨(f1.mono (by simp)).trans (fr_so (by simp)), by rw [so_eq]; exact a04.mono (by simp [tkF]) (by simp) (by simp [tkA]) (by simp), MO4.1, by rw [so_eq]; exact MO4.2.1, by rw [so_eq]; exact MO4.2.2⟩, fun bk' J' _ _ _ q => by rw [so_eq]; exact q.agr a04 (by decide), ?_⟩
                  show mOut ((S1.so 13 0 o4) 13 0) pl
                  rw [so_eq]
                  exact out4
              · rw [if_neg c6]
                exact g363 (by rw [fk, if_neg (fun q => c6 q.2)])
            · rw [if_neg c5]
              exact g363 (by rw [fk, if_neg (fun q => c5 q.1)])
        · have cc : ¬ (kdS J K && maySl K a w true) = true := by rw [Bool.eq_false_iff.mpr c1, Bool.false_and]; decide
          simp only [if_neg cc]
          rw [if_neg c1, if_pos rfl, n_i1]
          exact nx may
      · have cc : ¬ (kdS J K && maySl K a w true) = true := by rw [Bool.eq_false_iff.mpr c2, Bool.and_false]; decide
        simp only [if_neg cc]
        rw [if_neg c2, if_pos rfl, n_i1]
        exact nx may
end MDC
