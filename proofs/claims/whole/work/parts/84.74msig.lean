/-! signIt: the model -/
/-- every array of bytes holds bytes -/
def mEv (o : Ob) : Prop := ∀ k, (kdA 13)[k]? = some 1 → ∃ β, mB o k β
theorem mEv.keep {o o' : Ob} {fs gs as ls : List Nat} (E : mEv o) (a : agr fs gs as ls o o') (h : ∀ k ∈ as, (kdA 13)[k]? = some 1 → ∃ β, mB o' k β) : mEv o' := by
  intro k q
  by_cases c : k ∈ as
  · exact h k c q
  · obtain ⟨β, b⟩ := E k q
    exact ⟨β, a.mB b c⟩
theorem MK.rs3 {S S' : ST} (K : MK S) (f : fr [(12, 0), (13, 0)] S S') (a : agr [] [] [60, 61, 62] [] (S 13 0) (S' 13 0)) : MK S' := by
  obtain ⟨Q, MN, ⟨β63, h63, e63⟩, ⟨β64, h64, e64⟩, ⟨β65, h65, e65⟩, β67, h67⟩ := K
  exact ⟨Q.ag f (by simp) a (by decide), MN.fr f (by simp), ⟨β63, a.mB h63 (by decide), e63⟩, ⟨β64, a.mB h64 (by decide), e64⟩, ⟨β65, a.mB h65 (by decide), e65⟩, β67, a.mB h67 (by decide)⟩
theorem MK.agL {S : ST} {o o' : Ob} {fs gs as ls : List Nat} (K : MK (S.so 13 0 o)) (a : agr fs gs as ls o o') (ha : ∀ k ∈ [63, 64, 65, 66, 67, 68, 69, 70, 71, 72, 74, 75, 76, 77, 78], k ∉ as) : MK (S.so 13 0 o') := by
  have f : fr [(13, 0)] (S.so 13 0 o) (S.so 13 0 o') := fun c i h => by
    rw [so_ne (fun q => h (by rw [q.1, q.2]; simp)), so_ne (fun q => h (by rw [q.1, q.2]; simp))]
  have a' : agr fs gs as ls ((S.so 13 0 o) 13 0) ((S.so 13 0 o') 13 0) := by rw [so_eq, so_eq]; exact a
  obtain ⟨Q, MN, ⟨β63, h63, e63⟩, ⟨β64, h64, e64⟩, ⟨β65, h65, e65⟩, β67, h67⟩ := K
  exact ⟨Q.ag f (by simp) a' (by intro k hk; exact ha k (by revert hk; revert k; decide)), MN.fr f (by simp), ⟨β63, a'.mB h63 (ha _ (by decide)), e63⟩, ⟨β64, a'.mB h64 (ha _ (by decide)), e64⟩, ⟨β65, a'.mB h65 (ha _ (by decide)), e65⟩, β67, a'.mB h67 (ha _ (by decide))⟩
theorem beN_z : ∀ m, beN (List.replicate m (0 : UInt8)) = 0
  | 0 => rfl
  | m + 1 => by
    rw [List.replicate_succ, beN_cons, beN_z m]
    simp
theorem powF_b {b b' e n : List UInt8} (h : beN b = beN b') : powF b e n = powF b' e n := by
  unfold powF
  rw [h]
/-- the zeros before a frame are nothing -/
theorem beN_fr {β : Nat → UInt8} {f e : Nat} (h : ∀ j, j < f → β j = 0) : beN (rdB β 0 (f + e)) = beN (rdB β f e) := by
  have e1 : rdB β 0 (f + e) = List.replicate f 0 ++ rdB β f e := by
    apply List.ext_getElem?
    intro j
    by_cases c : j < f
    · rw [rdB_at (by omega), List.getElem?_append_left (by rw [List.length_replicate]; exact c), List.getElem?_replicate, if_pos c, Nat.zero_add, h j c]
    · rw [List.getElem?_append_right (by rw [List.length_replicate]; omega), List.length_replicate]
      by_cases d : j < f + e
      · rw [rdB_at d, rdB_at (by omega), show f + (j - f) = 0 + j by omega]
      · rw [List.getElem?_eq_none (by rw [rdB_len]; omega), List.getElem?_eq_none (by rw [rdB_len]; omega)]
  rw [e1, beN_app, beN_z]
  omega
abbrev siL : List Nat := [31, 32, 35, 36, 40, 60, 61, 62, 67, 68, 69, 70, 71, 72, 74, 75, 76, 77, 78, 79, 81, 82, 112, 116, 117, 118]
section MSI
variable {W : WR} {G : mG} {F : Nat} {S : ST} {A : Nat → Option KY} {K : KY}
/-- how a key that may sign stands in the model -/
theorem KM.at_ {o : Ob} {k : Nat} (KK : KM o A) (hk : k < 16) (e : A k = some K) : ∃ α85 α87 α89, mB o 85 α85 ∧ mB o 87 α87 ∧ mB o 89 α89 ∧ (o.a 84 k = (Int32.ofNat (K.1)) ∧ o.a 86 k = (Int32.ofNat (Ma K).length) ∧ o.a 88 k = (Int32.ofNat (Me K).length) ∧ o.a 90 k = (Int32.ofNat (Md K).length)) ∧ ((Ma K).length ≤ 128 ∧ rdB α85 (128 * k) (Ma K).length = Ma K) ∧ ((Me K).length ≤ 128 ∧ rdB α87 (128 * k) (Me K).length = Me K) ∧ ((Md K).length ≤ 128 ∧ rdB α89 (128 * k) (Md K).length = Md K) ∧ KyV K := by
  obtain ⟨α85, α87, α89, α92, α94, bb, q⟩ := KK
  have q := q k hk
  rw [e] at q
  obtain ⟨q0, ⟨⟨z1, z2, z3, z4, z5, z6⟩, y1, y2, y3, y4, wd, y5, y6, y7⟩, V⟩ := q
  exact ⟨α85, α87, α89, bb.1, bb.2.1, bb.2.2.1, ⟨z1, z2, z3, z4⟩, y1, y2, y3, V⟩
theorem QM_signIt {k a r : Nat} {rows : Nat → List UInt8} {msg : List UInt8} {y : Int32} (X : Cx G F W) (h : isM W) (hmm : isMm W) (mk : MK S) (KK : KM (S 13 0) A) (hk : k < 16) (e : A k = some K) (ha : a < 5) (hm : maySg K a true = true) (hR : mRows (S 13 0) rows) (hd : mDig (S 13 0)) (hmsg : mMsg (S 13 0) msg) (E : mEv (S 13 0)) (hy : 3 ≤ a → r < 8 ∧ y = (Int32.ofNat r)) : ∃ S', P_X13_signIt G F (W.ad (.o 13 0)) (Int32.ofNat k) (Int32.ofNat a) y (mem W S) = some (if (sgF a K msg (if 3 ≤ a then rows r else [])).isSome = true then 0 else -4, mem W S') ∧ fr [(12, 0), (12, 1), (12, 2), (13, 0)] S S' ∧ agr [37, 73, 113] [] siL [33, 34] (S 13 0) (S' 13 0) ∧ MK S' ∧ mDig (S' 13 0) ∧ mEv (S' 13 0) ∧ ∀ sg, sgF a K msg (if 3 ≤ a then rows r else []) = some sg → (S' 13 0).f 113 = (Int32.ofNat sg.length) ∧ ∃ β, mB (S' 13 0) 112 β ∧ rdB β 0 sg.length = sg := by
  obtain ⟨α85, α87, α89, b85, b87, b89, ⟨k1, k2, k3, k4⟩, ⟨l1, r1⟩, ⟨l2, r2⟩, ⟨l3, r3⟩, V⟩ := KK.at_ hk e
  obtain ⟨kd1, kd2, kd3⟩ := maySg_kd hm
  have hp : isMp W := ⟨hmm.2.1, hmm.2.2.2.2.1, h⟩
  have hn : isMn W := ⟨hmm.2.2.1, hmm.2.2.2.2.2⟩
  have e128 : (128 : Int32) * (Int32.ofNat k) = (Int32.ofNat (128 * k)) := n_mul 128 k
  have rd86 : aI G (mem W S) 0 (W.ad (.a 13 0 86)) (Int32.ofNat k) = some (Int32.ofNat (Ma K).length) := by rw [h.aN rfl (show k < mLen 86 from hk) (by decide), k2]
  have mk0 : MK (S.so 13 0 (S 13 0)) := by rw [so_self]; exact mk
  -- codes
  have code : ∀ wide : Bool, a = (if wide = true then 1 else 0) → ∃ S', B_X13_signIt_28 G F (W.ad (.o 13 0)) (Int32.ofNat k) (Int32.ofNat (Ma K).length) (W.ad (.o 13 0)) (W.ad (.o 13 0)) (if wide = true then 512 else 256) (mem W S) = some (if (sgF a K msg (if 3 ≤ a then rows r else [])).isSome = true then 0 else -4, mem W S') ∧ fr [(12, 0), (12, 1), (12, 2), (13, 0)] S S' ∧ agr [37, 73, 113] [] siL [33, 34] (S 13 0) (S' 13 0) ∧ MK S' ∧ mDig (S' 13 0) ∧ mEv (S' 13 0) ∧ ∀ sg, sgF a K msg (if 3 ≤ a then rows r else []) = some sg → (S' 13 0).f 113 = (Int32.ofNat sg.length) ∧ ∃ β, mB (S' 13 0) 112 β ∧ rdB β 0 sg.length = sg := by
    intro wide hw
    have kd : K.1 = 0 := by rw [kd1, hw]; cases wide <;> rfl
    have em : Ma K = K.2.1.1 := by unfold Ma; rw [if_neg (by omega)]
    have es : sgF a K msg (if 3 ≤ a then rows r else []) = some (hmac wide K.2.1.1 msg) := by
      unfold sgF
      cases wide with
      | false => rw [if_pos (show a = 0 from hw)]
      | true => rw [if_neg (show ¬ a = 0 by rw [hw]; decide), if_pos (show a = 1 from hw)]
    obtain ⟨⟨γ, hγ⟩, ⟨μ, hμ⟩, ⟨π, hπ⟩, ν, hν⟩ := id hd
    obtain ⟨o1, δ, g1, c1, c2, c3, a1⟩ := oM_codeOf (G := G) (F := F) (S := S) (o := S 13 0) (wide := wide) (k := 85) (p := 128 * k) (cnt := (Ma K).length) X h rfl (by decide) (by decide) (by show _ ≤ 2048; omega) (by omega) b85 hπ hγ hμ hmsg
    rw [so_self] at g1
    rw [r1, em] at c1
    have hl := hmac_len wide K.2.1.1 msg
    have hl2 : (hmac wide K.2.1.1 msg).length ≤ 64 := by rw [hl]; cases wide <;> decide
    have sz : (if wide = true then (64 : Int32) else 32) = (Int32.ofNat (hmac wide K.2.1.1 msg).length) := by rw [hl]; cases wide <;> rfl
    rw [sz] at g1
    obtain ⟨β112, h112⟩ := E 112 rfl
    have b112 : mB (o1.sf 113 (Int32.ofNat (hmac wide K.2.1.1 msg).length)) 112 β112 := a1.mB h112 (by decide)
    have v := oM_move (G := G) (F := F) (S := S) (o := o1.sf 113 (Int32.ofNat (hmac wide K.2.1.1 msg).length)) (k1 := 35) (k2 := 112) (p1 := 0) (p2 := 0) (cnt := (hmac wide K.2.1.1 msg).length) X h rfl rfl (by decide) (by decide) (by decide) (by show _ ≤ 64; omega) (by show _ ≤ 8200; omega) (by omega) c1 b112
    rw [rdB_wrB] at v
    have v : P_X13_move G F (W.ad (.a 13 0 35)) 0 (W.ad (.a 13 0 112)) 0 (Int32.ofNat (hmac wide K.2.1.1 msg).length) (mem W (S.so 13 0 (o1.sf 113 (Int32.ofNat (hmac wide K.2.1.1 msg).length)))) = _ := v
    obtain ⟨o2, ho2⟩ : ∃ o2, o2 = (o1.sf 113 (Int32.ofNat (hmac wide K.2.1.1 msg).length)).sA 112 (fun j => sb (wrB β112 0 (hmac wide K.2.1.1 msg) j)) := ⟨_, rfl⟩
    rw [← ho2] at v
    have a2 : agr [113] [] [112] [] o1 o2 := by rw [ho2]; exact (agr_sf (by simp)).trans (agr_sA (by simp))
    have aa : agr [37, 73, 113] [] siL [33, 34] (S 13 0) o2 := (a1.mono (by simp) (by simp) (by simp [siL]) (by simp)).trans (a2.mono (by simp) (by simp) (by simp [siL]) (by simp))
    have ac : agr [37, 113] [] [36, 31, 32, 35, 40, 112] [33, 34] (S 13 0) o2 := (a1.mono (by simp) (by simp) (by simp) (by simp)).trans (a2.mono (by simp) (by simp) (by simp) (by simp))
    obtain ⟨π', c2⟩ := c2
    obtain ⟨μ', c3⟩ := c3
    have b112' : mB o2 112 (wrB β112 0 (hmac wide K.2.1.1 msg)) := by rw [ho2]; exact mB_sA _ _ _
    have d2 : mDig o2 := ⟨⟨_, a2.mB c1 (by decide)⟩, ⟨_, a2.mB c3 (by decide)⟩, ⟨_, a2.mB c2 (by decide)⟩, ν, ac.mB hν (by decide)⟩
    have E2 : mEv o2 := E.keep ac (fun q hq z => by
      simp only [List.mem_cons, List.not_mem_nil, or_false] at hq
      rcases hq with rfl | rfl | rfl | rfl | rfl | rfl
      · exact d2.2.1
      · exact absurd z (by decide)
      · exact absurd z (by decide)
      · exact d2.1
      · exact d2.2.2.1
      · exact ⟨_, b112'⟩)
    refine ⟨S.so 13 0 o2, ?_, fr_so (by simp), by rw [so_eq]; exact aa, mk0.agL ac (by decide), by rw [so_eq]; exact d2, by rw [so_eq]; exact E2, fun sg hs => ?_⟩
    · rw [es]
      unfold B_X13_signIt_28
      rw [h.gR 85 rfl (by decide), bO_s, rcv_m h.lo, bO_s, e128, g1, bP_s, pfI_m h.lo rfl, bO_s, so_eq, so_so, h.gR 35 rfl (by decide), bO_s, h.gR 112 rfl (by decide), bO_s, gfI_m h.lo rfl, bO_s, so_eq, sf_eq, v, bO_s]
      rfl
    · rw [es] at hs
      rw [← Option.some.inj hs, so_eq]
      refine ⟨?_, _, b112', rdB_wrB _ _ _⟩
      rw [ho2]
      show ((o1.sf 113 (Int32.ofNat (hmac wide K.2.1.1 msg).length)).sA 112 _).f 113 = _
      rw [sA_f, sf_eq]
  have x2 : ((2 : Int32) ≤ (Int32.ofNat a)) = (2 ≤ a) := propext (n_le (a := 2) (by omega) (by omega))
  have x0 : ((Int32.ofNat a) = (0 : Int32)) = (a = 0) := propext (n_eq (b := 0) (by omega) (by omega))
  have x3 : ((Int32.ofNat a) = (3 : Int32)) = (a = 3) := propext (n_eq (b := 3) (by omega) (by omega))
  have x4 : ((Int32.ofNat a) = (4 : Int32)) = (a = 4) := propext (n_eq (b := 4) (by omega) (by omega))
  unfold P_X13_signIt
  rw [h.gR 86 rfl (by decide), bO_s, rd86, bO_s]
  simp only [x2, x0, x3, x4]
  by_cases c2 : 2 ≤ a
  · rw [if_pos c2]
    by_cases c4 : a = 4
    · obtain ⟨hr, hyr⟩ := hy (by omega)
      have kd : K.1 = 2 := by rw [kd1, c4]; rfl
      have hsec := (kd3 rfl).resolve_left (by omega)
      obtain ⟨d, hdd⟩ := Option.isSome_iff_exists.mp hsec
      have dl := ((V.ec kd).2 d hdd).1
      have md : Md K = d := by unfold Md; rw [hdd]; rfl
      have gd : K.2.1.2.2.getD [] = d := by rw [hdd]; rfl
      rw [md] at r3
      rw [dl] at r3
      obtain ⟨S', g1, g2, g3, g4, ⟨β79, g5⟩, β, g6, g7⟩ := QM_signPoint6 (G := G) (F := F) (k := k) (rr := r) (rows := rows) (msg := msg) pr_p X h hp hn mk hR hd hmsg (E 79 rfl) (E 112 rfl) b89 hk hr
      rw [r3] at g1 g7
      have es : sgF a K msg (if 3 ≤ a then rows r else []) = if 32 ≤ (rows r).length then (sigF (sha false msg) d (rows r)).map (fun rs => beV 32 rs.1 ++ beV 32 rs.2) else none := by
        unfold sgF
        rw [if_neg (by omega), if_neg (by omega), if_neg (by omega), if_pos (show 3 ≤ a by omega), if_neg (show ¬ a = 3 by omega), gd]
      have e67 := g3.2.2.2.2.2
      rw [if_pos c4, hyr, rcv_m h.lo, bO_s, g1, bP_s]
      refine ⟨S', ?_, g2.1.mono (by simp), g2.2.mono (by simp) (by simp) (by simp [siL]) (by simp), g3, g4, ?_, fun sg hs => ?_⟩
      · rw [es]
        by_cases c : 32 ≤ (rows r).length
        · rw [if_pos c]
          cases sigF (sha false msg) d (rows r) with
          | none => rw [if_neg (fun q => absurd q.2 (by simp))]; rfl
          | some rs => rw [if_pos ⟨c, rfl⟩]; rfl
        · rw [if_neg c, if_neg (fun q => c q.1)]
          rfl
      · refine E.keep g2.2 (fun q hq z => ?_)
        simp only [SGL6, List.mem_cons, List.not_mem_nil, or_false] at hq
        rcases hq with rfl | rfl | rfl | rfl | rfl | rfl | rfl | rfl | rfl | rfl | rfl | rfl | rfl | rfl | rfl | rfl | rfl | rfl | rfl | rfl | rfl | rfl
        · exact g4.2.1
        · exact absurd z (by decide)
        · exact absurd z (by decide)
        · exact g4.1
        · exact absurd z (by decide)
        · exact absurd z (by decide)
        · exact absurd z (by decide)
        · exact absurd z (by decide)
        · exact absurd z (by decide)
        · exact e67
        · exact absurd z (by decide)
        · exact absurd z (by decide)
        · exact absurd z (by decide)
        · exact absurd z (by decide)
        · exact absurd z (by decide)
        · exact absurd z (by decide)
        · exact absurd z (by decide)
        · exact absurd z (by decide)
        · exact absurd z (by decide)
        · exact absurd z (by decide)
        · exact ⟨_, g5⟩
        · exact ⟨_, g6⟩
      · rw [es] at hs
        by_cases c : 32 ≤ (rows r).length
        · rw [if_pos c] at hs
          cases hsf : sigF (sha false msg) d (rows r) with
          | none => rw [hsf] at hs; exact absurd hs (by simp)
          | some rs =>
            rw [hsf] at hs
            obtain ⟨t1, t2⟩ := g7 c rs hsf
            have hs := Option.some.inj hs
            have ll : sg.length = 64 := by rw [← hs, List.length_append, beV_len, beV_len]
            rw [ll, t2]
            exact ⟨rfl, β, g6, by rw [t1]; exact hs⟩
        · rw [if_neg c] at hs
          exact absurd hs (by simp)
    · rw [if_neg c4]
      have kd : K.1 = 1 := by
        rw [kd1]
        unfold sgKd
        rw [if_neg (by omega), if_pos (by omega)]
      obtain ⟨v1, v2, v3, v4⟩ := V.rsa kd
      have em : Ma K = K.2.1.1 := by unfold Ma; rw [if_neg (by omega)]
      have n128 : K.2.1.1.length ≤ 128 := by rw [← em]; exact l1
      have md : Md K = K.2.1.2.2.getD [] := rfl
      have g0 : gN K.2.1.1 0 ≠ 0 := (of_decide_eq_true v1).2.2.1
      obtain ⟨y1, y2, y3⟩ := bitT_of g0
      rw [em] at r1 l1 k2
      -- from the frame on
      have fin : ∀ (o : Ob) (β : Nat → UInt8) (b : List UInt8), agr [37] [] soL [33, 34] (S 13 0) o → mDig o → (∃ β, mB o 81 β) → mB o 82 β → beN (rdB β 0 K.2.1.1.length) = beN b → sgF a K msg (if 3 ≤ a then rows r else []) = some (powF b (K.2.1.2.2.getD []) K.2.1.1) → ∃ S', B_X13_signIt_140 G F (W.ad (.o 13 0)) (Int32.ofNat k) (Int32.ofNat (K.2.1.1.length)) (mem W (S.so 13 0 o)) = some (if (sgF a K msg (if 3 ≤ a then rows r else [])).isSome = true then 0 else -4, mem W S') ∧ fr [(12, 0), (12, 1), (12, 2), (13, 0)] S S' ∧ agr [37, 73, 113] [] siL [33, 34] (S 13 0) (S' 13 0) ∧ MK S' ∧ mDig (S' 13 0) ∧ mEv (S' 13 0) ∧ ∀ sg, sgF a K msg (if 3 ≤ a then rows r else []) = some sg → (S' 13 0).f 113 = (Int32.ofNat sg.length) ∧ ∃ β, mB (S' 13 0) 112 β ∧ rdB β 0 sg.length = sg := by
        intro o β b ao d1 e81 b82 hb es
        have E1 : mEv o := E.keep ao (fun q hq z => by
          simp only [soL, List.mem_cons, List.not_mem_nil, or_false] at hq
          rcases hq with rfl | rfl | rfl | rfl | rfl | rfl
          · exact d1.2.1
          · exact absurd z (by decide)
          · exact absurd z (by decide)
          · exact d1.1
          · exact e81
          · exact ⟨_, b82⟩)
        obtain ⟨β62, h62⟩ := E1 62 rfl
        obtain ⟨β112, h112⟩ := E1 112 rfl
        have c85 : mB o 85 α85 := ao.mB b85 (by decide)
        have c89 : mB o 89 α89 := ao.mB b89 (by decide)
        have rd90 : aI G (mem W (S.so 13 0 o)) 0 (W.ad (.a 13 0 90)) (Int32.ofNat k) = some (Int32.ofNat (Md K).length) := by rw [h.aN rfl (show k < mLen 90 from hk) (by decide), so_eq, ao.2.2.1 90 (by decide), k4]
        have mk1 : MK (S.so 13 0 o) := mk0.agL ao (by decide)
        obtain ⟨S1, q1, q2, q3, q4⟩ := QM_raise (G := G) (F := F) (S := S.so 13 0 o) (kb := 82) (pb := 0) (sb_ := K.2.1.1.length) (ke := 89) (pe := 128 * k) (se := (Md K).length) (km := 85) (pm := 128 * k) (sm := K.2.1.1.length) X h hmm rfl rfl rfl (by decide) (by decide) (by decide) (by decide) (by decide) (by decide) (by show _ ≤ 128; omega) (by show _ ≤ 2048; omega) (by show _ ≤ 2048; omega) (by omega) (by omega) (by rw [so_eq]; exact b82) (by rw [so_eq]; exact c89) (by rw [so_eq]; exact c85) (by rw [so_eq]; exact h62) (by rw [r1]; exact v1)
        rw [r1, r3, powF_b hb] at q4
        rw [so_eq] at q3
        have q1 : P_X13_raise G F (W.ad (.o 13 0)) (W.ad (.a 13 0 82)) 0 (Int32.ofNat (K.2.1.1.length)) (W.ad (.a 13 0 89)) (Int32.ofNat (128 * k)) (Int32.ofNat (Md K).length) (W.ad (.a 13 0 85)) (Int32.ofNat (128 * k)) (Int32.ofNat (K.2.1.1.length)) (mem W (S.so 13 0 o)) = _ := q1
        obtain ⟨sg, hsg⟩ : ∃ sg, sg = powF b (K.2.1.2.2.getD []) K.2.1.1 := ⟨_, rfl⟩
        have sgl : sg.length = K.2.1.1.length := by rw [hsg, powF_len]
        have md' : powF b (Md K) K.2.1.1 = sg := by rw [hsg]; rfl
        rw [md'] at q4
        have b62 : mB ((S1 13 0).sf 113 (Int32.ofNat (K.2.1.1.length))) 62 (wrB β62 0 sg) := q4
        have b112 : mB ((S1 13 0).sf 113 (Int32.ofNat (K.2.1.1.length))) 112 β112 := q3.mB h112 (by decide)
        have v := oM_move (G := G) (F := F) (S := S1) (o := (S1 13 0).sf 113 (Int32.ofNat (K.2.1.1.length))) (k1 := 62) (k2 := 112) (p1 := 0) (p2 := 0) (cnt := K.2.1.1.length) X h rfl rfl (by decide) (by decide) (by decide) (by show _ ≤ 128; omega) (by show _ ≤ 8200; omega) (by omega) b62 b112
        have rw1 : rdB (wrB β62 0 sg) 0 K.2.1.1.length = sg := by rw [← sgl]; exact rdB_wrB _ _ _
        rw [rw1] at v
        have v : P_X13_move G F (W.ad (.a 13 0 62)) 0 (W.ad (.a 13 0 112)) 0 (Int32.ofNat (K.2.1.1.length)) (mem W (S1.so 13 0 ((S1 13 0).sf 113 (Int32.ofNat (K.2.1.1.length))))) = _ := v
        obtain ⟨o2, ho2⟩ : ∃ o2, o2 = ((S1 13 0).sf 113 (Int32.ofNat (K.2.1.1.length))).sA 112 (fun j => sb (wrB β112 0 sg j)) := ⟨_, rfl⟩
        rw [← ho2] at v
        have a2 : agr [113] [] [112] [] (S1 13 0) o2 := by rw [ho2]; exact (agr_sf (by simp)).trans (agr_sA (by simp))
        have b112' : mB o2 112 (wrB β112 0 sg) := by rw [ho2]; exact mB_sA _ _ _
        have a3 : agr [113] [] [60, 61, 62, 112] [] o o2 := (q3.mono (by simp) (by simp) (by simp) (by simp)).trans (a2.mono (by simp) (by simp) (by simp) (by simp))
        have aa : agr [37, 73, 113] [] siL [33, 34] (S 13 0) o2 := (ao.mono (by simp) (by simp) (by simp [siL, soL]) (by simp)).trans (a3.mono (by simp) (by simp) (by simp [siL]) (by simp))
        have mk2 : MK S1 := mk1.rs3 q2 (by rw [so_eq]; exact q3)
        have mk2' : MK (S1.so 13 0 (S1 13 0)) := by rw [so_self]; exact mk2
        have E2 : mEv o2 := E1.keep a3 (fun q hq z => by
          simp only [List.mem_cons, List.not_mem_nil, or_false] at hq
          rcases hq with rfl | rfl | rfl | rfl
          · exact absurd z (by decide)
          · exact absurd z (by decide)
          · exact ⟨_, a2.mB q4 (by decide)⟩
          · exact ⟨_, b112'⟩)
        have ff : fr [(12, 0), (12, 1), (12, 2), (13, 0)] S (S1.so 13 0 o2) := by
          have f0 : fr [(12, 0), (12, 1), (12, 2), (13, 0)] S (S.so 13 0 o) := fr_so (by simp)
          exact (f0.trans (q2.mono (by simp))).trans (fr_so (by simp))
        refine ⟨S1.so 13 0 o2, ?_, ff, by rw [so_eq]; exact aa, mk2'.ag a2 (by decide) rfl, by rw [so_eq]; exact a3.mDig d1 (by decide), by rw [so_eq]; exact E2, fun s hs => ?_⟩
        · rw [es]
          unfold B_X13_signIt_140
          rw [h.gR 82 rfl (by decide), bO_s, h.gR 89 rfl (by decide), bO_s, h.gR 90 rfl (by decide), bO_s, rd90, bO_s, h.gR 85 rfl (by decide), bO_s, rcv_m h.lo, bO_s, e128, q1, bO_s, pfI_m h.lo rfl, bO_s, h.gR 62 rfl (by decide), bO_s, h.gR 112 rfl (by decide), bO_s, v, bO_s]
          rfl
        · rw [es, ← hsg] at hs
          rw [← Option.some.inj hs, so_eq, sgl]
          refine ⟨?_, _, b112', by rw [← sgl]; exact rdB_wrB _ _ _⟩
          rw [ho2]
          show (((S1 13 0).sf 113 (Int32.ofNat (K.2.1.1.length))).sA 112 _).f 113 = _
          rw [sA_f, sf_eq]
      by_cases c3 : a = 3
      · obtain ⟨hr, hyr⟩ := hy (by omega)
        have l67 : 67 ≤ K.2.1.1.length := by rw [c3] at kd2; exact kd2
        obtain ⟨βr, w1, w2⟩ := id hR
        obtain ⟨w3, w4, w5⟩ := w2 r hr
        have rd3 : aI G (mem W S) 0 (W.ad (.a 13 0 3)) (Int32.ofNat r) = some (Int32.ofNat (rows r).length) := by rw [h.aN rfl (show r < mLen 3 from hr) (by decide), w3]
        have x32 : ((32 : Int32) ≤ (Int32.ofNat (rows r).length)) = (32 ≤ (rows r).length) := propext (n_le (a := 32) (by omega) (by omega))
        rw [if_pos c3, h.gR 3 rfl (by decide), bO_s, hyr, rd3, bO_s]
        simp only [x32]
        by_cases c : 32 ≤ (rows r).length
        · have bo : P_X13_bitsOf G F (W.ad (.a 13 0 85)) (Int32.ofNat (128 * k)) (Int32.ofNat (K.2.1.1.length)) (mem W S) = some ((Int32.ofNat (8 * (K.2.1.1.length - 1) + (bitT K.2.1.1 + 1))), mem W S) := by
            have f0 : (α85 (128 * k)).toNat = gN K.2.1.1 0 := by
              have q : gN (rdB α85 (128 * k) K.2.1.1.length) 0 = gN K.2.1.1 0 := congrArg (fun l => gN l 0) r1
              rw [← q]
              unfold gN
              rw [List.getD_eq_getElem?_getD, rdB_at (by omega), Nat.add_zero]
              rfl
            exact QM_bitsOf X h rfl (by decide) (by show _ < 2048; omega) b85 y1 (by rw [f0]; exact y2) (by rw [f0]; exact y3) (by omega)
          have sal : rdB βr (8192 * r) 32 = seg (rows r) 0 32 := by
            rw [← w5, seg_rd (by omega)]
            rfl
          have ebits : (8 * (K.2.1.1.length - 1) + bitT K.2.1.1 + 7) / 8 ≤ K.2.1.1.length := by omega
          have e66 : 66 ≤ (8 * (K.2.1.1.length - 1) + bitT K.2.1.1 + 7) / 8 := by omega
          obtain ⟨o1, β, s1, s2, s3, s4, s5, s6, s7⟩ := oM_saltOut (G := G) (F := F) (S := S) (o := S 13 0) (kx := 2) (p := 8192 * r) (n := K.2.1.1.length) (bits := 8 * (K.2.1.1.length - 1) + bitT K.2.1.1) X h hd hmsg rfl (by decide) (by decide) (by show _ ≤ 65536; omega) w1 sal e66 ebits n128 (E 81 rfl) (E 82 rfl)
          rw [so_self] at s1
          have hb : beN (rdB β 0 K.2.1.1.length) = beN (psF (sha false msg) (seg (rows r) 0 32) (8 * (K.2.1.1.length - 1) + bitT K.2.1.1)) := by
            rw [← s3]
            have q := beN_fr (e := (8 * (K.2.1.1.length - 1) + bitT K.2.1.1 + 7) / 8) s4
            rw [show K.2.1.1.length - (8 * (K.2.1.1.length - 1) + bitT K.2.1.1 + 7) / 8 + (8 * (K.2.1.1.length - 1) + bitT K.2.1.1 + 7) / 8 = K.2.1.1.length by omega] at q
            exact q
          have es : sgF a K msg (if 3 ≤ a then rows r else []) = some (powF (psF (sha false msg) (seg (rows r) 0 32) (8 * (K.2.1.1.length - 1) + bitT K.2.1.1)) (K.2.1.2.2.getD []) K.2.1.1) := by
            unfold sgF
            rw [if_neg (by omega), if_neg (by omega), if_neg (by omega), if_pos (show 3 ≤ a by omega), if_pos c, if_pos c3]
          rw [if_pos c]
          unfold B_X13_signIt_95
          simp only [x3]
          rw [if_pos c3, h.gR 2 rfl (by decide), bO_s, h.gR 85 rfl (by decide), bO_s, e128, em, bo, bP_s, rcv_m h.lo, bO_s, show (8192 : Int32) * (Int32.ofNat r) = (Int32.ofNat (8192 * r)) from n_mul 8192 r, show 8 * (K.2.1.1.length - 1) + (bitT K.2.1.1 + 1) = 8 * (K.2.1.1.length - 1) + bitT K.2.1.1 + 1 by omega, n_subL 1 (by omega), show 8 * (K.2.1.1.length - 1) + bitT K.2.1.1 + 1 - 1 = 8 * (K.2.1.1.length - 1) + bitT K.2.1.1 by omega, s1, bO_s]
          exact fin o1 β _ s7 s5 s6 s2 hb es
        · have es : sgF a K msg (if 3 ≤ a then rows r else []) = none := by
            unfold sgF
            rw [if_neg (by omega), if_neg (by omega), if_neg (by omega), if_pos (show 3 ≤ a by omega), if_neg c]
          rw [if_neg c, es]
          exact ⟨S, rfl, fr.refl _ _, agr.refl _ _ _ _ _, mk, hd, E, fun sg hs => absurd hs (by simp)⟩
      · have c2' : a = 2 := by omega
        obtain ⟨o1, β, s1, s2, s3, s4, s5⟩ := QM_fillOut (G := G) (F := F) (S := S) (n := K.2.1.1.length) X h hd hmsg (E 82 rfl) (by omega) n128
        have es : sgF a K msg (if 3 ≤ a then rows r else []) = some (powF (pkF (sha false msg) K.2.1.1.length) (K.2.1.2.2.getD []) K.2.1.1) := by
          unfold sgF
          rw [if_neg (by omega), if_neg (by omega), if_pos c2']
        rw [if_neg c3]
        unfold B_X13_signIt_95
        simp only [x3]
        rw [if_neg c3, rcv_m h.lo, bO_s, em, s1, bO_s]
        obtain ⟨β81, h81⟩ := E 81 rfl
        exact fin o1 β _ (s5.mono (by simp) (by simp) (by simp [soL]) (by simp)) s4 ⟨_, s5.mB h81 (by decide)⟩ s2 (by rw [s3]) es
  · rw [if_neg c2]
    by_cases c0 : a = 0
    · rw [if_pos c0]
      exact code false c0
    · rw [if_neg c0]
      exact code true (show a = 1 by omega)
end MSI
