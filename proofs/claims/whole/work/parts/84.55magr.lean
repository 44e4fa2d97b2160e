/-! A FRESH POINT AND THE PARTIES IN A HEAD: the model -/
theorem oLn_n {x : Option Nat} (h : ∀ n, x = some n → n < 2 ^ 31) : (oLn x < (0 : Int32)) = (x = none) := by
  cases x with
  | none => exact propext ⟨fun _ => rfl, fun _ => by decide⟩
  | some n => exact propext ⟨fun q => absurd q (nn (h n rfl)), fun q => absurd q (by simp)⟩
theorem oI_ge {o : Option Nat} (h : ∀ i, o = some i → i < 2 ^ 31) : ((0 : Int32) ≤ oI o) = (o ≠ none) := by
  cases o with
  | none => exact propext ⟨fun q => absurd q (by decide), fun q => absurd rfl q⟩
  | some i => exact propext ⟨fun _ => by simp, fun _ => (n_le (a := 0) (by omega) (h i rfl)).mpr (Nat.zero_le _)⟩
theorem oI_lt {o : Option Nat} (h : ∀ i, o = some i → i < 2 ^ 31) : (oI o < (0 : Int32)) = (o = none) := by
  cases o with
  | none => exact propext ⟨fun _ => rfl, fun _ => by decide⟩
  | some i => exact propext ⟨fun q => absurd q (nn (h i rfl)), fun q => absurd q (by simp)⟩
section MAG
variable {W : WR} {G : mG} {F : Nat} {S : ST} {bk : Nat} {J : JT}
theorem oM_bytesOfV {j kt v : Nat} {o : Ob} (X : Cx G F W) (h : isM W) (M : MTx o bk J) (hbk : bk ≤ 1) (Y : JX J) (hj : j < 124) (hv : v < J.1) (qt : (kdA 13)[kt]? = some 1) (nt : kt ∉ [6, 7, 8, 9, 10, 11, 12, 13, 14, 15, 16]) (lt : mLen kt = 8200) (ht : ∃ γ, mB o kt γ) : ∃ o' γ, P_X13_bytesOf G F (W.ad (.o 13 0)) (Int32.ofNat bk) (Int32.ofNat v) (G.1 j) (W.ad (.a 13 0 kt)) (mem W (S.so 13 0 o)) = some (oLn ((ltB J (fN J (str j) (some v))).map List.length), mem W (S.so 13 0 o')) ∧ agr [29] [] [kt] [] o o' ∧ MTx o' bk J ∧ mB o' kt γ ∧ ∀ d, ltB J (fN J (str j) (some v)) = some d → rdB γ 0 d.length = d := by
  obtain ⟨γ0, ht⟩ := ht
  obtain ⟨γ, v2, q1, q2⟩ := QM_bytesOf (G := G) (F := F) (S := S.so 13 0 o) (j := j) (v := v) (kt := kt) X h (by rw [so_eq]; exact M) hbk Y hj hv qt (fun e => nt (by rw [e]; simp)) lt (by rw [so_eq]; exact ht)
  rw [so_eq, so_so] at q1
  have a : agr [29] [] [kt] [] o (un o kt γ v2) := by
    unfold un
    exact (agr_sA (by simp)).trans (agr_sf (by simp))
  refine ⟨un o kt γ v2, γ, ?_, a, M.agr a (fun k hk e => nt (by simp at e; rw [← e]; exact hk)), ?_, fun d hd => by rw [q2 d hd]; exact rdB_wrB _ _ _⟩
  · rw [q1]
    cases ltB J (fN J (str j) (some v)) <;> rfl
  · show ((o.sA kt (fun j => sb (γ j))).sf 29 v2).a kt = _
    exact mB_sA o kt γ
/-- a party's bytes in field kt, how many in field kf -/
def ptyM (o : Ob) (kf kt : Nat) (p : Option (List UInt8)) : Prop := o.f kf = oLn (p.map List.length) ∧ ∃ γ, mB o kt γ ∧ ∀ d, p = some d → rdB γ 0 d.length = d
theorem ptyM.ag {o o' : Ob} {kf kt : Nat} {p : Option (List UInt8)} {fs gs as ls : List Nat} (h : ptyM o kf kt p) (a : agr fs gs as ls o o') (h1 : kf ∉ fs) (h2 : kt ∉ as) : ptyM o' kf kt p := by
  obtain ⟨x1, γ, x2, x3⟩ := h
  exact ⟨(a.1 kf h1).trans x1, γ, a.mB x2 h2, x3⟩
theorem pa_len {o : Option Nat} (Y : JX J) : ∀ n, (paB J o).map List.length = some n → n < 2 ^ 31 := by
  intro n hn
  have Y1 := Y.1
  cases o with
  | none =>
    have : 0 = n := Option.some.inj hn
    omega
  | some i =>
    cases e : ltB J (some i) with
    | none =>
      have hn : (ltB J (some i)).map List.length = some n := hn
      rw [e] at hn
      exact absurd hn (by simp)
    | some d =>
      have hn : (ltB J (some i)).map List.length = some n := hn
      rw [e] at hn
      have := Option.some.inj hn
      have := ltB_len Y e
      omega
theorem oM_agr231 {o : Ob} {g : Bool} (h : isM W) (Y : JX J) (hu : o.f 110 = oLn ((paB J (fd J 71)).map List.length)) : B_X13_agreed_231 G F (W.ad (.o 13 0)) (if g = true then 1 else 0) (W.ad (.o 13 0)) (oLn ((paB J (fd J 72)).map List.length)) (mem W (S.so 13 0 o)) = some (if (g && ((paB J (fd J 71)).isSome && (paB J (fd J 72)).isSome)) = true then 0 else -23, mem W (S.so 13 0 (o.sf 111 (oLn ((paB J (fd J 72)).map List.length))))) := by
  unfold B_X13_agreed_231
  rw [pfI_m h.lo rfl, bO_s, so_eq, so_so]
  cases g with
  | false =>
    rw [if_pos (show (if false = true then (1 : Int32) else 0) = 0 from rfl)]
    rfl
  | true =>
    rw [if_neg (by decide), gfI_m h.lo rfl, bO_s, so_eq, sf_ne (by decide), hu]
    simp only [oLn_n (pa_len (o := fd J 71) Y)]
    cases e1 : paB J (fd J 71) with
    | none =>
      rw [if_pos (show (none : Option (List UInt8)).map List.length = none from rfl)]
      rfl
    | some u =>
      rw [if_neg (by simp), gfI_m h.lo rfl, bO_s, so_eq, sf_eq]
      simp only [oLn_n (pa_len (o := fd J 72) Y)]
      cases e2 : paB J (fd J 72) with
      | none =>
        rw [if_pos (show (none : Option (List UInt8)).map List.length = none from rfl)]
        rfl
      | some v =>
        rw [if_neg (by simp)]
        rfl
theorem oM_agr198 {o : Ob} {g : Bool} (X : Cx G F W) (h : isM W) (M : MTx o bk J) (hbk : bk ≤ 1) (Y : JX J) (h0 : 0 < J.1) (h109 : ∃ γ, mB o 109 γ) : ∃ o', B_X13_agreed_198 G F (W.ad (.o 13 0)) (Int32.ofNat bk) (if g = true then 1 else 0) (W.ad (.o 13 0)) (oLn ((paB J (fd J 71)).map List.length)) (mem W (S.so 13 0 o)) = some (if (g && ((paB J (fd J 71)).isSome && (paB J (fd J 72)).isSome)) = true then 0 else -23, mem W (S.so 13 0 o')) ∧ agr [29, 110, 111] [] [109] [] o o' ∧ o'.f 110 = oLn ((paB J (fd J 71)).map List.length) ∧ ptyM o' 111 109 (paB J (fd J 72)) := by
  obtain ⟨t1, t2, t3, t4, t5, t6, _⟩ := st_114
  obtain ⟨o1, ho1⟩ : ∃ o1, o1 = o.sf 110 (oLn ((paB J (fd J 71)).map List.length)) := ⟨_, rfl⟩
  have a1 : agr [29, 110, 111] [] [109] [] o o1 := by rw [ho1]; exact agr_sf (by decide)
  have u1 : o1.f 110 = oLn ((paB J (fd J 71)).map List.length) := by rw [ho1, sf_eq]
  have M1 : MTx o1 bk J := M.agr a1 (by decide)
  obtain ⟨γ0, h109⟩ := h109
  have c109 : mB o1 109 γ0 := by rw [ho1]; exact h109
  have M' : MTx ((S.so 13 0 o1) 13 0) bk J := by rw [so_eq]; exact M1
  have mo := QM_memberOf (G := G) (F := F) (v := 0) (j := 120) X h M' hbk Y (by decide) h0
  rw [t6] at mo
  have mo : P_X13_memberOf G F (W.ad (.o 13 0)) (Int32.ofNat bk) 0 (G.1 120) (mem W (S.so 13 0 o1)) = some (oI (fd J 72), mem W (S.so 13 0 o1)) := mo
  unfold B_X13_agreed_198
  rw [pfI_m h.lo rfl, bO_s, so_eq, so_so, ← ho1, rcv_m h.lo, bO_s, mo, bP_s]
  simp only [(show ((0 : Int32) ≤ oI (fd J 72)) = (fd J 72 ≠ none) from oI_ge (fN_b Y))]
  by_cases e : fd J 72 = none
  · have pv : paB J (fd J 72) = some [] := by rw [e]; rfl
    have q := oM_agr231 (G := G) (F := F) (S := S) (g := g) h Y u1
    rw [if_neg (fun q => q e)]
    rw [pv] at q ⊢
    refine ⟨_, q, a1.trans (agr_sf (by decide)), by rw [sf_ne (by decide)]; exact u1, by rw [sf_eq], γ0, c109, fun d hd => ?_⟩
    rw [← Option.some.inj hd]
    rfl
  · obtain ⟨i, hi⟩ := Option.ne_none_iff_exists'.mp e
    have pv : paB J (fd J 72) = ltB J (fd J 72) := by rw [hi]; rfl
    obtain ⟨o2, γ, q2, a2, M2, b2, r2⟩ := oM_bytesOfV (G := G) (F := F) (S := S) (o := o1) (j := 120) (v := 0) (kt := 109) X h M1 hbk Y (by decide) h0 rfl (by decide) rfl ⟨_, c109⟩
    rw [t6] at q2 r2
    have q2 : P_X13_bytesOf G F (W.ad (.o 13 0)) (Int32.ofNat bk) 0 (G.1 120) (W.ad (.a 13 0 109)) (mem W (S.so 13 0 o1)) = some (oLn ((ltB J (fd J 72)).map List.length), mem W (S.so 13 0 o2)) := q2
    have u2 : o2.f 110 = oLn ((paB J (fd J 71)).map List.length) := by rw [a2.1 110 (by decide)]; exact u1
    have q := oM_agr231 (G := G) (F := F) (S := S) (g := g) h Y u2
    rw [if_pos e, h.gR 109 rfl (by decide), bO_s, rcv_m h.lo, bO_s, q2, bP_s]
    rw [pv] at q ⊢
    have a2' : agr [29, 110, 111] [] [109] [] o1 o2 := a2.mono (by simp) (by simp) (by simp) (by simp)
    exact ⟨_, q, (a1.trans a2').trans (agr_sf (by decide)), by rw [sf_ne (by decide)]; exact u2, by rw [sf_eq], γ, b2, r2⟩
theorem oM_agr168 {o : Ob} {g : Bool} (X : Cx G F W) (h : isM W) (M : MTx o bk J) (hbk : bk ≤ 1) (Y : JX J) (h0 : 0 < J.1) (h108 : ∃ γ, mB o 108 γ) (h109 : ∃ γ, mB o 109 γ) : ∃ o', B_X13_agreed_168 G F (W.ad (.o 13 0)) (Int32.ofNat bk) (if g = true then 1 else 0) (mem W (S.so 13 0 o)) = some (if (g && ((paB J (fd J 71)).isSome && (paB J (fd J 72)).isSome)) = true then 0 else -23, mem W (S.so 13 0 o')) ∧ agr [29, 110, 111] [] [108, 109] [] o o' ∧ ptyM o' 110 108 (paB J (fd J 71)) ∧ ptyM o' 111 109 (paB J (fd J 72)) := by
  obtain ⟨t1, t2, t3, t4, t5, t6, _⟩ := st_114
  have M' : MTx ((S.so 13 0 o) 13 0) bk J := by rw [so_eq]; exact M
  have mo := QM_memberOf (G := G) (F := F) (v := 0) (j := 119) X h M' hbk Y (by decide) h0
  rw [t5] at mo
  have mo : P_X13_memberOf G F (W.ad (.o 13 0)) (Int32.ofNat bk) 0 (G.1 119) (mem W (S.so 13 0 o)) = some (oI (fd J 71), mem W (S.so 13 0 o)) := mo
  obtain ⟨γ0, h108⟩ := h108
  unfold B_X13_agreed_168
  rw [rcv_m h.lo, bO_s, mo, bP_s]
  simp only [(show ((0 : Int32) ≤ oI (fd J 71)) = (fd J 71 ≠ none) from oI_ge (fN_b Y))]
  by_cases e : fd J 71 = none
  · have pv : paB J (fd J 71) = some [] := by rw [e]; rfl
    obtain ⟨o', q1, q2, q3, q4⟩ := oM_agr198 (G := G) (F := F) (S := S) (o := o) (g := g) X h M hbk Y h0 h109
    rw [if_neg (fun q => q e)]
    rw [pv] at q1 q3 ⊢
    refine ⟨o', q1, q2.mono (by simp) (by simp) (by simp) (by simp), ⟨q3, γ0, q2.mB h108 (by decide), fun d hd => ?_⟩, q4⟩
    rw [← Option.some.inj hd]
    rfl
  · obtain ⟨i, hi⟩ := Option.ne_none_iff_exists'.mp e
    have pv : paB J (fd J 71) = ltB J (fd J 71) := by rw [hi]; rfl
    obtain ⟨o2, γ, z2, a2, M2, b2, r2⟩ := oM_bytesOfV (G := G) (F := F) (S := S) (o := o) (j := 119) (v := 0) (kt := 108) X h M hbk Y (by decide) h0 rfl (by decide) rfl ⟨_, h108⟩
    rw [t5] at z2 r2
    have z2 : P_X13_bytesOf G F (W.ad (.o 13 0)) (Int32.ofNat bk) 0 (G.1 119) (W.ad (.a 13 0 108)) (mem W (S.so 13 0 o)) = some (oLn ((ltB J (fd J 71)).map List.length), mem W (S.so 13 0 o2)) := z2
    obtain ⟨γ9, h109⟩ := h109
    obtain ⟨o', q1, q2, q3, q4⟩ := oM_agr198 (G := G) (F := F) (S := S) (o := o2) (g := g) X h M2 hbk Y h0 ⟨_, a2.mB h109 (by decide)⟩
    rw [if_pos e, h.gR 108 rfl (by decide), bO_s, rcv_m h.lo, bO_s, z2, bP_s]
    rw [pv] at q1 q3 ⊢
    exact ⟨o', q1, (a2.mono (by simp) (by simp) (by simp) (by simp)).trans (q2.mono (by simp) (by simp) (by simp) (by simp)), ⟨q3, γ, q2.mB b2 (by decide), r2⟩, q4⟩
theorem MK.pf {S S' : ST} (K : MK S) (f : PF S S') (q : MPq S') : MK S' := by
  obtain ⟨Q, MN, ⟨β63, h63, e63⟩, ⟨β64, h64, e64⟩, ⟨β65, h65, e65⟩, β67, h67⟩ := K
  exact ⟨q, MN.fr f.1 (by simp), ⟨β63, f.2.mB h63 (by decide), e63⟩, ⟨β64, f.2.mB h64 (by decide), e64⟩, ⟨β65, f.2.mB h65 (by decide), e65⟩, β67, f.2.mB h67 (by decide)⟩
abbrev agL_ : List Nat := [68, 69, 70, 71, 72, 74, 75, 76, 77, 78, 96, 97, 107, 108, 109]
theorem QM_agr122 {g : Bool} {x y : List UInt8} (X : Cx G F W) (h : isM W) (hp : isMp W) (mk : MK S) (M : MTx (S 13 0) bk J) (hbk : bk ≤ 1) (Y : JX J) (h0 : 0 < J.1) (h107 : ∃ γ, mB (S 13 0) 107 γ) (h108 : ∃ γ, mB (S 13 0) 108 γ) (h109 : ∃ γ, mB (S 13 0) 109 γ) (hx : g = true → x.length = 32 ∧ y.length = 32 ∧ (∃ γ, mB (S 13 0) 96 γ ∧ rdB γ 0 32 = x) ∧ ∃ γ, mB (S 13 0) 97 γ ∧ rdB γ 0 32 = y) : ∃ S', B_X13_agreed_122 G F (W.ad (.o 13 0)) (Int32.ofNat bk) (if g = true then 1 else 0) (mem W S) = some (if ((g && onC (beN x) (beN y)) && ((paB J (fd J 71)).isSome && (paB J (fd J 72)).isSome)) = true then 0 else -23, mem W S') ∧ fr [(12, 1), (13, 0)] S S' ∧ agr [29, 73, 110, 111] [] [68, 69, 70, 71, 72, 74, 75, 76, 77, 78, 107, 108, 109] [] (S 13 0) (S' 13 0) ∧ MK S' ∧ (∃ γ, mB (S' 13 0) 107 γ ∧ (g = true → rdB γ 0 64 = x ++ y)) ∧ ptyM (S' 13 0) 110 108 (paB J (fd J 71)) ∧ ptyM (S' 13 0) 111 109 (paB J (fd J 72)) := by
  obtain ⟨γ7, h107⟩ := h107
  obtain ⟨γ8, h108⟩ := h108
  obtain ⟨γ9, h109⟩ := h109
  unfold B_X13_agreed_122
  cases g with
  | false =>
    obtain ⟨o', q1, q2, q3, q4⟩ := oM_agr168 (G := G) (F := F) (S := S) (o := S 13 0) (g := false) X h M hbk Y h0 ⟨_, h108⟩ ⟨_, h109⟩
    rw [so_self] at q1
    have mk0 : MK (S.so 13 0 (S 13 0)) := by rw [so_self]; exact mk
    refine ⟨S.so 13 0 o', by rw [if_pos (show (if false = true then (1 : Int32) else 0) = 0 from rfl)]; exact q1, fr_so (by simp), ?_, mk0.ag q2 (by decide) rfl, ⟨γ7, ?_, fun q => absurd q (by decide)⟩, ?_, ?_⟩
    · rw [so_eq]
      exact q2.mono (by simp) (by simp) (by simp) (by simp)
    · rw [so_eq]
      exact q2.mB h107 (by decide)
    · rw [so_eq]
      exact q3
    · rw [so_eq]
      exact q4
  | true =>
    obtain ⟨lx, ly, ⟨γa, ha, ea⟩, γb, hb, eb⟩ := hx rfl
    have v1 := QM_move (G := G) (F := F) (S := S) (k1 := 96) (k2 := 107) (p1 := 0) (p2 := 0) (cnt := 32) X h rfl rfl (by decide) (by decide) (by decide) (by decide) (by decide) (by decide) ha h107
    rw [ea] at v1
    obtain ⟨o1, ho1⟩ : ∃ o1, o1 = (S 13 0).sA 107 (fun j => sb (wrB γ7 0 x j)) := ⟨_, rfl⟩
    rw [← ho1] at v1
    have a1 : agr [] [] [107] [] (S 13 0) o1 := by rw [ho1]; exact agr_sA (by simp)
    have c1 : mB o1 107 (wrB γ7 0 x) := by rw [ho1]; exact mB_sA _ _ _
    have v2 := QM_move (G := G) (F := F) (S := S.so 13 0 o1) (k1 := 97) (k2 := 107) (p1 := 0) (p2 := 32) (cnt := 32) X h rfl rfl (by decide) (by decide) (by decide) (by decide) (by decide) (by decide) (by rw [so_eq]; exact a1.mB hb (by decide)) (by rw [so_eq]; exact c1)
    rw [eb, so_eq, so_so] at v2
    obtain ⟨o2, ho2⟩ : ∃ o2, o2 = o1.sA 107 (fun j => sb (wrB (wrB γ7 0 x) 32 y j)) := ⟨_, rfl⟩
    rw [← ho2] at v2
    have a2 : agr [] [] [107] [] (S 13 0) o2 := by rw [ho2]; exact a1.trans (agr_sA (by simp))
    have c2 : mB o2 107 (wrB (wrB γ7 0 x) 32 y) := by rw [ho2]; exact mB_sA _ _ _
    have r2 : rdB (wrB (wrB γ7 0 x) 32 y) 0 64 = x ++ y := rd_two γ7 x y lx ly
    have rx : rdB (wrB (wrB γ7 0 x) 32 y) 0 32 = x := by
      rw [rdB_off (by omega), ← lx]
      exact rdB_wrB _ _ _
    have ry : rdB (wrB (wrB γ7 0 x) 32 y) (0 + 32) 32 = y := by
      rw [show 0 + 32 = 32 from rfl, ← ly]
      exact rdB_wrB _ _ _
    have mk0 : MK (S.so 13 0 (S 13 0)) := by rw [so_self]; exact mk
    have mk2 : MK (S.so 13 0 o2) := mk0.ag a2 (by decide) rfl
    obtain ⟨S3, w1, w2, w3, w4⟩ := QM_setPoint (G := G) (F := F) (S := S.so 13 0 o2) (kb := 107) (p := 0) X h hp rfl (by decide) (by decide) mk2.1 (by rw [so_eq]; exact c2)
    rw [rx, ry] at w1
    have w1 : P_X13_setPoint G F (W.ad (.o 13 0)) (W.ad (.a 13 0 107)) 0 (mem W (S.so 13 0 o2)) = _ := w1
    have v1 : P_X13_move G F (W.ad (.a 13 0 96)) 0 (W.ad (.a 13 0 107)) 0 32 (mem W S) = _ := v1
    have v2 : P_X13_move G F (W.ad (.a 13 0 97)) 0 (W.ad (.a 13 0 107)) 32 32 (mem W (S.so 13 0 o1)) = _ := v2
    have a3 : agr [73] [] [68, 69, 70, 71, 72, 74, 75, 76, 77, 78, 107] [] (S 13 0) (S3 13 0) := by
      have q := w2.2
      rw [so_eq] at q
      exact (a2.mono (by simp) (by simp) (by simp) (by simp)).trans (q.mono (by simp) (by simp) (by simp) (by simp))
    have mk3 : MK S3 := mk2.pf w2 w3
    have c3 : mB (S3 13 0) 107 (wrB (wrB γ7 0 x) 32 y) := by
      have q := w2.2
      rw [so_eq] at q
      exact q.mB c2 (by decide)
    obtain ⟨o', q1, q2, q3, q4⟩ := oM_agr168 (G := G) (F := F) (S := S3) (o := S3 13 0) (g := onC (beN x) (beN y)) X h (M.agr a3 (by decide)) hbk Y h0 ⟨_, a3.mB h108 (by decide)⟩ ⟨_, a3.mB h109 (by decide)⟩
    rw [so_self] at q1
    have mk4 : MK (S3.so 13 0 (S3 13 0)) := by rw [so_self]; exact mk3
    rw [if_neg (by decide), h.gR 96 rfl (by decide), bO_s, h.gR 107 rfl (by decide), bO_s, v1, bO_s, h.gR 97 rfl (by decide), bO_s, h.gR 107 rfl (by decide), bO_s, v2, bO_s, h.gR 107 rfl (by decide), bO_s, rcv_m h.lo, bO_s, w1, bP_s, Bool.true_and]
    have f3 : fr [(12, 1), (13, 0)] S S3 := (fr_so (by simp)).trans w2.1
    refine ⟨S3.so 13 0 o', q1, f3.trans (fr_so (by simp)), ?_, mk4.ag q2 (by decide) rfl, ⟨wrB (wrB γ7 0 x) 32 y, ?_, fun _ => r2⟩, ?_, ?_⟩
    · rw [so_eq]
      exact (a3.mono (by simp) (by simp) (by simp) (by simp)).trans (q2.mono (by simp) (by simp) (by simp) (by simp))
    · rw [so_eq]
      exact q2.mB c3 (by decide)
    · rw [so_eq]
      exact q3
    · rw [so_eq]
      exact q4
/-- what the model asks of a head that agrees -/
def agM (J : JT) : Bool := agB J && onC (beN (lB J (fN J (str 29) (fd J 68)))) (beN (lB J (fN J (str 30) (fd J 68))))
theorem QM_agreed (X : Cx G F W) (h : isM W) (hp : isMp W) (mk : MK S) (M : MTx (S 13 0) bk J) (hbk : bk ≤ 1) (Y : JX J) (h0 : 0 < J.1) (h96 : ∃ γ, mB (S 13 0) 96 γ) (h97 : ∃ γ, mB (S 13 0) 97 γ) (h107 : ∃ γ, mB (S 13 0) 107 γ) (h108 : ∃ γ, mB (S 13 0) 108 γ) (h109 : ∃ γ, mB (S 13 0) 109 γ) : ∃ S', P_X13_agreed G F (W.ad (.o 13 0)) (Int32.ofNat bk) (mem W S) = some (if agM J = true then 0 else -23, mem W S') ∧ fr [(12, 1), (13, 0)] S S' ∧ agr [29, 73, 110, 111] [] agL_ [] (S 13 0) (S' 13 0) ∧ MK S' ∧ (∃ γ, mB (S' 13 0) 96 γ) ∧ (∃ γ, mB (S' 13 0) 97 γ) ∧ (∃ γ, mB (S' 13 0) 107 γ ∧ (agM J = true → rdB γ 0 64 = epB J)) ∧ ptyM (S' 13 0) 110 108 (paB J (fd J 71)) ∧ ptyM (S' 13 0) 111 109 (paB J (fd J 72)) := by
  obtain ⟨t1, t2, t3, t4, t5, t6, t7, t8, t9, t10, t11, t12, t13, t14, t15⟩ := st_114
  have Y2 := Y.2.1
  -- the end, once it is known whether the point is well told
  have fin : ∀ (g : Bool) (S1 : ST), agr [29] [] [96, 97] [] (S 13 0) (S1 13 0) → fr [(12, 1), (13, 0)] S S1 → MK S1 → MTx (S1 13 0) bk J → (∃ γ, mB (S1 13 0) 96 γ) → (∃ γ, mB (S1 13 0) 97 γ) → (agM J = ((g && onC (beN (lB J (fN J (str 29) (fd J 68)))) (beN (lB J (fN J (str 30) (fd J 68))))) && ((paB J (fd J 71)).isSome && (paB J (fd J 72)).isSome))) → (g = true → (lB J (fN J (str 29) (fd J 68))).length = 32 ∧ (lB J (fN J (str 30) (fd J 68))).length = 32 ∧ (∃ γ, mB (S1 13 0) 96 γ ∧ rdB γ 0 32 = lB J (fN J (str 29) (fd J 68))) ∧ ∃ γ, mB (S1 13 0) 97 γ ∧ rdB γ 0 32 = lB J (fN J (str 30) (fd J 68))) → ∃ S', B_X13_agreed_122 G F (W.ad (.o 13 0)) (Int32.ofNat bk) (if g = true then 1 else 0) (mem W S1) = some (if agM J = true then 0 else -23, mem W S') ∧ fr [(12, 1), (13, 0)] S S' ∧ agr [29, 73, 110, 111] [] agL_ [] (S 13 0) (S' 13 0) ∧ MK S' ∧ (∃ γ, mB (S' 13 0) 96 γ) ∧ (∃ γ, mB (S' 13 0) 97 γ) ∧ (∃ γ, mB (S' 13 0) 107 γ ∧ (agM J = true → rdB γ 0 64 = epB J)) ∧ ptyM (S' 13 0) 110 108 (paB J (fd J 71)) ∧ ptyM (S' 13 0) 111 109 (paB J (fd J 72)) := by
    intro g S1 a f mk1 M1 b96 b97 hg hx
    obtain ⟨γ7, h107⟩ := h107
    obtain ⟨γ8, h108⟩ := h108
    obtain ⟨γ9, h109⟩ := h109
    obtain ⟨γa, b96⟩ := b96
    obtain ⟨γb, b97⟩ := b97
    obtain ⟨S', q1, q2, q3, q4, ⟨γ, q5, q6⟩, q7, q8⟩ := QM_agr122 (G := G) (F := F) (S := S1) (g := g) X h hp mk1 M1 hbk Y h0 ⟨_, a.mB h107 (by decide)⟩ ⟨_, a.mB h108 (by decide)⟩ ⟨_, a.mB h109 (by decide)⟩ hx
    rw [← hg] at q1
    refine ⟨S', q1, f.trans q2, (a.mono (by simp) (by simp) (by simp [agL_]) (by simp)).trans (q3.mono (by simp) (by simp) (by simp [agL_]) (by simp)), q4, ⟨_, q3.mB b96 (by decide)⟩, ⟨_, q3.mB b97 (by decide)⟩, ⟨γ, q5, fun z => ?_⟩, q7, q8⟩
    have gt : g = true := by
      rw [hg] at z
      cases g with
      | true => rfl
      | false => exact absurd z (by simp)
    exact q6 gt
  have M0 : MTx ((S.so 13 0 (S 13 0)) 13 0) bk J := by rw [so_eq]; exact M
  have mo := QM_memberOf (G := G) (F := F) (S := S) (v := 0) (j := 118) X h M hbk Y (by decide) h0
  rw [t4] at mo
  have mo : P_X13_memberOf G F (W.ad (.o 13 0)) (Int32.ofNat bk) 0 (G.1 118) (mem W S) = some (oI (fd J 68), mem W S) := mo
  -- nothing was told
  have no : ∀ x : Int32, agB J = false → ∃ S', B_X13_agreed_76 G F (W.ad (.o 13 0)) (Int32.ofNat bk) x 0 (mem W S) = some (if agM J = true then 0 else -23, mem W S') ∧ fr [(12, 1), (13, 0)] S S' ∧ agr [29, 73, 110, 111] [] agL_ [] (S 13 0) (S' 13 0) ∧ MK S' ∧ (∃ γ, mB (S' 13 0) 96 γ) ∧ (∃ γ, mB (S' 13 0) 97 γ) ∧ (∃ γ, mB (S' 13 0) 107 γ ∧ (agM J = true → rdB γ 0 64 = epB J)) ∧ ptyM (S' 13 0) 110 108 (paB J (fd J 71)) ∧ ptyM (S' 13 0) 111 109 (paB J (fd J 72)) := by
    intro x e
    unfold B_X13_agreed_76
    rw [if_pos rfl]
    exact fin false S (agr.refl _ _ _ _ _) (fr.refl _ _) mk M h96 h97 (by unfold agM; rw [e]; rfl) (fun q => absurd q (by decide))
  unfold P_X13_agreed
  rw [rcv_m h.lo, bO_s, mo, bP_s]
  simp only [(show (oI (fd J 68) < (0 : Int32)) = (fd J 68 = none) from oI_lt (fN_b Y))]
  cases e : fd J 68 with
  | none =>
    rw [if_pos rfl]
    exact no _ (by unfold agB; rw [e]; rfl)
  | some i =>
    have hi := fN_lt e
    obtain ⟨d1, _⟩ := M.2.1 i (Nat.zero_le _) hi
    have yi := (Y.2.2 i hi).1
    have il : 600 * bk + i < 1200 := by omega
    have e6 : ((Int32.ofNat (J.2.1 1 i)) = (6 : Int32)) = (J.2.1 1 i = 6) := propext (n_eq (b := 6) (by omega) (by omega))
    have k6 : kB J (some i) 6 = decide (J.2.1 1 i = 6) := by
      show (decide (i < J.1) && decide (J.2.1 1 i = 6)) = _
      rw [decide_eq_true hi, Bool.true_and]
    rw [if_neg (by simp), mvr h 6, bO_s, show (600 : Int32) * (Int32.ofNat bk) + oI (some i) = (Int32.ofNat (600 * bk + i)) from m600, mva h 6 _ il, bO_s, d1, show oI (some i) = (Int32.ofNat i) from rfl]
    simp only [e6]
    by_cases z6 : J.2.1 1 i = 6
    · have m1 := QM_memberOf (G := G) (F := F) (v := i) (j := 84) X h M hbk Y (by decide) hi
      have m2 := QM_memberOf (G := G) (F := F) (v := i) (j := 91) X h M hbk Y (by decide) hi
      have s1 := QM_says (G := G) (F := F) (o := fN J (str 84) (some i)) (j := 87) X h M hbk Y (by decide) (fun k hk => fN_lt hk)
      have s2 := QM_says (G := G) (F := F) (o := fN J (str 91) (some i)) (j := 92) X h M hbk Y (by decide) (fun k hk => fN_lt hk)
      rw [t10, t11] at s1
      rw [t12, t13] at s2
      rw [t10] at m1
      rw [t12] at m2
      rw [if_pos z6, rcv_m h.lo, bO_s, m1, bP_s, rcv_m h.lo, bO_s, s1, bP_s]
      by_cases z1 : sayB J (fN J (str 69) (some i)) (str 70) = true
      · rw [if_pos z1, if_neg (by decide), rcv_m h.lo, bO_s, m2, bP_s, rcv_m h.lo, bO_s, s2, bP_s]
        by_cases z2 : sayB J (fN J (str 27) (some i)) (str 28) = true
        · rw [if_pos z2, if_neg (by decide)]
          obtain ⟨o1, γ1, q1, a1, M1, b1, r1⟩ := oM_bytesOfV (G := G) (F := F) (S := S) (o := S 13 0) (j := 95) (v := i) (kt := 96) X h M hbk Y (by decide) hi rfl (by decide) rfl h96
          rw [t14, so_self] at q1
          rw [t14] at r1
          obtain ⟨γ97, c97⟩ := h97
          obtain ⟨o2, γ2, q2, a2, M2, b2, r2⟩ := oM_bytesOfV (G := G) (F := F) (S := S) (o := o1) (j := 97) (v := i) (kt := 97) X h M1 hbk Y (by decide) hi rfl (by decide) rfl ⟨_, a1.mB c97 (by decide)⟩
          rw [t15] at q2 r2
          have mk0 : MK (S.so 13 0 (S 13 0)) := by rw [so_self]; exact mk
          have mk1 : MK (S.so 13 0 o1) := mk0.ag a1 (by decide) rfl
          have mk2 : MK (S.so 13 0 o2) := mk1.ag a2 (by decide) rfl
          have a1' : agr [29] [] [96, 97] [] (S 13 0) o1 := a1.mono (by simp) (by simp) (by simp) (by simp)
          have a2' : agr [29] [] [96, 97] [] (S 13 0) o2 := a1'.trans (a2.mono (by simp) (by simp) (by simp) (by simp))
          have Y1 := Y.1
          have len : ∀ p : Option Nat, (oLn ((ltB J p).map List.length) = (32 : Int32)) = ((ltB J p).isSome = true ∧ inL (lB J p) 32 32 = true) := by
            intro p
            unfold lB inL
            cases hp : ltB J p with
            | none => exact propext ⟨fun q => absurd q (by decide), fun q => absurd q.1 (by decide)⟩
            | some d =>
              have dl := ltB_len Y hp
              show ((Int32.ofNat d.length) = (32 : Int32)) = _
              refine propext ⟨fun q => ⟨rfl, ?_⟩, fun q => ?_⟩
              · have := (n_eq (b := 32) (by omega) (by omega)).mp q
                show (decide (32 ≤ d.length) && decide (d.length ≤ 32)) = true
                rw [this]
                rfl
              · have q : (decide (32 ≤ d.length) && decide (d.length ≤ 32)) = true := q.2
                rw [Bool.and_eq_true, decide_eq_true_iff, decide_eq_true_iff] at q
                rw [show d.length = 32 by omega]
                rfl
          have ag0 : agB J = (((ltB J (fN J (str 29) (some i))).isSome && (ltB J (fN J (str 30) (some i))).isSome) && (decide (inL (lB J (fN J (str 29) (some i))) 32 32 = true ∧ inL (lB J (fN J (str 30) (some i))) 32 32 = true) && ((paB J (fd J 71)).isSome && (paB J (fd J 72)).isSome))) := by
            unfold agB ptL
            rw [e, k6, decide_eq_true z6, z1, z2]
            rfl
          unfold B_X13_agreed_76
          rw [if_neg (by decide), h.gR 96 rfl (by decide), bO_s, rcv_m h.lo, bO_s, q1, bP_s]
          simp only [len]
          rw [e] at fin
          by_cases z3 : (ltB J (fN J (str 29) (some i))).isSome = true ∧ inL (lB J (fN J (str 29) (some i))) 32 32 = true
          · rw [if_pos z3, h.gR 97 rfl (by decide), bO_s, rcv_m h.lo, bO_s, q2, bP_s]
            simp only [len]
            have f2 : fr [(12, 1), (13, 0)] S (S.so 13 0 o2) := fr_so (by simp)
            by_cases z4 : (ltB J (fN J (str 30) (some i))).isSome = true ∧ inL (lB J (fN J (str 30) (some i))) 32 32 = true
            · rw [if_pos z4]
              have l32 : ∀ d : List UInt8, inL d 32 32 = true → d.length = 32 := by
                intro d q
                unfold inL at q
                rw [Bool.and_eq_true, decide_eq_true_iff, decide_eq_true_iff] at q
                omega
              have g := fin true (S.so 13 0 o2) (by rw [so_eq]; exact a2') f2 mk2 (by rw [so_eq]; exact M2) (by rw [so_eq]; exact ⟨_, a2.mB b1 (by decide)⟩) (by rw [so_eq]; exact ⟨_, b2⟩) (by
                unfold agM
                rw [ag0, e, z3.1, z4.1, decide_eq_true (show inL (lB J (fN J (str 29) (some i))) 32 32 = true ∧ inL (lB J (fN J (str 30) (some i))) 32 32 = true from ⟨z3.2, z4.2⟩)]
                simp only [Bool.true_and]
                exact Bool.and_comm _ _) (fun _ => by
                refine ⟨l32 _ z3.2, l32 _ z4.2, ⟨γ1, ?_, ?_⟩, γ2, ?_, ?_⟩
                · rw [so_eq]
                  exact a2.mB b1 (by decide)
                · have := r1 _ (lB_of z3.1)
                  rw [l32 _ z3.2] at this
                  exact this
                · rw [so_eq]
                  exact b2
                · have := r2 _ (lB_of z4.1)
                  rw [l32 _ z4.2] at this
                  exact this)
              exact g
            · rw [if_neg z4]
              have g := fin false (S.so 13 0 o2) (by rw [so_eq]; exact a2') f2 mk2 (by rw [so_eq]; exact M2) (by rw [so_eq]; exact ⟨_, a2.mB b1 (by decide)⟩) (by rw [so_eq]; exact ⟨_, b2⟩) (by
                have : agB J = false := by
                  rw [ag0]
                  refine Bool.eq_false_iff.mpr (fun q => z4 ?_)
                  rw [Bool.and_eq_true, Bool.and_eq_true, Bool.and_eq_true, decide_eq_true_iff] at q
                  exact ⟨q.1.2, q.2.1.2⟩
                unfold agM
                rw [this]
                rfl) (fun q => absurd q (by decide))
              exact g
          · rw [if_neg z3]
            have f1 : fr [(12, 1), (13, 0)] S (S.so 13 0 o1) := fr_so (by simp)
            have g := fin false (S.so 13 0 o1) (by rw [so_eq]; exact a1') f1 mk1 (by rw [so_eq]; exact M1) (by rw [so_eq]; exact ⟨_, b1⟩) (by rw [so_eq]; exact ⟨_, a1.mB c97 (by decide)⟩) (by
              have : agB J = false := by
                rw [ag0]
                refine Bool.eq_false_iff.mpr (fun q => z3 ?_)
                rw [Bool.and_eq_true, Bool.and_eq_true, Bool.and_eq_true, decide_eq_true_iff] at q
                exact ⟨q.1.1, q.2.1.1⟩
              unfold agM
              rw [this]
              rfl) (fun q => absurd q (by decide))
            exact g
        · rw [if_neg z2, if_pos rfl]
          exact no _ (by unfold agB ptL; rw [e, z1, Bool.eq_false_iff.mpr z2]; simp)
      · rw [if_neg z1, if_pos rfl]
        exact no _ (by unfold agB; rw [e, Bool.eq_false_iff.mpr z1]; simp)
    · rw [if_neg z6]
      exact no _ (by unfold agB; rw [e, k6, decide_eq_false z6]; rfl)
end MAG
