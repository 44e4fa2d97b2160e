/-! KEYS AGREED ON: the model -/
abbrev mpA (kt : Nat) : List Nat := [67, 68, 69, 70, 71, 72, 74, 75, 76, 77, 78, kt]
abbrev agA : List Nat := [31, 32, 35, 36, 67, 68, 69, 70, 71, 72, 74, 75, 76, 77, 78, 80, 130, 131]
section MAG
variable {W : WR} {G : mG} {F : Nat} {S : ST} {A : Nat → Option KY} {K : KY}
/-- a point times a secret -/
theorem QM_mulPt {kb p ks ps kt : Nat} {βb βs : Nat → UInt8} {sec pt : List UInt8} {q : Nat × Nat} (X : Cx G F W) (h : isM W) (hp : isMp W) (mk : MK S) (E : mEv (S 13 0)) (qb : (kdA 13)[kb]? = some 1) (qs : (kdA 13)[ks]? = some 1) (qt : (kdA 13)[kt]? = some 1) (lb_ : mLen kb < 2 ^ 30) (ls_ : mLen ks < 2 ^ 30) (lt_ : mLen kt < 2 ^ 30) (rb : p + 64 ≤ mLen kb) (rs : ps + 32 ≤ mLen ks) (rt : 64 ≤ mLen kt) (ns : ks ∉ [68, 69, 70, 71, 72, 74, 75, 76, 77, 78]) (nt : kt ∉ [63, 64, 65, 66, 67, 68, 69, 70, 71, 72, 74, 75, 76, 77, 78]) (hb : mB (S 13 0) kb βb) (hs : mB (S 13 0) ks βs) (eb : rdB βb p 64 = pt) (es : rdB βs ps 32 = sec) (ho : onC (beN (seg pt 0 32)) (beN (seg pt 32 32)) = true) (hq : affS (mulS sec (ptOf pt)) = some q) : ∃ S1 S2 S3, P_X13_setPoint G F (W.ad (.o 13 0)) (W.ad (.a 13 0 kb)) (Int32.ofNat p) (mem W S) = some (1, mem W S1) ∧ P_X13_times_ G F (W.ad (.o 13 0)) (W.ad (.a 13 0 ks)) (Int32.ofNat ps) (mem W S1) = some (mem W S2) ∧ P_X13_getPoint G F (W.ad (.o 13 0)) (W.ad (.a 13 0 kt)) 0 (mem W S2) = some (1, mem W S3) ∧ fr [(12, 1), (13, 0)] S S3 ∧ agr [73] [] (mpA kt) [] (S 13 0) (S3 13 0) ∧ MK S3 ∧ mEv (S3 13 0) ∧ ∃ β, mB (S3 13 0) kt β ∧ rdB β 0 64 = ptB q := by
  simp only [List.mem_cons, List.not_mem_nil, or_false, not_or] at nt
  obtain ⟨Q, MN, ⟨β63, h63, e63⟩, ⟨β64, h64, e64⟩, ⟨β65, h65, e65⟩, β67, h67⟩ := id mk
  obtain ⟨βt, ht⟩ := E kt qt
  obtain ⟨S1, g1, f1, Q1, r1⟩ := QM_setPoint (G := G) (F := F) (kb := kb) (p := p) X h hp qb lb_ rb Q hb
  have ex : rdB βb p 32 = seg pt 0 32 := by
    rw [← eb, seg_rd (by decide)]
    rfl
  have ey : rdB βb (p + 32) 32 = seg pt 32 32 := by rw [← eb, seg_rd (by decide)]
  rw [ex, ey] at g1 r1
  rw [ho, if_pos rfl] at g1
  obtain ⟨V1, C1, v8, v9, v10⟩ := r1 ho
  have e89 : (V1 8, V1 9) = ptOf pt := by rw [v8, v9]; rfl
  obtain ⟨S2, V2, g2, f2, C2, k2, J2⟩ := QM_times (G := G) (F := F) (S := S1) (kb := ks) (p := ps) pr_p X h hp qs ls_ rs C1 (f1.2.mB hs ns)
  rw [e89, es] at J2
  have nt' : kt ∉ [68, 69, 70, 71, 72, 74, 75, 76, 77, 78] := by simp; omega
  have b67 : ∃ β, mB (S2 13 0) 67 β := ⟨β67, f2.2.mB (f1.2.mB h67 (by decide)) (by decide)⟩
  obtain ⟨S3, V3, g3, f3, a3, C3, k3, m67, r3⟩ := QM_getPoint (G := G) (F := F) (S := S2) (kt := kt) (pt := 0) X h hp qt (by omega) (by omega) lt_ (by omega) C2 J2 (f2.2.mB (f1.2.mB h63 (by decide)) (by decide)) e63 b67 (f2.2.mB (f1.2.mB ht nt') nt')
  rw [hq] at r3 g3
  have r3 : mB (S3 13 0) kt (wrB βt 0 (ptB q)) := r3
  have ff : fr [(12, 1), (13, 0)] S S3 := (f1.1.trans f2.1).trans f3
  have aa : agr [73] [] (mpA kt) [] (S 13 0) (S3 13 0) := ((f1.2.mono (by simp) (by simp) (by simp) (by simp)).trans (f2.2.mono (by simp) (by simp) (by simp) (by simp))).trans (a3.mono (by simp) (by simp) (by simp) (by simp))
  have nk : ∀ n, n = 63 ∨ n = 64 ∨ n = 65 → n ∉ mpA kt := fun n hn => by
    simp only [mpA, List.mem_cons, List.not_mem_nil, or_false]
    omega
  refine ⟨S1, S2, S3, g1, g2, g3, ff, aa, ⟨C3.q ((k3 10 (by omega)).trans ((k2 10 (by omega)).trans v10)), MN.fr ff (by decide), ⟨β63, aa.mB h63 (nk 63 (by omega)), e63⟩, ⟨β64, aa.mB h64 (nk 64 (by omega)), e64⟩, ⟨β65, aa.mB h65 (nk 65 (by omega)), e65⟩, m67⟩, E.keep aa (fun n hn z => ?_), _, r3, ?_⟩
  · simp only [mpA, List.mem_cons, List.not_mem_nil, or_false] at hn
    rcases hn with rfl | rfl | rfl | rfl | rfl | rfl | rfl | rfl | rfl | rfl | rfl | rfl
    · exact m67
    · exact absurd z (by decide)
    · exact absurd z (by decide)
    · exact absurd z (by decide)
    · exact absurd z (by decide)
    · exact absurd z (by decide)
    · exact absurd z (by decide)
    · exact absurd z (by decide)
    · exact absurd z (by decide)
    · exact absurd z (by decide)
    · exact absurd z (by decide)
    · exact ⟨_, r3⟩
  · have e1 := rdB_wrB βt 0 (ptB q)
    rw [ptB_len] at e1
    exact e1
/-- a party's bytes, as they stand -/
def pyM (o : Ob) (f k : Nat) (u : List UInt8) : Prop := o.f f = (Int32.ofNat u.length) ∧ ∃ β, mB o k β ∧ rdB β 0 u.length = u
theorem pyM.ag {o o' : Ob} {f k : Nat} {u : List UInt8} {fs gs as ls : List Nat} (P : pyM o f k u) (a : agr fs gs as ls o o') (h1 : f ∉ fs) (h2 : k ∉ as) : pyM o' f k u := by
  obtain ⟨p1, β, p2, p3⟩ := P
  exact ⟨by rw [a.1 f h1, p1], β, a.mB p2 h2, p3⟩
theorem QM_agree {kb p ks ps a w : Nat} {βb βs : Nat → UInt8} {sec pt u v : List UInt8} (X : Cx G F W) (h : isM W) (hp : isMp W) (mk : MK S) (dg : mDig (S 13 0)) (E : mEv (S 13 0)) (ha : a < 6) (ha4 : 4 ≤ a) (hw : w < 4) (qb : (kdA 13)[kb]? = some 1) (qs : (kdA 13)[ks]? = some 1) (lb_ : mLen kb < 2 ^ 30) (ls_ : mLen ks < 2 ^ 30) (rb : p + 64 ≤ mLen kb) (rs : ps + 32 ≤ mLen ks) (ns : ks ∉ [68, 69, 70, 71, 72, 74, 75, 76, 77, 78]) (hb : mB (S 13 0) kb βb) (hs : mB (S 13 0) ks βs) (eb : rdB βb p 64 = pt) (es : rdB βs ps 32 = sec) (hsec : secF sec = true) (ho : onC (beN (seg pt 0 32)) (beN (seg pt 32 32)) = true) (U : pyM (S 13 0) 110 108 u) (V : pyM (S 13 0) 111 109 v) (hu : u.length ≤ 8192) (hv : v.length ≤ 8192) : ∃ S', P_X13_agree G F (W.ad (.o 13 0)) (W.ad (.a 13 0 ks)) (Int32.ofNat ps) (W.ad (.a 13 0 kb)) (Int32.ofNat p) (Int32.ofNat a) (Int32.ofNat w) (mem W S) = some (1, mem W S') ∧ fr [(12, 1), (13, 0)] S S' ∧ agr [37, 73] [] agA [33, 34] (S 13 0) (S' 13 0) ∧ MK S' ∧ mDig (S' 13 0) ∧ mEv (S' 13 0) ∧ ∃ δ, mB (S' 13 0) 80 δ ∧ rdB δ 0 (dkM a w) = dkF a w sec pt u v := by
  obtain ⟨q, hq⟩ := shX_some (sec := sec) (pt := pt) (by rw [← es, rdB_len]) hsec ho
  obtain ⟨S1, S2, S3, g1, g2, g3, f3, a3, mk3, E3, β130, b130, e130⟩ := QM_mulPt (G := G) (F := F) (S := S) (kb := kb) (p := p) (ks := ks) (ps := ps) (kt := 130) X h hp mk E qb qs rfl lb_ ls_ (by decide) rb rs (by decide) ns (by decide) hb hs eb es ho hq
  have sh : rdB β130 0 32 = shX sec pt := by
    rw [rdB_take _ 0 64 32 (by decide), e130, ptB_take]
    unfold shX
    rw [hq]
    rfl
  have shl : (shX sec pt).length = 32 := beV_len _ _
  have d3 : mDig (S3 13 0) := a3.mDig dg (by decide)
  have nl := nmW_len ha ha4 hw
  have wrw : ∀ n, n < 4 → wrW[n]? = some (str (59 + n)) := by decide +kernel
  have wre : ∀ n, n < 6 → [str 38, str 39, str 40, str 41, str 42, str 43][n]? = some (str (38 + n)) := by decide +kernel
  have rex : ∀ w ∈ [str 38, str 39, str 40, str 41, str 42, str 43], ∀ x ∈ w, x ≠ 32 := by decide +kernel
  -- the name
  obtain ⟨o4, β131, g4, b131, e131, a4⟩ : ∃ o4 β131, (if a = 4 then P_X13_nameOf G F (W.ad (.o 13 0)) (G.1 111) (Int32.ofNat w) (mem W S3) else P_X13_nameOf G F (W.ad (.o 13 0)) (G.1 117) (Int32.ofNat a) (mem W S3)) = some ((Int32.ofNat (nmW a w).length), mem W (S3.so 13 0 o4)) ∧ mB o4 131 β131 ∧ rdB β131 0 (nmW a w).length = nmW a w ∧ agr [] [] [131] [] (S3 13 0) o4 := by
    by_cases c : a = 4
    · have en : nmW a w = str (59 + w) := by unfold nmW nmI; rw [if_pos c]
      obtain ⟨o', β, z1, z2, z3, z4⟩ := oM_nameOf (G := G) (F := F) (S := S3) (o := S3 13 0) (j := 111) (k := w) X h (by decide) wrW_r wrW_x (wrw w hw) (by omega) (E3 131 rfl) (by rw [← en]; omega)
      rw [so_self] at z1
      rw [if_pos c, en]
      exact ⟨o', β, z1, z2, z3, z4⟩
    · have en : nmW a w = str (38 + a) := by unfold nmW nmI; rw [if_neg c]
      obtain ⟨o', β, z1, z2, z3, z4⟩ := oM_nameOf (G := G) (F := F) (S := S3) (o := S3 13 0) (j := 117) (k := a) X h (by decide) row_117 rex (wre a ha) (by omega) (E3 131 rfl) (by rw [← en]; omega)
      rw [so_self] at z1
      rw [if_neg c, en]
      exact ⟨o', β, z1, z2, z3, z4⟩
  have E4 : mEv o4 := E3.keep a4 (fun n hn z => by
    rw [List.mem_singleton] at hn
    rw [hn]
    exact ⟨_, b131⟩)
  have d4 : mDig o4 := a4.mDig d3 (by decide)
  have a34 : agr [73] [] [67, 68, 69, 70, 71, 72, 74, 75, 76, 77, 78, 130, 131] [] (S 13 0) o4 := (a3.mono (by simp) (by simp) (by simp) (by simp)).trans (a4.mono (by simp) (by simp) (by simp) (by simp))
  obtain ⟨u1, βu, u2, u3⟩ := U.ag a34 (by decide) (by decide)
  obtain ⟨v1, βv, v2, v3⟩ := V.ag a34 (by decide) (by decide)
  obtain ⟨δ0, b80⟩ := E4 80 rfl
  have b130' : mB o4 130 β130 := a4.mB b130 (by decide)
  obtain ⟨o5, δ, g5, a5, b35, b36, b5, e5⟩ := QM_deriveIt (G := G) (F := F) (S := S3.so 13 0 o4) (kz := 130) (kn := 131) (ku := 108) (kv := 109) (pz := 0) (pn := 0) (pu := 0) (pv := 0) (many := dkM a w) (z := shX sec pt) (nm := nmW a w) (u := u) (v := v) X h rfl rfl rfl rfl (by decide) (by decide) (by decide) (by decide) (by decide) (by decide) (by decide) (by decide) (by rw [shl]; decide) (by show _ ≤ 32; omega) (by show _ ≤ 8200; omega) (by show _ ≤ 8200; omega) (by rw [shl]; exact sh) e131 u3 v3 (by omega) (by rcases dkM_v a w with q | q | q <;> omega) (by rw [so_eq]; exact b130') (by rw [so_eq]; exact b131) (by rw [so_eq]; exact u2) (by rw [so_eq]; exact v2) (by rw [so_eq]; exact d4.1) (by rw [so_eq]; exact d4.2.1) (by rw [so_eq]; exact b80)
  rw [so_eq] at a5
  rw [so_so, shl] at g5
  have g5 : P_X13_deriveIt G F (W.ad (.o 13 0)) (W.ad (.a 13 0 130)) 0 32 (W.ad (.a 13 0 131)) 0 (Int32.ofNat (nmW a w).length) (W.ad (.a 13 0 108)) 0 (Int32.ofNat u.length) (W.ad (.a 13 0 109)) 0 (Int32.ofNat v.length) (Int32.ofNat (dkM a w)) (mem W (S3.so 13 0 o4)) = some (mem W (S3.so 13 0 o5)) := g5
  have mk5 : MK (S3.so 13 0 o5) := ((show MK (S3.so 13 0 (S3 13 0)) by rw [so_self]; exact mk3).agL a4 (by decide)).agL a5 (by decide)
  have E5 : mEv o5 := E4.keep a5 (fun n hn z => by
    simp only [List.mem_cons, List.not_mem_nil, or_false] at hn
    rcases hn with rfl | rfl | rfl | rfl | rfl
    · exact b36
    · exact absurd z (by decide)
    · exact absurd z (by decide)
    · exact b35
    · exact ⟨_, b5⟩)
  have d5 : mDig o5 := by
    obtain ⟨_, _, ⟨π, hπ⟩, ν, hν⟩ := d4
    exact ⟨b35, b36, ⟨π, a5.mB hπ (by decide)⟩, ν, a5.mB hν (by decide)⟩
  have x4 : ((Int32.ofNat a) = (4 : Int32)) = (a = 4) := propext (n_eq (b := 4) (by omega) (by omega))
  have y110 : gfI (mem W (S3.so 13 0 o4)) (W.ad (.o 13 0)) 13 110 = some (Int32.ofNat u.length) := by rw [gfI_m h.lo rfl, so_eq, u1]
  have y111 : gfI (mem W (S3.so 13 0 o4)) (W.ad (.o 13 0)) 13 111 = some (Int32.ofNat v.length) := by rw [gfI_m h.lo rfl, so_eq, v1]
  have e66 : B_X13_agree_66 G F (W.ad (.o 13 0)) (Int32.ofNat a) (Int32.ofNat w) 1 (Int32.ofNat (nmW a w).length) (mem W (S3.so 13 0 o4)) = some (1, mem W (S3.so 13 0 o5)) := by
    unfold B_X13_agree_66
    rw [h.gR 130 rfl (by decide), bO_s, h.gR 131 rfl (by decide), bO_s, h.gR 108 rfl (by decide), bO_s, y110, bO_s, h.gR 109 rfl (by decide), bO_s, y111, bO_s]
    simp only [x4]
    by_cases c : a = 4
    · have dm : wayK w = dkM a w := by unfold dkM; rw [if_pos c]
      rw [if_pos c, oM_keyOf hw, bP_s, rcv_m h.lo, bO_s, dm, g5, bO_s, retZ1]
    · have dm : (16 : Int32) = (Int32.ofNat (dkM a w)) := by unfold dkM; rw [if_neg c]; rfl
      rw [if_neg c, rcv_m h.lo, bO_s, dm, g5, bO_s, retZ1]
  have e37 : B_X13_agree_37 G F (W.ad (.o 13 0)) (Int32.ofNat a) (Int32.ofNat w) 1 (mem W S3) = some (1, mem W (S3.so 13 0 o5)) := by
    unfold B_X13_agree_37
    simp only [x4]
    by_cases c : a = 4
    · rw [if_pos c] at g4
      rw [if_pos c, rcv_m h.lo, bO_s, g4, bP_s, e66]
    · rw [if_neg c] at g4
      rw [if_neg c, rcv_m h.lo, bO_s, g4, bP_s, e66]
  refine ⟨S3.so 13 0 o5, ?_, f3.trans (fr_so (by simp)), ?_, mk5, by rw [so_eq]; exact d5, by rw [so_eq]; exact E5, δ, by rw [so_eq]; exact b5, e5⟩
  · unfold P_X13_agree
    rw [rcv_m h.lo, bO_s, g1, bP_s, rcv_m h.lo, bO_s, g2, bO_s, if_neg (by decide), h.gR 130 rfl (by decide), bO_s, rcv_m h.lo, bO_s, g3, bP_s, if_neg (by decide), e37]
  · rw [so_eq]
    exact (a34.mono (by simp) (by simp) (by simp [agA]) (by simp)).trans (a5.mono (by simp) (by simp) (by simp [agA]) (by simp))
end MAG
