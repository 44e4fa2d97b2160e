/-! THE MODEL'S signPoint AND isSignedPoint ONCE MORE, with closer frames -/
abbrev SGL6 : List Nat := [36, 31, 32, 35, 116, 117, 118, 60, 61, 67, 68, 69, 70, 71, 72, 74, 75, 76, 77, 78, 79, 112]
abbrev SGF6 (S S' : ST) : Prop := fr [(12, 1), (12, 2), (13, 0)] S S' ∧ agr [73, 37, 113] [] SGL6 [33, 34] (S 13 0) (S' 13 0)
theorem SGF6.trans {S S1 S2 : ST} (h1 : SGF6 S S1) (h2 : SGF6 S1 S2) : SGF6 S S2 := ⟨h1.1.trans h2.1, h1.2.trans h2.2⟩
theorem SGF6.refl (S : ST) : SGF6 S S := ⟨fr.refl _ _, agr.refl _ _ _ _ _⟩
theorem SGF6.of {S S' : ST} {L : List (Nat × Nat)} {fs as ls : List Nat} (f : fr L S S') (a : agr fs [] as ls (S 13 0) (S' 13 0)) (hL : ∀ x ∈ L, x ∈ [(12, 1), (12, 2), (13, 0)]) (h1 : ∀ k ∈ fs, k ∈ [73, 37, 113]) (h2 : ∀ k ∈ as, k ∈ SGL6) (h3 : ∀ k ∈ ls, k ∈ [33, 34]) : SGF6 S S' := ⟨f.mono hL, a.mono h1 (by simp) h2 h3⟩
theorem MK.keep6 {S S' : ST} (K : MK S) (f : SGF6 S S') (q : MPq S') (m : MdS S' 2 8 nP) (b : ∃ β, mB (S' 13 0) 67 β) : MK S' := by
  obtain ⟨_, _, ⟨β63, h63, e63⟩, ⟨β64, h64, e64⟩, ⟨β65, h65, e65⟩, _⟩ := K
  exact ⟨q, m, ⟨β63, f.2.mB h63 (by decide), e63⟩, ⟨β64, f.2.mB h64 (by decide), e64⟩, ⟨β65, f.2.mB h65 (by decide), e65⟩, b⟩
section MSIG6
variable {W : WR} {G : mG} {F : Nat} {S : ST}
theorem QM_signPoint6 {k rr : Nat} {rows : Nat → List UInt8} {msg : List UInt8} {β89 : Nat → UInt8} (pr : PrP) (X : Cx G F W) (h : isM W) (hp : isMp W) (hn : isMn W) (K : MK S) (hR : mRows (S 13 0) rows) (hd : mDig (S 13 0)) (hm : mMsg (S 13 0) msg) (h79 : ∃ β, mB (S 13 0) 79 β) (h112 : ∃ β, mB (S 13 0) 112 β) (b89 : mB (S 13 0) 89 β89) (hk : k < 16) (hr : rr < 8) : ∃ S', P_X13_signPoint G F (W.ad (.o 13 0)) (Int32.ofNat k) (Int32.ofNat rr) (mem W S) = some (if 32 ≤ (rows rr).length ∧ (sigF (sha false msg) (rdB β89 (128 * k) 32) (rows rr)).isSome = true then 0 else -4, mem W S') ∧ SGF6 S S' ∧ MK S' ∧ mDig (S' 13 0) ∧ (∃ β, mB (S' 13 0) 79 β) ∧ ∃ β, mB (S' 13 0) 112 β ∧ (32 ≤ (rows rr).length → ∀ rs, sigF (sha false msg) (rdB β89 (128 * k) 32) (rows rr) = some rs → rdB β 0 64 = beV 32 rs.1 ++ beV 32 rs.2 ∧ (S' 13 0).f 113 = 64) := by
  obtain ⟨β79, h79⟩ := h79
  obtain ⟨β112, h112⟩ := h112
  obtain ⟨β, r1, r2⟩ := id hR
  obtain ⟨x3, x4, x5⟩ := r2 rr hr
  obtain ⟨Q, MN, ⟨β63, h63, e63⟩, ⟨β64, h64, e64⟩, ⟨β65, h65, e65⟩, β67, h67⟩ := id K
  unfold P_X13_signPoint
  rw [h.gR 3 rfl (by decide), bO_s, h.aN rfl (show rr < 8 from hr) (by decide), bO_s, x3]
  by_cases c32 : 32 ≤ (rows rr).length
  · rw [if_neg (fun q => by rw [lit 32, n_lt (by omega) (by omega)] at q; omega)]
    simp only [c32, true_and, true_implies]
    have ek : rdB β (8192 * rr) 32 = seg (rows rr) 0 32 := by
      rw [← x5, seg_rd (by omega)]
      rfl
    obtain ⟨S1, g1, f1⟩ := QM_isSecret (G := G) (F := F) (kb := 2) (p := 8192 * rr) X h hn.1 hn.2 rfl (by decide) (by show _ ≤ 65536; omega) MN r1
    rw [ek] at g1
    have F1 : SGF6 S S1 := SGF6.of (f1.fr (L' := [(13, 0)]) (by simp [ow])) (f1.agr (as := [60]) (by simp)) (by simp) (by simp) (by simp) (by simp)
    have a1 := f1.agr (as := [60]) (by simp)
    have M1 : MdS S1 2 8 nP := MN.ifr f1 (by simp) (by simp) (by simp)
    have Q1 : MPq S1 := Q.ag (f1.fr (L' := [(13, 0)]) (by simp [ow])) (by simp) a1 (by decide)
    have d1 : mDig (S1 13 0) := a1.mDig hd (by decide)
    rw [h.gR 2 rfl (by decide), bO_s, rcv_m h.lo, bO_s, show (8192 : Int32) * (Int32.ofNat rr) = (Int32.ofNat (8192 * rr)) from n_mul 8192 rr, g1, bP_s]
    cases c0 : secF (seg (rows rr) 0 32) with
    | false =>
      have e : sigF (sha false msg) (rdB β89 (128 * k) 32) (rows rr) = none := by unfold sigF; rw [c0]; rfl
      rw [if_neg Bool.false_ne_true, if_pos rfl, e]
      exact ⟨S1, rfl, F1, K.keep6 F1 Q1 M1 ⟨β67, a1.mB h67 (by decide)⟩, d1, ⟨β79, a1.mB h79 (by decide)⟩, β112, a1.mB h112 (by decide), fun rs q => absurd q (by simp)⟩
    | true =>
      rw [if_pos rfl, if_neg (by decide)]
      obtain ⟨q, ha⟩ := k_some (seg_len (xs := rows rr) (p := 0) (n := 32) (by omega)) c0
      obtain ⟨U1, N1⟩ := NS.of M1
      obtain ⟨S2, U2, g2, f2, a2, d2, N2, u2⟩ := QM_digestNumber (G := G) (F := F) X h hn N1 d1 (a1.mMsg hm (by decide) (by decide))
      have F2 : SGF6 S1 S2 := SGF6.of f2 a2 (by simp) (by simp) (by simp) (by simp)
      have Q2 : MPq S2 := Q1.ag f2 (by simp) a2 (by decide)
      have a12 := F1.2.trans F2.2
      obtain ⟨S3, g3, f3, Q3, r3⟩ := QM_setPoint (G := G) (F := F) (kb := 65) (p := 0) X h hp rfl (by decide) (by decide) Q2 (a12.mB h65 (by decide))
      obtain ⟨ex, ey⟩ := base_pt e65
      rw [ex, ey] at g3 r3
      have g3' : P_X13_setPoint G F (W.ad (.o 13 0)) (W.ad (.a 13 0 65)) 0 (mem W S2) = _ := g3
      rw [onC_base, if_pos rfl] at g3'
      obtain ⟨V3, C3, v8, v9, v10⟩ := r3 onC_base
      have e89 : (V3 8, V3 9) = bpt := by rw [v8, v9]; rfl
      have F3 : SGF6 S2 S3 := SGF6.of f3.1 f3.2 (by simp) (by simp) (by simp) (by simp)
      have a13 := a12.trans F3.2
      obtain ⟨S4, V4, g4, f4, C4, k4, J4⟩ := QM_times (G := G) (F := F) (kb := 2) (p := 8192 * rr) pr X h hp rfl (by decide) (by show _ ≤ 65536; omega) C3 (a13.mB r1 (by decide))
      rw [e89, ek] at J4
      have F4 : SGF6 S3 S4 := SGF6.of f4.1 f4.2 (by simp) (by simp) (by simp) (by simp)
      have a14 := a13.trans F4.2
      have a24 := F3.2.trans F4.2
      have b67_4 : ∃ β, mB (S4 13 0) 67 β := ⟨β67, f4.2.mB (f3.2.mB (a2.mB (a1.mB h67 (by decide)) (by decide)) (by decide)) (by decide)⟩
      have b79_4 : mB (S4 13 0) 79 β79 := f4.2.mB (f3.2.mB (a2.mB (a1.mB h79 (by decide)) (by decide)) (by decide)) (by decide)
      obtain ⟨S5, V5, g5, f5, a5, C5, k5, m67, r5⟩ := QM_getPoint (G := G) (F := F) (S := S4) (kt := 79) (pt := 0) X h hp rfl (by decide) (by decide) (by decide) (by decide) C4 J4 (a14.mB h63 (by decide)) e63 b67_4 b79_4
      have g5' : P_X13_getPoint G F (W.ad (.o 13 0)) (W.ad (.a 13 0 79)) 0 (mem W S4) = _ := g5
      rw [ha] at r5
      have r5 : mB (S5 13 0) 79 (wrB β79 0 (ptB q)) := r5
      have F5 : SGF6 S4 S5 := SGF6.of f5 a5 (by simp) (by simp) (by simp) (by simp)
      have a15 := a14.trans F5.2
      obtain ⟨γ67, m67⟩ := m67
      have N5 : NS S5 U2 := ((N2.ag f3.1 (by simp) f3.2 (by decide)).ag f4.1 (by simp) f4.2 (by decide)).ag f5 (by simp) a5 (by decide)
      have b112_5 : mB (S5 13 0) 112 β112 := a5.mB (f4.2.mB (f3.2.mB (a2.mB (a1.mB h112 (by decide)) (by decide)) (by decide)) (by decide)) (by decide)
      have e79 : beN (rdB (wrB β79 0 (ptB q)) 0 32) = q.1 := by
        have e1 := rdB_wrB β79 0 (ptB q)
        rw [ptB_len] at e1
        rw [rdB_take _ 0 64 32 (by decide), e1]
        have := ptB_x (affS_lt ha).1
        unfold seg at this
        rw [List.drop_zero] at this
        exact this
      obtain ⟨S6, β', g6, f6, a6, M6, m6, b6, e6, t6⟩ := QM_sign78 (G := G) (F := F) (sk := 1) (β2 := β) (β64 := β64) X h hn N5 u2 hk hr (a15.mB r1 (by decide)) (a15.mB h64 (by decide)) m67 r5 (a15.mB b89 (by decide)) b112_5 e64 e79 rfl ek
      have F6 : SGF6 S5 S6 := SGF6.of f6 a6 (by simp) (by simp) (by simp) (by simp)
      have FF := F1.trans (F2.trans (F3.trans (F4.trans (F5.trans F6))))
      have Q5 : MPq S5 := C5.q ((k5 10 (by omega)).trans ((k4 10 (by omega)).trans v10))
      have Q6 : MPq S6 := Q5.ag f6 (by simp) a6 (by decide)
      have d6 : mDig (S6 13 0) := a6.mDig (a5.mDig (f4.2.mDig (f3.2.mDig d2 (by decide)) (by decide)) (by decide)) (by decide)
      have b79_6 : ∃ β, mB (S6 13 0) 79 β := ⟨_, a6.mB r5 (by decide)⟩
      rw [rcv_m h.lo, bO_s, g2, bO_s, h.gR 65 rfl (by decide), bO_s, rcv_m h.lo, bO_s, g3', bP_s, h.gR 2 rfl (by decide), bO_s, rcv_m h.lo, bO_s, g4, bO_s, if_neg (by decide), h.gR 79 rfl (by decide), bO_s, rcv_m h.lo, bO_s, g5', bP_s, ha]
      rw [if_neg (by simp), g6]
      have kl : beN (seg (rows rr) 0 32) < nP := (of_decide_eq_true c0).2
      have es : sigF (sha false msg) (rdB β89 (128 * k) 32) (rows rr) = if q.1 % nP = 0 ∨ (q.1 % nP * beN (rdB β89 (128 * k) 32) + beN (sha false msg) % nP) * niv (beN (seg (rows rr) 0 32)) % nP = 0 then none else some (q.1 % nP, (q.1 % nP * beN (rdB β89 (128 * k) 32) + beN (sha false msg) % nP) * niv (beN (seg (rows rr) 0 32)) % nP) := by
        unfold sigF
        rw [if_pos c0, ha]
        have s1 : seg (rdB β89 (128 * k) 32) 0 32 = rdB β89 (128 * k) 32 := by
          unfold seg
          rw [List.drop_zero, List.take_of_length_le (by rw [rdB_len]; omega)]
        have s2 : seg (sha false msg) 0 32 = sha false msg := by
          unfold seg
          rw [List.drop_zero, List.take_of_length_le (by rw [sha_len]; simp)]
        rw [s1, s2, sgS_eq, Nat.mod_mod, Nat.mod_eq_of_lt kl]
      generalize (q.1 % nP * beN (rdB β89 (128 * k) 32) + beN (sha false msg) % nP) * niv (beN (seg (rows rr) 0 32)) % nP = sg at *
      refine ⟨S6, ?_, FF, K.keep6 FF Q6 M6 m6, d6, b79_6, β', b6, fun rs hrs => ⟨?_, t6⟩⟩
      · by_cases c1 : q.1 % nP = 0 ∨ sg = 0
        · rw [if_pos c1] at es
          rw [es, if_pos (by rcases c1 with c | c; exact Or.inl c; exact Or.inr (Or.inl c)), if_neg (by simp)]
        · rw [if_neg c1] at es
          rw [es, if_neg (fun o => by
            rcases o with c | c | c
            · exact c1 (Or.inl c)
            · exact c1 (Or.inr c)
            · exact absurd c (by decide)), if_pos (by rfl)]
      · by_cases c1 : q.1 % nP = 0 ∨ sg = 0
        · rw [es, if_pos c1] at hrs
          exact absurd hrs (by simp)
        · rw [es, if_neg c1] at hrs
          obtain rfl := Option.some.inj hrs
          exact e6
  · rw [if_pos (by rw [lit 32, n_lt (by omega) (by omega)]; omega), if_neg (fun o => c32 o.1)]
    exact ⟨S, rfl, SGF6.refl S, K, hd, ⟨β79, h79⟩, β112, h112, fun o => absurd o c32⟩
end MSIG6
abbrev SGL7 : List Nat := [36, 31, 32, 35, 116, 117, 118, 60, 61, 67, 68, 69, 70, 71, 72, 74, 75, 76, 77, 78, 79, 114, 115]
abbrev SGF7 (S S' : ST) : Prop := fr [(12, 1), (12, 2), (13, 0)] S S' ∧ agr [73, 37] [] SGL7 [33, 34] (S 13 0) (S' 13 0)
theorem SGF7.trans {S S1 S2 : ST} (h1 : SGF7 S S1) (h2 : SGF7 S1 S2) : SGF7 S S2 := ⟨h1.1.trans h2.1, h1.2.trans h2.2⟩
theorem SGF7.refl (S : ST) : SGF7 S S := ⟨fr.refl _ _, agr.refl _ _ _ _ _⟩
theorem SGF7.of {S S' : ST} {L : List (Nat × Nat)} {fs as ls : List Nat} (f : fr L S S') (a : agr fs [] as ls (S 13 0) (S' 13 0)) (hL : ∀ x ∈ L, x ∈ [(12, 1), (12, 2), (13, 0)]) (h1 : ∀ k ∈ fs, k ∈ [73, 37]) (h2 : ∀ k ∈ as, k ∈ SGL7) (h3 : ∀ k ∈ ls, k ∈ [33, 34]) : SGF7 S S' := ⟨f.mono hL, a.mono h1 (by simp) h2 h3⟩
theorem MK.keep7 {S S' : ST} (K : MK S) (f : SGF7 S S') (q : MPq S') (m : MdS S' 2 8 nP) (b : ∃ β, mB (S' 13 0) 67 β) : MK S' := by
  obtain ⟨_, _, ⟨β63, h63, e63⟩, ⟨β64, h64, e64⟩, ⟨β65, h65, e65⟩, _⟩ := K
  exact ⟨q, m, ⟨β63, f.2.mB h63 (by decide), e63⟩, ⟨β64, f.2.mB h64 (by decide), e64⟩, ⟨β65, f.2.mB h65 (by decide), e65⟩, b⟩
section MSIG7
variable {W : WR} {G : mG} {F : Nat} {S : ST}
theorem QM_isSignedPoint7 {k : Nat} {msg : List UInt8} {β85 β87 β112 : Nat → UInt8} (pr : PrP) (X : Cx G F W) (h : isM W) (hp : isMp W) (hn : isMn W) (K : MK S) (hd : mDig (S 13 0)) (hm : mMsg (S 13 0) msg) (h79 : ∃ β, mB (S 13 0) 79 β) (h114 : ∃ β, mB (S 13 0) 114 β) (h115 : ∃ β, mB (S 13 0) 115 β) (b112 : mB (S 13 0) 112 β112) (b85 : mB (S 13 0) 85 β85) (b87 : mB (S 13 0) 87 β87) (hk : k < 16) (ho : onC (beN (rdB β85 (128 * k) 32)) (beN (rdB β87 (128 * k) 32)) = true) : ∃ S', P_X13_isSignedPoint G F (W.ad (.o 13 0)) (Int32.ofNat k) (mem W S) = some (if verF (sha false msg) (rdB β112 0 64) (rdB β85 (128 * k) 32 ++ rdB β87 (128 * k) 32) = true then 1 else 0, mem W S') ∧ SGF7 S S' ∧ MK S' ∧ mDig (S' 13 0) ∧ (∃ β, mB (S' 13 0) 79 β) ∧ (∃ β, mB (S' 13 0) 114 β) ∧ (∃ β, mB (S' 13 0) 115 β) := by
  obtain ⟨β79, h79⟩ := h79
  obtain ⟨β114, h114⟩ := h114
  obtain ⟨β115, h115⟩ := h115
  obtain ⟨Q, MN, ⟨β63, h63, e63⟩, ⟨β64, h64, e64⟩, ⟨β65, h65, e65⟩, β67, h67⟩ := id K
  have sr : seg (rdB β112 0 64) 0 32 = rdB β112 0 32 := seg_rd (by decide)
  have ss : seg (rdB β112 0 64) 32 32 = rdB β112 32 32 := seg_rd (by decide)
  have sx : seg (rdB β85 (128 * k) 32 ++ rdB β87 (128 * k) 32) 0 32 = rdB β85 (128 * k) 32 := by
    unfold seg
    rw [List.drop_zero, List.take_left' (rdB_len _ _ _)]
  have sy : seg (rdB β85 (128 * k) 32 ++ rdB β87 (128 * k) 32) 32 32 = rdB β87 (128 * k) 32 := by
    unfold seg
    rw [List.drop_left' (rdB_len _ _ _), List.take_of_length_le (by rw [rdB_len]; omega)]
  have sz : seg (sha false msg) 0 32 = sha false msg := by
    unfold seg
    rw [List.drop_zero, List.take_of_length_le (by rw [sha_len]; simp)]
  unfold P_X13_isSignedPoint verF ptOf
  rw [sr, ss, sx, sy, sz, ho, rdB_len, decide_eq_true (show 64 = 64 from rfl), Bool.true_and, Bool.true_and]
  obtain ⟨Sa, ga, fa⟩ := QM_isSecret (G := G) (F := F) (kb := 112) (p := 0) X h hn.1 hn.2 rfl (by decide) (by decide) MN b112
  have ga' : P_X13_isSecret G F (W.ad (.o 13 0)) (W.ad (.a 13 0 112)) 0 (mem W S) = _ := ga
  have aa := fa.agr (as := [60]) (by simp)
  have fra := fa.fr (L' := [(13, 0)]) (by simp [ow])
  have Fa : SGF7 S Sa := SGF7.of fra aa (by simp) (by simp) (by simp) (by simp)
  have Ma : MdS Sa 2 8 nP := MN.ifr fa (by simp) (by simp) (by simp)
  have Qa : MPq Sa := Q.ag fra (by simp) aa (by decide)
  have da : mDig (Sa 13 0) := aa.mDig hd (by decide)
  rw [h.gR 112 rfl (by decide), bO_s, rcv_m h.lo, bO_s, ga', bP_s]
  cases c0 : secF (rdB β112 0 32) with
  | false =>
    rw [if_neg Bool.false_ne_true, if_pos rfl, retZ0, Bool.false_and, if_neg Bool.false_ne_true]
    exact ⟨Sa, rfl, Fa, K.keep7 Fa Qa Ma ⟨β67, aa.mB h67 (by decide)⟩, da, ⟨_, aa.mB h79 (by decide)⟩, ⟨_, aa.mB h114 (by decide)⟩, ⟨_, aa.mB h115 (by decide)⟩⟩
  | true =>
    rw [if_pos rfl, if_neg (by decide), Bool.true_and]
    obtain ⟨Sb, gb, fb⟩ := QM_isSecret (G := G) (F := F) (kb := 112) (p := 32) X h hn.1 hn.2 rfl (by decide) (by decide) Ma (aa.mB b112 (by decide))
    have gb' : P_X13_isSecret G F (W.ad (.o 13 0)) (W.ad (.a 13 0 112)) 32 (mem W Sa) = _ := gb
    have ab := fb.agr (as := [60]) (by simp)
    have frb := fb.fr (L' := [(13, 0)]) (by simp [ow])
    have Fb : SGF7 S Sb := Fa.trans (SGF7.of frb ab (by simp) (by simp) (by simp) (by simp))
    have Mb : MdS Sb 2 8 nP := Ma.ifr fb (by simp) (by simp) (by simp)
    have Qb : MPq Sb := Qa.ag frb (by simp) ab (by decide)
    have db : mDig (Sb 13 0) := ab.mDig da (by decide)
    have aab := aa.trans ab
    rw [h.gR 112 rfl (by decide), bO_s, rcv_m h.lo, bO_s, gb', bP_s]
    cases c1 : secF (rdB β112 32 32) with
    | false =>
      rw [if_neg Bool.false_ne_true, if_pos rfl, retZ0, Bool.false_and, if_neg Bool.false_ne_true]
      exact ⟨Sb, rfl, Fb, K.keep7 Fb Qb Mb ⟨β67, aab.mB h67 (by decide)⟩, db, ⟨_, aab.mB h79 (by decide)⟩, ⟨_, aab.mB h114 (by decide)⟩, ⟨_, aab.mB h115 (by decide)⟩⟩
    | true =>
      rw [if_pos rfl, if_neg (by decide), Bool.true_and]
      have rl : beN (rdB β112 0 32) < nP := (of_decide_eq_true c0).2
      have sl : beN (rdB β112 32 32) < nP := (of_decide_eq_true c1).2
      rw [Nat.mod_eq_of_lt rl, Nat.mod_eq_of_lt sl]
      obtain ⟨Ub, Nb⟩ := NS.of Mb
      obtain ⟨S0, U0, g0, f0, a0, d0, N0, u0_0⟩ := QM_digestNumber (G := G) (F := F) X h hn Nb db (aab.mMsg hm (by decide) (by decide))
      have F0 : SGF7 S S0 := Fb.trans (SGF7.of f0 a0 (by simp) (by simp) (by simp) (by simp))
      have Q0 : MPq S0 := Qb.ag f0 (by simp) a0 (by decide)
      have b112_0 := a0.mB (aab.mB b112 (by decide)) (by decide)
      have b114_0 := a0.mB (aab.mB h114 (by decide)) (by decide)
      have b64_0 := a0.mB (aab.mB h64 (by decide)) (by decide)
      have b67_0 := a0.mB (aab.mB h67 (by decide)) (by decide)
      have b79_0 := a0.mB (aab.mB h79 (by decide)) (by decide)
      have b115_0 := a0.mB (aab.mB h115 (by decide)) (by decide)
      rw [rcv_m h.lo, bO_s, g0, bO_s]
      obtain ⟨S1, g1, f1, N1⟩ := no_load (G := G) (F := F) (kb := 112) (p := 0) (k := 1) X h hn N0 (by decide) rfl (by decide) (by decide) b112_0
      have g1' : P_X12_load G F (W.ad (.o 12 2)) (W.ad (.a 13 0 112)) 0 32 (W.ad (.a 13 0 117)) (mem W S0) = some (mem W S1) := g1
      obtain ⟨U1, hU1⟩ : ∃ u, u = uu U0 1 (beN (rdB β112 0 32)) := ⟨_, rfl⟩
      have N1 : NS S1 U1 := by rw [hU1]; exact N1
      have u1_0 : U1 0 = beN (sha false msg) % nP * 4294967296 ^ 8 % nP := by rw [hU1, uu_ne (by decide), u0_0]
      have u1_1 : U1 1 = beN (rdB β112 0 32) := by rw [hU1, uu_eq]
      rw [h.g59 hn, bO_s, h.gR 112 rfl (by decide), bO_s, h.gR 117 rfl (by decide), bO_s, rcv_m hn.2.1, bO_s, g1', bO_s]
      have b112_1 := f1.2.mB b112_0 (by decide)
      have b114_1 := f1.2.mB b114_0 (by decide)
      have b64_1 := f1.2.mB b64_0 (by decide)
      have b67_1 := f1.2.mB b67_0 (by decide)
      have b79_1 := f1.2.mB b79_0 (by decide)
      have b115_1 := f1.2.mB b115_0 (by decide)
      obtain ⟨S2, g2, f2, N2⟩ := no_into (G := G) (F := F) (k := 1) X h hn N1 (by decide)
      have g2' : P_X12_into G F (W.ad (.o 12 2)) (W.ad (.a 13 0 117)) (W.ad (.a 13 0 117)) (mem W S1) = some (mem W S2) := g2
      obtain ⟨U2, hU2⟩ : ∃ u, u = uu U1 1 (beN (rdB β112 0 32) * 4294967296 ^ 8 % nP) := ⟨_, rfl⟩
      have N2 : NS S2 U2 := by rw [hU2]; rw [← u1_1]; exact N2
      have u2_0 : U2 0 = beN (sha false msg) % nP * 4294967296 ^ 8 % nP := by rw [hU2, uu_ne (by decide), u1_0]
      have u2_1 : U2 1 = beN (rdB β112 0 32) * 4294967296 ^ 8 % nP := by rw [hU2, uu_eq]
      rw [h.g59 hn, bO_s, h.gR 117 rfl (by decide), bO_s, bO_s, rcv_m hn.2.1, bO_s, g2', bO_s]
      have b112_2 := f2.2.mB b112_1 (by decide)
      have b114_2 := f2.2.mB b114_1 (by decide)
      have b64_2 := f2.2.mB b64_1 (by decide)
      have b67_2 := f2.2.mB b67_1 (by decide)
      have b79_2 := f2.2.mB b79_1 (by decide)
      have b115_2 := f2.2.mB b115_1 (by decide)
      obtain ⟨S3, g3, f3, N3⟩ := no_load (G := G) (F := F) (kb := 112) (p := 32) (k := 2) X h hn N2 (by decide) rfl (by decide) (by decide) b112_2
      have g3' : P_X12_load G F (W.ad (.o 12 2)) (W.ad (.a 13 0 112)) 32 32 (W.ad (.a 13 0 118)) (mem W S2) = some (mem W S3) := g3
      obtain ⟨U3, hU3⟩ : ∃ u, u = uu U2 2 (beN (rdB β112 32 32)) := ⟨_, rfl⟩
      have N3 : NS S3 U3 := by rw [hU3]; exact N3
      have u3_0 : U3 0 = beN (sha false msg) % nP * 4294967296 ^ 8 % nP := by rw [hU3, uu_ne (by decide), u2_0]
      have u3_1 : U3 1 = beN (rdB β112 0 32) * 4294967296 ^ 8 % nP := by rw [hU3, uu_ne (by decide), u2_1]
      have u3_2 : U3 2 = beN (rdB β112 32 32) := by rw [hU3, uu_eq]
      rw [h.g59 hn, bO_s, h.gR 112 rfl (by decide), bO_s, h.gR 118 rfl (by decide), bO_s, rcv_m hn.2.1, bO_s, g3', bO_s]
      have b112_3 := f3.2.mB b112_2 (by decide)
      have b114_3 := f3.2.mB b114_2 (by decide)
      have b64_3 := f3.2.mB b64_2 (by decide)
      have b67_3 := f3.2.mB b67_2 (by decide)
      have b79_3 := f3.2.mB b79_2 (by decide)
      have b115_3 := f3.2.mB b115_2 (by decide)
      obtain ⟨S4, g4, f4, N4⟩ := no_into (G := G) (F := F) (k := 2) X h hn N3 (by decide)
      have g4' : P_X12_into G F (W.ad (.o 12 2)) (W.ad (.a 13 0 118)) (W.ad (.a 13 0 118)) (mem W S3) = some (mem W S4) := g4
      obtain ⟨U4, hU4⟩ : ∃ u, u = uu U3 2 (beN (rdB β112 32 32) * 4294967296 ^ 8 % nP) := ⟨_, rfl⟩
      have N4 : NS S4 U4 := by rw [hU4]; rw [← u3_2]; exact N4
      have u4_0 : U4 0 = beN (sha false msg) % nP * 4294967296 ^ 8 % nP := by rw [hU4, uu_ne (by decide), u3_0]
      have u4_1 : U4 1 = beN (rdB β112 0 32) * 4294967296 ^ 8 % nP := by rw [hU4, uu_ne (by decide), u3_1]
      have u4_2 : U4 2 = beN (rdB β112 32 32) * 4294967296 ^ 8 % nP := by rw [hU4, uu_eq]
      rw [h.g59 hn, bO_s, h.gR 118 rfl (by decide), bO_s, bO_s, rcv_m hn.2.1, bO_s, g4', bO_s]
      have b112_4 := f4.2.mB b112_3 (by decide)
      have b114_4 := f4.2.mB b114_3 (by decide)
      have b64_4 := f4.2.mB b64_3 (by decide)
      have b67_4 := f4.2.mB b67_3 (by decide)
      have b79_4 := f4.2.mB b79_3 (by decide)
      have b115_4 := f4.2.mB b115_3 (by decide)
      obtain ⟨S5, g5, f5, a5, N5, γ67, bb5, e67⟩ := no_less2 (G := G) (F := F) X h N4 b64_4 e64 ⟨_, b67_4⟩
      rw [h.gR 64 rfl (by decide), bO_s, rcv_m h.lo, bO_s, g5, bO_s]
      obtain ⟨U5, hU5⟩ : ∃ u, u = U4 := ⟨_, rfl⟩
      rw [← hU5] at N5
      have u5_0 : U5 0 = beN (sha false msg) % nP * 4294967296 ^ 8 % nP := by rw [hU5, u4_0]
      have u5_1 : U5 1 = beN (rdB β112 0 32) * 4294967296 ^ 8 % nP := by rw [hU5, u4_1]
      have u5_2 : U5 2 = beN (rdB β112 32 32) * 4294967296 ^ 8 % nP := by rw [hU5, u4_2]
      have b67_5 := bb5
      have b112_5 := a5.mB b112_4 (by decide)
      have b114_5 := a5.mB b114_4 (by decide)
      have b64_5 := a5.mB b64_4 (by decide)
      have b79_5 := a5.mB b79_4 (by decide)
      have b115_5 := a5.mB b115_4 (by decide)
      obtain ⟨S6, g6, f6, N6⟩ := no_power (G := G) (F := F) (k := 2) (x := beN (rdB β112 32 32)) X h hn N5 (by decide) b67_5 u5_2
      have g6' : P_X12_power G F (W.ad (.o 12 2)) (W.ad (.a 13 0 118)) (W.ad (.a 13 0 67)) 0 32 (W.ad (.a 13 0 118)) (mem W S5) = some (mem W S6) := g6
      obtain ⟨U6, hU6⟩ : ∃ u, u = uu U5 2 (niv (beN (rdB β112 32 32)) * 4294967296 ^ 8 % nP) := ⟨_, rfl⟩
      have N6 : NS S6 U6 := by rw [hU6]; rw [e67] at N6; exact N6
      have u6_0 : U6 0 = beN (sha false msg) % nP * 4294967296 ^ 8 % nP := by rw [hU6, uu_ne (by decide), u5_0]
      have u6_1 : U6 1 = beN (rdB β112 0 32) * 4294967296 ^ 8 % nP := by rw [hU6, uu_ne (by decide), u5_1]
      have u6_2 : U6 2 = niv (beN (rdB β112 32 32)) * 4294967296 ^ 8 % nP := by rw [hU6, uu_eq]
      rw [h.g59 hn, bO_s, h.gR 118 rfl (by decide), bO_s, h.gR 67 rfl (by decide), bO_s, bO_s, rcv_m hn.2.1, bO_s, g6', bO_s]
      have b112_6 := f6.2.mB b112_5 (by decide)
      have b114_6 := f6.2.mB b114_5 (by decide)
      have b64_6 := f6.2.mB b64_5 (by decide)
      have b67_6 := f6.2.mB b67_5 (by decide)
      have b79_6 := f6.2.mB b79_5 (by decide)
      have b115_6 := f6.2.mB b115_5 (by decide)
      obtain ⟨S7, g7, f7, N7⟩ := no_product (G := G) (F := F) (i := 0) (j := 2) (k := 0) X h hn N6 (by decide) (by decide) (by decide) (by rw [u6_2]; exact Nat.mod_lt _ n_pos)
      have g7' : P_X12_product G F (W.ad (.o 12 2)) (W.ad (.a 13 0 116)) (W.ad (.a 13 0 118)) (W.ad (.a 13 0 116)) (mem W S6) = some (mem W S7) := g7
      obtain ⟨U7, hU7⟩ : ∃ u, u = uu U6 0 (beN (sha false msg) % nP * niv (beN (rdB β112 32 32)) * 4294967296 ^ 8 % nP) := ⟨_, rfl⟩
      have N7 : NS S7 U7 := by rw [hU7]; rw [← M_mul (n := 8) nP_1 nP_2, ← u6_0, ← u6_2]; exact N7
      have u7_0 : U7 0 = beN (sha false msg) % nP * niv (beN (rdB β112 32 32)) * 4294967296 ^ 8 % nP := by rw [hU7, uu_eq]
      have u7_1 : U7 1 = beN (rdB β112 0 32) * 4294967296 ^ 8 % nP := by rw [hU7, uu_ne (by decide), u6_1]
      have u7_2 : U7 2 = niv (beN (rdB β112 32 32)) * 4294967296 ^ 8 % nP := by rw [hU7, uu_ne (by decide), u6_2]
      rw [h.g59 hn, bO_s, h.gR 116 rfl (by decide), bO_s, h.gR 118 rfl (by decide), bO_s, bO_s, rcv_m hn.2.1, bO_s, g7', bO_s]
      have b112_7 := f7.2.mB b112_6 (by decide)
      have b114_7 := f7.2.mB b114_6 (by decide)
      have b64_7 := f7.2.mB b64_6 (by decide)
      have b67_7 := f7.2.mB b67_6 (by decide)
      have b79_7 := f7.2.mB b79_6 (by decide)
      have b115_7 := f7.2.mB b115_6 (by decide)
      obtain ⟨S8, g8, f8, N8⟩ := no_product (G := G) (F := F) (i := 1) (j := 2) (k := 1) X h hn N7 (by decide) (by decide) (by decide) (by rw [u7_2]; exact Nat.mod_lt _ n_pos)
      have g8' : P_X12_product G F (W.ad (.o 12 2)) (W.ad (.a 13 0 117)) (W.ad (.a 13 0 118)) (W.ad (.a 13 0 117)) (mem W S7) = some (mem W S8) := g8
      obtain ⟨U8, hU8⟩ : ∃ u, u = uu U7 1 (beN (rdB β112 0 32) * niv (beN (rdB β112 32 32)) * 4294967296 ^ 8 % nP) := ⟨_, rfl⟩
      have N8 : NS S8 U8 := by rw [hU8]; rw [← M_mul (n := 8) nP_1 nP_2, ← u7_1, ← u7_2]; exact N8
      have u8_0 : U8 0 = beN (sha false msg) % nP * niv (beN (rdB β112 32 32)) * 4294967296 ^ 8 % nP := by rw [hU8, uu_ne (by decide), u7_0]
      have u8_1 : U8 1 = beN (rdB β112 0 32) * niv (beN (rdB β112 32 32)) * 4294967296 ^ 8 % nP := by rw [hU8, uu_eq]
      have u8_2 : U8 2 = niv (beN (rdB β112 32 32)) * 4294967296 ^ 8 % nP := by rw [hU8, uu_ne (by decide), u7_2]
      rw [h.g59 hn, bO_s, h.gR 117 rfl (by decide), bO_s, h.gR 118 rfl (by decide), bO_s, bO_s, rcv_m hn.2.1, bO_s, g8', bO_s]
      have b112_8 := f8.2.mB b112_7 (by decide)
      have b114_8 := f8.2.mB b114_7 (by decide)
      have b64_8 := f8.2.mB b64_7 (by decide)
      have b67_8 := f8.2.mB b67_7 (by decide)
      have b79_8 := f8.2.mB b79_7 (by decide)
      have b115_8 := f8.2.mB b115_7 (by decide)
      obtain ⟨S9, g9, f9, N9⟩ := no_out (G := G) (F := F) (k := 0) X h hn N8 (by decide)
      have g9' : P_X12_outOf G F (W.ad (.o 12 2)) (W.ad (.a 13 0 116)) (W.ad (.a 13 0 116)) (mem W S8) = some (mem W S9) := g9
      obtain ⟨U9, hU9⟩ : ∃ u, u = uu U8 0 (shF (beN (sha false msg) % nP) (beN (rdB β112 32 32))) := ⟨_, rfl⟩
      have N9 : NS S9 U9 := by rw [hU9]; unfold shF; rw [← M_back (n := 8) nP_1 nP_2, ← u8_0]; exact N9
      have u9_0 : U9 0 = shF (beN (sha false msg) % nP) (beN (rdB β112 32 32)) := by rw [hU9, uu_eq]
      have u9_1 : U9 1 = beN (rdB β112 0 32) * niv (beN (rdB β112 32 32)) * 4294967296 ^ 8 % nP := by rw [hU9, uu_ne (by decide), u8_1]
      have u9_2 : U9 2 = niv (beN (rdB β112 32 32)) * 4294967296 ^ 8 % nP := by rw [hU9, uu_ne (by decide), u8_2]
      rw [h.g59 hn, bO_s, h.gR 116 rfl (by decide), bO_s, bO_s, rcv_m hn.2.1, bO_s, g9', bO_s]
      have b112_9 := f9.2.mB b112_8 (by decide)
      have b114_9 := f9.2.mB b114_8 (by decide)
      have b64_9 := f9.2.mB b64_8 (by decide)
      have b67_9 := f9.2.mB b67_8 (by decide)
      have b79_9 := f9.2.mB b79_8 (by decide)
      have b115_9 := f9.2.mB b115_8 (by decide)
      obtain ⟨S10, g10, f10, N10⟩ := no_out (G := G) (F := F) (k := 1) X h hn N9 (by decide)
      have g10' : P_X12_outOf G F (W.ad (.o 12 2)) (W.ad (.a 13 0 117)) (W.ad (.a 13 0 117)) (mem W S9) = some (mem W S10) := g10
      obtain ⟨U10, hU10⟩ : ∃ u, u = uu U9 1 (shF (beN (rdB β112 0 32)) (beN (rdB β112 32 32))) := ⟨_, rfl⟩
      have N10 : NS S10 U10 := by rw [hU10]; unfold shF; rw [← M_back (n := 8) nP_1 nP_2, ← u9_1]; exact N10
      have u10_0 : U10 0 = shF (beN (sha false msg) % nP) (beN (rdB β112 32 32)) := by rw [hU10, uu_ne (by decide), u9_0]
      have u10_1 : U10 1 = shF (beN (rdB β112 0 32)) (beN (rdB β112 32 32)) := by rw [hU10, uu_eq]
      have u10_2 : U10 2 = niv (beN (rdB β112 32 32)) * 4294967296 ^ 8 % nP := by rw [hU10, uu_ne (by decide), u9_2]
      rw [h.g59 hn, bO_s, h.gR 117 rfl (by decide), bO_s, bO_s, rcv_m hn.2.1, bO_s, g10', bO_s]
      have b112_10 := f10.2.mB b112_9 (by decide)
      have b114_10 := f10.2.mB b114_9 (by decide)
      have b64_10 := f10.2.mB b64_9 (by decide)
      have b67_10 := f10.2.mB b67_9 (by decide)
      have b79_10 := f10.2.mB b79_9 (by decide)
      have b115_10 := f10.2.mB b115_9 (by decide)
      obtain ⟨S11, g11, f11, a11, N11, bb11⟩ := no_store (G := G) (F := F) (kb := 114) (p := 0) (k := 0) X h hn N10 (by decide) rfl (by decide) (by decide) b114_10
      have g11' : P_X12_store G F (W.ad (.o 12 2)) (W.ad (.a 13 0 116)) (W.ad (.a 13 0 114)) 0 32 (mem W S10) = some (mem W S11) := g11
      rw [u10_0] at bb11
      rw [h.g59 hn, bO_s, h.gR 116 rfl (by decide), bO_s, h.gR 114 rfl (by decide), bO_s, rcv_m hn.2.1, bO_s, g11', bO_s]
      obtain ⟨U11, hU11⟩ : ∃ u, u = U10 := ⟨_, rfl⟩
      rw [← hU11] at N11
      have u11_0 : U11 0 = shF (beN (sha false msg) % nP) (beN (rdB β112 32 32)) := by rw [hU11, u10_0]
      have u11_1 : U11 1 = shF (beN (rdB β112 0 32)) (beN (rdB β112 32 32)) := by rw [hU11, u10_1]
      have u11_2 : U11 2 = niv (beN (rdB β112 32 32)) * 4294967296 ^ 8 % nP := by rw [hU11, u10_2]
      have b114_11 := bb11
      have b112_11 := a11.mB b112_10 (by decide)
      have b64_11 := a11.mB b64_10 (by decide)
      have b67_11 := a11.mB b67_10 (by decide)
      have b79_11 := a11.mB b79_10 (by decide)
      have b115_11 := a11.mB b115_10 (by decide)
      generalize shF (beN (sha false msg) % nP) (beN (rdB β112 32 32)) = h1 at *
      generalize shF (beN (rdB β112 0 32)) (beN (rdB β112 32 32)) = h2 at *
      have w : ∀ {s s' : ST}, NF s s' → SGF7 s s' := fun f => SGF7.of f.1 f.2 (by simp) (by simp) (by simp) (by simp)
      have F11 : SGF7 S0 S11 := (w f1).trans ((w f2).trans ((w f3).trans ((w f4).trans ((SGF7.of f5 a5 (by simp) (by simp) (by simp) (by simp)).trans ((w f6).trans ((w f7).trans ((w f8).trans ((w f9).trans ((w f10).trans (SGF7.of f11 a11 (by simp) (by simp) (by simp) (by simp)))))))))))
      have v : ∀ {s s' : ST}, NF s s' → MPq s → MPq s' := fun f q => q.ag f.1 (by simp) f.2 (by decide)
      have Q11 : MPq S11 := (v f10 (v f9 (v f8 (v f7 (v f6 ((v f4 (v f3 (v f2 (v f1 Q0)))).ag f5 (by simp) a5 (by decide))))))).ag f11 (by simp) a11 (by decide)
      have vd : ∀ {s s' : ST}, NF s s' → mDig (s 13 0) → mDig (s' 13 0) := fun f q => f.2.mDig q (by decide)
      have d11 : mDig (S11 13 0) := a11.mDig (vd f10 (vd f9 (vd f8 (vd f7 (vd f6 (a5.mDig (vd f4 (vd f3 (vd f2 (vd f1 d0)))) (by decide))))))) (by decide)
      have G11 := F0.trans F11
      -- the hash's share of the base point
      obtain ⟨Sc, gc, fc, Qc, rc⟩ := QM_setPoint (G := G) (F := F) (kb := 65) (p := 0) X h hp rfl (by decide) (by decide) Q11 (G11.2.mB h65 (by decide))
      obtain ⟨ex, ey⟩ := base_pt e65
      rw [ex, ey] at gc rc
      have gc' : P_X13_setPoint G F (W.ad (.o 13 0)) (W.ad (.a 13 0 65)) 0 (mem W S11) = _ := gc
      rw [onC_base, if_pos rfl] at gc'
      obtain ⟨Vc, Cc, v8, v9, v10⟩ := rc onC_base
      have eb : (Vc 8, Vc 9) = bpt := by rw [v8, v9]; rfl
      have e114 : rdB (wrB β114 0 (beV 32 h1)) 0 32 = beV 32 h1 := by
        have := rdB_wrB β114 0 (beV 32 h1)
        rw [beV_len] at this
        exact this
      obtain ⟨Sd, Vd, gd, fd, Cd, kd, Jd⟩ := QM_times (G := G) (F := F) (kb := 114) (p := 0) pr X h hp rfl (by decide) (by decide) Cc (fc.2.mB b114_11 (by decide))
      rw [eb, e114] at Jd
      have gd' : P_X13_times_ G F (W.ad (.o 13 0)) (W.ad (.a 13 0 114)) 0 (mem W Sc) = some (mem W Sd) := gd
      have G12 := G11.trans ((SGF7.of fc.1 fc.2 (by simp) (by simp) (by simp) (by simp)).trans (SGF7.of fd.1 fd.2 (by simp) (by simp) (by simp) (by simp)))
      have Nd : NS Sd U11 := (N11.ag fc.1 (by simp) fc.2 (by decide)).ag fd.1 (by simp) fd.2 (by decide)
      obtain ⟨Se, Ve, ge, fe, ae, Ce, ke, m67, re⟩ := QM_getPoint (G := G) (F := F) (S := Sd) (kt := 115) (pt := 0) X h hp rfl (by decide) (by decide) (by decide) (by decide) Cd Jd (G12.2.mB h63 (by decide)) e63 ⟨_, fd.2.mB (fc.2.mB b67_11 (by decide)) (by decide)⟩ (fd.2.mB (fc.2.mB b115_11 (by decide)) (by decide))
      have ge' : P_X13_getPoint G F (W.ad (.o 13 0)) (W.ad (.a 13 0 115)) 0 (mem W Sd) = _ := ge
      have G13 := G12.trans (SGF7.of fe ae (by simp) (by simp) (by simp) (by simp))
      have Ne : NS Se U11 := Nd.ag fe (by simp) ae (by decide)
      have b114_e := ae.mB (fd.2.mB (fc.2.mB b114_11 (by decide)) (by decide)) (by decide)
      have b79_e := ae.mB (fd.2.mB (fc.2.mB b79_11 (by decide)) (by decide)) (by decide)
      have b112_e := ae.mB (fd.2.mB (fc.2.mB b112_11 (by decide)) (by decide)) (by decide)
      have de : mDig (Se 13 0) := ae.mDig (fd.2.mDig (fc.2.mDig d11 (by decide)) (by decide)) (by decide)
      obtain ⟨γe, m67⟩ := m67
      -- the signature's share of the key's point
      obtain ⟨Sf, gf, ff, af, Nf, bf⟩ := no_store (G := G) (F := F) (kb := 114) (p := 0) (k := 1) X h hn Ne (by decide) rfl (by decide) (by decide) b114_e
      have gf' : P_X12_store G F (W.ad (.o 12 2)) (W.ad (.a 13 0 117)) (W.ad (.a 13 0 114)) 0 32 (mem W Se) = some (mem W Sf) := gf
      rw [u11_1] at bf
      have e114' : rdB (wrB (wrB β114 0 (beV 32 h1)) 0 (beV 32 h2)) 0 32 = beV 32 h2 := by
        have := rdB_wrB (wrB β114 0 (beV 32 h1)) 0 (beV 32 h2)
        rw [beV_len] at this
        exact this
      have G14 := G13.trans (SGF7.of ff af (by simp) (by simp) (by simp) (by simp))
      have mv1 := QM_move (G := G) (F := F) (S := Sf) (k1 := 85) (k2 := 79) (p1 := 128 * k) (p2 := 0) (cnt := 32) X h rfl rfl (by decide) (by decide) (by decide) (by show _ ≤ 2048; omega) (by decide) (by decide) (G14.2.mB b85 (by decide)) (af.mB b79_e (by decide))
      have mv1' : P_X13_move G F (W.ad (.a 13 0 85)) (Int32.ofNat (128 * k)) (W.ad (.a 13 0 79)) 0 32 (mem W Sf) = _ := mv1
      obtain ⟨Sg, hSg⟩ : ∃ x, x = Sf.so 13 0 ((Sf 13 0).sA 79 (fun j => sb (wrB β79 0 (rdB β85 (128 * k) 32) j))) := ⟨_, rfl⟩
      have ag : agr [] [] [79] [] (Sf 13 0) (Sg 13 0) := by rw [hSg, so_eq]; exact agr_sA (by simp)
      have fg : fr [(13, 0)] Sf Sg := by rw [hSg]; exact fr_so (by simp)
      have bg : mB (Sg 13 0) 79 (wrB β79 0 (rdB β85 (128 * k) 32)) := by rw [hSg, so_eq]; exact mB_sA _ _ _
      rw [← hSg] at mv1'
      have G15 := G14.trans (SGF7.of fg ag (by simp) (by simp) (by simp) (by simp))
      have mv2 := QM_move (G := G) (F := F) (S := Sg) (k1 := 87) (k2 := 79) (p1 := 128 * k) (p2 := 32) (cnt := 32) X h rfl rfl (by decide) (by decide) (by decide) (by show _ ≤ 2048; omega) (by decide) (by decide) (G15.2.mB b87 (by decide)) bg
      have mv2' : P_X13_move G F (W.ad (.a 13 0 87)) (Int32.ofNat (128 * k)) (W.ad (.a 13 0 79)) 32 32 (mem W Sg) = _ := mv2
      obtain ⟨Sh, hSh⟩ : ∃ x, x = Sg.so 13 0 ((Sg 13 0).sA 79 (fun j => sb (wrB (wrB β79 0 (rdB β85 (128 * k) 32)) 32 (rdB β87 (128 * k) 32) j))) := ⟨_, rfl⟩
      have ah : agr [] [] [79] [] (Sg 13 0) (Sh 13 0) := by rw [hSh, so_eq]; exact agr_sA (by simp)
      have fh : fr [(13, 0)] Sg Sh := by rw [hSh]; exact fr_so (by simp)
      have bh : mB (Sh 13 0) 79 (wrB (wrB β79 0 (rdB β85 (128 * k) 32)) 32 (rdB β87 (128 * k) 32)) := by rw [hSh, so_eq]; exact mB_sA _ _ _
      rw [← hSh] at mv2'
      have G16 := G15.trans (SGF7.of fh ah (by simp) (by simp) (by simp) (by simp))
      have eh := rd_two β79 (rdB β85 (128 * k) 32) (rdB β87 (128 * k) 32) (rdB_len _ _ _) (rdB_len _ _ _)
      have ehx : rdB (wrB (wrB β79 0 (rdB β85 (128 * k) 32)) 32 (rdB β87 (128 * k) 32)) 0 32 = rdB β85 (128 * k) 32 := by
        rw [rdB_take _ 0 64 32 (by decide), eh, List.take_left' (rdB_len _ _ _)]
      have ehy : rdB (wrB (wrB β79 0 (rdB β85 (128 * k) 32)) 32 (rdB β87 (128 * k) 32)) (0 + 32) 32 = rdB β87 (128 * k) 32 := by
        have := rdB_drop (β := wrB (wrB β79 0 (rdB β85 (128 * k) 32)) 32 (rdB β87 (128 * k) 32)) (p := 0) (n := 64) (a := 32) (by decide)
        rw [← this, eh, List.drop_left' (rdB_len _ _ _)]
      have Qe : MPq Se := Ce.q ((ke 10 (by omega)).trans ((kd 10 (by omega)).trans v10))
      have Qh : MPq Sh := ((Qe.ag ff (by simp) af (by decide)).ag fg (by simp) ag (by decide)).ag fh (by simp) ah (by decide)
      have Mh : MdS Sh 2 8 nP := (Nf.1.fr fg (by simp)).fr fh (by simp)
      obtain ⟨Si, gi, fi, Qi, ri⟩ := QM_setPoint (G := G) (F := F) (kb := 79) (p := 0) X h hp rfl (by decide) (by decide) Qh bh
      rw [ehx, ehy] at gi ri
      have gi' : P_X13_setPoint G F (W.ad (.o 13 0)) (W.ad (.a 13 0 79)) 0 (mem W Sh) = _ := gi
      rw [ho, if_pos rfl] at gi'
      obtain ⟨Vi, Ci, w8, w9, w10⟩ := ri ho
      obtain ⟨Sj, Vj, gj, fj, Cj, kj, Jj⟩ := QM_times (G := G) (F := F) (kb := 114) (p := 0) pr X h hp rfl (by decide) (by decide) Ci (fi.2.mB (ah.mB (ag.mB bf (by decide)) (by decide)) (by decide))
      rw [w8, w9, e114'] at Jj
      have gj' : P_X13_times_ G F (W.ad (.o 13 0)) (W.ad (.a 13 0 114)) 0 (mem W Si) = some (mem W Sj) := gj
      have aj : ∀ {kb : Nat} {β : Nat → UInt8}, mB (Sh 13 0) kb β → kb ∉ [68, 69, 70, 71, 72, 74, 75, 76, 77, 78] → mB (Sj 13 0) kb β := fun b q => fj.2.mB (fi.2.mB b q) q
      have G17 := G16.trans ((SGF7.of fi.1 fi.2 (by simp) (by simp) (by simp) (by simp)).trans (SGF7.of fj.1 fj.2 (by simp) (by simp) (by simp) (by simp)))
      have Mj : MdS Sj 2 8 nP := (Mh.fr fi.1 (by simp)).fr fj.1 (by simp)
      have vj : Vj 10 = bP_ := (kj 10 (by omega)).trans w10
      have dj : mDig (Sj 13 0) := fj.2.mDig (fi.2.mDig (ah.mDig (ag.mDig (af.mDig de (by decide)) (by decide)) (by decide)) (by decide)) (by decide)
      have b67_j := aj (ah.mB (ag.mB (af.mB m67 (by decide)) (by decide)) (by decide)) (by decide)
      have b79_j := aj bh (by decide)
      have b112_j := aj (ah.mB (ag.mB (af.mB b112_e (by decide)) (by decide)) (by decide)) (by decide)
      have b114_j := aj (ah.mB (ag.mB bf (by decide)) (by decide)) (by decide)
      obtain ⟨kx, hkx⟩ : ∃ x, x = beN (rdB β85 (128 * k) 32) := ⟨_, rfl⟩
      obtain ⟨ky, hky⟩ : ∃ x, x = beN (rdB β87 (128 * k) 32) := ⟨_, rfl⟩
      rw [← hkx, ← hky] at ho Jj
      rw [← hkx, ← hky]
      have sap := sum_two (ms := beV 32 h1) (ns := beV 32 h2) ho
      rw [sap]
      have hmul : ∀ t, affS (mulS (beV 32 h1) bpt) = some t → onC t.1 t.2 = true := fun t e => mul_on (p := (bX_, bY_)) onC_b e
      rw [h.gR 65 rfl (by decide), bO_s, rcv_m h.lo, bO_s, gc', bP_s, h.gR 114 rfl (by decide), bO_s, rcv_m h.lo, bO_s, gd', bO_s, h.gR 115 rfl (by decide), bO_s, rcv_m h.lo, bO_s, ge', bP_s, h.g59 hn, bO_s, h.gR 117 rfl (by decide), bO_s, h.gR 114 rfl (by decide), bO_s, rcv_m hn.2.1, bO_s, gf', bO_s, h.gR 85 rfl (by decide), bO_s, h.gR 79 rfl (by decide), bO_s, show (128 : Int32) * (Int32.ofNat k) = (Int32.ofNat (128 * k)) from n_mul 128 k, mv1', bO_s, h.gR 87 rfl (by decide), bO_s, h.gR 79 rfl (by decide), bO_s, mv2', bO_s, if_neg (by decide), h.gR 79 rfl (by decide), bO_s, rcv_m h.lo, bO_s, gi', bP_s, if_neg (by decide)]
      unfold B_X13_isSignedPoint_321
      rw [h.gR 114 rfl (by decide), bO_s, rcv_m h.lo, bO_s, gj', bO_s]
      cases ha : affS (mulS (beV 32 h1) bpt) with
      | none =>
        rw [ha] at re
        have re : Se = Sd := re
        have b115_e : mB (Se 13 0) 115 β115 := by rw [re]; exact fd.2.mB (fc.2.mB b115_11 (by decide)) (by decide)
        have b115_j := aj (ah.mB (ag.mB (af.mB b115_e (by decide)) (by decide)) (by decide)) (by decide)
        obtain ⟨Sk, gk, fk, ak, Qk, Mk, m67k, m79k⟩ := QM_isp361 (G := G) (F := F) X h hp hn Cj Jj vj Mj (G17.2.mB h63 (by decide)) e63 ⟨_, b67_j⟩ b79_j b112_j
        have G18 := G17.trans (SGF7.of fk ak (by simp) (by simp) (by simp) (by simp))
        rw [if_pos (by rfl), gk]
        exact ⟨Sk, rfl, G18, K.keep7 G18 Qk Mk m67k, ak.mDig dj (by decide), m79k, ⟨_, ak.mB b114_j (by decide)⟩, ⟨_, ak.mB b115_j (by decide)⟩⟩
      | some t =>
        rw [ha] at re
        have b115_e : mB (Se 13 0) 115 (wrB β115 0 (ptB t)) := re
        have b115_j := aj (ah.mB (ag.mB (af.mB b115_e (by decide)) (by decide)) (by decide)) (by decide)
        have e1 := rdB_wrB β115 0 (ptB t)
        rw [ptB_len] at e1
        have etx : beN (rdB (wrB β115 0 (ptB t)) 0 32) = t.1 := by
          rw [← seg_rd (β := wrB β115 0 (ptB t)) (p := 0) (n := 64) (a := 0) (b := 32) (by decide), e1]
          exact ptB_x (affS_lt ha).1
        have ety : beN (rdB (wrB β115 0 (ptB t)) (0 + 32) 32) = t.2 := by
          rw [← seg_rd (β := wrB β115 0 (ptB t)) (p := 0) (n := 64) (a := 32) (b := 32) (by decide), e1]
          exact ptB_y (affS_lt ha).2
        obtain ⟨Sl, Vl, gl, fl, Cl_, Jl, y8, y9, y10⟩ := QM_setPointJ (G := G) (F := F) (kb := 115) (p := 0) X h hp rfl (by decide) (by decide) Cj Jj vj b115_j (by rw [etx, ety]; exact hmul t ha)
        have gl' : P_X13_setPoint G F (W.ad (.o 13 0)) (W.ad (.a 13 0 115)) 0 (mem W Sj) = some (1, mem W Sl) := gl
        rw [etx] at y8
        rw [ety] at y9
        obtain ⟨Sm, Vm, gm, fm, Cm, km, Jm⟩ := QM_addP (G := G) (F := F) pr X h hp Cl_ Jl
        rw [y8, y9] at Jm
        have am : ∀ {kb : Nat} {β : Nat → UInt8}, mB (Sj 13 0) kb β → kb ∉ [68, 69, 70, 71, 72, 74, 75, 76, 77, 78] → mB (Sm 13 0) kb β := fun b q => fm.2.mB (fl.2.mB b q) q
        have G18 := G17.trans ((SGF7.of fl.1 fl.2 (by simp) (by simp) (by simp) (by simp)).trans (SGF7.of fm.1 fm.2 (by simp) (by simp) (by simp) (by simp)))
        obtain ⟨Sk, gk, fk, ak, Qk, Mk, m67k, m79k⟩ := QM_isp361 (G := G) (F := F) X h hp hn Cm Jm ((km 10 (by omega)).trans y10) ((Mj.fr fl.1 (by simp)).fr fm.1 (by simp)) (G18.2.mB h63 (by decide)) e63 ⟨_, am b67_j (by decide)⟩ (am b79_j (by decide)) (am b112_j (by decide))
        have G19 := G18.trans (SGF7.of fk ak (by simp) (by simp) (by simp) (by simp))
        rw [if_neg (by simp), if_neg (by decide), h.gR 115 rfl (by decide), bO_s, rcv_m h.lo, bO_s, gl', bP_s, if_neg (by decide), rcv_m h.lo, bO_s, gm, bO_s, gk]
        exact ⟨Sk, rfl, G19, K.keep7 G19 Qk Mk m67k, ak.mDig (fm.2.mDig (fl.2.mDig dj (by decide)) (by decide)) (by decide), m79k, ⟨_, ak.mB (am b114_j (by decide)) (by decide)⟩, ⟨_, ak.mB (am b115_j (by decide)) (by decide)⟩⟩
end MSIG7
