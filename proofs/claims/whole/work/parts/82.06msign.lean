/-! THE MODEL'S signPoint, whole -/
abbrev SGL : List Nat := [36, 31, 32, 35, 116, 117, 118, 60, 61, 67, 68, 69, 70, 71, 72, 74, 75, 76, 77, 78, 79, 112, 114, 115]
abbrev SGF (S S' : ST) : Prop := fr [(12, 1), (12, 2), (13, 0)] S S' ∧ agr [73, 37, 113] [] SGL [33, 34] (S 13 0) (S' 13 0)
theorem SGF.trans {S S1 S2 : ST} (h1 : SGF S S1) (h2 : SGF S1 S2) : SGF S S2 := ⟨h1.1.trans h2.1, h1.2.trans h2.2⟩
theorem SGF.refl (S : ST) : SGF S S := ⟨fr.refl _ _, agr.refl _ _ _ _ _⟩
theorem SGF.of {S S' : ST} {L : List (Nat × Nat)} {fs as ls : List Nat} (f : fr L S S') (a : agr fs [] as ls (S 13 0) (S' 13 0)) (hL : ∀ x ∈ L, x ∈ [(12, 1), (12, 2), (13, 0)]) (h1 : ∀ k ∈ fs, k ∈ [73, 37, 113]) (h2 : ∀ k ∈ as, k ∈ SGL) (h3 : ∀ k ∈ ls, k ∈ [33, 34]) : SGF S S' := ⟨f.mono hL, a.mono h1 (by simp) h2 h3⟩
theorem NS.ag {S S' : ST} {U : Nat → Nat} {L : List (Nat × Nat)} {fs gs as ls : List Nat} (N : NS S U) (f : fr L S S') (h1 : (12, 2) ∉ L) (a : agr fs gs as ls (S 13 0) (S' 13 0)) (hn : ∀ q ∈ NL, q ∉ as) : NS S' U := by
  refine ⟨N.1.fr f h1, fun k hk => ?_⟩
  have e : igt S' (cm k) = igt S (cm k) := a.2.2.1 (mo k) (hn _ (mo_nl k hk))
  rw [e]
  exact N.2 k hk
theorem MK.keep {S S' : ST} (K : MK S) (f : SGF S S') (q : MPq S') (m : MdS S' 2 8 nP) (b : ∃ β, mB (S' 13 0) 67 β) : MK S' := by
  obtain ⟨_, _, ⟨β63, h63, e63⟩, ⟨β64, h64, e64⟩, ⟨β65, h65, e65⟩, _⟩ := K
  exact ⟨q, m, ⟨β63, f.2.mB h63 (by decide), e63⟩, ⟨β64, f.2.mB h64 (by decide), e64⟩, ⟨β65, f.2.mB h65 (by decide), e65⟩, b⟩
section MSIGN
variable {W : WR} {G : mG} {F : Nat} {S : ST}
theorem QM_signPoint {k rr : Nat} {rows : Nat → List UInt8} {msg : List UInt8} {β89 : Nat → UInt8} (pr : PrP) (X : Cx G F W) (h : isM W) (hp : isMp W) (hn : isMn W) (K : MK S) (hR : mRows (S 13 0) rows) (hd : mDig (S 13 0)) (hm : mMsg (S 13 0) msg) (h79 : ∃ β, mB (S 13 0) 79 β) (h112 : ∃ β, mB (S 13 0) 112 β) (b89 : mB (S 13 0) 89 β89) (hk : k < 16) (hr : rr < 8) : ∃ S', P_X13_signPoint G F (W.ad (.o 13 0)) (Int32.ofNat k) (Int32.ofNat rr) (mem W S) = some (if 32 ≤ (rows rr).length ∧ (sigF (sha false msg) (rdB β89 (128 * k) 32) (rows rr)).isSome = true then 0 else -4, mem W S') ∧ SGF S S' ∧ MK S' ∧ mDig (S' 13 0) ∧ (∃ β, mB (S' 13 0) 79 β) ∧ ∃ β, mB (S' 13 0) 112 β ∧ (32 ≤ (rows rr).length → ∀ rs, sigF (sha false msg) (rdB β89 (128 * k) 32) (rows rr) = some rs → rdB β 0 64 = beV 32 rs.1 ++ beV 32 rs.2 ∧ (S' 13 0).f 113 = 64) := by
  obtain ⟨β79, h79⟩ := h79
  obtain ⟨β112, h112⟩ := h112
  obtain ⟨β, r1, r2⟩ := id hR
  obtain ⟨x3, x4, x5⟩ := r2 rr hr
  obtain ⟨Q, MN, ⟨β63, h63, e63⟩, ⟨β64, h64, e64⟩, ⟨β65, h65, e65⟩, β67, h67⟩ := id K
  unfold P_X13_signPoint
  rw [h.gR 3 rfl (by decide), bO_s, h.aN rfl (show rr < 8 from hr) (by decide), bO_s, x3]
  by_cases c32 : 32 ≤ (rows rr).length
  · rw [if_neg (fun q => by rw [lit 32, n_lt (by omega) (by omega)] at q; omega)]
    simp only [c32, true_and, true_implies]
    have ek : rdB β (8192 * rr) 32 = seg (rows rr) 0 32 := by
      rw [← x5, seg_rd (by omega)]
      rfl
    obtain ⟨S1, g1, f1⟩ := QM_isSecret (G := G) (F := F) (kb := 2) (p := 8192 * rr) X h hn.1 hn.2 rfl (by decide) (by show _ ≤ 65536; omega) MN r1
    rw [ek] at g1
    have F1 : SGF S S1 := SGF.of (f1.fr (L' := [(13, 0)]) (by simp [ow])) (f1.agr (as := [60]) (by simp)) (by simp) (by simp) (by simp) (by simp)
    have a1 := f1.agr (as := [60]) (by simp)
    have M1 : MdS S1 2 8 nP := MN.ifr f1 (by simp) (by simp) (by simp)
    have Q1 : MPq S1 := Q.ag (f1.fr (L' := [(13, 0)]) (by simp [ow])) (by simp) a1 (by decide)
    have d1 : mDig (S1 13 0) := a1.mDig hd (by decide)
    rw [h.gR 2 rfl (by decide), bO_s, rcv_m h.lo, bO_s, show (8192 : Int32) * (Int32.ofNat rr) = (Int32.ofNat (8192 * rr)) from n_mul 8192 rr, g1, bP_s]
    cases c0 : secF (seg (rows rr) 0 32) with
    | false =>
      have e : sigF (sha false msg) (rdB β89 (128 * k) 32) (rows rr) = none := by unfold sigF; rw [c0]; rfl
      rw [if_neg Bool.false_ne_true, if_pos rfl, e]
      exact ⟨S1, rfl, F1, K.keep F1 Q1 M1 ⟨β67, a1.mB h67 (by decide)⟩, d1, ⟨β79, a1.mB h79 (by decide)⟩, β112, a1.mB h112 (by decide), fun rs q => absurd q (by simp)⟩
    | true =>
      rw [if_pos rfl, if_neg (by decide)]
      obtain ⟨q, ha⟩ := k_some (seg_len (xs := rows rr) (p := 0) (n := 32) (by omega)) c0
      obtain ⟨U1, N1⟩ := NS.of M1
      obtain ⟨S2, U2, g2, f2, a2, d2, N2, u2⟩ := QM_digestNumber (G := G) (F := F) X h hn N1 d1 (a1.mMsg hm (by decide) (by decide))
      have F2 : SGF S1 S2 := SGF.of f2 a2 (by simp) (by simp) (by simp) (by simp)
      have Q2 : MPq S2 := Q1.ag f2 (by simp) a2 (by decide)
      have a12 := F1.2.trans F2.2
      obtain ⟨S3, g3, f3, Q3, r3⟩ := QM_setPoint (G := G) (F := F) (kb := 65) (p := 0) X h hp rfl (by decide) (by decide) Q2 (a12.mB h65 (by decide))
      obtain ⟨ex, ey⟩ := base_pt e65
      rw [ex, ey] at g3 r3
      have g3' : P_X13_setPoint G F (W.ad (.o 13 0)) (W.ad (.a 13 0 65)) 0 (mem W S2) = _ := g3
      rw [onC_base, if_pos rfl] at g3'
      obtain ⟨V3, C3, v8, v9, v10⟩ := r3 onC_base
      have e89 : (V3 8, V3 9) = bpt := by rw [v8, v9]; rfl
      have F3 : SGF S2 S3 := SGF.of f3.1 f3.2 (by simp) (by simp) (by simp) (by simp)
      have a13 := a12.trans F3.2
      obtain ⟨S4, V4, g4, f4, C4, k4, J4⟩ := QM_times (G := G) (F := F) (kb := 2) (p := 8192 * rr) pr X h hp rfl (by decide) (by show _ ≤ 65536; omega) C3 (a13.mB r1 (by decide))
      rw [e89, ek] at J4
      have F4 : SGF S3 S4 := SGF.of f4.1 f4.2 (by simp) (by simp) (by simp) (by simp)
      have a14 := a13.trans F4.2
      have a24 := F3.2.trans F4.2
      have b67_4 : ∃ β, mB (S4 13 0) 67 β := ⟨β67, f4.2.mB (f3.2.mB (a2.mB (a1.mB h67 (by decide)) (by decide)) (by decide)) (by decide)⟩
      have b79_4 : mB (S4 13 0) 79 β79 := f4.2.mB (f3.2.mB (a2.mB (a1.mB h79 (by decide)) (by decide)) (by decide)) (by decide)
      obtain ⟨S5, V5, g5, f5, a5, C5, k5, m67, r5⟩ := QM_getPoint (G := G) (F := F) (S := S4) (kt := 79) (pt := 0) X h hp rfl (by decide) (by decide) (by decide) (by decide) C4 J4 (a14.mB h63 (by decide)) e63 b67_4 b79_4
      have g5' : P_X13_getPoint G F (W.ad (.o 13 0)) (W.ad (.a 13 0 79)) 0 (mem W S4) = _ := g5
      rw [ha] at r5
      have r5 : mB (S5 13 0) 79 (wrB β79 0 (ptB q)) := r5
      have F5 : SGF S4 S5 := SGF.of f5 a5 (by simp) (by simp) (by simp) (by simp)
      have a15 := a14.trans F5.2
      obtain ⟨γ67, m67⟩ := m67
      have N5 : NS S5 U2 := ((N2.ag f3.1 (by simp) f3.2 (by decide)).ag f4.1 (by simp) f4.2 (by decide)).ag f5 (by simp) a5 (by decide)
      have b112_5 : mB (S5 13 0) 112 β112 := a5.mB (f4.2.mB (f3.2.mB (a2.mB (a1.mB h112 (by decide)) (by decide)) (by decide)) (by decide)) (by decide)
      have e79 : beN (rdB (wrB β79 0 (ptB q)) 0 32) = q.1 := by
        have e1 := rdB_wrB β79 0 (ptB q)
        rw [ptB_len] at e1
        rw [rdB_take _ 0 64 32 (by decide), e1]
        have := ptB_x (affS_lt ha).1
        unfold seg at this
        rw [List.drop_zero] at this
        exact this
      obtain ⟨S6, β', g6, f6, a6, M6, m6, b6, e6, t6⟩ := QM_sign78 (G := G) (F := F) (sk := 1) (β2 := β) (β64 := β64) X h hn N5 u2 hk hr (a15.mB r1 (by decide)) (a15.mB h64 (by decide)) m67 r5 (a15.mB b89 (by decide)) b112_5 e64 e79 rfl ek
      have F6 : SGF S5 S6 := SGF.of f6 a6 (by simp) (by simp) (by simp) (by simp)
      have FF := F1.trans (F2.trans (F3.trans (F4.trans (F5.trans F6))))
      have Q5 : MPq S5 := C5.q ((k5 10 (by omega)).trans ((k4 10 (by omega)).trans v10))
      have Q6 : MPq S6 := Q5.ag f6 (by simp) a6 (by decide)
      have d6 : mDig (S6 13 0) := a6.mDig (a5.mDig (f4.2.mDig (f3.2.mDig d2 (by decide)) (by decide)) (by decide)) (by decide)
      have b79_6 : ∃ β, mB (S6 13 0) 79 β := ⟨_, a6.mB r5 (by decide)⟩
      rw [rcv_m h.lo, bO_s, g2, bO_s, h.gR 65 rfl (by decide), bO_s, rcv_m h.lo, bO_s, g3', bP_s, h.gR 2 rfl (by decide), bO_s, rcv_m h.lo, bO_s, g4, bO_s, if_neg (by decide), h.gR 79 rfl (by decide), bO_s, rcv_m h.lo, bO_s, g5', bP_s, ha]
      rw [if_neg (by simp), g6]
      have kl : beN (seg (rows rr) 0 32) < nP := (of_decide_eq_true c0).2
      have es : sigF (sha false msg) (rdB β89 (128 * k) 32) (rows rr) = if q.1 % nP = 0 ∨ (q.1 % nP * beN (rdB β89 (128 * k) 32) + beN (sha false msg) % nP) * niv (beN (seg (rows rr) 0 32)) % nP = 0 then none else some (q.1 % nP, (q.1 % nP * beN (rdB β89 (128 * k) 32) + beN (sha false msg) % nP) * niv (beN (seg (rows rr) 0 32)) % nP) := by
        unfold sigF
        rw [if_pos c0, ha]
        have s1 : seg (rdB β89 (128 * k) 32) 0 32 = rdB β89 (128 * k) 32 := by
          unfold seg
          rw [List.drop_zero, List.take_of_length_le (by rw [rdB_len]; omega)]
        have s2 : seg (sha false msg) 0 32 = sha false msg := by
          unfold seg
          rw [List.drop_zero, List.take_of_length_le (by rw [sha_len]; simp)]
        rw [s1, s2, sgS_eq, Nat.mod_mod, Nat.mod_eq_of_lt kl]
      generalize (q.1 % nP * beN (rdB β89 (128 * k) 32) + beN (sha false msg) % nP) * niv (beN (seg (rows rr) 0 32)) % nP = sg at *
      refine ⟨S6, ?_, FF, K.keep FF Q6 M6 m6, d6, b79_6, β', b6, fun rs hrs => ⟨?_, t6⟩⟩
      · by_cases c1 : q.1 % nP = 0 ∨ sg = 0
        · rw [if_pos c1] at es
          rw [es, if_pos (by rcases c1 with c | c; exact Or.inl c; exact Or.inr (Or.inl c)), if_neg (by simp)]
        · rw [if_neg c1] at es
          rw [es, if_neg (fun o => by
            rcases o with c | c | c
            · exact c1 (Or.inl c)
            · exact c1 (Or.inr c)
            · exact absurd c (by decide)), if_pos (by rfl)]
      · by_cases c1 : q.1 % nP = 0 ∨ sg = 0
        · rw [es, if_pos c1] at hrs
          exact absurd hrs (by simp)
        · rw [es, if_neg c1] at hrs
          obtain rfl := Option.some.inj hrs
          exact e6
  · rw [if_pos (by rw [lit 32, n_lt (by omega) (by omega)]; omega), if_neg (fun o => c32 o.1)]
    exact ⟨S, rfl, SGF.refl S, K, hd, ⟨β79, h79⟩, β112, h112, fun o => absurd o c32⟩
end MSIGN
