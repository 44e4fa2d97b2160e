/-! A TOKEN'S HEAD: the model -/
/-- the kid that a head asks for -/
def kdH (o : Ob) (bk : Nat) (J : JT) : Prop := o.f 106 = oLn ((fd J 55).map (J.2.1 7)) ∧ ∀ i, fd J 55 = some i → o.f 105 = (Int32.ofNat (8200 * bk + J.2.1 6 i))
def mEx (o : Ob) : Prop := (∃ γ, mB o 96 γ) ∧ (∃ γ, mB o 97 γ) ∧ (∃ γ, mB o 107 γ) ∧ (∃ γ, mB o 108 γ) ∧ ∃ γ, mB o 109 γ
def agH (o : Ob) (J : JT) : Prop := (∃ γ, mB o 107 γ ∧ rdB γ 0 64 = epB J) ∧ ptyM o 110 108 (paB J (fd J 71)) ∧ ptyM o 111 109 (paB J (fd J 72))
theorem mEx.ag {o o' : Ob} {fs gs as ls : List Nat} (E : mEx o) (a : agr fs gs as ls o o') (h : ∀ k ∈ [96, 97, 107, 108, 109], k ∉ as) : mEx o' := by
  obtain ⟨⟨γ1, x1⟩, ⟨γ2, x2⟩, ⟨γ3, x3⟩, ⟨γ4, x4⟩, γ5, x5⟩ := E
  exact ⟨⟨_, a.mB x1 (h _ (by decide))⟩, ⟨_, a.mB x2 (h _ (by decide))⟩, ⟨_, a.mB x3 (h _ (by decide))⟩, ⟨_, a.mB x4 (h _ (by decide))⟩, _, a.mB x5 (h _ (by decide))⟩
abbrev hdL : List Nat := [29, 73, 102, 103, 104, 105, 106, 110, 111]
/-- what a reading of a head leaves behind -/
def HdE (S S' : ST) (o : Ob) : Prop := fr [(12, 1), (13, 0)] S S' ∧ agr hdL [] agL_ [] o (S' 13 0) ∧ MK S' ∧ mEx (S' 13 0)
theorem HdE.pre {S S' : ST} {o o1 : Ob} (h : HdE S S' o1) (a : agr hdL [] agL_ [] o o1) : HdE S S' o := ⟨h.1, a.trans h.2.1, h.2.2⟩
section MHD
variable {W : WR} {G : mG} {F : Nat} {S : ST} {bk : Nat} {J : JT}
theorem fr_13 {S S' : ST} {o : Ob} (f : fr [(12, 1), (13, 0)] (S.so 13 0 o) S') : fr [(12, 1), (13, 0)] S S' := fun c i q => by
  rw [f c i q, so_ne (fun e => q (by rw [e.1, e.2]; simp))]
theorem oM_hd312 {o : Ob} {sl : Bool} {a e : Option Nat} {kz : Int32} (X : Cx G F W) (h : isM W) (hp : isMp W) (mk : MK (S.so 13 0 o)) (M : MTx o bk J) (hbk : bk ≤ 1) (Y : JX J) (h0 : 0 < J.1) (E : mEx o) (ha : o.f 102 = oI a) (he : o.f 103 = oI e) (la : ∀ i, a = some i → i < 2 ^ 31) (le : ∀ i, e = some i → i < 2 ^ 31) : ∃ S', B_X13_headOf_312 G F (W.ad (.o 13 0)) (if sl = true then 1 else 0) (Int32.ofNat bk) (W.ad (.o 13 0)) kz (mem W (S.so 13 0 o)) = some (if a = none ∨ e = none then -25 else if sl = true → a.getD 0 < 4 ∨ agM J = true then 0 else -23, mem W S') ∧ HdE S S' o ∧ (∀ k ∈ [102, 103, 104, 105], (S' 13 0).f k = o.f k) ∧ (S' 13 0).f 106 = kz ∧ (sl = true → a ≠ none → e ≠ none → 4 ≤ a.getD 0 → agM J = true → agH (S' 13 0) J) := by
  obtain ⟨o1, ho1⟩ : ∃ o1, o1 = o.sf 106 kz := ⟨_, rfl⟩
  have a1 : agr hdL [] agL_ [] o o1 := by rw [ho1]; exact agr_sf (by decide)
  have as1 : agr [106] [] [] [] o o1 := by rw [ho1]; exact agr_sf (by decide)
  have f2 : o1.f 102 = oI a := by rw [ho1, sf_ne (by decide)]; exact ha
  have f3 : o1.f 103 = oI e := by rw [ho1, sf_ne (by decide)]; exact he
  have f6 : o1.f 106 = kz := by rw [ho1, sf_eq]
  have keep : ∀ k ∈ [102, 103, 104, 105], o1.f k = o.f k := fun k hk => as1.1 k (by intro q; simp at q hk; omega)
  have mk1 : MK (S.so 13 0 o1) := mk.ag as1 (by decide) rfl
  have M1 : MTx o1 bk J := M.agr as1 (by decide)
  have E1 : mEx o1 := E.ag as1 (by decide)
  have g2 : gfI (mem W (S.so 13 0 o1)) (W.ad (.o 13 0)) 13 102 = some (oI a) := by rw [gfI_m h.lo rfl, so_eq, f2]
  have g3 : gfI (mem W (S.so 13 0 o1)) (W.ad (.o 13 0)) 13 103 = some (oI e) := by rw [gfI_m h.lo rfl, so_eq, f3]
  have stay : ∀ v : Int32, (if a = none ∨ e = none then -25 else if sl = true → a.getD 0 < 4 ∨ agM J = true then 0 else -23) = v → ¬ (sl = true ∧ a ≠ none ∧ e ≠ none ∧ 4 ≤ a.getD 0 ∧ agM J = true) → ∃ S', some (v, mem W (S.so 13 0 o1)) = some (if a = none ∨ e = none then -25 else if sl = true → a.getD 0 < 4 ∨ agM J = true then 0 else -23, mem W S') ∧ HdE S S' o ∧ (∀ k ∈ [102, 103, 104, 105], (S' 13 0).f k = o.f k) ∧ (S' 13 0).f 106 = kz ∧ (sl = true → a ≠ none → e ≠ none → 4 ≤ a.getD 0 → agM J = true → agH (S' 13 0) J) := by
    intro v hv hn
    refine ⟨S.so 13 0 o1, by rw [hv], ⟨fr_so (by simp), ?_, mk1, ?_⟩, ?_, ?_, fun q1 q2 q3 q4 q5 => absurd ⟨q1, q2, q3, q4, q5⟩ hn⟩
    · rw [so_eq]
      exact a1
    · rw [so_eq]
      exact E1
    · rw [so_eq]
      exact keep
    · rw [so_eq]
      exact f6
  unfold B_X13_headOf_312
  rw [pfI_m h.lo rfl, bO_s, so_eq, so_so, ← ho1, g2, bO_s]
  simp only [oI_lt la]
  by_cases ca : a = none
  · rw [if_pos ca]
    exact stay (-25) (by rw [if_pos (Or.inl ca)]) (fun q => q.2.1 ca)
  · rw [if_neg ca, g3, bO_s]
    simp only [oI_ge le]
    by_cases ce : e = none
    · rw [if_neg (fun q => q ce)]
      exact stay (-25) (by rw [if_pos (Or.inr ce)]) (fun q => q.2.2.1 ce)
    · have cc : ¬ (a = none ∨ e = none) := fun q => q.elim ca ce
      rw [if_pos ce]
      cases sl with
      | false =>
        rw [if_pos (show (if false = true then (1 : Int32) else 0) = 0 from rfl)]
        exact stay 0 (by rw [if_neg cc, if_pos (fun q => absurd q (by decide))]) (fun q => absurd q.1 (by decide))
      | true =>
        obtain ⟨i, hi⟩ := Option.ne_none_iff_exists'.mp ca
        have ga : a.getD 0 = i := by rw [hi]; rfl
        have li := la i hi
        have e3 : (oI a ≤ (3 : Int32)) = (i < 4) := by
          rw [hi]
          exact propext ((n_le (b := 3) (by omega) (by omega)).trans (by omega))
        rw [if_neg (by decide), bO_s]
        by_cases c4 : i < 4
        · rw [if_pos (e3.mpr c4)]
          exact stay 0 (by rw [if_neg cc, if_pos (fun _ => Or.inl (by omega))]) (fun q => by have := q.2.2.2.1; omega)
        · obtain ⟨x96, x97, x107, x108, x109⟩ := E1
          obtain ⟨S', q1, q2, q3, q4, q5, q6, ⟨γ, q7, q8⟩, q9, q10⟩ := QM_agreed (G := G) (F := F) (S := S.so 13 0 o1) (J := J) X h hp mk1 (by rw [so_eq]; exact M1) hbk Y h0 (by rw [so_eq]; exact x96) (by rw [so_eq]; exact x97) (by rw [so_eq]; exact x107) (by rw [so_eq]; exact x108) (by rw [so_eq]; exact x109)
          rw [so_eq] at q3
          rw [if_neg (fun q => c4 (e3.mp q)), rcv_m h.lo, bO_s, q1, bP_s]
          refine ⟨S', ?_, ⟨fr_13 q2, a1.trans (q3.mono (by simp [hdL]) (by simp) (fun _ q => q) (by simp)), q4, q5, q6, ⟨γ, q7⟩, q9.2.imp (fun _ q => q.1), q10.2.imp (fun _ q => q.1)⟩, fun k hk => ?_, ?_, fun _ _ _ _ q => ⟨⟨γ, q7, q8 q⟩, q9, q10⟩⟩
          · rw [if_neg cc]
            by_cases c5 : agM J = true
            · rw [if_pos c5, if_pos (fun _ => Or.inr c5)]
            · rw [if_neg c5, if_neg (fun q => (q rfl).elim (fun q => by omega) c5)]
          · rw [q3.1 k (by intro q; simp at q hk; omega)]
            exact keep k hk
          · rw [q3.1 106 (by decide)]
            exact f6
theorem oM_hd258 {o : Ob} {sl : Bool} {a e : Option Nat} (X : Cx G F W) (h : isM W) (hp : isMp W) (mk : MK (S.so 13 0 o)) (M : MTx o bk J) (hbk : bk ≤ 1) (Y : JX J) (h0 : 0 < J.1) (E : mEx o) (ha : o.f 102 = oI a) (la : ∀ i, a = some i → i < 2 ^ 31) (le : ∀ i, e = some i → i < 2 ^ 31) : ∃ S', B_X13_headOf_258 G F (W.ad (.o 13 0)) (if sl = true then 1 else 0) (Int32.ofNat bk) (oI (fd J 55)) (W.ad (.o 13 0)) (oI e) (mem W (S.so 13 0 o)) = some (if a = none ∨ e = none then -25 else if sl = true → a.getD 0 < 4 ∨ agM J = true then 0 else -23, mem W S') ∧ HdE S S' o ∧ ((S' 13 0).f 102 = oI a ∧ (S' 13 0).f 103 = oI e ∧ (S' 13 0).f 104 = o.f 104) ∧ kdH (S' 13 0) bk J ∧ (sl = true → a ≠ none → e ≠ none → 4 ≤ a.getD 0 → agM J = true → agH (S' 13 0) J) := by
  have Y2 := Y.2.1
  obtain ⟨o1, ho1⟩ : ∃ o1, o1 = o.sf 103 (oI e) := ⟨_, rfl⟩
  have a1 : agr [103, 105] [] [] [] o o1 := by rw [ho1]; exact agr_sf (by decide)
  have step : ∀ (v105 v106 : Int32), v106 = oLn ((fd J 55).map (J.2.1 7)) → (∀ i, fd J 55 = some i → v105 = (Int32.ofNat (8200 * bk + J.2.1 6 i))) → ∃ S', B_X13_headOf_312 G F (W.ad (.o 13 0)) (if sl = true then 1 else 0) (Int32.ofNat bk) (W.ad (.o 13 0)) v106 (mem W (S.so 13 0 (o1.sf 105 v105))) = some (if a = none ∨ e = none then -25 else if sl = true → a.getD 0 < 4 ∨ agM J = true then 0 else -23, mem W S') ∧ HdE S S' o ∧ ((S' 13 0).f 102 = oI a ∧ (S' 13 0).f 103 = oI e ∧ (S' 13 0).f 104 = o.f 104) ∧ kdH (S' 13 0) bk J ∧ (sl = true → a ≠ none → e ≠ none → 4 ≤ a.getD 0 → agM J = true → agH (S' 13 0) J) := by
    intro v105 v106 h6 h5
    have a2 : agr [103, 105] [] [] [] o (o1.sf 105 v105) := a1.trans (agr_sf (by decide))
    obtain ⟨S', q1, q2, q3, q4, q5⟩ := oM_hd312 (G := G) (F := F) (S := S) (o := o1.sf 105 v105) (J := J) (sl := sl) (a := a) (e := e) (kz := v106) X h hp (mk.ag a2 (by decide) rfl) (M.agr a2 (by decide)) hbk Y h0 (E.ag a2 (by decide)) (by rw [a2.1 102 (by decide)]; exact ha) (by rw [sf_ne (by decide), ho1, sf_eq]) la le
    refine ⟨S', q1, q2.pre (a2.mono (by simp [hdL]) (by simp) (by simp) (by simp)), ⟨?_, ?_, ?_⟩, ⟨?_, fun i hi => ?_⟩, q5⟩
    · rw [q3 102 (by simp), a2.1 102 (by decide)]
      exact ha
    · rw [q3 103 (by simp), sf_ne (by decide), ho1, sf_eq]
    · rw [q3 104 (by simp), a2.1 104 (by decide)]
    · rw [q4, h6]
    · rw [q3 105 (by simp), sf_eq]
      exact h5 i hi
  unfold B_X13_headOf_258
  rw [pfI_m h.lo rfl, bO_s, so_eq, so_so, ← ho1]
  unfold B_X13_headOf_285
  simp only [(show ((0 : Int32) ≤ oI (fd J 55)) = (fd J 55 ≠ none) from oI_ge (fN_b Y))]
  cases e5 : fd J 55 with
  | none =>
    rw [if_neg (by simp), pfI_m h.lo rfl, bO_s, so_eq, so_so, if_neg (by simp)]
    exact step 0 (-1) (by rw [e5]; rfl) (fun i hi => by rw [e5] at hi; exact absurd hi (by simp))
  | some i =>
    have hi := fN_lt e5
    have il : 600 * bk + i < 1200 := by omega
    have M1 : MTx ((S.so 13 0 o1) 13 0) bk J := by rw [so_eq]; exact M.agr a1 (by decide)
    obtain ⟨b1, b2, b3, b4, b5, b6, b7, b8, b9⟩ := M1.2.1 i (Nat.zero_le _) hi
    have M2 : MTx ((S.so 13 0 (o1.sf 105 (Int32.ofNat (8200 * bk + J.2.1 6 i)))) 13 0) bk J := by rw [so_eq]; exact M.agr (a1.trans (agr_sf (by decide))) (by decide)
    obtain ⟨d1, d2, d3, d4, d5, d6, d7, d8, d9⟩ := M2.2.1 i (Nat.zero_le _) hi
    rw [if_pos (by simp), mvr h 11, bO_s, show (600 : Int32) * (Int32.ofNat bk) + oI (some i) = (Int32.ofNat (600 * bk + i)) from m600, mva h 11 _ il, bO_s, b6, pfI_m h.lo rfl, bO_s, so_so]
    have st := step (Int32.ofNat (8200 * bk + J.2.1 6 i)) (Int32.ofNat (J.2.1 7 i)) (by rw [e5]; rfl) (fun k hk => by rw [e5] at hk; rw [← Option.some.inj hk])
    rw [so_eq, if_pos (by simp), mvr h 12, bO_s, mva h 12 _ il, bO_s, d7]
    exact st
theorem kB4 {i : Nat} {o : Option Nat} (e : o = some i) (k : kB J o 4 = true) : kB J (some i) 4 = true := by rw [← e]; exact k
/-- the reason behind the soundness of a head, as the model has it -/
def hdR (J : JT) (sl : Bool) : Int32 := if sl = true then (if fd J 54 = none then (if slA J = none ∨ slW J = none then -25 else if (slA J).getD 0 < 4 ∨ agM J = true then 0 else -23) else -24) else (if knB J = true then (if sgA J = none then -25 else 0) else -24)
def HdF (o : Ob) (bk : Nat) (J : JT) (sl : Bool) : Prop := kdH o bk J ∧ (if sl = true then o.f 102 = oI (slA J) ∧ o.f 103 = oI (slW J) ∧ (4 ≤ (slA J).getD 0 → agH o J) else o.f 102 = oI (sgA J) ∧ o.f 104 = (if brB J = true then 1 else 0))
theorem oM_hd231 {o : Ob} {sl : Bool} (X : Cx G F W) (h : isM W) (hp : isMp W) (mk : MK (S.so 13 0 o)) (M : MTx o bk J) (hbk : bk ≤ 1) (Y : JX J) (h0 : 0 < J.1) (E : mEx o) (k4 : kB J (fd J 56) 4 = true) (k6 : sl = true → kB J (fd J 66) 4 = true) (hb : o.f 104 = if (!sl && brB J) = true then 1 else 0) (hc : if sl = true then fd J 54 = none else knB J = true) : ∃ S', B_X13_headOf_231 G F (W.ad (.o 13 0)) (if sl = true then 1 else 0) (Int32.ofNat bk) (oI (fd J 66)) (oI (fd J 55)) (W.ad (.o 13 0)) (W.ad (.o 13 0)) (Int32.ofNat bk) (oI (fd J 56)) (G.1 (if sl = true then 117 else 108)) (mem W (S.so 13 0 o)) = some (hdR J sl, mem W S') ∧ HdE S S' o ∧ (hdR J sl = 0 → HdF (S' 13 0) bk J sl) := by
  obtain ⟨i, hi⟩ : ∃ i, fd J 56 = some i := by
    cases e : fd J 56 with
    | none => rw [e] at k4; exact absurd k4 (by simp [kB])
    | some i => exact ⟨i, rfl⟩
  have il := fN_lt hi
  have ki := kB4 hi k4
  have M' : MTx ((S.so 13 0 o) 13 0) bk J := by rw [so_eq]; exact M
  unfold B_X13_headOf_231
  cases sl with
  | false =>
    have hc : knB J = true := hc
    have w := QM_wordAt (G := G) (F := F) (S := S.so 13 0 o) (j := 108) (ws := wrS) X h M' hbk Y il (by decide) (by decide +kernel) (by decide) wrS_x
    rw [← ls_S Y ki] at w
    have sA : sgA J = lsF J (some i) (fun a => 33 + (0 + a)) 5 0 := by unfold sgA; rw [hi]
    rw [← sA] at w
    rw [rcv_m h.lo, bO_s, hi, show oI (some i) = (Int32.ofNat i) from rfl, if_neg (show ¬ false = true by decide), if_neg (show ¬ false = true by decide), w, bP_s, pfI_m h.lo rfl, bO_s, so_eq, so_so, if_pos rfl]
    have a1 : agr [102] [] [] [] o (o.sf 102 (oI (sgA J))) := agr_sf (by decide)
    obtain ⟨S', q1, q2, q3, q4, q5⟩ := oM_hd258 (G := G) (F := F) (S := S) (o := o.sf 102 (oI (sgA J))) (J := J) (sl := false) (a := sgA J) (e := some 0) X h hp (mk.ag a1 (by decide) rfl) (M.agr a1 (by decide)) hbk Y h0 (E.ag a1 (by decide)) (by rw [sf_eq]) (fun i hi => by have := ls_lt hi; omega) (fun i hi => by have := Option.some.inj hi; omega)
    refine ⟨S', ?_, q2.pre (a1.mono (by simp [hdL]) (by simp) (by simp) (by simp)), fun z => ⟨q4, ?_⟩⟩
    · have q1 : B_X13_headOf_258 G F (W.ad (.o 13 0)) 0 (Int32.ofNat bk) (oI (fd J 55)) (W.ad (.o 13 0)) 0 (mem W (S.so 13 0 (o.sf 102 (oI (sgA J))))) = _ := q1
      rw [q1]
      unfold hdR
      rw [if_neg (show ¬ false = true by decide), if_pos hc]
      by_cases c : sgA J = none
      · rw [if_pos (Or.inl c), if_pos c]
      · rw [if_neg (fun q => q.elim c (by simp)), if_pos (fun q => absurd q (by decide)), if_neg c]
    · rw [if_neg (by decide)]
      refine ⟨q3.1, ?_⟩
      rw [q3.2.2, sf_ne (by decide), hb]
      rfl
  | true =>
    have hc : fd J 54 = none := hc
    have k6 := k6 rfl
    obtain ⟨j, hj⟩ : ∃ j, fd J 66 = some j := by
      cases e : fd J 66 with
      | none => rw [e] at k6; exact absurd k6 (by simp [kB])
      | some j => exact ⟨j, rfl⟩
    have jl := fN_lt hj
    have kj := kB4 hj k6
    have w := QM_wordAt (G := G) (F := F) (S := S.so 13 0 o) (j := 117) (ws := wrE) X h M' hbk Y il (by decide) (by decide +kernel) (by decide) wrE_x
    rw [← ls_E Y ki] at w
    have sA : slA J = lsF J (some i) (fun a => 33 + (5 + a)) 6 0 := by unfold slA; rw [hi]
    rw [← sA] at w
    have a1 : agr [102] [] [] [] o (o.sf 102 (oI (slA J))) := agr_sf (by decide)
    have M1 : MTx ((S.so 13 0 (o.sf 102 (oI (slA J)))) 13 0) bk J := by rw [so_eq]; exact M.agr a1 (by decide)
    have w2 := QM_wordAt (G := G) (F := F) (S := S.so 13 0 (o.sf 102 (oI (slA J)))) (j := 111) (ws := wrW) X h M1 hbk Y jl (by decide) wrW_r (by decide) wrW_x
    rw [← ls_W Y kj] at w2
    have sW : slW J = lsF J (some j) (fun a => 59 + a) 4 0 := by unfold slW; rw [hj]
    rw [← sW] at w2
    rw [rcv_m h.lo, bO_s, hi, show oI (some i) = (Int32.ofNat i) from rfl, if_pos (show true = true by decide), if_pos (show true = true by decide), w, bP_s, pfI_m h.lo rfl, bO_s, so_eq, so_so, if_neg (by decide), rcv_m h.lo, bO_s, hj, show oI (some j) = (Int32.ofNat j) from rfl, w2, bP_s]
    obtain ⟨S', q1, q2, q3, q4, q5⟩ := oM_hd258 (G := G) (F := F) (S := S) (o := o.sf 102 (oI (slA J))) (J := J) (sl := true) (a := slA J) (e := slW J) X h hp (mk.ag a1 (by decide) rfl) (M.agr a1 (by decide)) hbk Y h0 (E.ag a1 (by decide)) (by rw [sf_eq]) (fun i hi => by have := ls_lt hi; omega) (fun i hi => by have := ls_lt hi; omega)
    have R : hdR J true = if slA J = none ∨ slW J = none then -25 else if (slA J).getD 0 < 4 ∨ agM J = true then 0 else -23 := by
      unfold hdR
      rw [if_pos rfl, if_pos hc]
    refine ⟨S', ?_, q2.pre (a1.mono (by simp [hdL]) (by simp) (by simp) (by simp)), fun z => ⟨q4, ?_⟩⟩
    · have q1 : B_X13_headOf_258 G F (W.ad (.o 13 0)) 1 (Int32.ofNat bk) (oI (fd J 55)) (W.ad (.o 13 0)) (oI (slW J)) (mem W (S.so 13 0 (o.sf 102 (oI (slA J))))) = _ := q1
      rw [q1, R]
      simp only [true_implies]
    · rw [if_pos rfl]
      refine ⟨q3.1, q3.2.1, fun l4 => ?_⟩
      rw [R] at z
      split at z
      · exact absurd z (by decide)
      · rename_i c
        split at z
        · rename_i c2
          exact q5 rfl (fun q => c (Or.inl q)) (fun q => c (Or.inr q)) l4 (c2.elim (fun q => by omega) id)
        · exact absurd z (by decide)
theorem oM_hd182 {o : Ob} {sl : Bool} (X : Cx G F W) (h : isM W) (hp : isMp W) (mk : MK (S.so 13 0 o)) (M : MTx o bk J) (hbk : bk ≤ 1) (Y : JX J) (I : JI J) (h0 : 0 < J.1) (E : mEx o) (k4 : kB J (fd J 56) 4 = true) (k6 : sl = true → kB J (fd J 66) 4 = true) : ∃ S', B_X13_headOf_182 G F (W.ad (.o 13 0)) (if sl = true then 1 else 0) (Int32.ofNat bk) (oI (fd J 56)) (oI (fd J 66)) (oI (fd J 55)) (oI (fd J 54)) (mem W (S.so 13 0 o)) = some (hdR J sl, mem W S') ∧ HdE S S' o ∧ (hdR J sl = 0 → HdF (S' 13 0) bk J sl) := by
  unfold B_X13_headOf_182
  rw [pfZ_m h.lo rfl (Or.inl rfl), bO_s, so_eq, so_so]
  simp only [(show (oI (fd J 54) < (0 : Int32)) = (fd J 54 = none) from oI_lt (fN_b Y))]
  obtain ⟨o1, ho1⟩ : ∃ o1, o1 = o.sf 104 0 := ⟨_, rfl⟩
  have a1 : agr [104] [] [] [] o o1 := by rw [ho1]; exact agr_sf (by decide)
  have f1 : o1.f 104 = 0 := by rw [ho1, sf_eq]
  rw [← ho1]
  have a1h : agr hdL [] agL_ [] o o1 := a1.mono (by simp [hdL]) (by simp) (by simp) (by simp)
  have mk1 : MK (S.so 13 0 o1) := mk.ag a1 (by decide) rfl
  have M1 : MTx o1 bk J := M.agr a1 (by decide)
  have E1 : mEx o1 := E.ag a1 (by decide)
  have stay : ∀ o2 : Ob, agr [104] [] [] [] o o2 → hdR J sl = -24 → ∃ S', some ((-24 : Int32), mem W (S.so 13 0 o2)) = some (hdR J sl, mem W S') ∧ HdE S S' o ∧ (hdR J sl = 0 → HdF (S' 13 0) bk J sl) := by
    intro o2 a2 hr
    refine ⟨S.so 13 0 o2, by rw [hr], ⟨fr_so (by simp), ?_, mk.ag a2 (by decide) rfl, ?_⟩, fun q => absurd (hr.symm.trans q) (by decide)⟩
    · rw [so_eq]
      exact a2.mono (by simp [hdL]) (by simp) (by simp) (by simp)
    · rw [so_eq]
      exact E.ag a2 (by decide)
  cases e4 : fd J 54 with
  | none =>
    rw [if_pos rfl]
    have br : brB J = false := by unfold brB; rw [e4]; rfl
    obtain ⟨S', q1, q2, q3⟩ := oM_hd231 (G := G) (F := F) (S := S) (o := o1) (J := J) (sl := sl) X h hp mk1 M1 hbk Y h0 E1 k4 k6 (by rw [f1, br, Bool.and_false]; rfl) (by cases sl with | true => exact e4 | false => show knB J = true; unfold knB; rw [e4])
    refine ⟨S', ?_, q2.pre a1h, q3⟩
    cases sl with
    | true => exact q1
    | false => exact q1
  | some c =>
    rw [if_neg (by simp)]
    cases sl with
    | true =>
      rw [if_neg (by decide)]
      exact stay o1 a1 (by unfold hdR; rw [if_pos rfl, if_neg (by rw [e4]; simp)])
    | false =>
      have kn := oM_known (G := G) (F := F) (S := S) (o := o1) X h M1 hbk Y I h0 e4
      have kn : P_X13_isKnown G F (W.ad (.o 13 0)) (Int32.ofNat bk) (oI (some c)) (mem W (S.so 13 0 o1)) = _ := kn
      rw [if_pos (show (if false = true then (1 : Int32) else 0) = 0 from rfl), rcv_m h.lo, bO_s, kn, bP_s]
      have a2 : agr [104] [] [] [] o (o1.sf 104 (if (knB J && brB J) = true then 1 else 0)) := a1.trans (agr_sf (by decide))
      by_cases k : knB J = true
      · rw [if_pos k, if_neg (by decide), if_pos (show (if false = true then (1 : Int32) else 0) = 0 from rfl)]
        obtain ⟨S', q1, q2, q3⟩ := oM_hd231 (G := G) (F := F) (S := S) (o := o1.sf 104 (if (knB J && brB J) = true then 1 else 0)) (J := J) (sl := false) X h hp (mk.ag a2 (by decide) rfl) (M.agr a2 (by decide)) hbk Y h0 (E.ag a2 (by decide)) k4 k6 (by rw [sf_eq, k]; rfl) k
        exact ⟨S', q1, q2.pre (a2.mono (by simp [hdL]) (by simp) (by simp) (by simp)), q3⟩
      · rw [if_neg k, if_pos rfl]
        exact stay _ a2 (by unfold hdR; rw [if_neg (by decide), if_neg k])
end MHD
