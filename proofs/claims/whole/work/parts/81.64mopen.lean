/-! SEALED CONTENT: the model's openIt, the calls seal and open -/
theorem agr.mDig {fs gs as ls : List Nat} {o o' : Ob} (h : agr fs gs as ls o o') (d : mDig o) (hk : ∀ k ∈ [35, 36, 40, 38], k ∉ as) : mDig o' := by
  obtain ⟨⟨x1, y1⟩, ⟨x2, y2⟩, ⟨x3, y3⟩, x4, y4⟩ := d
  exact ⟨⟨x1, h.mB y1 (hk 35 (by decide))⟩, ⟨x2, h.mB y2 (hk 36 (by decide))⟩, ⟨x3, h.mB y3 (hk 40 (by decide))⟩, x4, h.mB y4 (hk 38 (by decide))⟩
theorem rdB_drop {β : Nat → UInt8} {p n a : Nat} (h : a ≤ n) : (rdB β p n).drop a = rdB β (p + a) (n - a) := by
  apply List.ext_getElem?
  intro j
  rw [List.getElem?_drop]
  by_cases hj : j < n - a
  · rw [rdB_at (by omega), rdB_at hj, Nat.add_assoc]
  · rw [List.getElem?_eq_none (by rw [rdB_len]; omega), List.getElem?_eq_none (by rw [rdB_len]; omega)]
theorem rdB_tk {β : Nat → UInt8} {p n a : Nat} (h : a ≤ n) : (rdB β p n).take a = rdB β p a := by
  apply List.ext_getElem?
  intro j
  rw [List.getElem?_take]
  by_cases hj : j < a
  · rw [if_pos hj, rdB_at (by omega), rdB_at hj]
  · rw [if_neg hj, List.getElem?_eq_none (by rw [rdB_len]; omega)]
section MOPEN2
variable {W : WR} {G : mG} {F : Nat} {S : ST} {ks : Nat → UInt8} {nr : Nat}
theorem oM_op_0 {o : Ob} {l11 l15 l17 : Int32} (h : isM W) (n : Nat) : B_X13_openIt_284 G F (n + 1) (W.ad (.o 13 0)) l11 l15 0 l17 (mem W (S.so 13 0 o)) = some (0, mem W (S.so 13 0 (o.sf 50 (l11 - l15)))) := by
  rw [B_X13_openIt_284]
  by_cases c : l11 ≤ l17
  · rw [if_pos c, pI h.lo rfl, bO_s, retZ0]
  · rw [if_neg c, if_pos rfl, pI h.lo rfl, bO_s, retZ0]
theorem oM_op_e {o : Ob} {D : List UInt8} {γ : Nat → UInt8} {l4 l9 : Nat} {l5 l10 : Int32} (X : Cx G F W) (h : isM W) (hγ : mB o 49 γ) (hD : D.length ≤ 8250) (h16 : 16 ≤ D.length) (eD : rdB γ 0 D.length = D) (n : Nat) : ∃ o', B_X13_openIt_149 G F (n + 1) (W.ad (.o 13 0)) l4 l5 l9 l10 (Int32.ofNat D.length) (Int32.ofNat D.length) (mem W (S.so 13 0 o)) = some (if fillOK D = true then 1 else 0, mem W (S.so 13 0 o')) ∧ agr [50] [] [] [] o o' ∧ (fillOK D = true → o'.f 50 = (Int32.ofNat (D.length - fillOf D))) := by
  have hF := X.hF
  obtain ⟨F', hF'⟩ : ∃ q, F = q + 1 := ⟨F - 1, by omega⟩
  have ev : γ (D.length - 1) = D.getD (D.length - 1) 0 := by
    have q := rdB_at (β := γ) (p := 0) (n := D.length) (j := D.length - 1) (by omega)
    rw [eD, Nat.zero_add] at q
    rw [List.getD_eq_getElem?_getD, q]
    rfl
  have hf256 : fillOf D < 256 := (D.getD (D.length - 1) 0).toNat_lt
  have eb : b32 (D.getD (D.length - 1) 0) = (Int32.ofNat (fillOf D)) := rfl
  rw [B_X13_openIt_149, if_pos ((n_le (by omega) (by omega)).mpr (Nat.le_refl _)), oM_gR h 49 rfl (by decide), bO_s, n_subL 1 (by omega), h.aB' rfl hγ (show D.length - 1 < 8300 by omega) (by decide), bO_s, sb_and, ev, eb]
  have hno : ¬ (1 ≤ fillOf D ∧ fillOf D ≤ 16) → ¬ fillOK D = true := fun q q2 => q ⟨((fillOK_iff D).mp q2).1, ((fillOK_iff D).mp q2).2.1⟩
  by_cases c1 : fillOf D < 1
  · rw [if_pos (by rw [lit 1]; exact (n_lt (by omega) (by omega)).mpr c1), if_neg (hno (by omega))]
    conv => enter [1, o', 1, 1]; rw [hF', oM_op_0 h]
    exact ⟨_, rfl, agr_sf (by decide), fun q => absurd q (hno (by omega))⟩
  rw [if_neg (by rw [lit 1]; exact fun q => c1 ((n_lt (by omega) (by omega)).mp q))]
  by_cases c2 : 16 < fillOf D
  · rw [if_pos (by rw [lit 16]; exact (n_lt (by omega) (by omega)).mpr c2), if_neg (hno (by omega))]
    conv => enter [1, o', 1, 1]; rw [hF', oM_op_0 h]
    exact ⟨_, rfl, agr_sf (by decide), fun q => absurd q (hno (by omega))⟩
  rw [if_neg (by rw [lit 16]; exact fun q => c2 ((n_lt (by omega) (by omega)).mp q)), n_sub (by omega)]
  have := oM_op_f (G := G) (F := F) (S := S) (o := o) (f := fillOf D) h hγ hD eD (by omega) (by omega) (fillOf D) 0 F true (by omega) (by omega) ⟨fun _ t ht => by omega, fun _ => rfl⟩
  rw [Nat.add_zero, if_pos rfl] at this
  refine ⟨o.sf 50 (Int32.ofNat (D.length - fillOf D)), this.trans ?_, agr_sf (by decide), fun _ => by rw [sf_f, if_pos rfl]⟩
  by_cases c3 : ∀ t, t < fillOf D → D.getD (D.length - fillOf D + t) 0 = UInt8.ofNat (fillOf D)
  · rw [if_pos c3, if_pos ((fillOK_iff D).mpr ⟨by omega, by omega, c3⟩)]
  · rw [if_neg c3, if_neg (fun q => c3 ((fillOK_iff D).mp q).2.2)]
set_option maxHeartbeats 4000000 in
theorem oM_openIt {o : Ob} {way kk pk kb pb ka pa ko po km pm : Nat} {key iv al c mk : List UInt8} {βk βb βa βo βm γ μ : Nat → UInt8} (X : Cx G F W) (h : isM W) (hw : way < 4) (qk : (kdA 13)[kk]? = some 1) (qb : (kdA 13)[kb]? = some 1) (qa : (kdA 13)[ka]? = some 1) (qo : (kdA 13)[ko]? = some 1) (qm : (kdA 13)[km]? = some 1) (nk : kk ∉ SLA) (nb : kb ∉ SLA) (na : ka ∉ SLA) (no : ko ∉ SLA) (nm : km ∉ SLA) (lk : mLen kk < 2 ^ 30) (lb_ : mLen kb < 2 ^ 30) (la : mLen ka < 2 ^ 30) (lo_ : mLen ko < 2 ^ 30) (lm : mLen km < 2 ^ 30) (rk : pk + key.length ≤ mLen kk) (rb : pb + iv.length ≤ mLen kb) (ra : pa + al.length ≤ mLen ka) (ro : po + c.length ≤ mLen ko) (rm : pm + mk.length ≤ mLen km) (hkl : key.length = wayK way) (hil : iv.length = ivOf way) (hml : mk.length = wayM way) (hal : al.length ≤ 16000) (hc : c.length ≤ 8250) (hk : mB o kk βk) (hb : mB o kb βb) (ha : mB o ka βa) (ho : mB o ko βo) (hm : mB o km βm) (hγ : mB o 49 γ) (hμ : mB o 51 μ) (h47 : ∃ δ, mB o 47 δ) (h52 : ∃ ζ, mB o 52 ζ) (hD : mDig o) (hbx : oBX o) (ek : rdB βk pk key.length = key) (eb : rdB βb pb iv.length = iv) (ea : rdB βa pa al.length = al) (eo : rdB βo po c.length = c) (em : rdB βm pm mk.length = mk) : ∃ o', P_X13_openIt G F (W.ad (.o 13 0)) (Int32.ofNat way) (W.ad (.a 13 0 kk)) (Int32.ofNat pk) (W.ad (.a 13 0 kb)) (Int32.ofNat pb) (W.ad (.a 13 0 ka)) (Int32.ofNat pa) (Int32.ofNat al.length) (W.ad (.a 13 0 ko)) (Int32.ofNat po) (Int32.ofNat c.length) (W.ad (.a 13 0 km)) (Int32.ofNat pm) (mem W (S.so 13 0 o)) = some (if (openC way key iv al c mk).isSome = true then 1 else 0, mem W (S.so 13 0 o')) ∧ agr [37, 39, 44, 50] [53, 54, 55, 56] SLA [33, 34] o o' ∧ (∃ γ', mB o' 49 γ' ∧ ∀ v, openC way key iv al c mk = some v → o'.f 50 = (Int32.ofNat v.length) ∧ rdB γ' 0 v.length = v) ∧ (∃ μ', mB o' 51 μ') ∧ (∃ δ, mB o' 47 δ) ∧ (∃ ζ, mB o' 52 ζ) ∧ mDig o' := by
  have lo := h.lo
  have hF := X.hF
  have sub : ∀ {as : List Nat} {k : Nat}, k ∉ SLA → (∀ x ∈ as, x ∈ SLA) → k ∉ as := fun hk hs q => hk (hs _ q)
  by_cases hw2 : 2 ≤ way
  · have hkl2 : key.length = 16 ∨ key.length = 32 := by
      rw [hkl]; unfold wayK
      have : way = 2 ∨ way = 3 := by omega
      rcases this with rfl | rfl
      · exact .inl rfl
      · exact .inr rfl
    have hi12 : iv.length = 12 := by rw [hil, ivOf, if_neg (by omega)]
    have hwm : mk.length = 16 := by rw [hml]; unfold wayM; rw [if_neg (by omega)]
    obtain ⟨o1, g1, a1, k1⟩ := oM_key (G := G) (F := F) (S := S) (p := pk) (n := key.length) X h qk lk hkl2 rk hk hbx
    rw [ek] at k1
    obtain ⟨KS_, hKS⟩ : ∃ f, f = ksF (key.length / 4) key := ⟨_, rfl⟩
    rw [← hKS] at k1
    have hiv : ∀ j, j < 12 → βb (pb + j) = iv.getD j 0 := by
      intro j hj
      conv => rhs; rw [← eb]
      rw [List.getD_eq_getElem?_getD, rdB_at (by omega)]
      rfl
    obtain ⟨ζ, h52⟩ := h52
    obtain ⟨δ, h47⟩ := h47
    obtain ⟨o3, μ3, g3, a3, u3, r3, d3, z3⟩ := oM_sumMark (G := G) (F := F) (S := S) (o := o1) (kc := ko) (pc := po) (iv := iv) (al := al) (xs := c) X h qb qa qo (sub nb (by decide)) (sub na (by decide)) (sub no (by decide)) lb_ la lo_ (by omega) ra ro (by omega) (by omega) (a1.mB hb (sub nb (by decide))) (a1.mB ha (sub na (by decide))) (a1.mB ho (sub no (by decide))) (a1.mB h47 (by decide)) (a1.mB hμ (by decide)) (a1.mB h52 (by decide)) (oBX_ag a1 (by decide) (by decide) hbx) k1 hiv ea eo
    have a13 : agr [37, 39, 44, 50] [53, 54, 55, 56] SLA [33, 34] o o3 := (a1.mono (by decide) (by decide) (by decide) (by decide)).trans (a3.mono (by decide) (by decide) (by decide) (by decide))
    have D3 : mDig o3 := (a3.mDig (a1.mDig hD (by decide)) (by decide))
    have sm := oM_same (G := G) (F := F) (S := S) (o := o3) (k1 := 51) (p1 := 0) (k2 := km) (p2 := pm) (cnt := 16) X h rfl qm (by decide) lm (by decide) (by omega) (by decide) u3 (a13.mB hm nm)
    rw [r3, ← hwm, em] at sm
    have sm' : P_X13_same G F (W.ad (.a 13 0 51)) 0 (W.ad (.a 13 0 km)) (Int32.ofNat pm) 16 (mem W (S.so 13 0 o3)) = some (if gmarkF KS_ (key.length / 4 + 6) iv al c = mk then 1 else 0, mem W (S.so 13 0 o3)) := by rw [hwm] at sm; exact sm
    unfold P_X13_openIt openC
    rw [if_neg (by rw [lit 1]; exact fun q => absurd ((n_le (by omega) (by omega)).mp q) (by omega)), oM_keyOf hw, bP_s, rcv_m lo, bO_s, ← hkl, g1, bO_s, rcv_m lo, bO_s, g3, bO_s, oM_gR h 51 rfl (by decide), bO_s, sm', bP_s, if_pos hw2, ← hKS]
    by_cases ceq : gmarkF KS_ (key.length / 4 + 6) iv al c = mk
    · rw [if_pos ceq, if_pos ceq, if_neg (by decide), rcv_m lo, bO_s]
      obtain ⟨o4, γ4, g4, a4, f4, m4, r4, z4⟩ := oM_stream (G := G) (F := F) (S := S) (o := o3) (iv := iv) X h qb qo (sub nb (by decide)) (sub no (by decide)) lb_ lo_ (by omega) ro (by omega) hiv eo (a13.mB hb nb) (a13.mB ho no) (a3.mB (a1.mB hγ (by decide)) (by decide)) z3 (oBX_ag a13 (by decide) (by decide) hbx) (oKS_ag a3 (by decide) (by decide) k1)
      rw [g4, bO_s, retZ1]
      refine ⟨o4, rfl, a13.trans (a4.mono (by decide) (by decide) (by decide) (by decide)), ⟨γ4, m4, fun v hv => ?_⟩, ⟨μ3, a4.mB u3 (by decide)⟩, ?_, z4, a4.mDig D3 (by decide)⟩
      · have hv := Option.some.inj hv
        have hl : v.length = c.length := by rw [← hv, ctrF_len]
        rw [hl, f4, r4]
        exact ⟨rfl, hv⟩
      · obtain ⟨δ3, d3⟩ := d3
        exact ⟨δ3, a4.mB d3 (by decide)⟩
    · rw [if_neg ceq, if_neg ceq, if_pos rfl, retZ0]
      exact ⟨o3, rfl, a13, ⟨γ, a3.mB (a1.mB hγ (by decide)) (by decide), fun v hv => absurd hv (by simp)⟩, ⟨μ3, u3⟩, d3, z3, D3⟩
  · have hkl2 : key.length = 32 ∨ key.length = 64 := by
      rw [hkl]; unfold wayK
      have : way = 0 ∨ way = 1 := by omega
      rcases this with rfl | rfl
      · exact .inl rfl
      · exact .inr rfl
    have hi16 : iv.length = 16 := by rw [hil, ivOf, if_pos (by omega)]
    have d2 : (Int32.ofNat (wayK way)) / (2 : Int32) = (Int32.ofNat (key.length / 2)) := by
      rw [hkl]
      have : way = 0 ∨ way = 1 := by omega
      rcases this with rfl | rfl <;> decide
    have hwm32 : wayM way ≤ 32 := by unfold wayM; split <;> omega
    have eb16 : rdB βb pb 16 = iv := by rw [← hi16]; exact eb
    obtain ⟨o4, μ4, g4, a4, u4, r4, D4⟩ := oM_codeMark (G := G) (F := F) (S := S) (o := o) (way := way) (key := key) (iv := iv) (al := al) (xs := c) (kc := ko) (pc := po) X h (by omega) qk qb qa qo (sub nk (by decide)) (sub nb (by decide)) (sub na (by decide)) (sub no (by decide)) lk lb_ la lo_ rk (by omega) ra ro hkl hi16 (by omega) hk hb ha ho hD hμ ek eb16 ea eo
    have sm := oM_same (G := G) (F := F) (S := S) (o := o4) (k1 := 51) (p1 := 0) (k2 := km) (p2 := pm) (cnt := wayM way) X h rfl qm (by decide) lm (by show 0 + _ ≤ 64; omega) (by omega) (by omega) u4 (a4.mB hm (sub nm (by decide)))
    rw [r4, ← hml, em, hml] at sm
    have sm' : P_X13_same G F (W.ad (.a 13 0 51)) 0 (W.ad (.a 13 0 km)) (Int32.ofNat pm) (Int32.ofNat (wayM way)) (mem W (S.so 13 0 o4)) = _ := sm
    have a4' : agr [37, 39, 44, 50] [53, 54, 55, 56] SLA [33, 34] o o4 := a4.mono (by decide) (by decide) (by decide) (by decide)
    have keep : (∃ γ', mB o4 49 γ' ∧ ∀ v, (none : Option (List UInt8)) = some v → o4.f 50 = (Int32.ofNat v.length) ∧ rdB γ' 0 v.length = v) ∧ (∃ μ', mB o4 51 μ') ∧ (∃ δ, mB o4 47 δ) ∧ (∃ ζ, mB o4 52 ζ) ∧ mDig o4 := by
      obtain ⟨δ, h47⟩ := h47
      obtain ⟨ζ, h52⟩ := h52
      exact ⟨⟨γ, a4.mB hγ (by decide), fun v hv => absurd hv (by simp)⟩, ⟨μ4, u4⟩, ⟨δ, a4.mB h47 (by decide)⟩, ⟨ζ, a4.mB h52 (by decide)⟩, D4⟩
    unfold P_X13_openIt openC
    rw [if_pos (by rw [lit 1]; exact (n_le (by omega) (by omega)).mpr (by omega)), rcv_m lo, bO_s, g4, bO_s, oM_gR h 51 rfl (by decide), bO_s, oM_markOf hw, bP_s, sm', bP_s, if_neg hw2]
    by_cases ceq : cmarkF way key iv al c = mk
    · rw [if_pos ceq, if_pos ceq, if_neg (by decide)]
      by_cases c0 : c.length = 0
      · rw [if_pos (show (Int32.ofNat c.length) = 0 by rw [c0]; rfl), if_pos (Or.inl c0), retZ0]
        exact ⟨o4, rfl, a4', keep.1, keep.2.1, keep.2.2.1, keep.2.2.2.1, keep.2.2.2.2⟩
      rw [if_neg (show ¬ (Int32.ofNat c.length) = 0 by rw [z32]; exact fun q => c0 ((n_eq (by omega) (by omega)).mp q)), mod16 (by omega)]
      by_cases c16 : c.length % 16 = 0
      · rw [if_pos (show (Int32.ofNat (c.length % 16)) = 0 by rw [c16]; rfl), if_neg (show ¬ (c.length = 0 ∨ c.length % 16 ≠ 0) by omega), oM_keyOf hw, bP_s, rcv_m lo, bO_s, d2, n_add]
        obtain ⟨o1, g1, a1, k1⟩ := oM_key (G := G) (F := F) (S := S) (o := o4) (p := pk + key.length / 2) (n := key.length / 2) X h qk lk (by omega) (by omega) (a4.mB hk (sub nk (by decide))) (oBX_ag a4 (by decide) (by decide) hbx)
        have ek2 : rdB βk (pk + key.length / 2) (key.length / 2) = key.drop (key.length / 2) := by
          conv => rhs; rw [← ek]
          rw [rdB_len, rdB_drop (by omega)]
          congr 1
          omega
        rw [ek2] at k1
        obtain ⟨KS_, hKS⟩ : ∃ f, f = ksF (key.length / 2 / 4) (key.drop (key.length / 2)) := ⟨_, rfl⟩
        rw [← hKS] at k1 ⊢
        obtain ⟨n', o5, γ5, g5, a5, m5, r5⟩ := oM_op_b (G := G) (F := F) (S := S) (iv := iv) (c := c) X h qb qo (fun e => nb (by rw [e]; decide)) (fun e => no (by rw [e]; decide)) lb_ lo_ (by omega) ro c16 hc hi16 eb16 eo (c.length / 16) 0 F o1 γ (by omega) (by omega) (a1.mB (a4.mB hb (sub nb (by decide))) (sub nb (by decide))) (a1.mB (a4.mB ho (sub no (by decide))) (sub no (by decide))) (a1.mB (a4.mB hγ (by decide)) (by decide)) (oBX_ag a1 (by decide) (by decide) (oBX_ag a4 (by decide) (by decide) hbx)) k1
        obtain ⟨D, hDD⟩ : ∃ D, D = ucbc KS_ (key.length / 2 / 4 + 6) (c.length / 16) iv c := ⟨_, rfl⟩
        have lD : D.length = c.length := by rw [hDD, ucbc_len]; omega
        have r5' : rdB γ5 0 D.length = D := by
          rw [Nat.zero_add, Nat.mul_zero, if_pos rfl, List.drop_zero, ← hDD] at r5
          rw [lD, show c.length = 16 * (c.length / 16) by omega, r5]
          rfl
        have g5' : B_X13_openIt_149 G F F (W.ad (.o 13 0)) (W.ad (.a 13 0 kb)) (Int32.ofNat pb) (W.ad (.a 13 0 ko)) (Int32.ofNat po) (Int32.ofNat c.length) 0 (mem W (S.so 13 0 o1)) = _ := g5
        obtain ⟨o6, g6, a6, f6⟩ := oM_op_e (G := G) (F := F) (S := S) (o := o5) (D := D) (l4 := W.ad (.a 13 0 kb)) (l5 := (Int32.ofNat pb)) (l9 := W.ad (.a 13 0 ko)) (l10 := (Int32.ofNat po)) X h m5 (by omega) (by omega) r5' n'
        rw [lD] at g6
        rw [g1, bO_s, g5', g6, ← hDD]
        have a46 : agr [37, 39, 44, 50] [53, 54, 55, 56] SLA [33, 34] o o6 := ((a4'.trans (a1.mono (by decide) (by decide) (by decide) (by decide))).trans (a5.mono (by decide) (by decide) (by decide) (by decide))).trans (a6.mono (by decide) (by decide) (by decide) (by decide))
        refine ⟨o6, ?_, a46, ⟨γ5, a6.mB m5 (by decide), fun v hv => ?_⟩, ⟨μ4, a6.mB (a5.mB (a1.mB u4 (by decide)) (by decide)) (by decide)⟩, ?_, ?_, a6.mDig (a5.mDig (a1.mDig D4 (by decide)) (by decide)) (by decide)⟩
        · unfold unpadF
          cases fillOK D <;> rfl
        · unfold unpadF at hv
          cases hfo : fillOK D with
          | false => rw [hfo] at hv; exact absurd hv (by simp)
          | true =>
            rw [hfo, if_pos rfl] at hv
            have hv := Option.some.inj hv
            have hl : v.length = D.length - fillOf D := by rw [← hv, List.length_take]; omega
            rw [hl, f6 hfo]
            refine ⟨rfl, ?_⟩
            rw [← rdB_tk (n := D.length) (by omega), r5']
            exact hv
        · obtain ⟨_, _, ⟨δ, d⟩, _, _⟩ := keep
          exact ⟨δ, a6.mB (a5.mB (a1.mB d (by decide)) (by decide)) (by decide)⟩
        · obtain ⟨_, _, _, ⟨δ, d⟩, _⟩ := keep
          exact ⟨δ, a6.mB (a5.mB (a1.mB d (by decide)) (by decide)) (by decide)⟩
      · rw [if_neg (show ¬ (Int32.ofNat (c.length % 16)) = 0 by rw [z32]; exact fun q => c16 ((n_eq (by omega) (by omega)).mp q)), if_pos (Or.inr c16), retZ0]
        exact ⟨o4, rfl, a4', keep.1, keep.2.1, keep.2.2.1, keep.2.2.2.1, keep.2.2.2.2⟩
    · have en : (if c.length = 0 ∨ c.length % 16 ≠ 0 then (none : Option (List UInt8)) else if cmarkF way key iv al c = mk then unpadF (ucbc (ksF (key.length / 2 / 4) (key.drop (key.length / 2))) (key.length / 2 / 4 + 6) (c.length / 16) iv c) else none) = none := by
        split
        · rfl
        · first
          | rfl
          | rw [if_neg ceq]
      rw [if_neg ceq, if_pos rfl, retZ0, en]
      exact ⟨o4, rfl, a4', keep.1, keep.2.1, keep.2.2.1, keep.2.2.2.1, keep.2.2.2.2⟩
end MOPEN2
