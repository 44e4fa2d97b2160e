/-! TEXTS OF VALUES: the class reads what the grammar says -/
/-- what the class's loop does with a value that a bracket holds (or with the first) -/
def CVP (W : WR) (G : mG) (F : Nat) (S : ST) (ip t op dep : Nat) (s : List UInt8) (rvd : Nat → JT → Nat → Nat → Nat ⊕ (Nat × JT)) : Prop := ∀ (pc na nm k fuel : Nat) (J : JT) (x o b : Ob), JW s (skb s pc) J → pc ≤ s.length → J.2.2.length ≤ pc → TbC x J → Byt 8192 b J.2.2 false → op ≤ J.1 → o.f 4 = paI op → o.f 5 = (Int32.ofNat dep) → (op ≠ 0 → J.2.1 1 (op - 1) = 6 → o.f 7 = (Int32.ofNat na) ∧ o.f 8 = (Int32.ofNat nm)) → na + nm ≤ J.2.2.length → k ≤ pc → s.length + 2 ≤ fuel + pc → (o.f 6 = 0 ∨ (o.f 6 = 1 ∧ cd s (skb s pc) ≠ 93)) → o7v W G F S ip t s.length op dep (B_X7_read_47 G F fuel (W.ad (.o 7 0)) 1 (Int32.ofNat k) (mem W (R7 (S.so 9 t x) ip (o.sf 2 (Int32.ofNat pc)) b))) (rvd (skb s pc) J na nm)
theorem JW.cdp {s : List UInt8} {p : Nat} {J : JT} (h : JW s p J) : p ≤ s.length := h.2.1
section RDV
variable {W : WR} {G : mG} {F : Nat} {S : ST} {is_ ip t rs : Nat} {s : List UInt8} {ls : Bool}
theorem rdD_begin {fuel A : Nat} {c k1 st : Int32} {M : mM} (h : st = 0 ∨ (st = 1 ∧ c ≠ 93)) : rdD G F fuel A c k1 st M = bO (rcv M A 7) fun _ => bP (P_X7_begin G F A c M) fun v151 M151 => B_X7_read_47 G F fuel A v151 k1 M151 := by
  unfold rdD
  rcases h with h | ⟨h, h2⟩
  · rw [if_pos h]
  · rw [h, if_neg (by decide), if_pos rfl, if_neg h2]
/-- the members or elements of an open value -/
theorem CLP {v op dep : Nat} {obj : Bool} {rvd : Nat → JT → Nat → Nat → Nat ⊕ (Nat × JT)} (X : Cx G F W) (K : isRd W is_ ip t rs) (hs : Byt rs (S 0 is_) s ls) (hl : s.length ≤ 8192) (hr : RVok s rvd v) (hc : CVP W G F S ip t (v + 1) (dep + 1) s rvd) : ∀ (f pc k fuel : Nat) (J : JT) (x o b : Ob), s.length < f + skb s pc → JW s (skb s pc) J → pc ≤ s.length → J.2.2.length ≤ pc → TbC x J → Byt 8192 b J.2.2 false → v < J.1 → J.2.1 1 v = (if obj then 6 else 5) → J.2.1 2 v = op → o.f 4 = (Int32.ofNat v) → o.f 5 = (Int32.ofNat (dep + 1)) → k ≤ pc → s.length + 2 ≤ fuel + pc → (if obj then (o.f 6 = 2 ∨ (o.f 6 = 3 ∧ cd s (skb s pc) ≠ 125)) else (o.f 6 = 0 ∨ (o.f 6 = 1 ∧ cd s (skb s pc) ≠ 93))) → o7v W G F S ip t s.length op dep (B_X7_read_47 G F fuel (W.ad (.o 7 0)) 1 (Int32.ofNat k) (mem W (R7 (S.so 9 t x) ip (o.sf 2 (Int32.ofNat pc)) b))) (lp s obj v rvd f (skb s pc) J) := by
  intro f
  induction f with
  | zero =>
    intro pc k fuel J x o b h1 hw
    have := hw.2.1
    omega
  | succ f ih =>
    intro pc k fuel J x o b hf hw hpc hpl C hb hv hkd hop h4 h5 hk hfu hst
    have l0 := skb_le s pc
    have hpq := hw.2.1
    -- what comes behind an element or a member
    have tail : ∀ (z : Nat × JT) (x' o' b' : Ob) (k' fuel' : Nat), skb s pc < z.1 → JW s z.1 z.2 → TbC x' z.2 → Byt 8192 b' z.2.2.2 false → v < z.2.1 → z.2.2.1 1 v = (if obj then 6 else 5) → z.2.2.1 2 v = op → o'.f 4 = (Int32.ofNat v) → o'.f 5 = (Int32.ofNat (dep + 1)) → o'.f 6 = 5 → k' ≤ z.1 → s.length + 2 ≤ fuel' + z.1 → o7v W G F S ip t s.length op dep (B_X7_read_47 G F fuel' (W.ad (.o 7 0)) 1 (Int32.ofNat k') (mem W (R7 (S.so 9 t x') ip (o'.sf 2 (Int32.ofNat z.1)) b'))) (lpE s (clB obj) (lp s obj v rvd f) z) := by
      intro z x' o' b' k' fuel' g1 g2 g3 g4 g5 g6 g7 g8 g9 g10 g11 g12
      have m0 := g2.2.1
      have m1 := skb_le s z.1
      have m2 := skb_len g2.2.1
      obtain ⟨fuel', rfl⟩ : ∃ q, fuel' = q + 1 + 1 := ⟨fuel' - 2, by omega⟩
      unfold lpE
      by_cases hin : skb s z.1 < s.length
      · obtain ⟨a1, a2, a3⟩ := Q7_after (G := G) (F := F) (S := S) (o := o') (b := b') (op := op) K hl (g2.mono m1 m2) g3 g8 g9 g5 g6 g7 hin
        rw [rd_in (S := S.so 9 t x') X K (hs9 hs) hl (by omega) m0 hin, g10]
        have ed : ∀ c k1 M, rdD G F (fuel' + 1) (W.ad (.o 7 0)) c k1 5 M = bO (rcv M (W.ad (.o 7 0)) 7) fun _ => bP (P_X7_after G F (W.ad (.o 7 0)) c M) fun v246 M246 => B_X7_read_47 G F (fuel' + 1) (W.ad (.o 7 0)) v246 k1 M246 := by
          intro c k1 M
          unfold rdD
          rw [if_neg (by decide), if_neg (by decide), if_neg (by decide), if_neg (by decide), if_neg (by decide)]
        rw [ed, r7lo K, bO_s]
        by_cases c1 : cd s (skb s z.1) = 44
        · rw [if_pos c1, a1 c1, bP_s]
          have m3 := skb_le s (skb s z.1 + 1)
          have m4 := skb_len (s := s) (p := skb s z.1 + 1) (by omega)
          refine ih (skb s z.1 + 1) (k' + 1) (fuel' + 1) z.2 x' _ b' (by omega) (g2.mono (by omega) m4) (by omega) (by have := g2.1; omega) g3 g4 g5 g6 g7 ?_ ?_ (by omega) (by omega) ?_
          · exact g8
          · exact g9
          · cases obj with
            | false => exact Or.inl rfl
            | true => exact Or.inl rfl
        · rw [if_neg c1]
          by_cases c2 : cd s (skb s z.1) = clB obj
          · obtain ⟨o2, e1, e2, e3, e4⟩ := a2 c2
            rw [if_pos c2, e1, bP_s]
            exact ⟨x', o2, b', k' + 1, fuel' + 1, rfl, g3, g4, e2, e3, e4, by omega, by omega⟩
          · obtain ⟨o2, e1, e2⟩ := a3 c1 c2
            rw [if_neg c2, e1, bP_s, rd_bad K (hs9 hs), e2]
            exact ⟨x', o2, b', _, _, rfl, g4⟩
      · have e0 : cd s (skb s z.1) = 0 := by unfold cd; rw [by8_ge (by omega)]; rfl
        have hz : ¬ (o'.f 6 = 5 ∧ o'.f 4 = -1) := fun q => n_nm (n := v) (by have := g2.2.2.1; omega) (g8.symm.trans q.2)
        rw [rd_end (S := S.so 9 t x') X K (hs9 hs) hl (by omega) m0 hin, if_neg hz, if_neg (by omega), if_neg (by rw [e0]; exact (clB_ne obj).symm)]
        exact ⟨x', _, b', _, _, rfl, g4⟩
    -- the element or member's value, then the tail
    have vt : ∀ (pc' na nm k' fuel' : Nat) (J' : JT) (x' o' b' : Ob), skb s pc ≤ skb s pc' → JW s (skb s pc') J' → pc' ≤ s.length → J'.2.2.length ≤ pc' → TbC x' J' → Byt 8192 b' J'.2.2 false → J'.1 = J.1 → J'.2.1 = J.2.1 → o'.f 4 = (Int32.ofNat v) → o'.f 5 = (Int32.ofNat (dep + 1)) → (J.2.1 1 v = 6 → o'.f 7 = (Int32.ofNat na) ∧ o'.f 8 = (Int32.ofNat nm)) → na + nm ≤ J'.2.2.length → k' ≤ pc' → s.length + 2 ≤ fuel' + pc' → (o'.f 6 = 0 ∨ (o'.f 6 = 1 ∧ cd s (skb s pc') ≠ 93)) → o7v W G F S ip t s.length op dep (B_X7_read_47 G F fuel' (W.ad (.o 7 0)) 1 (Int32.ofNat k') (mem W (R7 (S.so 9 t x') ip (o'.sf 2 (Int32.ofNat pc')) b'))) (sB (rvd (skb s pc') J' na nm) fun z => lpE s (clB obj) (lp s obj v rvd f) z) := by
      intro pc' na nm k' fuel' J' x' o' b' q0 q1 q2 q3 q4 q5 q6 q7 q8 q9 q10 q11 q12 q13 q14
      have vv := hc pc' na nm k' fuel' J' x' o' b' q1 q2 q3 q4 q5 (by omega) (by rw [q8]; exact (if_neg (by omega)).symm) q9 (fun _ e => q10 (by rw [q7] at e; exact e)) q11 q12 q13 q14
      cases hz : rvd (skb s pc') J' na nm with
      | inl y =>
        rw [hz] at vv
        exact vv
      | inr z =>
        rw [hz] at vv
        obtain ⟨z1, z2⟩ := z
        obtain ⟨r1, r2, r3, r4⟩ := hr _ _ _ _ _ _ q1 (by omega) q11 hz
        obtain ⟨x2, o2, b2, k2, f2, e1, e2, e3, e4, e5, e6, e7, e8⟩ := vv
        rw [e1]
        refine tail (z1, z2) x2 o2 b2 k2 f2 (by show skb s pc < z1; omega) r2 e2 e3 (by show v < z2.1; omega) ?_ ?_ (by rw [e4]; exact if_neg (by omega)) e5 e6 e7 e8
        · show z2.2.1 1 v = _
          rw [r3.2.1 1 v (by omega) (by omega), q7]
          exact hkd
        · show z2.2.1 2 v = _
          rw [r3.2.1 2 v (by omega) (by omega), q7]
          exact hop
    show o7v W G F S ip t s.length op dep _ (sB (if obj then nameR s (skb s pc) J v else .inr (skb s pc, J, 0, 0)) fun y => sB (rvd y.1 y.2.1 y.2.2.1 y.2.2.2) fun z => lpE s (clB obj) (lp s obj v rvd f) z)
    cases obj with
    | false =>
      exact vt pc 0 0 k fuel J x o b (Nat.le_refl _) hw hpc hpl C hb rfl rfl h4 h5 (fun e => by rw [hkd] at e; exact absurd e (by decide)) (by omega) hk hfu hst
    | true =>
      obtain ⟨fuel, rfl⟩ : ∃ q, fuel = q + 1 + 1 := ⟨fuel - 2, by omega⟩
      rw [if_pos rfl, nameR_q]
      by_cases hin : skb s pc < s.length
      · have ed : ∀ M, rdD G F (fuel + 1) (W.ad (.o 7 0)) (pB s (skb s pc)) (Int32.ofNat (k + 1)) (o.f 6) M = bO (rcv M (W.ad (.o 7 0)) 7) fun _ => bP (P_X7_memberName G F (W.ad (.o 7 0)) (pB s (skb s pc)) M) fun v185 M185 => B_X7_read_47 G F (fuel + 1) (W.ad (.o 7 0)) v185 (Int32.ofNat (k + 1)) M185 := by
          intro M
          unfold rdD
          have hst : o.f 6 = 2 ∨ (o.f 6 = 3 ∧ cd s (skb s pc) ≠ 125) := hst
          rcases hst with e | ⟨e, e2⟩
          · rw [e, if_neg (by decide), if_neg (by decide), if_pos rfl]
          · rw [e, if_neg (by decide), if_neg (by decide), if_neg (by decide), if_pos rfl, if_neg (by rw [pe125]; exact e2)]
        rw [rd_in (S := S.so 9 t x) X K (hs9 hs) hl (by omega) hpc hin, ed, r7lo K, bO_s]
        have q := Q7_memberName (G := G) (F := F) (o := o) X K hs hl hw C hb h4 hv hkd
        cases hq : nmQ s (skb s pc) J v with
        | inl y =>
          rw [hq] at q
          obtain ⟨o', b', xs, l, q1, q2, q3⟩ := q
          rw [q1, bP_s, rd_bad K (hs9 hs), q2]
          exact ⟨x, o', b', xs, l, rfl, q3⟩
        | inr y =>
          obtain ⟨bs, y⟩ := y
          rw [hq] at q
          obtain ⟨o', b', q1, q2, q3, q4, q5, q6, q7⟩ := q
          have ks : skb s pc + 1 + bs.length < y ∧ y ≤ s.length := by
            unfold nmQ at hq
            split at hq
            · cases hs2 : stR s (skb s pc) with
              | inl _ => rw [hs2] at hq; exact absurd hq (by simp [sB])
              | inr r =>
                rw [hs2] at hq
                have hq : (if dupB J v r.1 = true then .inl (skb s pc) else .inr r) = Sum.inr (bs, y) := hq
                split at hq
                · exact absurd hq (by simp)
                · rw [Sum.inr.inj hq] at hs2
                  exact stR_ok hs2
            · exact absurd hq (by simp)
          have n1 := skb_le s y
          have n2 := skb_len ks.2
          have wl := hw.1
          have wJ : JW s (skb s y) (J.1, J.2.1, J.2.2 ++ bs) := by
            obtain ⟨w1, w2, w3, w4⟩ := hw
            refine ⟨by show (J.2.2 ++ bs).length ≤ _; rw [List.length_append]; omega, n2, w3, fun i hi => ?_⟩
            have := w4 i hi
            refine ⟨this.1, this.2.1, this.2.2.1, this.2.2.2.1, this.2.2.2.2.1, ?_, ?_⟩ <;> (show _ ≤ (J.2.2 ++ bs).length; rw [List.length_append]; simp only; omega)
          rw [q1, bP_s]
          show o7v W G F S ip t s.length op dep _ (sB (if cd s (skb s y) = 58 then .inr (skb s (skb s y + 1), (J.1, J.2.1, J.2.2 ++ bs), J.2.2.length, bs.length) else .inl (skb s y)) fun y => sB (rvd y.1 y.2.1 y.2.2.1 y.2.2.2) fun z => lpE s (clB true) (lp s true v rvd f) z)
          by_cases hin2 : skb s y < s.length
          · have ed2 : ∀ c k1 M, rdD G F fuel (W.ad (.o 7 0)) c k1 4 M = (if c = (58 : Int32) then (bO (rcv M (W.ad (.o 7 0)) 7) fun _ => bP (P_X7_goOn G F (W.ad (.o 7 0)) (0 : Int32) M) fun v225 M225 => B_X7_read_47 G F fuel (W.ad (.o 7 0)) v225 k1 M225) else (bO (gfI M (W.ad (.o 7 0)) 7 2) fun v233 => bO (rcv M (W.ad (.o 7 0)) 7) fun _ => bP (P_X7_wrong G F (W.ad (.o 7 0)) v233 M) fun v236 M236 => B_X7_read_47 G F fuel (W.ad (.o 7 0)) v236 k1 M236)) := by
              intro c k1 M
              unfold rdD
              rw [if_neg (by decide), if_neg (by decide), if_neg (by decide), if_neg (by decide), if_pos rfl]
            rw [rd_in (S := S.so 9 t x) X K (hs9 hs) hl (by omega) ks.2 hin2, q5, ed2]
            simp only [pe58]
            by_cases c58 : cd s (skb s y) = 58
            · have n3 := skb_le s (skb s y + 1)
              have n4 := skb_len (s := s) (p := skb s y + 1) (by omega)
              rw [if_pos c58, if_pos c58, r7lo K, bO_s, Q7_goOn K, bP_s]
              exact vt (skb s y + 1) J.2.2.length bs.length (k + 1 + 1) fuel (J.1, J.2.1, J.2.2 ++ bs) x _ b' (by omega) (wJ.mono (by omega) n4) (by omega) (by show (J.2.2 ++ bs).length ≤ _; rw [List.length_append]; omega) C q2 rfl rfl (q3.trans h4) (q4.trans h5) (fun _ => ⟨q6, q7⟩) (by show _ ≤ (J.2.2 ++ bs).length; rw [List.length_append]; omega) (by omega) (by omega) (Or.inl rfl)
            · obtain ⟨ow, w1, w2⟩ := Q7_wrong (G := G) (F := F) (S := S.so 9 t x) (o := o'.sf 2 (Int32.ofNat (skb s y))) (b := b') (q := skb s y) K
              obtain ⟨fuel, rfl⟩ : ∃ q, fuel = q + 1 := ⟨fuel - 1, by omega⟩
              rw [if_neg c58, if_neg c58, r7at K, bO_s, r7lo K, bO_s, w1, bP_s, rd_bad K (hs9 hs), w2]
              exact ⟨x, ow, b', _, _, rfl, q2⟩
          · have e0 : cd s (skb s y) = 0 := by unfold cd; rw [by8_ge (by omega)]; rfl
            have hz : ¬ (o'.f 6 = 5 ∧ o'.f 4 = -1) := fun q => by rw [q5] at q; exact absurd q.1 (by decide)
            rw [rd_end (S := S.so 9 t x) X K (hs9 hs) hl (by omega) ks.2 hin2, if_neg hz, if_neg (by omega)]
            exact ⟨x, _, b', _, _, rfl, q2⟩
      · have e0 : cd s (skb s pc) = 0 := by unfold cd; rw [by8_ge (by omega)]; rfl
        have hz : ¬ (o.f 6 = 5 ∧ o.f 4 = -1) := fun q => by
          have hst : o.f 6 = 2 ∨ (o.f 6 = 3 ∧ cd s (skb s pc) ≠ 125) := hst
          rw [q.1] at hst
          exact absurd hst (by simp)
        rw [rd_end (S := S.so 9 t x) X K (hs9 hs) hl (by omega) hpc hin, if_neg hz]
        unfold nmQ
        rw [if_neg (by omega)]
        exact ⟨x, _, b, _, _, rfl, hb⟩
/-- a value -/
theorem CV (X : Cx G F W) (K : isRd W is_ ip t rs) (hs : Byt rs (S 0 is_) s ls) (hl : s.length ≤ 8192) : ∀ (d op dep : Nat), dep + d = 45 → dep ≤ 40 → CVP W G F S ip t op dep s (fun p J na nm => rv s d p J op dep na nm) := by
  intro d
  induction d with
  | zero => intro op dep h1 h2; omega
  | succ d ih =>
    intro op dep hd hdep pc na nm k fuel J x o b hw hpc hpl C hb ho h4 h5 hm hnm hk hfu hst
    have Y := hw.x hl
    have Y2 := Y.2.1
    have l0 := skb_le s pc
    have hpq := hw.2.1
    obtain ⟨fuel, rfl⟩ : ∃ q, fuel = q + 1 + 1 := ⟨fuel - 2, by omega⟩
    show o7v W G F S ip t s.length op dep _ (rv s (d + 1) (skb s pc) J op dep na nm)
    rw [rv]
    by_cases hin : skb s pc < s.length
    · have ed := rdD_begin (G := G) (F := F) (fuel := fuel + 1) (A := W.ad (.o 7 0)) (c := pB s (skb s pc)) (k1 := (Int32.ofNat (k + 1))) (st := o.f 6) (M := mem W (R7 (S.so 9 t x) ip (o.sf 2 (Int32.ofNat (skb s pc))) b)) (by rcases hst with e | ⟨e, e2⟩; exact Or.inl e; exact Or.inr ⟨e, by rw [ne_eq, pe93]; exact e2⟩)
      rw [rd_in (S := S.so 9 t x) X K (hs9 hs) hl (by omega) hpc hin, ed, r7lo K, bO_s]
      by_cases hbad : kdB (cd s (skb s pc)) = 7 ∨ 600 ≤ J.1 ∨ (5 ≤ kdB (cd s (skb s pc)) ∧ 40 ≤ dep)
      · obtain ⟨o', q1, q2⟩ := Q7_begin_bad (G := G) (F := F) (S := S) (o := o) (b := b) K C Y h5 (by omega) hbad
        rw [if_pos hbad, q1, bP_s, rd_bad K (hs9 hs), q2]
        exact ⟨x, o', b, _, _, rfl, hb⟩
      · rw [if_neg hbad]
        have hkl := kdB_le (cd s (skb s pc))
        by_cases c5 : kdB (cd s (skb s pc)) < 5
        · have q := Q7_begin_leaf (G := G) (F := F) (o := o) (na := na) (nm := nm) X K hs hl hw C ho hb h4 h5 hm c5 (by omega) hbad
          have e : (if kdB (cd s (skb s pc)) < 3 then sB (wdR s (wdB (kdB (cd s (skb s pc)))) (skb s pc)) fun q => Sum.inr (q, bgn J (kdB (cd s (skb s pc))) (skb s pc) op na nm) else if kdB (cd s (skb s pc)) = 3 then sB (nmS s (skb s pc) (nmR s (skb s pc))) fun y => Sum.inr (y.2, snm (bgn J 3 (skb s pc) op na nm) J.1 y.1) else if kdB (cd s (skb s pc)) = 4 then sB (stR s (skb s pc)) fun y => Sum.inr (y.2, snm (bgn J 4 (skb s pc) op na nm) J.1 y.1) else mnR s (decide (kdB (cd s (skb s pc)) = 6)) J.1 (fun p' J' na' nm' => rv s d p' J' (J.1 + 1) (dep + 1) na' nm') (skb s pc + 1) (bgn J (kdB (cd s (skb s pc))) (skb s pc) op na nm)) = lfR s J (kdB (cd s (skb s pc))) (skb s pc) op na nm := by
            unfold lfR
            by_cases c3 : kdB (cd s (skb s pc)) < 3
            · rw [if_pos c3, if_pos c3]
            · rw [if_neg c3, if_neg c3]
              by_cases c4 : kdB (cd s (skb s pc)) = 3
              · rw [if_pos c4, if_pos c4]
              · rw [if_neg c4, if_neg c4, if_pos (by omega)]
          rw [e]
          have rk := fun q' J' => rv_ok (d := d + 1) (dep := dep) (q := q') (J' := J') hw ho hnm
          cases hz : lfR s J (kdB (cd s (skb s pc))) (skb s pc) op na nm with
          | inl y =>
            rw [hz] at q
            obtain ⟨x', o', b', xs, l, q1, q2, q3⟩ := q
            rw [q1, bP_s, rd_bad K (hs9 hs), q2]
            exact ⟨x', o', b', xs, l, rfl, q3⟩
          | inr z =>
            obtain ⟨z1, z2⟩ := z
            rw [hz] at q
            have hr := rk z1 z2 (by rw [rv, if_neg hbad, e, hz])
            obtain ⟨x', o', b', q1, q2, q3, q4, q5, q6⟩ := q
            rw [q1, bP_s]
            exact ⟨x', o', b', k + 1, fuel + 1, rfl, q2, q3, q4.trans h4, q5.trans h5, q6, by omega, by omega⟩
        · rw [if_neg (by omega), if_neg (by omega), if_neg (by omega)]
          obtain ⟨x', o', q1, C', q4, q5, q6⟩ := Q7_begin_open (G := G) (F := F) (S := S) (o := o) (b := b) (na := na) (nm := nm) K C Y ho hb h4 h5 hm (by omega) hbad
          rw [q1, bP_s]
          have w1 : JW s (skb s pc) (bgn J (kdB (cd s (skb s pc))) (skb s pc) op na nm) := bgn_W hw (by omega) (by omega) ho hnm
          have n1 := skb_le s (skb s pc + 1)
          have n2 := skb_len (s := s) (p := skb s pc + 1) (by omega)
          have wl := hw.1
          have ek : (bgn J (kdB (cd s (skb s pc))) (skb s pc) op na nm).2.1 1 J.1 = (if decide (kdB (cd s (skb s pc)) = 6) = true then 6 else 5) := by
            show bgT J.2.1 J.1 _ _ op J.2.2.length na nm 1 J.1 = _
            rw [bgT_n]
            show kdB (cd s (skb s pc)) = _
            by_cases c6 : kdB (cd s (skb s pc)) = 6
            · rw [if_pos (decide_eq_true c6)]
              exact c6
            · rw [if_neg (by rw [decide_eq_false c6]; decide)]
              omega
          have eo : (bgn J (kdB (cd s (skb s pc))) (skb s pc) op na nm).2.1 2 J.1 = op := by
            show bgT J.2.1 J.1 _ _ op J.2.2.length na nm 2 J.1 = _
            rw [bgT_n]
            rfl
          unfold mnR
          by_cases cc : cd s (skb s (skb s pc + 1)) = clB (decide (kdB (cd s (skb s pc)) = 6))
          · have hin2 := cd_in (s := s) (p := skb s (skb s pc + 1)) (by rw [cc]; exact clB_ne _)
            rw [if_pos cc, rd_in (S := S.so 9 t x') X K (hs9 hs) hl (by omega) (by omega) hin2]
            have ed2 : ∀ M, rdD G F fuel (W.ad (.o 7 0)) (pB s (skb s (skb s pc + 1))) (Int32.ofNat (k + 1 + 1)) (o'.f 6) M = bO (rcv M (W.ad (.o 7 0)) 7) fun _ => bP (P_X7_close G F (W.ad (.o 7 0)) M) fun v166 M166 => B_X7_read_47 G F fuel (W.ad (.o 7 0)) v166 (Int32.ofNat (k + 1 + 1)) M166 := by
              intro M
              unfold rdD
              by_cases c6 : kdB (cd s (skb s pc)) = 6
              · rw [decide_eq_true c6] at cc
                have cc : cd s (skb s (skb s pc + 1)) = 125 := cc
                rw [q6, if_pos c6, if_neg (by decide), if_neg (by decide), if_neg (by decide), if_pos rfl, if_pos (by rw [pe125]; exact cc)]
              · rw [decide_eq_false c6] at cc
                have cc : cd s (skb s (skb s pc + 1)) = 93 := cc
                rw [q6, if_neg c6, if_neg (by decide), if_pos rfl, if_pos (by rw [pe93]; exact cc)]
            obtain ⟨oc, e1, e2, e3, e4⟩ := Q7_close (G := G) (F := F) (S := S) (o := o') (b := b) (p := skb s (skb s pc + 1)) K C' (w1.x hl) (Nat.lt_succ_self _) q4 q5 eo
            rw [ed2, r7lo K, bO_s, e1, bP_s]
            exact ⟨x', oc, b, k + 1 + 1, fuel, rfl, C', hb, e2, e3, e4, by omega, by omega⟩
          · rw [if_neg cc]
            refine CLP (v := J.1) (op := op) (dep := dep) X K hs hl (fun p' J2 na' nm' q' J3 hw' hv' hm' hr' => rv_ok hw' (by omega) hm' hr') (ih (J.1 + 1) (dep + 1) (by omega) (by omega)) (s.length + 1) (skb s pc + 1) (k + 1) (fuel + 1) _ x' o' b (by omega) (w1.mono (by omega) n2) (by omega) (by show J.2.2.length ≤ _; omega) C' hb (Nat.lt_succ_self _) ek eo q4 q5 (by omega) (by omega) ?_
            by_cases c6 : kdB (cd s (skb s pc)) = 6
            · rw [decide_eq_true c6] at cc ⊢
              rw [if_pos rfl, q6, if_pos c6]
              exact Or.inr ⟨rfl, cc⟩
            · rw [decide_eq_false c6] at cc ⊢
              rw [if_neg (by decide), q6, if_neg c6]
              exact Or.inr ⟨rfl, cc⟩
    · have e0 : cd s (skb s pc) = 0 := by unfold cd; rw [by8_ge (by omega)]; rfl
      have hz : ¬ (o.f 6 = 5 ∧ o.f 4 = -1) := fun q => by
        rw [q.1] at hst
        exact absurd hst (by simp)
      rw [rd_end (S := S.so 9 t x) X K (hs9 hs) hl (by omega) hpc hin, if_neg hz, if_pos (Or.inl (by rw [e0]; rfl))]
      exact ⟨x, _, b, _, _, rfl, hb⟩
end RDV
