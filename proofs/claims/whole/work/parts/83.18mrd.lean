/-! TEXTS OF VALUES: the model's read -/
theorem lp_bad {s : List UInt8} {obj : Bool} {v : Nat} {rvd : Nat → JT → Nat → Nat → Nat ⊕ (Nat × JT)} (hr : RVok s rvd v) (hb : ∀ p J na nm q, JW s p J → v < J.1 → na + nm ≤ J.2.2.length → rvd p J na nm = .inl q → q ≤ s.length + 2) : ∀ {f p q : Nat} {J : JT}, s.length < f + p → JW s p J → v < J.1 → lp s obj v rvd f p J = .inl q → q ≤ s.length + 2 := by
  intro f
  induction f with
  | zero =>
    intro p q J h1 hw
    have := hw.2.1
    omega
  | succ f ih =>
    intro p q J h1 hw hv h
    have hpl := hw.2.1
    have h : (sB (if obj then nameR s p J v else .inr (p, J, 0, 0)) fun y => sB (rvd y.1 y.2.1 y.2.2.1 y.2.2.2) fun z => lpE s (clB obj) (lp s obj v rvd f) z) = .inl q := h
    have key : ∀ y : Nat × JT × Nat × Nat, p ≤ y.1 → JW s y.1 y.2.1 → y.2.2.1 + y.2.2.2 ≤ y.2.1.2.2.length → y.2.1.1 = J.1 → (sB (rvd y.1 y.2.1 y.2.2.1 y.2.2.2) fun z => lpE s (clB obj) (lp s obj v rvd f) z) = .inl q → q ≤ s.length + 2 := by
      intro y l1 w1 m1 n1 h
      cases hz : rvd y.1 y.2.1 y.2.2.1 y.2.2.2 with
      | inl x =>
        rw [hz] at h
        have e := Sum.inl.inj (α := Nat) (β := Nat × JT) h
        have := hb _ _ _ _ _ w1 (by omega) m1 hz
        omega
      | inr z =>
        obtain ⟨z1, z2⟩ := z
        rw [hz] at h
        obtain ⟨l2, w2, k2, n2⟩ := hr _ _ _ _ _ _ w1 (by omega) m1 hz
        have l3 := skb_le s z1
        have l6 := skb_len w2.2.1
        have h : (if cd s (skb s z1) = 44 then lp s obj v rvd f (skb s (skb s z1 + 1)) z2 else if cd s (skb s z1) = (clB obj) then .inr (skb s z1 + 1, z2) else .inl (skb s z1)) = Sum.inl q := h
        split at h
        · rename_i hc
          have hi := cd_in (s := s) (p := skb s z1) (by omega)
          have l4 := skb_le s (skb s z1 + 1)
          have l5 := skb_len (s := s) (p := skb s z1 + 1) (by omega)
          exact ih (by omega) (w2.mono (q := skb s (skb s z1 + 1)) (by omega) l5) (by omega) h
        · split at h
          · exact absurd h (by simp)
          · have := Sum.inl.inj h
            omega
    cases obj with
    | false => exact key (p, J, 0, 0) (Nat.le_refl _) hw (Nat.zero_le _) rfl h
    | true =>
      cases hn : nameR s p J v with
      | inl y =>
        rw [show (if true = true then nameR s p J v else .inr (p, J, 0, 0)) = nameR s p J v from rfl, hn] at h
        have e := Sum.inl.inj (α := Nat) (β := Nat × JT) h
        unfold nameR at hn
        split at hn
        · have hi := cd_in (s := s) (p := p) (by omega)
          cases hs2 : stR s p with
          | inl z =>
            rw [hs2] at hn
            have := Sum.inl.inj (α := Nat) (β := Nat × JT × Nat × Nat) hn
            have := stR_bad hi hs2
            omega
          | inr r =>
            rw [hs2] at hn
            have k := stR_ok (bs := r.1) (q := r.2) hs2
            have k2 := skb_len k.2
            have hn : (if dupB J v r.1 = true then .inl p else if cd s (skb s r.2) = 58 then .inr (skb s (skb s r.2 + 1), (J.1, J.2.1, J.2.2 ++ r.1), J.2.2.length, r.1.length) else .inl (skb s r.2)) = Sum.inl y := hn
            split at hn
            · have := Sum.inl.inj hn
              omega
            · split at hn
              · exact absurd hn (by simp)
              · have := Sum.inl.inj hn
                omega
        · have := Sum.inl.inj hn
          omega
      | inr y =>
        rw [show (if true = true then nameR s p J v else .inr (p, J, 0, 0)) = nameR s p J v from rfl, hn] at h
        have k := nameR_ok hw hn
        exact key y (by omega) k.2.1 k.2.2.1 k.2.2.2.1 h
theorem rv_bad {s : List UInt8} : ∀ {d p op dep na nm q : Nat} {J : JT}, JW s p J → op ≤ J.1 → na + nm ≤ J.2.2.length → rv s d p J op dep na nm = .inl q → q ≤ s.length + 2 := by
  intro d
  induction d with
  | zero =>
    intro p op dep na nm q J hw _ _ h
    have := Sum.inl.inj (α := Nat) (β := Nat × JT) (show Sum.inl p = Sum.inl q from h)
    have := hw.2.1
    omega
  | succ d ih =>
    intro p op dep na nm q J hw ho hm h
    have hpl := hw.2.1
    rw [rv] at h
    split at h
    · have := Sum.inl.inj h
      omega
    · rename_i hbad
      have hk := kdB_le (cd s p)
      have hi := cd_in (s := s) (p := p) (fun e => hbad (Or.inl (by rw [e]; rfl)))
      split at h
      · cases h1 : wdR s (wdB (kdB (cd s p))) p with
        | inl x =>
          rw [h1] at h
          have e := Sum.inl.inj (α := Nat) (β := Nat × JT) h
          have wz : ∀ c ∈ wdB (kdB (cd s p)), c.toNat ≠ 0 := by
            unfold wdB
            split
            · decide
            · split <;> decide
          have := wdR_bad wz hpl h1
          omega
        | inr x => rw [h1] at h; exact absurd h (by simp [sB])
      · split at h
        · cases h1 : nmS s p (nmR s p) with
          | inl x =>
            rw [h1] at h
            have e := Sum.inl.inj (α := Nat) (β := Nat × JT) h
            unfold nmS at h1
            cases h2 : nmR s p with
            | inl y =>
              rw [h2] at h1
              have e2 := Sum.inl.inj (α := Nat) (β := List UInt8 × Nat) h1
              have := nmR_bad hpl h2
              omega
            | inr y => rw [h2] at h1; exact absurd h1 (by simp [sB])
          | inr x => rw [h1] at h; exact absurd h (by simp [sB])
        · split at h
          · cases h1 : stR s p with
            | inl x =>
              rw [h1] at h
              have e := Sum.inl.inj (α := Nat) (β := Nat × JT) h
              have := stR_bad hi h1
              omega
            | inr x => rw [h1] at h; exact absurd h (by simp [sB])
          · have w := bgn_W (kd := kdB (cd s p)) hw (by omega) (by omega) ho hm
            have l1 := skb_le s (p + 1)
            have l2 := skb_len (s := s) (p := p + 1) (by omega)
            unfold mnR at h
            split at h
            · exact absurd h (by simp)
            · exact lp_bad (v := J.1) (fun p' J2 na' nm' q' J3 hw' hv' hm' hr' => rv_ok hw' (by omega) hm' hr') (fun p' J2 na' nm' q' hw' hv' hm' hr' => ih hw' (by omega) hm' hr') (by omega) (w.mono (by omega) l2) (Nat.lt_succ_self _) h
section MRDV
variable {W : WR} {G : mG} {F : Nat} {S : ST} {ks p0 : Nat} {s : List UInt8} {β : Nat → UInt8}
theorem QM_rvo {p u : Nat} {o : Ob} {acc : List UInt8} {RV : Nat → Int32 → Int32 → mM → Option mM} {x y : Int32} (h : isM W) (K : isSr W ks) (C : SrC o ks p0 s) (hl : s.length ≤ 8192) (hp : p < 2 ^ 30) : P_X13_readValue_o G F RV (W.ad (.o 13 0)) x y (mem W (MA S o (Int32.ofNat p) (-1) u β acc)) = B_X13_readValue_o_59 G F RV (W.ad (.o 13 0)) x y (pB s p) (if kdB (cd s p) = 7 then 0 else 1) (mem W (MA S o (Int32.ofNat p) (-1) u β acc)) := by
  unfold P_X13_readValue_o
  rw [ma_lo h, bO_s, QM_at h K C hp hl, bP_s]
  simp only [QM_isDg, bP_s]
  simp only [pe123, pe91, pe34, pe45, pe116, pe102, pe110]
  unfold kdB
  by_cases c1 : cd s p = 123
  · rw [if_pos c1, c1]
    rfl
  rw [if_neg c1]
  by_cases c2 : cd s p = 91
  · rw [if_pos c2, c2]
    rfl
  rw [if_neg c2]
  by_cases c3 : cd s p = 34
  · rw [if_pos c3, c3]
    rfl
  rw [if_neg c3]
  by_cases c4 : cd s p = 45
  · rw [if_pos c4, c4]
    rfl
  rw [if_neg c4]
  by_cases c5 : 48 ≤ cd s p ∧ cd s p ≤ 57
  · have e : isDg (cd s p) = true := by unfold isDg; rw [decide_eq_true c5.1, decide_eq_true c5.2]; rfl
    rw [e, if_neg (by decide), if_neg c3, if_neg c2, if_neg (show ¬ cd s p = 102 by omega), if_neg (show ¬ cd s p = 110 by omega), if_neg (show ¬ cd s p = 116 by omega), if_neg c1, if_neg c4, if_neg (show ¬ cd s p < 48 by omega), if_neg (show ¬ 57 < cd s p by omega), if_neg (by decide)]
  · have e : isDg (cd s p) = false := by
      unfold isDg
      rw [Bool.and_eq_false_iff, decide_eq_false_iff_not, decide_eq_false_iff_not]
      omega
    rw [e, if_pos (by rfl)]
    by_cases c6 : cd s p = 116
    · rw [if_pos c6, c6]
      rfl
    rw [if_neg c6]
    by_cases c7 : cd s p = 102
    · rw [if_pos c7, c7]
      rfl
    rw [if_neg c7]
    by_cases c8 : cd s p = 110
    · rw [if_pos c8, c8]
      rfl
    rw [if_neg c8, if_neg c3, if_neg c2, if_neg c7, if_neg c8, if_neg c6, if_neg c1, if_neg c4]
    by_cases c9 : cd s p < 48
    · rw [if_pos c9, if_pos rfl]
    · rw [if_neg c9, if_pos (show 57 < cd s p by omega), if_pos rfl]
theorem MV {bk : Nat} (X : Cx G F W) (h : isM W) (K : isSr W ks) (hks : ks ∉ vAr) (hl : s.length ≤ 8192) (hbk : bk ≤ 1) : ∀ (d op dep : Nat), dep + d = 45 → dep ≤ 40 → MVP W S ks p0 β bk op dep s (PD_X13_readValue G F d) (fun p J na nm => rv s d p J op dep na nm) := by
  intro d
  induction d with
  | zero => intro op dep h1 h2; omega
  | succ d ih =>
    intro op dep hd hdep p na nm J o hw C h24 h16 h26 ho nmh hnm
    have hF := X.hF
    have Y := hw.x hl
    have Y2 := Y.2.1
    have wl := hw.1
    have hpl := hw.2.1
    have hkl := kdB_le (cd s p)
    have hcc := kdB_c (cd s p) (cd_lt s p)
    show m7v W S (8200 * bk) β bk J.1 o dep (P_X13_readValue_o G F (PD_X13_readValue G F d) (W.ad (.o 13 0)) (paI op) (Int32.ofNat (if op = 0 then 0 else J.2.1 5 (op - 1))) (mem W (MA S o (Int32.ofNat p) (-1) (8200 * bk) β J.2.2))) (rv s (d + 1) p J op dep na nm)
    rw [rv, QM_rvo h K C hl (by omega)]
    have bad : m7v W S (8200 * bk) β bk J.1 o dep (bO (gfI (mem W (MA S o (Int32.ofNat p) (-1) (8200 * bk) β J.2.2)) (W.ad (.o 13 0)) 13 22) fun v104 => bO (rcv (mem W (MA S o (Int32.ofNat p) (-1) (8200 * bk) β J.2.2)) (W.ad (.o 13 0)) 13) fun _ => bO (P_X13_fail G F (W.ad (.o 13 0)) v104 (mem W (MA S o (Int32.ofNat p) (-1) (8200 * bk) β J.2.2))) fun M107 => some M107) (.inl p) := by
      rw [ma_at h, bO_s, ma_lo h, bO_s, QM_fail h, bO_s]
      exact ⟨o, _, _, rfl, kpB.refl _ _ _, by omega⟩
    unfold B_X13_readValue_o_59
    simp only [pe123, pe91]
    by_cases c7 : kdB (cd s p) = 7
    · rw [if_pos c7, if_pos rfl, if_pos (Or.inl c7)]
      exact bad
    rw [if_neg c7, if_neg (by decide), ma_r h 16, bO_s, ma_24 h h24, bO_s, ma_aN h 16 bk (by show bk < 2; omega), bO_s, h16]
    by_cases c6 : 600 ≤ J.1
    · rw [if_pos (show (Int32.ofNat J.1) = (600 : Int32) by rw [show J.1 = 600 by omega]; rfl), if_pos (Or.inr (Or.inl c6))]
      exact bad
    rw [if_neg (show ¬ (Int32.ofNat J.1) = (600 : Int32) from fun q => c6 (by have := (n_eq (b := 600) (by omega) (by omega)).mp q; omega))]
    have hp := cd_in (s := s) (p := p) (fun e => c7 (by rw [e]; rfl))
    have h26' : gfI (mem W (MA S o (Int32.ofNat p) (-1) (8200 * bk) β J.2.2)) (W.ad (.o 13 0)) 13 26 = some (Int32.ofNat dep) := by rw [ma_o h 26 rfl (by decide), h26]
    by_cases c40 : 5 ≤ kdB (cd s p) ∧ 40 ≤ dep
    · rw [if_pos (Or.inr (Or.inr c40))]
      have e40 : (Int32.ofNat dep) = (40 : Int32) := by rw [show dep = 40 by omega]; rfl
      by_cases e6 : kdB (cd s p) = 6
      · rw [if_pos (hcc.2.2.2.2.2.1 e6), h26', bO_s, if_pos e40]
        exact bad
      · have e5 := hcc.2.2.2.2.1 (by omega)
        rw [if_neg (by omega), if_pos e5, h26', bO_s, if_pos e40]
        exact bad
    have hbad : ¬ (kdB (cd s p) = 7 ∨ 600 ≤ J.1 ∨ (5 ≤ kdB (cd s p) ∧ 40 ≤ dep)) := by omega
    rw [if_neg hbad]
    obtain ⟨o0, g0, B⟩ := QM_111 (G := G) (F := F) (S := S) (u := 8200 * bk) (β := β) (acc := J.2.2) (q := p) (place := (if op = 0 then 0 else J.2.1 5 (op - 1))) (c := pB s p) (rvd := PD_X13_readValue G F d) h hbk (by omega) (by omega) h24 h16 (op := op)
    have to111 : (if cd s p = 123 then (bO (gfI (mem W (MA S o (Int32.ofNat p) (-1) (8200 * bk) β J.2.2)) (W.ad (.o 13 0)) 13 26) fun v94 => if v94 = (40 : Int32) then (bO (gfI (mem W (MA S o (Int32.ofNat p) (-1) (8200 * bk) β J.2.2)) (W.ad (.o 13 0)) 13 22) fun v104 => bO (rcv (mem W (MA S o (Int32.ofNat p) (-1) (8200 * bk) β J.2.2)) (W.ad (.o 13 0)) 13) fun _ => bO (P_X13_fail G F (W.ad (.o 13 0)) v104 (mem W (MA S o (Int32.ofNat p) (-1) (8200 * bk) β J.2.2))) fun M107 => some M107) else (B_X13_readValue_o_111 G F (PD_X13_readValue G F d) (W.ad (.o 13 0)) (paI op) (Int32.ofNat (if op = 0 then 0 else J.2.1 5 (op - 1))) (pB s p) (mem W (MA S o (Int32.ofNat p) (-1) (8200 * bk) β J.2.2)))) else (if cd s p = 91 then (bO (gfI (mem W (MA S o (Int32.ofNat p) (-1) (8200 * bk) β J.2.2)) (W.ad (.o 13 0)) 13 26) fun v94 => if v94 = (40 : Int32) then (bO (gfI (mem W (MA S o (Int32.ofNat p) (-1) (8200 * bk) β J.2.2)) (W.ad (.o 13 0)) 13 22) fun v104 => bO (rcv (mem W (MA S o (Int32.ofNat p) (-1) (8200 * bk) β J.2.2)) (W.ad (.o 13 0)) 13) fun _ => bO (P_X13_fail G F (W.ad (.o 13 0)) v104 (mem W (MA S o (Int32.ofNat p) (-1) (8200 * bk) β J.2.2))) fun M107 => some M107) else (B_X13_readValue_o_111 G F (PD_X13_readValue G F d) (W.ad (.o 13 0)) (paI op) (Int32.ofNat (if op = 0 then 0 else J.2.1 5 (op - 1))) (pB s p) (mem W (MA S o (Int32.ofNat p) (-1) (8200 * bk) β J.2.2)))) else (B_X13_readValue_o_111 G F (PD_X13_readValue G F d) (W.ad (.o 13 0)) (paI op) (Int32.ofNat (if op = 0 then 0 else J.2.1 5 (op - 1))) (pB s p) (mem W (MA S o (Int32.ofNat p) (-1) (8200 * bk) β J.2.2))))) = B_X13_readValue_o_111 G F (PD_X13_readValue G F d) (W.ad (.o 13 0)) (paI op) (Int32.ofNat (if op = 0 then 0 else J.2.1 5 (op - 1))) (pB s p) (mem W (MA S o (Int32.ofNat p) (-1) (8200 * bk) β J.2.2)) := by
      rw [h26', bO_s]
      by_cases k5 : 5 ≤ kdB (cd s p)
      · have n40 : ¬ (Int32.ofNat dep) = (40 : Int32) := fun q => by have := (n_eq (b := 40) (by omega) (by omega)).mp q; omega
        rw [if_neg n40]
        split
        · rfl
        · split <;> rfl
      · have n1 : ¬ cd s p = 123 := fun e => k5 (by rw [e]; decide)
        have n2 : ¬ cd s p = 91 := fun e => k5 (by rw [e]; decide)
        rw [if_neg n1, if_neg n2]
    rw [to111, g0]
    by_cases c5 : kdB (cd s p) < 5
    · have e : (if kdB (cd s p) < 3 then sB (wdR s (wdB (kdB (cd s p))) p) fun q => Sum.inr (q, bgn J (kdB (cd s p)) p op na nm) else if kdB (cd s p) = 3 then sB (nmS s p (nmR s p)) fun y => Sum.inr (y.2, snm (bgn J 3 p op na nm) J.1 y.1) else if kdB (cd s p) = 4 then sB (stR s p) fun y => Sum.inr (y.2, snm (bgn J 4 p op na nm) J.1 y.1) else mnR s (decide (kdB (cd s p) = 6)) J.1 (fun p' J' na' nm' => rv s d p' J' (J.1 + 1) (dep + 1) na' nm') (p + 1) (bgn J (kdB (cd s p)) p op na nm)) = lfR s J (kdB (cd s p)) p op na nm := by
        unfold lfR
        by_cases c3 : kdB (cd s p) < 3
        · rw [if_pos c3, if_pos c3]
        · rw [if_neg c3, if_neg c3]
          by_cases c4 : kdB (cd s p) = 3
          · rw [if_pos c4, if_pos c4]
          · rw [if_neg c4, if_neg c4, if_pos (by omega)]
      rw [e]
      exact QM_leaf X h K hks C hl hbk hw (by omega) ho h26 nmh c5 B
    · rw [if_neg (show ¬ kdB (cd s p) < 3 by omega), if_neg (show ¬ kdB (cd s p) = 3 by omega), if_neg (show ¬ kdB (cd s p) = 4 by omega)]
      have jl : 600 * bk + J.1 < 1200 := by omega
      have w1 : JW s p (bgn J (kdB (cd s p)) p op na nm) := bgn_W hw (by omega) (by omega) ho hnm
      have n1 := skb_le s (p + 1)
      have n2 := skb_len (s := s) (p := p + 1) (by omega)
      -- both brackets alike
      have both : ∀ (obj : Bool), kdB (cd s p) = (if obj then 6 else 5) → m7v W S (8200 * bk) β bk J.1 o dep (bO (sI (mem W (MA S o0 (Int32.ofNat p) (-1) (8200 * bk) β J.2.2)) 0 (W.ad (.a 13 0 6)) (Int32.ofNat (600 * bk + J.1)) (Int32.ofNat (kdB (cd s p)))) fun M240 => bO (gfI M240 (W.ad (.o 13 0)) 13 26) fun v243 => bO (pfv M240 (W.ad (.o 13 0)) 13 26 (.int (v243 + (1 : Int32)))) fun M248 => bO (gfI M248 (W.ad (.o 13 0)) 13 22) fun v253 => bO (pfv M248 (W.ad (.o 13 0)) 13 22 (.int (v253 + (1 : Int32)))) fun M258 => bO (rcv M258 (W.ad (.o 13 0)) 13) fun _ => bO (P_X13_readMany G F (PD_X13_readValue G F d) (W.ad (.o 13 0)) (Int32.ofNat (600 * bk + J.1)) (if obj then 1 else 0) M258) fun M275 => bO (gfI M275 (W.ad (.o 13 0)) 13 26) fun v280 => bO (pfv M275 (W.ad (.o 13 0)) 13 26 (.int (v280 - (1 : Int32)))) fun M285 => some M285) (mnR s obj J.1 (fun p' J' na' nm' => rv s d p' J' (J.1 + 1) (dep + 1) na' nm') (p + 1) (bgn J (kdB (cd s p)) p op na nm)) := by
        intro obj hobj
        obtain ⟨o1, ho1⟩ : ∃ o1, o1 = o0.sA 6 (upd (o0.a 6) (600 * bk + J.1) (Int32.ofNat (kdB (cd s p)))) := ⟨_, rfl⟩
        have Bk := B (Int32.ofNat (kdB (cd s p)))
        rw [← ho1] at Bk
        obtain ⟨b0, b16, b26, b6, b7, b8, b9, b10, b11, b12, b13, b14⟩ := id Bk
        have T1 := bgM_T (na := na) (nm := nm) Bk (by omega) ho nmh
        have f26 : o1.f 26 = (Int32.ofNat dep) := b26.trans h26
        obtain ⟨o2, ho2⟩ : ∃ o2, o2 = o1.sf 26 (Int32.ofNat (dep + 1)) := ⟨_, rfl⟩
        have k2 : kpB bk J.1 o o2 := by rw [ho2]; exact b0.trans kpB_26
        have C2 : SrC o2 ks p0 s := k2.src hks C
        have a2 : ∀ k, o2.a k = o1.a k := by intro k; rw [ho2]; rfl
        have g24 : o2.f 24 = (Int32.ofNat bk) := by rw [k2.1.1 24 (by decide)]; exact h24
        have g26 : o2.f 26 = (Int32.ofNat (dep + 1)) := by rw [ho2]; exact sf_eq _ _ _
        have ek : (bgn J (kdB (cd s p)) p op na nm).2.1 1 J.1 = (if obj then 6 else 5) := by
          show bgT J.2.1 J.1 _ _ op J.2.2.length na nm 1 J.1 = _
          rw [bgT_n]
          exact hobj
        have e5 : (bgn J (kdB (cd s p)) p op na nm).2.1 5 J.1 = 0 := by
          show bgT J.2.1 J.1 _ _ op J.2.2.length na nm 5 J.1 = _
          rw [bgT_n]
          rfl
        rw [ma_sN h 6 _ jl, bO_s, ← ho1, ma_o h 26 rfl (by decide), bO_s, f26, n_i1, ma_26 h, bO_s, ← ho2, ma_at h, bO_s, n_i1, ma_st h, bO_s, ma_lo h, bO_s]
        have em : P_X13_readMany G F (PD_X13_readValue G F d) (W.ad (.o 13 0)) (Int32.ofNat (600 * bk + J.1)) (if obj then 1 else 0) (mem W (MA S o2 (Int32.ofNat (p + 1)) (-1) (8200 * bk) β J.2.2)) = B_X13_readMany_11 G F (PD_X13_readValue G F d) (W.ad (.o 13 0)) (Int32.ofNat (600 * bk + J.1)) (if obj then 1 else 0) (Int32.ofNat (clB obj)) (mem W (MA S o2 (Int32.ofNat (p + 1)) (-1) (8200 * bk) β J.2.2)) := by
          unfold P_X13_readMany
          cases obj <;> rfl
        have hcl : clB obj < 256 := by cases obj <;> decide
        have hcl0 := clB_ne obj
        rw [em]
        unfold B_X13_readMany_11 mnR
        rw [ma_lo h, bO_s, QM_blanks X h K C2 hl (by omega), bO_s, ma_lo h, bO_s, QM_at h K C2 (by omega) hl, bP_s]
        by_cases cc : cd s (skb s (p + 1)) = clB obj
        · rw [if_pos cc, if_pos (show pB s (skb s (p + 1)) = (Int32.ofNat (clB obj)) by rw [ck_eq (by omega) hcl]; exact cc), ma_at h, bO_s, n_i1, ma_st h, bO_s, bO_s, ma_o h 26 rfl (by decide), bO_s, g26, show (Int32.ofNat (dep + 1)) - (1 : Int32) = (Int32.ofNat dep) from n_sub (a := dep + 1) (b := 1) (by omega), ma_26 h, bO_s]
          refine ⟨_, rfl, k2.trans kpB_26, ?_, sf_eq _ _ _, fun i x y => ?_⟩
          · show o2.a 16 bk = _
            rw [a2]
            exact b16
          · have t := T1 i x y
            simp only [sf_a, a2]
            exact t
        · rw [if_neg cc, if_neg (show ¬ pB s (skb s (p + 1)) = (Int32.ofNat (clB obj)) by rw [ck_eq (by omega) hcl]; exact cc)]
          have m := ML (G := G) (F := F) (S := S) (β := β) (v := J.1) (dep := dep + 1) (obj := obj) (RV := PD_X13_readValue G F d) (rvd := fun p' J' na' nm' => rv s d p' J' (J.1 + 1) (dep + 1) na' nm') X h K hks hl hbk (fun p' J2 na' nm' q' J3 hw' hv' hm' hr' => rv_ok hw' (by omega) hm' hr') (fun p' J2 na' nm' q' hw' hv' hm' hr' => rv_bad hw' (by omega) hm' hr') (fun p' J2 na' nm' q' J3 hw' hv' hm' hr' => rv_old hw' (by omega) hm' hr') (ih (J.1 + 1) (dep + 1) (by omega) (by omega)) (s.length + 1) (skb s (p + 1)) F (bgn J (kdB (cd s p)) p op na nm) o2 (by omega) (by omega) (w1.mono (by omega) n2) C2 g24 (by rw [a2]; exact b16) g26 (Nat.lt_succ_self _) ek (fun i x y => absurd y (by show ¬ i < J.1 + 1; omega)) (by rw [a2, b10, e5]; rfl)
          rw [e5] at m
          have m : m7m W S (8200 * bk) β bk J.1 o2 (dep + 1) (B_X13_readMany_41 G F (PD_X13_readValue G F d) F (W.ad (.o 13 0)) (Int32.ofNat (600 * bk + J.1)) (if obj then 1 else 0) (Int32.ofNat (clB obj)) 0 1 (mem W (MA S o2 (Int32.ofNat (skb s (p + 1))) (-1) (8200 * bk) β J.2.2))) (lp s obj J.1 (fun p' J' na' nm' => rv s d p' J' (J.1 + 1) (dep + 1) na' nm') (s.length + 1) (skb s (p + 1)) (bgn J (kdB (cd s p)) p op na nm)) := m
          cases hlp : lp s obj J.1 (fun p' J' na' nm' => rv s d p' J' (J.1 + 1) (dep + 1) na' nm') (s.length + 1) (skb s (p + 1)) (bgn J (kdB (cd s p)) p op na nm) with
          | inl y =>
            rw [hlp] at m
            obtain ⟨o3, p3, acc3, x1, x2, x3⟩ := m
            rw [x1, bO_s, ma_o h 26 rfl (by decide), bO_s, ma_26 h, bO_s]
            exact ⟨_, _, _, rfl, (k2.trans x2).trans kpB_26, x3⟩
          | inr y =>
            obtain ⟨z1, z2⟩ := y
            rw [hlp] at m
            obtain ⟨l1, l2, l3⟩ := lp_ok (v := J.1) (fun p' J2 na' nm' q' J3 hw' hv' hm' hr' => rv_ok hw' (by omega) hm' hr') (w1.mono (by omega) n2) (Nat.lt_succ_self _) hlp
            have l30 : J.1 + 1 ≤ z2.1 := l3.1
            obtain ⟨o3, x1, x2, x3, x4, x5, x6, x7⟩ := m
            rw [x1, bO_s, ma_o h 26 rfl (by decide), bO_s, x4, show (Int32.ofNat (dep + 1)) - (1 : Int32) = (Int32.ofNat dep) from n_sub (a := dep + 1) (b := 1) (by omega), ma_26 h, bO_s]
            refine ⟨_, rfl, (k2.trans x2).trans kpB_26, x3, sf_eq _ _ _, ?_⟩
            have Tv : TbM o3 bk z2.2.1 J.1 (J.1 + 1) := by
              intro i a b
              have e : i = J.1 := by omega
              subst e
              obtain ⟨t1, t2, t3, t4, t5, t6, t7, t8, t9⟩ := T1 J.1 (Nat.le_refl _) (Nat.lt_succ_self _)
              have zz : ∀ k, k ≠ 5 → z2.2.1 k J.1 = (bgn J (kdB (cd s p)) p op na nm).2.1 k J.1 := fun k hk => l3.2.1 k J.1 (Nat.lt_succ_self _) (Or.inl hk)
              have mb : mbr z2.2.1 J.1 ↔ mbr (bgn J (kdB (cd s p)) p op na nm).2.1 J.1 := by
                unfold mbr
                have e2 : (bgn J (kdB (cd s p)) p op na nm).2.1 2 J.1 = op := bgT_n
                rw [zz 2 (by decide), e2]
                by_cases e : op = 0
                · simp [e]
                · rw [l3.2.1 1 (op - 1) (by show op - 1 < J.1 + 1; omega) (by omega)]
              rw [x7 6 (by omega) (by omega) (by omega), x7 7 (by omega) (by omega) (by omega), x7 8 (by omega) (by omega) (by omega), x7 9 (by omega) (by omega) (by omega), x6, x7 11 (by omega) (by omega) (by omega), x7 12 (by omega) (by omega) (by omega), x7 13 (by omega) (by omega) (by omega), x7 14 (by omega) (by omega) (by omega), a2, a2, a2, a2, a2, a2, a2, a2, zz 1 (by decide), zz 2 (by decide), zz 3 (by decide), zz 4 (by decide), zz 6 (by decide), zz 7 (by decide), zz 8 (by decide), zz 9 (by decide)]
              exact ⟨t1, t2, t3, t4, rfl, t6, t7, fun q => t8 (mb.mp q), fun q => t9 (fun q2 => q (mb.mpr q2))⟩
            have Tz := Tv.cat x5
            intro i a b
            have t := Tz i a b
            simp only [sf_a]
            exact t
      unfold B_X13_readValue_o_210 B_X13_readValue_o_240
      simp only [pe123, pe91]
      by_cases e6 : kdB (cd s p) = 6
      · have c := hcc.2.2.2.2.2.1 e6
        have b := both true e6
        rw [e6] at b ⊢
        simp only [if_pos c]
        rw [ma_r h 6, bO_s]
        exact b
      · have k5 : kdB (cd s p) = 5 := by omega
        have c := hcc.2.2.2.2.1 k5
        have b := both false k5
        rw [k5] at b ⊢
        simp only [if_neg (show ¬ cd s p = 123 by omega), if_pos c]
        rw [ma_r h 6, bO_s]
        exact b
end MRDV
