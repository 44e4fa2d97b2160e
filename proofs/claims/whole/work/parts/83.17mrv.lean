/-! TEXTS OF VALUES: the model reads what the grammar says -/
theorem TbM.cat {o : Ob} {bk lo m hi : Nat} {T : Nat → Nat → Nat} (h1 : TbM o bk T lo m) (h2 : TbM o bk T m hi) : TbM o bk T lo hi := fun i a b => if e : i < m then h1 i a e else h2 i (by omega) b
theorem TbM.old {o o' : Ob} {bk lo n : Nat} {T T' : Nat → Nat → Nat} (h : TbM o bk T lo n) (ha : ∀ k, 6 ≤ k → k ≤ 14 → ∀ i, lo ≤ i → i < n → o'.a k (600 * bk + i) = o.a k (600 * bk + i)) (hT : ∀ k i, lo ≤ i → i < n → T' k i = T k i) (h1 : ∀ i, i < n → T' 1 i = T 1 i) (h2 : ∀ i, i < n → T 2 i ≤ i) : TbM o' bk T' lo n := by
  intro i a b
  obtain ⟨b1, b2, b3, b4, b5, b6, b7, b8, b9⟩ := h i a b
  have mb : mbr T' i ↔ mbr T i := by
    unfold mbr
    rw [hT 2 i a b]
    have := h2 i b
    by_cases e : T 2 i = 0
    · rw [e]
      simp
    · rw [h1 (T 2 i - 1) (by omega)]
  rw [ha 6 (by omega) (by omega) i a b, ha 7 (by omega) (by omega) i a b, ha 8 (by omega) (by omega) i a b, ha 9 (by omega) (by omega) i a b, ha 10 (by omega) (by omega) i a b, ha 11 (by omega) (by omega) i a b, ha 12 (by omega) (by omega) i a b, ha 13 (by omega) (by omega) i a b, ha 14 (by omega) (by omega) i a b, hT 1 i a b, hT 2 i a b, hT 3 i a b, hT 4 i a b, hT 5 i a b, hT 6 i a b, hT 7 i a b, hT 8 i a b, hT 9 i a b]
  exact ⟨b1, b2, b3, b4, b5, b6, b7, fun q => b8 (mb.mp q), fun q => b9 (fun q2 => q (mb.mpr q2))⟩
def m7m (W : WR) (S : ST) (u : Nat) (β : Nat → UInt8) (bk v : Nat) (o : Ob) (dep : Nat) (run : Option mM) (r : Nat ⊕ (Nat × JT)) : Prop := match r with
  | .inl q => ∃ (o' : Ob) (p' : Int32) (acc' : List UInt8), run = some (mem W (MA S o' p' (Int32.ofNat q) u β acc')) ∧ kpB bk v o o' ∧ acc'.length ≤ 8192
  | .inr (q, J') => ∃ o' : Ob, run = some (mem W (MA S o' (Int32.ofNat q) (-1) u β J'.2.2)) ∧ kpB bk v o o' ∧ o'.a 16 bk = (Int32.ofNat J'.1) ∧ o'.f 26 = (Int32.ofNat dep) ∧ TbM o' bk J'.2.1 (v + 1) J'.1 ∧ o'.a 10 (600 * bk + v) = (Int32.ofNat (J'.2.1 5 v)) ∧ ∀ k, 6 ≤ k → k ≤ 14 → k ≠ 10 → o'.a k (600 * bk + v) = o.a k (600 * bk + v)
def MVP (W : WR) (S : ST) (ks p0 : Nat) (β : Nat → UInt8) (bk op dep : Nat) (s : List UInt8) (RV : Nat → Int32 → Int32 → mM → Option mM) (rvd : Nat → JT → Nat → Nat → Nat ⊕ (Nat × JT)) : Prop := ∀ (p na nm : Nat) (J : JT) (o : Ob), JW s p J → SrC o ks p0 s → o.f 24 = (Int32.ofNat bk) → o.a 16 bk = (Int32.ofNat J.1) → o.f 26 = (Int32.ofNat dep) → op ≤ J.1 → NmM o bk J op na nm → na + nm ≤ J.2.2.length → m7v W S (8200 * bk) β bk J.1 o dep (RV (W.ad (.o 13 0)) (paI op) (Int32.ofNat (if op = 0 then 0 else J.2.1 5 (op - 1))) (mem W (MA S o (Int32.ofNat p) (-1) (8200 * bk) β J.2.2))) (rvd p J na nm)
section MRV
variable {W : WR} {G : mG} {F : Nat} {S : ST} {ks p0 : Nat} {s : List UInt8} {β : Nat → UInt8}
theorem QM_41b {o : Ob} {RV : Nat → Int32 → Int32 → mM → Option mM} {q u fuel : Nat} {p' x y z c m : Int32} {acc : List UInt8} (h : isM W) (hq : q < 2 ^ 31) : B_X13_readMany_41 G F RV (fuel + 1) (W.ad (.o 13 0)) x y z c m (mem W (MA S o p' (Int32.ofNat q) u β acc)) = some (mem W (MA S o p' (Int32.ofNat q) u β acc)) := by
  rw [B_X13_readMany_41]
  split
  · rfl
  · rw [ma_lo h, bO_s, QM_good0 h hq, bP_s, if_pos rfl]
theorem ML {v dep bk : Nat} {obj : Bool} {RV : Nat → Int32 → Int32 → mM → Option mM} {rvd : Nat → JT → Nat → Nat → Nat ⊕ (Nat × JT)} (X : Cx G F W) (h : isM W) (K : isSr W ks) (hks : ks ∉ vAr) (hl : s.length ≤ 8192) (hbk : bk ≤ 1) (hr : RVok s rvd v) (hb : ∀ p J na nm q, JW s p J → v < J.1 → na + nm ≤ J.2.2.length → rvd p J na nm = .inl q → q ≤ s.length + 2) (ho : ∀ p J na nm q J', JW s p J → v < J.1 → na + nm ≤ J.2.2.length → rvd p J na nm = .inr (q, J') → JO (v + 1) J J') (hc : MVP W S ks p0 β bk (v + 1) dep s RV rvd) : ∀ (f p fuel : Nat) (J : JT) (o : Ob), s.length < f + p → f + 1 < fuel → JW s p J → SrC o ks p0 s → o.f 24 = (Int32.ofNat bk) → o.a 16 bk = (Int32.ofNat J.1) → o.f 26 = (Int32.ofNat dep) → v < J.1 → J.2.1 1 v = (if obj then 6 else 5) → TbM o bk J.2.1 (v + 1) J.1 → o.a 10 (600 * bk + v) = (Int32.ofNat (J.2.1 5 v)) → m7m W S (8200 * bk) β bk v o dep (B_X13_readMany_41 G F RV fuel (W.ad (.o 13 0)) (Int32.ofNat (600 * bk + v)) (if obj then 1 else 0) (Int32.ofNat (clB obj)) (Int32.ofNat (J.2.1 5 v)) 1 (mem W (MA S o (Int32.ofNat p) (-1) (8200 * bk) β J.2.2))) (lp s obj v rvd f p J) := by
  have e600 : (600 : Int32) * (Int32.ofNat bk) = (Int32.ofNat (600 * bk)) := by rw [show (600 : Int32) = (Int32.ofNat 600) from rfl, n_mul]
  intro f
  induction f with
  | zero =>
    intro p fuel J o h1 _ hw
    have := hw.2.1
    omega
  | succ f ih =>
    intro p fuel J o hf hfu hw C h24 h16 h26 hv hkd T h10
    obtain ⟨fuel, rfl⟩ : ∃ q, fuel = q + 1 + 1 := ⟨fuel - 2, by omega⟩
    have Y := hw.x hl
    have Y2 := Y.2.1
    have Y5 := (Y.2.2 v hv).2.2.2.2.1
    have wl := hw.1
    have hpl := hw.2.1
    -- the value and what is behind it
    have vt : ∀ (p1 na nm : Nat) (J1 : JT) (l2 : Int32), p ≤ p1 → JW s p1 J1 → J1.1 = J.1 → J1.2.1 = J.2.1 → na + nm ≤ J1.2.2.length → na = J.2.2.length → J1.2.2.length = na + nm ∨ obj = false → (l2 = if obj then 1 else 0) → (obj = true → na + nm = J1.2.2.length) → m7m W S (8200 * bk) β bk v o dep (B_X13_readMany_88 G F RV (B_X13_readMany_41 G F RV (fuel + 1)) (W.ad (.o 13 0)) (Int32.ofNat (600 * bk + v)) l2 (Int32.ofNat (clB obj)) (Int32.ofNat (J.2.1 5 v)) 1 (Int32.ofNat (600 * bk + J.1)) (Int32.ofNat (8200 * bk + J.2.2.length)) (mem W (MA S o (Int32.ofNat p1) (-1) (8200 * bk) β J1.2.2))) (sB (rvd p1 J1 (if obj then na else 0) (if obj then nm else 0)) fun z => lpE s (clB obj) (lp s obj v rvd f) z) := by
      intro p1 na nm J1 l2 hp1 w1 n1 t1 hnm hna _ hl2 hobj
      have w1p := w1.2.1
      have nm2 : (if obj = true then na else 0) + (if obj = true then nm else 0) ≤ J1.2.2.length := by cases obj <;> simp <;> omega
      -- the names are written, then the value is read
      have go : ∀ (o1 : Ob), kpB bk J.1 o o1 → o1.f 24 = (Int32.ofNat bk) → o1.a 16 bk = (Int32.ofNat J.1) → o1.f 26 = (Int32.ofNat dep) → NmM o1 bk J1 (v + 1) (if obj then na else 0) (if obj then nm else 0) → m7m W S (8200 * bk) β bk v o dep (bO (gfI (mem W (MA S o1 (Int32.ofNat p1) (-1) (8200 * bk) β J1.2.2)) (W.ad (.o 13 0)) 13 24) fun v155 => bO (rcv (mem W (MA S o1 (Int32.ofNat p1) (-1) (8200 * bk) β J1.2.2)) (W.ad (.o 13 0)) 13) fun _ => bO (RV (W.ad (.o 13 0)) ((Int32.ofNat (600 * bk + v)) - ((600 : Int32) * v155)) (Int32.ofNat (J.2.1 5 v)) (mem W (MA S o1 (Int32.ofNat p1) (-1) (8200 * bk) β J1.2.2))) fun M162 => B_X13_readMany_165 G F RV (B_X13_readMany_41 G F RV (fuel + 1)) (W.ad (.o 13 0)) (Int32.ofNat (600 * bk + v)) l2 (Int32.ofNat (clB obj)) (Int32.ofNat (J.2.1 5 v)) 1 M162) (sB (rvd p1 J1 (if obj then na else 0) (if obj then nm else 0)) fun z => lpE s (clB obj) (lp s obj v rvd f) z) := by
        intro o1 k1 f24 a16 f26 nmh
        have q := hc p1 (if obj then na else 0) (if obj then nm else 0) J1 o1 w1 (k1.src hks C) f24 (by rw [n1]; exact a16) f26 (by omega) nmh nm2
        rw [if_neg (by omega), show paI (v + 1) = (Int32.ofNat v) from if_neg (by omega), show v + 1 - 1 = v from rfl, t1, n1] at q
        rw [ma_24 h f24, bO_s, ma_lo h, bO_s, e600, n_sub (by omega), show 600 * bk + v - 600 * bk = v by omega]
        cases hz : rvd p1 J1 (if obj then na else 0) (if obj then nm else 0) with
        | inl y =>
          have hy := hb _ _ _ _ _ w1 (by omega) nm2 hz
          rw [hz] at q
          obtain ⟨o2, p2, acc2, q1, q2, q3⟩ := q
          rw [q1, bO_s]
          unfold B_X13_readMany_165
          rw [ma_lo h, bO_s, QM_good0 h (by omega), bP_s, if_pos rfl, QM_41b h (by omega)]
          exact ⟨o2, p2, acc2, rfl, (k1.trans q2).mono (by omega), q3⟩
        | inr z =>
          obtain ⟨z1, z2⟩ := z
          rw [hz] at q
          obtain ⟨r1, r2, r3, r4⟩ := hr _ _ _ _ _ _ w1 (by omega) nm2 hz
          have r5 := ho _ _ _ _ _ _ w1 (by omega) nm2 hz
          obtain ⟨o2, q1, q2, q3, q4, q5⟩ := q
          have z1l := r2.2.1
          have m1 := skb_le s z1
          have m2 := skb_len z1l
          have k2 : kpB bk J.1 o o2 := k1.trans q2
          have j5 : z2.2.1 5 v = J.2.1 5 v + 1 := by
            rw [r5 5 v (by omega), if_pos ⟨rfl, rfl⟩, t1]
          have jl : 600 * bk + v < 1200 := by omega
          obtain ⟨o3, ho3⟩ : ∃ o3, o3 = o2.sA 10 (upd (o2.a 10) (600 * bk + v) (Int32.ofNat (J.2.1 5 v + 1))) := ⟨_, rfl⟩
          have k3 : kpB bk v o2 o3 := by rw [ho3]; exact kpB_sA (by decide) (by decide) (Nat.le_refl _) (by omega)
          have kk : kpB bk v o o3 := (k2.mono (by omega)).trans k3
          have T3 : TbM o3 bk z2.2.1 (v + 1) z2.1 := by
            have Ta : TbM o2 bk z2.2.1 (v + 1) J.1 := by
              refine T.old (fun k a b i c d => k2.2.1 k a b _ (Or.inl (by omega))) (fun k i c d => ?_) (fun i d => ?_) (fun i d => (Y.2.2 i d).2.1)
              · rw [r5 k i (by omega), if_neg (by omega), t1]
              · rw [r5 1 i (by omega), if_neg (by omega), t1]
            have Tb := Ta.cat q5
            intro i a b
            have e10 : ∀ k, o3.a k (600 * bk + i) = o2.a k (600 * bk + i) := by
              intro k
              rw [ho3]
              by_cases e : k = 10
              · subst e
                rw [sA_a]
                unfold upd
                rw [if_neg (by omega)]
              · rw [sA_a' e]
            simp only [e10]
            exact Tb i a b
          have a10 : o3.a 10 (600 * bk + v) = (Int32.ofNat (z2.2.1 5 v)) := by
            rw [ho3, sA_a, j5]
            exact if_pos rfl
          have oth : ∀ k, 6 ≤ k → k ≤ 14 → k ≠ 10 → o3.a k (600 * bk + v) = o.a k (600 * bk + v) := by
            intro k a b c
            rw [ho3, sA_a' c]
            exact k2.2.1 k a b _ (Or.inl (by omega))
          have C3 : SrC o3 ks p0 s := kk.src hks C
          have g24 : o3.f 24 = (Int32.ofNat bk) := by rw [kk.1.1 24 (by decide)]; exact h24
          have g16 : o3.a 16 bk = (Int32.ofNat z2.1) := by rw [ho3, sA_a' (by decide)]; exact q3
          have g26 : o3.f 26 = (Int32.ofNat dep) := by rw [ho3]; exact q4
          have z2v : v < z2.1 := by omega
          have zk : z2.2.1 1 v = if obj then 6 else 5 := by rw [r5 1 v (by omega), if_neg (by omega), t1]; exact hkd
          rw [q1, bO_s]
          unfold B_X13_readMany_165
          rw [ma_lo h, bO_s, QM_good1 h, bP_s, if_neg (by decide), ma_r h 10, bO_s, n_i1, ma_sN h 10 _ jl, bO_s, ← ho3, ma_lo h, bO_s, QM_blanks X h K C3 hl z1l, bO_s, ma_lo h, bO_s, QM_at h K C3 (by omega) hl, bP_s]
          simp only [pe44]
          show m7m W S (8200 * bk) β bk v o dep _ (if cd s (skb s z1) = 44 then lp s obj v rvd f (skb s (skb s z1 + 1)) z2 else if cd s (skb s z1) = clB obj then .inr (skb s z1 + 1, z2) else .inl (skb s z1))
          unfold B_X13_readMany_201
          by_cases c1 : cd s (skb s z1) = 44
          · have hi := cd_in (s := s) (p := skb s z1) (by omega)
            have m3 := skb_le s (skb s z1 + 1)
            have m4 := skb_len (s := s) (p := skb s z1 + 1) (by omega)
            rw [if_pos c1, if_pos c1, if_neg (by decide), ma_at h, bO_s, n_i1, ma_st h, bO_s, ma_lo h, bO_s, QM_blanks X h K C3 hl (by omega), bO_s, ← j5, hl2]
            have r := ih (skb s (skb s z1 + 1)) (fuel + 1) z2 o3 (by omega) (by omega) (r2.mono (by omega) m4) C3 g24 g16 g26 z2v zk T3 a10
            cases hlp : lp s obj v rvd f (skb s (skb s z1 + 1)) z2 with
            | inl y =>
              rw [hlp] at r
              obtain ⟨o4, p4, a4, x1, x2, x3⟩ := r
              exact ⟨o4, p4, a4, x1, kk.trans x2, x3⟩
            | inr y =>
              rw [hlp] at r
              obtain ⟨o4, x1, x2, x3, x4, x5, x6, x7⟩ := r
              exact ⟨o4, x1, kk.trans x2, x3, x4, x5, x6, fun k a b c => (x7 k a b c).trans (oth k a b c)⟩
          · rw [if_neg c1, if_neg c1, if_pos rfl, ma_lo h, bO_s, QM_at h K C3 (by omega) hl, bP_s]
            by_cases c2 : cd s (skb s z1) = clB obj
            · have hcl : clB obj < 256 := by cases obj <;> decide
              have hcl0 := clB_ne obj
              rw [if_pos c2, if_pos (show pB s (skb s z1) = (Int32.ofNat (clB obj)) by rw [ck_eq (by omega) hcl]; exact c2), ma_at h, bO_s, n_i1, ma_st h, bO_s, B_X13_readMany_41, if_pos rfl]
              exact ⟨o3, rfl, kk, g16, g26, T3, a10, oth⟩
            · have hcl : clB obj < 256 := by cases obj <;> decide
              have hcl0 := clB_ne obj
              rw [if_neg c2, if_neg (show ¬ pB s (skb s z1) = (Int32.ofNat (clB obj)) by rw [ck_eq (by omega) hcl]; exact c2), ma_at h, bO_s, ma_lo h, bO_s, QM_fail h, bO_s, QM_41b h (by omega)]
              exact ⟨o3, _, _, rfl, kk, by have := r2.1; omega⟩
      unfold B_X13_readMany_88
      rw [ma_top h, bO_s, ma_lo h, bO_s, QM_good1 h, bP_s, if_neg (by decide), ma_r h 16, bO_s, ma_24 h h24, bO_s, ma_aN h 16 bk (by show bk < 2; omega), bO_s, h16]
      by_cases c6 : 600 ≤ J.1
      · rw [if_pos (show (600 : Int32) ≤ (Int32.ofNat J.1) from (n_le (a := 600) (by omega) (by omega)).mpr c6)]
        have g := go o (kpB.refl _ _ _) h24 h16 h26 (fun _ hlt => absurd hlt (by omega))
        rw [ma_24 h h24] at g
        exact g
      · have jn : 600 * bk + J.1 < 1200 := by omega
        rw [if_neg (show ¬ (600 : Int32) ≤ (Int32.ofNat J.1) from fun q => c6 ((n_le (a := 600) (by omega) (by omega)).mp q)), ma_r h 13, bO_s, ma_sN h 13 _ jn, bO_s, ma_r h 14, bO_s]
        cases obj with
        | false =>
          rw [hl2, if_pos (by rfl), ma_sN h 14 _ jn, bO_s]
          rw [hl2] at go
          refine go _ ((kpB_sA (by decide) (by decide) (Nat.le_refl _) (by omega)).trans (kpB_sA (by decide) (by decide) (Nat.le_refl _) (by omega))) h24 h16 h26 (fun _ _ => ⟨fun e => ?_, fun _ => ?_⟩)
          · exfalso
            rw [t1, show v + 1 - 1 = v from rfl, hkd] at e
            exact absurd e (by decide)
          · rw [n1]
            exact if_pos rfl
        | true =>
          have hs := hobj rfl
          rw [hl2, if_neg (by decide), n_sub (by omega), ma_sN h 14 _ jn, bO_s]
          rw [hl2] at go
          refine go _ ((kpB_sA (by decide) (by decide) (Nat.le_refl _) (by omega)).trans (kpB_sA (by decide) (by decide) (Nat.le_refl _) (by omega))) h24 h16 h26 (fun _ _ => ⟨fun _ => ⟨?_, ?_⟩, fun e => ?_⟩)
          · rw [n1, sA_a' (by decide), sA_a, if_pos rfl, hna]
            exact if_pos rfl
          · rw [n1, sA_a, if_pos rfl, show 8200 * bk + J1.2.2.length - (8200 * bk + J.2.2.length) = nm by omega]
            exact if_pos rfl
          · exfalso
            rw [t1, show v + 1 - 1 = v from rfl, hkd] at e
            exact e rfl
    rw [B_X13_readMany_41, if_neg (by decide), ma_lo h, bO_s, QM_good1 h, bP_s, if_neg (by decide), ma_24 h h24, bO_s, ma_r h 16, bO_s, bO_s, ma_aN h 16 bk (by show bk < 2; omega), bO_s, ma_top h, bO_s, h16, e600, n_add]
    show m7m W S (8200 * bk) β bk v o dep _ (sB (if obj then nameR s p J v else .inr (p, J, 0, 0)) fun y => sB (rvd y.1 y.2.1 y.2.2.1 y.2.2.2) fun z => lpE s (clB obj) (lp s obj v rvd f) z)
    cases obj with
    | false =>
      rw [if_pos (by rfl)]
      exact vt p J.2.2.length 0 J _ (Nat.le_refl _) hw rfl rfl (by omega) rfl (Or.inr rfl) rfl (fun e => absurd e (by decide))
    | true =>
      rw [if_neg (by decide), ma_lo h, bO_s, if_pos rfl]
      have q := QM_readName (G := G) (F := F) (S := S) (β := β) X h K C hl hbk h24 h16 hw hv hkd T
      cases hq : nameR s p J v with
      | inl y =>
        rw [hq] at q
        have hy : y ≤ s.length := by
          unfold nameR at hq
          split at hq
          · have hi := cd_in (s := s) (p := p) (by omega)
            cases hs2 : stR s p with
            | inl z =>
              rw [hs2] at hq
              have := Sum.inl.inj (α := Nat) (β := Nat × JT × Nat × Nat) hq
              have := stR_bad hi hs2
              omega
            | inr r =>
              rw [hs2] at hq
              have k := stR_ok (bs := r.1) (q := r.2) hs2
              have k2 := skb_len k.2
              have hq : (if dupB J v r.1 = true then .inl p else if cd s (skb s r.2) = 58 then .inr (skb s (skb s r.2 + 1), (J.1, J.2.1, J.2.2 ++ r.1), J.2.2.length, r.1.length) else .inl (skb s r.2)) = Sum.inl y := hq
              split at hq
              · have := Sum.inl.inj hq
                omega
              · split at hq
                · exact absurd hq (by simp)
                · have := Sum.inl.inj hq
                  omega
          · have := Sum.inl.inj hq
            omega
        obtain ⟨p', acc', q1, q2⟩ := q
        rw [q1, bO_s]
        unfold B_X13_readMany_88
        rw [ma_top h, bO_s, ma_lo h, bO_s, QM_good0 h (by omega), bP_s, if_pos rfl]
        unfold B_X13_readMany_165
        rw [ma_lo h, bO_s, QM_good0 h (by omega), bP_s, if_pos rfl, QM_41b h (by omega)]
        exact ⟨o, p', acc', rfl, kpB.refl _ _ _, q2⟩
      | inr y =>
        obtain ⟨k1, k2, k3, k4, k5, bs, k6⟩ := nameR_ok hw hq
        rw [hq] at q
        have q : P_X13_readName G F (W.ad (.o 13 0)) (Int32.ofNat (600 * bk + v)) (mem W (MA S o (Int32.ofNat p) (-1) (8200 * bk) β J.2.2)) = some (mem W (MA S o (Int32.ofNat y.1) (-1) (8200 * bk) β y.2.1.2.2)) := q
        have ny : y.2.2.1 = J.2.2.length ∧ y.2.2.1 + y.2.2.2 = y.2.1.2.2.length := by
          unfold nameR at hq
          split at hq
          · cases hs2 : stR s p with
            | inl z => rw [hs2] at hq; exact absurd hq (by simp [sB])
            | inr r =>
              rw [hs2] at hq
              have hq : (if dupB J v r.1 = true then .inl p else if cd s (skb s r.2) = 58 then .inr (skb s (skb s r.2 + 1), (J.1, J.2.1, J.2.2 ++ r.1), J.2.2.length, r.1.length) else .inl (skb s r.2)) = Sum.inr y := hq
              split at hq
              · exact absurd hq (by simp)
              · split at hq
                · have e := (Sum.inr.inj hq).symm
                  subst e
                  exact ⟨rfl, by show J.2.2.length + r.1.length = (J.2.2 ++ r.1).length; rw [List.length_append]⟩
                · exact absurd hq (by simp)
          · exact absurd hq (by simp)
        rw [q, bO_s]
        exact vt y.1 y.2.2.1 y.2.2.2 y.2.1 _ (by omega) k2 k4 k5 k3 ny.1 (Or.inl ny.2.symm) rfl (fun _ => ny.2)
end MRV
