/-! TEXTS OF VALUES: the grammar. A table: how many values, of each field (1 kind, 2 one more than who it is in, 3 place, 4 start, 5 how many inside, 6 7 where and how many bytes it says, 8 9 its name) and the pool. -/
abbrev JT : Type := Nat × (Nat → Nat → Nat) × List UInt8
def kdB (c : Nat) : Nat := if c = 34 then 4 else if c = 91 then 5 else if c = 102 then 1 else if c = 110 then 0 else if c = 116 then 2 else if c = 123 then 6 else if c = 45 then 3 else if c < 48 then 7 else if 57 < c then 7 else 3
def wdB (kd : Nat) : List UInt8 := if kd = 0 then str 7 else if kd = 1 then str 8 else str 9
def bgC (T : Nat → Nat → Nat) (kd p op pl na nm k : Nat) : Nat := if k = 1 then kd else if k = 2 then op else if k = 3 then (if op = 0 then 0 else T 5 (op - 1)) else if k = 4 then p else if k = 5 then 0 else if k = 6 then pl else if k = 7 then 0 else if k = 8 then na else nm
def bgT (T : Nat → Nat → Nat) (n kd p op pl na nm : Nat) : Nat → Nat → Nat := fun k i => if i = n then bgC T kd p op pl na nm k else if k = 5 ∧ i + 1 = op then T 5 i + 1 else T k i
def upT (T : Nat → Nat → Nat) (k i v : Nat) : Nat → Nat → Nat := fun k' i' => if k' = k ∧ i' = i then v else T k' i'
def bgn (J : JT) (kd p op na nm : Nat) : JT := (J.1 + 1, bgT J.2.1 J.1 kd p op J.2.2.length na nm, J.2.2)
def snm (J : JT) (i : Nat) (bs : List UInt8) : JT := (J.1, upT J.2.1 7 i bs.length, J.2.2 ++ bs)
def dupB (J : JT) (v : Nat) (bs : List UInt8) : Bool := (List.range J.1).any fun k => decide (v < k) && (decide (J.2.1 2 k = v + 1) && (decide (J.2.1 9 k = bs.length) && decide (seg (J.2.2 ++ bs) (J.2.1 8 k) bs.length = bs)))
def nameR (s : List UInt8) (p : Nat) (J : JT) (v : Nat) : Nat ⊕ (Nat × JT × Nat × Nat) := if cd s p = 34 then sB (stR s p) (fun y => if dupB J v y.1 = true then .inl p else if cd s (skb s y.2) = 58 then .inr (skb s (skb s y.2 + 1), (J.1, J.2.1, J.2.2 ++ y.1), J.2.2.length, y.1.length) else .inl (skb s y.2)) else .inl p
def clB (obj : Bool) : Nat := if obj = true then 125 else 93
theorem clB_ne (obj : Bool) : clB obj ≠ 0 := by cases obj <;> decide
def lpE (s : List UInt8) (cl : Nat) (rec : Nat → JT → Nat ⊕ (Nat × JT)) (z : Nat × JT) : Nat ⊕ (Nat × JT) := if cd s (skb s z.1) = 44 then rec (skb s (skb s z.1 + 1)) z.2 else if cd s (skb s z.1) = cl then .inr (skb s z.1 + 1, z.2) else .inl (skb s z.1)
def lp (s : List UInt8) (obj : Bool) (v : Nat) (rvd : Nat → JT → Nat → Nat → Nat ⊕ (Nat × JT)) : Nat → Nat → JT → Nat ⊕ (Nat × JT)
  | 0, p, _ => .inl p
  | f + 1, p, J => sB (if obj then nameR s p J v else .inr (p, J, 0, 0)) fun y => sB (rvd y.1 y.2.1 y.2.2.1 y.2.2.2) fun z => lpE s (clB obj) (lp s obj v rvd f) z
def mnR (s : List UInt8) (obj : Bool) (v : Nat) (rvd : Nat → JT → Nat → Nat → Nat ⊕ (Nat × JT)) (p : Nat) (J : JT) : Nat ⊕ (Nat × JT) := if cd s (skb s p) = (clB obj) then .inr (skb s p + 1, J) else lp s obj v rvd (s.length + 1) (skb s p) J
def rv (s : List UInt8) : Nat → Nat → JT → Nat → Nat → Nat → Nat → Nat ⊕ (Nat × JT)
  | 0, p, _, _, _, _, _ => .inl p
  | d + 1, p, J, op, dep, na, nm => if kdB (cd s p) = 7 ∨ 600 ≤ J.1 ∨ (5 ≤ kdB (cd s p) ∧ 40 ≤ dep) then .inl p
    else if kdB (cd s p) < 3 then sB (wdR s (wdB (kdB (cd s p))) p) fun q => .inr (q, bgn J (kdB (cd s p)) p op na nm)
    else if kdB (cd s p) = 3 then sB (nmS s p (nmR s p)) fun y => .inr (y.2, snm (bgn J 3 p op na nm) J.1 y.1)
    else if kdB (cd s p) = 4 then sB (stR s p) fun y => .inr (y.2, snm (bgn J 4 p op na nm) J.1 y.1)
    else mnR s (decide (kdB (cd s p) = 6)) J.1 (fun p' J' na' nm' => rv s d p' J' (J.1 + 1) (dep + 1) na' nm') (p + 1) (bgn J (kdB (cd s p)) p op na nm)
def rdT (s : List UInt8) : Nat ⊕ JT := sB (rv s 45 (skb s 0) (0, (fun _ _ => 0), []) 0 0 0 0) fun y => if skb s y.1 < s.length then .inl (skb s y.1) else .inr y.2
/-! what holds of a table -/
def JW (s : List UInt8) (p : Nat) (J : JT) : Prop := J.2.2.length ≤ p ∧ p ≤ s.length ∧ J.1 ≤ 600 ∧ ∀ i, i < J.1 → J.2.1 1 i ≤ 6 ∧ J.2.1 2 i ≤ i ∧ J.2.1 3 i ≤ J.1 ∧ J.2.1 4 i ≤ s.length ∧ J.2.1 5 i ≤ J.1 ∧ J.2.1 6 i + J.2.1 7 i ≤ J.2.2.length ∧ J.2.1 8 i + J.2.1 9 i ≤ J.2.2.length
/-- what a table keeps when values come behind it, in a value op - 1 -/
def JK (op : Nat) (J J' : JT) : Prop := J.1 ≤ J'.1 ∧ (∀ k i, i < J.1 → (k ≠ 5 ∨ i + 1 ≠ op) → J'.2.1 k i = J.2.1 k i) ∧ ∃ bs, J'.2.2 = J.2.2 ++ bs
theorem JK.refl (op : Nat) (J : JT) : JK op J J := ⟨Nat.le_refl _, fun _ _ _ _ => rfl, [], (List.append_nil _).symm⟩
theorem JK.trans {op : Nat} {J J1 J2 : JT} (h1 : JK op J J1) (h2 : JK op J1 J2) : JK op J J2 := by
  obtain ⟨a1, a2, b1, a3⟩ := h1
  obtain ⟨c1, c2, b2, c3⟩ := h2
  exact ⟨Nat.le_trans a1 c1, fun k i hi hk => (c2 k i (by omega) hk).trans (a2 k i hi hk), b1 ++ b2, by rw [c3, a3, List.append_assoc]⟩
theorem JW.mono {s : List UInt8} {p q : Nat} {J : JT} (h : JW s p J) (h1 : p ≤ q) (h2 : q ≤ s.length) : JW s q J := ⟨Nat.le_trans h.1 h1, h2, h.2.2⟩
theorem bgT_n {T : Nat → Nat → Nat} {n kd p op pl na nm k : Nat} : bgT T n kd p op pl na nm k n = bgC T kd p op pl na nm k := if_pos rfl
theorem bgT_o {T : Nat → Nat → Nat} {n kd p op pl na nm k i : Nat} (h : i ≠ n) (h2 : k ≠ 5 ∨ i + 1 ≠ op) : bgT T n kd p op pl na nm k i = T k i := by
  unfold bgT
  rw [if_neg h, if_neg (by omega)]
theorem bgn_W {s : List UInt8} {p kd op na nm : Nat} {J : JT} (h : JW s p J) (hn : J.1 < 600) (hk : kd ≤ 6) (ho : op ≤ J.1) (hm : na + nm ≤ J.2.2.length) : JW s p (bgn J kd p op na nm) := by
  obtain ⟨h1, h2, h3, h4⟩ := h
  refine ⟨h1, h2, by show J.1 + 1 ≤ 600; omega, fun i hi => ?_⟩
  have hi : i < J.1 + 1 := hi
  show bgT J.2.1 J.1 kd p op J.2.2.length na nm 1 i ≤ 6 ∧ bgT J.2.1 J.1 kd p op J.2.2.length na nm 2 i ≤ i ∧ bgT J.2.1 J.1 kd p op J.2.2.length na nm 3 i ≤ J.1 + 1 ∧ bgT J.2.1 J.1 kd p op J.2.2.length na nm 4 i ≤ s.length ∧ bgT J.2.1 J.1 kd p op J.2.2.length na nm 5 i ≤ J.1 + 1 ∧ bgT J.2.1 J.1 kd p op J.2.2.length na nm 6 i + bgT J.2.1 J.1 kd p op J.2.2.length na nm 7 i ≤ J.2.2.length ∧ bgT J.2.1 J.1 kd p op J.2.2.length na nm 8 i + bgT J.2.1 J.1 kd p op J.2.2.length na nm 9 i ≤ J.2.2.length
  by_cases e : i = J.1
  · subst e
    simp only [bgT_n]
    refine ⟨hk, ho, ?_, h2, Nat.zero_le _, by show J.2.2.length + 0 ≤ _; omega, hm⟩
    show (if op = 0 then 0 else J.2.1 5 (op - 1)) ≤ _
    split
    · omega
    · have := (h4 (op - 1) (by omega)).2.2.2.2.1
      omega
  · have hj := h4 i (by omega)
    have b5 : bgT J.2.1 J.1 kd p op J.2.2.length na nm 5 i ≤ J.1 + 1 := by
      unfold bgT
      rw [if_neg e]
      split <;> omega
    rw [bgT_o (k := 1) e (by omega), bgT_o (k := 2) e (by omega), bgT_o (k := 3) e (by omega), bgT_o (k := 4) e (by omega), bgT_o (k := 6) e (by omega), bgT_o (k := 7) e (by omega), bgT_o (k := 8) e (by omega), bgT_o (k := 9) e (by omega)]
    omega
theorem bgn_K {kd p op na nm : Nat} {J : JT} : JK op J (bgn J kd p op na nm) := ⟨Nat.le_succ _, fun k i hi hk => bgT_o (by omega) hk, [], (List.append_nil _).symm⟩
theorem snm_W {s : List UInt8} {p q i : Nat} {bs : List UInt8} {J : JT} (h : JW s p J) (hq : q ≤ s.length) (hl : J.2.2.length + bs.length ≤ q) (h6 : J.2.1 6 i = J.2.2.length) : JW s q (snm J i bs) := by
  obtain ⟨h1, h2, h3, h4⟩ := h
  refine ⟨by show (J.2.2 ++ bs).length ≤ q; rw [List.length_append]; exact hl, hq, h3, fun j hj => ?_⟩
  have hj := h4 j hj
  show upT J.2.1 7 i bs.length 1 j ≤ 6 ∧ upT J.2.1 7 i bs.length 2 j ≤ j ∧ upT J.2.1 7 i bs.length 3 j ≤ J.1 ∧ upT J.2.1 7 i bs.length 4 j ≤ s.length ∧ upT J.2.1 7 i bs.length 5 j ≤ J.1 ∧ upT J.2.1 7 i bs.length 6 j + upT J.2.1 7 i bs.length 7 j ≤ (J.2.2 ++ bs).length ∧ upT J.2.1 7 i bs.length 8 j + upT J.2.1 7 i bs.length 9 j ≤ (J.2.2 ++ bs).length
  unfold upT
  rw [List.length_append]
  simp only [show (1 = 7) = False by decide, show (2 = 7) = False by decide, show (3 = 7) = False by decide, show (4 = 7) = False by decide, show (5 = 7) = False by decide, show (6 = 7) = False by decide, show (8 = 7) = False by decide, show (9 = 7) = False by decide, false_and, if_false, true_and]
  refine ⟨hj.1, hj.2.1, hj.2.2.1, hj.2.2.2.1, hj.2.2.2.2.1, ?_, by omega⟩
  split
  · rename_i e
    rw [e, h6]
    omega
  · omega
theorem snm_K {op i : Nat} {bs : List UInt8} {J J0 : JT} (h : JK op J0 J) (hi : J0.1 ≤ i) : JK op J0 (snm J i bs) := by
  obtain ⟨a1, a2, b1, a3⟩ := h
  refine ⟨a1, fun k j hj hk => ?_, b1 ++ bs, by show J.2.2 ++ bs = _; rw [a3, List.append_assoc]⟩
  show upT J.2.1 7 i bs.length k j = _
  unfold upT
  rw [if_neg (by omega), a2 k j hj hk]
theorem kdB_le (c : Nat) : kdB c ≤ 7 := by
  unfold kdB
  repeat' split
  all_goals omega
theorem kdB_0 : kdB 0 = 7 := rfl
theorem nmS_ok {s : List UInt8} {p q : Nat} {bs : List UInt8} (h : nmS s p (nmR s p) = .inr (bs, q)) : p < q ∧ q ≤ s.length ∧ bs.length = q - p ∧ bs = seg s p (q - p) ∧ nmR s p = .inr q := by
  unfold nmS at h
  cases hn : nmR s p with
  | inl y => rw [hn] at h; exact absurd h (by simp [sB])
  | inr y =>
    rw [hn] at h
    have k := nmR_ok hn
    have := Sum.inr.inj h
    have e1 := congrArg Prod.fst this
    have e2 := congrArg Prod.snd this
    simp only at e1 e2
    subst e2
    exact ⟨k.1, k.2, by rw [← e1, seg_len (by omega)], e1.symm, rfl⟩
theorem nameR_ok {s : List UInt8} {p v : Nat} {J : JT} {y : Nat × JT × Nat × Nat} (hw : JW s p J) (h : nameR s p J v = .inr y) : p < y.1 ∧ JW s y.1 y.2.1 ∧ y.2.2.1 + y.2.2.2 ≤ y.2.1.2.2.length ∧ y.2.1.1 = J.1 ∧ y.2.1.2.1 = J.2.1 ∧ ∃ bs, y.2.1.2.2 = J.2.2 ++ bs := by
  unfold nameR at h
  split at h
  · cases hs : stR s p with
    | inl q => rw [hs] at h; exact absurd h (by simp [sB])
    | inr z =>
      obtain ⟨bs, q⟩ := z
      rw [hs] at h
      have k := stR_ok hs
      have h : (if dupB J v bs = true then .inl p else if cd s (skb s q) = 58 then .inr (skb s (skb s q + 1), (J.1, J.2.1, J.2.2 ++ bs), J.2.2.length, bs.length) else .inl (skb s q)) = Sum.inr y := h
      split at h
      · exact absurd h (by simp)
      · split at h
        · rename_i hc
          have hi := cd_in (s := s) (p := skb s q) (by omega)
          have e := (Sum.inr.inj h).symm
          subst e
          have l1 := skb_le s q
          have l2 := skb_le s (skb s q + 1)
          have l3 := skb_len (s := s) (p := skb s q + 1) (by omega)
          obtain ⟨h1, h2, h3, h4⟩ := hw
          refine ⟨by show p < skb s (skb s q + 1); omega, ⟨by show (J.2.2 ++ bs).length ≤ skb s (skb s q + 1); rw [List.length_append]; omega, l3, h3, fun i hi => ?_⟩, by show J.2.2.length + bs.length ≤ (J.2.2 ++ bs).length; rw [List.length_append]; omega, rfl, rfl, bs, rfl⟩
          have hj := h4 i hi
          show J.2.1 1 i ≤ 6 ∧ J.2.1 2 i ≤ i ∧ J.2.1 3 i ≤ J.1 ∧ J.2.1 4 i ≤ s.length ∧ J.2.1 5 i ≤ J.1 ∧ J.2.1 6 i + J.2.1 7 i ≤ (J.2.2 ++ bs).length ∧ J.2.1 8 i + J.2.1 9 i ≤ (J.2.2 ++ bs).length
          rw [List.length_append]
          omega
        · exact absurd h (by simp)
  · exact absurd h (by simp)
def RVok (s : List UInt8) (rvd : Nat → JT → Nat → Nat → Nat ⊕ (Nat × JT)) (v : Nat) : Prop := ∀ p J na nm q J', JW s p J → v < J.1 → na + nm ≤ J.2.2.length → rvd p J na nm = .inr (q, J') → p < q ∧ JW s q J' ∧ JK (v + 1) J J' ∧ J.1 < J'.1
theorem lp_ok {s : List UInt8} {obj : Bool} {v : Nat} {rvd : Nat → JT → Nat → Nat → Nat ⊕ (Nat × JT)} (hr : RVok s rvd v) : ∀ {f p q : Nat} {J J' : JT}, JW s p J → v < J.1 → lp s obj v rvd f p J = .inr (q, J') → p < q ∧ JW s q J' ∧ JK (v + 1) J J' := by
  intro f
  induction f with
  | zero => exact fun _ _ h => absurd h (by simp [lp])
  | succ f ih =>
    intro p q J J' hw hv h
    have h : (sB (if obj then nameR s p J v else .inr (p, J, 0, 0)) fun y => sB (rvd y.1 y.2.1 y.2.2.1 y.2.2.2) fun z => lpE s (clB obj) (lp s obj v rvd f) z) = .inr (q, J') := h
    have hy : ∃ y : Nat × JT × Nat × Nat, (if obj then nameR s p J v else .inr (p, J, 0, 0)) = .inr y ∧ p ≤ y.1 ∧ JW s y.1 y.2.1 ∧ y.2.2.1 + y.2.2.2 ≤ y.2.1.2.2.length ∧ y.2.1.1 = J.1 ∧ y.2.1.2.1 = J.2.1 ∧ ∃ bs, y.2.1.2.2 = J.2.2 ++ bs := by
      cases obj with
      | false => exact ⟨(p, J, 0, 0), rfl, Nat.le_refl _, hw, Nat.zero_le _, rfl, rfl, [], (List.append_nil _).symm⟩
      | true =>
        cases hn : nameR s p J v with
        | inl y =>
          rw [show (if true = true then nameR s p J v else .inr (p, J, 0, 0)) = nameR s p J v from rfl, hn] at h
          exact absurd h (by simp [sB])
        | inr y =>
          have k := nameR_ok hw hn
          exact ⟨y, rfl, by omega, k.2⟩
    obtain ⟨y, e1, l1, w1, m1, n1, t1, b1, p1⟩ := hy
    rw [e1] at h
    have h : (sB (rvd y.1 y.2.1 y.2.2.1 y.2.2.2) fun z => lpE s (clB obj) (lp s obj v rvd f) z) = .inr (q, J') := h
    cases hz : rvd y.1 y.2.1 y.2.2.1 y.2.2.2 with
    | inl x => rw [hz] at h; exact absurd h (by simp [sB])
    | inr z =>
      obtain ⟨z1, z2⟩ := z
      rw [hz] at h
      obtain ⟨l2, w2, k2, n2⟩ := hr _ _ _ _ _ _ w1 (by omega) m1 hz
      have kk : JK (v + 1) J z2 := by
        obtain ⟨c1, c2, b2, c3⟩ := k2
        refine ⟨by omega, fun k i hi hk => ?_, b1 ++ b2, by rw [c3, p1, List.append_assoc]⟩
        rw [c2 k i (by omega) hk, t1]
      have l3 := skb_le s z1
      have h : (if cd s (skb s z1) = 44 then lp s obj v rvd f (skb s (skb s z1 + 1)) z2 else if cd s (skb s z1) = (clB obj) then .inr (skb s z1 + 1, z2) else .inl (skb s z1)) = Sum.inr (q, J') := h
      split at h
      · rename_i hc
        have hi := cd_in (s := s) (p := skb s z1) (by omega)
        have l4 := skb_le s (skb s z1 + 1)
        have l5 := skb_len (s := s) (p := skb s z1 + 1) (by omega)
        obtain ⟨a1, a2, a3⟩ := ih (w2.mono (q := skb s (skb s z1 + 1)) (by omega) l5) (by omega) h
        exact ⟨by omega, a2, kk.trans a3⟩
      · split at h
        · rename_i hc
          have hi := cd_in (s := s) (p := skb s z1) (by rw [hc]; exact clB_ne _)
          have := Sum.inr.inj h
          have g1 := congrArg Prod.fst this
          have g2 := congrArg Prod.snd this
          simp only at g1 g2
          rw [← g1, ← g2]
          exact ⟨by omega, w2.mono (by omega) (by omega), kk⟩
        · exact absurd h (by simp)
theorem rv_ok {s : List UInt8} : ∀ {d p op dep na nm q : Nat} {J J' : JT}, JW s p J → op ≤ J.1 → na + nm ≤ J.2.2.length → rv s d p J op dep na nm = .inr (q, J') → p < q ∧ JW s q J' ∧ JK op J J' ∧ J.1 < J'.1 := by
  intro d
  induction d with
  | zero => exact fun _ _ _ h => absurd h (by simp [rv])
  | succ d ih =>
    intro p op dep na nm q J J' hw ho hm h
    rw [rv] at h
    split at h
    · exact absurd h (by simp)
    · rename_i hbad
      have hk := kdB_le (cd s p)
      have hi := cd_in (s := s) (p := p) (fun e => hbad (Or.inl (by rw [e]; rfl)))
      have hw1 : ∀ kd, kd ≤ 6 → JW s p (bgn J kd p op na nm) := fun kd hkd => bgn_W hw (by omega) hkd ho hm
      split at h
      · cases h1 : wdR s (wdB (kdB (cd s p))) p with
        | inl x => rw [h1] at h; exact absurd h (by simp [sB])
        | inr x =>
          rw [h1] at h
          have wz : (∀ c ∈ wdB (kdB (cd s p)), c.toNat ≠ 0) ∧ 0 < (wdB (kdB (cd s p))).length := by
            unfold wdB
            split
            · decide
            · split <;> decide
          have k1 := wdR_ok wz.1 (by omega) h1
          have := Sum.inr.inj h
          have g1 := congrArg Prod.fst this
          have g2 := congrArg Prod.snd this
          simp only at g1 g2
          rw [← g1, ← g2]
          exact ⟨by omega, (hw1 _ (by omega)).mono (by omega) k1.2, bgn_K, Nat.lt_succ_self _⟩
      · split at h
        · cases h1 : nmS s p (nmR s p) with
          | inl x => rw [h1] at h; exact absurd h (by simp [sB])
          | inr x =>
            obtain ⟨bs, x⟩ := x
            rw [h1] at h
            have k1 := nmS_ok h1
            have := Sum.inr.inj h
            have g1 := congrArg Prod.fst this
            have g2 := congrArg Prod.snd this
            simp only at g1 g2
            rw [← g1, ← g2]
            have w := hw1 3 (by omega)
            exact ⟨by omega, snm_W w k1.2.1 (by have := hw.1; show J.2.2.length + bs.length ≤ x; omega) bgT_n, snm_K bgn_K (Nat.le_refl _), Nat.lt_succ_self _⟩
        · split at h
          · cases h1 : stR s p with
            | inl x => rw [h1] at h; exact absurd h (by simp [sB])
            | inr x =>
              obtain ⟨bs, x⟩ := x
              rw [h1] at h
              have k1 := stR_ok h1
              have := Sum.inr.inj h
              have g1 := congrArg Prod.fst this
              have g2 := congrArg Prod.snd this
              simp only at g1 g2
              rw [← g1, ← g2]
              have w := hw1 4 (by omega)
              exact ⟨by omega, snm_W w k1.2 (by have := hw.1; show J.2.2.length + bs.length ≤ x; omega) bgT_n, snm_K bgn_K (Nat.le_refl _), Nat.lt_succ_self _⟩
          · have w := hw1 (kdB (cd s p)) (by omega)
            have l1 := skb_le s (p + 1)
            have l2 := skb_len (s := s) (p := p + 1) (by omega)
            have fin : ∀ J2, JK (J.1 + 1) (bgn J (kdB (cd s p)) p op na nm) J2 → JK op J J2 ∧ J.1 < J2.1 := by
              intro J2 k2
              obtain ⟨c1, c2, b2, c3⟩ := k2
              have c1 : J.1 + 1 ≤ J2.1 := c1
              refine ⟨⟨by omega, fun k i hi hk => ?_, b2, c3⟩, by omega⟩
              rw [c2 k i (by show i < J.1 + 1; omega) (by omega)]
              exact bgT_o (by omega) hk
            unfold mnR at h
            split at h
            · rename_i hc
              have hi2 := cd_in (s := s) (p := skb s (p + 1)) (by rw [hc]; exact clB_ne _)
              have := Sum.inr.inj h
              have g1 := congrArg Prod.fst this
              have g2 := congrArg Prod.snd this
              simp only at g1 g2
              rw [← g1, ← g2]
              exact ⟨by omega, w.mono (by omega) (by omega), bgn_K, Nat.lt_succ_self _⟩
            · obtain ⟨a1, a2, a3⟩ := lp_ok (v := J.1) (fun p' J2 na' nm' q' J3 hw' hv' hm' hr' => ih hw' (by omega) hm' hr') (w.mono (by omega) l2) (Nat.lt_succ_self _) h
              exact ⟨by omega, a2, fin _ a3⟩
