/-! VALUES WRITTEN: the tree in a table, with what it says when written -/
def scV (T : Nat → Nat → Nat) (pl : List UInt8) (v : Nat) : List UInt8 := if T 1 v = 0 then str 12 else if T 1 v = 1 then str 13 else if T 1 v = 2 then str 14 else if T 1 v = 3 then seg pl (T 6 v) (T 7 v) else strP (seg pl (T 6 v) (T 7 v))
def opV (T : Nat → Nat → Nat) (v : Nat) : UInt8 := if T 1 v = 6 then 123 else 91
def clV (T : Nat → Nat → Nat) (v : Nat) : UInt8 := if T 1 v = 6 then 125 else 93
def nmV (T : Nat → Nat → Nat) (pl : List UInt8) (v k : Nat) : List UInt8 := if T 1 v = 6 then strP (seg pl (T 8 k) (T 9 k)) ++ [58] else []
def spV (n : Nat) : List UInt8 := if n = 0 then [] else [44]
def kdO (R : Nat → Nat → List UInt8 → Prop) (T : Nat → Nat → Nat) (pl : List UInt8) (v : Nat) : Nat → Nat → Nat → Nat → List UInt8 → Prop
  | 0, k, e, _, L => k = e ∧ L = []
  | r + 1, k, e, n, L => T 2 k = v + 1 ∧ T 3 k = n ∧ ∃ k' L1 L2, k < k' ∧ k' ≤ e ∧ R k k' L1 ∧ kdO R T pl v r k' e (n + 1) L2 ∧ L = (spV n ++ nmV T pl v k) ++ (L1 ++ L2)
def ouV (T : Nat → Nat → Nat) (pl : List UInt8) : Nat → Nat → Nat → List UInt8 → Prop
  | 0, _, _, _ => False
  | d + 1, v, e, L => (T 1 v < 5 ∧ e = v + 1 ∧ L = scV T pl v) ∨ (5 ≤ T 1 v ∧ v < e ∧ ∃ L', kdO (ouV T pl d) T pl v (T 5 v) (v + 1) e 0 L' ∧ L = opV T v :: (L' ++ [clV T v]))
theorem kdO_le {R : Nat → Nat → List UInt8 → Prop} {T : Nat → Nat → Nat} {pl : List UInt8} {v : Nat} : ∀ {r k e n : Nat} {L : List UInt8}, kdO R T pl v r k e n L → k ≤ e := by
  intro r
  induction r with
  | zero => exact fun h => Nat.le_of_eq h.1
  | succ r ih =>
    intro k e n L h
    obtain ⟨_, _, k', L1, L2, h1, h2, _⟩ := h
    omega
theorem ouV_lt {T : Nat → Nat → Nat} {pl : List UInt8} {d v e : Nat} {L : List UInt8} (h : ouV T pl d v e L) : v < e := by
  cases d with
  | zero => exact absurd h id
  | succ d =>
    rcases h with ⟨_, h, _⟩ | ⟨_, h, _⟩ <;> omega
/-- tables that say the same of some rows, a pool that has grown -/
def smT (T T' : Nat → Nat → Nat) (pl : List UInt8) (i : Nat) : Prop := (∀ k, T' k i = T k i) ∧ T 6 i + T 7 i ≤ pl.length ∧ T 8 i + T 9 i ≤ pl.length
theorem scV_t {T T' : Nat → Nat → Nat} {pl bs : List UInt8} {v : Nat} (h : smT T T' pl v) : scV T' (pl ++ bs) v = scV T pl v := by
  unfold scV
  rw [h.1 1, h.1 6, h.1 7, seg_app h.2.1]
theorem kdO_t {R R' : Nat → Nat → List UInt8 → Prop} {T T' : Nat → Nat → Nat} {pl bs : List UInt8} {v : Nat} (h1 : T' 1 v = T 1 v) : ∀ {r k e n : Nat} {L : List UInt8}, (∀ i, k ≤ i → i < e → smT T T' pl i) → (∀ a b L, k ≤ a → b ≤ e → R a b L → R' a b L) → kdO R T pl v r k e n L → kdO R' T' (pl ++ bs) v r k e n L := by
  intro r
  induction r with
  | zero => exact fun _ _ h => h
  | succ r ih =>
    intro k e n L hs hR h
    obtain ⟨a1, a2, k', L1, L2, b1, b2, b3, b4, b5⟩ := h
    have hk := hs k (Nat.le_refl _) (by omega)
    refine ⟨(hk.1 2).trans a1, (hk.1 3).trans a2, k', L1, L2, b1, b2, hR _ _ _ (Nat.le_refl _) b2 b3, ih (fun i p q => hs i (by omega) q) (fun a b L p q => hR a b L (by omega) q) b4, ?_⟩
    rw [b5]
    unfold nmV
    rw [h1, hk.1 8, hk.1 9, seg_app hk.2.2]
theorem ouV_t {T T' : Nat → Nat → Nat} {pl bs : List UInt8} : ∀ {d v e : Nat} {L : List UInt8}, (∀ i, v ≤ i → i < e → smT T T' pl i) → ouV T pl d v e L → ouV T' (pl ++ bs) d v e L := by
  intro d
  induction d with
  | zero => exact fun _ h => h
  | succ d ih =>
    intro v e L hs h
    have hv := hs v (Nat.le_refl _) (ouV_lt h)
    rcases h with ⟨a, b, c⟩ | ⟨a, b, L', c, d⟩
    · exact Or.inl ⟨by rw [hv.1 1]; exact a, b, by rw [scV_t hv]; exact c⟩
    · refine Or.inr ⟨by rw [hv.1 1]; exact a, b, L', ?_, ?_⟩
      · rw [hv.1 5]
        exact kdO_t (hv.1 1) (fun i p q => hs i (by omega) q) (fun a b L p q => ih (fun i p' q' => hs i (by omega) (by omega))) c
      · rw [d]
        unfold opV clV
        rw [hv.1 1]
theorem kdO_R {R R' : Nat → Nat → List UInt8 → Prop} {T : Nat → Nat → Nat} {pl : List UInt8} {v : Nat} (hR : ∀ a b L, R a b L → R' a b L) : ∀ {r k e n : Nat} {L : List UInt8}, kdO R T pl v r k e n L → kdO R' T pl v r k e n L := by
  intro r
  induction r with
  | zero => exact fun h => h
  | succ r ih =>
    intro k e n L h
    obtain ⟨a1, a2, k', L1, L2, b1, b2, b3, b4, b5⟩ := h
    exact ⟨a1, a2, k', L1, L2, b1, b2, hR _ _ _ b3, ih b4, b5⟩
theorem ouV_s {T : Nat → Nat → Nat} {pl : List UInt8} : ∀ {d v e : Nat} {L : List UInt8}, ouV T pl d v e L → ouV T pl (d + 1) v e L := by
  intro d
  induction d with
  | zero => exact fun h => absurd h id
  | succ d ih =>
    intro v e L h
    rcases h with h | ⟨a, b, L', c, d⟩
    · exact Or.inl h
    · exact Or.inr ⟨a, b, L', kdO_R (fun _ _ _ => ih) c, d⟩
/-- all that lies behind a value in it is in it or in what is in it -/
theorem kdO_in {R : Nat → Nat → List UInt8 → Prop} {T : Nat → Nat → Nat} {pl : List UInt8} {v : Nat} (hR : ∀ a b L, R a b L → ∀ i, a < i → i < b → a + 1 ≤ T 2 i) : ∀ {r k e n : Nat} {L : List UInt8}, v < k → kdO R T pl v r k e n L → ∀ i, k ≤ i → i < e → v + 1 ≤ T 2 i := by
  intro r
  induction r with
  | zero =>
    intro k e n L _ h i h1 h2
    have := h.1
    omega
  | succ r ih =>
    intro k e n L hv h i h1 h2
    obtain ⟨a1, a2, k', L1, L2, b1, b2, b3, b4, b5⟩ := h
    by_cases e1 : i = k
    · rw [e1, a1]
      exact Nat.le_refl _
    · by_cases e2 : i < k'
      · have := hR _ _ _ b3 i (by omega) e2
        omega
      · exact ih (by omega) b4 i (by omega) h2
theorem ouV_in {T : Nat → Nat → Nat} {pl : List UInt8} : ∀ {d v e : Nat} {L : List UInt8}, ouV T pl d v e L → ∀ i, v < i → i < e → v + 1 ≤ T 2 i := by
  intro d
  induction d with
  | zero => exact fun h => absurd h id
  | succ d ih =>
    intro v e L h i h1 h2
    rcases h with ⟨_, h, _⟩ | ⟨a, b, L', c, d⟩
    · omega
    · exact kdO_in (fun a b L h => ih h) (Nat.lt_succ_self v) c i h1 h2
/-- every value of a tree is one -/
theorem kdO_at {R : Nat → Nat → List UInt8 → Prop} {T : Nat → Nat → Nat} {pl : List UInt8} {v N : Nat} : ∀ {r k e n : Nat} {L : List UInt8}, v < k → (e = N ∨ T 2 e ≤ v) → kdO R T pl v r k e n L → ∀ i, k ≤ i → i < e → ∃ a b L', R a b L' ∧ v < a ∧ a ≤ i ∧ i < b ∧ b ≤ e ∧ (b = N ∨ T 2 b ≤ a) := by
  intro r
  induction r with
  | zero =>
    intro k e n L _ _ h i h1 h2
    have := h.1
    omega
  | succ r ih =>
    intro k e n L hv he h i h1 h2
    obtain ⟨a1, a2, k', L1, L2, b1, b2, b3, b4, b5⟩ := h
    by_cases e2 : i < k'
    · refine ⟨k, k', L1, b3, hv, h1, e2, b2, ?_⟩
      cases r with
      | zero =>
        have := b4.1
        rw [this]
        rcases he with he | he
        · exact Or.inl he
        · exact Or.inr (by omega)
      | succ r => exact Or.inr (by have := b4.1; omega)
    · exact ih (by omega) he b4 i (by omega) h2
theorem ouV_at {T : Nat → Nat → Nat} {pl : List UInt8} {N : Nat} : ∀ {d v e : Nat} {L : List UInt8}, ouV T pl d v e L → (e = N ∨ T 2 e ≤ v) → ∀ i, v ≤ i → i < e → ∃ e' L', ouV T pl d i e' L' ∧ e' ≤ e ∧ (e' = N ∨ T 2 e' ≤ i) := by
  intro d
  induction d with
  | zero => exact fun h => absurd h id
  | succ d ih =>
    intro v e L h he i h1 h2
    by_cases hv : i = v
    · rw [hv]
      exact ⟨e, L, h, Nat.le_refl _, he⟩
    · rcases h with ⟨_, h, _⟩ | ⟨a, b, L', c, d⟩
      · omega
      · obtain ⟨a', b', L2, g1, g2, g3, g4, g5, g6⟩ := kdO_at (N := N) (Nat.lt_succ_self v) he c i (by omega) h2
        obtain ⟨e', L3, g7, g8, g9⟩ := ih g1 g6 i g3 g4
        exact ⟨e', L3, ouV_s g7, by omega, g9⟩
/-! a text that was read is a tree -/
def RVt (s : List UInt8) (rvd : Nat → JT → Nat → Nat → Nat ⊕ (Nat × JT)) (v d : Nat) : Prop := ∀ p J na nm q J', JW s p J → v < J.1 → na + nm ≤ J.2.2.length → rvd p J na nm = .inr (q, J') → ∃ L, ouV J'.2.1 J'.2.2 d J.1 J'.1 L ∧ J'.2.1 2 J.1 = v + 1 ∧ J'.2.1 3 J.1 = J.2.1 5 v ∧ J'.2.1 5 v = J.2.1 5 v + 1
theorem lp_tree {s : List UInt8} {obj : Bool} {v d : Nat} {rvd : Nat → JT → Nat → Nat → Nat ⊕ (Nat × JT)} (hr : RVok s rvd v) (ht : RVt s rvd v d) : ∀ {f p q : Nat} {J J' : JT}, JW s p J → v < J.1 → lp s obj v rvd f p J = .inr (q, J') → ∃ r L, kdO (ouV J'.2.1 J'.2.2 d) J'.2.1 J'.2.2 v r J.1 J'.1 (J.2.1 5 v) L ∧ J'.2.1 5 v = J.2.1 5 v + r := by
  intro f
  induction f with
  | zero => exact fun _ _ h => absurd h (by simp [lp])
  | succ f ih =>
    intro p q J J' hw hv h
    have h : (sB (if obj then nameR s p J v else .inr (p, J, 0, 0)) fun y => sB (rvd y.1 y.2.1 y.2.2.1 y.2.2.2) fun z => lpE s (clB obj) (lp s obj v rvd f) z) = .inr (q, J') := h
    have hy : ∃ y : Nat × JT × Nat × Nat, (if obj then nameR s p J v else .inr (p, J, 0, 0)) = .inr y ∧ p ≤ y.1 ∧ JW s y.1 y.2.1 ∧ y.2.2.1 + y.2.2.2 ≤ y.2.1.2.2.length ∧ y.2.1.1 = J.1 ∧ y.2.1.2.1 = J.2.1 := by
      cases obj with
      | false => exact ⟨(p, J, 0, 0), rfl, Nat.le_refl _, hw, Nat.zero_le _, rfl, rfl⟩
      | true =>
        cases hn : nameR s p J v with
        | inl y =>
          rw [show (if true = true then nameR s p J v else .inr (p, J, 0, 0)) = nameR s p J v from rfl, hn] at h
          exact absurd h (by simp [sB])
        | inr y =>
          have k := nameR_ok hw hn
          exact ⟨y, rfl, by omega, k.2.1, k.2.2.1, k.2.2.2.1, k.2.2.2.2.1⟩
    obtain ⟨y, e1, l1, w1, m1, n1, t1⟩ := hy
    rw [e1] at h
    have h : (sB (rvd y.1 y.2.1 y.2.2.1 y.2.2.2) fun z => lpE s (clB obj) (lp s obj v rvd f) z) = .inr (q, J') := h
    cases hz : rvd y.1 y.2.1 y.2.2.1 y.2.2.2 with
    | inl x => rw [hz] at h; exact absurd h (by simp [sB])
    | inr z =>
      obtain ⟨z1, z2⟩ := z
      rw [hz] at h
      obtain ⟨l2, w2, k2, n2⟩ := hr _ _ _ _ _ _ w1 (by omega) m1 hz
      obtain ⟨L1, o1, o2, o3, o4⟩ := ht _ _ _ _ _ _ w1 (by omega) m1 hz
      rw [n1] at o1 o2 o3
      rw [t1] at o3 o4
      have l3 := skb_le s z1
      have h : (if cd s (skb s z1) = 44 then lp s obj v rvd f (skb s (skb s z1 + 1)) z2 else if cd s (skb s z1) = (clB obj) then .inr (skb s z1 + 1, z2) else .inl (skb s z1)) = Sum.inr (q, J') := h
      split at h
      · rename_i hc
        have hi := cd_in (s := s) (p := skb s z1) (by omega)
        have l4 := skb_le s (skb s z1 + 1)
        have l5 := skb_len (s := s) (p := skb s z1 + 1) (by omega)
        have w3 := w2.mono (q := skb s (skb s z1 + 1)) (by omega) l5
        obtain ⟨a1, a2, a3⟩ := lp_ok hr w3 (by omega) h
        obtain ⟨r, L2, b1, b2⟩ := ih w3 (by omega) h
        obtain ⟨c1, c2, bs, c3⟩ := a3
        have sm : ∀ i, J.1 ≤ i → i < z2.1 → smT z2.2.1 J'.2.1 z2.2.2 i := fun i g1 g2 => ⟨fun k => c2 k i g2 (Or.inr (by omega)), by have := w2.2.2.2 i g2; omega, by have := w2.2.2.2 i g2; omega⟩
        have sj := sm J.1 (Nat.le_refl _) (by omega)
        refine ⟨r + 1, _, ⟨(sj.1 2).trans o2, (sj.1 3).trans o3, z2.1, L1, L2, by omega, c1, ?_, ?_, rfl⟩, by omega⟩
        · rw [c3]
          exact ouV_t sm o1
        · rw [← o4]
          exact b1
      · split at h
        · have := Sum.inr.inj h
          have g2 := congrArg Prod.snd this
          simp only at g2
          rw [← g2]
          exact ⟨1, _, ⟨o2, o3, z2.1, L1, [], by omega, Nat.le_refl _, o1, ⟨rfl, rfl⟩, rfl⟩, o4⟩
        · exact absurd h (by simp)
theorem rv_tree {s : List UInt8} : ∀ {d p op dep na nm q : Nat} {J J' : JT}, JW s p J → op ≤ J.1 → na + nm ≤ J.2.2.length → rv s d p J op dep na nm = .inr (q, J') → ∃ L, ouV J'.2.1 J'.2.2 d J.1 J'.1 L ∧ J'.2.1 2 J.1 = op ∧ J'.2.1 3 J.1 = (if op = 0 then 0 else J.2.1 5 (op - 1)) ∧ (0 < op → J'.2.1 5 (op - 1) = J.2.1 5 (op - 1) + 1) := by
  intro d
  induction d with
  | zero => exact fun _ _ _ h => absurd h (by simp [rv])
  | succ d ih =>
    intro p op dep na nm q J J' hw ho hm h
    rw [rv] at h
    split at h
    · exact absurd h (by simp)
    · rename_i hbad
      have hk := kdB_le (cd s p)
      have hi := cd_in (s := s) (p := p) (fun e => hbad (Or.inl (by rw [e]; rfl)))
      have hw1 : ∀ kd, kd ≤ 6 → JW s p (bgn J kd p op na nm) := fun kd hkd => bgn_W hw (by omega) hkd ho hm
      have f5 : ∀ kd, 0 < op → (bgn J kd p op na nm).2.1 5 (op - 1) = J.2.1 5 (op - 1) + 1 := by
        intro kd h0
        show bgT _ _ _ _ _ _ _ _ _ _ = _
        unfold bgT
        rw [if_neg (by omega), if_pos ⟨rfl, by omega⟩]
      split at h
      · rename_i k3
        cases h1 : wdR s (wdB (kdB (cd s p))) p with
        | inl x => rw [h1] at h; exact absurd h (by simp [sB])
        | inr x =>
          rw [h1] at h
          have := Sum.inr.inj h
          have g2 := congrArg Prod.snd this
          simp only at g2
          rw [← g2]
          exact ⟨_, Or.inl ⟨by show bgT _ _ _ _ _ _ _ _ 1 _ < 5; rw [bgT_n]; show kdB (cd s p) < 5; omega, rfl, rfl⟩, bgT_n, bgT_n, f5 _⟩
      · split at h
        · cases h1 : nmS s p (nmR s p) with
          | inl x => rw [h1] at h; exact absurd h (by simp [sB])
          | inr x =>
            obtain ⟨bs, x⟩ := x
            rw [h1] at h
            have := Sum.inr.inj h
            have g2 := congrArg Prod.snd this
            simp only at g2
            rw [← g2]
            exact ⟨_, Or.inl ⟨by show bgT _ _ _ _ _ _ _ _ 1 _ < 5; rw [bgT_n]; show 3 < 5; omega, rfl, rfl⟩, bgT_n, bgT_n, f5 _⟩
        · split at h
          · cases h1 : stR s p with
            | inl x => rw [h1] at h; exact absurd h (by simp [sB])
            | inr x =>
              obtain ⟨bs, x⟩ := x
              rw [h1] at h
              have := Sum.inr.inj h
              have g2 := congrArg Prod.snd this
              simp only at g2
              rw [← g2]
              exact ⟨_, Or.inl ⟨by show bgT _ _ _ _ _ _ _ _ 1 _ < 5; rw [bgT_n]; show 4 < 5; omega, rfl, rfl⟩, bgT_n, bgT_n, f5 _⟩
          · have w := hw1 (kdB (cd s p)) (by omega)
            have l1 := skb_le s (p + 1)
            have l2 := skb_len (s := s) (p := p + 1) (by omega)
            have ex : ∃ r L, kdO (ouV J'.2.1 J'.2.2 d) J'.2.1 J'.2.2 J.1 r (J.1 + 1) J'.1 0 L ∧ J'.2.1 5 J.1 = r ∧ JK (J.1 + 1) (bgn J (kdB (cd s p)) p op na nm) J' := by
              unfold mnR at h
              split at h
              · have := Sum.inr.inj h
                have g2 := congrArg Prod.snd this
                simp only at g2
                rw [← g2]
                exact ⟨0, [], ⟨rfl, rfl⟩, bgT_n, JK.refl _ _⟩
              · have wm := w.mono (q := skb s (p + 1)) (by omega) l2
                obtain ⟨a1, a2, a3⟩ := lp_ok (v := J.1) (fun p' J2 na' nm' q' J3 hw' hv' hm' hr' => rv_ok hw' (by omega) hm' hr') wm (Nat.lt_succ_self _) h
                obtain ⟨r, L, b1, b2⟩ := lp_tree (v := J.1) (d := d) (fun p' J2 na' nm' q' J3 hw' hv' hm' hr' => rv_ok hw' (by omega) hm' hr') (fun p' J2 na' nm' q' J3 hw' hv' hm' hr' => by
                  obtain ⟨L, c1, c2, c3, c4⟩ := ih hw' (by omega) hm' hr'
                  rw [if_neg (by omega)] at c3
                  exact ⟨L, c1, c2, c3, c4 (by omega)⟩) wm (Nat.lt_succ_self _) h
                have z5 : (bgn J (kdB (cd s p)) p op na nm).2.1 5 J.1 = 0 := bgT_n
                rw [z5] at b1 b2
                exact ⟨r, L, b1, by omega, a3⟩
            obtain ⟨r, L, b1, b2, c1, c2, bs, c3⟩ := ex
            have c1 : J.1 + 1 ≤ J'.1 := c1
            have t1 : J'.2.1 1 J.1 = kdB (cd s p) := (c2 1 J.1 (Nat.lt_succ_self _) (Or.inl (by decide))).trans bgT_n
            rw [← b2] at b1
            refine ⟨_, Or.inr ⟨by omega, by omega, L, b1, rfl⟩, (c2 2 J.1 (Nat.lt_succ_self _) (Or.inl (by decide))).trans bgT_n, (c2 3 J.1 (Nat.lt_succ_self _) (Or.inl (by decide))).trans bgT_n, fun h0 => ?_⟩
            rw [c2 5 (op - 1) (by show op - 1 < J.1 + 1; omega) (Or.inr (by omega))]
            exact f5 _ h0
/-- a table of a text: each of its values is a tree -/
def JTr (J : JT) : Prop := ∀ v, v < J.1 → ∃ e L, ouV J.2.1 J.2.2 45 v e L ∧ e ≤ J.1 ∧ (e = J.1 ∨ J.2.1 2 e ≤ v)
theorem rd_R {s : List UInt8} {J : JT} (h : rdT s = .inr J) : JTr J := by
  unfold rdT at h
  have w0 : JW s (skb s 0) (0, (fun _ _ => 0), []) := ⟨Nat.zero_le _, skb_len (Nat.zero_le _), Nat.zero_le _, fun i hi => absurd hi (Nat.not_lt_zero _)⟩
  cases hv : rv s 45 (skb s 0) (0, (fun _ _ => 0), []) 0 0 0 0 with
  | inl z =>
    rw [hv] at h
    exact absurd h (by simp [sB])
  | inr z =>
    rw [hv] at h
    obtain ⟨L, k1, _⟩ := rv_tree w0 (Nat.le_refl _) (Nat.le_refl _) hv
    have h : (if skb s z.1 < s.length then Sum.inl (skb s z.1) else Sum.inr z.2 : Nat ⊕ JT) = .inr J := h
    split at h
    · exact absurd h (by simp)
    · have e := Sum.inr.inj h
      subst e
      exact fun v hv => ouV_at k1 (Or.inl rfl) v (Nat.zero_le _) hv
theorem JTr_nil {J : JT} (h : J.1 = 0) : JTr J := fun v hv => by omega
/-- how long what is written may be -/
theorem strP_len {ys : List UInt8} {n : Nat} (h : ys.length ≤ n) : (strP ys).length ≤ 6 * n + 2 := by
  have : ∀ ys : List UInt8, (ys.flatMap escF).length ≤ 6 * ys.length := by
    intro ys
    induction ys with
    | nil => exact Nat.le_refl _
    | cons y ys ih =>
      rw [List.flatMap_cons, List.length_append, List.length_cons]
      have := escF_len y
      omega
  have := this ys
  unfold strP
  rw [List.length_cons, List.length_append]
  show _ + 1 + 1 ≤ _
  omega
theorem seg_lt (pl : List UInt8) (a n : Nat) : (seg pl a n).length ≤ pl.length := by
  unfold seg
  rw [List.length_take, List.length_drop]
  omega
theorem kdO_len {R : Nat → Nat → List UInt8 → Prop} {T : Nat → Nat → Nat} {pl : List UInt8} {v : Nat} (hp : pl.length ≤ 8192) (hR : ∀ a b L, R a b L → L.length + 49156 ≤ (b - a) * 98320) : ∀ {r k e n : Nat} {L : List UInt8}, kdO R T pl v r k e n L → L.length ≤ (e - k) * 98320 := by
  intro r
  induction r with
  | zero =>
    intro k e n L h
    rw [h.2]
    exact Nat.zero_le _
  | succ r ih =>
    intro k e n L h
    obtain ⟨a1, a2, k', L1, L2, b1, b2, b3, b4, b5⟩ := h
    have i1 := ih b4
    have i2 := hR _ _ _ b3
    have s1 : (spV n).length ≤ 1 := by
      unfold spV
      split <;> decide
    have s2 : (nmV T pl v k).length ≤ 49155 := by
      unfold nmV
      split
      · rw [List.length_append]
        have := strP_len (Nat.le_trans (seg_lt pl (T 8 k) (T 9 k)) hp)
        show _ + 1 ≤ _
        omega
      · exact Nat.zero_le _
    rw [b5, List.length_append, List.length_append, List.length_append]
    omega
theorem ouV_len {T : Nat → Nat → Nat} {pl : List UInt8} (hp : pl.length ≤ 8192) : ∀ {d v e : Nat} {L : List UInt8}, ouV T pl d v e L → L.length + 49156 ≤ (e - v) * 98320 := by
  intro d
  induction d with
  | zero => exact fun h => absurd h id
  | succ d ih =>
    intro v e L h
    rcases h with ⟨a, b, c⟩ | ⟨a, b, L', c, d⟩
    · have q : L.length ≤ 49154 := by
        rw [c]
        have sl := seg_lt pl (T 6 v) (T 7 v)
        have := strP_len (Nat.le_trans sl hp)
        have w1 : (str 12).length ≤ 5 ∧ (str 13).length ≤ 5 ∧ (str 14).length ≤ 5 := by decide +kernel
        unfold scV
        repeat' split
        all_goals omega
      rw [b]
      omega
    · have := kdO_len hp (fun a b L h => ih h) c
      rw [d, List.length_cons, List.length_append]
      show _ + 1 + 1 + _ ≤ _
      omega
