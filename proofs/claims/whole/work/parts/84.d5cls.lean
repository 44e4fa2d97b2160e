/-! THE CLASS'S CALLS keep what holds between calls: json, drop, key -/
section CST4
variable {W W' : WR} {G : mG} {F : Nat} {S S' : ST} {z sl z0 s0 h : Nat} {τ t : List UInt8} {rows : Nat → List UInt8} {J : JT} {A : Nat → Option KY}
theorem WY.a (y : WY W W') (q : isA W) : isA W' := by
  obtain ⟨iT, iD, iRs, iCu, iTK, iCi, iCo, r12, r13, r14, r15, r16, r17⟩ := q
  have lo := iT.lo
  exact ⟨y.t iT, y.d iD, y.rs iRs, y.cu iCu, y.tk iTK, y.ci iCi, y.co iCo, y.rr lo (by omega) r12, y.rr lo (by omega) r13, y.rr lo (by omega) r14, y.rr lo (by omega) r15, y.rr lo (by omega) r16, y.rr lo (by omega) r17⟩
/-- each Bytes of the class is there -/
theorem allB {σ κ rk : Nat → Nat} {A' : Nat → Option KY} {z1 s1 : Nat} (cw : clsW W h) (K : KHS W S z1 s1 z0 s0 σ κ rk A') : ∀ i, i < 94 → ∃ room, isB W i room := by
  obtain ⟨⟨iT, iD, iRs, iCu, iTK, iCi, iCo, _⟩, _, t0, t1, j0, j1, j2⟩ := cw
  intro i hi
  rcases Nat.lt_or_ge i 8 with h8 | h8
  · exact ⟨_, iT.rb i h8⟩
  rcases Nat.lt_or_ge i 16 with h16 | h16
  · have : i = 8 ∨ i = 9 ∨ i = 10 ∨ i = 11 ∨ i = 12 ∨ i = 13 ∨ i = 14 ∨ i = 15 := by omega
    rcases this with rfl | rfl | rfl | rfl | rfl | rfl | rfl | rfl
    · exact ⟨_, iT.tb⟩
    · exact ⟨_, iT.sb⟩
    · exact ⟨_, iT.nb⟩
    · exact ⟨_, iT.wb⟩
    · exact ⟨_, iT.eb⟩
    · exact ⟨_, iT.pb⟩
    · exact ⟨_, t0.2.2.1⟩
    · exact ⟨_, t1.2.2.1⟩
  rcases Nat.lt_or_ge i 67 with h67 | h67
  · obtain ⟨j, hj, e⟩ : ∃ j, j ≤ 16 ∧ (i = 16 + 3 * j ∨ i = 17 + 3 * j ∨ i = 18 + 3 * j) := ⟨(i - 16) / 3, by omega, by omega⟩
    have k := (K.2.2.1 j hj).1
    rcases e with rfl | rfl | rfl
    · exact ⟨_, k.2.2.2.2.1⟩
    · exact ⟨_, k.2.2.2.2.2.1⟩
    · exact ⟨_, k.2.2.2.2.2.2⟩
  rcases Nat.lt_or_ge i 83 with h83 | h83
  · have : i = 67 ∨ i = 68 ∨ i = 69 ∨ i = 70 ∨ i = 71 ∨ i = 72 ∨ i = 73 ∨ i = 74 ∨ i = 75 ∨ i = 76 ∨ i = 77 ∨ i = 78 ∨ i = 79 ∨ i = 80 ∨ i = 81 ∨ i = 82 := by omega
    rcases this with rfl | rfl | rfl | rfl | rfl | rfl | rfl | rfl | rfl | rfl | rfl | rfl | rfl | rfl | rfl | rfl
    · exact ⟨_, iD.in.2⟩
    · exact ⟨_, iCo.2.2.2.2.2.2⟩
    · exact ⟨_, iRs.2.2.2.2.2.2.2.2.1⟩
    · exact ⟨_, iRs.2.2.2.2.2.2.2.2.2.1⟩
    · exact ⟨_, iRs.2.2.2.2.2.2.2.2.2.2.1⟩
    · exact ⟨_, iCu.bb 0 (by decide)⟩
    · exact ⟨_, iCu.bb 1 (by decide)⟩
    · exact ⟨_, iCu.bb 2 (by decide)⟩
    · exact ⟨_, iCu.bb 3 (by decide)⟩
    · exact ⟨_, iCu.b12⟩
    · exact ⟨_, iCu.b13⟩
    · exact ⟨_, iCu.b14⟩
    · exact ⟨_, iCu.b15⟩
    · exact ⟨_, j0⟩
    · exact ⟨_, j1⟩
    · exact ⟨_, j2⟩
  · by_cases e : i = 83
    · rw [e]
      exact ⟨_, iTK.2.1.2⟩
    · have := (iTK.2.2 (i - 80) (by omega) (by omega)).2
      rw [show 80 + (i - 80) = i by omega] at this
      exact ⟨_, this⟩
/-- after keys were touched -/
theorem AB.ky {L : List (Nat × Nat)} {σ κ rk σ' κ' rk' : Nat → Nat} {A0 A' : Nat → Option KY} {z1 s1 : Nat} (ab : AB W S) (cw : clsW W h) (K0 : KHS W S z sl z0 s0 σ κ rk A0) (y : WY W W') (f : frK L S S') (K : KHS W' S' z1 s1 z0 s0 σ' κ' rk' A') (hL : ∀ i room, (0, i) ∈ L → isB W i room → ∃ xs l, Byt room (S' 0 i) xs l) : AB W' S' := by
  intro i room h9 hB
  obtain ⟨r0, b0⟩ := allB cw K0 i h9
  have e := hB.one (y.b b0)
  rw [e]
  by_cases hk : i < 16 ∨ (67 ≤ i ∧ i < 94)
  · by_cases hm : (0, i) ∈ L
    · exact hL i r0 hm b0
    · rw [f 0 i (by decide) (fun _ => hk) hm]
      exact ab i r0 h9 b0
  · obtain ⟨j, hj, e2⟩ : ∃ j, j ≤ 16 ∧ (i = 16 + 3 * j ∨ i = 17 + 3 * j ∨ i = 18 + 3 * j) := ⟨(i - 16) / 3, by omega, by omega⟩
    have k := (K0.2.2.1 j hj).1
    obtain ⟨k1, k2, k3⟩ := (K.2.2.1 j hj).2.2.2.2.2.1
    rcases e2 with rfl | rfl | rfl
    · rw [b0.one k.2.2.2.2.1]; exact k1
    · rw [b0.one k.2.2.2.2.2.1]; exact k2
    · rw [b0.one k.2.2.2.2.2.2]; exact k3
theorem MoS.eqo {i n m : Nat} (d : MoS S i n m) (e : S' 6 i = S 6 i) : MoS S' i n m := by
  have q : ∀ k, lgt S' (.a 6 i k) = lgt S (.a 6 i k) := fun k => by show (S' 6 i).l k = (S 6 i).l k; rw [e]
  obtain ⟨d1, d2, d3, d4⟩ := d
  unfold MoS MoB at *
  rw [q 2, q 3, q 4, e]
  exact ⟨d1, d2, d3, d4⟩
theorem lgt_o {x : Cl} {c i : Nat} (h : ow x = (c, i)) (e : S' c i = S c i) : lgt S' x = lgt S x := by
  rcases x with ⟨c', i'⟩ | ⟨c', i', k'⟩ | ⟨c', i', k', j'⟩
  · rfl
  · have h : (c', i') = (c, i) := h
    simp only [Prod.mk.injEq] at h
    show (S' c' i').l k' = (S c' i').l k'
    rw [h.1, h.2, e]
  · have h : (c', i') = (c, i) := h
    simp only [Prod.mk.injEq] at h
    show (S' c' i').m k' j' = (S c' i').m k' j'
    rw [h.1, h.2, e]
theorem CK.frK {V : Nat → Int} (c : CK S V) (f : frK [] S S') : CK S' V := by
  have e : ∀ c i, c = 3 ∨ c = 6 → S' c i = S c i := fun c i hc => f c i (by omega) (by omega) (by simp)
  have e0 : ∀ i, 67 ≤ i → i < 94 → S' 0 i = S 0 i := fun i h1 h2 => f 0 i (by decide) (fun _ => Or.inr ⟨h1, h2⟩) (by simp)
  obtain ⟨⟨c1, c2⟩, c3⟩ := c
  refine ⟨⟨?_, fun k hk => ?_⟩, c3.1, c3.2.1, c3.2.2.1, c3.2.2.2.1, ?_, ?_⟩
  · exact c1.eqo (e 6 1 (by omega))
  · have := c2 k hk
    unfold FV at this ⊢
    rw [show lgt S' (wc k) = lgt S (wc k) from lgt_o (wc_ow k hk) (e 3 0 (by omega))]
    exact this
  · exact c3.2.2.2.2.1.eqo (e 6 2 (by omega))
  · rw [e0 72 (by omega) (by omega), e0 73 (by omega) (by omega), e0 74 (by omega) (by omega), e0 75 (by omega) (by omega), e0 79 (by omega) (by omega)]
    exact c3.2.2.2.2.2
theorem C_drop (c : CI W S z sl z0 s0 τ rows t h J A) (x : Int32) : CSt (P_X11_drop G F (W.ad (.o 11 0)) x) (drpW A x).1 W S z sl z0 s0 τ rows t J (drpW A x).2 := by
  obtain ⟨h2, cw, ⟨tb, lp, bp⟩, hτ, hr, ht, ab, ⟨V, ck⟩, ib, σ, κ, rk, K⟩ := c
  obtain ⟨S', g, f, K'⟩ := Q11_drop (G := G) (F := F) K cw.1.1.lo x
  have e : ∀ c i, c ≠ 5 → (c = 0 → i < 16) → S' c i = S c i := fun c i h5 h0 => f c i h5 (fun q => Or.inl (h0 q)) (by simp)
  exact ⟨W, S', h, g, ⟨h2, cw, ⟨by rw [e 9 h (by decide) (by omega)]; exact tb, lp, by rw [e 0 (14 + h) (by decide) (by omega)]; exact bp⟩, by rw [e 0 8 (by decide) (by decide)]; exact hτ, fun r hr' => by rw [e 0 r (by decide) (by omega)]; exact hr r hr', by rw [e 0 9 (by decide) (by decide)]; exact ht, ab.ky cw K (WY.refl W) f K' (fun i room q => absurd q (by simp)), ⟨V, ck.frK f⟩, fun x => by rw [e 1 0 (by decide) (by decide)]; exact ib x, σ, κ, rk, K'⟩, WY.refl W, fun i => e 12 i (by decide) (by omega), e 13 0 (by decide) (by decide)⟩
/-- the call key: it may make rooms -/
def CKe (p : mM → Nat → Nat → Option (Int32 × mM × Nat × Nat)) (v : Int32) (W : WR) (S : ST) (z sl z0 s0 : Nat) (τ : List UInt8) (rows : Nat → List UInt8) (t : List UInt8) (J : JT) (A : Nat → Option KY) : Prop := ∃ W' S' h' z' sl', p (mem W S) z sl = some (v, mem W' S', z', sl') ∧ CI W' S' z' sl' z0 s0 τ rows t h' J A ∧ WY W W' ∧ (∀ i, S' 12 i = S 12 i) ∧ S' 13 0 = S 13 0
theorem C_key {r : Nat} (X : Cx G F W) (hm : W.live (.o 13 0) = true) (c : CI W S z sl z0 s0 τ rows t h J A) (hr : r < 8) : CKe (P_X11_key G F (W.ad (.o 11 0)) (Int32.ofNat r)) (keyW A (rows r)).1 W S z sl z0 s0 τ rows t J (keyW A (rows r)).2 := by
  have w := c.isw
  have T2 := c.t2
  have h7 := c.h7
  obtain ⟨h2, cw, ⟨tb, lp, bp⟩, hτ, hR, ht, ab, ⟨V, ck⟩, ib, σ, κ, rk, K⟩ := c
  obtain ⟨lr, br⟩ := hR r hr
  obtain ⟨⟨iT, iD, iRs, iCu, iTK, iCi, iCo, r12, r13, r14, r15, r16, r17⟩, ⟨q7, q8, q9, l7⟩, t0, t1, j0, j1, j2⟩ := id cw
  obtain ⟨xp, lp2, bp2⟩ := ab (14 + (1 - h)) 8192 (by omega) T2.2.2.1
  obtain ⟨W', S', V', σ', κ', rk', z', sl', g, K', f, y, wz, ck', p1, p2, p3, p4⟩ := Q11_key (G := G) (F := F) (z := z) (sl := sl) X iT hm q8 q9 l7 T2 (by omega) hr br bp2 r15 r16 iRs iCu ck (ab 69 128 (by decide) iRs.2.2.2.2.2.2.2.2.1) (ab 70 128 (by decide) iRs.2.2.2.2.2.2.2.2.2.1) (ab 76 64 (by decide) iCu.b12) K
  have no : ∀ c' i, (c', i) ∈ (7, 0) :: (0, 14 + (1 - h)) :: (9, 1 - h) :: blFr → c' ≤ 11 ∧ c' ≠ 1 ∧ (c' = 9 → i = 1 - h) ∧ (c' = 0 → i = 14 + (1 - h) ∨ i = 69 ∨ i = 70 ∨ i = 76) := by
    intro c' i hm
    simp only [List.mem_cons, Prod.mk.injEq, List.not_mem_nil, or_false] at hm
    omega
  have ab' : AB W' S' := ab.ky cw K y f K' (fun i room hi hB => by
    rcases (no _ _ hi).2.2.2 rfl with e | e | e | e
    · rw [e] at hB ⊢
      rw [hB.one T2.2.2.1]
      exact p1
    · subst e
      rw [hB.one iRs.2.2.2.2.2.2.2.2.1]
      exact p2
    · subst e
      rw [hB.one iRs.2.2.2.2.2.2.2.2.2.1]
      exact p3
    · subst e
      rw [hB.one iCu.b12]
      exact p4)
  have e : ∀ c i, c ≠ 5 → (c = 0 → i < 16) → (c, i) ∉ (7, 0) :: (0, 14 + (1 - h)) :: (9, 1 - h) :: blFr → S' c i = S c i := fun c i h5 h0 hn => f c i h5 (fun q => Or.inl (h0 q)) hn
  have lo := iT.lo
  exact ⟨W', S', h, z', sl', g, ⟨h2, ⟨y.a cw.1, ⟨wz.1.trans q7, wz.2.1.trans q8, y.rr lo (by omega) q9, y.lv l7⟩, y.tx t0, y.tx t1, y.b j0, y.b j1, y.b j2⟩, ⟨by rw [e 9 h (by decide) (by omega) (fun hm => by have := (no _ _ hm).2.2.1 rfl; omega)]; exact tb, lp, by rw [e 0 (14 + h) (by decide) (by omega) (fun hm => by have := (no _ _ hm).2.2.2 rfl; omega)]; exact bp⟩, by rw [e 0 8 (by decide) (by decide) (fun hm => by have := (no _ _ hm).2.2.2 rfl; omega)]; exact hτ, fun r hr' => by rw [e 0 r (by decide) (by omega) (fun hm => by have := (no _ _ hm).2.2.2 rfl; omega)]; exact hR r hr', by rw [e 0 9 (by decide) (by decide) (fun hm => by have := (no _ _ hm).2.2.2 rfl; omega)]; exact ht, ab', ⟨V', ck'⟩, fun x => by rw [e 1 0 (by decide) (by decide) (fun hm => (no _ _ hm).2.1 rfl)]; exact ib x, σ', κ', rk', K'⟩, y, fun i => e 12 i (by decide) (by omega) (fun hm => by have := (no _ _ hm).1; omega), e 13 0 (by decide) (by decide) (fun hm => by have := (no _ _ hm).1; omega)⟩
theorem AB.sub (ab : AB W S) (hb : ∀ i, W'.live (.o 0 i) = W.live (.o 0 i) ∧ W'.live (.a 0 i 0) = W.live (.a 0 i 0) ∧ W'.r 0 i 0 = W.r 0 i 0 ∧ W'.n (.a 0 i 0) = W.n (.a 0 i 0)) : AB W' S := fun i room h9 hB => ab i room h9 (by
  obtain ⟨a, b, c, d⟩ := hb i
  exact ⟨by rw [← a]; exact hB.1, by rw [← b]; exact hB.2.1, by rw [← c]; exact hB.2.2.1, by rw [← d]; exact hB.2.2.2.1, hB.2.2.2.2⟩)
theorem C_json {r : Nat} (X : Cx G F W) (c : CI W S z sl z0 s0 τ rows t h J A) (hr : r < 8) : match rdT (rows r) with | .inl q => CSt (P_X11_json G F (W.ad (.o 11 0)) (Int32.ofNat r)) (-100 - (Int32.ofNat q)) W S z sl z0 s0 τ rows t J A | .inr J' => CSt (P_X11_json G F (W.ad (.o 11 0)) (Int32.ofNat r)) (Int32.ofNat J'.1) W S z sl z0 s0 τ rows t J' A := by
  have T2 := c.t2
  have h7 := c.h7
  obtain ⟨h2, cw, ⟨tb, lp, bp⟩, hτ, hR, ht, ab, ⟨V, ck⟩, ib, σ, κ, rk, K⟩ := c
  obtain ⟨iA, ⟨q7, q8, q9, l7⟩, t0, t1, j0, j1, j2⟩ := id cw
  have iT := iA.1
  obtain ⟨xp, lp2, bp2⟩ := ab (14 + (1 - h)) 8192 (by omega) T2.2.2.1
  obtain ⟨S', f, g⟩ := Q11_json (G := G) (F := F) (S := S) (t := h) (t2 := 1 - h) X iT q7 q8 q9 l7 T2 hr hR bp2
  have no : ∀ c' i, (c', i) ∈ [(7, 0), (0, 14 + (1 - h)), (9, 1 - h)] → c' ≤ 11 ∧ c' ≠ 1 ∧ c' ≠ 3 ∧ c' ≠ 6 ∧ c' ≠ 5 ∧ (c' = 9 → i = 1 - h) ∧ (c' = 0 → i = 14 + (1 - h)) := by
    intro c' i hm
    simp only [List.mem_cons, Prod.mk.injEq, List.not_mem_nil, or_false] at hm
    omega
  have nk : noK [(7, 0), (0, 14 + (1 - h)), (9, 1 - h)] := fun x hx => by
    obtain ⟨c', i⟩ := x
    have := no c' i hx
    exact ⟨this.2.2.2.2.1, fun e => Or.inl (by have := this.2.2.2.2.2.2 e; show i < 16; omega)⟩
  have e0 : ∀ i, i ≠ 14 + (1 - h) → S' 0 i = S 0 i := fun i hi => f 0 i (fun hm => hi ((no _ _ hm).2.2.2.2.2.2 rfl))
  have ck' : CK S' V := ck.fr f (fun x hx hm => by
    obtain ⟨c', i⟩ := x
    have q := no c' i hm
    simp only [List.mem_cons, Prod.mk.injEq, List.not_mem_nil, or_false] at hx
    omega)
  have ib' : IB S' := fun x => by rw [f 1 0 (fun hm => (no _ _ hm).2.1 rfl)]; exact ib x
  have K' := K.fm f nk
  have abk : (∃ xs l, Byt 8192 (S' 0 (14 + (1 - h))) xs l) → AB W S' := fun b => ab.keep f (fun i room hi hB => by
    have e := (no _ _ hi).2.2.2.2.2.2 rfl
    subst e
    rw [hB.one T2.2.2.1]
    exact b)
  have e12 : ∀ i, S' 12 i = S 12 i := fun i => f 12 i (fun hm => by have := (no _ _ hm).1; omega)
  have e13 : S' 13 0 = S 13 0 := f 13 0 (fun hm => by have := (no _ _ hm).1; omega)
  have y1 : WY W (WJ W r (1 - h)) := (WY.sr (Or.inl rfl)).trans (WY.sr (Or.inl rfl))
  have k1 : KHS (WJ W r (1 - h)) S' z sl z0 s0 σ κ rk A := (K'.wr (Or.inl rfl) (iT.rb r hr).1).wr (Or.inl rfl) T2.1
  cases ed : rdT (rows r) with
  | inl q =>
    rw [ed] at g
    obtain ⟨g, b⟩ := g
    refine ⟨WJ W r (1 - h), S', h, g, ⟨h2, ⟨y1.a iA, ⟨?_, ?_, ?_, l7⟩, y1.tx t0, y1.tx t1, y1.b j0, y1.b j1, y1.b j2⟩, ⟨by rw [f 9 h (fun hm => by have := (no _ _ hm).2.2.2.2.2.1 rfl; omega)]; exact tb, lp, by rw [e0 _ (by omega)]; exact bp⟩, by rw [e0 _ (by omega)]; exact hτ, fun r' hr' => by rw [e0 _ (by omega)]; exact hR r' hr', by rw [e0 _ (by omega)]; exact ht, (abk b).sub (fun i => ⟨rfl, rfl, by rw [sr_ne (by omega), sr_ne (by omega)], rfl⟩), ⟨V, ck'⟩, ib', σ, κ, rk, k1⟩, y1, e12, e13⟩
    all_goals rw [sr_ne (by omega), sr_ne (by omega)]
    · exact q7
    · exact q8
    · exact q9
  | inr J' =>
    rw [ed] at g
    obtain ⟨g, tb', bp', Y'⟩ := g
    have y2 : WY W (WJ2 W r h (1 - h)) := (y1.trans (WY.sr (Or.inr (Or.inl ⟨rfl, Or.inr (Or.inl rfl)⟩)))).trans (WY.sr (Or.inr (Or.inl ⟨rfl, Or.inl rfl⟩)))
    have lh : W.live (.o 9 h) = true := by
      have : h = 0 ∨ h = 1 := by omega
      rcases this with rfl | rfl
      · exact t0.1
      · exact t1.1
    have k2 : KHS (WJ2 W r h (1 - h)) S' z sl z0 s0 σ κ rk A := (k1.wr (Or.inr ⟨rfl, by decide, by decide⟩) lh).wr (Or.inr ⟨rfl, by decide, by decide⟩) T2.1
    refine ⟨WJ2 W r h (1 - h), S', 1 - h, g, ⟨by omega, ⟨y2.a iA, ⟨sr_eq _ _ _ _ _, ?_, ?_, l7⟩, y2.tx t0, y2.tx t1, y2.b j0, y2.b j1, y2.b j2⟩, ⟨tb', _, bp'⟩, by rw [e0 _ (by omega)]; exact hτ, fun r' hr' => by rw [e0 _ (by omega)]; exact hR r' hr', by rw [e0 _ (by omega)]; exact ht, (abk ⟨_, _, bp'⟩).sub (fun i => ⟨rfl, rfl, by rw [sr_ne (by omega), sr_ne (by omega), sr_ne (by omega), sr_ne (by omega)], rfl⟩), ⟨V, ck'⟩, ib', σ, κ, rk, k2⟩, y2, e12, e13⟩
    · rw [sr_ne (by omega), sr_eq]
      congr 2
      omega
    · rw [sr_ne (by omega), sr_ne (by omega), sr_ne (by omega), sr_ne (by omega)]
      exact q9
end CST4
