/-! BETWEEN CALLS: what class and model say alike, and what keeps it -/
abbrev AS : Type := List UInt8 × (Nat → List UInt8) × List UInt8 × JT × (Nat → Option KY)
def CIa (W : WR) (S : ST) (z sl z0 s0 h : Nat) (a : AS) : Prop := CI W S z sl z0 s0 a.1 a.2.1 a.2.2.1 h a.2.2.2.1 a.2.2.2.2
def MIa (W : WR) (S : ST) (bk : Nat) (a : AS) : Prop := MI W S a.1 a.2.1 a.2.2.1 bk a.2.2.2.1 a.2.2.2.2 ∧ JOk a.2.2.2.1
section REL
variable {W W' : WR} {S S' : ST} {z sl z0 s0 h bk : Nat} {τ τ' t t' : List UInt8} {rows rows' : Nat → List UInt8} {J J' : JT} {A A' : Nat → Option KY}
theorem CI.isw (c : CI W S z sl z0 s0 τ rows t h J A) : isW W (1 - h) := by
  obtain ⟨h2, ⟨a, ⟨_, r8, r9, l7⟩, t0, t1, _⟩, _⟩ := c
  have : h = 0 ∨ h = 1 := by omega
  rcases this with rfl | rfl
  · exact ⟨a, r8, r9, l7, t1, by decide⟩
  · exact ⟨a, r8, r9, l7, t0, by decide⟩
theorem CI.tx (c : CI W S z sl z0 s0 τ rows t h J A) : isTx W h (14 + h) := by
  obtain ⟨h2, ⟨a, _, t0, t1, _⟩, _⟩ := c
  have : h = 0 ∨ h = 1 := by omega
  rcases this with rfl | rfl
  · exact t0
  · exact t1
theorem CI.t2 (c : CI W S z sl z0 s0 τ rows t h J A) : isTx W (1 - h) (14 + (1 - h)) := c.isw.2.2.2.2.1
theorem CI.h7 (c : CI W S z sl z0 s0 τ rows t h J A) : W.r 11 0 7 = some (.o 9 h) := c.2.1.2.1.1
theorem CI.isa (c : CI W S z sl z0 s0 τ rows t h J A) : isA W := c.2.1.1
theorem CI.go {L : List (Nat × Nat)} (c : CI W S z sl z0 s0 τ rows t h J A) (f : fr L S S') (nk : noK L) (n9 : (9, h) ∉ L) (np : (0, 14 + h) ∉ L) (hτ : ∃ l, Byt 8192 (S' 0 8) τ' l) (hr : ∀ r, r < 8 → ∃ l, Byt 8192 (S' 0 r) (rows' r) l) (ht : ∃ l, Byt 8192 (S' 0 9) t' l) (ab : AB W S') (ck : ∃ V, CK S' V) (ib : IB S') : CI W S' z sl z0 s0 τ' rows' t' h J A := by
  obtain ⟨h2, cw, ⟨tb, lp, bp⟩, _, _, _, _, _, _, σ, κ, rk, K⟩ := c
  exact ⟨h2, cw, ⟨by rw [f 9 h n9]; exact tb, lp, by rw [f 0 (14 + h) np]; exact bp⟩, hτ, hr, ht, ab, ck, ib, σ, κ, rk, K.fm f nk⟩
/-- only what is shown has changed, and things that say nothing between calls -/
theorem CI.out {L : List (Nat × Nat)} (c : CI W S z sl z0 s0 τ rows t h J A) (f : fr L S S') (nk : noK L) (n9 : (9, h) ∉ L) (np : ∀ i, i ∈ [0, 1, 2, 3, 4, 5, 6, 7, 8, 14, 15] → (0, i) ∉ L) (ht : ∃ l, Byt 8192 (S' 0 9) t' l) (ab : ∀ i room, (0, i) ∈ L → isB W i room → ∃ xs l, Byt room (S' 0 i) xs l) (ck : ∃ V, CK S' V) (ib : IB S') : CI W S' z sl z0 s0 τ rows t' h J A := by
  have h2 := c.1
  refine c.go f nk n9 (np _ (by have : h = 0 ∨ h = 1 := by omega
                                rcases this with rfl | rfl <;> decide)) ?_ (fun r hr => ?_) ht (c.2.2.2.2.2.2.1.keep f ab) ck ib
  · rw [f 0 8 (np 8 (by decide))]
    exact c.2.2.2.1
  · rw [f 0 r (np r (by have : r = 0 ∨ r = 1 ∨ r = 2 ∨ r = 3 ∨ r = 4 ∨ r = 5 ∨ r = 6 ∨ r = 7 := by omega
                        rcases this with rfl | rfl | rfl | rfl | rfl | rfl | rfl | rfl <;> decide))]
    exact c.2.2.2.2.1 r hr
theorem IB.keep {L : List (Nat × Nat)} (i : IB S) (f : fr L S S') (hn : (1, 0) ∉ L) : IB S' := fun x => by rw [f 1 0 hn]; exact i x
theorem IB.ag {fs gs as ls : List Nat} (i : IB S) (a : agr fs gs as ls (S 1 0) (S' 1 0)) (hn : 0 ∉ as) : IB S' := fun x => by rw [a.2.2.1 0 hn]; exact i x
/-- the class does not see the model -/
theorem CI.m (c : CI W S z sl z0 s0 τ rows t h J A) (f : fr [(12, 0), (12, 1), (12, 2), (13, 0)] S S') : CI W S' z sl z0 s0 τ rows t h J A := by
  have h2 := c.1
  obtain ⟨V, ck⟩ := c.2.2.2.2.2.2.2.1
  refine c.out f (by intro x hx; simp only [List.mem_cons, List.not_mem_nil, or_false] at hx; rcases hx with rfl | rfl | rfl | rfl <;> decide) (by simp) (fun i _ => by simp) ?_ (fun i room q => absurd q (by simp)) ⟨V, ck.fr f (by decide)⟩ (c.2.2.2.2.2.2.2.2.1.keep f (by decide))
  rw [f 0 9 (by decide)]
  exact c.2.2.2.2.2.1
theorem CI.w (c : CI W S z sl z0 s0 τ rows t h J A) {x : Cl} (hx : W.live x = true) : CI (W.sr 13 0 19 x) S z sl z0 s0 τ rows t h J A := by
  obtain ⟨h2, ⟨⟨iT, iD, iRs, iCu, iTK, iCi, iCo, r12, r13, r14, r15, r16, r17⟩, ⟨q7, q8, q9, l7⟩, t0, t1, j0, j1, j2⟩, tb, hτ, hr, ht, ab, ck, ib, σ, κ, rk, K⟩ := c
  have y : WY W (W.sr 13 0 19 x) := WY.sr (Or.inr (Or.inr ⟨rfl, rfl⟩))
  have rr : ∀ c i k, c ≠ 13 → (W.sr 13 0 19 x).r c i k = W.r c i k := fun c i k hc => sr_ne (fun q => hc q.1)
  refine ⟨h2, ⟨⟨y.t iT, y.d iD, y.rs iRs, y.cu iCu, y.tk iTK, y.ci iCi, y.co iCo, (rr _ _ _ (by decide)).trans r12, (rr _ _ _ (by decide)).trans r13, (rr _ _ _ (by decide)).trans r14, (rr _ _ _ (by decide)).trans r15, (rr _ _ _ (by decide)).trans r16, (rr _ _ _ (by decide)).trans r17⟩, ⟨(rr _ _ _ (by decide)).trans q7, (rr _ _ _ (by decide)).trans q8, (rr _ _ _ (by decide)).trans q9, l7⟩, y.tx t0, y.tx t1, y.b j0, y.b j1, y.b j2⟩, tb, hτ, hr, ht, fun i room h9 hB => ab i room h9 ⟨hB.1, hB.2.1, by have := hB.2.2.1; rw [rr _ _ _ (by decide)] at this; exact this, hB.2.2.2.1, hB.2.2.2.2⟩, ck, ib, σ, κ, rk, ?_⟩
  obtain ⟨h1, ⟨i1, i2, i3, i4, i5⟩, h3, h4, h5, ⟨w1, w2, w3, w4⟩, f2, f3⟩ := K
  refine ⟨h1, ⟨(rr _ _ _ (by decide)).trans i1, i2, i3, i4, (rr _ _ _ (by decide)).trans i5⟩, fun j hj => ?_, h4, h5, ⟨fun c' i' k' t' e => ?_, w2, w3, w4⟩, fun ν hν => ?_, f3⟩
  · obtain ⟨⟨a1, a2, a3, a4, a5, a6, a7⟩, b1, b2⟩ := h3 j hj
    exact ⟨⟨a1, (rr _ _ _ (by decide)).trans a2, (rr _ _ _ (by decide)).trans a3, (rr _ _ _ (by decide)).trans a4, y.b a5, y.b a6, y.b a7⟩, (rr _ _ _ (by decide)).trans b1, y.b b2.1, b2.2⟩
  · rw [sr_r] at e
    split at e
    · rw [← Option.some.inj e]; exact hx
    · exact w1 c' i' k' t' e
  · obtain ⟨v1, v2, v3, v4⟩ := f2 ν hν
    exact ⟨v1, v2, v3, fun k' => (rr _ _ _ (by decide)).trans (v4 k')⟩
theorem MdS.eq {i n m : Nat} (d : MdS S i n m) (e : S' 12 i = S 12 i) : MdS S' i n m := by
  have q : ∀ k, igt S' (.a 12 i k) = igt S (.a 12 i k) := fun k => by show (S' 12 i).a k = (S 12 i).a k; rw [e]
  obtain ⟨d1, d2, d3, d4⟩ := d
  unfold MdS MdB at *
  rw [q 0, q 3, q 4, e]
  exact ⟨d1, d2, d3, d4⟩
/-- the model does not see the class -/
theorem MI.c (m : MI W S τ rows t bk J A) (y : WY W W') (e12 : ∀ i, S' 12 i = S 12 i) (e13 : S' 13 0 = S 13 0) : MI W' S' τ rows t bk J A := by
  obtain ⟨m1, m2, ⟨⟨V, d1, gv, vb⟩, d2, mk⟩, m4⟩ := m
  refine ⟨y.m m1, y.mm m1.1 m2, ⟨⟨V, d1.eq (e12 1), fun k hk h8 h9 => ?_, vb⟩, d2.eq (e12 2), by rw [e13]; exact mk⟩, by rw [e13]; exact m4⟩
  have := gv k hk h8 h9
  have e : igt S' (mwC k) = igt S (mwC k) := by
    have : k = 0 ∨ k = 1 ∨ k = 2 ∨ k = 3 ∨ k = 4 ∨ k = 5 ∨ k = 6 ∨ k = 7 ∨ k = 10 := by omega
    rcases this with rfl | rfl | rfl | rfl | rfl | rfl | rfl | rfl | rfl <;> (show (S' 13 0).a _ = (S 13 0).a _; rw [e13])
  unfold GV at this ⊢
  rw [e]
  exact this
theorem mEv.ag {o o' : Ob} {fs gs as ls : List Nat} (E : mEv o) (a : agr fs gs as ls o o') (hk : ∀ k, k ∈ as → (kdA 13)[k]? = some 1 → ∃ β, mB o' k β) : mEv o' := fun k q => by
  by_cases hm : k ∈ as
  · exact hk k hm q
  · obtain ⟨β, b⟩ := E k q
    exact ⟨β, a.mB b hm⟩
theorem HM.ag {o o' : Ob} {fs gs as ls : List Nat} (H : HM o bk J) (a : agr fs gs as ls o o') (h1 : 17 ∉ fs) (h2 : 18 ∉ fs) (ha : ∀ k ∈ [6, 7, 8, 9, 10, 11, 12, 13, 14, 15, 16], k ∉ as) : HM o' bk J := by
  obtain ⟨q1, q2, q3⟩ := H
  exact ⟨(a.1 17 h1).trans q1, q2, q3.imp (fun q => ⟨(a.1 18 h2).trans q.1, q.2⟩) (fun q => ⟨(a.1 18 h2).trans q.1, q.2.agr a ha⟩)⟩
/-- a step of the model that keeps tables, keys and the text in hand -/
theorem MI.go {fs gs as ls : List Nat} (m : MI W S τ rows t bk J A) (a : agr fs gs as ls (S 13 0) (S' 13 0)) (mk : MK S') (ev : mEv (S' 13 0)) (hn : ∀ k ∈ [6, 7, 8, 9, 10, 11, 12, 13, 14, 15, 16, 41, 42, 83, 84, 85, 86, 87, 88, 89, 90, 91, 92, 93, 94, 95], k ∉ as) (hf : ∀ k ∈ [17, 18], k ∉ fs) (hτ : mTape (S' 13 0) τ') (hR : mRows (S' 13 0) rows') (ht : mOut (S' 13 0) t') : MI W S' τ' rows' t' bk J A := by
  obtain ⟨m1, m2, _, _, bx, K, _, _, _, H⟩ := m
  have sub : ∀ (l : List Nat), (∀ k ∈ l, k ∈ [6, 7, 8, 9, 10, 11, 12, 13, 14, 15, 16, 41, 42, 83, 84, 85, 86, 87, 88, 89, 90, 91, 92, 93, 94, 95]) → ∀ k ∈ l, k ∉ as := fun l h k hk => hn k (h k hk)
  exact ⟨m1, m2, mk, ev, bx.ag a (hn 41 (by decide)) (hn 42 (by decide)), K.agr a (sub _ (by decide)), hτ, hR, ht, H.ag a (hf 17 (by decide)) (hf 18 (by decide)) (sub _ (by decide))⟩
theorem MI.w (m : MI W S τ rows t bk J A) {x : Cl} : MI (W.sr 13 0 19 x) S τ rows t bk J A := m.c (WY.sr (Or.inr (Or.inr ⟨rfl, rfl⟩))) (fun _ => rfl) rfl
end REL
