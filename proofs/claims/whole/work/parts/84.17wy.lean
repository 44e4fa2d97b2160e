/-! WIRES THAT STAY -/
/-- all cells stay, and all wires but those of the reader, the texts, the kids, the row of keys, the model's source -/
def WY (W W' : WR) : Prop := (∀ x, W.live x = true → W'.live x = true ∧ W'.ad x = W.ad x ∧ W'.n x = W.n x) ∧ (∀ c i k, W.live (.o c i) = true → c ≠ 7 → ¬ (c = 11 ∧ (k = 7 ∨ k = 8 ∨ k = 11)) → ¬ (c = 5 ∧ k = 9) → ¬ (c = 13 ∧ k = 19) → W'.r c i k = W.r c i k) ∧ (∀ x j, x ≠ .a 11 0 10 → W'.e x j = W.e x j) ∧ W'.lo = W.lo
/-- the wires that only few calls change -/
def WZ (W W' : WR) : Prop := W'.r 11 0 7 = W.r 11 0 7 ∧ W'.r 11 0 8 = W.r 11 0 8 ∧ W'.r 13 0 19 = W.r 13 0 19
theorem WZ.trans {W W1 W2 : WR} (h1 : WZ W W1) (h2 : WZ W1 W2) : WZ W W2 := ⟨h2.1.trans h1.1, h2.2.1.trans h1.2.1, h2.2.2.trans h1.2.2⟩
theorem WZ.refl (W : WR) : WZ W W := ⟨rfl, rfl, rfl⟩
theorem WY.refl (W : WR) : WY W W := ⟨fun _ h => ⟨h, rfl, rfl⟩, fun _ _ _ _ _ _ _ _ => rfl, fun _ _ _ => rfl, rfl⟩
theorem WY.trans {W W1 W2 : WR} (h1 : WY W W1) (h2 : WY W1 W2) : WY W W2 := ⟨fun x h => ⟨(h2.1 x (h1.1 x h).1).1, (h2.1 x (h1.1 x h).1).2.1.trans (h1.1 x h).2.1, (h2.1 x (h1.1 x h).1).2.2.trans (h1.1 x h).2.2⟩, fun c i k hl a b d e => (h2.2.1 c i k (h1.1 _ hl).1 a b d e).trans (h1.2.1 c i k hl a b d e), fun x j h => (h2.2.2.1 x j h).trans (h1.2.2.1 x j h), h2.2.2.2.trans h1.2.2.2⟩
theorem WX.y {W W' : WR} {j : Nat} (h : WX W W' 5 j 9) : WY W W' := ⟨h.1, fun c i k hl _ _ d _ => h.2.1 c i k hl (fun q => d ⟨q.1, q.2.2⟩), fun x j _ => by rw [h.2.2.1], h.2.2.2⟩
theorem WX.z {W W' : WR} {j : Nat} (h : WX W W' 5 j 9) (h1 : W.live (.o 11 0) = true) (h2 : W.live (.o 13 0) = true) : WZ W W' := ⟨h.2.1 11 0 7 h1 (by omega), h.2.1 11 0 8 h1 (by omega), h.2.1 13 0 19 h2 (by omega)⟩
theorem WY.sr {W : WR} {c k : Nat} {t : Cl} (h : c = 7 ∨ (c = 11 ∧ (k = 7 ∨ k = 8 ∨ k = 11)) ∨ (c = 13 ∧ k = 19)) : WY W (W.sr c 0 k t) := ⟨fun _ h => ⟨h, rfl, rfl⟩, fun c' i' k' _ a b d e => sr_ne (fun q => by omega), fun _ _ _ => rfl, rfl⟩
theorem WY.se {W : WR} {k : Nat} {t : Cl} : WY W (W.se (.a 11 0 10) k t) := ⟨fun _ h => ⟨h, rfl, rfl⟩, fun _ _ _ _ _ _ _ _ => rfl, fun x j h => se_ne (fun q => h q.1), rfl⟩
theorem WY.sw {W : WR} {σ : Nat → Nat} {k : Nat} : WY W (swW W σ k) := WY.se.trans (WY.sr (Or.inr (Or.inl ⟨rfl, Or.inr (Or.inr rfl)⟩)))
section WYS
variable {W W' : WR}
theorem WY.lv (h : WY W W') {x : Cl} (q : W.live x = true) : W'.live x = true := (h.1 x q).1
theorem WY.nn (h : WY W W') {x : Cl} {n : Nat} (q : W.live x = true) (e : W.n x = n) : W'.n x = n := by rw [(h.1 x q).2.2]; exact e
theorem WY.rr (h : WY W W') {c i k : Nat} {t : Cl} (q : W.live (.o c i) = true) (hc : c ≠ 7 ∧ ¬ (c = 11 ∧ (k = 7 ∨ k = 8 ∨ k = 11)) ∧ ¬ (c = 5 ∧ k = 9) ∧ ¬ (c = 13 ∧ k = 19)) (e : W.r c i k = some t) : W'.r c i k = some t := by rw [h.2.1 c i k q hc.1 hc.2.1 hc.2.2.1 hc.2.2.2]; exact e
theorem WY.cx (h : WY W W') {G : mG} {F : Nat} (X : Cx G F W) : Cx G F W' := by
  refine ⟨?_, X.2⟩
  rw [h.2.2.2]
  exact X.1
theorem WY.b (h : WY W W') {i r : Nat} (q : isB W i r) : isB W' i r := ⟨h.lv q.1, h.lv q.2.1, h.rr q.1 (by omega) q.2.2.1, h.nn q.2.1 q.2.2.2.1, q.2.2.2.2⟩
theorem WY.ha (h : WY W W') {c i k n : Nat} (hl : W.live (.o c i) = true) (hc : c ≠ 7 ∧ ¬ (c = 11 ∧ (k = 7 ∨ k = 8 ∨ k = 11)) ∧ ¬ (c = 5 ∧ k = 9) ∧ ¬ (c = 13 ∧ k = 19)) (q : hasA W c i k n) : hasA W' c i k n := ⟨h.lv q.1, h.rr hl hc q.2.1, h.nn q.1 q.2.2.1, q.2.2.2⟩
theorem WY.lk (h : WY W W') {x : Cl} {n : Nat} (q : lok W x n) : lok W' x n := ⟨h.lv q.1, h.nn q.1 q.2.1, q.2.2⟩
theorem WY.ik (h : WY W W') {x : Cl} {n : Nat} (q : iok W x n) : iok W' x n := ⟨h.lv q.1, h.nn q.1 q.2.1, q.2.2⟩
theorem WY.mo (h : WY W W') {i : Nat} (q : isMo W i) : isMo W' i := ⟨h.lv q.1, fun k a b => ⟨h.rr q.1 (by omega) (q.2 k a b).1, h.lk (q.2 k a b).2⟩⟩
theorem WY.md (h : WY W W') {i : Nat} (q : isMd W i) : isMd W' i := ⟨h.lv q.1, fun k a => ⟨h.rr q.1 (by omega) (q.2 k a).1, h.ik (q.2 k a).2⟩⟩
theorem WY.m (h : WY W W') (q : isM W) : isM W' := by
  obtain ⟨q1, q2, q3, q4⟩ := q
  refine ⟨h.lv q1, fun k a => h.lv (q2 k a), fun k a => h.rr q1 ⟨by decide, by omega, by omega, fun e => ?_⟩ (q3 k a), fun k a => h.nn (q2 k a) (q4 k a)⟩
  rw [e.2] at a
  exact absurd a (by decide)
theorem WY.mm (h : WY W W') (hm : W.live (.o 13 0) = true) (q : isMm W) : isMm W' := ⟨h.rr hm (by omega) q.1, h.rr hm (by omega) q.2.1, h.rr hm (by omega) q.2.2.1, h.md q.2.2.2.1, h.md q.2.2.2.2.1, h.md q.2.2.2.2.2⟩
theorem WY.t (h : WY W W') (q : isT W) : isT W' := by
  obtain ⟨l, a1, a2, a3, a4, a5, b1, b2, c1, c2, d1, d2, e1, e2, f1, f2, g1, g2⟩ := q
  exact ⟨h.lv l, h.rr l (by omega) a1, h.lv a2, h.nn a2 a3, fun r hr => by rw [h.2.2.1 _ r (by decide)]; exact a4 r hr, fun r hr => h.b (a5 r hr), h.rr l (by omega) b1, h.b b2, h.rr l (by omega) c1, h.b c2, h.rr l (by omega) d1, h.b d2, h.rr l (by omega) e1, h.b e2, h.rr l (by omega) f1, h.b f2, h.rr l (by omega) g1, h.b g2⟩
theorem WY.d (h : WY W W') (q : isD W) : isD W' := by
  obtain ⟨l, a1, a2, a3, a4, b1, b2, b3, c1, c2, c3, d1, d2⟩ := q
  exact ⟨h.lv l, h.ha l (by omega) a1, h.ha l (by omega) a2, h.ha l (by omega) a3, h.ha l (by omega) a4, h.lv b1, h.rr l (by omega) b2, h.nn b1 b3, h.lv c1, h.rr l (by omega) c2, h.nn c1 c3, h.rr l (by omega) d1, h.b d2⟩
theorem WY.ci (h : WY W W') (q : isCi W) : isCi W' := by
  obtain ⟨l, a1, a2, a3, a4, a5⟩ := q
  exact ⟨h.lv l, h.ha l (by omega) a1, h.ha l (by omega) a2, h.ha l (by omega) a3, h.ha l (by omega) a4, h.ha l (by omega) a5⟩
theorem WY.co (h : WY W W') (q : isCo W) : isCo W' := by
  obtain ⟨l, a1, a2, a3, a4, a5, a6⟩ := q
  exact ⟨h.lv l, h.rr l (by omega) a1, h.rr l (by omega) a2, h.ha l (by omega) a3, h.ha l (by omega) a4, h.rr l (by omega) a5, h.b a6⟩
theorem WY.rs (h : WY W W') (q : isRs W) : isRs W' := by
  obtain ⟨l, a1, a2, a3, a4, a5, a6, a7, b1, b2, b3, b4⟩ := q
  exact ⟨h.lv l, h.rr l (by omega) a1, h.rr l (by omega) a2, h.rr l (by omega) a3, h.lk a4, h.rr l (by omega) a5, h.rr l (by omega) a6, h.rr l (by omega) a7, h.b b1, h.b b2, h.b b3, h.mo b4⟩
theorem WY.cu (h : WY W W') (q : isCu W) : isCu W' := by
  obtain ⟨l, a1, a2, a3, a4, b1, b2, c1, c2, d1, d2, e1, e2, m1, m2, k1, k2⟩ := q
  refine ⟨h.lv l, fun k hk => h.rr l (by omega) (a1 k hk), h.rr l (by omega) a2, h.rr l (by omega) a3, fun k hk => ⟨h.rr l (by omega) (a4 k hk).1, h.b (a4 k hk).2⟩, h.rr l (by omega) b1, h.b b2, h.rr l (by omega) c1, h.b c2, h.rr l (by omega) d1, h.b d2, h.rr l (by omega) e1, h.b e2, h.mo m1, h.mo m2, fun k hk => h.lk (k1 k hk), fun k j hk => ?_⟩
  obtain ⟨u1, u2, u3, u4⟩ := k2 k j hk
  have e := h.nn u1 rfl
  exact ⟨h.lv u1, by rw [e]; exact u2, by rw [e]; exact u3, by rw [h.2.2.1 _ j (by simp)]; exact u4⟩
theorem WY.tx (h : WY W W') {t ip : Nat} (q : isTx W t ip) : isTx W' t ip := ⟨h.lv q.1, h.rr q.1 (by omega) q.2.1, h.b q.2.2.1, fun k a b => ⟨h.lv (q.2.2.2 k a b).1, h.rr q.1 (by omega) (q.2.2.2 k a b).2.1, h.nn (q.2.2.2 k a b).1 (q.2.2.2 k a b).2.2⟩⟩
end WYS
