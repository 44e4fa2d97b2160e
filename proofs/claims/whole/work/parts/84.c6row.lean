/-! NEW OBJECTS: rows and keys of the class -/
def NwS (P : Nat → Nat → Prop) (W : WR) (S : ST) : Prop := ∀ c i, ¬ P c i → frS W c i ∧ S c i = zOb
theorem NwS.go {P : Nat → Nat → Prop} {L : List (Nat × Nat)} {W W' : WR} {S S' : ST} (h : NwS P W S) (x : FX L W W') (f : fr L S S') : NwS (fun c i => P c i ∨ (c, i) ∈ L) W' S' := fun c i hn => by
  have h1 := h c i (fun q => hn (Or.inl q))
  have h2 : (c, i) ∉ L := fun q => hn (Or.inr q)
  exact ⟨(x.2 c i h2).1 h1.1, (f c i h2).trans h1.2⟩
theorem NwS.mono {P Q : Nat → Nat → Prop} {W : WR} {S : ST} (h : NwS P W S) (hq : ∀ c i, P c i → Q c i) : NwS Q W S := fun c i hn => h c i (fun q => hn (hq c i q))
section ROW
variable {G : mG} {F : Nat}
/-- an object put into an array that has none there -/
theorem st_se {W : WR} {S : ST} {z c i k n kk ci ti j : Nat} (hf : WF W z) (ha : hasA W c i k n) (q : (kdA c)[k]? = some kk) (q1 : ¬ kk < 4) (hj : j < n) (ht : W.live (.o ci ti) = true) (he : W.e (.a c i k) j = none) : ∃ W', sR (mem W S) kk (W.ad (.a c i k)) (Int32.ofNat j) (W.ad (.o ci ti)) ci = some (mem W' S) ∧ WF W' z ∧ WP W W' ∧ W'.e (.a c i k) j = some (.o ci ti) ∧ (∀ y j', y ≠ .a c i k ∨ j' ≠ j → W'.e y j' = W.e y j') ∧ (∀ x, W'.live x = W.live x) ∧ (∀ a b d, W'.r a b d = W.r a b d) := by
  have h := ha.2.2.2
  have g := sR_m (W := W) (S := S) (x := (Int32.ofNat j)) ha.1 q q1 (by rw [ha.2.2.1]; exact inB_n hj (by omega)) ht
  rw [n_at (by omega)] at g
  refine ⟨W.se (.a c i k) j (.o ci ti), g, hf.se ht, ⟨fun x hx => ⟨hx, rfl, rfl⟩, fun _ _ _ _ e => e, fun y j' t e => ?_, rfl⟩, se_eq _ _ _ _, fun y j' hn => se_ne (fun q => hn.elim (fun h => h q.1) (fun h => h q.2)), fun _ => rfl, fun _ _ _ => rfl⟩
  rw [se_ne (fun q => by rw [q.1, q.2, he] at e; exact absurd e (by simp))]
  exact e
theorem frS_e {W W' : WR} {c i : Nat} {y : Cl} (h : frS W c i) (hy : ∀ k, y ≠ .a c i k) (he : ∀ y' j', y' ≠ y → W'.e y' j' = W.e y' j') (hl : ∀ x, W'.live x = W.live x) (hr : ∀ a b d, W'.r a b d = W.r a b d) : frS W' c i := ⟨by rw [hl]; exact h.1, fun k => by rw [hl]; exact h.2.1 k, fun k j => by rw [hl]; exact h.2.2.1 k j, fun k => by rw [hr]; exact h.2.2.2.1 k, fun k j => by rw [he _ _ (fun q => hy k q.symm)]; exact h.2.2.2.2 k j⟩
theorem Q11_rows {P : Nat → Nat → Prop} {A : Nat} {S : ST} (hP : P 11 0) (hPr : ∀ r, r < 8 → ¬ P 0 r) : ∀ (m r f : Nat) (W : WR) (z sl : Nat), m < f → r + m = 8 → WF W z → W.live (.o 11 0) = true → W.ad (.o 11 0) = A → hasA W 11 0 0 8 → (∀ j, r ≤ j → W.e (.a 11 0 0) j = none) → (∀ j, j < r → W.e (.a 11 0 0) j = some (.o 0 j) ∧ isB W j 8192) → NwS (fun c i => P c i ∨ (c = 0 ∧ i < r)) W S → ∃ W' z' sl', B_X11_init_236 G F f A (Int32.ofNat r) (mem W S) z sl = B_X11_init_266 G F F A 0 (mem W' S) z' sl' ∧ WF W' z' ∧ WP W W' ∧ (∀ y j, W.live y = true → y ≠ .a 11 0 0 → W'.e y j = W.e y j) ∧ (∀ j, j < 8 → W'.e (.a 11 0 0) j = some (.o 0 j) ∧ isB W' j 8192) ∧ NwS (fun c i => P c i ∨ (c = 0 ∧ i < 8)) W' S ∧ (z ≤ z' ∧ z' ≤ z + 2 * m) ∧ sl' ≤ sl + 8195 * m := by
  intro m
  induction m with
  | zero =>
    intro r f W z sl hf hr wf lo ad ha en er ns
    obtain ⟨f, rfl⟩ : ∃ q, f = q + 1 := ⟨f - 1, by omega⟩
    have : r = 8 := by omega
    subst this
    refine ⟨W, z, sl, ?_, wf, WP.refl W, fun _ _ _ _ => rfl, er, ns, ⟨Nat.le_refl _, Nat.le_refl _⟩, Nat.le_refl _⟩
    rw [B_X11_init_236]
    unfold B_X11_init_239
    rw [if_pos (show (8 : Int32) ≤ (Int32.ofNat 8) by decide)]
  | succ m ih =>
    intro r f W z sl hf hr wf lo ad ha en er ns
    obtain ⟨f, rfl⟩ : ∃ q, f = q + 1 := ⟨f - 1, by omega⟩
    obtain ⟨fr0, z0⟩ := ns 0 r (fun q => q.elim (hPr r (by omega)) (fun q => Nat.lt_irrefl _ q.2))
    obtain ⟨W1, g1, wf1, x1, b1, a1⟩ := st_B0 (G := G) (F := F) (S := S) (sl := sl) (room := 8192) wf fr0 z0 (by decide)
    have ha1 := x1.1.ha ha
    have en1 : W1.e (.a 11 0 0) r = none := (x1.1.2.2.1.2 _ r ha.1).trans (en r (Nat.le_refl _))
    obtain ⟨W2, g2, wf2, p2, e2, o2, l2, r2⟩ := st_se (S := S) wf1 ha1 rfl (by decide) (show r < 8 by omega) b1.1 en1
    have aa : W1.ad (.a 11 0 0) = W.ad (.a 11 0 0) := (x1.1.1 _ ha.1).2.1
    rw [aa, a1] at g2
    have ns2 : NwS (fun c i => P c i ∨ (c = 0 ∧ i < r + 1)) W2 S := by
      intro c i hn
      obtain ⟨q1, q2⟩ := ns c i (fun q => hn (q.imp id (fun q => ⟨q.1, by omega⟩)))
      have nm : (c, i) ∉ [(0, r)] := fun q => hn (Or.inr (by have := List.mem_singleton.mp q; simp only [Prod.mk.injEq] at this; exact ⟨this.1, by omega⟩))
      refine ⟨frS_e ((x1.2 c i nm).1 q1) (y := .a 11 0 0) (fun k q => hn (Or.inl ?_)) (fun y' j' hy => o2 y' j' (Or.inl hy)) l2 r2, q2⟩
      have := Sum.inl.inj (Sum.inr.inj q)
      simp only [Prod.mk.injEq] at this
      rw [← this.1, ← this.2.1]
      exact hP
    obtain ⟨W3, z3, s3, g3, wf3, p3, e3, er3, ns3, bz, bs⟩ := ih (r + 1) f W2 (z + 2) (sl + 3 + 8192) (by omega) (by omega) wf2 (p2.lv (x1.1.lv lo)) ((p2.1 _ (x1.1.lv lo)).2.1.trans ((x1.1.1 _ lo).2.1.trans ad)) (p2.ha ha1) (fun j hj => (o2 _ j (Or.inr (by omega))).trans ((x1.1.2.2.1.2 _ j ha.1).trans (en j (by omega)))) (fun j hj => by
      by_cases ej : j = r
      · rw [ej]
        exact ⟨e2, p2.b b1⟩
      · obtain ⟨u1, u2⟩ := er j (by omega)
        exact ⟨(o2 _ j (Or.inr ej)).trans ((x1.1.2.2.1.2 _ j ha.1).trans u1), p2.b (x1.1.b u2)⟩) ns2
    refine ⟨W3, z3, s3, ?_, wf3, (x1.1.p.trans p2).trans p3, fun y j hl hy => (e3 y j (p2.lv (x1.1.lv hl)) hy).trans ((o2 y j (Or.inl hy)).trans (x1.1.2.2.1.2 y j hl)), er3, ns3, ⟨by omega, by omega⟩, by omega⟩
    have gg : gfR (mem W S) A 11 0 = some (W.ad (.a 11 0 0)) := by
      have := gfR_m (W := W) (S := S) (c := 11) (i := 0) (k := 0) lo rfl ha.2.1
      rw [ad] at this
      exact this
    rw [B_X11_init_236]
    unfold B_X11_init_239
    rw [if_neg (show ¬ (8 : Int32) ≤ (Int32.ofNat r) from fun q => absurd ((n_le (a := 8) (by omega) (by omega)).mp q) (by omega)), gg, bO_s]
    refine (g1 _ _).trans ?_
    rw [g2, bO_s, n_i1, g3]
/-- what a key takes -/
def KyP (r c i : Nat) : Prop := (c = 5 ∧ i < r) ∨ (c = 0 ∧ ((16 ≤ i ∧ i < 16 + 3 * r) ∨ (94 ≤ i ∧ i < 94 + r)))
def KyF (W : WR) (S : ST) (j : Nat) : Prop := isKo W j ∧ W.r 5 j 9 = some (.o 0 (94 + j)) ∧ isB W (94 + j) 64 ∧ S 5 j = zOb.sf 3 (-1)
theorem Q11_keys {P : Nat → Nat → Prop} {A : Nat} (hP : P 11 0) (hPr : ∀ c i, KyP 16 c i → ¬ P c i) : ∀ (m r f : Nat) (W : WR) (S : ST) (z sl : Nat), m < f → r + m = 16 → WF W z → W.live (.o 11 0) = true → W.ad (.o 11 0) = A → hasA W 11 0 10 16 → (∀ j, r ≤ j → W.e (.a 11 0 10) j = none) → (∀ j, j < r → W.e (.a 11 0 10) j = some (.o 5 j) ∧ KyF W S j) → NwS (fun c i => P c i ∨ KyP r c i) W S → ∃ W' S' z' sl', B_X11_init_266 G F f A (Int32.ofNat r) (mem W S) z sl = some (mem W' S', z', sl') ∧ WF W' z' ∧ WP W W' ∧ (∀ y j, W.live y = true → y ≠ .a 11 0 10 → W'.e y j = W.e y j) ∧ (∀ j, j < 16 → W'.e (.a 11 0 10) j = some (.o 5 j) ∧ KyF W' S' j) ∧ NwS (fun c i => P c i ∨ KyP 16 c i) W' S' ∧ (∀ c i, ¬ (c = 5 ∧ i < 16) → S' c i = S c i) ∧ (z + 9 * m ≤ z' ∧ z' ≤ z + 9 * m) ∧ sl' ≤ sl + 480 * m := by
  intro m
  induction m with
  | zero =>
    intro r f W S z sl hf hr wf lo ad ha en er ns
    obtain ⟨f, rfl⟩ : ∃ q, f = q + 1 := ⟨f - 1, by omega⟩
    have : r = 16 := by omega
    subst this
    refine ⟨W, S, z, sl, ?_, wf, WP.refl W, fun _ _ _ _ => rfl, er, ns, fun _ _ _ => rfl, ⟨Nat.le_refl _, Nat.le_refl _⟩, Nat.le_refl _⟩
    rw [B_X11_init_266]
    unfold B_X11_init_269
    rw [if_pos (show (16 : Int32) ≤ (Int32.ofNat 16) by decide)]
  | succ m ih =>
    intro r f W S z sl hf hr wf lo ad ha en er ns
    obtain ⟨f, rfl⟩ : ∃ q, f = q + 1 := ⟨f - 1, by omega⟩
    have fre : ∀ c i, KyP (r + 1) c i → ¬ KyP r c i → frS W c i ∧ S c i = zOb := fun c i q1 q2 => ns c i (fun q => q.elim (hPr c i (by unfold KyP at q1 ⊢; omega)) q2)
    obtain ⟨n1, n2⟩ := fre 5 r (by unfold KyP; omega) (by unfold KyP; omega)
    obtain ⟨n3, n4⟩ := fre 0 (16 + 3 * r) (by unfold KyP; omega) (by unfold KyP; omega)
    obtain ⟨n5, n6⟩ := fre 0 (17 + 3 * r) (by unfold KyP; omega) (by unfold KyP; omega)
    obtain ⟨n7, n8⟩ := fre 0 (18 + 3 * r) (by unfold KyP; omega) (by unfold KyP; omega)
    obtain ⟨n9, n0⟩ := fre 0 (94 + r) (by unfold KyP; omega) (by unfold KyP; omega)
    obtain ⟨W1, z1, s1, g1, wf1, ⟨lz, uz⟩, us, x1, a1, l1, k1, k2, k3⟩ := nw_key (G := G) (F := F) (S := S) (sl := sl) (j := r) wf n1 n2 n3 n4 n5 n6 n7 n8 n9 n0 (by omega)
    obtain ⟨S1, hS1⟩ : ∃ S1, S1 = S.so 5 r (zOb.sf 3 (-1)) := ⟨_, rfl⟩
    rw [← hS1] at g1
    have ha1 := x1.1.ha ha
    have en1 : W1.e (.a 11 0 10) r = none := (x1.1.2.2.1.2 _ r ha.1).trans (en r (Nat.le_refl _))
    obtain ⟨W2, g2, wf2, p2, e2, o2, l2, r2⟩ := st_se (S := S1) wf1 ha1 rfl (by decide) (show r < 16 by omega) l1 en1
    have aa : W1.ad (.a 11 0 10) = W.ad (.a 11 0 10) := (x1.1.1 _ ha.1).2.1
    rw [aa, a1] at g2
    have sne : ∀ c i, ¬ (c = 5 ∧ i = r) → S1 c i = S c i := fun c i q => by rw [hS1]; exact so_ne q
    have ns2 : NwS (fun c i => P c i ∨ KyP (r + 1) c i) W2 S1 := by
      intro c i hn
      have hk : ¬ KyP (r + 1) c i := fun q => hn (Or.inr q)
      obtain ⟨q1, q2⟩ := ns c i (fun q => hn (q.imp id (fun q => by unfold KyP at q ⊢; omega)))
      have nm : (c, i) ∉ [(0, 94 + r), (0, 18 + 3 * r), (0, 17 + 3 * r), (0, 16 + 3 * r), (5, r)] := fun q => hk (by
        simp only [List.mem_cons, Prod.mk.injEq, List.not_mem_nil, or_false] at q
        unfold KyP
        omega)
      refine ⟨frS_e ((x1.2 c i nm).1 q1) (y := .a 11 0 10) (fun k q => hn (Or.inl ?_)) (fun y' j' hy => o2 y' j' (Or.inl hy)) l2 r2, (sne c i (fun q => hk (by unfold KyP; omega))).trans q2⟩
      have := Sum.inl.inj (Sum.inr.inj q)
      simp only [Prod.mk.injEq] at this
      rw [← this.1, ← this.2.1]
      exact hP
    obtain ⟨W3, S3, z3, s3, g3, wf3, p3, e3, er3, ns3, sm3, bz, bs⟩ := ih (r + 1) f W2 S1 z1 s1 (by omega) (by omega) wf2 (p2.lv (x1.1.lv lo)) ((p2.1 _ (x1.1.lv lo)).2.1.trans ((x1.1.1 _ lo).2.1.trans ad)) (p2.ha ha1) (fun j hj => (o2 _ j (Or.inr (by omega))).trans ((x1.1.2.2.1.2 _ j ha.1).trans (en j (by omega)))) (fun j hj => by
      by_cases ej : j = r
      · rw [ej]
        exact ⟨e2, p2.ko k1, p2.rr k2, p2.b k3, by rw [hS1, so_eq]⟩
      · obtain ⟨u1, u2, u3, u4, u5⟩ := er j (by omega)
        exact ⟨(o2 _ j (Or.inr ej)).trans ((x1.1.2.2.1.2 _ j ha.1).trans u1), p2.ko (x1.1.p.ko u2), p2.rr (x1.1.rr u3), p2.b (x1.1.b u4), (sne 5 j (by omega)).trans u5⟩) ns2
    refine ⟨W3, S3, z3, s3, ?_, wf3, (x1.1.p.trans p2).trans p3, fun y j hl hy => (e3 y j (p2.lv (x1.1.lv hl)) hy).trans ((o2 y j (Or.inl hy)).trans (x1.1.2.2.1.2 y j hl)), er3, ns3, fun c i hn => (sm3 c i hn).trans (sne c i (by omega)), ⟨by omega, by omega⟩, by omega⟩
    have gg : gfR (mem W S) A 11 10 = some (W.ad (.a 11 0 10)) := by
      have := gfR_m (W := W) (S := S) (c := 11) (i := 0) (k := 10) lo rfl ha.2.1
      rw [ad] at this
      exact this
    rw [B_X11_init_266]
    unfold B_X11_init_269
    rw [if_neg (show ¬ (16 : Int32) ≤ (Int32.ofNat r) from fun q => absurd ((n_le (a := 16) (by omega) (by omega)).mp q) (by omega)), gg, bO_s]
    refine (g1 _ _).trans ?_
    rw [g2, bO_s, n_i1, g3]
end ROW
