/-! NEW OBJECTS: rows of longs -/
def bIx (x : Cl) (c i k n : Nat) : Option Nat := match x with
  | .inr (.inr (c', i', k', j)) => if c' = c ∧ i' = i ∧ k' = k ∧ j < n then some j else none
  | _ => none
theorem bIx_b {c i k n j : Nat} (h : j < n) : bIx (.b c i k j) c i k n = some j := if_pos ⟨rfl, rfl, rfl, h⟩
theorem bIx_s {x : Cl} {c i k n j : Nat} (h : bIx x c i k n = some j) : x = .b c i k j ∧ j < n := by
  rcases x with ⟨c', i'⟩ | ⟨c', i', k'⟩ | ⟨c', i', k', j'⟩
  · exact absurd h (by simp [bIx])
  · exact absurd h (by simp [bIx])
  · have h : (if c' = c ∧ i' = i ∧ k' = k ∧ j' < n then some j' else none) = some j := h
    split at h
    · rename_i e
      have := Option.some.inj h
      subst this
      rw [e.1, e.2.1, e.2.2.1]
      exact ⟨rfl, e.2.2.2⟩
    · exact absurd h (by simp)
theorem cl_b {c i k j c' i' k' j' : Nat} (h : (Cl.b c' i' k' j' : Cl) = Cl.b c i k j) : c' = c ∧ i' = i := by
  have := Sum.inr.inj (Sum.inr.inj h)
  simp only [Prod.mk.injEq] at this
  exact ⟨this.1, this.2.1⟩
def gAd (W : WR) (c i k z n : Nat) (x : Cl) : Nat := if x = .a c i k then z else match bIx x c i k n with
  | some j => z + 1 + j
  | none => W.ad x
def gDi (W : WR) (c i k z n a : Nat) : Option Cl := if a = z then some (.a c i k) else if z < a ∧ a ≤ z + n then some (.b c i k (a - z - 1)) else W.di a
def gLv (W : WR) (c i k n : Nat) (x : Cl) : Bool := if x = .a c i k then true else match bIx x c i k n with
  | some _ => true
  | none => W.live x
def gNn (W : WR) (c i k n m : Nat) (x : Cl) : Nat := if x = .a c i k then n else match bIx x c i k n with
  | some _ => m
  | none => W.n x
def gE (W : WR) (c i k n : Nat) (y : Cl) (j : Nat) : Option Cl := if y = .a c i k ∧ j < n then some (.b c i k j) else W.e y j
section GRD
variable {W : WR} {S : ST} {c i k z n m : Nat}
theorem g_old {x : Cl} (hx : W.live (.a c i k) = false) (hb : ∀ j, W.live (.b c i k j) = false) (h : W.live x = true) : x ≠ .a c i k ∧ bIx x c i k n = none := by
  refine ⟨fun e => by rw [e, hx] at h; exact absurd h (by decide), ?_⟩
  cases e : bIx x c i k n with
  | none => rfl
  | some j =>
    rw [(bIx_s e).1, hb j] at h
    exact absurd h (by decide)
theorem gAd_o {x : Cl} (h : x ≠ .a c i k ∧ bIx x c i k n = none) : gAd W c i k z n x = W.ad x := by
  unfold gAd
  rw [if_neg h.1, h.2]
theorem gLv_o {x : Cl} (h : x ≠ .a c i k ∧ bIx x c i k n = none) : gLv W c i k n x = W.live x := by
  unfold gLv
  rw [if_neg h.1, h.2]
theorem gNn_o {x : Cl} (h : x ≠ .a c i k ∧ bIx x c i k n = none) : gNn W c i k n m x = W.n x := by
  unfold gNn
  rw [if_neg h.1, h.2]
theorem g_b {j : Nat} (h : j < n) : gAd W c i k z n (.b c i k j) = z + 1 + j ∧ gLv W c i k n (.b c i k j) = true ∧ gNn W c i k n m (.b c i k j) = m := by
  have ne : (.b c i k j : Cl) ≠ .a c i k := by simp
  unfold gAd gLv gNn
  rw [if_neg ne, if_neg ne, if_neg ne, bIx_b h]
  exact ⟨rfl, rfl, rfl⟩
theorem g_ok (hf : WF W z) (hx : W.live (.a c i k) = false) (hb : ∀ j, W.live (.b c i k j) = false) : WOK (gAd W c i k z n, gDi W c i k z n, W.lo, gLv W c i k n, W.r, gE W c i k n, gNn W c i k n m) := by
  obtain ⟨h1, h2, h3, h4⟩ := hf
  refine ⟨fun a x e => ?_, fun a x e => ?_, fun x e => ?_⟩
  · have e : gDi W c i k z n a = some x := e
    show gAd W c i k z n x = a
    unfold gDi at e
    split at e
    · rename_i q
      rw [← Option.some.inj e, q]
      exact if_pos rfl
    · split at e
      · rename_i q
        rw [← Option.some.inj e, (g_b (W := W) (m := m) (show a - z - 1 < n by omega)).1]
        omega
      · rw [gAd_o (g_old hx hb (h3 a x e).1)]
        exact W.inv a x e
  · have e : gDi W c i k z n a = some x := e
    show W.lo ≤ a
    unfold gDi at e
    split at e
    · omega
    · split at e
      · omega
      · exact W.low a x e
  · have e : gLv W c i k n x = true := e
    show gDi W c i k z n (gAd W c i k z n x) = some x
    by_cases q : x = .a c i k
    · rw [show gAd W c i k z n x = z from if_pos q, q]
      exact if_pos rfl
    · cases eb : bIx x c i k n with
      | some j =>
        obtain ⟨b1, b2⟩ := bIx_s eb
        rw [b1, (g_b (W := W) (m := m) b2).1]
        unfold gDi
        rw [if_neg (by omega), if_pos (by omega), show z + 1 + j - z - 1 = j by omega]
      | none =>
        rw [gLv_o ⟨q, eb⟩] at e
        rw [gAd_o ⟨q, eb⟩]
        have d := W.ok x e
        have lt := (h3 _ x d).2
        unfold gDi
        rw [if_neg (by omega), if_neg (by omega)]
        exact d
def WR.gr (W : WR) (c i k z n m : Nat) (hf : WF W z) (hx : W.live (.a c i k) = false) (hb : ∀ j, W.live (.b c i k j) = false) : WR := ⟨_, g_ok (n := n) (m := m) hf hx hb⟩
theorem nwG_m (hf : WF W z) (hx : W.live (.a c i k) = false) (hb : ∀ j, W.live (.b c i k j) = false) (he : ∀ j, W.e (.a c i k) j = none) (q : (kdA c)[k]? = some 6) (hn : n ≤ 1000) (hm : m ≤ 1000) (hz : ∀ j, (S c i).m k j = fun _ => 0) : nwG (mem W S) z (Int32.ofNat n) (Int32.ofNat m) = some (mem (W.gr c i k z n m hf hx hb) S) := by
  have qd : (kdA c).getD k 9 = 6 := by rw [List.getD_eq_getElem?_getD, q]; rfl
  obtain ⟨W', hW⟩ : ∃ W', W' = W.gr c i k z n m hf hx hb := ⟨_, rfl⟩
  have ad' : W'.ad = gAd W c i k z n := by rw [hW]; rfl
  have di' : W'.di = gDi W c i k z n := by rw [hW]; rfl
  have lv' : W'.live = gLv W c i k n := by rw [hW]; rfl
  have r' : W'.r = W.r := by rw [hW]; rfl
  have e' : W'.e = gE W c i k n := by rw [hW]; rfl
  have n' : W'.n = gNn W c i k n m := by rw [hW]; rfl
  rw [← hW]
  unfold nwG
  rw [if_neg (fun h => h.elim (fun q => nn (by omega) q) (fun h => h.elim (fun q => nn (by omega) q) (fun h => h.elim (fun q => by rw [n_at (by omega)] at q; omega) (fun q => by rw [n_at (by omega)] at q; omega)))), n_at (by omega), n_at (by omega)]
  congr 1
  funext a
  have R : mem W' S a = match gDi W c i k z n a with | some x => cell W' S x | none => none := by
    show (match W'.di a with | some x => cell W' S x | none => none) = _
    rw [di']
  rw [R]
  by_cases a1 : a = z
  · rw [if_pos a1, show gDi W c i k z n a = some (.a c i k) from if_pos a1]
    show _ = cell W' S (.a c i k)
    unfold cell
    rw [if_pos (show W'.live (.a c i k) = true by rw [lv']; exact if_pos rfl)]
    show _ = some (Sum.inl ((kdA c).getD k 9, acl W' (S c i) (.a c i k) ((kdA c).getD k 9) k))
    rw [qd]
    unfold acl
    rw [if_neg (by decide), if_neg (by decide), show W'.n (.a c i k) = n by rw [n']; exact if_pos rfl]
    have : (fun j => (W'.e (.a c i k) j).map W'.ad) = fun j => if j < n then some (z + 1 + j) else none := by
      funext j
      rw [e', ad']
      unfold gE
      by_cases hj : j < n
      · rw [if_pos ⟨rfl, hj⟩, if_pos hj]
        exact congrArg some (g_b (W := W) (m := m) hj).1
      · rw [if_neg (fun q => hj q.2), if_neg hj, he j]
        rfl
    rw [this]
  · rw [if_neg a1]
    by_cases a2 : z < a ∧ a ≤ z + n
    · have gd : gDi W c i k z n a = some (.b c i k (a - z - 1)) := by
        unfold gDi
        rw [if_neg a1, if_pos a2]
      obtain ⟨b1, b2, b3⟩ := g_b (W := W) (c := c) (i := i) (k := k) (z := z) (m := m) (show a - z - 1 < n by omega)
      rw [if_pos a2, gd]
      show _ = cell W' S (.b c i k (a - z - 1))
      unfold cell
      rw [if_pos (by rw [lv']; exact b2)]
      show _ = some (Sum.inl (2, W'.n (.b c i k (a - z - 1)), Sum.inr (Sum.inl ((S c i).m k (a - z - 1)))) : mE)
      rw [hz, n', b3]
    · have gd : gDi W c i k z n a = W.di a := by
        unfold gDi
        rw [if_neg a1, if_neg a2]
      rw [if_neg a2, gd]
      show (match W.di a with | some x => cell W S x | none => none) = _
      cases ed : W.di a with
      | none => rfl
      | some x =>
        obtain ⟨lx, _⟩ := hf.2.2.1 a x ed
        have ox := g_old (n := n) hx hb lx
        have adl : ∀ t, W.live t = true → W'.ad t = W.ad t := fun t ht => by rw [ad']; exact gAd_o (g_old hx hb ht)
        show cell W S x = cell W' S x
        unfold cell
        rw [if_pos lx, if_pos (by rw [lv', gLv_o ox]; exact lx)]
        congr 1
        rcases x with ⟨c', i'⟩ | ⟨c', i', k'⟩ | ⟨c', i', k', j'⟩
        · show Sum.inr (c', fls W S c' i') = Sum.inr (c', fls W' S c' i')
          congr 2
          unfold fls
          congr 1
          funext k2 kd
          unfold fvl
          rw [r']
          cases er : W.r c' i' k2 with
          | none => rfl
          | some t => simp only [adl t (hf.1 c' i' k2 t er)]
        · show Sum.inl (_, acl W (S c' i') (.a c' i' k') _ k') = Sum.inl (_, acl W' (S c' i') (.a c' i' k') _ k')
          have ef : (fun j => (W'.e (.a c' i' k') j).map W'.ad) = fun j => (W.e (.a c' i' k') j).map W.ad := by
            funext j
            rw [e']
            unfold gE
            rw [if_neg (fun q => ox.1 q.1)]
            cases ee : W.e (.a c' i' k') j with
            | none => rfl
            | some t => exact congrArg some (adl t (hf.2.1 _ j t ee))
          unfold acl
          rw [ef, n', gNn_o ox]
        · show Sum.inl (2, W.n (.b c' i' k' j'), _) = Sum.inl (2, W'.n (.b c' i' k' j'), _)
          rw [n', gNn_o ox]
/-- rows of longs in a field -/
def grW (W : WR) (c i k n m : Nat) : Prop := W.r c i k = some (.a c i k) ∧ W.live (.a c i k) = true ∧ W.n (.a c i k) = n ∧ ∀ j, j < n → W.e (.a c i k) j = some (.b c i k j) ∧ W.live (.b c i k j) = true ∧ W.n (.b c i k j) = m
theorem WP.gr {W' : WR} (h : WP W W') (q : grW W c i k n m) : grW W' c i k n m := ⟨h.rr q.1, h.lv q.2.1, h.nn q.2.1 q.2.2.1, fun j hj => ⟨h.ee (q.2.2.2 j hj).1, h.lv (q.2.2.2 j hj).2.1, h.nn (q.2.2.2 j hj).2.1 (q.2.2.2 j hj).2.2⟩⟩
theorem WM.gr {W' : WR} (h : WM W W') (q : grW W c i k n m) : grW W' c i k n m := h.p.gr q
theorem st_grid {A : Nat} {ks : List Nat} (h : CN W z c i A ks) (k n m : Nat) (hk : k ∉ ks) (q : (kdA c)[k]? = some 6) (qf : (kdF c)[k]? = some 2) (hn : n ≤ 1000) (hm : m ≤ 1000) (hz : ∀ j, (S c i).m k j = fun _ => 0) : ∃ W', (∀ (β : Type) (K : mM → Option β), (bO (nwG (mem W S) z (Int32.ofNat n) (Int32.ofNat m)) fun M => bO (pfv M A c k (.ref z)) K) = K (mem W' S)) ∧ CN W' (z + (1 + n)) c i A (k :: ks) ∧ FX [(c, i)] W W' ∧ grW W' c i k n m := by
  obtain ⟨hf, u, hA⟩ := h
  obtain ⟨u1, u2, u3, u4⟩ := u.2 k hk
  have g := nwG_m (S := S) (n := n) (m := m) hf u1 u2 u4 q hn hm hz
  obtain ⟨W1, hW1⟩ : ∃ W1, W1 = W.gr c i k z n m hf u1 u2 := ⟨_, rfl⟩
  rw [← hW1] at g
  have ad1 : W1.ad = gAd W c i k z n := by rw [hW1]; rfl
  have di1 : W1.di = gDi W c i k z n := by rw [hW1]; rfl
  have lv1 : W1.live = gLv W c i k n := by rw [hW1]; rfl
  have r1 : W1.r = W.r := by rw [hW1]; rfl
  have e1 : W1.e = gE W c i k n := by rw [hW1]; rfl
  have n1 : W1.n = gNn W c i k n m := by rw [hW1]; rfl
  have lo1 : W1.lo = W.lo := by rw [hW1]; rfl
  have old : ∀ x, W.live x = true → x ≠ .a c i k ∧ bIx x c i k n = none := fun x hl => g_old u1 u2 hl
  have lvo : ∀ x, W.live x = true → W1.live x = true := fun x hl => by rw [lv1, gLv_o (old x hl)]; exact hl
  have ado : ∀ x, W.live x = true → W1.ad x = W.ad x := fun x hl => by rw [ad1, gAd_o (old x hl)]
  have no : ∀ x, W.live x = true → W1.n x = W.n x := fun x hl => by rw [n1, gNn_o (old x hl)]
  have lx : W1.live (.a c i k) = true := by rw [lv1]; exact if_pos rfl
  have ax : W1.ad (.a c i k) = z := by rw [ad1]; exact if_pos rfl
  have ao : W1.ad (.o c i) = A := by rw [ado _ u.1]; exact hA
  have l1 := lvo _ u.1
  have eo : ∀ y j t, W.e y j = some t → W1.e y j = some t := fun y j t e => by
    rw [e1]
    unfold gE
    rw [if_neg (fun q => by rw [q.1, u4 j] at e; exact absurd e (by simp))]
    exact e
  have p := pfR_m (W := W1) (S := S) (t := .a c i k) l1 qf
  rw [ax, ao] at p
  have wf1 : WF W1 (z + (1 + n)) := by
    obtain ⟨h1, h2, h3, h4⟩ := hf
    refine ⟨fun c' i' k' t e => ?_, fun y j t e => ?_, fun a x e => ?_, by rw [lo1]; omega⟩
    · rw [r1] at e
      exact lvo _ (h1 _ _ _ _ e)
    · rw [e1] at e
      unfold gE at e
      split at e
      · rename_i qq
        rw [← Option.some.inj e, lv1]
        exact (g_b (W := W) (z := z) (m := m) qq.2).2.1
      · exact lvo _ (h2 _ _ _ e)
    · rw [di1] at e
      unfold gDi at e
      split at e
      · rw [← Option.some.inj e]
        exact ⟨lx, by omega⟩
      · split at e
        · rename_i qq
          rw [← Option.some.inj e, lv1]
          exact ⟨(g_b (W := W) (z := z) (m := m) (by omega)).2.1, by omega⟩
        · have := h3 a x e
          exact ⟨lvo _ this.1, by omega⟩
  have nw_ : ∀ x : Cl, x ≠ .a c i k → (∀ j, x ≠ .b c i k j) → W1.live x = W.live x := fun x q1 q2 => by
    rw [lv1]
    refine gLv_o ⟨q1, ?_⟩
    cases e : bIx x c i k n with
    | none => rfl
    | some j => exact absurd (bIx_s e).1 (q2 j)
  have en : ∀ y j, y ≠ .a c i k → W1.e y j = W.e y j := fun y j q1 => by
    rw [e1]
    unfold gE
    rw [if_neg (fun q => q1 q.1)]
  refine ⟨W1.sr c i k (.a c i k), fun β K => by rw [g, bO_s, p, bO_s], ⟨WF.sr wf1 lx, ⟨l1, fun k' hk' => ?_⟩, ao⟩, ⟨⟨fun x hl => ⟨lvo x hl, ado x hl, no x hl⟩, fun c' i' k' t e => ?_, ⟨eo, fun y j hl => en y j (fun q => by rw [q, u1] at hl; exact absurd hl (by decide))⟩, lo1⟩, fun c' i' hn' => ⟨fun h => ?_, fun ks' h => ?_⟩⟩, sr_eq _ _ _ _ _, lx, by show W1.n _ = n; rw [n1]; exact if_pos rfl, fun j hj => ?_⟩
  · have n1 : k' ≠ k := fun e => hk' (by rw [e]; exact List.mem_cons_self)
    obtain ⟨a1, a2, a3, a4⟩ := u.2 k' (fun q => hk' (List.mem_cons_of_mem _ q))
    refine ⟨?_, fun j => ?_, ?_, fun j => ?_⟩
    · show W1.live _ = false
      rw [nw_ _ (by simp; exact n1) (by simp)]
      exact a1
    · show W1.live _ = false
      rw [nw_ _ (by simp) (by simp; first | exact n1 | exact fun _ => n1)]
      exact a2 j
    · rw [sr_ne (fun q => n1 q.2.2), r1]
      exact a3
    · show W1.e _ _ = none
      rw [en _ _ (by simp; exact n1)]
      exact a4 j
  · rw [sr_ne (fun q => by rw [q.1, q.2.1, q.2.2, u3] at e; exact absurd e (by simp)), r1]
    exact e
  · have ne : ¬ (c' = c ∧ i' = i) := fun q => hn' (by rw [q.1, q.2]; exact List.mem_singleton.mpr rfl)
    refine ⟨?_, fun k' => ?_, fun k' j => ?_, fun k' => ?_, fun k' j => ?_⟩
    · show W1.live _ = false
      rw [nw_ _ (by simp) (by simp)]
      exact h.1
    · show W1.live _ = false
      rw [nw_ _ (by simp; exact fun q1 q2 => absurd ⟨q1, q2⟩ ne) (by simp)]
      exact h.2.1 k'
    · show W1.live _ = false
      rw [nw_ _ (by simp) (fun j2 q => ne (cl_b q))]
      exact h.2.2.1 k' j
    · rw [sr_ne (fun q => ne ⟨q.1, q.2.1⟩), r1]
      exact h.2.2.2.1 k'
    · show W1.e _ _ = none
      rw [en _ _ (by simp; exact fun q1 q2 => absurd ⟨q1, q2⟩ ne)]
      exact h.2.2.2.2 k' j
  · have ne : ¬ (c' = c ∧ i' = i) := fun q => hn' (by rw [q.1, q.2]; exact List.mem_singleton.mpr rfl)
    refine ⟨lvo _ h.1, fun k' hk' => ?_⟩
    obtain ⟨a1, a2, a3, a4⟩ := h.2 k' hk'
    refine ⟨?_, fun j => ?_, ?_, fun j => ?_⟩
    · show W1.live _ = false
      rw [nw_ _ (by simp; exact fun q1 q2 => absurd ⟨q1, q2⟩ ne) (by simp)]
      exact a1
    · show W1.live _ = false
      rw [nw_ _ (by simp) (fun j2 q => ne (cl_b q))]
      exact a2 j
    · rw [sr_ne (fun q => ne ⟨q.1, q.2.1⟩), r1]
      exact a3
    · show W1.e _ _ = none
      rw [en _ _ (by simp; exact fun q1 q2 => absurd ⟨q1, q2⟩ ne)]
      exact a4 j
  · obtain ⟨b1, b2, b3⟩ := g_b (W := W) (c := c) (i := i) (k := k) (z := z) (m := m) hj
    refine ⟨?_, ?_, ?_⟩
    · show W1.e _ _ = _
      rw [e1]
      exact if_pos ⟨rfl, hj⟩
    · show W1.live _ = true
      rw [lv1]
      exact b2
    · show W1.n _ = m
      rw [n1]
      exact b3
end GRD
