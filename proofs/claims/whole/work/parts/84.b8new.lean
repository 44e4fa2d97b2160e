/-! NEW OBJECTS: the steps of constructors -/
def frS (W : WR) (c i : Nat) : Prop := W.live (.o c i) = false ∧ (∀ k, W.live (.a c i k) = false) ∧ (∀ k j, W.live (.b c i k j) = false) ∧ (∀ k, W.r c i k = none) ∧ ∀ k j, W.e (.a c i k) j = none
/-- what was there stays as it was -/
def WP (W W' : WR) : Prop := (∀ x, W.live x = true → W'.live x = true ∧ W'.ad x = W.ad x ∧ W'.n x = W.n x) ∧ (∀ c i k t, W.r c i k = some t → W'.r c i k = some t) ∧ (∀ y j t, W.e y j = some t → W'.e y j = some t) ∧ W'.lo = W.lo
/-- and no array that was there has another thing in it -/
def WM (W W' : WR) : Prop := (∀ x, W.live x = true → W'.live x = true ∧ W'.ad x = W.ad x ∧ W'.n x = W.n x) ∧ (∀ c i k t, W.r c i k = some t → W'.r c i k = some t) ∧ ((∀ y j t, W.e y j = some t → W'.e y j = some t) ∧ ∀ y j, W.live y = true → W'.e y j = W.e y j) ∧ W'.lo = W.lo
/-- an object that is being made: the fields ks have been set -/
def UC (W : WR) (c i : Nat) (ks : List Nat) : Prop := W.live (.o c i) = true ∧ ∀ k, k ∉ ks → W.live (.a c i k) = false ∧ (∀ j, W.live (.b c i k j) = false) ∧ W.r c i k = none ∧ ∀ j, W.e (.a c i k) j = none
def FX (L : List (Nat × Nat)) (W W' : WR) : Prop := WM W W' ∧ ∀ c i, (c, i) ∉ L → (frS W c i → frS W' c i) ∧ ∀ ks, UC W c i ks → UC W' c i ks
def CN (W : WR) (z c i A : Nat) (ks : List Nat) : Prop := WF W z ∧ UC W c i ks ∧ W.ad (.o c i) = A
theorem WM.p {W W' : WR} (h : WM W W') : WP W W' := ⟨h.1, h.2.1, h.2.2.1.1, h.2.2.2⟩
theorem WP.refl (W : WR) : WP W W := ⟨fun _ h => ⟨h, rfl, rfl⟩, fun _ _ _ _ h => h, fun _ _ _ h => h, rfl⟩
theorem WP.trans {W W1 W2 : WR} (h1 : WP W W1) (h2 : WP W1 W2) : WP W W2 := ⟨fun x h => by
  obtain ⟨a1, a2, a3⟩ := h1.1 x h
  obtain ⟨b1, b2, b3⟩ := h2.1 x a1
  exact ⟨b1, b2.trans a2, b3.trans a3⟩, fun c i k t h => h2.2.1 c i k t (h1.2.1 c i k t h), fun y j t h => h2.2.2.1 y j t (h1.2.2.1 y j t h), h2.2.2.2.trans h1.2.2.2⟩
theorem WM.refl (W : WR) : WM W W := ⟨fun _ h => ⟨h, rfl, rfl⟩, fun _ _ _ _ h => h, ⟨fun _ _ _ h => h, fun _ _ _ => rfl⟩, rfl⟩
theorem WM.trans {W W1 W2 : WR} (h1 : WM W W1) (h2 : WM W1 W2) : WM W W2 := ⟨fun x h => by
  obtain ⟨a1, a2, a3⟩ := h1.1 x h
  obtain ⟨b1, b2, b3⟩ := h2.1 x a1
  exact ⟨b1, b2.trans a2, b3.trans a3⟩, fun c i k t h => h2.2.1 c i k t (h1.2.1 c i k t h), ⟨fun y j t h => h2.2.2.1.1 y j t (h1.2.2.1.1 y j t h), fun y j hl => (h2.2.2.1.2 y j (h1.1 y hl).1).trans (h1.2.2.1.2 y j hl)⟩, h2.2.2.2.trans h1.2.2.2⟩
theorem FX.refl (L : List (Nat × Nat)) (W : WR) : FX L W W := ⟨WM.refl W, fun _ _ _ => ⟨fun h => h, fun _ h => h⟩⟩
theorem FX.trans {L : List (Nat × Nat)} {W W1 W2 : WR} (h1 : FX L W W1) (h2 : FX L W1 W2) : FX L W W2 := ⟨h1.1.trans h2.1, fun c i hn => ⟨fun h => (h2.2 c i hn).1 ((h1.2 c i hn).1 h), fun ks h => (h2.2 c i hn).2 ks ((h1.2 c i hn).2 ks h)⟩⟩
theorem FX.mono {L L' : List (Nat × Nat)} {W W1 : WR} (h : FX L W W1) (hs : ∀ x ∈ L, x ∈ L') : FX L' W W1 := ⟨h.1, fun c i hn => h.2 c i (fun q => hn (hs _ q))⟩
theorem WP.lv {W W' : WR} (h : WP W W') {x : Cl} (q : W.live x = true) : W'.live x = true := (h.1 x q).1
theorem WP.nn {W W' : WR} (h : WP W W') {x : Cl} {n : Nat} (q : W.live x = true) (e : W.n x = n) : W'.n x = n := (h.1 x q).2.2.trans e
theorem WP.rr {W W' : WR} (h : WP W W') {c i k : Nat} {t : Cl} (e : W.r c i k = some t) : W'.r c i k = some t := h.2.1 c i k t e
theorem WP.ee {W W' : WR} (h : WP W W') {y : Cl} {j : Nat} {t : Cl} (e : W.e y j = some t) : W'.e y j = some t := h.2.2.1 y j t e
theorem WP.ha {W W' : WR} (h : WP W W') {c i k n : Nat} (q : hasA W c i k n) : hasA W' c i k n := ⟨h.lv q.1, h.rr q.2.1, h.nn q.1 q.2.2.1, q.2.2.2⟩
theorem WP.b {W W' : WR} (h : WP W W') {i n : Nat} (q : isB W i n) : isB W' i n := ⟨h.lv q.1, h.lv q.2.1, h.rr q.2.2.1, h.nn q.2.1 q.2.2.2.1, q.2.2.2.2⟩
theorem WM.lv {W W' : WR} (h : WM W W') {x : Cl} (q : W.live x = true) : W'.live x = true := h.p.lv q
theorem WM.nn {W W' : WR} (h : WM W W') {x : Cl} {n : Nat} (q : W.live x = true) (e : W.n x = n) : W'.n x = n := h.p.nn q e
theorem WM.rr {W W' : WR} (h : WM W W') {c i k : Nat} {t : Cl} (e : W.r c i k = some t) : W'.r c i k = some t := h.p.rr e
theorem WM.ha {W W' : WR} (h : WM W W') {c i k n : Nat} (q : hasA W c i k n) : hasA W' c i k n := h.p.ha q
theorem WM.b {W W' : WR} (h : WM W W') {i n : Nat} (q : isB W i n) : isB W' i n := h.p.b q
theorem WF.sr {W : WR} {z c i k : Nat} {t : Cl} (h : WF W z) (ht : W.live t = true) : WF (W.sr c i k t) z := by
  obtain ⟨h1, h2, h3, h4⟩ := h
  refine ⟨fun c' i' k' t' e => ?_, h2, h3, h4⟩
  by_cases q : c' = c ∧ i' = i ∧ k' = k
  · have : (W.sr c i k t).r c' i' k' = some t := by rw [q.1, q.2.1, q.2.2]; exact sr_eq _ _ _ _ _
    rw [this] at e
    rw [← Option.some.inj e]
    exact ht
  · rw [sr_ne q] at e
    exact h1 _ _ _ _ e
theorem WF.se {W : WR} {z j : Nat} {x t : Cl} (h : WF W z) (ht : W.live t = true) : WF (W.se x j t) z := by
  obtain ⟨h1, h2, h3, h4⟩ := h
  refine ⟨h1, fun x' j' t' e => ?_, h3, h4⟩
  by_cases q : x' = x ∧ j' = j
  · have : (W.se x j t).e x' j' = some t := by rw [q.1, q.2]; exact se_eq _ _ _ _
    rw [this] at e
    rw [← Option.some.inj e]
    exact ht
  · rw [se_ne q] at e
    exact h2 _ _ _ e
section STP
variable {W : WR} {G : mG} {F : Nat} {S : ST} {c i k n z A : Nat} {ks : List Nat}
theorem zO_so (hz : S c i = zOb) : S.so c i zOb = S := by rw [← hz]; exact so_self S c i
theorem st_new (hf : WF W z) (hv : frS W c i) (hz : S c i = zOb) : ∃ W', nwO (mem W S) z c (dfK c) = mem W' S ∧ CN W' (z + 1) c i z [] ∧ FX [(c, i)] W W' := by
  obtain ⟨v1, v2, v3, v4, v5⟩ := hv
  have g := nwO_m (S := S) hf v1 v2 v3 v4
  rw [zO_so hz] at g
  have lo : ∀ x : Cl, x ≠ .o c i → (W.nw (.o c i) z 0 hf v1).live x = W.live x := fun x hx => if_neg hx
  refine ⟨_, g, ⟨WF.nw, ⟨if_pos rfl, fun k _ => ⟨?_, fun j => ?_, v4 k, v5 k⟩⟩, nw_x⟩, ⟨fun x h => ⟨nw_lv h, nw_adl h, nw_nl h⟩, fun _ _ _ _ h => h, ⟨fun _ _ _ h => h, fun _ _ _ => rfl⟩, rfl⟩, fun c' i' hn => ⟨fun h => ?_, fun ks h => ?_⟩⟩
  · rw [lo _ (by simp)]
    exact v2 k
  · rw [lo _ (by simp)]
    exact v3 k j
  · have ne : (Cl.o c' i') ≠ Cl.o c i := fun q => hn (by have := Sum.inl.inj q; rw [this]; exact List.mem_singleton.mpr rfl)
    exact ⟨by rw [lo _ ne]; exact h.1, fun k => by rw [lo _ (by simp)]; exact h.2.1 k, fun k j => by rw [lo _ (by simp)]; exact h.2.2.1 k j, h.2.2.2.1, h.2.2.2.2⟩
  · refine ⟨nw_lv h.1, fun k hk => ?_⟩
    obtain ⟨a1, a2, a3, a4⟩ := h.2 k hk
    exact ⟨by rw [lo _ (by simp)]; exact a1, fun j => by rw [lo _ (by simp)]; exact a2 j, a3, a4⟩
theorem nwA_z {kk : Nat} (hf : WF W z) (hx : W.live (.a c i k) = false) (q : (kdA c)[k]? = some kk) (hn : n ≤ 1000000) (hz : acl (W.nw (.a c i k) z n hf hx) (S c i) (.a c i k) kk k = zeroA kk n) : nwA (mem W S) z kk (Int32.ofNat n) = some (mem (W.nw (.a c i k) z n hf hx) S) := by
  have qd : (kdA c).getD k 9 = kk := by rw [List.getD_eq_getElem?_getD, q]; rfl
  unfold nwA
  rw [if_neg (fun h => h.elim (fun q => nn (by omega) q) (fun q => by rw [n_at (by omega)] at q; omega)), n_at (by omega)]
  congr 1
  refine nw_mem ?_ (fun y hy ly => ?_)
  · show Sum.inl ((kdA c).getD k 9, acl _ (S c i) (.a c i k) ((kdA c).getD k 9) k) = Sum.inl (kk, zeroA kk n)
    rw [qd, hz]
  · rcases y with ⟨c', i'⟩ | ⟨c', i', k'⟩ | ⟨c', i', k', j'⟩
    · show Sum.inr (c', fls _ S c' i') = Sum.inr (c', fls W S c' i')
      rw [nw_fls rfl]
    · show Sum.inl (_, acl _ (S c' i') (.a c' i' k') _ k') = Sum.inl (_, acl W (S c' i') (.a c' i' k') _ k')
      rw [nw_acl ly rfl rfl]
    · show Sum.inl (2, _, _) = Sum.inl (2, W.n (.b c' i' k' j'), _)
      rw [nw_nl ly]
def zAr (S : ST) (c i k kk : Nat) : Prop := if kk = 2 then (S c i).l k = fun _ => 0 else if kk < 4 then (S c i).a k = fun _ => 0 else True
theorem st_arrE {kk : Nat} (h : CN W z c i A ks) (k : Nat) (n : Nat) (hk : k ∉ ks) (q : (kdA c)[k]? = some kk) (qf : (kdF c)[k]? = some 2) (hn : n ≤ 1000000) (hz : zAr S c i k kk) : ∃ W', (∀ (β : Type) (K : mM → Option β), (bO (nwA (mem W S) z kk (Int32.ofNat n)) fun M => bO (pfv M A c k (.ref z)) K) = K (mem W' S)) ∧ CN W' (z + 1) c i A (k :: ks) ∧ FX [(c, i)] W W' ∧ hasA W' c i k n ∧ ∀ j, W'.e (.a c i k) j = none := by
  obtain ⟨hf, u, hA⟩ := h
  obtain ⟨u1, u2, u3, u4⟩ := u.2 k hk
  have g := nwA_z (S := S) (n := n) hf u1 q hn (by
    unfold acl zeroA
    unfold zAr at hz
    rw [nw_n, if_pos rfl]
    split
    · rename_i e
      rw [if_pos e] at hz
      rw [hz]
    · rename_i e
      rw [if_neg e] at hz
      split
      · rename_i e2
        rw [if_pos e2] at hz
        rw [hz]
      · have : (fun j => ((W.nw (.a c i k) z n hf u1).e (.a c i k) j).map (W.nw (.a c i k) z n hf u1).ad) = fun _ => none := by
          funext j
          rw [nw_e, u4 j]
          rfl
        rw [this])
  obtain ⟨W1, hW1⟩ : ∃ W1, W1 = W.nw (.a c i k) z n hf u1 := ⟨_, rfl⟩
  have l1 : W1.live (.o c i) = true := by rw [hW1]; exact nw_lv u.1
  have lx : W1.live (.a c i k) = true := by rw [hW1]; exact if_pos rfl
  have nx : W1.n (.a c i k) = n := by rw [hW1]; exact if_pos rfl
  have ax : W1.ad (.a c i k) = z := by rw [hW1]; exact nw_x
  have ao : W1.ad (.o c i) = A := by rw [hW1, nw_adl u.1]; exact hA
  have p := pfR_m (W := W1) (S := S) (t := .a c i k) l1 qf
  rw [ax, ao] at p
  rw [← hW1] at g
  have lo : ∀ x : Cl, x ≠ .a c i k → W1.live x = W.live x := fun x hx => by rw [hW1]; exact if_neg hx
  have r1 : W1.r = W.r := by rw [hW1]; rfl
  have e1 : W1.e = W.e := by rw [hW1]; rfl
  refine ⟨W1.sr c i k (.a c i k), fun β K => by rw [g, bO_s, p, bO_s], ⟨WF.sr (by rw [hW1]; exact WF.nw) lx, ⟨l1, fun k' hk' => ?_⟩, ao⟩, ⟨⟨fun x hl => ?_, fun c' i' k' t e => ?_, ⟨fun y j t e => ?_, fun y j _ => by show W1.e y j = W.e y j; rw [e1]⟩, by show W1.lo = W.lo; rw [hW1]; rfl⟩, fun c' i' hn' => ⟨fun h => ?_, fun ks' h => ?_⟩⟩, ⟨lx, sr_eq _ _ _ _ _, nx, by omega⟩, fun j => by show W1.e _ j = none; rw [e1]; exact u4 j⟩
  · have n1 : k' ≠ k := fun e => hk' (by rw [e]; exact List.mem_cons_self)
    obtain ⟨a1, a2, a3, a4⟩ := u.2 k' (fun q => hk' (List.mem_cons_of_mem _ q))
    refine ⟨?_, fun j => ?_, ?_, fun j => ?_⟩
    · show W1.live _ = false
      rw [lo _ (by simp; exact n1)]
      exact a1
    · show W1.live _ = false
      rw [lo _ (by simp)]
      exact a2 j
    · rw [sr_ne (fun q => n1 q.2.2), r1]
      exact a3
    · show W1.e _ _ = none
      rw [e1]
      exact a4 j
  · show W1.live x = true ∧ W1.ad x = W.ad x ∧ W1.n x = W.n x
    rw [hW1]
    exact ⟨nw_lv hl, nw_adl hl, nw_nl hl⟩
  · rw [sr_ne (fun q => by rw [q.1, q.2.1, q.2.2, u3] at e; exact absurd e (by simp)), r1]
    exact e
  · show W1.e y j = some t
    rw [e1]
    exact e
  · have ne : ¬ (c' = c ∧ i' = i) := fun q => hn' (by rw [q.1, q.2]; exact List.mem_singleton.mpr rfl)
    refine ⟨?_, fun k' => ?_, fun k' j => ?_, fun k' => ?_, fun k' j => ?_⟩
    · show W1.live _ = false
      rw [lo _ (by simp)]
      exact h.1
    · show W1.live _ = false
      rw [lo _ (by simp; exact fun q1 q2 => absurd ⟨q1, q2⟩ ne)]
      exact h.2.1 k'
    · show W1.live _ = false
      rw [lo _ (by simp)]
      exact h.2.2.1 k' j
    · rw [sr_ne (fun q => ne ⟨q.1, q.2.1⟩), r1]
      exact h.2.2.2.1 k'
    · show W1.e _ _ = none
      rw [e1]
      exact h.2.2.2.2 k' j
  · have ne : ¬ (c' = c ∧ i' = i) := fun q => hn' (by rw [q.1, q.2]; exact List.mem_singleton.mpr rfl)
    refine ⟨by show W1.live _ = true; rw [hW1]; exact nw_lv h.1, fun k' hk' => ?_⟩
    obtain ⟨a1, a2, a3, a4⟩ := h.2 k' hk'
    refine ⟨?_, fun j => ?_, ?_, fun j => ?_⟩
    · show W1.live _ = false
      rw [lo _ (by simp; exact fun q1 q2 => absurd ⟨q1, q2⟩ ne)]
      exact a1
    · show W1.live _ = false
      rw [lo _ (by simp)]
      exact a2 j
    · rw [sr_ne (fun q => ne ⟨q.1, q.2.1⟩), r1]
      exact a3
    · show W1.e _ _ = none
      rw [e1]
      exact a4 j
theorem st_arr {kk : Nat} (h : CN W z c i A ks) (k : Nat) (n : Nat) (hk : k ∉ ks) (q : (kdA c)[k]? = some kk) (qf : (kdF c)[k]? = some 2) (hn : n ≤ 1000000) (hz : zAr S c i k kk) : ∃ W', (∀ (β : Type) (K : mM → Option β), (bO (nwA (mem W S) z kk (Int32.ofNat n)) fun M => bO (pfv M A c k (.ref z)) K) = K (mem W' S)) ∧ CN W' (z + 1) c i A (k :: ks) ∧ FX [(c, i)] W W' ∧ hasA W' c i k n := by
  obtain ⟨W', g, c, f, a, _⟩ := st_arrE (S := S) h k n hk q qf hn hz
  exact ⟨W', g, c, f, a⟩
theorem st_ref {t : Cl} (h : CN W z c i A ks) (k : Nat) {B : Nat} (hk : k ∉ ks) (qf : (kdF c)[k]? = some 2) (ht : W.live t = true) (hB : W.ad t = B) : ∃ W', pfv (mem W S) A c k (.ref B) = some (mem W' S) ∧ CN W' z c i A (k :: ks) ∧ FX [(c, i)] W W' ∧ W'.r c i k = some t := by
  obtain ⟨hf, u, hA⟩ := h
  obtain ⟨u1, u2, u3, u4⟩ := u.2 k hk
  have p := pfR_m (W := W) (S := S) (t := t) u.1 qf
  rw [hA, hB] at p
  refine ⟨W.sr c i k t, p, ⟨hf.sr ht, ⟨u.1, fun k' hk' => ?_⟩, hA⟩, ⟨⟨fun x hl => ⟨hl, rfl, rfl⟩, fun c' i' k' t' e => ?_, ⟨fun y j t e => e, fun _ _ _ => rfl⟩, rfl⟩, fun c' i' hn' => ⟨fun h => ?_, fun ks' h => ?_⟩⟩, sr_eq _ _ _ _ _⟩
  · have n1 : k' ≠ k := fun e => hk' (by rw [e]; exact List.mem_cons_self)
    obtain ⟨a1, a2, a3, a4⟩ := u.2 k' (fun q => hk' (List.mem_cons_of_mem _ q))
    exact ⟨a1, a2, by rw [sr_ne (fun q => n1 q.2.2)]; exact a3, a4⟩
  · rw [sr_ne (fun q => by rw [q.1, q.2.1, q.2.2, u3] at e; exact absurd e (by simp))]
    exact e
  · have ne : ¬ (c' = c ∧ i' = i) := fun q => hn' (by rw [q.1, q.2]; exact List.mem_singleton.mpr rfl)
    exact ⟨h.1, h.2.1, h.2.2.1, fun k' => by rw [sr_ne (fun q => ne ⟨q.1, q.2.1⟩)]; exact h.2.2.2.1 k', h.2.2.2.2⟩
  · have ne : ¬ (c' = c ∧ i' = i) := fun q => hn' (by rw [q.1, q.2]; exact List.mem_singleton.mpr rfl)
    refine ⟨h.1, fun k' hk' => ?_⟩
    obtain ⟨a1, a2, a3, a4⟩ := h.2 k' hk'
    exact ⟨a1, a2, by rw [sr_ne (fun q => ne ⟨q.1, q.2.1⟩)]; exact a3, a4⟩
/-- one that goes on with an object after others were made -/
theorem CN.go {W' : WR} {z' : Nat} {L : List (Nat × Nat)} (h : CN W z c i A ks) (hx : FX L W W') (hf : WF W' z') (hn : (c, i) ∉ L) : CN W' z' c i A ks := ⟨hf, (hx.2 c i hn).2 ks h.2.1, (hx.1.1 _ h.2.1.1).2.1.trans h.2.2⟩
theorem zB_byt {room : Nat} : Byt room zOb [] false := ⟨rfl, fun j x h => absurd h (by simp), rfl, Nat.zero_le _⟩
theorem st_B0 {ν room sl : Nat} (hf : WF W z) (hv : frS W 0 ν) (hz : S 0 ν = zOb) (hr : room ≤ 1000000) : ∃ W', (∀ (β : Type) (K : mM → Nat → Nat → Option β), (bO (some (nwO (mem W S) z 0 dfX0)) fun M => bA (P_X0_init G F z (Int32.ofNat room) M (z + 1) (sl + 3)) K) = K (mem W' S) (z + 2) (sl + 3 + room)) ∧ WF W' (z + 2) ∧ FX [(0, ν)] W W' ∧ isB W' ν room ∧ W'.ad (.o 0 ν) = z := by
  obtain ⟨W1, g1, c1, f1⟩ := st_new (S := S) hf hv hz
  obtain ⟨W2, g2, c2, f2, a2⟩ := st_arr (S := S) c1 0 room (by simp) rfl rfl hr (show (S 0 ν).a 0 = _ by rw [hz]; rfl)
  refine ⟨W2, fun β K => ?_, c2.1, f1.trans f2, ⟨c2.2.1.1, a2⟩, c2.2.2⟩
  rw [bO_s, show nwO (mem W S) z 0 dfX0 = mem W1 S from g1]
  unfold P_X0_init
  rw [if_neg (nn (by omega)), g2, n_at (by omega)]
  rfl
/-- a new Bytes in a field -/
theorem st_byt (h : CN W z c i A ks) (k ν room : Nat) {sl : Nat} (hk : k ∉ ks) (qf : (kdF c)[k]? = some 2) (hv : frS W 0 ν) (hz : S 0 ν = zOb) (hr : room ≤ 1000000) (hc : c ≠ 0) : ∃ W', (∀ (β : Type) (K : mM → Nat → Nat → Option β), (bO (some (nwO (mem W S) z 0 dfX0)) fun M => bA (P_X0_init G F z (Int32.ofNat room) M (z + 1) (sl + 3)) fun M1 z1 k1 => bO (pfv M1 A c k (.ref z)) fun M2 => K M2 z1 k1) = K (mem W' S) (z + 2) (sl + 3 + room)) ∧ CN W' (z + 2) c i A (k :: ks) ∧ FX [(c, i), (0, ν)] W W' ∧ W'.r c i k = some (.o 0 ν) ∧ isB W' ν room := by
  obtain ⟨W1, g1, f1, x1, b1, a1⟩ := st_B0 (G := G) (F := F) (S := S) (sl := sl) h.1 hv hz hr
  have c1 := h.go x1 f1 (by simp; exact fun q => absurd q hc)
  obtain ⟨W2, g2, c2, f2, r2⟩ := st_ref (S := S) c1 k hk qf b1.1 a1
  refine ⟨W2, fun β K => ?_, c2, (x1.mono (by simp)).trans (f2.mono (by simp)), r2, f2.1.b b1⟩
  rw [g1, g2]
  rfl
/-- a new object -/
theorem st_obj (hf : WF W z) (hv : frS W c i) (hz : S c i = zOb) {df : List Value} (hd : df = dfK c) : ∃ W', (∀ (β : Type) (K : mM → Option β), (bO (some (nwO (mem W S) z c df)) K) = K (mem W' S)) ∧ CN W' (z + 1) c i z [] ∧ FX [(c, i)] W W' := by
  obtain ⟨W1, g1, c1, f1⟩ := st_new (S := S) hf hv hz
  exact ⟨W1, fun β K => by rw [bO_s, hd, g1], c1, f1⟩
end STP
