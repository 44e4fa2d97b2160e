/-! NEW OBJECTS AND ARRAYS -/
/-- what is wired stands; nothing stands from z on -/
def WF (W : WR) (z : Nat) : Prop := (∀ c i k t, W.r c i k = some t → W.live t = true) ∧ (∀ y j t, W.e y j = some t → W.live t = true) ∧ (∀ a c, W.di a = some c → W.live c = true ∧ a < z) ∧ W.lo ≤ z
theorem nw_ok {W : WR} {x : Cl} {a : Nat} (hf : WF W a) (hx : W.live x = false) (n : Nat) : WOK ((fun c => if c = x then a else W.ad c), (fun y => if y = a then some x else W.di y), W.lo, (fun c => if c = x then true else W.live c), W.r, W.e, fun c => if c = x then n else W.n c) := by
  obtain ⟨h1, h2, h3, h4⟩ := hf
  have hxd : ∀ y, W.di y ≠ some x := fun y e => by have := (h3 y x e).1; rw [hx] at this; exact absurd this (by decide)
  have had : W.di a = none := by
    cases e : W.di a with
    | none => rfl
    | some c => exact absurd (h3 a c e).2 (Nat.lt_irrefl _)
  refine ⟨fun y c e => ?_, fun y c e => ?_, fun c e => ?_⟩
  · show (if c = x then a else W.ad c) = y
    have e : (if y = a then some x else W.di y) = some c := e
    split at e
    · rename_i q
      rw [if_pos (Option.some.inj e).symm, q]
    · rw [if_neg (fun q => hxd y (by rw [← q]; exact e))]
      exact W.inv y c e
  · have e : (if y = a then some x else W.di y) = some c := e
    show W.lo ≤ y
    split at e
    · rename_i q
      rw [q]
      exact h4
    · exact W.low y c e
  · show (if (if c = x then a else W.ad c) = a then some x else W.di (if c = x then a else W.ad c)) = some c
    have e : (if c = x then true else W.live c) = true := e
    by_cases q : c = x
    · rw [if_pos q, if_pos rfl, q]
    · rw [if_neg q] at e
      have hc := W.ok c e
      have ne : W.ad c ≠ a := fun q2 => by rw [q2, had] at hc; exact absurd hc (by simp)
      rw [if_neg q, if_neg ne]
      exact hc
def WR.nw (W : WR) (x : Cl) (a n : Nat) (hf : WF W a) (hx : W.live x = false) : WR := ⟨_, nw_ok hf hx n⟩
section NEW
variable {W : WR} {S : ST} {x : Cl} {a n : Nat} {hf : WF W a} {hx : W.live x = false}
theorem nw_ad (c : Cl) : (W.nw x a n hf hx).ad c = if c = x then a else W.ad c := rfl
theorem nw_x : (W.nw x a n hf hx).ad x = a := if_pos rfl
theorem nw_o {c : Cl} (h : c ≠ x) : (W.nw x a n hf hx).ad c = W.ad c := if_neg h
theorem nw_live (c : Cl) : (W.nw x a n hf hx).live c = if c = x then true else W.live c := rfl
theorem nw_lv {c : Cl} (h : W.live c = true) : (W.nw x a n hf hx).live c = true := by
  rw [nw_live]
  split
  · rfl
  · exact h
theorem nw_r : (W.nw x a n hf hx).r = W.r := rfl
theorem nw_e : (W.nw x a n hf hx).e = W.e := rfl
theorem nw_lo : (W.nw x a n hf hx).lo = W.lo := rfl
theorem nw_n (c : Cl) : (W.nw x a n hf hx).n c = if c = x then n else W.n c := rfl
theorem nw_adl {c : Cl} (h : W.live c = true) : (W.nw x a n hf hx).ad c = W.ad c := nw_o (fun e => by rw [e, hx] at h; exact absurd h (by decide))
theorem nw_nl {c : Cl} (h : W.live c = true) : (W.nw x a n hf hx).n c = W.n c := by
  rw [nw_n, if_neg (fun e => by rw [e, hx] at h; exact absurd h (by decide))]
theorem WF.nw : WF (W.nw x a n hf hx) (a + 1) := by
  obtain ⟨h1, h2, h3, h4⟩ := hf
  refine ⟨fun c i k t e => nw_lv (h1 c i k t e), fun y j t e => nw_lv (h2 y j t e), fun y c e => ?_, by show W.lo ≤ a + 1; omega⟩
  have e : (if y = a then some x else W.di y) = some c := e
  split at e
  · rename_i q
    rw [← Option.some.inj e]
    exact ⟨if_pos rfl, by omega⟩
  · have := h3 y c e
    exact ⟨nw_lv this.1, by omega⟩
/-- the memory with one more cell -/
theorem nw_mem {S' : ST} {e : mE} (he : cellB (W.nw x a n hf hx) S' x = e) (hd : ∀ y, y ≠ x → W.live y = true → cellB (W.nw x a n hf hx) S' y = cellB W S y) : va_up (mem W S) a (some e) = mem (W.nw x a n hf hx) S' := by
  funext y
  unfold va_up mem
  show (if y = a then some e else _) = match (if y = a then some x else W.di y) with | some c => cell (W.nw x a n hf hx) S' c | none => none
  by_cases q : y = a
  · rw [if_pos q, if_pos q]
    show some e = cell _ S' x
    unfold cell
    rw [if_pos (show (W.nw x a n hf hx).live x = true from if_pos rfl), he]
  · rw [if_neg q, if_neg q]
    cases e1 : W.di y with
    | none => rfl
    | some c =>
      have lc := (hf.2.2.1 y c e1).1
      have nc : c ≠ x := fun e => by rw [e, hx] at lc; exact absurd lc (by decide)
      show cell W S c = cell (W.nw x a n hf hx) S' c
      unfold cell
      rw [if_pos lc, if_pos (nw_lv lc), hd c nc lc]
theorem nw_fls {c i : Nat} {S' : ST} (hS : S' c i = S c i) : fls (W.nw x a n hf hx) S' c i = fls W S c i := by
  unfold fls
  rw [hS]
  congr 1
  funext k kd
  unfold fvl
  rw [nw_r]
  cases e : W.r c i k with
  | none => rfl
  | some t =>
    have e2 := nw_adl (n := n) (hf := hf) (hx := hx) (hf.1 c i k t e)
    simp only [e2]
theorem nw_acl {c i k kk : Nat} {o o' : Ob} (hl : W.live (.a c i k) = true) (h1 : o'.a k = o.a k) (h2 : o'.l k = o.l k) : acl (W.nw x a n hf hx) o' (.a c i k) kk k = acl W o (.a c i k) kk k := by
  have ef : (fun j => ((W.nw x a n hf hx).e (.a c i k) j).map (W.nw x a n hf hx).ad) = fun j => (W.e (.a c i k) j).map W.ad := by
    funext j
    rw [nw_e]
    cases e : W.e (.a c i k) j with
    | none => rfl
    | some t => exact congrArg some (nw_adl (hf.2.1 _ j t e))
  unfold acl
  rw [nw_nl hl, ef, h1, h2]
end NEW
def zOb : Ob := .mk (fun _ => 0) (fun _ => 0) (fun _ _ => 0) (fun _ _ => 0) (fun _ _ _ => 0)
def dfK (c : Nat) : List Value := (kdF c).map fun kd => if kd = 0 then .int 0 else if kd = 1 then .long 0 else .null
section NEW2
variable {W : WR} {S : ST} {c i a : Nat}
theorem nwO_m (hf : WF W a) (hx : W.live (.o c i) = false) (ha : ∀ k, W.live (.a c i k) = false) (hb : ∀ k j, W.live (.b c i k j) = false) (hr : ∀ k, W.r c i k = none) : nwO (mem W S) a c (dfK c) = mem (W.nw (.o c i) a 0 hf hx) (S.so c i zOb) := by
  refine nw_mem ?_ (fun y hy ly => ?_)
  · show Sum.inr (c, fls (W.nw (.o c i) a 0 hf hx) (S.so c i zOb) c i) = Sum.inr (c, dfK c)
    congr 2
    apply List.ext_getElem?
    intro k
    unfold fls dfK
    rw [List.getElem?_mapIdx, List.getElem?_map]
    cases (kdF c)[k]? with
    | none => rfl
    | some kd =>
      show some (fvl _ _ c i k kd) = some _
      congr 1
      unfold fvl
      rw [nw_r, hr k, so_eq]
      rfl
  · rcases y with ⟨c', i'⟩ | ⟨c', i', k'⟩ | ⟨c', i', k', j'⟩
    · have hn : ¬ (c' = c ∧ i' = i) := fun h => hy (by rw [h.1, h.2])
      show Sum.inr (c', fls _ (S.so c i zOb) c' i') = Sum.inr (c', fls W S c' i')
      rw [nw_fls (so_ne hn)]
    · have hn : ¬ (c' = c ∧ i' = i) := fun h => by
        have ly : W.live (.a c' i' k') = true := ly
        rw [h.1, h.2, ha k'] at ly
        exact absurd ly (by decide)
      show Sum.inl (_, acl _ (S.so c i zOb c' i') (.a c' i' k') _ k') = Sum.inl (_, acl W (S c' i') (.a c' i' k') _ k')
      rw [so_ne hn, nw_acl ly rfl rfl]
    · have hn : ¬ (c' = c ∧ i' = i) := fun h => by
        have ly : W.live (.b c' i' k' j') = true := ly
        rw [h.1, h.2, hb k' j'] at ly
        exact absurd ly (by decide)
      show Sum.inl (2, _, _) = Sum.inl (2, W.n (.b c' i' k' j'), _)
      rw [nw_nl ly, so_ne hn]
theorem nwA_m {k kk n : Nat} (hf : WF W a) (hx : W.live (.a c i k) = false) (q : (kdA c)[k]? = some kk) (q1 : kk < 4) (q2 : kk ≠ 2) (hn : n ≤ 1000000) : nwA (mem W S) a kk (Int32.ofNat n) = some (mem (W.nw (.a c i k) a n hf hx) (S.so c i ((S c i).sA k (fun _ => 0)))) := by
  have qd : (kdA c).getD k 9 = kk := by rw [List.getD_eq_getElem?_getD, q]; rfl
  unfold nwA
  rw [if_neg (fun h => h.elim (fun q => nn (by omega) q) (fun q => by rw [n_at (by omega)] at q; omega)), n_at (by omega)]
  congr 1
  refine nw_mem ?_ (fun y hy ly => ?_)
  · show Sum.inl ((kdA c).getD k 9, acl _ (S.so c i _ c i) (.a c i k) ((kdA c).getD k 9) k) = Sum.inl (kk, zeroA kk n)
    rw [qd, so_eq]
    unfold acl zeroA
    rw [if_neg q2, if_pos q1, if_neg q2, if_pos q1, nw_n, if_pos rfl, sA_a]
  · rcases y with ⟨c', i'⟩ | ⟨c', i', k'⟩ | ⟨c', i', k', j'⟩
    · show Sum.inr (c', fls _ (S.so c i _) c' i') = Sum.inr (c', fls W S c' i')
      by_cases h : c' = c ∧ i' = i
      · obtain ⟨h1, h2⟩ := h
        subst h1
        subst h2
        congr 2
        unfold fls
        rw [so_eq]
        congr 1
        funext k2 kd
        unfold fvl
        rw [nw_r]
        cases e : W.r c' i' k2 with
        | none => rfl
        | some t =>
          have e2 := nw_adl (n := n) (hf := hf) (hx := hx) (hf.1 c' i' k2 t e)
          simp only [e2]
          rfl
      · rw [nw_fls (so_ne h)]
    · show Sum.inl (_, acl _ (S.so c i _ c' i') (.a c' i' k') _ k') = Sum.inl (_, acl W (S c' i') (.a c' i' k') _ k')
      by_cases h : c' = c ∧ i' = i
      · obtain ⟨h1, h2⟩ := h
        subst h1
        subst h2
        have hk : k' ≠ k := fun e => hy (by rw [e])
        rw [so_eq, nw_acl ly (sA_a' hk) rfl]
      · rw [so_ne h, nw_acl ly rfl rfl]
    · show Sum.inl (2, _, _) = Sum.inl (2, W.n (.b c' i' k' j'), _)
      rw [nw_nl ly]
      by_cases h : c' = c ∧ i' = i
      · obtain ⟨h1, h2⟩ := h
        subst h1
        subst h2
        rw [so_eq]
        rfl
      · rw [so_ne h]
end NEW2
