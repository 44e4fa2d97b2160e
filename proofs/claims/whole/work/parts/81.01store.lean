/-! THE STORE: cells by name, what leads to what (WR), what stands in them (ST) -/
/-- a cell: an object of sort c, its number i; the array in field k of one; the row j of a long[][] in field k -/
abbrev Cl : Type := (Nat × Nat) ⊕ (Nat × Nat × Nat) ⊕ (Nat × Nat × Nat × Nat)
abbrev Cl.o (c i : Nat) : Cl := .inl (c, i)
abbrev Cl.a (c i k : Nat) : Cl := .inr (.inl (c, i, k))
abbrev Cl.b (c i k j : Nat) : Cl := .inr (.inr (c, i, k, j))
/-- ints, longs, int and byte arrays, long arrays, rows of longs of one object, by the number of the field -/
def Ob : Type := (Nat → Int32) × (Nat → Int64) × (Nat → Nat → Int32) × (Nat → Nat → Int64) × (Nat → Nat → Nat → Int64)
def Ob.mk (f : Nat → Int32) (g : Nat → Int64) (a : Nat → Nat → Int32) (l : Nat → Nat → Int64) (m : Nat → Nat → Nat → Int64) : Ob := (f, g, a, l, m)
def Ob.f (o : Ob) : Nat → Int32 := o.1
def Ob.g (o : Ob) : Nat → Int64 := o.2.1
def Ob.a (o : Ob) : Nat → Nat → Int32 := o.2.2.1
def Ob.l (o : Ob) : Nat → Nat → Int64 := o.2.2.2.1
def Ob.m (o : Ob) : Nat → Nat → Nat → Int64 := o.2.2.2.2
abbrev ST : Type := Nat → Nat → Ob
/-- what leads to what: addresses and back, the lowest one, what is there, refs in fields, refs in arrays, lengths -/
abbrev WRd : Type := (Cl → Nat) × (Nat → Option Cl) × Nat × (Cl → Bool) × (Nat → Nat → Nat → Option Cl) × (Cl → Nat → Option Cl) × (Cl → Nat)
def WOK (w : WRd) : Prop := (∀ x c, w.2.1 x = some c → w.1 c = x) ∧ (∀ x c, w.2.1 x = some c → w.2.2.1 ≤ x) ∧ ∀ c, w.2.2.2.1 c = true → w.2.1 (w.1 c) = some c
def WR : Type := { w : WRd // WOK w }
def WR.ad (W : WR) : Cl → Nat := W.1.1
def WR.di (W : WR) : Nat → Option Cl := W.1.2.1
def WR.lo (W : WR) : Nat := W.1.2.2.1
def WR.live (W : WR) : Cl → Bool := W.1.2.2.2.1
def WR.r (W : WR) : Nat → Nat → Nat → Option Cl := W.1.2.2.2.2.1
def WR.e (W : WR) : Cl → Nat → Option Cl := W.1.2.2.2.2.2.1
def WR.n (W : WR) : Cl → Nat := W.1.2.2.2.2.2.2
theorem WR.inv (W : WR) : ∀ x c, W.di x = some c → W.ad c = x := W.2.1
theorem WR.low (W : WR) : ∀ x c, W.di x = some c → W.lo ≤ x := W.2.2.1
theorem WR.ok (W : WR) : ∀ c, W.live c = true → W.di (W.ad c) = some c := W.2.2.2
/-- the kinds of fields: 0 int, 1 long, 2 ref -/
def kdF : Nat → List Nat
  | 0 => [2, 0, 0]
  | 1 => [2, 2, 0, 2, 2, 2]
  | 2 => [2, 2, 2, 2, 2, 1, 1, 1, 1]
  | 3 => [2, 2, 2, 2, 2, 2, 2, 2, 2, 2, 2, 2, 2, 2, 2, 2]
  | 4 => [0, 0, 2, 0, 0, 2, 2, 2, 2, 2, 2]
  | 5 => [0, 0, 0, 0, 0, 0, 2, 2, 2, 2]
  | 6 => [0, 1, 2, 2, 2, 2, 2, 2]
  | 7 => [2, 2, 0, 0, 0, 0, 0, 0, 0]
  | 8 => [2, 2, 2, 2, 2, 2]
  | 9 => [0, 2, 2, 2, 2, 2, 2, 2, 2, 2, 2]
  | 10 => [2, 0, 0, 0, 2, 2, 2, 2, 2, 2, 2, 2, 2, 2, 2, 0]
  | 11 => [2, 2, 2, 2, 2, 2, 2, 2, 2, 2, 2, 2, 2, 2, 2, 2, 2, 2]
  | 12 => [2, 0, 0, 2, 2, 2, 2, 2, 2]
  | 13 => [2, 0, 2, 2, 2, 0, 2, 2, 2, 2, 2, 2, 2, 2, 2, 2, 2, 0, 0, 2, 0, 0, 0, 0, 0, 0, 0, 2, 0, 0, 2, 2, 2, 2, 2, 2, 2, 0, 2, 0, 2, 2, 2, 2, 0, 2, 2, 2, 2, 2, 0, 2, 2, 1, 1, 1, 1, 2, 2, 2, 2, 2, 2, 2, 2, 2, 2, 2, 2, 2, 2, 2, 2, 0, 2, 2, 2, 2, 2, 2, 2, 2, 2, 2, 2, 2, 2, 2, 2, 2, 2, 2, 2, 2, 2, 2, 2, 2, 2, 0, 0, 0, 0, 0, 0, 0, 0, 2, 2, 2, 0, 0, 2, 0, 2, 2, 2, 2, 2, 2, 0, 2, 0, 2, 2, 2, 2, 0, 2, 0, 2, 2, 2, 2]
  | _ => []
/-- the kinds of arrays in fields -/
def kdA : Nat → List Nat
  | 0 => [0, 9, 9]
  | 1 => [0, 0, 9, 0, 0, 0]
  | 2 => [9, 9, 0, 0, 9, 9, 9, 9, 9]
  | 3 => [6, 6, 9, 9, 9, 9, 9, 9, 2, 2, 6, 6, 9, 9, 9, 9]
  | 4 => [9, 9, 0, 9, 9, 0, 0, 2, 2, 0, 9]
  | 5 => [9, 9, 9, 9, 9, 9, 9, 9, 9, 9]
  | 6 => [9, 9, 2, 2, 2, 2, 2, 2]
  | 7 => [9, 9, 9, 9, 9, 9, 9, 9, 9]
  | 8 => [9, 9, 2, 9, 9, 9]
  | 9 => [9, 0, 0, 0, 0, 0, 0, 0, 0, 0, 9]
  | 10 => [9, 9, 9, 9, 9, 9, 9, 9, 9, 9, 9, 9, 9, 9, 0, 9]
  | 11 => [4, 9, 9, 9, 9, 9, 9, 9, 9, 9, 5, 9, 9, 9, 9, 9, 9, 9]
  | 12 => [0, 9, 9, 0, 0, 0, 0, 0, 0]
  | 13 => [1, 9, 1, 0, 1, 9, 0, 0, 0, 0, 0, 0, 0, 0, 0, 1, 0, 9, 9, 1, 9, 9, 9, 9, 9, 9, 9, 1, 9, 9, 1, 0, 0, 2, 2, 1, 1, 9, 1, 9, 1, 0, 0, 0, 9, 0, 0, 1, 1, 1, 9, 1, 1, 9, 9, 9, 9, 9, 9, 9, 0, 0, 1, 1, 1, 1, 0, 1, 0, 0, 0, 0, 0, 9, 0, 0, 0, 0, 0, 1, 1, 1, 1, 3, 0, 1, 0, 1, 0, 1, 0, 0, 1, 0, 1, 0, 1, 1, 1, 9, 9, 9, 9, 9, 9, 9, 9, 1, 1, 1, 9, 9, 1, 9, 1, 1, 0, 0, 0, 1, 9, 1, 9, 0, 1, 1, 1, 9, 1, 9, 1, 1, 1, 1]
  | _ => []
def fvl (W : WR) (o : Ob) (c i k kd : Nat) : Value := if kd = 0 then .int (o.f k) else if kd = 1 then .long (o.g k) else match W.r c i k with
  | some t => .ref (W.ad t)
  | none => .null
def fls (W : WR) (S : ST) (c i : Nat) : List Value := (kdF c).mapIdx fun k kd => fvl W (S c i) c i k kd
def acl (W : WR) (o : Ob) (x : Cl) (kk k : Nat) : vp_A := (W.n x, if kk = 2 then .inr (.inl (o.l k)) else if kk < 4 then .inl (o.a k) else .inr (.inr (.inr (.inr (fun j => (W.e x j).map W.ad)))))
def cellB (W : WR) (S : ST) (x : Cl) : mE := match x with
  | .inl (c, i) => .inr (c, fls W S c i)
  | .inr (.inl (c, i, k)) => .inl ((kdA c).getD k 9, acl W (S c i) (.a c i k) ((kdA c).getD k 9) k)
  | .inr (.inr (c, i, k, j)) => .inl (2, W.n (.b c i k j), .inr (.inl ((S c i).m k j)))
def cell (W : WR) (S : ST) (x : Cl) : Option mE := if W.live x = true then some (cellB W S x) else none
def mem (W : WR) (S : ST) : mM := fun x => match W.di x with
  | some c => cell W S c
  | none => none
/-- what is set -/
def ST.so (S : ST) (c i : Nat) (o : Ob) : ST := fun c' i' => if c' = c ∧ i' = i then o else S c' i'
def Ob.sf (o : Ob) (k : Nat) (v : Int32) : Ob := .mk (upd o.f k v) o.g o.a o.l o.m
def Ob.sg (o : Ob) (k : Nat) (v : Int64) : Ob := .mk o.f (vp_updL o.g k v) o.a o.l o.m
def Ob.sA (o : Ob) (k : Nat) (f : Nat → Int32) : Ob := .mk o.f o.g (va_up o.a k f) o.l o.m
def Ob.sL (o : Ob) (k : Nat) (f : Nat → Int64) : Ob := .mk o.f o.g o.a (va_up o.l k f) o.m
def Ob.sM (o : Ob) (k j : Nat) (f : Nat → Int64) : Ob := .mk o.f o.g o.a o.l (fun k' j' => if k' = k ∧ j' = j then f else o.m k' j')
theorem sf_f (o : Ob) (k k' : Nat) (v : Int32) : (o.sf k v).f k' = if k' = k then v else o.f k' := rfl
theorem sf_g (o : Ob) (k : Nat) (v : Int32) : (o.sf k v).g = o.g := rfl
theorem sf_a (o : Ob) (k k' : Nat) (v : Int32) : (o.sf k v).a k' = o.a k' := rfl
theorem sg_g (o : Ob) (k k' : Nat) (v : Int64) : (o.sg k v).g k' = if k' = k then v else o.g k' := rfl
theorem sg_f (o : Ob) (k : Nat) (v : Int64) : (o.sg k v).f = o.f := rfl
theorem sA_f (o : Ob) (k k' : Nat) (f : Nat → Int32) : (o.sA k f).f k' = o.f k' := rfl
theorem sA_g (o : Ob) (k : Nat) (f : Nat → Int32) : (o.sA k f).g = o.g := rfl
theorem sA_at (o : Ob) (k k' : Nat) (f : Nat → Int32) : (o.sA k f).a k' = if k' = k then f else o.a k' := rfl
theorem sL_at (o : Ob) (k k' : Nat) (f : Nat → Int64) : (o.sL k f).l k' = if k' = k then f else o.l k' := rfl
theorem sM_at (o : Ob) (k j k' j' : Nat) (f : Nat → Int64) : (o.sM k j f).m k' j' = if k' = k ∧ j' = j then f else o.m k' j' := rfl
section STORE
variable {W : WR} {S : ST} {G : mG} {c i k j : Nat}
theorem so_eq (S : ST) (c i : Nat) (o : Ob) : S.so c i o c i = o := if_pos ⟨rfl, rfl⟩
theorem so_ne {S : ST} {c i c' i' : Nat} {o : Ob} (h : ¬ (c' = c ∧ i' = i)) : S.so c i o c' i' = S c' i' := if_neg h
theorem so_at (S : ST) (c i c' i' : Nat) (o : Ob) : S.so c i o c' i' = if c' = c ∧ i' = i then o else S c' i' := rfl
theorem so_so (S : ST) (c i : Nat) (o o' : Ob) : (S.so c i o).so c i o' = S.so c i o' := by
  funext c' i'
  by_cases h : c' = c ∧ i' = i <;> simp [ST.so, h]
theorem so_self (S : ST) (c i : Nat) : S.so c i (S c i) = S := by
  funext c' i'
  by_cases h : c' = c ∧ i' = i
  · rw [h.1, h.2, so_eq]
  · exact so_ne h
theorem so_comm {S : ST} {c i c' i' : Nat} {o o' : Ob} (h : ¬ (c' = c ∧ i' = i)) : (S.so c i o).so c' i' o' = (S.so c' i' o').so c i o := by
  funext x y
  by_cases h1 : x = c' ∧ y = i'
  · have h2 : ¬ (x = c ∧ y = i) := fun h2 => h ⟨h1.1.symm.trans h2.1, h1.2.symm.trans h2.2⟩
    rw [so_ne h2, so_at, if_pos h1, so_at, if_pos h1]
  · rw [so_ne h1, so_at, so_at, so_ne h1]
theorem mem_at {x : Cl} (h : W.live x = true) : mem W S (W.ad x) = cell W S x := by
  simp only [mem, W.ok x h]
theorem mem_lo {x : Nat} (h : x < W.lo) : mem W S x = none := by
  unfold mem
  cases h1 : W.di x with
  | none => rfl
  | some c => exact absurd (W.low x c h1) (by omega)
theorem ad_eq {x y : Cl} (h1 : W.live x = true) (h2 : W.live y = true) (h : W.ad x = W.ad y) : x = y := by
  have e1 := W.ok x h1
  rw [h, W.ok y h2] at e1
  exact (Option.some.inj e1).symm
theorem mem_up {x : Cl} {S' : ST} {W' : WR} (h : W.live x = true) {e : Option mE} (he : cell W S' x = e) (hd : ∀ y, y ≠ x → cell W S' y = cell W S y) : va_up (mem W S) (W.ad x) e = mem W S' := by
  funext a
  unfold va_up mem
  split
  · rename_i q
    rw [q, W.ok x h]
    exact he.symm
  · rename_i q
    cases h1 : W.di a with
    | none => rfl
    | some y => exact (hd y (fun e => q (by rw [← e]; exact (W.inv a y h1).symm))).symm
theorem fls_at (q : (kdF c)[k]? = some j) : (fls W S c i)[k]? = some (fvl W (S c i) c i k j) := by
  unfold fls
  rw [List.getElem?_mapIdx, q]
  rfl
theorem gfv_m (h : W.live (.o c i) = true) (q : (kdF c)[k]? = some j) : gfv (mem W S) (W.ad (.o c i)) c k = some (fvl W (S c i) c i k j) := by
  unfold gfv
  rw [mem_at h]
  simp only [cell, cellB, h, if_true]
  exact fls_at q
theorem gfI_m (h : W.live (.o c i) = true) (q : (kdF c)[k]? = some 0) : gfI (mem W S) (W.ad (.o c i)) c k = some ((S c i).f k) := by
  unfold gfI
  rw [gfv_m h q]
  rfl
theorem gfL_m (h : W.live (.o c i) = true) (q : (kdF c)[k]? = some 1) : gfL (mem W S) (W.ad (.o c i)) c k = some ((S c i).g k) := by
  unfold gfL
  rw [gfv_m h q]
  rfl
theorem gfR_m {t : Cl} (h : W.live (.o c i) = true) (q : (kdF c)[k]? = some 2) (hr : W.r c i k = some t) : gfR (mem W S) (W.ad (.o c i)) c k = some (W.ad t) := by
  unfold gfR
  rw [gfv_m h q]
  simp [fvl, hr]
theorem cell_o {c i : Nat} {S S' : ST} {y : Cl} (hy : y ≠ .o c i) (hS : ∀ c' i', ¬ (c' = c ∧ i' = i) → S' c' i' = S c' i') (ha : (S' c i).a = (S c i).a) (hl : (S' c i).l = (S c i).l) (hm : (S' c i).m = (S c i).m) : cell W S' y = cell W S y := by
  unfold cell cellB
  rcases y with ⟨c', i'⟩ | ⟨c', i', k'⟩ | ⟨c', i', k', j'⟩
  · have h : ¬ (c' = c ∧ i' = i) := fun h => hy (by rw [h.1, h.2])
    simp only [fls, hS c' i' h]
  · by_cases h : c' = c ∧ i' = i
    · rw [h.1, h.2]
      simp only [acl, ha, hl]
    · simp only [hS c' i' h]
  · by_cases h : c' = c ∧ i' = i
    · rw [h.1, h.2]
      simp only [hm]
    · simp only [hS c' i' h]
theorem pfI_m {v : Int32} (h : W.live (.o c i) = true) (q : (kdF c)[k]? = some 0) : pfv (mem W S) (W.ad (.o c i)) c k (.int v) = some (mem W (S.so c i ((S c i).sf k v))) := by
  unfold pfv
  rw [mem_at h]
  have hk : k < (fls W S c i).length := by
    have := (List.getElem?_eq_some_iff.mp (fls_at (W := W) (S := S) (i := i) q)).1
    exact this
  simp only [cell, cellB, h, if_true, true_and, hk]
  congr 1
  refine mem_up (W' := W) h ?_ (fun y hy => cell_o hy (fun c' i' hn => so_ne hn) (by rw [so_eq]; rfl) (by rw [so_eq]; rfl) (by rw [so_eq]; rfl))
  simp only [cell, cellB, h, if_true]
  congr 3
  apply List.ext_getElem?
  intro n
  unfold fls
  rw [List.getElem?_mapIdx, so_eq, List.getElem?_set, List.getElem?_mapIdx]
  by_cases hn : k = n
  · subst hn
    rw [q, if_pos rfl, if_pos (by simpa [fls] using hk)]
    simp [fvl, sf_f]
  · rw [if_neg hn]
    cases (kdF c)[n]? with
    | none => rfl
    | some z =>
      have hn2 : ¬ n = k := fun e => hn e.symm
      simp [fvl, sf_f, sf_g, hn2]
theorem pfZ_m {v : Int32} (h : W.live (.o c i) = true) (q : (kdF c)[k]? = some 0) (hv : v = 0 ∨ v = 1) : pfZ (mem W S) (W.ad (.o c i)) c k v = some (mem W (S.so c i ((S c i).sf k v))) := by
  unfold pfZ
  rw [if_pos hv]
  exact pfI_m h q
theorem pfL_m {v : Int64} (h : W.live (.o c i) = true) (q : (kdF c)[k]? = some 1) : pfv (mem W S) (W.ad (.o c i)) c k (.long v) = some (mem W (S.so c i ((S c i).sg k v))) := by
  unfold pfv
  rw [mem_at h]
  have hk : k < (fls W S c i).length := by
    have := (List.getElem?_eq_some_iff.mp (fls_at (W := W) (S := S) (i := i) q)).1
    exact this
  simp only [cell, cellB, h, if_true, true_and, hk]
  congr 1
  refine mem_up (W' := W) h ?_ (fun y hy => cell_o hy (fun c' i' hn => so_ne hn) (by rw [so_eq]; rfl) (by rw [so_eq]; rfl) (by rw [so_eq]; rfl))
  simp only [cell, cellB, h, if_true]
  congr 3
  apply List.ext_getElem?
  intro n
  unfold fls
  rw [List.getElem?_mapIdx, so_eq, List.getElem?_set, List.getElem?_mapIdx]
  by_cases hn : k = n
  · subst hn
    rw [q, if_pos rfl, if_pos (by simpa [fls] using hk)]
    simp [fvl, sg_g]
  · rw [if_neg hn]
    cases (kdF c)[n]? with
    | none => rfl
    | some z =>
      have hn2 : ¬ n = k := fun e => hn e.symm
      simp [fvl, sg_g, sg_f, hn2]
theorem rcv_m (h : W.live (.o c i) = true) : rcv (mem W S) (W.ad (.o c i)) c = some () := by
  unfold rcv
  rw [mem_at h]
  simp [cell, cellB, h]
theorem aln_m (h : W.live (.a c i k) = true) : aln G (mem W S) (W.ad (.a c i k)) = some (Int32.ofNat (W.n (.a c i k))) := by
  unfold aln
  rw [mem_at h]
  simp [cell, cellB, h, acl]
theorem aI_m {x : Int32} {kk : Nat} (h : W.live (.a c i k) = true) (q : (kdA c)[k]? = some kk) (q1 : kk < 4) (q2 : kk ≠ 2) (hx : inB x (W.n (.a c i k)) = true) : aI G (mem W S) kk (W.ad (.a c i k)) x = some ((S c i).a k x.toNatClampNeg) := by
  unfold aI
  rw [mem_at h]
  simp [cell, cellB, h, acl, q, q1, q2, hx]
theorem aL_m {x : Int32} (h : W.live (.a c i k) = true) (q : (kdA c)[k]? = some 2) (hx : inB x (W.n (.a c i k)) = true) : aL G (mem W S) (W.ad (.a c i k)) x = some ((S c i).l k x.toNatClampNeg) := by
  unfold aL
  rw [mem_at h]
  simp [cell, cellB, h, acl, q, hx]
theorem bL_m {x : Int32} (h : W.live (.b c i k j) = true) (hx : inB x (W.n (.b c i k j)) = true) : aL G (mem W S) (W.ad (.b c i k j)) x = some ((S c i).m k j x.toNatClampNeg) := by
  unfold aL
  rw [mem_at h]
  simp [cell, cellB, h, hx]
theorem aR_m {x : Int32} {kk : Nat} {t : Cl} (h : W.live (.a c i k) = true) (q : (kdA c)[k]? = some kk) (q1 : ¬ kk < 4) (hx : inB x (W.n (.a c i k)) = true) (ht : W.e (.a c i k) x.toNatClampNeg = some t) : aR (mem W S) kk (W.ad (.a c i k)) x = some (W.ad t) := by
  unfold aR
  rw [mem_at h]
  have q2 : kk ≠ 2 := by omega
  simp [cell, cellB, h, acl, q, q1, q2, hx, ht]
theorem cell_a {c i k : Nat} {S S' : ST} {y : Cl} (hy : y ≠ .a c i k) (hS : ∀ c' i', ¬ (c' = c ∧ i' = i) → S' c' i' = S c' i') (hf : (S' c i).f = (S c i).f) (hg : (S' c i).g = (S c i).g) (ha : ∀ k', k' ≠ k → (S' c i).a k' = (S c i).a k') (hl : ∀ k', k' ≠ k → (S' c i).l k' = (S c i).l k') (hm : (S' c i).m = (S c i).m) : cell W S' y = cell W S y := by
  unfold cell cellB
  rcases y with ⟨c', i'⟩ | ⟨c', i', k'⟩ | ⟨c', i', k', j'⟩
  · by_cases h : c' = c ∧ i' = i
    · rw [h.1, h.2]
      simp only [fls, fvl, hf, hg]
    · simp only [fls, hS c' i' h]
  · by_cases h : c' = c ∧ i' = i
    · have hk : k' ≠ k := fun e => hy (by rw [h.1, h.2, e])
      rw [h.1, h.2]
      simp only [acl, ha k' hk, hl k' hk]
    · simp only [hS c' i' h]
  · by_cases h : c' = c ∧ i' = i
    · rw [h.1, h.2]
      simp only [hm]
    · simp only [hS c' i' h]
theorem sI_m {x v : Int32} {kk : Nat} (h : W.live (.a c i k) = true) (q : (kdA c)[k]? = some kk) (q1 : kk < 4) (q2 : kk ≠ 2) (hx : inB x (W.n (.a c i k)) = true) : sI (mem W S) kk (W.ad (.a c i k)) x v = some (mem W (S.so c i ((S c i).sA k (upd ((S c i).a k) x.toNatClampNeg v)))) := by
  unfold sI
  rw [mem_at h]
  simp only [cell, cellB, h, if_true, acl, List.getD_eq_getElem?_getD, q, Option.getD_some, q1, q2, if_false, hx, true_and]
  congr 1
  refine mem_up (W' := W) h ?_ (fun y hy => cell_a hy (fun c' i' hn => so_ne hn) (by rw [so_eq]; rfl) (by rw [so_eq]; rfl) (fun k' hk => by rw [so_eq]; simp [sA_at, hk]) (fun k' hk => by rw [so_eq]; rfl) (by rw [so_eq]; rfl))
  simp only [cell, cellB, h, if_true, acl, List.getD_eq_getElem?_getD, q, Option.getD_some, q1, q2, if_false, so_eq]
  simp [sA_at]
theorem sL_m {x : Int32} {v : Int64} (h : W.live (.a c i k) = true) (q : (kdA c)[k]? = some 2) (hx : inB x (W.n (.a c i k)) = true) : sL (mem W S) (W.ad (.a c i k)) x v = some (mem W (S.so c i ((S c i).sL k (vp_updL ((S c i).l k) x.toNatClampNeg v)))) := by
  unfold sL
  rw [mem_at h]
  simp only [cell, cellB, h, if_true, acl, List.getD_eq_getElem?_getD, q, Option.getD_some, hx, true_and]
  congr 1
  refine mem_up (W' := W) h ?_ (fun y hy => cell_a hy (fun c' i' hn => so_ne hn) (by rw [so_eq]; rfl) (by rw [so_eq]; rfl) (fun k' hk => by rw [so_eq]; rfl) (fun k' hk => by rw [so_eq]; simp [sL_at, hk]) (by rw [so_eq]; rfl))
  simp only [cell, cellB, h, if_true, acl, List.getD_eq_getElem?_getD, q, Option.getD_some, so_eq]
  simp [sL_at]
theorem cell_b {c i k j : Nat} {S S' : ST} {y : Cl} (hy : y ≠ .b c i k j) (hS : ∀ c' i', ¬ (c' = c ∧ i' = i) → S' c' i' = S c' i') (hf : (S' c i).f = (S c i).f) (hg : (S' c i).g = (S c i).g) (ha : (S' c i).a = (S c i).a) (hl : (S' c i).l = (S c i).l) (hm : ∀ k' j', ¬ (k' = k ∧ j' = j) → (S' c i).m k' j' = (S c i).m k' j') : cell W S' y = cell W S y := by
  unfold cell cellB
  rcases y with ⟨c', i'⟩ | ⟨c', i', k'⟩ | ⟨c', i', k', j'⟩
  · by_cases h : c' = c ∧ i' = i
    · rw [h.1, h.2]
      simp only [fls, fvl, hf, hg]
    · simp only [fls, hS c' i' h]
  · by_cases h : c' = c ∧ i' = i
    · rw [h.1, h.2]
      simp only [acl, ha, hl]
    · simp only [hS c' i' h]
  · by_cases h : c' = c ∧ i' = i
    · have hk : ¬ (k' = k ∧ j' = j) := fun e => hy (by rw [h.1, h.2, e.1, e.2])
      rw [h.1, h.2]
      simp only [hm k' j' hk]
    · simp only [hS c' i' h]
theorem bsL_m {x : Int32} {v : Int64} (h : W.live (.b c i k j) = true) (hx : inB x (W.n (.b c i k j)) = true) : sL (mem W S) (W.ad (.b c i k j)) x v = some (mem W (S.so c i ((S c i).sM k j (vp_updL ((S c i).m k j) x.toNatClampNeg v)))) := by
  unfold sL
  rw [mem_at h]
  simp only [cell, cellB, h, if_true, hx, true_and]
  congr 1
  refine mem_up (W' := W) h ?_ (fun y hy => cell_b hy (fun c' i' hn => so_ne hn) (by rw [so_eq]; rfl) (by rw [so_eq]; rfl) (by rw [so_eq]; rfl) (by rw [so_eq]; rfl) (fun k' j' hk => by rw [so_eq]; simp [sM_at, hk]))
  simp only [cell, cellB, h, if_true, so_eq]
  simp [sM_at]
end STORE
