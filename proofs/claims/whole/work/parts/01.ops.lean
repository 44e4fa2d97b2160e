/-! THE MEMORY AS ONE FUNCTION FROM ADDRESSES, AND THE PURE STEPS ON IT -/
section MOPS
abbrev mE : Type := (Nat × vp_A) ⊕ (Nat × List Value)
abbrev mM : Type := Nat → Option mE
variable {M M' : mM} {sz sl : Nat}
/-- what nobody writes: the addresses of constants; by their addresses the Strings, the tables of ints, of bytes, of longs -/
abbrev mG : Type := (Nat → Nat) × (Nat → Option (List Value)) × (Nat → Option (Nat × (Nat → Int32))) × (Nat → Option (Nat × (Nat → Int32))) × (Nat → Option (Nat × (Nat → Int64)))
def inB (i : Int32) (n : Nat) : Bool := decide (¬ i < 0) && decide (i.toNatClampNeg < n)
theorem inB_in {i : Int32} {n : Nat} (h : inB i n = true) : vp_in i n := by
  simp only [inB, Bool.and_eq_true, decide_eq_true_eq] at h
  rintro (q | q)
  · exact h.1 q
  · omega
def gfv (M : mM) (a ci k : Nat) : Option Value := match M a with
  | some (.inr (c, fs)) => if c = ci then fs[k]? else none
  | _ => none
def gfI (M : mM) (a ci k : Nat) : Option Int32 := match gfv M a ci k with
  | some (.int v) => some v
  | _ => none
def gfL (M : mM) (a ci k : Nat) : Option Int64 := match gfv M a ci k with
  | some (.long v) => some v
  | _ => none
def gfR (M : mM) (a ci k : Nat) : Option Nat := match gfv M a ci k with
  | some (.ref v) => some v
  | _ => none
def pfv (M : mM) (a ci k : Nat) (v : Value) : Option mM := match M a with
  | some (.inr (c, fs)) => if c = ci ∧ k < fs.length then some (va_up M a (some (.inr (c, fs.set k v)))) else none
  | _ => none
def pfZ (M : mM) (a ci k : Nat) (v : Int32) : Option mM := if v = 0 ∨ v = 1 then pfv M a ci k (.int v) else none
def roN (G : mG) (a : Nat) : Option Nat := match G.2.2.1 a with
  | some (n, _) => some n
  | none => match G.2.2.2.1 a with
    | some (n, _) => some n
    | none => match G.2.2.2.2 a with
      | some (n, _) => some n
      | none => none
def aln (G : mG) (M : mM) (a : Nat) : Option Int32 := match M a with
  | some (.inl (_, n, _)) => some (Int32.ofNat n)
  | some _ => none
  | none => (roN G a).map Int32.ofNat
def aI (G : mG) (M : mM) (k a : Nat) (i : Int32) : Option Int32 := match M a with
  | some (.inl (c, n, .inl f)) => if c = k ∧ inB i n = true then some (f i.toNatClampNeg) else none
  | some _ => none
  | none => match (if k = 0 then G.2.2.1 a else if k = 1 then G.2.2.2.1 a else none) with
    | some (n, f) => if inB i n = true then some (f i.toNatClampNeg) else none
    | none => none
def aL (G : mG) (M : mM) (a : Nat) (i : Int32) : Option Int64 := match M a with
  | some (.inl (c, n, .inr (.inl f))) => if c = 2 ∧ inB i n = true then some (f i.toNatClampNeg) else none
  | some _ => none
  | none => match G.2.2.2.2 a with
    | some (n, f) => if inB i n = true then some (f i.toNatClampNeg) else none
    | none => none
def aR (M : mM) (k a : Nat) (i : Int32) : Option Nat := match M a with
  | some (.inl (c, n, .inr (.inr (.inr (.inr f))))) => if c = k ∧ inB i n = true then f i.toNatClampNeg else none
  | _ => none
def sI (M : mM) (k a : Nat) (i x : Int32) : Option mM := match M a with
  | some (.inl (c, n, .inl f)) => if c = k ∧ inB i n = true then some (va_up M a (some (.inl (c, n, .inl (upd f i.toNatClampNeg x))))) else none
  | _ => none
def sL (M : mM) (a : Nat) (i : Int32) (x : Int64) : Option mM := match M a with
  | some (.inl (c, n, .inr (.inl f))) => if c = 2 ∧ inB i n = true then some (va_up M a (some (.inl (c, n, .inr (.inl (vp_updL f i.toNatClampNeg x)))))) else none
  | _ => none
def dvI (x y : Int32) : Option Int32 := if y = 0 then none else some (x / y)
def rmI (x y : Int32) : Option Int32 := if y = 0 then none else some (x - x / y * y)
def ushI (x y : Int32) : Int32 := (x.toUInt32 >>> (y.toUInt32 &&& Int32.toUInt32 31)).toInt32
def ushL (x : Int64) (y : Int32) : Int64 := (x.toUInt64 >>> (y.toInt64.toUInt64 &&& Int64.toUInt64 63)).toInt64
def shlL (x : Int64) (y : Int32) : Int64 := x <<< (y.toInt64 &&& 63)
def shrL (x : Int64) (y : Int32) : Int64 := x >>> (y.toInt64 &&& 63)
/-- what can be copied from -/
def srI (G : mG) (M : mM) (a : Nat) : Option (Nat × (Nat → Int32)) := match M a with
  | some (.inl (c, n, .inl f)) => if c = 0 then some (n, f) else none
  | some _ => none
  | none => G.2.2.1 a
def srL (G : mG) (M : mM) (a : Nat) : Option (Nat × (Nat → Int64)) := match M a with
  | some (.inl (c, n, .inr (.inl f))) => if c = 2 then some (n, f) else none
  | some _ => none
  | none => G.2.2.2.2 a
def cpI (G : mG) (M : mM) (a : Nat) (i : Int32) (b : Nat) (j n : Int32) : Option mM := match srI G M a, M b with
  | some (na, f), some (.inl (d, nb, .inl g)) => if d = 0 ∧ ¬ i < 0 ∧ ¬ j < 0 ∧ ¬ n < 0 ∧ i.toNatClampNeg + n.toNatClampNeg ≤ na ∧ j.toNatClampNeg + n.toNatClampNeg ≤ nb then some (va_up M b (some (.inl (d, nb, .inl (va_cpy f g i.toNatClampNeg j.toNatClampNeg n.toNatClampNeg))))) else none
  | _, _ => none
def cpL (G : mG) (M : mM) (a : Nat) (i : Int32) (b : Nat) (j n : Int32) : Option mM := match srL G M a, M b with
  | some (na, f), some (.inl (d, nb, .inr (.inl g))) => if d = 2 ∧ ¬ i < 0 ∧ ¬ j < 0 ∧ ¬ n < 0 ∧ i.toNatClampNeg + n.toNatClampNeg ≤ na ∧ j.toNatClampNeg + n.toNatClampNeg ≤ nb then some (va_up M b (some (.inl (d, nb, .inr (.inl (va_cpy f g i.toNatClampNeg j.toNatClampNeg n.toNatClampNeg)))))) else none
  | _, _ => none
/-- a String's fields -/
def sVl (G : mG) (a : Nat) : Option Nat := match G.2.1 a with
  | some (.ref v :: _) => some v
  | _ => none
def sCo (G : mG) (a : Nat) : Option Int32 := match G.2.1 a with
  | some (_ :: .int v :: _) => some v
  | _ => none
def rcs (G : mG) (a : Nat) : Option Unit := match G.2.1 a with
  | some _ => some ()
  | none => none
theorem gfv_spec {M : mM} {a ci k : Nat} {v : Value} (h : gfv M a ci k = some v) : ∃ fs, M a = some (.inr (ci, fs)) ∧ fs[k]? = some v := by
  unfold gfv at h
  split at h
  · rename_i c fs hM
    split at h
    · rename_i hc
      subst hc
      exact ⟨fs, hM, h⟩
    · cases h
  · cases h
theorem gfI_spec {M : mM} {a ci k : Nat} {v : Int32} (h : gfI M a ci k = some v) : gfv M a ci k = some (.int v) := by
  unfold gfI at h
  split at h
  · rename_i w hw
    cases h
    exact hw
  · cases h
theorem gfL_spec {M : mM} {a ci k : Nat} {v : Int64} (h : gfL M a ci k = some v) : gfv M a ci k = some (.long v) := by
  unfold gfL at h
  split at h
  · rename_i w hw
    cases h
    exact hw
  · cases h
theorem gfR_spec {M : mM} {a ci k : Nat} {v : Nat} (h : gfR M a ci k = some v) : gfv M a ci k = some (.ref v) := by
  unfold gfR at h
  split at h
  · rename_i w hw
    cases h
    exact hw
  · cases h
theorem pfv_spec {M M' : mM} {a ci k : Nat} {v : Value} (h : pfv M a ci k v = some M') : ∃ fs, M a = some (.inr (ci, fs)) ∧ k < fs.length ∧ M' = va_up M a (some (.inr (ci, fs.set k v))) := by
  unfold pfv at h
  split at h
  · rename_i c fs hM
    split at h
    · rename_i hc
      obtain ⟨rfl, hc2⟩ := hc
      cases h
      exact ⟨fs, hM, hc2, rfl⟩
    · cases h
  · cases h
theorem aI_spec {G : mG} {M : mM} {k a : Nat} {i v : Int32} (h : aI G M k a i = some v) : ∃ (n : Nat) (f : Nat → Int32), inB i n = true ∧ v = f i.toNatClampNeg ∧ (M a = some (.inl (k, n, .inl f)) ∨ (k = 0 ∧ G.2.2.1 a = some (n, f)) ∨ (k = 1 ∧ G.2.2.2.1 a = some (n, f))) := by
  unfold aI at h
  split at h
  · rename_i c n f hM
    split at h
    · rename_i hc
      obtain ⟨rfl, hc2⟩ := hc
      cases h
      exact ⟨n, f, hc2, rfl, Or.inl hM⟩
    · cases h
  · cases h
  · split at h
    · rename_i n f hq
      split at h
      · rename_i hc
        cases h
        refine ⟨n, f, hc, rfl, Or.inr ?_⟩
        by_cases h0 : k = 0
        · rw [if_pos h0] at hq
          exact Or.inl ⟨h0, hq⟩
        · rw [if_neg h0] at hq
          by_cases h1 : k = 1
          · rw [if_pos h1] at hq
            exact Or.inr ⟨h1, hq⟩
          · rw [if_neg h1] at hq
            cases hq
      · cases h
    · cases h
theorem aL_spec {G : mG} {M : mM} {a : Nat} {i : Int32} {v : Int64} (h : aL G M a i = some v) : ∃ (n : Nat) (f : Nat → Int64), inB i n = true ∧ v = f i.toNatClampNeg ∧ (M a = some (.inl (2, n, .inr (.inl f))) ∨ G.2.2.2.2 a = some (n, f)) := by
  unfold aL at h
  split at h
  · rename_i c n f hM
    split at h
    · rename_i hc
      obtain ⟨rfl, hc2⟩ := hc
      cases h
      exact ⟨n, f, hc2, rfl, Or.inl hM⟩
    · cases h
  · cases h
  · split at h
    · rename_i n f hq
      split at h
      · rename_i hc
        cases h
        exact ⟨n, f, hc, rfl, Or.inr hq⟩
      · cases h
    · cases h
theorem aR_spec {M : mM} {k a : Nat} {i : Int32} {v : Nat} (h : aR M k a i = some v) : ∃ (n : Nat) (f : Nat → Option Nat), M a = some (.inl (k, n, .inr (.inr (.inr (.inr f))))) ∧ inB i n = true ∧ f i.toNatClampNeg = some v := by
  unfold aR at h
  split at h
  · rename_i c n f hM
    split at h
    · rename_i hc
      obtain ⟨rfl, hc2⟩ := hc
      exact ⟨n, f, hM, hc2, h⟩
    · cases h
  · cases h
theorem sI_spec {M M' : mM} {k a : Nat} {i v : Int32} (h : sI M k a i v = some M') : ∃ (n : Nat) (f : Nat → Int32), M a = some (.inl (k, n, .inl f)) ∧ inB i n = true ∧ M' = va_up M a (some (.inl (k, n, .inl (upd f i.toNatClampNeg v)))) := by
  unfold sI at h
  split at h
  · rename_i c n f hM
    split at h
    · rename_i hc
      obtain ⟨rfl, hc2⟩ := hc
      cases h
      exact ⟨n, f, hM, hc2, rfl⟩
    · cases h
  · cases h
theorem sL_spec {M M' : mM} {a : Nat} {i : Int32} {v : Int64} (h : sL M a i v = some M') : ∃ (n : Nat) (f : Nat → Int64), M a = some (.inl (2, n, .inr (.inl f))) ∧ inB i n = true ∧ M' = va_up M a (some (.inl (2, n, .inr (.inl (vp_updL f i.toNatClampNeg v))))) := by
  unfold sL at h
  split at h
  · rename_i c n f hM
    split at h
    · rename_i hc
      obtain ⟨rfl, hc2⟩ := hc
      cases h
      exact ⟨n, f, hM, hc2, rfl⟩
    · cases h
  · cases h
theorem roN_spec {G : mG} {a n : Nat} (h : roN G a = some n) : (∃ f, G.2.2.1 a = some (n, f)) ∨ (∃ f, G.2.2.2.1 a = some (n, f)) ∨ ∃ f, G.2.2.2.2 a = some (n, f) := by
  unfold roN at h
  split at h
  · rename_i m f hq
    cases h
    exact Or.inl ⟨f, hq⟩
  · split at h
    · rename_i m f hq
      cases h
      exact Or.inr (Or.inl ⟨f, hq⟩)
    · split at h
      · rename_i m f hq
        cases h
        exact Or.inr (Or.inr ⟨f, hq⟩)
      · cases h
theorem aln_spec {G : mG} {M : mM} {a : Nat} {v : Int32} (h : aln G M a = some v) : ∃ n : Nat, v = Int32.ofNat n ∧ ((∃ (c : Nat) (y : (Nat → Int32) ⊕ (Nat → Int64) ⊕ (Nat → UInt32) ⊕ (Nat → UInt64) ⊕ (Nat → Option Nat)), M a = some (.inl (c, n, y))) ∨ roN G a = some n) := by
  unfold aln at h
  split at h
  · rename_i c n y hM
    cases h
    exact ⟨n, rfl, Or.inl ⟨c, y, hM⟩⟩
  · cases h
  · obtain ⟨n, hn, rfl⟩ := Option.map_eq_some_iff.mp h
    exact ⟨n, rfl, Or.inr hn⟩
def bO {α β : Type} (o : Option α) (k : α → Option β) : Option β := match o with
  | some v => k v
  | none => none
def bP {α β : Type} (o : Option (α × mM)) (k : α → mM → Option β) : Option β := match o with
  | some (v, M) => k v M
  | none => none
theorem bO_some {α β : Type} {o : Option α} {k : α → Option β} {out : β} (h : bO o k = some out) : ∃ v, o = some v ∧ k v = some out := by
  match o with
  | some v => exact ⟨v, rfl, h⟩
  | none => cases h
theorem bP_some {α β : Type} {o : Option (α × mM)} {k : α → mM → Option β} {out : β} (h : bP o k = some out) : ∃ (v : α) (M : mM), o = some (v, M) ∧ k v M = some out := by
  match o with
  | some (v, M) => exact ⟨v, M, rfl, h⟩
  | none => cases h
def retZ (v : Int32) (M : mM) : Option (Int32 × mM) := if v = 0 ∨ v = 1 then some (v, M) else none
def rcv (M : mM) (a ci : Nat) : Option Unit := match M a with
  | some (.inr (c, _)) => if c = ci then some () else none
  | _ => none
theorem rcv_spec {M : mM} {a ci : Nat} {u : Unit} (h : rcv M a ci = some u) : ∃ fs, M a = some (.inr (ci, fs)) := by
  unfold rcv at h
  split at h
  · rename_i c fs hM
    split at h
    · rename_i hc
      subst hc
      exact ⟨fs, hM⟩
    · cases h
  · cases h
theorem srI_spec {G : mG} {M : mM} {a na : Nat} {f : Nat → Int32} (h : srI G M a = some (na, f)) : M a = some (.inl (0, na, .inl f)) ∨ G.2.2.1 a = some (na, f) := by
  unfold srI at h
  split at h
  · rename_i c n f' hM
    split at h
    · rename_i hc
      subst hc
      cases h
      exact Or.inl hM
    · cases h
  · cases h
  · exact Or.inr h
theorem cpI_spec {G : mG} {M M' : mM} {a b : Nat} {i j n : Int32} (h : cpI G M a i b j n = some M') : ∃ (na nb : Nat) (f g : Nat → Int32), srI G M a = some (na, f) ∧ M b = some (.inl (0, nb, .inl g)) ∧ ¬ i < 0 ∧ ¬ j < 0 ∧ ¬ n < 0 ∧ i.toNatClampNeg + n.toNatClampNeg ≤ na ∧ j.toNatClampNeg + n.toNatClampNeg ≤ nb ∧ M' = va_up M b (some (.inl (0, nb, .inl (va_cpy f g i.toNatClampNeg j.toNatClampNeg n.toNatClampNeg)))) := by
  unfold cpI at h
  split at h
  · rename_i na f d nb g h1 h2
    split at h
    · rename_i hc
      obtain ⟨rfl, q3, q4, q5, q6, q7⟩ := hc
      cases h
      exact ⟨na, nb, f, g, h1, h2, q3, q4, q5, q6, q7, rfl⟩
    · cases h
  · cases h
theorem srL_spec {G : mG} {M : mM} {a na : Nat} {f : Nat → Int64} (h : srL G M a = some (na, f)) : M a = some (.inl (2, na, .inr (.inl f))) ∨ G.2.2.2.2 a = some (na, f) := by
  unfold srL at h
  split at h
  · rename_i c n f' hM
    split at h
    · rename_i hc
      subst hc
      cases h
      exact Or.inl hM
    · cases h
  · cases h
  · exact Or.inr h
theorem cpL_spec {G : mG} {M M' : mM} {a b : Nat} {i j n : Int32} (h : cpL G M a i b j n = some M') : ∃ (na nb : Nat) (f g : Nat → Int64), srL G M a = some (na, f) ∧ M b = some (.inl (2, nb, .inr (.inl g))) ∧ ¬ i < 0 ∧ ¬ j < 0 ∧ ¬ n < 0 ∧ i.toNatClampNeg + n.toNatClampNeg ≤ na ∧ j.toNatClampNeg + n.toNatClampNeg ≤ nb ∧ M' = va_up M b (some (.inl (2, nb, .inr (.inl (va_cpy f g i.toNatClampNeg j.toNatClampNeg n.toNatClampNeg))))) := by
  unfold cpL at h
  split at h
  · rename_i na f d nb g h1 h2
    split at h
    · rename_i hc
      obtain ⟨rfl, q3, q4, q5, q6, q7⟩ := hc
      cases h
      exact ⟨na, nb, f, g, h1, h2, q3, q4, q5, q6, q7, rfl⟩
    · cases h
  · cases h
theorem retZ_cases {v : Int32} {M : mM} {o : Int32 × mM} (h : retZ v M = some o) : (v = 0 ∨ v = 1) ∧ o = (v, M) := by
  unfold retZ at h
  split at h
  · rename_i q
    exact ⟨q, (Option.some.inj h).symm⟩
  · cases h
def retC (v : Int32) (M : mM) : Option (Int32 × mM) := if 0 ≤ v ∧ v ≤ 65535 then some (v, M) else none
theorem rcs_spec {G : mG} {a : Nat} {u : Unit} (h : rcs G a = some u) : ∃ fs, G.2.1 a = some fs := by
  unfold rcs at h
  split at h
  · rename_i fs hq
    exact ⟨fs, hq⟩
  · cases h
def bA {β : Type} (o : Option (mM × Nat × Nat)) (k : mM → Nat → Nat → Option β) : Option β := match o with
  | some (M, z, s) => k M z s
  | none => none
def bAP {α β : Type} (o : Option (α × mM × Nat × Nat)) (k : α → mM → Nat → Nat → Option β) : Option β := match o with
  | some (v, M, z, s) => k v M z s
  | none => none
theorem bA_some {β : Type} {o : Option (mM × Nat × Nat)} {k : mM → Nat → Nat → Option β} {out : β} (h : bA o k = some out) : ∃ (M : mM) (z s : Nat), o = some (M, z, s) ∧ k M z s = some out := by
  match o with
  | some (M, z, s) => exact ⟨M, z, s, rfl, h⟩
  | none => cases h
theorem bAP_some {α β : Type} {o : Option (α × mM × Nat × Nat)} {k : α → mM → Nat → Nat → Option β} {out : β} (h : bAP o k = some out) : ∃ (v : α) (M : mM) (z s : Nat), o = some (v, M, z, s) ∧ k v M z s = some out := by
  match o with
  | some (v, M, z, s) => exact ⟨v, M, z, s, rfl, h⟩
  | none => cases h
theorem retA_v {M M0 : mM} {Z0 S0 : Nat} (h : (some (M, sz, sl) : Option (mM × Nat × Nat)) = some (M0, Z0, S0)) : sz = Z0 ∧ sl = S0 := by
  cases h
  exact ⟨rfl, rfl⟩
theorem retA_p {α : Type} {v r0 : α} {M M0 : mM} {Z0 S0 : Nat} (h : (some (v, M, sz, sl) : Option (α × mM × Nat × Nat)) = some (r0, M0, Z0, S0)) : sz = Z0 ∧ sl = S0 := by
  cases h
  exact ⟨rfl, rfl⟩
def retZA (v : Int32) (M : mM) (sz sl : Nat) : Option (Int32 × mM × Nat × Nat) := if v = 0 ∨ v = 1 then some (v, M, sz, sl) else none
theorem retZA_p {v r0 : Int32} {M M0 : mM} {Z0 S0 : Nat} (h : retZA v M sz sl = some (r0, M0, Z0, S0)) : sz = Z0 ∧ sl = S0 := by
  unfold retZA at h
  split at h
  · cases h
    exact ⟨rfl, rfl⟩
  · cases h
def nwO (M : mM) (sz ci : Nat) (df : List Value) : mM := va_up M sz (some (.inr (ci, df)))
def zeroA (k n : Nat) : vp_A := if k = 2 then (n, .inr (.inl (fun _ => 0))) else if k < 4 then (n, .inl (fun _ => 0)) else (n, .inr (.inr (.inr (.inr (fun _ => none)))))
def nwA (M : mM) (sz k : Nat) (n : Int32) : Option mM := if n < 0 ∨ 1000000 < n.toNatClampNeg then none else some (va_up M sz (some (.inl (k, zeroA k n.toNatClampNeg))))
/-- new long[n][k]: the outer array at sz, the inner ones behind it -/
def gsl (n k : Int32) : Nat := n.toNatClampNeg + n.toNatClampNeg * k.toNatClampNeg
def nwG (M : mM) (sz : Nat) (n k : Int32) : Option mM := if n < 0 ∨ k < 0 ∨ 1000 < n.toNatClampNeg ∨ 1000 < k.toNatClampNeg then none else some (fun a => if a = sz then some (.inl (6, n.toNatClampNeg, .inr (.inr (.inr (.inr (fun i => if i < n.toNatClampNeg then some (sz + 1 + i) else none)))))) else if sz < a ∧ a ≤ sz + n.toNatClampNeg then some (.inl (2, k.toNatClampNeg, .inr (.inl (fun _ => 0)))) else M a)
theorem zeroA_1 (k n : Nat) : (zeroA k n).1 = n := by
  unfold zeroA
  split
  · rfl
  · split <;> rfl
/-- an object put into an array of objects -/
def sR (M : mM) (k a : Nat) (i : Int32) (v ci : Nat) : Option mM := match M a, M v with
  | some (.inl (c, n, .inr (.inr (.inr (.inr f))))), some (.inr (c2, _)) => if c = k ∧ c2 = ci ∧ inB i n = true then some (va_up M a (some (.inl (c, n, .inr (.inr (.inr (.inr (va_up f i.toNatClampNeg (some v))))))))) else none
  | _, _ => none
theorem sR_spec {k a v ci : Nat} {i : Int32} (h : sR M k a i v ci = some M') : ∃ (n : Nat) (f : Nat → Option Nat) (fs : List Value), M a = some (.inl (k, n, .inr (.inr (.inr (.inr f))))) ∧ M v = some (.inr (ci, fs)) ∧ inB i n = true ∧ M' = va_up M a (some (.inl (k, n, .inr (.inr (.inr (.inr (va_up f i.toNatClampNeg (some v)))))))) := by
  unfold sR at h
  split at h
  · rename_i c n f c2 fs h1 h2
    split at h
    · rename_i hc
      obtain ⟨rfl, rfl, h3⟩ := hc
      cases h
      exact ⟨n, f, fs, h1, h2, h3, rfl⟩
    · cases h
  · cases h
def dfX0 : List Value := [.null, .int 0, .int 0]
def dfX1 : List Value := [.null, .null, .int 0, .null, .null, .null]
def dfX2 : List Value := [.null, .null, .null, .null, .null, .long 0, .long 0, .long 0, .long 0]
def dfX3 : List Value := [.null, .null, .null, .null, .null, .null, .null, .null, .null, .null, .null, .null, .null, .null, .null, .null]
def dfX4 : List Value := [.int 0, .int 0, .null, .int 0, .int 0, .null, .null, .null, .null, .null, .null]
def dfX5 : List Value := [.int 0, .int 0, .int 0, .int 0, .int 0, .int 0, .null, .null, .null, .null]
def dfX6 : List Value := [.int 0, .long 0, .null, .null, .null, .null, .null, .null]
def dfX7 : List Value := [.null, .null, .int 0, .int 0, .int 0, .int 0, .int 0, .int 0, .int 0]
def dfX8 : List Value := [.null, .null, .null, .null, .null, .null]
def dfX9 : List Value := [.int 0, .null, .null, .null, .null, .null, .null, .null, .null, .null, .null]
def dfX10 : List Value := [.null, .int 0, .int 0, .int 0, .null, .null, .null, .null, .null, .null, .null, .null, .null, .null, .null, .int 0]
def dfX11 : List Value := [.null, .null, .null, .null, .null, .null, .null, .null, .null, .null, .null, .null, .null, .null, .null, .null, .null, .null]
def dfX12 : List Value := [.null, .int 0, .int 0, .null, .null, .null, .null, .null, .null]
def dfX13 : List Value := [.null, .int 0, .null, .null, .null, .int 0, .null, .null, .null, .null, .null, .null, .null, .null, .null, .null, .null, .int 0, .int 0, .null, .int 0, .int 0, .int 0, .int 0, .int 0, .int 0, .int 0, .null, .int 0, .int 0, .null, .null, .null, .null, .null, .null, .null, .int 0, .null, .int 0, .null, .null, .null, .null, .int 0, .null, .null, .null, .null, .null, .int 0, .null, .null, .long 0, .long 0, .long 0, .long 0, .null, .null, .null, .null, .null, .null, .null, .null, .null, .null, .null, .null, .null, .null, .null, .null, .int 0, .null, .null, .null, .null, .null, .null, .null, .null, .null, .null, .null, .null, .null, .null, .null, .null, .null, .null, .null, .null, .null, .null, .null, .null, .null, .int 0, .int 0, .int 0, .int 0, .int 0, .int 0, .int 0, .int 0, .null, .null, .null, .int 0, .int 0, .null, .int 0, .null, .null, .null, .null, .null, .null, .int 0, .null, .int 0, .null, .null, .null, .null, .int 0, .null, .int 0, .null, .null, .null, .null]
def P_J3_checkIndex_8e157 (_ : mG) (_ : Nat) (l0 l1 : Int32) (M : mM) : Option (Int32 × mM) := if 0 ≤ l0 ∧ l0 < l1 then some (l0, M) else none
def P_J0_checkIndex_df160 (_ : mG) (_ : Nat) (l0 l1 : Int32) (M : mM) : Option mM := if 0 ≤ l0 ∧ l0 < l1 then some M else none
end MOPS
