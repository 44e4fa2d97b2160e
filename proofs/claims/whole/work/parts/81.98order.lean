/-! WHAT THE PROGRAMS NEED OF THE CURVE -/
theorem eB_nil : ∀ k, eB [] k = 0
  | 0 => rfl
  | k + 1 => by rw [eB, eB_nil k, bitA_nil]; rfl
theorem onC_b : onC bX_ bY_ = true := by decide +kernel
theorem eB_n : eB (beV 32 nP) 256 = nP := by
  have e := eB_beN (beV 32 nP)
  rw [beV_len] at e
  rw [show 256 = 8 * 32 from rfl, e, beN_32 (by decide +kernel)]
theorem FD.lt {F : Type} [Lean.Grind.CommRing F] {r : Int → F} {v : F → Nat} (D : FD r v) (u : F) : v u < pP := by
  rw [← D.2.2.2.1 u, D.2.2.1]
  exact rs_lt pP_1 _
theorem FD.vi {F : Type} [Lean.Grind.CommRing F] {r : Int → F} {v : F → Nat} (D : FD r v) {u w : F} (h : v u = v w) : u = w := by
  rw [← D.2.2.2.1 u, h, D.2.2.2.1 w]
theorem ad_ng {F : Type} [Lean.Grind.CommRing F] (Y : F) : Y + -Y = 0 := by grind
theorem base_ex : ∃ (p : Nat × Nat) (ys : List UInt8), onC p.1 p.2 = true ∧ eB ys 256 = nP ∧ (cS ys ((p.1 : Int), (p.2 : Int)) 256).isNone = true := ⟨(bX_, bY_), beV 32 nP, onC_b, eB_n, nG_none⟩
/-- the points told apart by numbers -/
def cdP {F : Type} (v : F → Nat) (P : Option (F × F)) : Nat := match P with
  | none => 0
  | some (X, Y) => 1 + 2 * v X + v Y % 2
theorem cdP_lt {F : Type} [Lean.Grind.CommRing F] {r : Int → F} {v : F → Nat} (D : FD r v) (P : Option (F × F)) : cdP v P < 2 * pP + 1 := by
  match P with
  | none =>
    show 0 < 2 * pP + 1
    omega
  | some (X, Y) =>
    have := D.lt X
    show 1 + 2 * v X + v Y % 2 < 2 * pP + 1
    omega
theorem cdP_inj {F : Type} [Lean.Grind.CommRing F] {r : Int → F} {v : F → Nat} (D : FD r v) {b : F} (P Q : PT F (-3) b) (h : cdP v P.1 = cdP v Q.1) : P = Q := by
  obtain ⟨P, hP⟩ := P
  obtain ⟨Q, hQ⟩ := Q
  refine Subtype.ext ?_
  show P = Q
  have h : cdP v P = cdP v Q := h
  match P, Q, hP, hQ, h with
  | none, none, _, _, _ => rfl
  | none, some (X, Y), _, _, h =>
    have h : 0 = 1 + 2 * v X + v Y % 2 := h
    omega
  | some (X, Y), none, _, _, h =>
    have h : 1 + 2 * v X + v Y % 2 = 0 := h
    omega
  | some (X, Y), some (X', Y'), hP, hQ, h =>
    have h : 1 + 2 * v X + v Y % 2 = 1 + 2 * v X' + v Y' % 2 := h
    have e1 : X = X' := D.vi (by omega)
    subst e1
    rcases ON_x D.2.1 (show Y * Y = _ from hP) (show Y' * Y' = _ from hQ) with q | q
    · rw [q]
    · by_cases c : v Y = v Y'
      · rw [D.vi c]
      · exfalso
        have e2 : v (Y + Y') = 0 := by
          rw [q, ad_ng, ← D.1.z, D.2.2.1]
          exact (rs_z pP_1 0).mpr (Int.zero_emod _)
        rw [D.2.2.2.2.2] at e2
        have l1 := D.lt Y
        have l2 := D.lt Y'
        have po := pP_2
        generalize v Y = y at *
        generalize v Y' = y' at *
        generalize pP = p at *
        rcases Nat.lt_or_ge (y + y') p with k | k
        · rw [Nat.mod_eq_of_lt k] at e2
          omega
        · rw [Nat.mod_eq_sub_mod k, Nat.mod_eq_of_lt (by omega)] at e2
          omega
theorem PT_t2 {F : Type} [Lean.Grind.CommRing F] {r : Int → F} {v : F → Nat} (D : FD r v) {op : PT F (-3) (r bP_) → PT F (-3) (r bP_) → PT F (-3) (r bP_)} (ho : isOp op) (T : PT F (-3) (r bP_)) (h : op T T = ⟨none, True.intro⟩) : T = ⟨none, True.intro⟩ := by
  have a := ho T T
  rw [h] at a
  obtain ⟨T, hT⟩ := T
  match T, hT, a with
  | none, _, _ => rfl
  | some (X, Y), hT, a =>
    exfalso
    rcases a with ⟨_, q, _⟩ | ⟨s, _, q⟩
    · have y0 := D.two Y q
      have hT : Y * Y = X * X * X + -3 * X + r bP_ := hT
      refine no_root D X ?_
      rw [y0] at hT
      generalize r bP_ = b at *
      clear h D a q y0 ho
      grind
    · exact absurd q (by rintro ⟨⟩)
/-- the field and its curve, all at once -/
theorem CRV : ∃ (F : Type) (_ : Lean.Grind.CommRing F) (r : Int → F) (v : F → Nat) (op : PT F (-3) (r bP_) → PT F (-3) (r bP_) → PT F (-3) (r bP_)), FD r v ∧ isOp op ∧ GP op ⟨none, True.intro⟩ (fun P => ⟨ng P.1, ng_on P.2⟩) := by
  obtain ⟨F, i, r, v, D⟩ := FD_ex
  obtain ⟨op, ho⟩ := op_ex D.2.1 D.inv (-3) (r bP_)
  exact ⟨F, i, r, v, op, D, ho, op_GP D.2.1 D.two D.disc ho⟩
theorem JR_mul {F : Type} [Lean.Grind.CommRing F] {r : Int → F} {v : F → Nat} (D : FD r v) {b : F} {op : PT F (-3) b → PT F (-3) b → PT F (-3) b} {ne : PT F (-3) b → PT F (-3) b} (ho : isOp op) (g : GP op ⟨none, True.intro⟩ ne) {P' : PT F (-3) b} {P : Int × Int} (hP : P'.1 = some (r P.1, r P.2)) (ms : List UInt8) : JR r (mulS ms P) (mu op ⟨none, True.intro⟩ (eB ms 256) P').1 := by
  have h := JR_sum D ho g hP hP ms [] 256
  rw [eB_nil, mu, g.r0] at h
  exact h
theorem PT_aff {F : Type} [Lean.Grind.CommRing F] {r : Int → F} {v : F → Nat} (D : FD r v) (X : PT F (-3) (r bP_)) {t : Nat × Nat} (h : X.1.map (fun q => (v q.1, v q.2)) = some t) : X.1 = some (r t.1, r t.2) ∧ onC t.1 t.2 = true := by
  obtain ⟨X, hX⟩ := X
  match X, hX, h with
  | some (x, y), hX, h =>
    have h : some (v x, v y) = some t := h
    obtain rfl := Option.some.inj h
    refine ⟨by rw [D.2.2.2.1, D.2.2.2.1], D.no (D.lt x) (D.lt y) ?_⟩
    rw [D.2.2.2.1, D.2.2.2.1]
    exact hX
  | none, _, h => exact absurd h (by rintro ⟨⟩)
theorem mul_on {ms : List UInt8} {p t : Nat × Nat} (hp : onC p.1 p.2 = true) (h : affS (mulS ms ((p.1 : Int), (p.2 : Int))) = some t) : onC t.1 t.2 = true := by
  obtain ⟨F, i, r, v, op, D, ho, g⟩ := CRV
  rw [JR_aff D (JR_mul D ho g (P' := ⟨_, D.on hp⟩) rfl ms)] at h
  exact (PT_aff D _ h).2
/-- both shares at once, or one after the other -/
theorem sum_apart {ms ns : List UInt8} {p q : Nat × Nat} (hp : onC p.1 p.2 = true) (hq : onC q.1 q.2 = true) : affS (sumS ms ns ((p.1 : Int), (p.2 : Int)) ((q.1 : Int), (q.2 : Int)) 256) = match affS (mulS ms ((p.1 : Int), (p.2 : Int))) with
    | none => affS (mulS ns ((q.1 : Int), (q.2 : Int)))
    | some t => affS (addS (mulS ns ((q.1 : Int), (q.2 : Int))) ((t.1 : Int), (t.2 : Int))) := by
  obtain ⟨F, i, r, v, op, D, ho, g⟩ := CRV
  have e1 := JR_sum D ho g (P' := ⟨_, D.on hp⟩) (P := ((p.1 : Int), (p.2 : Int))) rfl (Q' := ⟨_, D.on hq⟩) (Q := ((q.1 : Int), (q.2 : Int))) rfl ms ns 256
  have e2 := JR_mul D ho g (P' := ⟨_, D.on hp⟩) (P := ((p.1 : Int), (p.2 : Int))) rfl ms
  have e3 := JR_mul D ho g (P' := ⟨_, D.on hq⟩) (P := ((q.1 : Int), (q.2 : Int))) rfl ns
  generalize mu op ⟨none, True.intro⟩ (eB ms 256) ⟨_, D.on hp⟩ = X at *
  generalize mu op ⟨none, True.intro⟩ (eB ns 256) ⟨_, D.on hq⟩ = Y at *
  rw [JR_aff D e1, JR_aff D e2]
  cases c : X.1.map (fun q => (v q.1, v q.2)) with
  | none =>
    have x0 : X = ⟨none, True.intro⟩ := Subtype.ext (Option.map_eq_none_iff.mp c)
    rw [x0, g.2.2.1]
    exact (JR_aff D e3).symm
  | some t =>
    have hX := (PT_aff D X c).1
    have a := ho Y X
    rw [hX] at a
    have e4 := JR_add D.1 D.2.1 rfl (Q := ((t.1 : Int), (t.2 : Int))) Y.2 (by rw [← hX]; exact X.2) e3 a
    rw [g.2.1]
    exact (JR_aff D e4).symm
/-- a secret's multiple of a point is a point -/
theorem mul_some {ms : List UInt8} {p : Nat × Nat} (hp : onC p.1 p.2 = true) (hl : ms.length = 32) (h0 : 0 < beN ms) (hn : beN ms < nP) : (affS (mulS ms ((p.1 : Int), (p.2 : Int)))).isSome = true := by
  obtain ⟨F, i, r, v, op, D, ho, g⟩ := CRV
  have e2 := JR_mul D ho g (P' := ⟨_, D.on hp⟩) (P := ((p.1 : Int), (p.2 : Int))) rfl ms
  have ee : eB ms 256 = beN ms := by
    have e := eB_beN ms
    rw [hl] at e
    exact e
  rw [ee] at e2
  obtain ⟨B, ys, onB, hys, nB⟩ := base_ex
  have c := JR_c D ho g (P' := ⟨_, D.on onB⟩) (P := ((B.1 : Int), (B.2 : Int))) rfl ys 256
  rw [hys] at c
  have hB : mu op ⟨none, True.intro⟩ nP ⟨_, D.on onB⟩ = ⟨none, True.intro⟩ := by
    refine Subtype.ext ?_
    have q := Option.isNone_iff_eq_none.mp nB
    rw [q] at c
    exact c
  have nb : (⟨_, D.on onB⟩ : PT F (-3) (r bP_)) ≠ ⟨none, True.intro⟩ := fun q => by
    have := congrArg Subtype.val q
    exact absurd this (by rintro ⟨⟩)
  have np : (⟨_, D.on hp⟩ : PT F (-3) (r bP_)) ≠ ⟨none, True.intro⟩ := fun q => by
    have := congrArg Subtype.val q
    exact absurd this (by rintro ⟨⟩)
  have m := mu_ne g PR_n nP_2 hB nb (fun P => cdP v P.1) (fun P => cdP_lt D P.1) (fun P Q h => cdP_inj D P Q h) (by decide +kernel) (fun T h => PT_t2 D ho T h) _ np h0 hn
  rw [JR_aff D e2]
  generalize mu op ⟨none, True.intro⟩ (beN ms) ⟨_, D.on hp⟩ = X at *
  obtain ⟨X, hX⟩ := X
  match X, hX, m with
  | none, _, m => exact absurd rfl m
  | some (x, y), _, _ => rfl
