/-! THE CURVE'S POINTS: sums by bits, none of them too early -/
def evT {F : Type} [Lean.Grind.CommRing F] (r : Int → F) (X : F) (f : Int × Int × Int) : F := r f.1 * (X * X) + r f.2.1 * X + r f.2.2
theorem mT_alg {F : Type} [Lean.Grind.CommRing F] (X b a1 b1 c1 a2 b2 c2 : F) (hX : X * X * X = 3 * X - b) : (a1 * c2 + b1 * b2 + c1 * a2 + 3 * (a1 * a2)) * (X * X) + (b1 * c2 + c1 * b2 + 3 * (a1 * b2 + b1 * a2) - b * (a1 * a2)) * X + (c1 * c2 - b * (a1 * b2 + b1 * a2)) = (a1 * (X * X) + b1 * X + c1) * (a2 * (X * X) + b2 * X + c2) := by
  have e : b = 3 * X - X * X * X := by rw [hX]; clear hX; grind
  clear hX
  subst e
  grind
theorem mT_ev {F : Type} [Lean.Grind.CommRing F] {r : Int → F} (h : RM r) {X : F} (hX : X * X * X = 3 * X - r bP_) (f g : Int × Int × Int) : evT r X (mT f g) = evT r X f * evT r X g := by
  obtain ⟨a1, b1, c1⟩ := f
  obtain ⟨a2, b2, c2⟩ := g
  unfold evT mT
  show r ((a1 * c2 + b1 * b2 + c1 * a2 + 3 * (a1 * a2)) % (pP : Int)) * (X * X) + r ((b1 * c2 + c1 * b2 + 3 * (a1 * b2 + b1 * a2) - (bP_ : Int) * (a1 * a2)) % (pP : Int)) * X + r ((c1 * c2 - (bP_ : Int) * (a1 * b2 + b1 * a2)) % (pP : Int)) = (r a1 * (X * X) + r b1 * X + r c1) * (r a2 * (X * X) + r b2 * X + r c2)
  rw [h.md, h.md, h.md]
  simp only [h.1, h.2.1, h.2.2.1, h.n3]
  exact mT_alg X (r bP_) (r a1) (r b1) (r c1) (r a2) (r b2) (r c2) hX
theorem RM.z {F : Type} [Lean.Grind.CommRing F] {r : Int → F} (h : RM r) : r 0 = 0 := (h.2.2.2.2 0).mpr (Int.zero_emod _)
theorem qT_ev {F : Type} [Lean.Grind.CommRing F] {r : Int → F} (h : RM r) {x : Nat} (hX : r x * r x * r x = 3 * r x - r bP_) (ys : List UInt8) : ∀ k, evT r (r x) (qT ys k) = r ((x ^ eB ys k : Nat) : Int)
  | 0 => by
    unfold evT qT eB
    show r 0 * (r x * r x) + r 0 * r x + r 1 = r ((x ^ 0 : Nat) : Int)
    rw [Nat.pow_zero, h.z, show ((1 : Nat) : Int) = 1 from rfl]
    clear hX h
    grind
  | k + 1 => by
    have e : x ^ (2 * eB ys k) = x ^ eB ys k * x ^ eB ys k := by rw [Nat.two_mul, Nat.pow_add]
    have ih := qT_ev h hX ys k
    rw [qT, eB]
    cases bitA ys k with
    | true =>
      rw [if_pos rfl, if_pos rfl, mT_ev h hX, mT_ev h hX, ih, Nat.pow_succ, e, Int.natCast_mul, Int.natCast_mul, h.2.1, h.2.1]
      congr 1
      unfold evT
      show r 0 * (r x * r x) + r 1 * r x + r 0 = r x
      rw [h.z, h.2.2.2.1]
      clear hX h ih
      grind
    | false =>
      rw [if_neg Bool.false_ne_true, if_neg Bool.false_ne_true, mT_ev h hX, ih, Nat.add_zero, e, Int.natCast_mul, h.2.1]
theorem no_root {F : Type} [Lean.Grind.CommRing F] {r : Int → F} {v : F → Nat} (D : FD r v) (X : F) (hX : X * X * X = 3 * X - r bP_) : False := by
  have h := D.1
  rw [← D.2.2.2.1 X] at hX
  have e := qT_ev h hX (beV 32 pP) 256
  rw [eB_p] at e
  have e2 : r ((v X ^ pP : Nat) : Int) = r (v X : Int) := by
    have q := flt PR_p (v X)
    rw [← h.md, ← Int.natCast_emod, q, Int.natCast_emod, h.md]
  rw [e2] at e
  have e3 := mT_ev h hX
  have e4 := congrArg (evT r (r (v X : Int))) qT_p
  rw [e3] at e4
  have e5 : evT r (r (v X : Int)) ((qT (beV 32 pP) 256).1, (qT (beV 32 pP) 256).2.1 - 1, (qT (beV 32 pP) 256).2.2) = 0 := by
    unfold evT at e ⊢
    rw [h.2.2.1, h.2.2.2.1]
    generalize r (qT (beV 32 pP) 256).1 = A at *
    generalize r (qT (beV 32 pP) 256).2.1 = B at *
    generalize r (qT (beV 32 pP) 256).2.2 = C at *
    generalize r (v X : Int) = Y at *
    clear e2 e3 e4 hX h D
    grind
  rw [e5] at e4
  have e6 : evT r (r (v X : Int)) (0, 0, 1) = 1 := by
    unfold evT
    show r 0 * _ + r 0 * _ + r 1 = 1
    rw [h.z, h.2.2.2.1]
    clear e e2 e3 e4 e5 hX h D
    grind
  rw [e6] at e4
  refine h.ne ?_
  rw [← e4]
  clear e e2 e3 e4 e5 e6 hX h D
  grind
theorem FD.two {F : Type} [Lean.Grind.CommRing F] {r : Int → F} {v : F → Nat} (D : FD r v) : ∀ u : F, u + u = 0 → u = 0 := by
  intro u hu
  have e : r 2 ≠ 0 := fun q => absurd ((D.1.2.2.2.2 2).mp q) (by decide +kernel)
  rcases D.2.1 (r 2) u (by rw [D.1.n2, ← hu]; clear e hu D; grind) with c | c
  · exact absurd c e
  · exact c
theorem FD.inv {F : Type} [Lean.Grind.CommRing F] {r : Int → F} {v : F → Nat} (D : FD r v) : ∀ u : F, u ≠ 0 → ∃ w, u * w = 1 := by
  intro u hu
  rw [← D.2.2.2.1 u] at hu ⊢
  exact ⟨_, D.2.2.2.2.1 _ hu⟩
theorem FD.disc {F : Type} [Lean.Grind.CommRing F] {r : Int → F} {v : F → Nat} (D : FD r v) : ¬ (((-3 : F) * -3 * -3 + -3 * -3 * -3 + -3 * -3 * -3 + -3 * -3 * -3) + (r bP_ * r bP_) * 27 = 0) := by
  intro q
  have h := D.1
  have n27 : r 27 = 27 := by
    rw [show (27 : Int) = 8 + 8 + 8 + 3 from rfl, h.1, h.1, h.1, h.n8, h.n3]
    clear q h D
    grind
  have e : r ((bP_ : Int) * bP_ * 27 - 4 * 27) = 0 := by
    rw [h.2.2.1, h.2.1 _ 27, h.2.1 4, h.2.1, n27, h.n4, ← q]
    generalize r bP_ = b at *
    clear q h D
    grind
  exact absurd ((h.2.2.2.2 _).mp e) (by decide +kernel)
theorem FD.eq {F : Type} [Lean.Grind.CommRing F] {r : Int → F} {v : F → Nat} (D : FD r v) (A B : Int) : r A = r B ↔ A % (pP : Int) = B % (pP : Int) := by
  rw [← rs_eq pP_1]
  constructor
  · intro q
    rw [← D.2.2.1, ← D.2.2.1, q]
  · intro q
    have e := congrArg (fun k : Nat => r (k : Int)) q
    have e : r (rs pP A : Int) = r (rs pP B : Int) := e
    rw [← D.2.2.1, ← D.2.2.1, D.2.2.2.1, D.2.2.2.1] at e
    exact e
/-- a point that the programs take is one of the curve -/
theorem FD.on {F : Type} [Lean.Grind.CommRing F] {r : Int → F} {v : F → Nat} (D : FD r v) {x y : Nat} (h : onC x y = true) : ON (-3) (r bP_) (some (r x, r y)) := by
  unfold onC at h
  have h := (of_decide_eq_true h).2.2
  rw [← D.eq] at h
  show r y * r y = r x * r x * r x + -3 * r x + r bP_
  rw [← D.1.2.1, ← h, D.1.1, D.1.2.2.1, D.1.2.2.1, D.1.2.2.1, D.1.2.1, D.1.2.1]
  clear h D
  grind
theorem FD.no {F : Type} [Lean.Grind.CommRing F] {r : Int → F} {v : F → Nat} (D : FD r v) {x y : Nat} (hx : x < pP) (hy : y < pP) (h : ON (-3) (r bP_) (some (r x, r y))) : onC x y = true := by
  unfold onC
  refine decide_eq_true ⟨hx, hy, ?_⟩
  rw [← D.eq]
  have h : r y * r y = r x * r x * r x + -3 * r x + r bP_ := h
  rw [D.1.2.1 y, h, D.1.1, D.1.2.2.1, D.1.2.2.1, D.1.2.2.1, D.1.2.1, D.1.2.1]
  clear h D
  grind
theorem JR_adS {F : Type} [Lean.Grind.CommRing F] {r : Int → F} {v : F → Nat} (D : FD r v) {b : F} {op : PT F (-3) b → PT F (-3) b → PT F (-3) b} {ne : PT F (-3) b → PT F (-3) b} (ho : isOp op) (g : GP op ⟨none, True.intro⟩ ne) {s : JP} {A P' : PT F (-3) b} {P : Int × Int} (hP : P'.1 = some (r P.1, r P.2)) (J : JR r s A.1) (c : Bool) : JR r (adS c s P) (op A (mu op ⟨none, True.intro⟩ (if c then 1 else 0) P')).1 := by
  unfold adS
  cases c with
  | true =>
    rw [if_pos rfl, if_pos rfl, mu_one g]
    have q := ho A P'
    rw [hP] at q
    exact JR_add D.1 D.2.1 rfl A.2 (by rw [← hP]; exact P'.2) J q
  | false =>
    rw [if_neg Bool.false_ne_true, if_neg Bool.false_ne_true, mu, g.r0]
    exact J
theorem GP.bits {E : Type} {op : E → E → E} {o : E} {ne : E → E} (g : GP op o ne) (P Q : E) (m n i j : Nat) : op (op (op (op (mu op o m P) (mu op o n Q)) (op (mu op o m P) (mu op o n Q))) (mu op o i P)) (mu op o j Q) = op (mu op o (2 * m + i) P) (mu op o (2 * n + j) Q) := by
  rw [mu_add g, mu_add g, Nat.two_mul, Nat.two_mul, mu_add g, mu_add g, g.swp]
  generalize op (mu op o m P) (mu op o m P) = x
  generalize op (mu op o n Q) (mu op o n Q) = y
  rw [g.1, g.swp]
theorem JR_sum {F : Type} [Lean.Grind.CommRing F] {r : Int → F} {v : F → Nat} (D : FD r v) {b : F} {op : PT F (-3) b → PT F (-3) b → PT F (-3) b} {ne : PT F (-3) b → PT F (-3) b} (ho : isOp op) (g : GP op ⟨none, True.intro⟩ ne) {P' Q' : PT F (-3) b} {P Q : Int × Int} (hP : P'.1 = some (r P.1, r P.2)) (hQ : Q'.1 = some (r Q.1, r Q.2)) (ms ns : List UInt8) : ∀ k, JR r (sumS ms ns P Q k) (op (mu op ⟨none, True.intro⟩ (eB ms k) P') (mu op ⟨none, True.intro⟩ (eB ns k) Q')).1
  | 0 => by
    rw [sumS, eB, eB, mu, mu, g.2.2.1]
    rfl
  | k + 1 => by
    have ih := JR_sum D ho g hP hQ ms ns k
    rw [sumS, eB, eB, ← g.bits]
    exact JR_adS D ho g hQ (JR_adS D ho g hP (JR_dbl D.1 D.2.1 rfl ih (ho _ _)) _) _
def red (s : JP) : JP := match s with
  | none => none
  | some (x, y, z) => some (x % (pP : Int), y % (pP : Int), z % (pP : Int))
theorem JR_red {F : Type} [Lean.Grind.CommRing F] {r : Int → F} (h : RM r) {s : JP} {P : Option (F × F)} (J : JR r s P) : JR r (red s) P := by
  match s, J with
  | none, J => exact J
  | some (x, y, z), J =>
    show r (z % (pP : Int)) ≠ 0 ∧ ∃ X Y, P = some (X, Y) ∧ r (x % (pP : Int)) = X * (r (z % (pP : Int)) * r (z % (pP : Int))) ∧ r (y % (pP : Int)) = Y * (r (z % (pP : Int)) * r (z % (pP : Int)) * r (z % (pP : Int)))
    rw [h.md, h.md, h.md]
    exact J
def cS (ms : List UInt8) (P : Int × Int) : Nat → JP
  | 0 => none
  | k + 1 => red (adS (bitA ms k) (red (dblS (cS ms P k))) P)
theorem JR_c {F : Type} [Lean.Grind.CommRing F] {r : Int → F} {v : F → Nat} (D : FD r v) {b : F} {op : PT F (-3) b → PT F (-3) b → PT F (-3) b} {ne : PT F (-3) b → PT F (-3) b} (ho : isOp op) (g : GP op ⟨none, True.intro⟩ ne) {P' : PT F (-3) b} {P : Int × Int} (hP : P'.1 = some (r P.1, r P.2)) (ms : List UInt8) : ∀ k, JR r (cS ms P k) (mu op ⟨none, True.intro⟩ (eB ms k) P').1
  | 0 => rfl
  | k + 1 => by
    have ih := JR_c D ho g hP ms k
    rw [cS, eB, mu_add g, Nat.two_mul, mu_add g]
    exact JR_red D.1 (JR_adS D ho g hP (JR_red D.1 (JR_dbl D.1 D.2.1 rfl ih (ho _ _))) _)
theorem nG_none : (cS (beV 32 nP) (bX_, bY_) 256).isNone = true := by decide +kernel
theorem aff_x {F : Type} [Lean.Grind.CommRing F] (X x z w : F) (hx : x = X * (z * z)) (h : z * w = 1) : x * (w * w) = X := by
  subst hx
  have : X * (z * z) * (w * w) = X * ((z * w) * (z * w)) := by clear h; grind
  rw [this, h]
  clear this h
  grind
theorem aff_y {F : Type} [Lean.Grind.CommRing F] (Y y z w : F) (hy : y = Y * (z * z * z)) (h : z * w = 1) : y * (w * w * w) = Y := by
  subst hy
  have : Y * (z * z * z) * (w * w * w) = Y * ((z * w) * (z * w) * (z * w)) := by clear h; grind
  rw [this, h]
  clear this h
  grind
theorem JR_aff {F : Type} [Lean.Grind.CommRing F] {r : Int → F} {v : F → Nat} (D : FD r v) {s : JP} {P : Option (F × F)} (J : JR r s P) : affS s = P.map (fun q => (v q.1, v q.2)) := by
  match s, J with
  | none, J =>
    have J : P = none := J
    subst J
    rfl
  | some (x, y, z), ⟨z0, X, Y, hP, hx, hy⟩ =>
    subst hP
    have hz := D.2.2.2.2.1 z z0
    show some (rs pP (x * (zin z * zin z)), rs pP (y * (zin z * zin z * zin z))) = some (v X, v Y)
    rw [← D.2.2.1, ← D.2.2.1, D.1.2.1, D.1.2.1 y, D.1.2.1 (zin z * zin z), D.1.2.1 (zin z), aff_x X _ _ _ hx hz, aff_y Y _ _ _ hy hz]
