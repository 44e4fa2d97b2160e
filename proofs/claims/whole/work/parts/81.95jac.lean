/-! TRIPLES OF THE PROGRAM AND POINTS -/
abbrev RM {F : Type} [Lean.Grind.CommRing F] (r : Int → F) : Prop := (∀ A B, r (A + B) = r A + r B) ∧ (∀ A B, r (A * B) = r A * r B) ∧ (∀ A B, r (A - B) = r A - r B) ∧ r 1 = 1 ∧ (∀ A, r A = 0 ↔ A % (pP : Int) = 0)
def JR {F : Type} [Lean.Grind.CommRing F] (r : Int → F) (s : JP) (P : Option (F × F)) : Prop := match s with
  | none => P = none
  | some (x, y, z) => r z ≠ 0 ∧ ∃ X Y, P = some (X, Y) ∧ r x = X * (r z * r z) ∧ r y = Y * (r z * r z * r z)
theorem RM.n2 {F : Type} [Lean.Grind.CommRing F] {r : Int → F} (h : RM r) : r 2 = 2 := by
  rw [show (2 : Int) = 1 + 1 from rfl, h.1, h.2.2.2.1]; clear h; grind
theorem RM.n3 {F : Type} [Lean.Grind.CommRing F] {r : Int → F} (h : RM r) : r 3 = 3 := by
  rw [show (3 : Int) = 2 + 1 from rfl, h.1, h.n2, h.2.2.2.1]; clear h; grind
theorem RM.n4 {F : Type} [Lean.Grind.CommRing F] {r : Int → F} (h : RM r) : r 4 = 4 := by
  rw [show (4 : Int) = 2 + 2 from rfl, h.1, h.n2]; clear h; grind
theorem RM.n8 {F : Type} [Lean.Grind.CommRing F] {r : Int → F} (h : RM r) : r 8 = 8 := by
  rw [show (8 : Int) = 4 + 4 from rfl, h.1, h.n4]; clear h; grind
theorem RM.ne {F : Type} [Lean.Grind.CommRing F] {r : Int → F} (h : RM r) : (1 : F) ≠ 0 := by
  intro q
  rw [← h.2.2.2.1, h.2.2.2.2] at q
  exact absurd q (by decide +kernel)
theorem RM.md {F : Type} [Lean.Grind.CommRing F] {r : Int → F} (h : RM r) (A : Int) : r (A % (pP : Int)) = r A := by
  have e := (h.2.2.2.2 (A % (pP : Int) - A)).mpr (by rw [Int.sub_emod, Int.emod_emod, ← Int.sub_emod, Int.sub_self, Int.zero_emod])
  rw [h.2.2.1] at e
  generalize r (A % (pP : Int)) = u at *
  clear h
  grind
theorem nz_m {F : Type} [Lean.Grind.CommRing F] (nz : NZ F) {u v : F} (h : u ≠ 0) (h' : v ≠ 0) : u * v ≠ 0 := fun q => by
  rcases nz u v q with c | c
  · exact h c
  · exact h' c
theorem dbl_x {F : Type} [Lean.Grind.CommRing F] (x y z X Y s a : F) (ha : a = -3) (hx : x = X * (z * z)) (hy : y = Y * (z * z * z)) (hs : s * (Y + Y) = X * X + X * X + X * X + a) : 3 * ((x - z * z) * (x + z * z)) = s * (Y + Y) * (z * z * (z * z)) := by
  rw [hs]
  clear hs
  subst hx hy ha
  grind
theorem dbl_y {F : Type} [Lean.Grind.CommRing F] (y z Y : F) (hy : y = Y * (z * z * z)) : 2 * (y * z) = (Y + Y) * (z * z * (z * z)) := by
  subst hy
  grind
theorem dbl_1 {F : Type} [Lean.Grind.CommRing F] (z X Y s M Z : F) (hM : M = s * (Y + Y) * (z * z * (z * z))) (hZ : Z = (Y + Y) * (z * z * (z * z))) : M * M - 2 * (4 * (X * (z * z) * (Y * (z * z * z) * (Y * (z * z * z))))) = (s * s - X - X) * (Z * Z) := by
  subst hM hZ
  grind
theorem dbl_2 {F : Type} [Lean.Grind.CommRing F] (z X Y s M Z N : F) (hM : M = s * (Y + Y) * (z * z * (z * z))) (hZ : Z = (Y + Y) * (z * z * (z * z))) (hN : N = (s * s - X - X) * (Z * Z)) : M * (4 * (X * (z * z) * (Y * (z * z * z) * (Y * (z * z * z)))) - N) - 8 * (Y * (z * z * z) * (Y * (z * z * z)) * (Y * (z * z * z) * (Y * (z * z * z)))) = -(s * (s * s - X - X - X) + Y) * (Z * Z * Z) := by
  subst hN
  subst hM hZ
  grind
theorem JR_dbl {F : Type} [Lean.Grind.CommRing F] {r : Int → F} (h : RM r) (nz : NZ F) {a : F} (ha : a = -3) {s : JP} {P R : Option (F × F)} (J : JR r s P) (A : AD a P P R) : JR r (dblS s) R := by
  match s, J with
  | none, J =>
    have J : P = none := J
    subst J
    exact A
  | some (x, y, z), ⟨z0, X, Y, hP, hx, hy⟩ =>
    subst hP
    have eZ : r (dZ y z) = (Y + Y) * (r z * r z * (r z * r z)) := by
      unfold dZ
      rw [h.2.1, h.2.1, h.n2]
      exact dbl_y _ _ _ hy
    have z4 : r z * r z * (r z * r z) ≠ 0 := nz_m nz (nz_m nz z0 z0) (nz_m nz z0 z0)
    show JR r (if dZ y z % (pP : Int) = 0 then none else some (dX x y z, dY x y z, dZ y z)) R
    rcases A with ⟨_, q, rfl⟩ | ⟨t, ht, rfl⟩
    · rw [if_pos ((h.2.2.2.2 _).mp (by rw [eZ, q]; clear z4; grind))]
      rfl
    · rcases ht with ⟨q, _⟩ | ⟨_, _, y0, hs⟩
      · exact absurd rfl q
      have eZ0 : r (dZ y z) ≠ 0 := by
        rw [eZ]
        exact nz_m nz y0 z4
      rw [if_neg (fun q => eZ0 ((h.2.2.2.2 _).mpr q))]
      have eM : r (dM x z) = t * (Y + Y) * (r z * r z * (r z * r z)) := by
        unfold dM
        rw [h.2.1, h.n3, h.2.1, h.2.2.1, h.1, h.2.1]
        exact dbl_x (r x) (r y) (r z) X Y t a ha hx hy hs
      have eX : r (dX x y z) = (t * t - X - X) * (r (dZ y z) * r (dZ y z)) := by
        unfold dX dS_
        rw [h.2.2.1, h.2.1, h.2.1, h.2.1, h.2.1, h.2.1, h.n2, h.n4, hx, hy]
        exact dbl_1 (r z) X Y t _ _ eM eZ
      refine ⟨eZ0, _, _, rfl, eX, ?_⟩
      unfold dY
      rw [h.2.2.1, h.2.1, h.2.2.1, h.2.1 8, h.n8]
      unfold dS_
      rw [h.2.1 4, h.n4, h.2.1 x, h.2.1 (y * y), h.2.1 y, hx, hy]
      exact dbl_2 (r z) X Y t _ _ _ eM eZ eX
theorem add_1 {F : Type} [Lean.Grind.CommRing F] (z X1 Y1 X2 Y2 s H J Z : F) (hH : H = (X2 - X1) * (z * z)) (hJ : J = s * (X2 - X1) * (z * z * z)) (hZ : Z = z * H) : J * J - H * (H * H) - 2 * (X1 * (z * z) * (H * H)) = (s * s - X1 - X2) * (Z * Z) := by
  subst hZ
  subst hH hJ
  grind
theorem add_2 {F : Type} [Lean.Grind.CommRing F] (z X1 Y1 X2 Y2 s H J Z N : F) (hH : H = (X2 - X1) * (z * z)) (hJ : J = s * (X2 - X1) * (z * z * z)) (hZ : Z = z * H) (hN : N = (s * s - X1 - X2) * (Z * Z)) : J * (X1 * (z * z) * (H * H) - N) - Y1 * (z * z * z) * (H * (H * H)) = -(s * (s * s - X1 - X2 - X1) + Y1) * (Z * Z * Z) := by
  subst hN
  subst hZ
  subst hH hJ
  grind
theorem add_h {F : Type} [Lean.Grind.CommRing F] (z x X1 X2 : F) (hx : x = X1 * (z * z)) : X2 * (z * z) - x = (X2 - X1) * (z * z) := by
  subst hx
  grind
theorem add_j {F : Type} [Lean.Grind.CommRing F] (z y Y1 Y2 : F) (hy : y = Y1 * (z * z * z)) : Y2 * (z * z * z) - y = (Y2 - Y1) * (z * z * z) := by
  subst hy
  grind
theorem JR_add {F : Type} [Lean.Grind.CommRing F] {r : Int → F} (h : RM r) (nz : NZ F) {a b : F} (ha : a = -3) {s : JP} {P R : Option (F × F)} {Q : Int × Int} (hP : ON a b P) (hQ : ON a b (some (r Q.1, r Q.2))) (J : JR r s P) (A : AD a P (some (r Q.1, r Q.2)) R) : JR r (addS s Q) R := by
  obtain ⟨px, py⟩ := Q
  have A : AD a P (some (r px, r py)) R := A
  have hQ : ON a b (some (r px, r py)) := hQ
  match s, J with
  | none, J =>
    have J : P = none := J
    subst J
    have A : R = some (r px, r py) := A
    subst A
    refine ⟨by rw [h.2.2.2.1]; exact h.ne, _, _, rfl, ?_, ?_⟩
    · rw [h.2.2.2.1]; clear h hQ; grind
    · rw [h.2.2.2.1]; clear h hQ; grind
  | some (x, y, z), J =>
    have J0 := J
    obtain ⟨z0, X, Y, hP', hx, hy⟩ := J
    subst hP'
    have eH : r (aH px x z) = (r px - X) * (r z * r z) := by
      unfold aH
      rw [h.2.2.1, h.2.1, h.2.1]
      exact add_h _ _ _ _ hx
    have eJ : r (aJ py y z) = (r py - Y) * (r z * r z * r z) := by
      unfold aJ
      rw [h.2.2.1, h.2.1, h.2.1, h.2.1]
      exact add_j _ _ _ _ hy
    have z2 := nz_m nz z0 z0
    have z3 := nz_m nz z2 z0
    show JR r (if aH px x z % (pP : Int) = 0 then (if aJ py y z % (pP : Int) = 0 then dblS (some (x, y, z)) else none) else some (aX' (aH px x z) (aJ py y z) x, aY' (aH px x z) (aJ py y z) x y, z * aH px x z)) R
    by_cases c : X = r px
    · rw [if_pos ((h.2.2.2.2 _).mp (by rw [eH, c]; clear z2 z3 A hP hQ; grind))]
      subst c
      by_cases d : Y = r py
      · rw [if_pos ((h.2.2.2.2 _).mp (by rw [eJ, d]; clear z2 z3 A hP hQ; grind))]
        rw [← d] at A
        exact JR_dbl h nz ha J0 A
      · rw [if_neg (fun q => by
          have q := (h.2.2.2.2 _).mpr q
          rw [eJ] at q
          rcases nz _ _ q with k | k
          · exact d (by clear z2 z3 A hP hQ q eH eJ hx hy h nz z0 J0; grind)
          · exact z3 k)]
        rcases ON_x nz (show Y * Y = _ from hP) (show r py * r py = _ from hQ) with q | q
        · exact absurd q d
        rcases A with ⟨_, _, q⟩ | ⟨t, ht, _⟩
        · exact q
        · exact absurd ⟨rfl, by rw [q]; clear z2 z3 hP hQ q eH eJ hx hy h nz z0 J0 ht; grind⟩ (SL_no ht)
    · have nH : r (aH px x z) ≠ 0 := by
        rw [eH]
        exact nz_m nz (fun q => c (by clear z2 z3 A hP hQ eH eJ hx hy h nz z0 J0; grind)) z2
      rw [if_neg (fun q => nH ((h.2.2.2.2 _).mpr q))]
      rcases A with ⟨q, _⟩ | ⟨t, ht, rfl⟩
      · exact absurd q c
      rcases ht with ⟨_, ht⟩ | ⟨q, _⟩
      · have eJ' : r (aJ py y z) = t * (r px - X) * (r z * r z * r z) := by rw [eJ, ht]
        have eZ : r (z * aH px x z) = r z * r (aH px x z) := h.2.1 _ _
        have eX : r (aX' (aH px x z) (aJ py y z) x) = (t * t - X - r px) * (r (z * aH px x z) * r (z * aH px x z)) := by
          unfold aX'
          rw [h.2.2.1, h.2.2.1, h.2.1 _ (aJ py y z), h.2.1 2, h.n2, h.2.1 x, h.2.1 _ (aH px x z * aH px x z), h.2.1 _ (aH px x z), hx]
          exact add_1 (r z) X Y (r px) (r py) t _ _ _ eH eJ' eZ
        refine ⟨by rw [eZ]; exact nz_m nz z0 nH, _, _, rfl, eX, ?_⟩
        unfold aY'
        rw [h.2.2.1, h.2.1 _ (_ - _), h.2.2.1, h.2.1 x, h.2.1 y, h.2.1 _ (aH px x z * aH px x z), h.2.1 _ (aH px x z), hx, hy]
        exact add_2 (r z) X Y (r px) (r py) t _ _ _ _ eH eJ' eZ eX
      · exact absurd q c
