/-! SUMS OF POINTS: in any grouping -/
theorem W_end {F : Type} [Lean.Grind.CommRing F] {x1 x2 x3 y2 s1 c1 x4 s2 c2 x5 t t' x6 x7 c6 c7 : F} (a2 : y2 = s1 * x2 + c1) (b1 : y2 = s2 * x2 + c2) (h4 : x4 = s1 * s1 - x1 - x2) (h5 : x5 = s2 * s2 - x2 - x3) (h6 : x6 = t * t - x4 - x3) (h7 : x7 = t' * t' - x1 - x5) (e6 : -(s1 * x4 + c1) = t * x4 + c6) (e7 : -(s2 * x5 + c2) = t' * x5 + c7) (hw : s1 + t = s2 + t') (hx : (s1 + t) * (s2 - s1) = x3 - x1) : x6 = x7 ∧ -(t * x6 + c6) = -(t' * x7 + c7) := by
  have k1 : t' = s1 + t - s2 := by clear a2 b1 h4 h5 h6 h7 e6 e7 hx; grind
  have k2 : x3 = x1 + (s1 + t) * (s2 - s1) := by clear a2 b1 h4 h5 h6 h7 e6 e7 hw k1; grind
  have k3 : c1 = y2 - s1 * x2 := by clear b1 h4 h5 h6 h7 e6 e7 hw k1 k2 hx; grind
  have k4 : c2 = y2 - s2 * x2 := by clear a2 h4 h5 h6 h7 e6 e7 hw k1 k2 k3 hx; grind
  have k5 : c6 = -(s1 * x4 + c1) - t * x4 := by rw [e6]; clear a2 b1 h4 h5 h6 h7 e6 e7 hw k1 k2 k3 k4 hx; grind
  have k6 : c7 = -(s2 * x5 + c2) - t' * x5 := by rw [e7]; clear a2 b1 h4 h5 h6 h7 e6 e7 hw k1 k2 k3 k4 k5 hx; grind
  clear a2 b1 e6 e7 hw hx
  subst k6 k5 k4 k3 h7 h6 h5 h4 k2 k1
  constructor
  · grind
  · grind
theorem ng_ng {F : Type} [Lean.Grind.CommRing F] (P : Option (F × F)) : ng (ng P) = P := by
  match P with
  | none => rfl
  | some (x, y) =>
    show some (x, - -y) = some (x, y)
    congr 2
    grind
theorem AD_inv {F : Type} [Lean.Grind.CommRing F] (nz : NZ F) {a : F} {P R : Option (F × F)} (h : AD a P (ng P) R) : R = none := by
  match P, h with
  | none, h => exact h
  | some (x, y), h =>
    rcases h with ⟨_, _, h⟩ | ⟨s, hs, _⟩
    · exact h
    · exact absurd ⟨rfl, by clear hs; grind⟩ (SL_no hs)
theorem AD_none {F : Type} [Lean.Grind.CommRing F] {a : F} {P R : Option (F × F)} (h : AD a P none R) : R = P := by
  match P, h with
  | none, h => exact h
  | some (x, y), h => exact h
theorem ON_x {F : Type} [Lean.Grind.CommRing F] (nz : NZ F) {a b x y z : F} (h1 : y * y = x * x * x + a * x + b) (h2 : z * z = x * x * x + a * x + b) : y = z ∨ z = -y := by
  rcases nz (y - z) (y + z) (by clear nz; grind) with c | c
  · exact Or.inl (by clear nz h1 h2; grind)
  · exact Or.inr (by clear nz h1 h2; grind)
/-- (A + B) + C is A + (B + C) -/
theorem AD_assoc {F : Type} [Lean.Grind.CommRing F] (nz : NZ F) (two : ∀ u : F, u + u = 0 → u = 0) {a b : F} (disc : ¬ ((a * a * a + a * a * a + a * a * a + a * a * a) + (b * b) * 27 = 0)) {A B C D E R R' : Option (F × F)} (hA : ON a b A) (hB : ON a b B) (hC : ON a b C) (h1 : AD a A B D) (h2 : AD a D C R) (h3 : AD a B C E) (h4 : AD a A E R') : R = R' := by
  have hD := AD_on nz hA hB h1
  have hE := AD_on nz hB hC h3
  by_cases o1 : B = ng A
  · subst o1
    have hd : D = none := AD_inv nz h1
    rw [hd] at h2
    have hr : R = C := h2
    rw [hr]
    refine (AD_cancel nz two disc hB hC h3 ?_).symm
    rw [ng_ng]
    exact AD_comm nz hA hE h4
  by_cases o2 : C = ng B
  · subst o2
    have he : E = none := AD_inv nz h3
    rw [he] at h4
    rw [AD_none h4]
    exact AD_cancel nz two disc hB hA (AD_comm nz hA hB h1) h2
  by_cases o3 : C = ng A
  · subst o3
    rw [AD_cancel nz two disc hA hB h1 h2]
    refine (AD_cancel nz two disc hC hB (AD_comm nz hB hC h3) ?_).symm
    rw [ng_ng]
    exact AD_comm nz hA hE h4
  by_cases o4 : A = C
  · subst o4
    rw [AD_un nz h3 (AD_comm nz hA hB h1)] at h4
    exact AD_un nz h2 (AD_comm nz hA hD h4)
  match A, B, C with
  | none, B, C =>
    have q1 : D = B := h1
    have q2 : R' = E := h4
    rw [q2]
    rw [q1] at h2
    exact AD_un nz h2 h3
  | A, none, C =>
    have q1 : D = A := AD_none h1
    have q2 : E = C := h3
    rw [q1] at h2
    rw [q2] at h4
    exact AD_un nz h2 h4
  | A, B, none =>
    have q1 : R = D := AD_none h2
    have q2 : E = B := AD_none h3
    rw [q1]
    rw [q2] at h4
    exact AD_un nz h1 h4
  | some (x1, y1), some (x2, y2), some (x3, y3) =>
    have hA : y1 * y1 = x1 * x1 * x1 + a * x1 + b := hA
    have hB : y2 * y2 = x2 * x2 * x2 + a * x2 + b := hB
    have hC : y3 * y3 = x3 * x3 * x3 + a * x3 + b := hC
    have n13 : x1 ≠ x3 := by
      intro q
      subst q
      rcases ON_x nz hA hC with c | c
      · exact o4 (by rw [c])
      · exact o3 (by rw [c]; rfl)
    have n12 : ¬ (x1 = x2 ∧ y1 + y2 = 0) := by
      rintro ⟨q1, q2⟩
      exact o1 (by rw [q1]; show some (x2, y2) = some (x2, -y1); congr 2; clear nz two disc hA hB hC h1 h2 h3 h4; grind)
    have n23 : ¬ (x2 = x3 ∧ y2 + y3 = 0) := by
      rintro ⟨q1, q2⟩
      exact o2 (by rw [q1]; show some (x3, y3) = some (x3, -y2); congr 2; clear nz two disc hA hB hC h1 h2 h3 h4; grind)
    rcases AD_line nz hA hB h1 with ⟨q1, q2, _⟩ | ⟨s1, c1, x4, sl1, l1, rfl⟩
    · exact absurd ⟨q1, q2⟩ n12
    rcases AD_line nz hB hC h3 with ⟨q1, q2, _⟩ | ⟨s2, c2, x5, sl2, l2, rfl⟩
    · exact absurd ⟨q1, q2⟩ n23
    rcases AD_line nz hD hC h2 with ⟨q1, q2, rfl⟩ | ⟨t, c6, x6, sl3, l3, rfl⟩
    · have z := AD_z nz l1 l2 sl2 q1 q2
      rcases h4 with ⟨_, _, h⟩ | ⟨t', ht, _⟩
      · exact h.symm
      · exact absurd z (SL_no ht)
    rcases AD_line nz hA hE h4 with ⟨q1, q2, _⟩ | ⟨t', c7, x7, sl4, l4, rfl⟩
    · have z := AD_z nz l2.symm l1.symm (SL_symm sl1) q1.symm (by rw [← q2]; clear nz two disc hA hB hC h1 h2 h3 h4; grind)
      exact absurd ⟨z.1.symm, by rw [← z.2]; clear nz two disc hA hB hC h1 h2 h3 h4; grind⟩ (SL_no sl3)
    have w1 := AD_w nz hC l1 l2 n23 sl3
    have w2 := AD_w nz hA l2.symm l1.symm (fun q => n12 ⟨q.1.symm, by rw [← q.2]; clear nz two disc hA hB hC h1 h2 h3 h4; grind⟩) (SL_symm sl4)
    have ns : s2 - s1 ≠ 0 := by
      intro q
      rw [q] at w1
      exact n13 (by clear nz two disc hA hB hC h1 h2 h3 h4 w2; grind)
    have ww : s1 + t = s2 + t' := nz_c nz ns (by clear nz two disc hA hB hC h1 h2 h3 h4; grind)
    obtain ⟨f1, f2⟩ := W_end l1.2.1 l2.1 l1.2.2.1 l2.2.2.1 l3.2.2.1 l4.2.2.1 l3.1 l4.2.1 ww w1
    rw [f2, f1]
