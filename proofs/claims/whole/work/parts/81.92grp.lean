/-! SUMS OF POINTS OVER A FIELD: they may be taken in any order -/
/-- the slope of the line through two points, or of the tangent -/
def SL {F : Type} [Lean.Grind.CommRing F] (a : F) (x1 y1 x2 y2 s : F) : Prop := (x1 ≠ x2 ∧ s * (x2 - x1) = y2 - y1) ∨ (x1 = x2 ∧ y1 = y2 ∧ y1 + y1 ≠ 0 ∧ s * (y1 + y1) = x1 * x1 + x1 * x1 + x1 * x1 + a)
/-- R is the sum of P and Q -/
def AD {F : Type} [Lean.Grind.CommRing F] (a : F) (P Q R : Option (F × F)) : Prop := match P, Q with
  | none, Q => R = Q
  | some P, none => R = some P
  | some (x1, y1), some (x2, y2) => (x1 = x2 ∧ y1 + y2 = 0 ∧ R = none) ∨ ∃ s, SL a x1 y1 x2 y2 s ∧ R = some (s * s - x1 - x2, -(s * ((s * s - x1 - x2) - x1) + y1))
def ON {F : Type} [Lean.Grind.CommRing F] (a b : F) (P : Option (F × F)) : Prop := match P with
  | none => True
  | some (x, y) => y * y = x * x * x + a * x + b
abbrev NZ (F : Type) [Lean.Grind.CommRing F] : Prop := ∀ u v : F, u * v = 0 → u = 0 ∨ v = 0
theorem nz_c {F : Type} [Lean.Grind.CommRing F] (nz : NZ F) {u v w : F} (hu : u ≠ 0) (h : u * v = u * w) : v = w := by
  rcases nz u (v - w) (by grind) with c | c
  · exact absurd c hu
  · grind
/-- a line: through both points, its third point -/
def LN {F : Type} [Lean.Grind.CommRing F] (a b x1 y1 x2 y2 s c x4 : F) : Prop := y1 = s * x1 + c ∧ y2 = s * x2 + c ∧ x4 = s * s - x1 - x2 ∧ a = s * c + s * c + x1 * x2 + (x1 + x2) * x4 ∧ b = c * c - x1 * x2 * x4
theorem LN.symm {F : Type} [Lean.Grind.CommRing F] {a b x1 y1 x2 y2 s c x4 : F} (h : LN a b x1 y1 x2 y2 s c x4) : LN a b x2 y2 x1 y1 s c x4 := by
  obtain ⟨h1, h2, h3, h4, h5⟩ := h
  exact ⟨h2, h1, by grind, by grind, by grind⟩
theorem SL_line {F : Type} [Lean.Grind.CommRing F] (nz : NZ F) {a b x1 y1 x2 y2 s : F} (h1 : y1 * y1 = x1 * x1 * x1 + a * x1 + b) (h2 : y2 * y2 = x2 * x2 * x2 + a * x2 + b) (h : SL a x1 y1 x2 y2 s) : LN a b x1 y1 x2 y2 s (y1 - s * x1) (s * s - x1 - x2) := by
  rcases h with ⟨hx, hs⟩ | ⟨rfl, rfl, hy, hs⟩
  · have hd : x2 - x1 ≠ 0 := fun q => hx (by grind)
    have e1 : a = s * (y1 - s * x1) + s * (y1 - s * x1) + x1 * x2 + (x1 + x2) * (s * s - x1 - x2) := nz_c nz hd (by grind)
    exact ⟨by grind, by grind, rfl, e1, by grind⟩
  · exact ⟨by grind, by grind, rfl, by grind, by grind⟩
theorem SL_symm {F : Type} [Lean.Grind.CommRing F] {a x1 y1 x2 y2 s : F} (h : SL a x1 y1 x2 y2 s) : SL a x2 y2 x1 y1 s := by
  rcases h with ⟨hx, hs⟩ | ⟨rfl, rfl, hy, hs⟩
  · exact Or.inl ⟨fun e => hx e.symm, by grind⟩
  · exact Or.inr ⟨rfl, rfl, hy, hs⟩
theorem SL_no {F : Type} [Lean.Grind.CommRing F] {a x1 y1 x2 y2 s : F} (h : SL a x1 y1 x2 y2 s) : ¬ (x1 = x2 ∧ y1 + y2 = 0) := by
  rintro ⟨q1, q2⟩
  rcases h with ⟨hx, hs⟩ | ⟨_, rfl, hy, hs⟩
  · exact hx q1
  · exact hy q2
theorem SL_un {F : Type} [Lean.Grind.CommRing F] (nz : NZ F) {a x1 y1 x2 y2 s t : F} (h : SL a x1 y1 x2 y2 s) (h' : SL a x1 y1 x2 y2 t) : s = t := by
  rcases h with ⟨hx, hs⟩ | ⟨e1, e2, hy, hs⟩
  · rcases h' with ⟨_, ht⟩ | ⟨q, _⟩
    · exact nz_c nz (u := x2 - x1) (fun q => hx (by grind)) (by grind)
    · exact absurd q hx
  · rcases h' with ⟨q, _⟩ | ⟨_, _, _, ht⟩
    · exact absurd e1 q
    · exact nz_c nz hy (by grind)
theorem AD_un {F : Type} [Lean.Grind.CommRing F] (nz : NZ F) {a : F} {P Q R R' : Option (F × F)} (h : AD a P Q R) (h' : AD a P Q R') : R = R' := by
  match P, Q with
  | none, Q => exact (show R = Q from h).trans (show R' = Q from h').symm
  | some P, none => exact (show R = some P from h).trans (show R' = some P from h').symm
  | some (x1, y1), some (x2, y2) =>
    rcases h with ⟨q1, q2, rfl⟩ | ⟨s, hs, rfl⟩
    · rcases h' with ⟨_, _, rfl⟩ | ⟨t, ht, _⟩
      · rfl
      · exact absurd ⟨q1, q2⟩ (SL_no ht)
    · rcases h' with ⟨q1, q2, _⟩ | ⟨t, ht, rfl⟩
      · exact absurd ⟨q1, q2⟩ (SL_no hs)
      · rw [SL_un nz hs ht]
theorem AD_comm {F : Type} [Lean.Grind.CommRing F] (nz : NZ F) {a b : F} {P Q R : Option (F × F)} (hP : ON a b P) (hQ : ON a b Q) (h : AD a P Q R) : AD a Q P R := by
  match P, Q, hP, hQ, h with
  | none, none, _, _, h => exact h
  | none, some Q, _, _, h => exact h
  | some P, none, _, _, h => exact h
  | some (x1, y1), some (x2, y2), hP, hQ, h =>
    rcases h with ⟨q1, q2, rfl⟩ | ⟨s, hs, rfl⟩
    · exact Or.inl ⟨q1.symm, by grind, rfl⟩
    · obtain ⟨l1, l2, l3, l4, l5⟩ := SL_line nz hP hQ hs
      refine Or.inr ⟨s, SL_symm hs, ?_⟩
      congr 1
      refine Prod.ext ?_ ?_
      · show s * s - x1 - x2 = s * s - x2 - x1
        grind
      · show -(s * (s * s - x1 - x2 - x1) + y1) = -(s * (s * s - x2 - x1 - x2) + y2)
        grind

theorem AD_line {F : Type} [Lean.Grind.CommRing F] (nz : NZ F) {a b x1 y1 x2 y2 : F} {R : Option (F × F)} (h1 : y1 * y1 = x1 * x1 * x1 + a * x1 + b) (h2 : y2 * y2 = x2 * x2 * x2 + a * x2 + b) (h : AD a (some (x1, y1)) (some (x2, y2)) R) : (x1 = x2 ∧ y1 + y2 = 0 ∧ R = none) ∨ ∃ s c x4, SL a x1 y1 x2 y2 s ∧ LN a b x1 y1 x2 y2 s c x4 ∧ R = some (x4, -(s * x4 + c)) := by
  rcases h with h | ⟨s, hs, rfl⟩
  · exact Or.inl h
  · refine Or.inr ⟨s, y1 - s * x1, s * s - x1 - x2, hs, SL_line nz h1 h2 hs, ?_⟩
    congr 1
    refine Prod.ext rfl ?_
    show -(s * (s * s - x1 - x2 - x1) + y1) = -(s * (s * s - x1 - x2) + (y1 - s * x1))
    clear hs h1 h2 nz
    grind
theorem LN_on {F : Type} [Lean.Grind.CommRing F] {a b x1 y1 x2 y2 s c x4 : F} (h : LN a b x1 y1 x2 y2 s c x4) : -(s * x4 + c) * -(s * x4 + c) = x4 * x4 * x4 + a * x4 + b := by
  obtain ⟨h1, h2, h3, h4, h5⟩ := h
  clear h1 h2
  subst h5 h4 h3
  grind
theorem AD_on {F : Type} [Lean.Grind.CommRing F] (nz : NZ F) {a b : F} {P Q R : Option (F × F)} (hP : ON a b P) (hQ : ON a b Q) (h : AD a P Q R) : ON a b R := by
  match P, Q, hP, hQ, h with
  | none, Q, _, hQ, h => rw [show R = Q from h]; exact hQ
  | some P, none, hP, _, h => rw [show R = some P from h]; exact hP
  | some (x1, y1), some (x2, y2), hP, hQ, h =>
    rcases AD_line nz hP hQ h with ⟨_, _, rfl⟩ | ⟨s, c, x4, hs, hl, rfl⟩
    · exact True.intro
    · exact LN_on hl
def ng {F : Type} [Lean.Grind.CommRing F] (P : Option (F × F)) : Option (F × F) := match P with
  | none => none
  | some (x, y) => some (x, -y)
theorem ng_on {F : Type} [Lean.Grind.CommRing F] {a b : F} {P : Option (F × F)} (h : ON a b P) : ON a b (ng P) := by
  match P, h with
  | none, _ => exact True.intro
  | some (x, y), h =>
    have h : y * y = x * x * x + a * x + b := h
    show -y * -y = x * x * x + a * x + b
    grind
theorem LN_dsc {F : Type} [Lean.Grind.CommRing F] {a b x1 y1 x2 y2 s c x4 : F} (h : LN a b x1 y1 x2 y2 s c x4) (e : x4 = x1) (y0 : y1 = 0) : (a * a * a + a * a * a + a * a * a + a * a * a) + (b * b) * 27 = 0 := by
  obtain ⟨h1, h2, h3, h4, h5⟩ := h
  subst e
  have hc : c = -(s * x4) := by rw [y0] at h1; clear h2 h3 h4 h5 y0; grind
  have hx : x2 = s * s - x4 - x4 := by clear hc h1 h2 h4 h5 y0; grind
  clear h1 h2 h3 y0
  subst h5 h4 hc hx
  grind
theorem LN_opp {F : Type} [Lean.Grind.CommRing F] (nz : NZ F) {a b x1 y1 x2 y2 s c x4 t : F} (h : LN a b x1 y1 x2 y2 s c x4) (ht : SL a x4 (-(s * x4 + c)) x1 (-y1) t) : t = -s := by
  obtain ⟨h1, h2, h3, h4, h5⟩ := h
  rcases ht with ⟨hx, e⟩ | ⟨e1, e2, e3, e4⟩
  · refine nz_c nz (u := x1 - x4) (fun q => hx (by clear nz; grind)) ?_
    clear nz hx h2 h3 h4 h5
    subst h1
    grind
  · refine nz_c nz e3 ?_
    rw [show -(s * x4 + c) + -(s * x4 + c) = -(s * x4 + c) * 2 by clear e3; grind] at *
    have : t * (-(s * x4 + c) * 2) = -s * (-(s * x4 + c) * 2) := by
      rw [e4]
      clear nz e3 e4 e2 h1 h2 h5
      subst h4
      have hx : x2 = s * s - x4 - x4 := by grind
      clear h3
      subst e1 hx
      grind
    clear e3 e4 e2 h1 h2 h3 h4 h5 nz
    grind
theorem LN_fin {F : Type} [Lean.Grind.CommRing F] {a b x1 y1 x2 y2 s c x4 c' x6 : F} (h : LN a b x1 y1 x2 y2 s c x4) (l : LN a b x4 (-(s * x4 + c)) x1 (-y1) (-s) c' x6) : x6 = x2 ∧ -(-s * x6 + c') = y2 := by
  obtain ⟨h1, h2, h3, h4, h5⟩ := h
  obtain ⟨l1, l2, l3, l4, l5⟩ := l
  clear h4 h5 l4 l5
  have e : x6 = x2 := by rw [l3, h3]; clear l1 l2 l3 h1 h2 h3; grind
  refine ⟨e, ?_⟩
  subst e
  clear h1 h3 l2 l3
  grind
/-- P + Q - P is Q -/
theorem AD_cancel {F : Type} [Lean.Grind.CommRing F] (nz : NZ F) (two : ∀ u : F, u + u = 0 → u = 0) {a b : F} (disc : ¬ ((a * a * a + a * a * a + a * a * a + a * a * a) + (b * b) * 27 = 0)) {P Q T R : Option (F × F)} (hP : ON a b P) (hQ : ON a b Q) (h : AD a P Q T) (h2 : AD a T (ng P) R) : R = Q := by
  match P, Q, hP, hQ, h with
  | none, Q, _, hQ, h =>
    have h : T = Q := h
    rw [h] at h2
    match Q, h2 with
    | none, h2 => exact h2
    | some Q, h2 => exact h2
  | some (x1, y1), none, hP, _, h =>
    have h : T = some (x1, y1) := h
    rw [h] at h2
    rcases h2 with ⟨_, _, rfl⟩ | ⟨s, hs, _⟩
    · rfl
    · exact absurd ⟨rfl, by clear hs; grind⟩ (SL_no hs)
  | some (x1, y1), some (x2, y2), hP, hQ, h =>
    have hP : y1 * y1 = x1 * x1 * x1 + a * x1 + b := hP
    have hQ : y2 * y2 = x2 * x2 * x2 + a * x2 + b := hQ
    rcases AD_line nz hP hQ h with ⟨q1, q2, rfl⟩ | ⟨s, c, x4, hs, hl, rfl⟩
    · have h2 : R = some (x1, -y1) := h2
      rw [h2]
      congr 1
      exact Prod.ext q1 (by show -y1 = y2; clear hP hQ h h2 two nz disc; grind)
    · rcases AD_line nz (LN_on hl) (show -y1 * -y1 = x1 * x1 * x1 + a * x1 + b by rw [← hP]; clear hP hQ h h2 two nz disc hs hl; grind) h2 with ⟨q1, q2, rfl⟩ | ⟨t, c', x6, ht, hl', rfl⟩
      · exfalso
        refine disc (LN_dsc hl q1 (two y1 ?_))
        have h1 := hl.1
        clear hP hQ h h2 two nz disc hs hl
        subst q1
        grind
      · have ts := LN_opp nz hl ht
        subst ts
        obtain ⟨f1, f2⟩ := LN_fin hl hl'
        rw [f1] at f2 ⊢
        rw [f2]
theorem LN_c {F : Type} [Lean.Grind.CommRing F] {a b x1 y1 x2 y2 x3 y3 s1 c1 x4 s2 c2 x5 : F} (l1 : LN a b x1 y1 x2 y2 s1 c1 x4) (l2 : LN a b x2 y2 x3 y3 s2 c2 x5) : y3 - (s1 * x3 + c1) = (s2 - s1) * (x3 - x2) := by
  have a1 := l1.2.1
  have b1 := l2.1
  have b2 := l2.2.1
  clear l1 l2
  grind
theorem LN_d {F : Type} [Lean.Grind.CommRing F] {a b x1 y1 x2 y2 x3 y3 s1 c1 x4 : F} (h3 : y3 * y3 = x3 * x3 * x3 + a * x3 + b) (l1 : LN a b x1 y1 x2 y2 s1 c1 x4) : (y3 + (s1 * x3 + c1)) * (y3 - (s1 * x3 + c1)) = (x3 - x1) * (x3 - x2) * (x3 - x4) := by
  obtain ⟨a1, a2, a3, a4, a5⟩ := l1
  have : (y3 + (s1 * x3 + c1)) * (y3 - (s1 * x3 + c1)) = y3 * y3 - (s1 * x3 + c1) * (s1 * x3 + c1) := by clear a1 a2 a3 a4 a5 h3; grind
  rw [this, h3]
  clear this h3 a1 a2
  subst a5 a4 a3
  grind
theorem LN_t {F : Type} [Lean.Grind.CommRing F] {a b x1 y1 x2 y2 y3 s1 c1 x4 s2 c2 x5 : F} (l1 : LN a b x1 y1 x2 y2 s1 c1 x4) (l2 : LN a b x2 y2 x2 y3 s2 c2 x5) : (y2 + y2) * (s2 - s1) = (x2 - x1) * (x2 - x4) := by
  obtain ⟨a1, a2, a3, a4, a5⟩ := l1
  obtain ⟨b1, b2, b3, b4, b5⟩ := l2
  clear a1 b2 a5 b5
  have hc1 : c1 = y2 - s1 * x2 := by clear a3 a4 b1 b3 b4; grind
  have hc2 : c2 = y2 - s2 * x2 := by clear a3 a4 a2 b3 b4; grind
  have e := a4.symm.trans b4
  clear a2 b1 a4 b4
  subst hc1 hc2 a3 b3
  grind
theorem LN_u {F : Type} [Lean.Grind.CommRing F] {a b x1 y1 x2 y2 y3 s1 c1 x4 t : F} (l1 : LN a b x1 y1 x2 y2 s1 c1 x4) (e2 : -(s1 * x4 + c1) = y3) (e4 : t * (-(s1 * x4 + c1) + -(s1 * x4 + c1)) = x4 * x4 + x4 * x4 + x4 * x4 + a) : (y3 + y3) * (s1 + t) = (x4 - x1) * (x4 - x2) := by
  obtain ⟨a1, a2, a3, a4, a5⟩ := l1
  clear a1 a2 a5
  have e : (y3 + y3) * (s1 + t) = (y3 + y3) * s1 + (x4 * x4 + x4 * x4 + x4 * x4 + a) := by rw [← e4, e2]; clear e2 e4 a3 a4; grind
  rw [e, a4, ← e2]
  clear e e4 e2 a4
  subst a3
  grind
/-- slopes of both lines to a sum of three -/
theorem AD_w {F : Type} [Lean.Grind.CommRing F] (nz : NZ F) {a b x1 y1 x2 y2 x3 y3 s1 c1 x4 s2 c2 x5 t : F} (h3 : y3 * y3 = x3 * x3 * x3 + a * x3 + b) (l1 : LN a b x1 y1 x2 y2 s1 c1 x4) (l2 : LN a b x2 y2 x3 y3 s2 c2 x5) (nop : ¬ (x2 = x3 ∧ y2 + y3 = 0)) (ht : SL a x4 (-(s1 * x4 + c1)) x3 y3 t) : (s1 + t) * (s2 - s1) = x3 - x1 := by
  have hcc := LN_c l1 l2
  have hdd := LN_d h3 l1
  rcases ht with ⟨hx, e⟩ | ⟨rfl, e2, e3, e4⟩
  · have hd : x3 - x4 ≠ 0 := fun q => hx (by clear nz; grind)
    have ee : (s1 + t) * (x3 - x4) = y3 + (s1 * x3 + c1) := by clear hcc hdd hd hx nop l2 l1 h3 nz; grind
    by_cases c : x2 = x3
    · refine nz_c nz hd ?_
      subst c
      have ey : y3 = y2 := by rw [l2.2.1, ← l2.1]
      have e9 := LN_t l1 l2
      have e8 : y2 = s1 * x2 + c1 := l1.2.1
      rw [ey, ← e8] at ee
      clear hcc hdd hd hx nop l2 l1 h3 nz e8 ey e
      grind
    · have hd2 : x3 - x2 ≠ 0 := fun q => c (by clear nz; grind)
      refine nz_c nz hd (nz_c nz hd2 ?_)
      rw [← ee, hcc] at hdd
      clear hcc hd hx nop l2 l1 h3 nz ee hd2 c e
      grind
  · have e9 := LN_u l1 e2 e4
    by_cases c : x2 = x4
    · exfalso
      refine nop ⟨c, ?_⟩
      have e8 : y2 = s1 * x2 + c1 := l1.2.1
      rw [← e2, e8, c]
      clear hcc hdd nop l2 l1 h3 nz e8 e2 e3 e4 e9 c
      grind
    · have hd2 : x4 - x2 ≠ 0 := fun q => c (by clear nz; grind)
      refine nz_c nz hd2 ?_
      have e7 : y3 + y3 = (s2 - s1) * (x4 - x2) := by rw [← hcc, ← e2]; clear hcc hdd nop l2 l1 h3 nz e2 e3 e4 e9 hd2 c; grind
      rw [e7] at e9
      clear hcc hdd nop l2 l1 h3 nz e2 e3 e4 hd2 c e7
      grind
theorem LN_e {F : Type} [Lean.Grind.CommRing F] {a b x1 y1 x2 y2 s1 c1 : F} (l1 : LN a b x1 y1 x2 y2 s1 c1 x2) : s1 * (y2 + y2) = x2 * x2 + x2 * x2 + x2 * x2 + a := by
  obtain ⟨a1, a2, a3, a4, a5⟩ := l1
  clear a1 a5
  have hx : x1 = s1 * s1 - x2 - x2 := by clear a2 a4; grind
  clear a3
  subst hx a2 a4
  grind
/-- C is opposite to A + B: then A is opposite to B + C -/
theorem AD_z {F : Type} [Lean.Grind.CommRing F] (nz : NZ F) {a b x1 y1 x2 y2 x3 y3 s1 c1 x4 s2 c2 x5 : F} (l1 : LN a b x1 y1 x2 y2 s1 c1 x4) (l2 : LN a b x2 y2 x3 y3 s2 c2 x5) (sl2 : SL a x2 y2 x3 y3 s2) (e1 : x4 = x3) (e2 : -(s1 * x4 + c1) + y3 = 0) : x1 = x5 ∧ y1 + -(s2 * x5 + c2) = 0 := by
  subst e1
  have ey : y3 = s1 * x4 + c1 := by clear nz l1 l2 sl2; grind
  have e8 : y2 = s1 * x2 + c1 := l1.2.1
  have es : s2 = s1 := by
    rcases sl2 with ⟨hx, e⟩ | ⟨rfl, rfl, hy, e⟩
    · refine nz_c nz (u := x4 - x2) (fun q => hx (by clear nz; grind)) ?_
      rw [ey, e8] at e
      clear nz l1 l2 hx e2 ey e8
      grind
    · have e9 := LN_e l1
      refine nz_c nz hy ?_
      clear nz l1 l2 hy ey e8 e2
      grind
  subst es
  obtain ⟨a1, a2, a3, a4, a5⟩ := l1
  obtain ⟨b1, b2, b3, b4, b5⟩ := l2
  have ex : x1 = x5 := by clear nz e2 ey e8 a1 a2 a4 a5 b1 b2 b4 b5 sl2; grind
  refine ⟨ex, ?_⟩
  subst ex
  clear nz e2 ey e8 a3 a4 a5 b2 b3 b4 b5 sl2
  grind
