/-! THE POINTS ARE A GROUP; multiples; how many points there are -/
abbrev GP {E : Type} (op : E → E → E) (o : E) (ne : E → E) : Prop := (∀ a b c, op (op a b) c = op a (op b c)) ∧ (∀ a b, op a b = op b a) ∧ (∀ a, op o a = a) ∧ (∀ a, op (ne a) a = o)
abbrev PT (F : Type) [Lean.Grind.CommRing F] (a b : F) : Type := {P : Option (F × F) // ON a b P}
theorem SL_ex {F : Type} [Lean.Grind.CommRing F] (nz : NZ F) (inv : ∀ u : F, u ≠ 0 → ∃ v, u * v = 1) {a b x1 y1 x2 y2 : F} (h1 : y1 * y1 = x1 * x1 * x1 + a * x1 + b) (h2 : y2 * y2 = x2 * x2 * x2 + a * x2 + b) (h : ¬ (x1 = x2 ∧ y1 + y2 = 0)) : ∃ s, SL a x1 y1 x2 y2 s := by
  by_cases c : x1 = x2
  · subst c
    rcases ON_x nz h1 h2 with q | q
    · subst q
      obtain ⟨v, hv⟩ := inv (y1 + y1) (fun z => h ⟨rfl, z⟩)
      refine ⟨(x1 * x1 + x1 * x1 + x1 * x1 + a) * v, Or.inr ⟨rfl, rfl, fun z => h ⟨rfl, z⟩, ?_⟩⟩
      clear inv nz h h1 h2
      grind
    · exact absurd ⟨rfl, by rw [q]; clear inv nz h h1 h2 q; grind⟩ h
  · obtain ⟨v, hv⟩ := inv (x2 - x1) (fun z => c (by clear inv nz h h1 h2; grind))
    refine ⟨(y2 - y1) * v, Or.inl ⟨c, ?_⟩⟩
    clear inv nz h h1 h2 c
    grind
theorem AD_ex {F : Type} [Lean.Grind.CommRing F] (nz : NZ F) (inv : ∀ u : F, u ≠ 0 → ∃ v, u * v = 1) {a b : F} {P Q : Option (F × F)} (hP : ON a b P) (hQ : ON a b Q) : ∃ R, AD a P Q R := by
  match P, Q, hP, hQ with
  | none, Q, _, _ => exact ⟨Q, rfl⟩
  | some P, none, _, _ => exact ⟨some P, rfl⟩
  | some (x1, y1), some (x2, y2), hP, hQ =>
    by_cases c : x1 = x2 ∧ y1 + y2 = 0
    · exact ⟨none, Or.inl ⟨c.1, c.2, rfl⟩⟩
    · obtain ⟨s, hs⟩ := SL_ex nz inv hP hQ c
      exact ⟨_, Or.inr ⟨s, hs, rfl⟩⟩
abbrev isOp {F : Type} [Lean.Grind.CommRing F] {a b : F} (op : PT F a b → PT F a b → PT F a b) : Prop := ∀ P Q, AD a P.1 Q.1 (op P Q).1
theorem op_ex {F : Type} [Lean.Grind.CommRing F] (nz : NZ F) (inv : ∀ u : F, u ≠ 0 → ∃ v, u * v = 1) (a b : F) : ∃ op : PT F a b → PT F a b → PT F a b, isOp op := by
  have h : ∀ P : PT F a b, ∃ f : PT F a b → PT F a b, ∀ Q, AD a P.1 Q.1 (f Q).1 := by
    intro P
    have h1 : ∀ Q : PT F a b, ∃ R : PT F a b, AD a P.1 Q.1 R.1 := by
      intro Q
      obtain ⟨R, hR⟩ := AD_ex nz inv P.2 Q.2
      exact ⟨⟨R, AD_on nz P.2 Q.2 hR⟩, hR⟩
    obtain ⟨f, hf⟩ := Classical.axiomOfChoice h1
    exact ⟨f, hf⟩
  obtain ⟨op, ho⟩ := Classical.axiomOfChoice h
  exact ⟨op, ho⟩
theorem op_GP {F : Type} [Lean.Grind.CommRing F] (nz : NZ F) (two : ∀ u : F, u + u = 0 → u = 0) {a b : F} (disc : ¬ ((a * a * a + a * a * a + a * a * a + a * a * a) + (b * b) * 27 = 0)) {op : PT F a b → PT F a b → PT F a b} (ho : isOp op) : GP op ⟨none, True.intro⟩ (fun P => ⟨ng P.1, ng_on P.2⟩) := by
  refine ⟨fun A B C => ?_, fun A B => ?_, fun A => ?_, fun A => ?_⟩
  · exact Subtype.ext (AD_assoc nz two disc A.2 B.2 C.2 (ho A B) (ho _ C) (ho B C) (ho A _))
  · exact Subtype.ext (AD_un nz (ho A B) (AD_comm nz B.2 A.2 (ho B A)))
  · exact Subtype.ext (ho ⟨none, True.intro⟩ A)
  · refine Subtype.ext (AD_inv nz (P := A.1) (AD_comm nz (ng_on A.2) A.2 (ho ⟨ng A.1, ng_on A.2⟩ A)))
def mu {E : Type} (op : E → E → E) (o : E) : Nat → E → E
  | 0, _ => o
  | k + 1, a => op (mu op o k a) a
section GRP
variable {E : Type} {op : E → E → E} {o : E} {ne : E → E}
theorem GP.r0 (g : GP op o ne) (a : E) : op a o = a := by rw [g.2.1, g.2.2.1]
theorem GP.can (g : GP op o ne) {a b c : E} (h : op a b = op a c) : b = c := by
  have e := congrArg (op (ne a)) h
  rw [← g.1, ← g.1, g.2.2.2, g.2.2.1, g.2.2.1] at e
  exact e
theorem GP.swp (g : GP op o ne) (a b c d : E) : op (op a b) (op c d) = op (op a c) (op b d) := by
  rw [g.1, g.1, ← g.1 b c d, g.2.1 b c, g.1 c b d]
theorem mu_add (g : GP op o ne) (a : E) (j : Nat) : ∀ k, mu op o (j + k) a = op (mu op o j a) (mu op o k a)
  | 0 => by rw [Nat.add_zero, mu, g.r0]
  | k + 1 => by rw [← Nat.add_assoc, mu, mu, mu_add g a j k, g.1]
theorem mu_one (g : GP op o ne) (a : E) : mu op o 1 a = a := by rw [mu, mu, g.2.2.1]
theorem mu_o (g : GP op o ne) : ∀ k, mu op o k o = o
  | 0 => rfl
  | k + 1 => by rw [mu, mu_o g k, g.2.2.1]
theorem mu_op (g : GP op o ne) (a b : E) : ∀ k, mu op o k (op a b) = op (mu op o k a) (mu op o k b)
  | 0 => by rw [mu, mu, mu, g.2.2.1]
  | k + 1 => by rw [mu, mu, mu, mu_op g a b k, g.swp]
theorem mu_mul (g : GP op o ne) (a : E) (j : Nat) : ∀ k, mu op o (k * j) a = mu op o k (mu op o j a)
  | 0 => by rw [Nat.zero_mul, mu, mu]
  | k + 1 => by rw [Nat.add_mul, Nat.one_mul, mu_add g, mu_mul g a j k, mu]
theorem mu_gcd (g : GP op o ne) (a : E) {m n : Nat} : mu op o m a = o → mu op o n a = o → mu op o (Nat.gcd m n) a = o := by
  refine Nat.gcd.induction m n (fun n _ h => ?_) (fun m n hm ih h1 h2 => ?_)
  · rw [Nat.gcd_zero_left]; exact h
  · rw [Nat.gcd_rec]
    refine ih ?_ h1
    have e := mu_add g a (n / m * m) (n % m)
    rw [Nat.div_add_mod' n m, h2, mu_mul g, h1, mu_o g, g.2.2.1] at e
    exact e.symm
theorem mu_prime (g : GP op o ne) {n d : Nat} (pn : PR n) {B : E} (hB : mu op o n B = o) (hn : B ≠ o) (hd : mu op o d B = o) : n ∣ d := by
  by_cases c : n ∣ d
  · exact c
  · have e := mu_gcd g B hB hd
    rw [show Nat.gcd n d = 1 from pn.cop c, mu_one g] at e
    exact absurd e hn
theorem mu_inj (g : GP op o ne) {n j k : Nat} (pn : PR n) {B : E} (hB : mu op o n B = o) (hn : B ≠ o) (h : mu op o j B = mu op o k B) (hj : j < n) (hk : k < n) : j = k := by
  rcases Nat.lt_trichotomy j k with c | c | c
  · exfalso
    have e : mu op o (k - j) B = o := by
      have e := mu_add g B j (k - j)
      rw [show j + (k - j) = k by omega, ← h] at e
      refine (g.can (a := mu op o j B) ?_).symm
      rw [← e, g.r0]
    have := Nat.le_of_dvd (by omega) (mu_prime g pn hB hn e)
    omega
  · exact c
  · exfalso
    have e : mu op o (j - k) B = o := by
      have e := mu_add g B k (j - k)
      rw [show k + (j - k) = j by omega, h] at e
      refine (g.can (a := mu op o k B) ?_).symm
      rw [← e, g.r0]
    have := Nat.le_of_dvd (by omega) (mu_prime g pn hB hn e)
    omega
theorem php : ∀ (N M : Nat) (f : Nat → Nat), (∀ i, i < M → f i < N) → (∀ i j, i < M → j < M → f i = f j → i = j) → M ≤ N
  | 0, M, f, h1, _ => by
    cases M with
    | zero => exact Nat.le_refl _
    | succ m => exact absurd (h1 0 (by omega)) (by omega)
  | N + 1, 0, f, _, _ => by omega
  | N + 1, m + 1, f, h1, h2 => by
    have := php N m (fun i => if f i = N then f m else f i) (fun i hi => by
      show (if f i = N then f m else f i) < N
      have q1 := h1 i (by omega)
      have q2 := h1 m (by omega)
      split
      · rename_i c
        rcases Nat.lt_or_ge (f m) N with l | l
        · exact l
        · have := h2 i m (by omega) (by omega) (by omega)
          omega
      · omega) (fun i j hi hj h => by
      have h : (if f i = N then f m else f i) = (if f j = N then f m else f j) := h
      split at h
      · rename_i c1
        split at h
        · rename_i c2
          exact h2 i j (by omega) (by omega) (by omega)
        · have := h2 m j (by omega) (by omega) h
          omega
      · split at h
        · have := h2 i m (by omega) (by omega) h
          omega
        · exact h2 i j (by omega) (by omega) h)
    omega
/-- two points B and Q whose classes would not all fit: Q is a multiple of B -/
theorem mu_all (g : GP op o ne) {n N : Nat} (pn : PR n) (odd : n % 2 = 1) {B : E} (hB : mu op o n B = o) (hn : B ≠ o) (code : E → Nat) (cl : ∀ a, code a < N) (ci : ∀ a b, code a = code b → a = b) (hN : N < 3 * n) (t2 : ∀ T, op T T = o → T = o) (Q : E) : ∃ j, Q = mu op o j B := by
  by_cases c : ∃ j, Q = mu op o j B
  · exact c
  exfalso
  have n0 : 0 < n := by have := pn.1; omega
  have c1 : ∀ j, Q ≠ mu op o j B := fun j h => c ⟨j, h⟩
  have c2e : ∀ h, op Q Q ≠ mu op o (2 * h) B := by
    intro h e
    have e2 : mu op o (2 * h) B = op (mu op o h B) (mu op o h B) := by rw [Nat.two_mul, mu_add g]
    have e3 : op (op Q (ne (mu op o h B))) (op Q (ne (mu op o h B))) = o := by
      rw [g.swp, e, e2, g.swp, g.2.1 _ (ne _), g.2.2.2, g.2.2.1]
    have e4 := t2 _ e3
    have e5 : op (op Q (ne (mu op o h B))) (mu op o h B) = Q := by rw [g.1, g.2.2.2, g.r0]
    rw [e4, g.2.2.1] at e5
    exact c1 h e5.symm
  have c2 : ∀ j, op Q Q ≠ mu op o j B := by
    intro j e
    rcases Nat.mod_two_eq_zero_or_one j with q | q
    · exact c2e (j / 2) (by rw [show 2 * (j / 2) = j by omega]; exact e)
    · refine c2e ((j + n) / 2) ?_
      rw [show 2 * ((j + n) / 2) = j + n by omega, mu_add g, hB, g.r0]
      exact e
  have m0 : mu op o 0 Q = o := rfl
  have m1 : mu op o 1 Q = Q := mu_one g Q
  have m2 : mu op o 2 Q = op Q Q := by rw [mu, m1]
  -- a difference of multiples of Q that is a multiple of B
  have df : ∀ i j u v, u ≤ n → op (mu op o i Q) (mu op o u B) = op (mu op o (i + j) Q) (mu op o v B) → mu op o j Q = mu op o (u + (n * v - v)) B := by
    intro i j u v hu h
    rw [mu_add g, g.1] at h
    have h := g.can h
    have e1 : op (mu op o v B) (mu op o (n * v - v) B) = o := by
      rw [← mu_add g, Nat.add_sub_of_le (Nat.le_mul_of_pos_left v n0), Nat.mul_comm, mu_mul g, hB, mu_o g]
    rw [mu_add g, h, g.1, e1, g.r0]
  have inj : ∀ s t, s < 3 * n → t < 3 * n → s ≤ t → op (mu op o (s / n) Q) (mu op o (s % n) B) = op (mu op o (t / n) Q) (mu op o (t % n) B) → s = t := by
    intro s t hs ht hst h
    have l1 := Nat.mod_lt s n0
    have l2 := Nat.mod_lt t n0
    have d1 := Nat.div_le_div_right (c := n) hst
    have d2 : t / n < 3 := Nat.div_lt_of_lt_mul (by rw [Nat.mul_comm]; exact ht)
    have d3 : t / n = s / n ∨ t / n = s / n + 1 ∨ t / n = s / n + 2 := by
      have d4 : 0 ≤ s / n := Nat.zero_le _
      generalize s / n = u at *
      generalize t / n = w at *
      omega
    rcases d3 with d | d | d
    · rw [d] at h
      have e := mu_inj g pn hB hn (g.can h) l1 l2
      have e1 := Nat.div_add_mod s n
      have e2 := Nat.div_add_mod t n
      rw [d, ← e] at e2
      omega
    · rw [d] at h
      have e := df _ 1 _ _ (Nat.le_of_lt l1) h
      rw [m1] at e
      exact absurd e (c1 _)
    · rw [d] at h
      have e := df _ 2 _ _ (Nat.le_of_lt l1) h
      rw [m2] at e
      exact absurd e (c2 _)
  have := php N (3 * n) (fun t => code (op (mu op o (t / n) Q) (mu op o (t % n) B))) (fun i _ => cl _) (fun s t hs ht h => by
    have h := ci _ _ h
    rcases Nat.le_total s t with q | q
    · exact inj s t hs ht q h
    · exact (inj t s ht hs q h.symm).symm)
  omega
/-- no multiple of a point but by the group's number is none -/
theorem mu_ne (g : GP op o ne) {n N : Nat} (pn : PR n) (odd : n % 2 = 1) {B : E} (hB : mu op o n B = o) (hn : B ≠ o) (code : E → Nat) (cl : ∀ a, code a < N) (ci : ∀ a b, code a = code b → a = b) (hN : N < 3 * n) (t2 : ∀ T, op T T = o → T = o) (Q : E) (hQ : Q ≠ o) {d : Nat} (h0 : 0 < d) (hd : d < n) : mu op o d Q ≠ o := by
  intro e
  obtain ⟨j, rfl⟩ := mu_all g pn odd hB hn code cl ci hN t2 Q
  rw [← mu_mul g] at e
  rcases pn.mul (mu_prime g pn hB hn e) with c | c
  · have := Nat.le_of_dvd h0 c
    omega
  · obtain ⟨i, rfl⟩ := c
    refine hQ ?_
    rw [Nat.mul_comm, mu_mul g, hB, mu_o g]
end GRP
