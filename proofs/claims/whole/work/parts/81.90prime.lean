/-! THE NUMBER p IS PRIME -/
def PR (n : Nat) : Prop := 1 < n ∧ ∀ d, d ∣ n → d = 1 ∨ d = n
theorem PR.cop {p a : Nat} (h : PR p) (hn : ¬ p ∣ a) : Nat.Coprime p a := by
  rcases h.2 _ (Nat.gcd_dvd_left p a) with q | q
  · exact q
  · exact absurd (by rw [← q]; exact Nat.gcd_dvd_right p a) hn
theorem PR.mul {p a b : Nat} (h : PR p) (hd : p ∣ a * b) : p ∣ a ∨ p ∣ b := by
  by_cases c : p ∣ a
  · exact Or.inl c
  · exact Or.inr ((h.cop c).dvd_of_dvd_mul_left hd)
theorem PR_ex : ∀ n, 1 < n → ∃ p, PR p ∧ p ∣ n := by
  intro n
  induction n using Nat.strongRecOn with
  | ind n ih =>
    intro hn
    by_cases c : ∀ d, d ∣ n → d = 1 ∨ d = n
    · exact ⟨n, ⟨hn, c⟩, Nat.dvd_refl n⟩
    · obtain ⟨d, hd⟩ := Classical.not_forall.mp c
      obtain ⟨h1, h2⟩ := Classical.not_imp.mp hd
      have hle := Nat.le_of_dvd (by omega) h1
      have h0 : d ≠ 0 := fun e => by
        rw [e] at h1
        have := Nat.eq_zero_of_zero_dvd h1
        omega
      obtain ⟨p, q1, q2⟩ := ih d (by omega) (by omega)
      exact ⟨p, q1, Nat.dvd_trans q2 h1⟩
/-- binomials -/
def chs : Nat → Nat → Nat
  | _, 0 => 1
  | 0, _ + 1 => 0
  | n + 1, k + 1 => chs n k + chs n (k + 1)
theorem chs_0 (n : Nat) : chs n 0 = 1 := by cases n <;> rfl
theorem chs_gt : ∀ n k, n < k → chs n k = 0
  | 0, k + 1, _ => rfl
  | n + 1, k + 1, h => by rw [chs, chs_gt n k (by omega), chs_gt n (k + 1) (by omega)]
theorem chs_mul : ∀ n k, (k + 1) * chs (n + 1) (k + 1) = (n + 1) * chs n k
  | 0, 0 => rfl
  | 0, k + 1 => by
    have : chs 1 (k + 2) = 0 := chs_gt _ _ (by omega)
    rw [this]
    rfl
  | n + 1, 0 => by
    have h := chs_mul n 0
    have e : chs (n + 1 + 1) (0 + 1) = chs (n + 1) 0 + chs (n + 1) (0 + 1) := rfl
    rw [e, Nat.mul_add, h, chs_0, chs_0]
    omega
  | n + 1, j + 1 => by
    have h1 := chs_mul n j
    have h2 := chs_mul n (j + 1)
    have e1 : chs (n + 1 + 1) (j + 1 + 1) = chs (n + 1) (j + 1) + chs (n + 1) (j + 1 + 1) := rfl
    have e2 : chs (n + 1) (j + 1) = chs n j + chs n (j + 1) := rfl
    rw [e1, Nat.mul_add, h2]
    have e3 : (j + 1 + 1) * chs (n + 1) (j + 1) = (j + 1) * chs (n + 1) (j + 1) + chs (n + 1) (j + 1) := by rw [Nat.add_mul (j + 1) 1, Nat.one_mul]
    have e4 : (n + 1 + 1) * chs (n + 1) (j + 1) = (n + 1) * chs (n + 1) (j + 1) + chs (n + 1) (j + 1) := by rw [Nat.add_mul (n + 1) 1, Nat.one_mul]
    have e5 : (n + 1) * chs (n + 1) (j + 1) = (n + 1) * chs n j + (n + 1) * chs n (j + 1) := by rw [e2, Nat.mul_add]
    rw [e3, h1, e4, e5]
    omega
def sms (f : Nat → Nat) : Nat → Nat
  | 0 => 0
  | n + 1 => sms f n + f n
theorem sms_shift (f : Nat → Nat) : ∀ n, sms f (n + 1) = f 0 + sms (fun k => f (k + 1)) n
  | 0 => by show 0 + f 0 = f 0 + 0; omega
  | n + 1 => by
    have := sms_shift f n
    rw [sms, this]
    show _ = f 0 + (sms (fun k => f (k + 1)) n + f (n + 1))
    omega
theorem sms_add (f g : Nat → Nat) : ∀ n, sms (fun k => f k + g k) n = sms f n + sms g n
  | 0 => rfl
  | n + 1 => by rw [sms, sms, sms, sms_add f g n]; omega
theorem sms_mul (c : Nat) (f : Nat → Nat) : ∀ n, sms (fun k => c * f k) n = c * sms f n
  | 0 => rfl
  | n + 1 => by rw [sms, sms, sms_mul c f n, Nat.mul_add]
theorem sms_congr {f g : Nat → Nat} : ∀ n, (∀ k, k < n → f k = g k) → sms f n = sms g n
  | 0, _ => rfl
  | n + 1, h => by rw [sms, sms, sms_congr n (fun k hk => h k (by omega)), h n (by omega)]
theorem sms_dvd {p : Nat} {f : Nat → Nat} : ∀ n, (∀ k, k < n → p ∣ f k) → p ∣ sms f n
  | 0, _ => Nat.dvd_zero p
  | n + 1, h => Nat.dvd_add (sms_dvd n (fun k hk => h k (by omega))) (h n (by omega))
theorem binom (x : Nat) : ∀ n, (x + 1) ^ n = sms (fun k => chs n k * x ^ k) (n + 1)
  | 0 => by show 1 = 0 + 1 * 1; rfl
  | n + 1 => by
    have ih := binom x n
    have e1 : sms (fun k => chs n k * x ^ k) (n + 1 + 1) = (x + 1) ^ n := by
      rw [sms, ← ih, chs_gt n (n + 1) (by omega), Nat.zero_mul, Nat.add_zero]
    have e2 := sms_shift (fun k => chs n k * x ^ k) (n + 1)
    rw [e1] at e2
    have e3 := sms_shift (fun k => chs (n + 1) k * x ^ k) (n + 1)
    rw [e3]
    have e4 : sms (fun k => chs (n + 1) (k + 1) * x ^ (k + 1)) (n + 1) = sms (fun k => x * (chs n k * x ^ k)) (n + 1) + sms (fun k => chs n (k + 1) * x ^ (k + 1)) (n + 1) := by
      rw [← sms_add]
      refine sms_congr _ (fun k _ => ?_)
      show (chs n k + chs n (k + 1)) * x ^ (k + 1) = _
      rw [Nat.add_mul, Nat.pow_succ, Nat.mul_comm (x ^ k) x, Nat.mul_left_comm]
    rw [e4, sms_mul, ← ih, Nat.pow_succ, Nat.mul_add, Nat.mul_one, Nat.mul_comm x]
    have e5 : chs (n + 1) 0 * x ^ 0 = chs n 0 * x ^ 0 := by rw [chs_0, chs_0]
    rw [e5]
    omega
theorem flt {p : Nat} (h : PR p) : ∀ x, x ^ p % p = x % p
  | 0 => by
    obtain ⟨q, rfl⟩ : ∃ q, p = q + 1 := ⟨p - 1, by have := h.1; omega⟩
    rw [Nat.pow_succ, Nat.mul_zero]
  | x + 1 => by
    have ih := flt h x
    obtain ⟨q, rfl⟩ : ∃ q, p = q + 1 := ⟨p - 1, by have := h.1; omega⟩
    have e := binom x (q + 1)
    rw [sms, sms_shift, chs_0, Nat.pow_zero, Nat.mul_one] at e
    have ec : chs (q + 1) (q + 1) = 1 := by
      have := chs_mul q q
      have d : ∀ n, chs n n = 1 := by
        intro n
        induction n with
        | zero => rfl
        | succ n ihn => rw [chs, ihn, chs_gt n (n + 1) (by omega)]
      exact d _
    have hd : (q + 1) ∣ sms (fun k => chs (q + 1) (k + 1) * x ^ (k + 1)) q := by
      refine sms_dvd q (fun k hk => ?_)
      apply Nat.dvd_mul_right_of_dvd
      have h1 : (q + 1) ∣ (k + 1) * chs (q + 1) (k + 1) := by
        rw [chs_mul]
        exact Nat.dvd_mul_right _ _
      rcases h.mul h1 with c | c
      · have := Nat.le_of_dvd (by omega) c
        omega
      · exact c
    obtain ⟨c, hc⟩ := hd
    rw [e, hc, ec, Nat.one_mul, Nat.add_assoc, Nat.add_comm ((q + 1) * c), ← Nat.add_assoc, Nat.add_mul_mod_self_left, Nat.add_comm 1, Nat.add_mod, ih, ← Nat.add_mod]
theorem flt1 {p a : Nat} (h : PR p) (ha : ¬ p ∣ a) : a ^ (p - 1) % p = 1 := by
  obtain ⟨q, rfl⟩ : ∃ q, p = q + 1 := ⟨p - 1, by have := h.1; omega⟩
  have e := flt h a
  rw [Nat.pow_succ, Nat.add_sub_cancel] at *
  have ha1 : 1 ≤ a := Nat.pos_iff_ne_zero.mpr (fun q => ha (by rw [q]; exact Nat.dvd_zero _))
  have hp1 : 1 ≤ a ^ q := Nat.pow_pos ha1
  have hd : (q + 1) ∣ (a ^ q - 1) * a := by
    rw [Nat.sub_mul, Nat.one_mul]
    exact Nat.dvd_of_mod_eq_zero (Nat.sub_mod_eq_zero_of_mod_eq e)
  rcases h.mul hd with c | c
  · obtain ⟨k, hk⟩ := c
    rw [show a ^ q = 1 + (q + 1) * k by omega, Nat.add_mul_mod_self_left, Nat.mod_eq_of_lt h.1]
  · exact absurd c ha
