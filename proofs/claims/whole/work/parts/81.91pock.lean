/-! THE NUMBER p IS PRIME: Pocklington's proof -/
theorem pow_gcd {a d m n : Nat} (hd : 1 < d) : a ^ m % d = 1 → a ^ n % d = 1 → a ^ (Nat.gcd m n) % d = 1 := by
  induction m, n using Nat.gcd.induction with
  | H0 n =>
    intro _ h
    rw [Nat.gcd_zero_left]
    exact h
  | H1 m n hm ih =>
    intro h1 h2
    rw [Nat.gcd_rec]
    refine ih ?_ h1
    have e : a ^ n = (a ^ m) ^ (n / m) * a ^ (n % m) := by rw [← Nat.pow_mul, ← Nat.pow_add, Nat.div_add_mod]
    have e2 : (a ^ m) ^ (n / m) % d = 1 := by rw [Nat.pow_mod, h1, Nat.one_pow, Nat.mod_eq_of_lt hd]
    rw [e, Nat.mul_mod, e2, Nat.one_mul, Nat.mod_mod] at h2
    exact h2
theorem pock {N a q s d : Nat} (hd : PR d) (hdN : d ∣ N) (h1 : a ^ (N - 1) % N = 1) (hs : N - 1 = q * s) (hN : 1 < N) (hq : PR q) (hg : Nat.gcd (a ^ s % N + N - 1) N = 1) : q ∣ d - 1 := by
  have hd1 := hd.1
  have ed : ∀ x, x % N % d = x % d := fun x => Nat.mod_mod_of_dvd x hdN
  have e1 : a ^ (N - 1) % d = 1 := by rw [← ed, h1, Nat.mod_eq_of_lt hd1]
  have na : ¬ d ∣ a := by
    intro c
    have : d ∣ a ^ (N - 1) := by
      obtain ⟨k, hk⟩ : ∃ k, N - 1 = k + 1 := ⟨N - 2, by omega⟩
      rw [hk, Nat.pow_succ]
      exact Nat.dvd_mul_left_of_dvd c _
    have := Nat.mod_eq_zero_of_dvd this
    omega
  have e2 := flt1 hd na
  by_cases c : q ∣ d - 1
  · exact c
  · exfalso
    have e3 := pow_gcd hd1 e1 e2
    have g1 : Nat.gcd (N - 1) (d - 1) ∣ d - 1 := Nat.gcd_dvd_right _ _
    have g2 : Nat.gcd (N - 1) (d - 1) ∣ q * s := by rw [← hs]; exact Nat.gcd_dvd_left _ _
    have nq : ¬ q ∣ Nat.gcd (N - 1) (d - 1) := fun k => c (Nat.dvd_trans k g1)
    have g3 : Nat.gcd (N - 1) (d - 1) ∣ s := (hq.cop nq).symm.dvd_of_dvd_mul_left g2
    obtain ⟨k, hk⟩ := g3
    have e4 : a ^ s % d = 1 := by rw [hk, Nat.pow_mul, Nat.pow_mod, e3, Nat.one_pow, Nat.mod_eq_of_lt hd1]
    have e5 : a ^ s % N % d = 1 := by rw [ed]; exact e4
    obtain ⟨n, hn⟩ := hdN
    have hdd : d ∣ a ^ s % N + N - 1 := by
      refine ⟨a ^ s % N / d + n, ?_⟩
      have := Nat.div_add_mod (a ^ s % N) d
      rw [e5] at this
      rw [Nat.mul_add, ← hn]
      omega
    have := Nat.dvd_gcd hdd ⟨n, hn⟩
    rw [hg] at this
    have := Nat.le_of_dvd (by omega) this
    omega
theorem PR_of {N Fq : Nat} (hN : 1 < N) (hF : N < Fq * Fq) (h : ∀ d, PR d → d ∣ N → Fq ∣ d - 1) : PR N := by
  refine ⟨hN, fun c hc => ?_⟩
  by_cases c1 : c = 1
  · exact Or.inl c1
  by_cases c2 : c = N
  · exact Or.inr c2
  exfalso
  obtain ⟨e, he⟩ := hc
  have hc0 : 0 < c := Nat.pos_iff_ne_zero.mpr (fun q => by rw [q, Nat.zero_mul] at he; omega)
  have he0 : 0 < e := Nat.pos_iff_ne_zero.mpr (fun q => by rw [q, Nat.mul_zero] at he; omega)
  have he1 : e ≠ 1 := fun q => c2 (by rw [he, q, Nat.mul_one])
  have key : ∀ m k : Nat, 1 < m → N = m * k → m ≤ k → False := by
    intro m k hm hmk hle
    obtain ⟨d, hd, hdm⟩ := PR_ex m hm
    have h1 := h d hd (Nat.dvd_trans hdm ⟨k, hmk⟩)
    have h2 := hd.1
    have h3 := Nat.le_of_dvd (by omega) h1
    have h4 := Nat.le_of_dvd (by omega) hdm
    have h5 : Fq * Fq ≤ m * k := Nat.mul_le_mul (by omega) (by omega)
    omega
  by_cases c3 : c ≤ e
  · exact key c e (by omega) he c3
  · exact key e c (by omega) (by rw [Nat.mul_comm]; exact he) (by omega)
/-- powers modulo N that the kernel counts -/
def pmd (a N : Nat) : Nat → Nat → Nat
  | 0, _ => 1 % N
  | f + 1, e => if e % 2 = 1 then (pmd a N f (e / 2)) ^ 2 * a % N else (pmd a N f (e / 2)) ^ 2 % N
theorem pmd_spec (a N : Nat) : ∀ f e, e < 2 ^ f → pmd a N f e = a ^ e % N
  | 0, e, h => by
    have : e = 0 := by omega
    rw [this]
    rfl
  | f + 1, e, h => by
    have ih := pmd_spec a N f (e / 2) (by rw [Nat.pow_succ] at h; omega)
    rw [pmd, ih]
    have e2 : (a ^ (e / 2) % N) ^ 2 % N = a ^ (e / 2 * 2) % N := by rw [← Nat.pow_mod, ← Nat.pow_mul]
    by_cases c : e % 2 = 1
    · rw [if_pos c, Nat.mul_mod, e2, ← Nat.mul_mod, ← Nat.pow_succ]
      congr 2
      omega
    · rw [if_neg c, e2]
      congr 2
      omega
/-- small ones by trial -/
theorem PR_small {n : Nat} (h1 : 1 < n) (h2 : n < 1000000) (h : (List.range 1000).all (fun d => decide (d < 2) || (decide (n ≤ d) || decide (n % d ≠ 0))) = true) : PR n := by
  refine ⟨h1, fun c hc => ?_⟩
  by_cases c1 : c = 1
  · exact Or.inl c1
  by_cases c2 : c = n
  · exact Or.inr c2
  exfalso
  obtain ⟨e, he⟩ := hc
  have hc0 : 0 < c := Nat.pos_iff_ne_zero.mpr (fun q => by rw [q, Nat.zero_mul] at he; omega)
  have he0 : 0 < e := Nat.pos_iff_ne_zero.mpr (fun q => by rw [q, Nat.mul_zero] at he; omega)
  have he1 : e ≠ 1 := fun q => c2 (by rw [he, q, Nat.mul_one])
  have key : ∀ m k : Nat, 1 < m → n = m * k → m ≤ k → 1 < k → False := by
    intro m k hm hmk hle hk
    have hlt : m < 1000 := by
      apply Nat.lt_of_not_le
      intro q
      have := Nat.mul_le_mul q (Nat.le_trans q hle)
      omega
    have := List.all_eq_true.mp h m (List.mem_range.mpr hlt)
    have hmn : m < n := by
      have : m * 2 ≤ m * k := Nat.mul_le_mul_left m hk
      omega
    have hz : n % m = 0 := by rw [hmk]; exact Nat.mul_mod_right m k
    simp [hz] at this
    omega
  by_cases c3 : c ≤ e
  · exact key c e (by omega) he c3 (by omega)
  · exact key e c (by omega) (by rw [Nat.mul_comm]; exact he) (by omega) (by omega)
theorem pock' {N a q s d f : Nat} (hd : PR d) (hdN : d ∣ N) (hN : 1 < N) (hf : N < 2 ^ f) (h1 : pmd a N f (N - 1) = 1) (hs : N - 1 = q * s) (hq : PR q) (hsf : s < 2 ^ f) (hg : Nat.gcd (pmd a N f s + N - 1) N = 1) : q ∣ d - 1 := by
  rw [pmd_spec a N f _ (by omega)] at h1
  rw [pmd_spec a N f _ hsf] at hg
  exact pock hd hdN h1 hs hN hq hg
theorem two_dvd {a b n : Nat} (ha : PR a) (hb : PR b) (hab : a ≠ b) (h1 : a ∣ n) (h2 : b ∣ n) : a * b ∣ n := by
  have c : Nat.Coprime a b := ha.cop (fun q => by
    rcases hb.2 a q with e | e
    · have := ha.1; omega
    · exact hab e)
  exact c.mul_dvd_of_dvd_of_dvd h1 h2
theorem PR_a : PR 78283 := PR_small (by decide) (by decide) (by decide +kernel)
theorem PR_b : PR 704251 := PR_small (by decide) (by decide) (by decide +kernel)
theorem PR_c : PR 3769 := PR_small (by decide) (by decide) (by decide +kernel)
theorem PR_d : PR 107 := PR_small (by decide) (by decide) (by decide +kernel)
theorem PR_e : PR 204061199 := PR_of (Fq := 3769 * 107) (by decide) (by decide) (fun d hd hn => two_dvd PR_c PR_d (by decide) (pock' (a := 2) (s := 54142) (f := 40) hd hn (by decide) (by decide) (by decide +kernel) (by decide) PR_c (by decide) (by decide +kernel)) (pock' (a := 2) (s := 1907114) (f := 40) hd hn (by decide) (by decide) (by decide +kernel) (by decide) PR_d (by decide) (by decide +kernel)))
theorem PR_f : PR 34282281433 := PR_of (Fq := 204061199) (by decide) (by decide) (fun d hd hn => pock' (a := 2) (s := 168) (f := 40) hd hn (by decide) (by decide) (by decide +kernel) (by decide) PR_e (by decide) (by decide +kernel))
theorem PR_g : PR 46076956964474543 := PR_of (Fq := 78283 * 704251) (by decide) (by decide) (fun d hd hn => two_dvd PR_a PR_b (by decide) (pock' (a := 2) (s := 588594675274) (f := 60) hd hn (by decide) (by decide) (by decide +kernel) (by decide) PR_a (by decide) (by decide +kernel)) (pock' (a := 2) (s := 65426896042) (f := 60) hd hn (by decide) (by decide) (by decide +kernel) (by decide) PR_b (by decide) (by decide +kernel)))
theorem PR_h : PR 774023187263532362759620327192479577272145303 := PR_of (Fq := 46076956964474543 * 34282281433) (by decide) (by decide) (fun d hd hn => two_dvd PR_g PR_f (by decide) (pock' (a := 2) (s := 16798487535978261528513091914) (f := 160) hd hn (by decide) (by decide) (by decide +kernel) (by decide) PR_g (by decide) (by decide +kernel)) (pock' (a := 2) (s := 22577936908202977552973533084188294) (f := 160) hd hn (by decide) (by decide) (by decide +kernel) (by decide) PR_f (by decide) (by decide +kernel)))
theorem PR_i : PR 835945042244614951780389953367877943453916927241 := PR_of (Fq := 774023187263532362759620327192479577272145303) (by decide) (by decide) (fun d hd hn => pock' (a := 2) (s := 1080) (f := 170) hd hn (by decide) (by decide) (by decide +kernel) (by decide) PR_h (by decide) (by decide +kernel))
theorem PR_p : PR pP := PR_of (Fq := 835945042244614951780389953367877943453916927241) (by decide +kernel) (by decide +kernel) (fun d hd hn => pock' (a := 2) (s := 138516389665330497628477975950) (f := 256) hd hn (by decide +kernel) (by decide +kernel) (by decide +kernel) (by decide +kernel) PR_i (by decide +kernel) (by decide +kernel))
theorem pr_p : PrP := by
  intro a b h
  have h1 := Int.dvd_of_emod_eq_zero h
  have h2 := Int.natAbs_dvd_natAbs.mpr h1
  rw [Int.natAbs_mul, Int.natAbs_natCast] at h2
  rcases PR_p.mul h2 with c | c
  · left
    exact Int.emod_eq_zero_of_dvd (Int.natAbs_dvd_natAbs.mp (by rw [Int.natAbs_natCast]; exact c))
  · right
    exact Int.emod_eq_zero_of_dvd (Int.natAbs_dvd_natAbs.mp (by rw [Int.natAbs_natCast]; exact c))
