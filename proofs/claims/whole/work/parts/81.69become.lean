/-! THE CLASS'S MODULUS: become, take, raise -/
theorem mc {a a' b b' m : Nat} (h1 : a % m = a' % m) (h2 : b % m = b' % m) : a * b % m = a' * b' % m := by rw [Nat.mul_mod, h1, h2, ← Nat.mul_mod]
theorem ac {a a' b b' m : Nat} (h1 : a % m = a' % m) (h2 : b % m = b' % m) : (a + b) % m = (a' + b') % m := by rw [Nat.add_mod, h1, h2, ← Nat.add_mod]
theorem RI_one {n m : Nat} (h1 : 1 < m) (h2 : m % 2 = 1) (v : Nat) : v * (4294967296 ^ n * RI n m) % m = v % m := by
  rw [Nat.mul_mod, RI_spec h1 h2, Nat.mul_one, Nat.mod_mod]
/-- into Montgomery's form -/
theorem M_lead {n m : Nat} (h1 : 1 < m) (h2 : m % 2 = 1) (v : Nat) : v * (4294967296 ^ n * 4294967296 ^ n % m) * RI n m % m = v * 4294967296 ^ n % m := by
  rw [mc (mc (a := v) rfl (Nat.mod_mod (4294967296 ^ n * 4294967296 ^ n) m)) rfl, show v * (4294967296 ^ n * 4294967296 ^ n) * RI n m = v * 4294967296 ^ n * (4294967296 ^ n * RI n m) by rw [← Nat.mul_assoc, Nat.mul_assoc]]
  exact RI_one h1 h2 _
theorem M_back {n m : Nat} (h1 : 1 < m) (h2 : m % 2 = 1) (v : Nat) : (v * 4294967296 ^ n % m) * 1 * RI n m % m = v % m := by
  rw [Nat.mul_one, mc (Nat.mod_mod (v * 4294967296 ^ n) m) rfl, Nat.mul_assoc]
  exact RI_one h1 h2 _
theorem M_mul {n m : Nat} (h1 : 1 < m) (h2 : m % 2 = 1) (a b : Nat) : (a * 4294967296 ^ n % m) * (b * 4294967296 ^ n % m) * RI n m % m = a * b * 4294967296 ^ n % m := by
  rw [mc (mc (Nat.mod_mod (a * 4294967296 ^ n) m) (Nat.mod_mod (b * 4294967296 ^ n) m)) rfl, show a * 4294967296 ^ n * (b * 4294967296 ^ n) * RI n m = a * b * 4294967296 ^ n * (4294967296 ^ n * RI n m) by ac_rfl]
  exact RI_one h1 h2 _
def gN (xs : List UInt8) (j : Nat) : Nat := (xs.getD j 0).toNat
def suitsF (xs : List UInt8) : Bool := decide (1 ≤ xs.length ∧ xs.length ≤ 128 ∧ gN xs 0 ≠ 0 ∧ gN xs (xs.length - 1) % 2 = 1 ∧ (1 < xs.length ∨ 1 < gN xs 0))
theorem gB_gN (xs : List UInt8) (j : Nat) : gB xs j = (Int32.ofNat (gN xs j)) := by
  unfold gB gN
  rw [List.getD_eq_getElem?_getD]
  cases xs[j]? <;> rfl
theorem gN_lt (xs : List UInt8) (j : Nat) : gN xs j < 256 := UInt8.toNat_lt _
theorem suits_m {xs : List UInt8} (h : suitsF xs = true) : 1 < beN xs ∧ beN xs % 2 = 1 := by
  obtain ⟨h1, h2, h3, h4, h5⟩ := of_decide_eq_true h
  cases xs with
  | nil => exact absurd h1 (by simp)
  | cons x ys =>
    constructor
    · have hx : gN (x :: ys) 0 = x.toNat := rfl
      rw [hx] at h3 h5
      rw [beN_cons]
      by_cases c : ys.length = 0
      · rw [c, Nat.pow_zero, Nat.mul_one]
        rw [List.length_cons, c] at h5
        omega
      · have a1 : 256 ^ 1 ≤ 256 ^ ys.length := Nat.pow_le_pow_right (by decide) (by omega)
        have a2 : 1 * 256 ^ ys.length ≤ x.toNat * 256 ^ ys.length := Nat.mul_le_mul_right _ (by omega)
        omega
    · have hne : (x :: ys) ≠ [] := by simp
      have e := List.dropLast_concat_getLast hne
      have hl : gN (x :: ys) ((x :: ys).length - 1) = ((x :: ys).getLast hne).toNat := by
        unfold gN
        rw [List.getLast_eq_getElem, List.getD_eq_getElem?_getD, List.getElem?_eq_getElem (by simp)]
        rfl
      rw [← e, beN_app, beN_cons]
      rw [hl] at h4
      show (_ * 256 ^ 1 + (_ * 256 ^ 0 + 0)) % 2 = 1
      omega
/-- Newton's steps to an inverse -/
def nwt (m0 : Int) : Nat → Int
  | 0 => 1
  | k + 1 => nwt m0 k * (2 - m0 * nwt m0 k)
theorem nwt_sq (m0 x : Int) : 1 - m0 * (x * (2 - m0 * x)) = (1 - m0 * x) * (1 - m0 * x) := by
  rw [Int.mul_sub, Int.mul_sub, Int.mul_sub, Int.sub_mul, Int.sub_mul, Int.mul_one, Int.one_mul, Int.mul_one, ← Int.mul_assoc, ← Int.mul_assoc, Int.mul_comm (m0 * x) 2]
  omega
theorem nwt_5 (m0 : Int) (h : m0 % 2 = 1) : (1 - m0 * nwt m0 5) % 4294967296 = 0 := by
  have s0 : ∃ t, 1 - m0 * nwt m0 0 = 2 * t := ⟨(1 - m0) / 2, by show 1 - m0 * 1 = _; omega⟩
  have st : ∀ (k : Nat) (a : Int), (∃ t, 1 - m0 * nwt m0 k = a * t) → ∃ t, 1 - m0 * nwt m0 (k + 1) = a * a * t := by
    rintro k a ⟨t, ht⟩
    refine ⟨t * t, ?_⟩
    show 1 - m0 * (nwt m0 k * (2 - m0 * nwt m0 k)) = _
    rw [nwt_sq, ht, Int.mul_assoc, Int.mul_left_comm t a t, ← Int.mul_assoc]
  obtain ⟨t, ht⟩ := st 4 _ (st 3 _ (st 2 _ (st 1 _ (st 0 _ s0))))
  rw [ht]
  show 4294967296 * t % 4294967296 = 0
  omega
theorem nwt_6 (m0 : Int) (h : m0 % 2 = 1) : (1 - m0 * nwt m0 6) % 4294967296 = 0 := by
  have h5 := nwt_5 m0 h
  show (1 - m0 * (nwt m0 5 * (2 - m0 * nwt m0 5))) % 4294967296 = 0
  rw [nwt_sq, Int.mul_emod, h5]
  rfl
theorem tw_ok {m : Nat} {m0 : Nat} (hm : m % 4294967296 = m0) (hodd : m % 2 = 1) : ((-(nwt m0 6)) % 4294967296).toNat < 4294967296 ∧ (((-(nwt m0 6)) % 4294967296).toNat * m + 1) % 4294967296 = 0 := by
  have h6 := nwt_6 (m0 : Int) (by omega)
  generalize nwt (m0 : Int) 6 = x at *
  refine ⟨by omega, ?_⟩
  have e : ((((-x) % 4294967296).toNat * m + 1 : Nat) : Int) % 4294967296 = 0 := by
    rw [Int.natCast_add, Int.natCast_mul, Int.toNat_of_nonneg (by omega), Int.add_emod, Int.mul_emod, Int.emod_emod_of_dvd _ (Int.dvd_refl _), show (m : Int) % 4294967296 = (m0 : Int) by omega, show (m0 : Int) = (m0 : Int) % 4294967296 by omega, ← Int.mul_emod, ← Int.add_emod, Int.neg_mul, Int.mul_comm x]
    show (-(m0 * x) + 1) % 4294967296 = 0
    omega
  omega
theorem dg_1 (k : Nat) : dg 1 k = if k = 0 then 1 else 0 := by
  unfold dg
  by_cases c : k = 0
  · rw [if_pos c, c]
  · rw [if_neg c, Nat.div_eq_of_lt]
    have : 4294967296 ^ 1 ≤ 4294967296 ^ k := Nat.pow_le_pow_right (by decide) (by omega)
    omega
theorem lgt_sf {S : ST} {c i k : Nat} {v : Int32} (x : Cl) : lgt (S.so c i ((S c i).sf k v)) x = lgt S x := by
  rcases x with ⟨c', i'⟩ | ⟨c', i', k'⟩ | ⟨c', i', k', j'⟩
  · rfl
  · show ((S.so c i _) c' i').l k' = (S c' i').l k'
    rw [so_at]
    split
    · rename_i q; rw [q.1, q.2]; rfl
    · rfl
  · show ((S.so c i _) c' i').m k' j' = (S c' i').m k' j'
    rw [so_at]
    split
    · rename_i q; rw [q.1, q.2]; rfl
    · rfl
theorem lgt_sg {S : ST} {c i k : Nat} {v : Int64} (x : Cl) : lgt (S.so c i ((S c i).sg k v)) x = lgt S x := by
  rcases x with ⟨c', i'⟩ | ⟨c', i', k'⟩ | ⟨c', i', k', j'⟩
  · rfl
  · show ((S.so c i _) c' i').l k' = (S c' i').l k'
    rw [so_at]
    split
    · rename_i q; rw [q.1, q.2]; rfl
    · rfl
  · show ((S.so c i _) c' i').m k' j' = (S c' i').m k' j'
    rw [so_at]
    split
    · rename_i q; rw [q.1, q.2]; rfl
    · rfl
section BECOME
variable {W : WR} {G : mG} {F : Nat}
theorem Q6_suits {ib room : Nat} {S : ST} {xs : List UInt8} {l : Bool} (hB : isB W ib room) (hb : Byt room (S 0 ib) xs l) : P_X6_suits G F (W.ad (.o 0 ib)) (mem W S) = some (if suitsF xs = true then 1 else 0, mem W S) := by
  have hle := hb.le
  have hr := hB.hr
  have no : ¬ (1 ≤ xs.length ∧ xs.length ≤ 128 ∧ gN xs 0 ≠ 0 ∧ gN xs (xs.length - 1) % 2 = 1 ∧ (1 < xs.length ∨ 1 < gN xs 0)) → suitsF xs = false := fun q => decide_eq_false q
  have l0 := gN_lt xs 0
  have l1 := gN_lt xs (xs.length - 1)
  have g0 : P_X0_get G F (W.ad (.o 0 ib)) 0 (mem W S) = some ((Int32.ofNat (gN xs 0)), mem W S) := by rw [← gB_gN]; exact Q0_get (j := 0) hB hb (by omega)
  unfold P_X6_suits
  rw [hB.gI 1 rfl, bO_s, hb.many]
  by_cases c1 : xs.length < 1
  · rw [if_pos (by rw [lit 1]; exact (n_lt (by omega) (by omega)).mpr c1), no (by omega), retZ0]; rfl
  rw [if_neg (by rw [lit 1]; exact fun q => c1 ((n_lt (by omega) (by omega)).mp q)), bO_s]
  by_cases c2 : 128 < xs.length
  · rw [if_pos (by rw [lit 128]; exact (n_lt (by omega) (by omega)).mpr c2), no (by omega), retZ0]; rfl
  rw [if_neg (by rw [lit 128]; exact fun q => c2 ((n_lt (by omega) (by omega)).mp q)), rcv_m hB.lo, bO_s, g0, bP_s]
  by_cases c3 : gN xs 0 = 0
  · rw [if_pos (show (Int32.ofNat (gN xs 0)) = 0 by rw [c3]; rfl), no (by omega), retZ0]; rfl
  have g1 : P_X0_get G F (W.ad (.o 0 ib)) (Int32.ofNat (xs.length - 1)) (mem W S) = some ((Int32.ofNat (gN xs (xs.length - 1))), mem W S) := by rw [← gB_gN]; exact Q0_get hB hb (by omega)
  rw [if_neg (show ¬ (Int32.ofNat (gN xs 0)) = 0 by rw [z32]; exact fun q => c3 ((n_eq (by omega) (by omega)).mp q))]
  simp only [hB.gI 1 rfl, bO_s, hb.many, rcv_m hB.lo]
  rw [n_subL 1 (by omega), g1, bP_s, lit 1, n_and, Nat.and_one_is_mod]
  by_cases c4 : gN xs (xs.length - 1) % 2 = 1
  · rw [if_pos (show (Int32.ofNat (gN xs (xs.length - 1) % 2)) = (Int32.ofNat 1) by rw [c4]), hB.gI 1 rfl, bO_s, hb.many]
    by_cases c5 : 1 < xs.length
    · rw [if_pos ((n_lt (by omega) (by omega)).mpr c5)]
      have : suitsF xs = true := decide_eq_true ⟨by omega, by omega, c3, c4, Or.inl c5⟩
      rw [this, if_pos rfl]
      rfl
    · rw [if_neg (fun q => c5 ((n_lt (by omega) (by omega)).mp q)), rcv_m hB.lo, bO_s, g0, bP_s]
      by_cases c6 : 1 < gN xs 0
      · have : suitsF xs = true := decide_eq_true ⟨by omega, by omega, c3, c4, Or.inr c6⟩
        rw [if_neg (fun q => absurd ((n_le (by omega) (by omega)).mp q) (by omega)), this, if_pos rfl]
        rfl
      · rw [if_pos ((n_le (by omega) (by omega)).mpr (by omega)), no (by omega), retZ0]; rfl
  · rw [if_neg (fun q => c4 ((n_eq (by omega) (by omega)).mp q)), no (by omega), retZ0]; rfl
end BECOME
