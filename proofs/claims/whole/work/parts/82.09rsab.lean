/-! RSA: is it a number below n; how many bits n has -/
def numF (x n : List UInt8) : Bool := decide (x.length = n.length ∧ beN x < beN n)
theorem cb_t : ∀ k, k < 8 → ∀ b, b < 256 → b < 2 ^ (8 - k) → (((Int32.ofNat b) &&& (Int32.ofNat (2 ^ (7 - k))) = (0 : Int32)) ↔ b < 2 ^ (7 - k)) := by decide +kernel
theorem cs_t : ∀ k, k < 7 → ((Int32.ofNat (2 ^ (7 - k))) >>> ((1 : Int32) &&& 31) = (Int32.ofNat (2 ^ (7 - (k + 1))))) ∧ ¬ (Int32.ofNat (2 ^ (7 - k))) ≤ (0 : Int32) := by decide +kernel
theorem cp_t : ∀ k, k < 8 → ¬ (Int32.ofNat (2 ^ (7 - k))) ≤ (0 : Int32) := by decide +kernel
theorem mb_t : ∀ j, j < 8 → ∀ b, b < 256 → b < 2 ^ (j + 1) → (((sb (UInt8.ofNat b) >>> (((Int32.ofNat (j + 1)) - (1 : Int32)) &&& 31)) &&& (1 : Int32) = 0) ↔ b < 2 ^ j) := by decide +kernel
theorem bl_ex : ∀ b, b < 256 → 0 < b → ∃ t, t < 8 ∧ 2 ^ t ≤ b ∧ b < 2 ^ (t + 1) := by
  intro b h1 h2
  by_cases c7 : 128 ≤ b
  · exact ⟨7, by omega, by omega, by omega⟩
  by_cases c6 : 64 ≤ b
  · exact ⟨6, by omega, by omega, by omega⟩
  by_cases c5 : 32 ≤ b
  · exact ⟨5, by omega, by omega, by omega⟩
  by_cases c4 : 16 ≤ b
  · exact ⟨4, by omega, by omega, by omega⟩
  by_cases c3 : 8 ≤ b
  · exact ⟨3, by omega, by omega, by omega⟩
  by_cases c2 : 4 ≤ b
  · exact ⟨2, by omega, by omega, by omega⟩
  by_cases c1 : 2 ≤ b
  · exact ⟨1, by omega, by omega, by omega⟩
  · exact ⟨0, by omega, by omega, by omega⟩
theorem p2_le {a b : Nat} (h : a ≤ b) : 2 ^ a ≤ 2 ^ b := Nat.pow_le_pow_right (by omega) h
section RSAB
variable {W : WR} {G : mG} {F : Nat} {S : ST}
theorem Q8_isNumberOf {ix in_ rx rn : Nat} {x n : List UInt8} {lx ln : Bool} {l0 : Nat} (X : Cx G F W) (hX : isB W ix rx) (hx : Byt rx (S 0 ix) x lx) (hN : isB W in_ rn) (hn : Byt rn (S 0 in_) n ln) (h90 : n.length < 90000) : P_X8_isNumberOf G F l0 (W.ad (.o 0 ix)) (W.ad (.o 0 in_)) (mem W S) = some (if numF x n = true then 1 else 0, mem W S) := by
  have xl := hx.le
  have nl := hn.le
  have xr := hX.hr
  have nr := hN.hr
  unfold P_X8_isNumberOf numF
  rw [hX.gI 1 rfl, bO_s, hN.gI 1 rfl, bO_s, hx.many, hn.many]
  by_cases c : x.length = n.length
  · rw [if_pos (by rw [c]), bO_s]
    have c1 := Q0_cmpN (G := G) (F := F) (a := 0) (b := 0) (cnt := n.length) X hX hx hN hn (by decide) (by decide) h90
    rw [bv_seg n.length 0 (by omega), bv_seg n.length 0 (by omega)] at c1
    simp only [Nat.add_zero] at c1
    rw [seg_all c, seg_all rfl] at c1
    have c1' : P_X0_compare G F (W.ad (.o 0 ix)) 0 (W.ad (.o 0 in_)) 0 (Int32.ofNat n.length) (mem W S) = _ := c1
    rw [c1', bP_s]
    by_cases q : beN n ≤ beN x
    · rw [if_pos (ordF_neg.2.1.mpr q), retZ0, if_neg (fun o => by have := (of_decide_eq_true o).2; omega)]
    · rw [if_neg (fun o => q (ordF_neg.2.1.mp o)), retZ1, if_pos (decide_eq_true ⟨c, by omega⟩)]
  · rw [if_neg (fun q => c ((n_eq (by omega) (by omega)).mp q)), retZ0, if_neg (fun o => c (of_decide_eq_true o).1)]
theorem Q8_bitsOf {i room t : Nat} {n : List UInt8} {l : Bool} (X : Cx G F W) (hB : isB W i room) (hb : Byt room (S 0 i) n l) (ht : t < 8) (h1 : 2 ^ t ≤ gN n 0) (h2 : gN n 0 < 2 ^ (t + 1)) (hl : 0 < n.length) : P_X8_bitsOf G F (W.ad (.o 0 i)) (mem W S) = some ((Int32.ofNat (8 * (n.length - 1) + (t + 1))), mem W S) := by
  have hF := X.hF
  have g256 := gN_lt n 0
  have lp : ∀ (q k fuel : Nat), q < fuel → k + q = 7 - t → B_X8_bitsOf_12 G F fuel (W.ad (.o 0 i)) (Int32.ofNat (8 * n.length - k)) (Int32.ofNat (2 ^ (7 - k))) (mem W S) = some ((Int32.ofNat (8 * (n.length - 1) + (t + 1))), mem W S) := by
    intro q
    induction q with
    | zero =>
      intro k fuel hf hk
      obtain ⟨m, rfl⟩ : ∃ m, fuel = m + 1 := ⟨fuel - 1, by omega⟩
      have gg : P_X0_get G F (W.ad (.o 0 i)) 0 (mem W S) = some (gB n 0, mem W S) := Q0_get (j := 0) hB hb (by decide)
      have e : 7 - k = t := by omega
      rw [B_X8_bitsOf_12, if_neg (cp_t k (by omega)), rcv_m hB.1, bO_s, gg, bP_s, gB_gN, if_neg (fun o => by
        have := (cb_t k (by omega) _ g256 (by rw [show 8 - k = t + 1 by omega]; exact h2)).mp o
        rw [e] at this
        omega)]
      rw [show 8 * n.length - k = 8 * (n.length - 1) + (t + 1) by omega]
    | succ q ih =>
      intro k fuel hf hk
      obtain ⟨m, rfl⟩ : ∃ m, fuel = m + 1 := ⟨fuel - 1, by omega⟩
      have gg : P_X0_get G F (W.ad (.o 0 i)) 0 (mem W S) = some (gB n 0, mem W S) := Q0_get (j := 0) hB hb (by decide)
      have p1 := p2_le (a := t + 1) (b := 7 - k) (by omega)
      have p2 := p2_le (a := t + 1) (b := 8 - k) (by omega)
      rw [B_X8_bitsOf_12, if_neg (cp_t k (by omega)), rcv_m hB.1, bO_s, gg, bP_s, gB_gN, if_pos ((cb_t k (by omega) _ g256 (by omega)).mpr (by omega)), (cs_t k (by omega)).1, show 8 * n.length - k = 8 * n.length - (k + 1) + 1 by omega, n_dec]
      exact ih (k + 1) m (by omega) (by omega)
  unfold P_X8_bitsOf
  rw [hB.gI 1 rfl, bO_s, hb.many, show (8 : Int32) * (Int32.ofNat n.length) = (Int32.ofNat (8 * n.length)) from n_mul 8 n.length]
  exact lp (7 - t) 0 F (by omega) (by omega)
theorem QM_bitsOf {kb p size t : Nat} {β : Nat → UInt8} (X : Cx G F W) (h : isM W) (q : (kdA 13)[kb]? = some 1) (hl : mLen kb < 2 ^ 30) (hp : p < mLen kb) (hb : mB (S 13 0) kb β) (ht : t < 8) (h1 : 2 ^ t ≤ (β p).toNat) (h2 : (β p).toNat < 2 ^ (t + 1)) (hs : 0 < size) : P_X13_bitsOf G F (W.ad (.a 13 0 kb)) (Int32.ofNat p) (Int32.ofNat size) (mem W S) = some ((Int32.ofNat (8 * (size - 1) + (t + 1))), mem W S) := by
  have hF := X.hF
  have ga : aI G (mem W S) 1 (W.ad (.a 13 0 kb)) (Int32.ofNat p) = some (sb (β p)) := h.aB q hb hp (by omega)
  have e0 : UInt8.ofNat (β p).toNat = β p := by simp
  have b256 : (β p).toNat < 256 := (β p).toNat_lt
  have lp : ∀ (q j fuel : Nat), q < fuel → j = t + q → j < 8 → B_X13_bitsOf_3 G F fuel (W.ad (.a 13 0 kb)) (Int32.ofNat p) (Int32.ofNat size) (Int32.ofNat (j + 1)) (mem W S) = some ((Int32.ofNat (8 * (size - 1) + (t + 1))), mem W S) := by
    intro q
    induction q with
    | zero =>
      intro j fuel hf hj h8
      obtain ⟨m, rfl⟩ : ∃ m, fuel = m + 1 := ⟨fuel - 1, by omega⟩
      have hj : j = t := by omega
      subst hj
      have mt := mb_t j h8 _ b256 h2
      rw [e0] at mt
      rw [B_X13_bitsOf_3, ga, bO_s, if_neg (fun o => by have := mt.mp o; omega), n_subL 1 hs, show (8 : Int32) * (Int32.ofNat (size - 1)) = (Int32.ofNat (8 * (size - 1))) from n_mul 8 (size - 1), n_add]
    | succ q ih =>
      intro j fuel hf hj h8
      obtain ⟨m, rfl⟩ : ∃ m, fuel = m + 1 := ⟨fuel - 1, by omega⟩
      have p1 := p2_le (a := t + 1) (b := j) (by omega)
      have p2 := p2_le (a := t + 1) (b := j + 1) (by omega)
      have mt := mb_t j h8 _ b256 (by omega)
      rw [e0] at mt
      rw [B_X13_bitsOf_3, ga, bO_s, if_pos (mt.mpr (by omega)), n_dec]
      have := ih (j - 1) m (by omega) (by omega) (by omega)
      rw [show j - 1 + 1 = j by omega] at this
      exact this
  unfold P_X13_bitsOf
  exact lp (7 - t) 7 F (by omega) (by omega) (by omega)
end RSAB
