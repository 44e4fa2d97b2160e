/-! THE FIELD OF SEALED CONTENT: said purely; the class -/
def L2n (x : Int64) : Nat := x.toBitVec.toNat
theorem L2n_lt (x : Int64) : L2n x < 2 ^ 64 := x.toBitVec.isLt
theorem L_of (x : Int64) : x = Int64.ofNat (L2n x) := L_nat x
/-- one step of the factor -/
def vst (v : Int64 × Int64) : Int64 × Int64 := (ushL v.1 1 ^^^ (if v.2 &&& 1 = 0 then 0 else (-2233785415175766016 : Int64)), ushL v.2 1 ||| shlL v.1 63)
def gmul (X : Nat) : Nat → Nat → Int64 × Int64 → Int64 × Int64 → Int64 × Int64
  | 0, _, _, z => z
  | m + 1, k, v, z => gmul X m (k + 1) (vst v) (if X.testBit (127 - k) then (z.1 ^^^ v.1, z.2 ^^^ v.2) else z)
/-- the sum and two longs more, times the factor -/
def gst (H Y : Int64 × Int64) (h l : Int64) : Int64 × Int64 := gmul (L2n (Y.1 ^^^ h) * 2 ^ 64 + L2n (Y.2 ^^^ l)) 128 0 H (0, 0)
def pad16 (xs : List UInt8) : List UInt8 := m16 fun k => xs.getD k 0
def hi8 (s : List UInt8) : Int64 := Int64.ofNat (beN (s.take 8))
def lo8L (s : List UInt8) : Int64 := Int64.ofNat (beN ((s.drop 8).take 8))
/-- all of a row, by 16 -/
def gall (H : Int64 × Int64) : Nat → Int64 × Int64 → List UInt8 → Int64 × Int64
  | 0, Y, _ => Y
  | m + 1, Y, xs => gall H m (gst H Y (hi8 (pad16 xs)) (lo8L (pad16 xs))) (xs.drop 16)
theorem L_sgn (N : Nat) : (0 : Int64) ≤ Int64.ofNat N ↔ N.testBit 63 = false := by
  rw [Int64.le_iff_toInt_le]
  have e : (Int64.ofNat N).toInt = (BitVec.ofNat 64 N).toInt := by
    show (Int64.ofNat N).toBitVec.toInt = _
    rw [bvL]
  have m : (BitVec.ofNat 64 N).msb = N.testBit 63 := by
    rw [BitVec.msb_eq_getLsbD_last, BitVec.getLsbD_ofNat]
    simp
  rw [e, ← m]
  have z : (0 : Int64).toInt = 0 := by decide
  rw [z]
  constructor
  · intro h
    rw [BitVec.msb_eq_toInt]
    exact decide_eq_false (by omega)
  · intro h
    rw [BitVec.msb_eq_toInt] at h
    have := of_decide_eq_false h
    omega
theorem and1_t (x : Int64) : (x &&& 1 = 0 ∨ x &&& 1 = 1) := by
  rw [L_of x, show (1 : Int64) = Int64.ofNat 1 from rfl, l_and, Nat.and_one_is_mod]
  have : L2n x % 2 = 0 ∨ L2n x % 2 = 1 := by omega
  rcases this with h | h
  · rw [h]; exact .inl rfl
  · rw [h]; exact .inr rfl
abbrev isCo (W : WR) : Prop := W.live (.o 2 0) = true ∧ W.r 2 0 0 = some (.o 4 0) ∧ W.r 2 0 1 = some (.o 1 0) ∧ hasA W 2 0 2 16 ∧ hasA W 2 0 3 16 ∧ W.r 2 0 4 = some (.o 0 68) ∧ isB W 68 64
theorem aB2 {W : WR} (h : isCo W) : aB W 2 0 2 := ⟨h.2.2.2.1, rfl, by decide, by decide, by decide⟩
theorem sg78 (o : Ob) (a b c d : Int64) : (((o.sg 7 a).sg 8 b).sg 7 c).sg 8 d = (o.sg 7 c).sg 8 d := by
  have e : vp_updL (vp_updL (vp_updL (vp_updL o.g 7 a) 8 b) 7 c) 8 d = vp_updL (vp_updL o.g 7 c) 8 d := by
    funext k
    unfold vp_updL
    by_cases h8 : k = 8
    · simp [h8]
    · by_cases h7 : k = 7
      · simp [h7]
      · simp [h7, h8]
  show (o.f, vp_updL (vp_updL (vp_updL (vp_updL o.g 7 a) 8 b) 7 c) 8 d, o.a, o.l, o.m) = (o.f, vp_updL (vp_updL o.g 7 c) 8 d, o.a, o.l, o.m)
  rw [e]
section GF
variable {W : WR} {G : mG} {F : Nat}
theorem Q2_tf_l {X : Nat} (h : isCo W) : ∀ (m k n : Nat) (S : ST) (v : Int64 × Int64) (o : Ob), m < n → k + m = 128 → ∃ o', B_X2_timesFactor_41 G F n (W.ad (.o 2 0)) (Int64.ofNat (X * 2 ^ k / 2 ^ 64)) (Int64.ofNat (X * 2 ^ k)) v.1 v.2 (Int32.ofNat k) (mem W (S.so 2 0 o)) = some (mem W (S.so 2 0 o')) ∧ o' = (o.sg 7 (gmul X m k v (o.g 7, o.g 8)).1).sg 8 (gmul X m k v (o.g 7, o.g 8)).2 := by
  have lo := h.1
  have sgg : ∀ (o : Ob), (o.sg 7 (o.g 7)).sg 8 (o.g 8) = o := by
    intro o
    have e : (vp_updL (vp_updL o.g 7 (o.g 7)) 8 (o.g 8)) = o.g := by
      funext k
      unfold vp_updL
      by_cases h8 : k = 8
      · rw [if_pos h8, h8]
      · rw [if_neg h8]
        by_cases h7 : k = 7
        · rw [if_pos h7, h7]
        · rw [if_neg h7]
    show (o.f, vp_updL (vp_updL o.g 7 (o.g 7)) 8 (o.g 8), o.a, o.l, o.m) = o
    rw [e]
    rfl
  intro m
  induction m with
  | zero =>
    intro k n S v o hn hk
    obtain ⟨n, rfl⟩ : ∃ q, n = q + 1 := ⟨n - 1, by omega⟩
    obtain rfl : k = 128 := by omega
    rw [B_X2_timesFactor_41, if_pos (by decide)]
    exact ⟨o, rfl, (sgg o).symm⟩
  | succ m ih =>
    intro k n S v o hn hk
    obtain ⟨n, rfl⟩ : ∃ q, n = q + 1 := ⟨n - 1, by omega⟩
    have hbit : (X * 2 ^ k / 2 ^ 64).testBit 63 = X.testBit (127 - k) := by
      rw [Nat.testBit_div_two_pow, Nat.mul_comm, Nat.testBit_two_pow_mul]
      simp
      have : 63 + 64 - k = 127 - k := by omega
      rw [this]
      intro _
      omega
    have hp : X * 2 ^ (k + 1) = 2 * (X * 2 ^ k) := by rw [Nat.pow_succ, ← Nat.mul_assoc, Nat.mul_comm]
    have sh1 : shlL (Int64.ofNat (X * 2 ^ k / 2 ^ 64)) 1 ||| ushL (Int64.ofNat (X * 2 ^ k)) 63 = Int64.ofNat (X * 2 ^ (k + 1) / 2 ^ 64) := by
      rw [lit 1, lit 63, l_shl (by decide), ushL_n (by decide), l_or]
      have e : (Int64.ofNat (X * 2 ^ k)).toUInt64.toNat = X * 2 ^ k % 2 ^ 64 := by
        show (Int64.ofNat (X * 2 ^ k)).toBitVec.toNat = _
        rw [bvL, BitVec.toNat_ofNat]
      rw [e, or_add (k := 1) (by omega), hp]
      congr 1
      generalize X * 2 ^ k = Y
      omega
    have sh2 : shlL (Int64.ofNat (X * 2 ^ k)) 1 = Int64.ofNat (X * 2 ^ (k + 1)) := by
      rw [lit 1, l_shl (by decide), hp]
      congr 1
      omega
    have tail : ∀ (M : mM), B_X2_timesFactor_78 G F (B_X2_timesFactor_41 G F n) (W.ad (.o 2 0)) (Int64.ofNat (X * 2 ^ k / 2 ^ 64)) (Int64.ofNat (X * 2 ^ k)) v.1 v.2 (Int32.ofNat k) M = B_X2_timesFactor_41 G F n (W.ad (.o 2 0)) (Int64.ofNat (X * 2 ^ (k + 1) / 2 ^ 64)) (Int64.ofNat (X * 2 ^ (k + 1))) (vst v).1 (vst v).2 (Int32.ofNat (k + 1)) M := by
      intro M
      unfold B_X2_timesFactor_78 B_X2_timesFactor_110 vst
      rw [sh1, sh2, n_addL k 1]
      by_cases h0 : v.2 &&& 1 = 0
      · rw [if_pos ((lg0 _ _).mpr h0), if_pos rfl]
        simp only [h0, if_true]
      · rw [if_neg (fun q => h0 ((lg0 _ _).mp q)), if_neg (by decide)]
        simp only [h0, if_false]
    rw [B_X2_timesFactor_41, if_neg (by rw [lit 128]; exact fun q => absurd ((n_le (by omega) (by omega)).mp q) (by omega))]
    by_cases hb : X.testBit (127 - k) = true
    · rw [if_neg (fun q => by
        have := (L_sgn _).mp ((lg_cmp_ge _ _).mp q)
        rw [hbit, hb] at this
        exact absurd this (by decide)), gL lo rfl, bO_s, pL lo rfl, bO_s, gL lo rfl, bO_s, pL lo rfl, bO_s, tail]
      obtain ⟨o', g1, g2⟩ := ih (k + 1) n S (vst v) (((o.sg 7 (o.g 7 ^^^ v.1)).sg 8 ((o.sg 7 (o.g 7 ^^^ v.1)).g 8 ^^^ v.2))) (by omega) (by omega)
      refine ⟨o', g1, ?_⟩
      rw [g2, gmul, if_pos hb]
      have e7 : ((o.sg 7 (o.g 7 ^^^ v.1)).sg 8 ((o.sg 7 (o.g 7 ^^^ v.1)).g 8 ^^^ v.2)).g 7 = o.g 7 ^^^ v.1 := rfl
      have e8 : ((o.sg 7 (o.g 7 ^^^ v.1)).sg 8 ((o.sg 7 (o.g 7 ^^^ v.1)).g 8 ^^^ v.2)).g 8 = o.g 8 ^^^ v.2 := rfl
      rw [e7, e8]
      exact sg78 _ _ _ _ _
    · rw [if_pos ((lg_cmp_ge _ _).mpr ((L_sgn _).mpr (by rw [hbit]; exact Bool.eq_false_iff.mpr hb))), tail]
      obtain ⟨o', g1, g2⟩ := ih (k + 1) n S (vst v) o (by omega) (by omega)
      refine ⟨o', g1, ?_⟩
      rw [g2, gmul, if_neg hb]
theorem Q2_timesFactor {S : ST} {H Y : Int64 × Int64} {x y : Int64} (X : Cx G F W) (h : isCo W) (h5 : (S 2 0).g 5 = H.1) (h6 : (S 2 0).g 6 = H.2) (h7 : (S 2 0).g 7 = Y.1) (h8 : (S 2 0).g 8 = Y.2) : P_X2_timesFactor G F (W.ad (.o 2 0)) x y (mem W S) = some (mem W (S.so 2 0 (((S 2 0).sg 7 (gst H Y x y).1).sg 8 (gst H Y x y).2))) := by
  have hF := X.hF
  have lo := h.1
  unfold P_X2_timesFactor
  rw [gfL_m lo rfl, bO_s, gfL_m lo rfl, bO_s, gfL_m lo rfl, bO_s, gfL_m lo rfl, bO_s, pfL_m lo rfl, bO_s, pL lo rfl, bO_s, h5, h6, h7, h8]
  obtain ⟨o', g1, g2⟩ := Q2_tf_l (G := G) (F := F) (X := L2n (Y.1 ^^^ x) * 2 ^ 64 + L2n (Y.2 ^^^ y)) h 128 0 F S H (((S 2 0).sg 7 0).sg 8 0) (by omega) rfl
  have hl := L2n_lt (Y.2 ^^^ y)
  have e1 : Int64.ofNat ((L2n (Y.1 ^^^ x) * 2 ^ 64 + L2n (Y.2 ^^^ y)) * 2 ^ 0 / 2 ^ 64) = Y.1 ^^^ x := by
    rw [Nat.pow_zero, Nat.mul_one, show (L2n (Y.1 ^^^ x) * 2 ^ 64 + L2n (Y.2 ^^^ y)) / 2 ^ 64 = L2n (Y.1 ^^^ x) by omega, ← L_of]
  have e2 : Int64.ofNat ((L2n (Y.1 ^^^ x) * 2 ^ 64 + L2n (Y.2 ^^^ y)) * 2 ^ 0) = Y.2 ^^^ y := by
    rw [Nat.pow_zero, Nat.mul_one]
    apply L_ext
    rw [bvL]
    apply BitVec.eq_of_toNat_eq
    rw [BitVec.toNat_ofNat]
    show _ = L2n (Y.2 ^^^ y)
    omega
  rw [e1, e2] at g1
  have g1' : B_X2_timesFactor_41 G F F (W.ad (.o 2 0)) (Y.1 ^^^ x) (Y.2 ^^^ y) H.1 H.2 0 (mem W (S.so 2 0 (((S 2 0).sg 7 0).sg 8 0))) = some (mem W (S.so 2 0 o')) := g1
  rw [g1', g2]
  congr 3
  exact sg78 _ _ _ _ _
end GF
