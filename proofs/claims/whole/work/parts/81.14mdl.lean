/-! THE MODEL'S OWN CALLS: bytes -/
/-- the byte of a long at bit s -/
def bL (x : Int64) (s : Nat) : UInt8 := UInt8.ofNat (x.toBitVec.toNat / 2 ^ s)
theorem shr64 : ∀ s, s < 64 → (((((Int32.ofNat s)).toInt64 &&& 63).toBitVec.smod 64).toNat = s) := by decide +kernel
theorem bL_of {x : Int64} {s : Nat} (hs : s ≤ 56) : lo8 (shrL x (Int32.ofNat s)).toInt32 = bL x s := by
  unfold shrL bL lo8
  apply UInt8.toBitVec_inj.mp
  show ((x >>> (((Int32.ofNat s)).toInt64 &&& 63)).toInt32.toBitVec.setWidth 8) = _
  rw [Int64.toBitVec_toInt32, Int64.toBitVec_shiftRight]
  apply BitVec.eq_of_getLsbD_eq
  intro j hj
  rw [BitVec.sshiftRight_eq', shr64 s (by omega)]
  have e : (UInt8.ofNat (x.toBitVec.toNat / 2 ^ s)).toBitVec = BitVec.ofNat 8 (x.toBitVec.toNat / 2 ^ s) := rfl
  rw [e]
  simp only [BitVec.getLsbD_setWidth, BitVec.getLsbD_signExtend, BitVec.getLsbD_sshiftRight, BitVec.getLsbD_ofNat, ← Nat.shiftRight_eq_div_pow, Nat.testBit_shiftRight]
  have h1 : j < 8 := hj
  have h2 : j < 32 := by omega
  have h3 : s + j < 64 := by omega
  have h4 : ¬ 64 ≤ j := by omega
  simp [h1, h2, h3, h4, BitVec.getLsbD]
/-- the n bytes of a long, the highest first -/
def beL (n : Nat) (x : Int64) : List UInt8 := (List.range n).map fun k => bL x (8 * (n - 1 - k))
theorem beL_len (n : Nat) (x : Int64) : (beL n x).length = n := by simp [beL]
theorem beL_at {n k : Nat} {x : Int64} (h : k < n) : (beL n x)[k]? = some (bL x (8 * (n - 1 - k))) := by simp [beL, h]
theorem w4_beL (a : Int32) : beL 4 a.toInt64 = w4 a := by
  have q : ∀ s, s ≤ 24 → bL a.toInt64 s = lo8 (ushI a (Int32.ofNat s)) := by
    intro s hs
    unfold bL lo8 ushI
    apply UInt8.toBitVec_inj.mp
    have e : (UInt8.ofNat (a.toInt64.toBitVec.toNat / 2 ^ s)).toBitVec = BitVec.ofNat 8 (a.toInt64.toBitVec.toNat / 2 ^ s) := rfl
    rw [e]
    have e2 : ∀ s, s ≤ 24 → ((Int32.toUInt32 (Int32.ofNat s) &&& Int32.toUInt32 31).toBitVec.toNat % 32 = s) := by decide +kernel
    show _ = ((a.toUInt32 >>> (((Int32.ofNat s)).toUInt32 &&& Int32.toUInt32 31)).toBitVec.setWidth 8)
    apply BitVec.eq_of_getLsbD_eq
    intro j hj
    rw [UInt32.toBitVec_shiftRight, Int32.toBitVec_toInt64]
    have e3 : ((Int32.toUInt32 (Int32.ofNat s) &&& Int32.toUInt32 31).toBitVec % 32).toNat = s := by
      rw [BitVec.toNat_umod]
      exact e2 s hs
    have h1 : j < 8 := hj
    have h2 : s + j < 32 := by omega
    have h3 : s + j < 64 := by omega
    rw [BitVec.getLsbD_setWidth, BitVec.ushiftRight_eq', e3, BitVec.getLsbD_ushiftRight, BitVec.getLsbD_ofNat, ← Nat.shiftRight_eq_div_pow, Nat.testBit_shiftRight]
    have e4 : (a.toBitVec.signExtend 64).toNat.testBit (s + j) = (a.toBitVec.signExtend 64).getLsbD (s + j) := rfl
    rw [e4, BitVec.getLsbD_signExtend]
    simp [h1, h2, h3]
  show [bL a.toInt64 24, bL a.toInt64 16, bL a.toInt64 8, bL a.toInt64 0] = _
  rw [q 24 (by omega), q 16 (by omega), q 8 (by omega), q 0 (by omega)]
  have e : ushI a (Int32.ofNat 0) = a := by
    apply i_ext
    show (a.toUInt32 >>> (((Int32.ofNat 0)).toUInt32 &&& Int32.toUInt32 31)).toBitVec = a.toBitVec
    rw [UInt32.toBitVec_shiftRight]
    have e5 : (((Int32.ofNat 0)).toUInt32 &&& Int32.toUInt32 31).toBitVec % 32 = 0#32 := by decide +kernel
    rw [e5]
    simp
  rw [e]
  rfl
section MDL2
variable {W : WR} {S : ST} {G : mG} {F : Nat}
theorem QM_put_l {k p cnt : Nat} {x : Int64} (h : isM W) (q : (kdA 13)[k]? = some 1) (hl : mLen k < 2 ^ 30) (hb : p + cnt ≤ mLen k) (hc : cnt ≤ 8) : ∀ (m j n : Nat) (S : ST) (β : Nat → UInt8), m < n → j + m = cnt → mB (S 13 0) k β → B_X13_put_3 G F n (W.ad (.a 13 0 k)) (Int32.ofNat p) (Int32.ofNat cnt) x (Int32.ofNat j) (mem W S) = some (mem W (S.so 13 0 ((S 13 0).sA k (fun j' => sb (wrB β (p + j) ((beL cnt x).drop j) j'))))) := by
  intro m
  induction m with
  | zero =>
    intro j n S β hn hj hβ
    obtain ⟨n, rfl⟩ : ∃ q, n = q + 1 := ⟨n - 1, by omega⟩
    rw [B_X13_put_3, if_pos ((n_le (by omega) (by omega)).mpr (by omega)), List.drop_eq_nil_of_le (by rw [beL_len]; omega), wrB_nil, sA_self hβ, so_self]
  | succ m ih =>
    intro j n S β hn hj hβ
    obtain ⟨n, rfl⟩ : ∃ q, n = q + 1 := ⟨n - 1, by omega⟩
    have e1 : (8 : Int32) * (((Int32.ofNat cnt) - 1) - (Int32.ofNat j)) = (Int32.ofNat (8 * (cnt - 1 - j))) := by
      rw [o32, n_sub (by omega), n_sub (by omega), lit 8, n_mul]
    rw [B_X13_put_3, if_neg (by rw [n_le (by omega) (by omega)]; omega), n_add, e1, sb_lo8, sb_lo8, lo8_sb, bL_of (by omega), h.sB q hβ (by omega) (by omega), bO_s, o32, n_add]
    rw [ih (j + 1) n _ (va_up β (p + j) (bL x (8 * (cnt - 1 - j)))) (by omega) (by omega) (by rw [so_eq]; exact mB_sA _ _ _), so_so, so_eq, sA_sA]
    congr 5
    funext j'
    congr 1
    have hlen := beL_len cnt x
    have ej : (beL cnt x)[j]? = some (bL x (8 * (cnt - 1 - j))) := beL_at (by omega)
    have ed : (beL cnt x).drop j = bL x (8 * (cnt - 1 - j)) :: (beL cnt x).drop (j + 1) := by
      rw [List.drop_eq_getElem_cons (by omega)]
      congr 1
      exact (List.getElem?_eq_some_iff.mp ej).2
    rw [ed]
    unfold wrB va_up
    simp only [List.length_cons, List.length_drop, hlen]
    by_cases h1 : j' = p + j
    · subst h1
      rw [if_neg (by omega), if_pos rfl, if_pos ⟨by omega, by omega⟩, Nat.sub_self]
      rfl
    · rw [if_neg h1]
      by_cases h2 : p + (j + 1) ≤ j' ∧ j' < p + (j + 1) + (cnt - (j + 1))
      · rw [if_pos h2, if_pos ⟨by omega, by omega⟩, show j' - (p + j) = j' - (p + (j + 1)) + 1 by omega]
        rfl
      · rw [if_neg h2, if_neg (by omega)]
theorem QM_put {k p cnt : Nat} {x : Int64} {β : Nat → UInt8} (X : Cx G F W) (h : isM W) (q : (kdA 13)[k]? = some 1) (hl : mLen k < 2 ^ 30) (hb : p + cnt ≤ mLen k) (hc : cnt ≤ 8) (hβ : mB (S 13 0) k β) : P_X13_put G F (W.ad (.a 13 0 k)) (Int32.ofNat p) (Int32.ofNat cnt) x (mem W S) = some (mem W (S.so 13 0 ((S 13 0).sA k (fun j' => sb (wrB β p (beL cnt x) j'))))) := by
  have := X.hF
  exact QM_put_l h q hl hb hc cnt 0 F S β (by omega) (Nat.zero_add _) hβ
/-- tell: bytes come to OUT -/
theorem QM_tell {k p cnt : Nat} {β β4 : Nat → UInt8} (X : Cx G F W) (h : isM W) (q : (kdA 13)[k]? = some 1) (hne : k ≠ 4) (hl : mLen k < 2 ^ 30) (hb : p + cnt ≤ mLen k) (hc : cnt ≤ 8192) (hβ : mB (S 13 0) k β) (h4 : mB (S 13 0) 4 β4) : P_X13_tell G F (W.ad (.o 13 0)) (W.ad (.a 13 0 k)) (Int32.ofNat p) (Int32.ofNat cnt) (mem W S) = some ((Int32.ofNat cnt), mem W (S.so 13 0 (((S 13 0).sA 4 (fun j => sb (wrB β4 0 (rdB β p cnt) j))).sf 5 (Int32.ofNat cnt)))) := by
  have g : P_X13_move G F (W.ad (.a 13 0 k)) (Int32.ofNat p) (W.ad (.a 13 0 4)) 0 (Int32.ofNat cnt) (mem W S) = some (mem W (S.so 13 0 ((S 13 0).sA 4 (fun j => sb (wrB β4 0 (rdB β p cnt) j))))) := QM_move (p2 := 0) X h q rfl hne hl (by decide) hb (by show 0 + cnt ≤ 8192; omega) (by omega) hβ h4
  unfold P_X13_tell
  rw [h.gR 4 rfl (by decide), bO_s, g, bO_s, h.pI 5 _ rfl, bO_s, so_so, so_eq]
end MDL2
