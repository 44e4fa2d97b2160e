/-! THE MODEL'S DIGEST -/
/-- big-endian value -/
def beN (xs : List UInt8) : Nat := xs.foldl (fun a x => 256 * a + x.toNat) 0
theorem beN_snoc (xs : List UInt8) (x : UInt8) : beN (xs ++ [x]) = 256 * beN xs + x.toNat := by simp [beN]
abbrev mMass (o : Ob) (msg : List UInt8) : Prop := o.f 37 = (Int32.ofNat msg.length) ∧ msg.length ≤ 33100 ∧ ∃ β, mB o 36 β ∧ rdB β 0 msg.length = msg
theorem sb255 : ∀ n, n < 256 → (sb (UInt8.ofNat n)).toInt64 &&& 255 = Int64.ofNat n := by decide +kernel
theorem sb_and64 (y : UInt8) : (sb y).toInt64 &&& 255 = Int64.ofNat y.toNat := by
  have := sb255 y.toNat y.toNat_lt
  rwa [UInt8.ofNat_toNat] at this
theorem L_ext {x y : Int64} (h : x.toBitVec = y.toBitVec) : x = y := Int64.toBitVec_inj.mp h
theorem bvL (a : Nat) : (Int64.ofNat a).toBitVec = BitVec.ofNat 64 a := Int64.toBitVec_ofNat'
theorem l_or (a b : Nat) : Int64.ofNat a ||| Int64.ofNat b = Int64.ofNat (a ||| b) := by
  apply L_ext
  rw [Int64.toBitVec_or, bvL, bvL, bvL]
  apply BitVec.eq_of_toNat_eq
  simp only [BitVec.toNat_or, BitVec.toNat_ofNat]
  exact (Nat.or_mod_two_pow (a := a) (b := b) (n := 64)).symm
theorem l_and (a b : Nat) : Int64.ofNat a &&& Int64.ofNat b = Int64.ofNat (a &&& b) := by
  apply L_ext
  rw [Int64.toBitVec_and, bvL, bvL, bvL]
  apply BitVec.eq_of_toNat_eq
  simp only [BitVec.toNat_and, BitVec.toNat_ofNat]
  exact (Nat.and_mod_two_pow (a := a) (b := b) (n := 64)).symm
theorem l_xor (a b : Nat) : Int64.ofNat a ^^^ Int64.ofNat b = Int64.ofNat (a ^^^ b) := by
  apply L_ext
  rw [Int64.toBitVec_xor, bvL, bvL, bvL]
  apply BitVec.eq_of_toNat_eq
  simp only [BitVec.toNat_xor, BitVec.toNat_ofNat]
  exact (Nat.xor_mod_two_pow (a := a) (b := b) (n := 64)).symm
theorem l_shl {a s : Nat} (hs : s < 64) : shlL (Int64.ofNat a) (Int32.ofNat s) = Int64.ofNat (a * 2 ^ s) := by
  unfold shlL
  apply L_ext
  rw [Int64.toBitVec_shiftLeft, bvL, bvL (a * 2 ^ s)]
  apply BitVec.eq_of_toNat_eq
  rw [BitVec.shiftLeft_eq', shr64 s hs]
  simp only [BitVec.toNat_shiftLeft, BitVec.toNat_ofNat, Nat.shiftLeft_eq]
  rw [Nat.mod_mul_mod]
theorem ushL_n {x : Int64} {s : Nat} (hs : s < 64) : ushL x (Int32.ofNat s) = Int64.ofNat (x.toUInt64.toNat / 2 ^ s) := by
  unfold ushL
  apply L_ext
  apply BitVec.eq_of_toNat_eq
  rw [bvL, BitVec.toNat_ofNat]
  have e : (((Int32.ofNat s)).toInt64.toUInt64 &&& Int64.toUInt64 63) = UInt64.ofNat s := by
    have : ∀ s, s < 64 → (((Int32.ofNat s)).toInt64.toUInt64 &&& Int64.toUInt64 63) = UInt64.ofNat s := by decide +kernel
    exact this s hs
  rw [e]
  have h2 : x.toUInt64.toNat < 2 ^ 64 := x.toUInt64.toNat_lt
  have h3 : (UInt64.ofNat s).toNat = s := by
    rw [UInt64.toNat_ofNat_of_lt' (by show s < 2 ^ 64; omega)]
  show (x.toUInt64 >>> UInt64.ofNat s).toNat = _
  rw [UInt64.toNat_shiftRight, h3, Nat.mod_eq_of_lt hs, Nat.shiftRight_eq_div_pow]
  exact (Nat.mod_eq_of_lt (Nat.lt_of_le_of_lt (Nat.div_le_self _ _) h2)).symm
theorem or_add {a b k : Nat} (hb : b < 2 ^ k) : a * 2 ^ k ||| b = a * 2 ^ k + b := by
  rw [Nat.mul_comm]
  exact (Nat.two_pow_add_eq_or_of_lt hb a).symm
theorem shl8_or {a b : Nat} (hb : b < 256) : (shlL (Int64.ofNat a) 8) ||| Int64.ofNat b = Int64.ofNat (256 * a + b) := by
  rw [lit 8, l_shl (by decide), l_or, or_add (k := 8) hb]
  congr 1
  omega
theorem u8_eq {a b : Nat} (h : a % 256 = b % 256) : UInt8.ofNat a = UInt8.ofNat b := by
  apply UInt8.toNat_inj.mp
  rw [UInt8.toNat_ofNat', UInt8.toNat_ofNat']
  exact h
theorem n_u32 (a : Nat) : ((Int32.ofNat a)).toUInt32.toNat = a % 2 ^ 32 := by
  show ((Int32.ofNat a)).toBitVec.toNat = _
  rw [bv_of, BitVec.toNat_ofNat]
theorem w4_n (a : Nat) : w4 (Int32.ofNat a) = [UInt8.ofNat (a / 2 ^ 24), UInt8.ofNat (a / 2 ^ 16), UInt8.ofNat (a / 2 ^ 8), UInt8.ofNat a] := by
  unfold w4
  rw [lit 24, lit 16, lit 8, ushI_n (by decide), ushI_n (by decide), ushI_n (by decide), n_u32, lo8_n, lo8_n, lo8_n, lo8_n]
  congr 1
  · exact u8_eq (by omega)
  · congr 1
    · exact u8_eq (by omega)
    · congr 1
      exact u8_eq (by omega)
theorem L_nat (x : Int64) : x = Int64.ofNat x.toBitVec.toNat := by
  apply L_ext
  rw [bvL]
  exact BitVec.eq_of_toNat_eq (by rw [BitVec.toNat_ofNat, Nat.mod_eq_of_lt x.toBitVec.isLt])
theorem n_64 {n : Nat} (h : n < 2 ^ 31) : ((Int32.ofNat n)).toInt64 = Int64.ofNat n := by
  apply Int64.toInt_inj.mp
  rw [Int32.toInt_toInt64, Int32.toInt_ofNat_of_lt h, Int64.toInt_ofNat_of_lt (by omega)]
theorem rdB_succ (β : Nat → UInt8) (p m : Nat) : rdB β p (m + 1) = β p :: rdB β (p + 1) m := by
  unfold rdB
  rw [List.range_succ_eq_map, List.map_cons, List.map_map]
  congr 1
  apply List.map_congr_left
  intro x _
  show β _ = β _
  congr 1
  show p + (x + 1) = _
  omega
section MDIG
variable {W : WR} {G : mG} {F : Nat} {S : ST}
theorem isM.aB' (h : isM W) {o : Ob} {k j : Nat} {β : Nat → UInt8} (q : (kdA 13)[k]? = some 1) (hb : mB o k β) (hj : j < mLen k) (hl : mLen k < 2 ^ 31) : aI G (mem W (S.so 13 0 o)) 1 (W.ad (.a 13 0 k)) (Int32.ofNat j) = some (sb (β j)) := h.aB q (by rw [so_eq]; exact hb) hj hl
theorem isM.sB' (h : isM W) {o : Ob} {k j : Nat} {β : Nat → UInt8} {y : UInt8} (q : (kdA 13)[k]? = some 1) (hb : mB o k β) (hj : j < mLen k) (hl : mLen k < 2 ^ 31) : sI (mem W (S.so 13 0 o)) 1 (W.ad (.a 13 0 k)) (Int32.ofNat j) (sb y) = some (mem W (S.so 13 0 (o.sA k (fun j' => sb (va_up β j y j'))))) := by rw [h.sB q (by rw [so_eq]; exact hb) hj hl, so_so, so_eq]
theorem QM_longAt_l {k p cnt : Nat} {β : Nat → UInt8} (h : isM W) (q : (kdA 13)[k]? = some 1) (hl : mLen k < 2 ^ 30) (hb : p + cnt ≤ mLen k) (hβ : mB (S 13 0) k β) : ∀ (m j n a : Nat), m < n → j + m = cnt → B_X13_longAt_5 G F n (W.ad (.a 13 0 k)) (Int32.ofNat p) (Int32.ofNat cnt) (Int64.ofNat a) (Int32.ofNat j) (mem W S) = some (Int64.ofNat ((rdB β (p + j) m).foldl (fun a x => 256 * a + x.toNat) a), mem W S) := by
  intro m
  induction m with
  | zero =>
    intro j n a hn hj
    obtain ⟨n, rfl⟩ : ∃ q, n = q + 1 := ⟨n - 1, by omega⟩
    rw [B_X13_longAt_5, if_pos ((n_le (by omega) (by omega)).mpr (by omega))]
    rfl
  | succ m ih =>
    intro j n a hn hj
    obtain ⟨n, rfl⟩ : ∃ q, n = q + 1 := ⟨n - 1, by omega⟩
    rw [B_X13_longAt_5, if_neg (fun q => absurd ((n_le (by omega) (by omega)).mp q) (by omega)), n_add, h.aB q hβ (by omega) (by omega), bO_s, sb_and64, shl8_or (UInt8.toNat_lt _), n_addL j 1, ih (j + 1) n _ (by omega) (by omega)]
    congr 3
    rw [rdB_succ]
    rfl
theorem QM_longAt {k p cnt : Nat} {β : Nat → UInt8} (X : Cx G F W) (h : isM W) (q : (kdA 13)[k]? = some 1) (hl : mLen k < 2 ^ 30) (hb : p + cnt ≤ mLen k) (hc : cnt < 90000) (hβ : mB (S 13 0) k β) : P_X13_longAt G F (W.ad (.a 13 0 k)) (Int32.ofNat p) (Int32.ofNat cnt) (mem W S) = some (Int64.ofNat (beN (rdB β p cnt)), mem W S) := QM_longAt_l h q hl hb hβ cnt 0 F 0 (by have := X.hF; omega) (by omega)
theorem QM_lay {k p cnt : Nat} {β : Nat → UInt8} {msg : List UInt8} (X : Cx G F W) (h : isM W) (q : (kdA 13)[k]? = some 1) (hk : k ≠ 36) (hl : mLen k < 2 ^ 30) (hb : p + cnt ≤ mLen k) (hm : mMass (S 13 0) msg) (hc : msg.length + cnt ≤ 33100) (hβ : mB (S 13 0) k β) : ∃ o, P_X13_lay G F (W.ad (.o 13 0)) (W.ad (.a 13 0 k)) (Int32.ofNat p) (Int32.ofNat cnt) (mem W S) = some (mem W (S.so 13 0 o)) ∧ mMass o (msg ++ rdB β p cnt) ∧ agr [37] [] [36] [] (S 13 0) o := by
  obtain ⟨m1, m2, γ, m3, m4⟩ := hm
  unfold P_X13_lay
  rw [h.gR 36 rfl (by decide), bO_s, h.gI 37 rfl, bO_s, m1, QM_move X h q rfl hk hl (by decide) hb (show msg.length + cnt ≤ 33100 from hc) (by omega) hβ m3, bO_s, gI h.lo rfl, bO_s, sA_f, m1, n_add, pI h.lo rfl, bO_s]
  refine ⟨_, rfl, ⟨by rw [sf_f, if_pos rfl]; simp [rdB_len], by simp [rdB_len]; omega, _, mB_sA _ _ _, ?_⟩, (agr_sA (by decide)).trans (agr_sf (by decide))⟩
  have e := rdB_app γ 0 (rdB β p cnt) msg.length
  rw [m4, Nat.zero_add] at e
  rw [List.length_append]
  exact e
theorem QM_layNumber {cnt : Nat} {x : Int64} {msg : List UInt8} (X : Cx G F W) (h : isM W) (hn : cnt ≤ 8) (hm : mMass (S 13 0) msg) (hc : msg.length + cnt ≤ 33100) : ∃ o, P_X13_layNumber G F (W.ad (.o 13 0)) x (Int32.ofNat cnt) (mem W S) = some (mem W (S.so 13 0 o)) ∧ mMass o (msg ++ beL cnt x) ∧ agr [37] [] [36] [] (S 13 0) o := by
  obtain ⟨m1, m2, γ, m3, m4⟩ := hm
  unfold P_X13_layNumber
  rw [h.gR 36 rfl (by decide), bO_s, h.gI 37 rfl, bO_s, m1, QM_put X h rfl (by decide) (show msg.length + cnt ≤ 33100 from hc) hn m3, bO_s, gI h.lo rfl, bO_s, sA_f, m1, n_add, pI h.lo rfl, bO_s]
  refine ⟨_, rfl, ⟨by rw [sf_f, if_pos rfl]; simp [beL_len], by simp [beL_len]; omega, _, mB_sA _ _ _, ?_⟩, (agr_sA (by decide)).trans (agr_sf (by decide))⟩
  have e := rdB_app γ 0 (beL cnt x) msg.length
  rw [m4, Nat.zero_add] at e
  rw [List.length_append]
  exact e
end MDIG
