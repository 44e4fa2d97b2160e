/-! THE FIELD OF SEALED CONTENT: the model -/
theorem xor_add {a b k : Nat} (hb : b < 2 ^ k) : a * 2 ^ k ^^^ b = a * 2 ^ k + b := by
  rw [← or_add hb]
  apply Nat.eq_of_testBit_eq
  intro i
  rw [Nat.testBit_xor, Nat.testBit_or]
  by_cases hi : i < k
  · have hz : (a * 2 ^ k).testBit i = false := by
      rw [Nat.mul_comm, Nat.testBit_two_pow_mul]
      simp
      omega
    rw [hz]
    simp
  · have hz : b.testBit i = false := Nat.testBit_lt_two_pow (Nat.lt_of_lt_of_le hb (Nat.pow_le_pow_right (by decide) (by omega)))
    rw [hz]
    simp
theorem beN_zero (xs : List UInt8) : ∀ m, beN (xs ++ List.replicate m 0) = beN xs * 2 ^ (8 * m) := by
  intro m
  induction m with
  | zero => rw [List.replicate_zero, List.append_nil, Nat.mul_zero, Nat.pow_zero, Nat.mul_one]
  | succ m ih =>
    rw [List.replicate_succ', ← List.append_assoc, beN_snoc, ih, show 8 * (m + 1) = 8 * m + 8 by omega, Nat.pow_add]
    show 256 * (beN xs * 2 ^ (8 * m)) + 0 = _
    rw [Nat.add_zero, Nat.mul_comm 256, Nat.mul_assoc]
theorem rdB_snoc (β : Nat → UInt8) (p k : Nat) : rdB β p (k + 1) = rdB β p k ++ [β (p + k)] := by
  unfold rdB
  rw [List.range_succ, List.map_append]
  rfl
/-- the first 8 and the next 8 of what was padded -/
theorem pad_hi {β : Nat → UInt8} {p n : Nat} (hn : n ≤ 16) : hi8 (pad16 (rdB β p n)) = Int64.ofNat (beN (rdB β p (min n 8)) * 2 ^ (64 - 8 * min n 8)) := by
  unfold hi8
  have e : (pad16 (rdB β p n)).take 8 = rdB β p (min n 8) ++ List.replicate (8 - min n 8) 0 := by
    apply List.ext_getElem?
    intro j
    by_cases hj : j < 8
    · rw [List.getElem?_take_of_lt hj]
      have e1 : (pad16 (rdB β p n))[j]? = some ((rdB β p n).getD j 0) := by
        unfold pad16 m16
        simp [show j < 16 by omega]
      rw [e1]
      by_cases hjn : j < n
      · rw [List.getElem?_append_left (by rw [rdB_len]; omega), rdB_at (by omega), List.getD_eq_getElem?_getD, rdB_at hjn]
        rfl
      · rw [List.getElem?_append_right (by rw [rdB_len]; omega), rdB_len, List.getElem?_replicate, if_pos (by omega), List.getD_eq_getElem?_getD, List.getElem?_eq_none (by rw [rdB_len]; omega)]
        rfl
    · rw [List.getElem?_eq_none (by rw [List.length_take]; omega), List.getElem?_eq_none (by rw [List.length_append, rdB_len, List.length_replicate]; omega)]
  rw [e, beN_zero, show 8 * (8 - min n 8) = 64 - 8 * min n 8 by omega]
theorem pad_lo {β : Nat → UInt8} {p n : Nat} (hn : n ≤ 16) : lo8L (pad16 (rdB β p n)) = Int64.ofNat (beN (rdB β (p + 8) (n - 8)) * 2 ^ (64 - 8 * (n - 8))) := by
  unfold lo8L
  have e : ((pad16 (rdB β p n)).drop 8).take 8 = rdB β (p + 8) (n - 8) ++ List.replicate (8 - (n - 8)) 0 := by
    apply List.ext_getElem?
    intro j
    by_cases hj : j < 8
    · rw [List.getElem?_take_of_lt hj, List.getElem?_drop]
      have e1 : (pad16 (rdB β p n))[8 + j]? = some ((rdB β p n).getD (8 + j) 0) := by
        unfold pad16 m16
        simp [show 8 + j < 16 by omega]
      rw [e1]
      by_cases hjn : 8 + j < n
      · rw [List.getElem?_append_left (by rw [rdB_len]; omega), rdB_at (by omega), List.getD_eq_getElem?_getD, rdB_at hjn]
        show some (β (p + (8 + j))) = _
        rw [Nat.add_assoc]
      · rw [List.getElem?_append_right (by rw [rdB_len]; omega), rdB_len, List.getElem?_replicate, if_pos (by omega), List.getD_eq_getElem?_getD, List.getElem?_eq_none (by rw [rdB_len]; omega)]
        rfl
    · rw [List.getElem?_eq_none (by simp; omega), List.getElem?_eq_none (by rw [List.length_append, rdB_len, List.length_replicate]; omega)]
  rw [e, beN_zero, show 8 * (8 - (n - 8)) = 64 - 8 * (n - 8) by omega]
/-- one byte more comes into a long -/
theorem byte_in {x : Int64} {A k : Nat} {y : UInt8} (hk : k < 8) : (x ^^^ Int64.ofNat (A * 2 ^ (64 - 8 * k))) ^^^ shlL (Int64.ofNat y.toNat) (Int32.ofNat (56 - 8 * k)) = x ^^^ Int64.ofNat ((256 * A + y.toNat) * 2 ^ (64 - 8 * (k + 1))) := by
  have hy := y.toNat_lt
  have e1 : 64 - 8 * k = (56 - 8 * k) + 8 := by omega
  have e2 : 64 - 8 * (k + 1) = 56 - 8 * k := by omega
  have hlt : y.toNat * 2 ^ (56 - 8 * k) < 2 ^ (64 - 8 * k) := by
    rw [e1, Nat.pow_add, Nat.mul_comm]
    exact Nat.mul_lt_mul_of_pos_left hy (Nat.pow_pos (by decide))
  rw [l_shl (by omega), Int64.xor_assoc, l_xor, xor_add hlt, e1, e2, Nat.pow_add]
  congr 2
  generalize 2 ^ (56 - 8 * k) = P
  rw [Nat.add_mul, ← Nat.mul_assoc, Nat.mul_right_comm A P, Nat.mul_comm A]
section MGF
variable {W : WR} {G : mG} {F : Nat}
theorem bit_and {x : Int64} {s : Nat} (hs : s < 64) : (lg_cmp (ushL x (Int32.ofNat s) &&& 1) 1 = 0) ↔ (L2n x).testBit s = true := by
  rw [lg0, ushL_n hs, show (1 : Int64) = Int64.ofNat 1 from rfl, l_and, Nat.and_one_is_mod, Nat.testBit_eq_decide_div_mod_eq]
  have e : x.toUInt64.toNat = L2n x := rfl
  rw [e]
  have : L2n x / 2 ^ s % 2 = 0 ∨ L2n x / 2 ^ s % 2 = 1 := by omega
  rcases this with h | h
  · rw [h]
    exact ⟨fun q => absurd q (by decide), fun q => absurd (of_decide_eq_true q) (by decide)⟩
  · rw [h]
    exact ⟨fun _ => rfl, fun _ => rfl⟩
theorem X_bit {a b : Int64} {k : Nat} (hk : k < 128) : (L2n a * 2 ^ 64 + L2n b).testBit (127 - k) = if k < 64 then (L2n a).testBit (63 - k) else (L2n b).testBit (127 - k) := by
  have hb := L2n_lt b
  rw [← or_add hb, Nat.testBit_or, Nat.mul_comm, Nat.testBit_two_pow_mul]
  by_cases h : k < 64
  · rw [if_pos h]
    have hz : (L2n b).testBit (127 - k) = false := Nat.testBit_lt_two_pow (Nat.lt_of_lt_of_le hb (Nat.pow_le_pow_right (by decide) (by omega)))
    rw [hz, decide_eq_true (show 127 - k ≥ 64 by omega), show 127 - k - 64 = 63 - k by omega]
    simp
  · rw [if_neg h, decide_eq_false (show ¬ 127 - k ≥ 64 by omega)]
    simp
theorem QM_ga_b {hi lo : Int64} (h : isM W) : ∀ (m k n : Nat) (S : ST) (v z : Int64 × Int64), m < n → k + m = 128 → B_X13_gather_103 G F n (W.ad (.o 13 0)) hi lo z.1 z.2 v.1 v.2 (Int32.ofNat k) (mem W S) = some (mem W (S.so 13 0 (((S 13 0).sg 53 (gmul (L2n hi * 2 ^ 64 + L2n lo) m k v z).1).sg 54 (gmul (L2n hi * 2 ^ 64 + L2n lo) m k v z).2))) := by
  intro m
  induction m with
  | zero =>
    intro k n S v z hn hk
    obtain ⟨n, rfl⟩ : ∃ q, n = q + 1 := ⟨n - 1, by omega⟩
    obtain rfl : k = 128 := by omega
    rw [B_X13_gather_103, if_pos (by decide), pfL_m h.lo rfl, bO_s, pL h.lo rfl, bO_s]
    rfl
  | succ m ih =>
    intro k n S v z hn hk
    obtain ⟨n, rfl⟩ : ∃ q, n = q + 1 := ⟨n - 1, by omega⟩
    have xb := X_bit (a := hi) (b := lo) (k := k) (by omega)
    have t199 : ∀ (z : Int64 × Int64) (sk : Int32), (sk = if v.2 &&& 1 = 0 then 0 else 1) → B_X13_gather_199 G F (B_X13_gather_103 G F n) (W.ad (.o 13 0)) hi lo z.1 z.2 v.1 v.2 (Int32.ofNat k) sk (mem W S) = B_X13_gather_103 G F n (W.ad (.o 13 0)) hi lo z.1 z.2 (vst v).1 (vst v).2 (Int32.ofNat (k + 1)) (mem W S) := by
      intro z sk hsk
      unfold B_X13_gather_199 vst
      rw [n_addL k 1]
      by_cases h0 : v.2 &&& 1 = 0
      · rw [if_pos h0] at hsk
        rw [if_pos hsk]
        simp only [h0, if_true]
      · rw [if_neg h0] at hsk
        rw [if_neg (by rw [hsk]; decide)]
        simp only [h0, if_false]
    have one_ : (lg_cmp (v.2 &&& 1) 1 = 0) ↔ ¬ v.2 &&& 1 = 0 := by
      rw [lg0]
      rcases and1_t v.2 with q | q
      · rw [q]
        exact ⟨fun z => absurd z (by decide), fun z => absurd rfl z⟩
      · rw [q]
        exact ⟨fun _ => by decide, fun _ => rfl⟩
    have t166 : ∀ (b : Bool) (z1 : Int64), z1 = (if b then z.1 ^^^ v.1 else z.1) → B_X13_gather_166 G F (B_X13_gather_103 G F n) (W.ad (.o 13 0)) hi lo z.2 v.1 v.2 (Int32.ofNat k) (if b then 1 else 0) z1 (mem W S) = B_X13_gather_103 G F n (W.ad (.o 13 0)) hi lo (if b then (z.1 ^^^ v.1, z.2 ^^^ v.2) else z).1 (if b then (z.1 ^^^ v.1, z.2 ^^^ v.2) else z).2 (vst v).1 (vst v).2 (Int32.ofNat (k + 1)) (mem W S) := by
      intro b z1 hz1
      unfold B_X13_gather_166
      cases b with
      | false =>
        rw [if_pos (by rfl)]
        have hz : z1 = z.1 := hz1
        rw [hz]
        by_cases h0 : v.2 &&& 1 = 0
        · rw [if_neg (fun q => (one_.mp q) h0)]
          exact t199 z 0 (by rw [if_pos h0])
        · rw [if_pos (one_.mpr h0)]
          exact t199 z 1 (by rw [if_neg h0])
      | true =>
        rw [if_neg (by decide)]
        have hz : z1 = z.1 ^^^ v.1 := hz1
        rw [hz]
        by_cases h0 : v.2 &&& 1 = 0
        · rw [if_neg (fun q => (one_.mp q) h0)]
          exact t199 (z.1 ^^^ v.1, z.2 ^^^ v.2) 0 (by rw [if_pos h0])
        · rw [if_pos (one_.mpr h0)]
          exact t199 (z.1 ^^^ v.1, z.2 ^^^ v.2) 1 (by rw [if_neg h0])
    have t137 : ∀ sk : Int64, (lg_cmp (sk &&& 1) 1 = 0 ↔ (L2n hi * 2 ^ 64 + L2n lo).testBit (127 - k) = true) → B_X13_gather_137 G F (B_X13_gather_103 G F n) (W.ad (.o 13 0)) hi lo z.1 z.2 v.1 v.2 (Int32.ofNat k) sk (mem W S) = B_X13_gather_103 G F n (W.ad (.o 13 0)) hi lo (if (L2n hi * 2 ^ 64 + L2n lo).testBit (127 - k) then (z.1 ^^^ v.1, z.2 ^^^ v.2) else z).1 (if (L2n hi * 2 ^ 64 + L2n lo).testBit (127 - k) then (z.1 ^^^ v.1, z.2 ^^^ v.2) else z).2 (vst v).1 (vst v).2 (Int32.ofNat (k + 1)) (mem W S) := by
      intro sk hsk
      unfold B_X13_gather_137
      cases hb : (L2n hi * 2 ^ 64 + L2n lo).testBit (127 - k) with
      | false =>
        rw [if_neg (fun q => absurd (hsk.mp q) (by rw [hb]; decide)), if_pos rfl]
        exact t166 false _ rfl
      | true =>
        rw [if_pos (hsk.mpr hb), if_neg (by decide)]
        exact t166 true _ rfl
    rw [B_X13_gather_103, if_neg (by rw [lit 128]; exact fun q => absurd ((n_le (by omega) (by omega)).mp q) (by omega)), gmul]
    by_cases h64 : 64 ≤ k
    · rw [if_pos (by rw [lit 64]; exact (n_le (by omega) (by omega)).mpr h64), show (127 : Int32) - (Int32.ofNat k) = (Int32.ofNat (127 - k)) from n_sub (a := 127) (by omega), t137 _ (by rw [bit_and (by omega), xb, if_neg (by omega)])]
      exact ih (k + 1) n S _ _ (by omega) (by omega)
    · rw [if_neg (by rw [lit 64]; exact fun q => h64 ((n_le (by omega) (by omega)).mp q)), show (63 : Int32) - (Int32.ofNat k) = (Int32.ofNat (63 - k)) from n_sub (a := 63) (by omega), t137 _ (by rw [bit_and (by omega), xb, if_pos (by omega)])]
      exact ih (k + 1) n S _ _ (by omega) (by omega)
theorem QM_ga_a {S : ST} {k p n : Nat} {β : Nat → UInt8} {H Y : Int64 × Int64} (X : Cx G F W) (h : isM W) (q : (kdA 13)[k]? = some 1) (hl : mLen k < 2 ^ 30) (hb : p + n ≤ mLen k) (hn : n ≤ 16) (hβ : mB (S 13 0) k β) (h5 : (S 13 0).g 55 = H.1) (h6 : (S 13 0).g 56 = H.2) : ∀ (m j n' : Nat), m < n' → j + m = n → B_X13_gather_15 G F n' (W.ad (.o 13 0)) (W.ad (.a 13 0 k)) (Int32.ofNat p) (Int32.ofNat n) (Y.1 ^^^ Int64.ofNat (beN (rdB β p (min j 8)) * 2 ^ (64 - 8 * min j 8))) (Y.2 ^^^ Int64.ofNat (beN (rdB β (p + 8) (j - 8)) * 2 ^ (64 - 8 * (j - 8)))) (Int32.ofNat j) (mem W S) = some (mem W (S.so 13 0 (((S 13 0).sg 53 (gst H Y (hi8 (pad16 (rdB β p n))) (lo8L (pad16 (rdB β p n)))).1).sg 54 (gst H Y (hi8 (pad16 (rdB β p n))) (lo8L (pad16 (rdB β p n)))).2))) := by
  have hF := X.hF
  intro m
  induction m with
  | zero =>
    intro j n' hn' hj
    obtain ⟨n', rfl⟩ : ∃ q, n' = q + 1 := ⟨n' - 1, by omega⟩
    obtain rfl : j = n := by omega
    rw [B_X13_gather_15, if_pos ((n_le (by omega) (by omega)).mpr (Nat.le_refl _)), gfL_m h.lo rfl, bO_s, gfL_m h.lo rfl, bO_s, h5, h6, ← pad_hi hn, ← pad_lo hn]
    exact QM_ga_b (hi := Y.1 ^^^ hi8 (pad16 (rdB β p j))) (lo := Y.2 ^^^ lo8L (pad16 (rdB β p j))) h 128 0 F S H (0, 0) (by omega) rfl
  | succ m ih =>
    intro j n' hn' hj
    obtain ⟨n', rfl⟩ : ∃ q, n' = q + 1 := ⟨n' - 1, by omega⟩
    have h8 : (8 : Int32) * (Int32.ofNat j) = (Int32.ofNat (8 * j)) := n_mul 8 j
    rw [B_X13_gather_15, if_neg (fun q => absurd ((n_le (by omega) (by omega)).mp q) (by omega)), n_add, h.aB q hβ (by omega) (by omega), bO_s, sb_and64, h8]
    have := ih (j + 1) n' (by omega) (by omega)
    by_cases c8 : 8 ≤ j
    · rw [if_pos (by rw [lit 8]; exact (n_le (by omega) (by omega)).mpr c8), show (120 : Int32) - (Int32.ofNat (8 * j)) = (Int32.ofNat (56 - 8 * (j - 8))) from (n_sub (a := 120) (by omega)).trans (by rw [show 120 - 8 * j = 56 - 8 * (j - 8) by omega]), byte_in (by omega), n_addL j 1]
      rw [show min (j + 1) 8 = 8 by omega, show j + 1 - 8 = (j - 8) + 1 by omega, rdB_snoc β (p + 8) (j - 8), beN_snoc, show p + 8 + (j - 8) = p + j by omega] at this
      rw [show min j 8 = 8 by omega]
      exact this
    · rw [if_neg (by rw [lit 8]; exact fun q => c8 ((n_le (by omega) (by omega)).mp q)), show (56 : Int32) - (Int32.ofNat (8 * j)) = (Int32.ofNat (56 - 8 * j)) from n_sub (a := 56) (by omega), show min j 8 = j by omega, byte_in (by omega), n_addL j 1]
      rw [show min (j + 1) 8 = j + 1 by omega, show j + 1 - 8 = 0 by omega, rdB_snoc β p j, beN_snoc] at this
      rw [show j - 8 = 0 by omega]
      exact this
theorem QM_gather {S : ST} {k p n : Nat} {β : Nat → UInt8} {H Y : Int64 × Int64} (X : Cx G F W) (h : isM W) (q : (kdA 13)[k]? = some 1) (hl : mLen k < 2 ^ 30) (hb : p + n ≤ mLen k) (hn : n ≤ 16) (hβ : mB (S 13 0) k β) (h5 : (S 13 0).g 55 = H.1) (h6 : (S 13 0).g 56 = H.2) (h3 : (S 13 0).g 53 = Y.1) (h4 : (S 13 0).g 54 = Y.2) : P_X13_gather G F (W.ad (.o 13 0)) (W.ad (.a 13 0 k)) (Int32.ofNat p) (Int32.ofNat n) (mem W S) = some (mem W (S.so 13 0 (((S 13 0).sg 53 (gst H Y (hi8 (pad16 (rdB β p n))) (lo8L (pad16 (rdB β p n)))).1).sg 54 (gst H Y (hi8 (pad16 (rdB β p n))) (lo8L (pad16 (rdB β p n)))).2))) := by
  have hF := X.hF
  unfold P_X13_gather
  rw [gfL_m h.lo rfl, bO_s, gfL_m h.lo rfl, bO_s, h3, h4]
  have e := QM_ga_a (G := G) (F := F) (Y := Y) X h q hl hb hn hβ h5 h6 n 0 F (by omega) (by omega)
  have z1 : Y.1 ^^^ Int64.ofNat (beN (rdB β p (min 0 8)) * 2 ^ (64 - 8 * min 0 8)) = Y.1 := by
    have : beN (rdB β p (min 0 8)) = 0 := rfl
    rw [this, Nat.zero_mul]
    exact Int64.xor_zero
  have z2 : Y.2 ^^^ Int64.ofNat (beN (rdB β (p + 8) (0 - 8)) * 2 ^ (64 - 8 * (0 - 8))) = Y.2 := by
    have : beN (rdB β (p + 8) (0 - 8)) = 0 := rfl
    rw [this, Nat.zero_mul]
    exact Int64.xor_zero
  rw [z1, z2] at e
  exact e
abbrev mGS (o : Ob) (H Y : Int64 × Int64) : Prop := o.g 55 = H.1 ∧ o.g 56 = H.2 ∧ o.g 53 = Y.1 ∧ o.g 54 = Y.2
theorem QM_gall_l {k p N : Nat} {β : Nat → UInt8} {H : Int64 × Int64} (X : Cx G F W) (h : isM W) (q : (kdA 13)[k]? = some 1) (hl : mLen k < 2 ^ 30) (hb : p + N ≤ mLen k) (hN : N < 90000) : ∀ (m b n : Nat) (S : ST) (o : Ob) (Y : Int64 × Int64), m < n → b + m = (N + 15) / 16 → mB o k β → mGS o H Y → ∃ o', B_X13_gatherAll_3 G F n (W.ad (.o 13 0)) (W.ad (.a 13 0 k)) (Int32.ofNat p) (Int32.ofNat N) (Int32.ofNat (16 * b)) (mem W (S.so 13 0 o)) = some (mem W (S.so 13 0 o')) ∧ agr [] [53, 54] [] [] o o' ∧ mGS o' H (gall H m Y ((rdB β p N).drop (16 * b))) := by
  intro m
  induction m with
  | zero =>
    intro b n S o Y hn hbm hβ hg
    obtain ⟨n, rfl⟩ : ∃ q, n = q + 1 := ⟨n - 1, by omega⟩
    rw [B_X13_gatherAll_3, if_pos ((n_le (by omega) (by omega)).mpr (by omega))]
    exact ⟨o, rfl, agr.refl _ _ _ _ _, hg⟩
  | succ m ih =>
    intro b n S o Y hn hbm hβ hg
    obtain ⟨n, rfl⟩ : ∃ q, n = q + 1 := ⟨n - 1, by omega⟩
    have go : ∀ c, c = min 16 (N - 16 * b) → ∃ o', (bO (rcv (mem W (S.so 13 0 o)) (W.ad (.o 13 0)) 13) fun _ => bO (P_X13_gather G F (W.ad (.o 13 0)) (W.ad (.a 13 0 k)) (Int32.ofNat (p + 16 * b)) (Int32.ofNat c) (mem W (S.so 13 0 o))) fun M33 => B_X13_gatherAll_3 G F n (W.ad (.o 13 0)) (W.ad (.a 13 0 k)) (Int32.ofNat p) (Int32.ofNat N) ((Int32.ofNat (16 * b)) + 16) M33) = some (mem W (S.so 13 0 o')) ∧ agr [] [53, 54] [] [] o o' ∧ mGS o' H (gall H (m + 1) Y ((rdB β p N).drop (16 * b))) := by
      intro c hc
      have eb : pad16 (rdB β (p + 16 * b) c) = pad16 ((rdB β p N).drop (16 * b)) := by
        unfold pad16
        apply m16_congr
        intro j hj
        rw [List.getD_eq_getElem?_getD, List.getD_eq_getElem?_getD, List.getElem?_drop]
        by_cases hjc : j < c
        · rw [rdB_at hjc, rdB_at (by omega), Nat.add_assoc]
        · rw [List.getElem?_eq_none (by rw [rdB_len]; omega), List.getElem?_eq_none (by rw [rdB_len]; omega)]
      have e := QM_gather (S := S.so 13 0 o) (k := k) (p := p + 16 * b) (n := c) (H := H) (Y := Y) X h q hl (by omega) (by omega) (by rw [so_eq]; exact hβ) (by rw [so_eq]; exact hg.1) (by rw [so_eq]; exact hg.2.1) (by rw [so_eq]; exact hg.2.2.1) (by rw [so_eq]; exact hg.2.2.2)
      rw [eb, so_so, so_eq] at e
      rw [rcv_m h.lo, bO_s, e, bO_s, n_addL _ 16, show 16 * b + 16 = 16 * (b + 1) by omega]
      obtain ⟨Y', hY'⟩ : ∃ Y', Y' = gst H Y (hi8 (pad16 ((rdB β p N).drop (16 * b)))) (lo8L (pad16 ((rdB β p N).drop (16 * b)))) := ⟨_, rfl⟩
      rw [← hY']
      have ag : agr [] [53, 54] [] [] o ((o.sg 53 Y'.1).sg 54 Y'.2) := by
        refine ⟨fun _ _ => rfl, fun k hk => ?_, fun _ _ => rfl, fun _ _ => rfl, rfl⟩
        rw [sg_g, if_neg (by intro e; rw [e] at hk; exact hk (by decide)), sg_g, if_neg (by intro e; rw [e] at hk; exact hk (by decide))]
      obtain ⟨o', g1, g2, g3⟩ := ih (b + 1) n S ((o.sg 53 Y'.1).sg 54 Y'.2) Y' (by omega) (by omega) (ag.mB hβ (by simp)) ⟨by rw [ag.2.1 55 (by decide)]; exact hg.1, by rw [ag.2.1 56 (by decide)]; exact hg.2.1, by rw [sg_g, if_neg (by decide), sg_g, if_pos rfl], by rw [sg_g, if_pos rfl]⟩
      refine ⟨o', g1, ag.trans g2, ?_⟩
      rw [gall, List.drop_drop, ← hY']
      exact g3
    rw [B_X13_gatherAll_3, if_neg (fun q => absurd ((n_le (by omega) (by omega)).mp q) (by omega)), n_sub (by omega), n_add]
    by_cases h16 : 16 ≤ N - 16 * b
    · rw [if_pos (by rw [lit 16]; exact (n_le (by omega) (by omega)).mpr h16)]
      exact go 16 (by omega)
    · rw [if_neg (by rw [lit 16]; exact fun q => h16 ((n_le (by omega) (by omega)).mp q))]
      exact go (N - 16 * b) (by omega)
theorem QM_gatherAll {S : ST} {o : Ob} {k p N : Nat} {β : Nat → UInt8} {H Y : Int64 × Int64} (X : Cx G F W) (h : isM W) (q : (kdA 13)[k]? = some 1) (hl : mLen k < 2 ^ 30) (hb : p + N ≤ mLen k) (hN : N < 90000) (hβ : mB o k β) (hg : mGS o H Y) : ∃ o', P_X13_gatherAll G F (W.ad (.o 13 0)) (W.ad (.a 13 0 k)) (Int32.ofNat p) (Int32.ofNat N) (mem W (S.so 13 0 o)) = some (mem W (S.so 13 0 o')) ∧ agr [] [53, 54] [] [] o o' ∧ mGS o' H (gall H ((N + 15) / 16) Y (rdB β p N)) := by
  have hF := X.hF
  obtain ⟨o', g1, g2, g3⟩ := QM_gall_l X h q hl hb hN ((N + 15) / 16) 0 F S o Y (by omega) (by omega) hβ hg
  rw [Nat.mul_zero] at g1
  rw [Nat.mul_zero, List.drop_zero] at g3
  exact ⟨o', g1, g2, g3⟩
end MGF
