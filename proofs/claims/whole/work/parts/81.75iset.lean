/-! THE MODEL'S MODULUS: load, store, reduce, set, into, outOf, power -/
theorem mod4 {n : Nat} (h : n < 2 ^ 30) : (Int32.ofNat n) - (Int32.ofNat n) / (4 : Int32) * (4 : Int32) = (Int32.ofNat (n % 4)) := by
  have := n_rem (a := n) (b := 4) (by omega) (by decide) (by decide)
  unfold rmI at this
  rw [if_neg (by decide)] at this
  exact Option.some.inj this
theorem mod8 {n : Nat} (h : n < 2 ^ 30) : (Int32.ofNat n) - (Int32.ofNat n) / (8 : Int32) * (8 : Int32) = (Int32.ofNat (n % 8)) := by
  have := n_rem (a := n) (b := 8) (by omega) (by decide) (by decide)
  unfold rmI at this
  rw [if_neg (by decide)] at this
  exact Option.some.inj this
theorem sbit_t : ∀ n, n < 256 → ∀ s, s < 8 → (decide (((sb (UInt8.ofNat n) >>> (((7 : Int32) - (Int32.ofNat s)) &&& 31)) &&& (1 : Int32)) = (1 : Int32)) = decide (n / 2 ^ (7 - s) % 2 = 1)) := by decide +kernel
theorem sbit (y : UInt8) {s : Nat} (hs : s < 8) : ((sb y >>> (((7 : Int32) - (Int32.ofNat s)) &&& 31)) &&& (1 : Int32)) = (1 : Int32) ↔ y.toNat / 2 ^ (7 - s) % 2 = 1 := by
  have := sbit_t y.toNat y.toNat_lt s hs
  rw [UInt8.ofNat_toNat] at this
  exact decide_eq_decide.mp this
/-- a number by its bits -/
def eB (ys : List UInt8) : Nat → Nat
  | 0 => 0
  | k + 1 => 2 * eB ys k + (if bitA ys k then 1 else 0)
theorem eB_8 (ys : List UInt8) (j : Nat) : eB ys (8 * j + 8) = 256 * eB ys (8 * j) + gN ys j := by
  have hb := gN_lt ys j
  have q : ∀ r, r < 8 → (if bitA ys (8 * j + r) then 1 else 0) = gN ys j / 2 ^ (7 - r) % 2 := by
    intro r hr
    unfold bitA
    rw [show (8 * j + r) / 8 = j by omega, show (8 * j + r) % 8 = r by omega]
    by_cases c : gN ys j / 2 ^ (7 - r) % 2 = 1
    · rw [decide_eq_true c, if_pos rfl, c]
    · rw [decide_eq_false c, if_neg (by decide)]; omega
  show 2 * (2 * (2 * (2 * (2 * (2 * (2 * (2 * eB ys (8 * j) + (if bitA ys (8 * j) then 1 else 0)) + (if bitA ys (8 * j + 1) then 1 else 0)) + (if bitA ys (8 * j + 2) then 1 else 0)) + (if bitA ys (8 * j + 3) then 1 else 0)) + (if bitA ys (8 * j + 4) then 1 else 0)) + (if bitA ys (8 * j + 5) then 1 else 0)) + (if bitA ys (8 * j + 6) then 1 else 0)) + (if bitA ys (8 * j + 7) then 1 else 0) = _
  have q0 := q 0 (by omega)
  rw [Nat.add_zero] at q0
  rw [q0, q 1 (by omega), q 2 (by omega), q 3 (by omega), q 4 (by omega), q 5 (by omega), q 6 (by omega), q 7 (by omega)]
  generalize gN ys j = b at *
  show 2 * (2 * (2 * (2 * (2 * (2 * (2 * (2 * eB ys (8 * j) + b / 128 % 2) + b / 64 % 2) + b / 32 % 2) + b / 16 % 2) + b / 8 % 2) + b / 4 % 2) + b / 2 % 2) + b / 1 % 2 = _
  omega
theorem eB_take (ys : List UInt8) : ∀ j, j ≤ ys.length → eB ys (8 * j) = beN (ys.take j)
  | 0, _ => by rw [List.take_zero]; rfl
  | j + 1, h => by
    have e : gN ys j = (ys[j]'(by omega)).toNat := by
      unfold gN
      rw [List.getD_eq_getElem?_getD, List.getElem?_eq_getElem (by omega)]
      rfl
    rw [show 8 * (j + 1) = 8 * j + 8 by omega, eB_8, eB_take ys j (by omega), List.take_succ_eq_append_getElem (by omega), beN_snoc, e]
theorem eB_beN (ys : List UInt8) : eB ys (8 * ys.length) = beN ys := by rw [eB_take ys _ (Nat.le_refl _), List.take_length]
theorem wrB_cons (β : Nat → UInt8) (p : Nat) (b : UInt8) (ys : List UInt8) : va_up (wrB β (p + 1) ys) p b = wrB β p (b :: ys) := by
  funext j
  unfold va_up wrB
  rw [List.length_cons]
  by_cases c : j = p
  · rw [if_pos c, if_pos (by omega), c, Nat.sub_self]
    rfl
  · rw [if_neg c]
    by_cases c2 : p + 1 ≤ j ∧ j < p + 1 + ys.length
    · rw [if_pos c2, if_pos (by omega), show j - p = (j - (p + 1)) + 1 by omega]
      rfl
    · rw [if_neg c2, if_neg (by omega)]
theorem tw_okg {m m0 : Nat} {x : Int} (hm : m % 4294967296 = m0) (hx : (1 - (m0 : Int) * x) % 4294967296 = 0) : ((-x) % 4294967296).toNat < 4294967296 ∧ (((-x) % 4294967296).toNat * m + 1) % 4294967296 = 0 := by
  refine ⟨by omega, ?_⟩
  have e : ((((-x) % 4294967296).toNat * m + 1 : Nat) : Int) % 4294967296 = 0 := by
    rw [Int.natCast_add, Int.natCast_mul, Int.toNat_of_nonneg (by omega), Int.add_emod, Int.mul_emod, Int.emod_emod_of_dvd _ (Int.dvd_refl _), show (m : Int) % 4294967296 = (m0 : Int) by omega, show (m0 : Int) = (m0 : Int) % 4294967296 by omega, ← Int.mul_emod, ← Int.add_emod, Int.neg_mul, Int.mul_comm x]
    show (-(m0 * x) + 1) % 4294967296 = 0
    omega
  omega
theorem i_ofI (a : Int) : Int32.ofInt a = (Int32.ofNat (a % 4294967296).toNat) := by
  apply i_ext
  rw [Int32.toBitVec_ofInt, bv_of]
  apply BitVec.eq_of_toNat_eq
  rw [BitVec.toNat_ofInt, BitVec.toNat_ofNat]
  omega
section ISET
variable {W : WR} {G : mG} {F : Nat}
theorem mB_g {S : ST} {k : Nat} {β : Nat → UInt8} (h : mB (S 13 0) k β) (j : Nat) : igt S (.a 13 0 k) j = sb (β j) := by
  have := congrFun h j
  exact this
theorem Q12_ld27 {i n N kb p size : Nat} {to : Cl} {β : Nat → UInt8} (h : isM W) (qb : (kdA 13)[kb]? = some 1) (lb_ : mLen kb < 2 ^ 30) (ht : iok W to N) (hn : n ≤ 32) (hN : n ≤ N) (hp : p + size ≤ mLen kb) (hm : size ≤ 4 * n) (tb : (.a 13 0 kb : Cl) ≠ to) : ∀ (m j fuel : Nat) (S : ST), m < fuel → j + m = size → mB (S 13 0) kb β → ID (igt S to) n (dg (beN ((rdB β p size).drop (size - j)))) → ∃ S', B_X12_load_27 G F fuel (W.ad (.a 13 0 kb)) (Int32.ofNat p) (Int32.ofNat size) (W.ad to) (Int32.ofNat j) (mem W S) = some (mem W S') ∧ ifr [to] S S' ∧ ID (igt S' to) n (dg (beN (rdB β p size))) := by
  intro m
  induction m with
  | zero =>
    intro j fuel S hf hj hb hd
    obtain ⟨fuel, rfl⟩ : ∃ q, fuel = q + 1 := ⟨fuel - 1, by omega⟩
    obtain rfl : j = size := by omega
    rw [Nat.sub_self, List.drop_zero] at hd
    rw [B_X12_load_27, if_pos ((n_le (by omega) (by omega)).mpr (Nat.le_refl _))]
    exact ⟨S, rfl, ifr.refl _ _, hd⟩
  | succ m ih =>
    intro j fuel S hf hj hb hd
    obtain ⟨fuel, rfl⟩ : ∃ q, fuel = q + 1 := ⟨fuel - 1, by omega⟩
    have hsl := rdB_len β p size
    obtain ⟨x, hx⟩ : ∃ x, x = β (p + (size - 1 - j)) := ⟨_, rfl⟩
    have hdr : (rdB β p size).drop (size - (j + 1)) = x :: (rdB β p size).drop (size - j) := by
      have h1 : (rdB β p size)[size - 1 - j]? = some x := by rw [rdB_at (by omega), hx]
      have h2 := (List.getElem?_eq_some_iff.mp h1)
      rw [show size - (j + 1) = size - 1 - j by omega, List.drop_eq_getElem_cons (by omega), h2.2]
      congr 2
      omega
    have hdl : ((rdB β p size).drop (size - j)).length = j := by rw [List.length_drop, hsl]; omega
    have hv := beN_lt ((rdB β p size).drop (size - j))
    rw [hdl] at hv
    obtain ⟨v, hvd⟩ : ∃ v, v = beN ((rdB β p size).drop (size - j)) := ⟨_, rfl⟩
    rw [← hvd] at hd hv
    have hxl : x.toNat < 256 := x.toNat_lt
    have hdj := hd (j / 4) (by omega)
    have hlow := dg_low hv
    have hdgl : dg v (j / 4) < 256 ^ (j % 4) := by
      unfold dg
      exact Nat.lt_of_le_of_lt (Nat.mod_le _ _) hlow
    have e8 : (256 : Nat) ^ (j % 4) = 2 ^ (8 * (j % 4)) := by rw [Nat.pow_mul]
    have h4 := p256_4 (show j % 4 < 4 by omega)
    have hx2 : x.toNat * 256 ^ (j % 4) ≤ 255 * 256 ^ (j % 4) := Nat.mul_le_mul_right _ (by omega)
    have ev : igt S to (j / 4) ||| ((sb x &&& (255 : Int32)) <<< ((Int32.ofNat (8 * (j % 4))) &&& 31)) = (Int32.ofNat (dg v (j / 4) + x.toNat * 256 ^ (j % 4))) := by
      rw [hdj.1, sb_and, and31 (by omega)]
      unfold b32
      rw [n_shl (by omega), n_or]
      congr 1
      rw [Nat.or_comm, or_add (by rw [← e8]; exact hdgl), e8, Nat.add_comm]
    rw [B_X12_load_27, if_neg (fun q => absurd ((n_le (by omega) (by omega)).mp q) (by omega)), mod4 (by omega), show (Int32.ofNat j) / (4 : Int32) = (Int32.ofNat (j / 4)) from n_div (b := 4) (by omega) (by decide), ix_get ht (by omega), bO_s, n_add, n_subL 1 (by omega), n_sub (by omega), h.aB qb hb (by omega) (by omega), bO_s, show p + size - 1 - j = p + (size - 1 - j) by omega, ← hx, show (8 : Int32) * (Int32.ofNat (j % 4)) = (Int32.ofNat (8 * (j % 4))) from n_mul 8 _, ev, ix_set ht (by omega), bO_s, n_addL j 1]
    obtain ⟨S', g1, g2, g3⟩ := ih (j + 1) fuel (ist S to (upd (igt S to) (j / 4) (Int32.ofNat (dg v (j / 4) + x.toNat * 256 ^ (j % 4))))) (by omega) (by omega) ((ifr_ist (L := [to]) (by simp)).mB hb (by simpa using tb)) (by
      rw [hdr, beN_cons, hdl, ← hvd, igt_eq ht]
      intro t htn
      rw [dg_step hv hxl]
      by_cases c : t = j / 4
      · rw [if_pos c, c, upd_eq]
        exact ⟨rfl, by omega⟩
      · rw [if_neg c, upd_ne c]
        exact hd t htn)
    exact ⟨S', g1, (ifr_ist (by simp)).trans g2, g3⟩
theorem Q12_ld3 {i n N l1 : Nat} {l2 l3 : Int32} {to : Cl} (h : isMd W i) (ht : iok W to N) (hn : n ≤ 32) (hN : n ≤ N) : ∀ (m j fuel : Nat) (S : ST), m < fuel → j + m = n → (S 12 i).f 1 = (Int32.ofNat n) → (∀ t, t < j → igt S to t = 0) → ∃ S', B_X12_load_3 G F fuel (W.ad (.o 12 i)) l1 l2 l3 (W.ad to) (Int32.ofNat j) (mem W S) = B_X12_load_27 G F F l1 l2 l3 (W.ad to) 0 (mem W S') ∧ ifr [to] S S' ∧ ∀ t, t < n → igt S' to t = 0 := by
  intro m
  induction m with
  | zero =>
    intro j fuel S hf hj h0 hz
    obtain ⟨fuel, rfl⟩ : ∃ q, fuel = q + 1 := ⟨fuel - 1, by omega⟩
    rw [B_X12_load_3, h.gI, bO_s, h0, if_pos ((n_le (by omega) (by omega)).mpr (by omega))]
    exact ⟨S, rfl, ifr.refl _ _, fun t ht => hz t (by omega)⟩
  | succ m ih =>
    intro j fuel S hf hj h0 hz
    obtain ⟨fuel, rfl⟩ : ∃ q, fuel = q + 1 := ⟨fuel - 1, by omega⟩
    rw [B_X12_load_3, h.gI, bO_s, h0, if_neg (fun q => absurd ((n_le (by omega) (by omega)).mp q) (by omega)), ix_set ht (by omega), bO_s, n_addL j 1]
    obtain ⟨S', g1, g2, g3⟩ := ih (j + 1) fuel (ist S to (upd (igt S to) j 0)) (by omega) (by omega) (by rw [(ist_fgl _ _ _ _ _).1]; exact h0) (fun t h2 => by
      rw [igt_eq ht]
      by_cases c : t = j
      · rw [c, upd_eq]
      · rw [upd_ne c]; exact hz t (by omega))
    exact ⟨S', g1, (ifr_ist (by simp)).trans g2, g3⟩
theorem Q12_load {i n N kb p size : Nat} {S : ST} {to : Cl} {β : Nat → UInt8} (X : Cx G F W) (h : isM W) (hd : isMd W i) (qb : (kdA 13)[kb]? = some 1) (lb_ : mLen kb < 2 ^ 30) (ht : iok W to N) (hn : n ≤ 32) (hN : n ≤ N) (hp : p + size ≤ mLen kb) (hm : size ≤ 4 * n) (tb : (.a 13 0 kb : Cl) ≠ to) (h0 : (S 12 i).f 1 = (Int32.ofNat n)) (hb : mB (S 13 0) kb β) : ∃ S', P_X12_load G F (W.ad (.o 12 i)) (W.ad (.a 13 0 kb)) (Int32.ofNat p) (Int32.ofNat size) (W.ad to) (mem W S) = some (mem W S') ∧ ifr [to] S S' ∧ IV (igt S' to) n (beN (rdB β p size)) := by
  have hF := X.hF
  obtain ⟨S1, g1, g2, g3⟩ := Q12_ld3 (G := G) (F := F) (l1 := W.ad (.a 13 0 kb)) (l2 := (Int32.ofNat p)) (l3 := (Int32.ofNat size)) hd ht hn hN n 0 F S (by omega) (by omega) h0 (fun t ht => by omega)
  obtain ⟨S2, e1, e2, e3⟩ := Q12_ld27 (G := G) (F := F) (i := i) (n := n) (p := p) (size := size) (β := β) h qb lb_ ht hn hN hp hm tb size 0 F S1 (by omega) (by omega) (g2.mB hb (by simpa using tb)) (by
    rw [Nat.sub_zero, List.drop_eq_nil_of_le (by rw [rdB_len]; omega), beN_nil, dg_0]
    exact ID_zero g3)
  refine ⟨S2, ?_, g2.trans e2, e3.iv ?_⟩
  · unfold P_X12_load
    have g1' : B_X12_load_3 G F F (W.ad (.o 12 i)) (W.ad (.a 13 0 kb)) (Int32.ofNat p) (Int32.ofNat size) (W.ad to) 0 (mem W S) = _ := g1
    rw [g1']
    exact e1
  · have := beN_lt (rdB β p size)
    rw [rdB_len] at this
    refine Nat.lt_of_lt_of_le this ?_
    rw [← B_256]
    exact Nat.pow_le_pow_right (by decide) hm
theorem Q12_store_l {n N kb p size v : Nat} {x : Cl} {β : Nat → UInt8} (h : isM W) (qb : (kdA 13)[kb]? = some 1) (lb_ : mLen kb < 2 ^ 30) (hx : iok W x N) (hn : n ≤ 32) (hN : n ≤ N) (hp : p + size ≤ mLen kb) (hs : size ≤ 4 * n) (hxb : x ≠ .a 13 0 kb) : ∀ (m k fuel : Nat) (S : ST), m < fuel → k + m = size → ID (igt S x) n (dg v) → mB (S 13 0) kb (wrB β (p + size - k) (beV k v)) → B_X12_store_3 G F fuel (W.ad x) (W.ad (.a 13 0 kb)) (Int32.ofNat p) (Int32.ofNat size) (Int32.ofNat k) (mem W S) = some (mem W (ist S (.a 13 0 kb) (fun j => sb (wrB β p (beV size v) j)))) := by
  intro m
  induction m with
  | zero =>
    intro k fuel S hf hk hd hb
    obtain ⟨fuel, rfl⟩ : ∃ q, fuel = q + 1 := ⟨fuel - 1, by omega⟩
    obtain rfl : k = size := by omega
    rw [B_X12_store_3, if_pos ((n_le (by omega) (by omega)).mpr (Nat.le_refl _))]
    rw [Nat.add_sub_cancel] at hb
    have e : ist S (.a 13 0 kb) (fun j => sb (wrB β p (beV k v) j)) = S := by
      show S.so 13 0 ((S 13 0).sA kb (fun j => sb (wrB β p (beV k v) j))) = S
      have : (S 13 0).sA kb (fun j => sb (wrB β p (beV k v) j)) = S 13 0 := by
        refine Ob_ext rfl rfl ?_ rfl rfl
        funext k'
        rw [sA_at]
        split
        · rename_i q; rw [q]; exact hb.symm
        · rfl
      rw [this, so_self]
    rw [e]
  | succ m ih =>
    intro k fuel S hf hk hd hb
    obtain ⟨fuel, rfl⟩ : ∃ q, fuel = q + 1 := ⟨fuel - 1, by omega⟩
    have hdk := hd (k / 4) (by omega)
    have hlt := dg_lt v (k / 4)
    have ev : ((ushI (igt S x (k / 4)) (Int32.ofNat (8 * (k % 4)))).toInt8.toInt32).toInt8.toInt32 = sb (UInt8.ofNat (v / 256 ^ k)) := by
      have e : (igt S x (k / 4)).toUInt32.toNat = dg v (k / 4) := by
        rw [hdk.1]
        show ((Int32.ofNat (dg v (k / 4)))).toBitVec.toNat = _
        rw [bv_of, BitVec.toNat_ofNat, Nat.mod_eq_of_lt (by omega)]
      rw [ushI_n (by omega), e, sb_lo8, sb_lo8, lo8_sb, lo8_n]
      congr 1
      apply u8_eq
      have e8 : (2 : Nat) ^ (8 * (k % 4)) = 256 ^ (k % 4) := by rw [Nat.pow_mul]
      rw [e8, p256_split k, ← Nat.div_div_eq_div_mul]
      unfold dg
      generalize v / 4294967296 ^ (k / 4) = u
      have : k % 4 = 0 ∨ k % 4 = 1 ∨ k % 4 = 2 ∨ k % 4 = 3 := by omega
      rcases this with q | q | q | q <;> rw [q] <;> omega
    have hs' := h.sB (S := S) (j := p + size - 1 - k) (y := UInt8.ofNat (v / 256 ^ k)) qb hb (by omega) (by omega)
    have ew : va_up (wrB β (p + size - k) (beV k v)) (p + size - 1 - k) (UInt8.ofNat (v / 256 ^ k)) = wrB β (p + size - (k + 1)) (beV (k + 1) v) := by
      rw [show p + size - k = (p + size - 1 - k) + 1 by omega, wrB_cons, show p + size - (k + 1) = p + size - 1 - k by omega]
      rfl
    rw [ew] at hs'
    rw [B_X12_store_3, if_neg (fun q => absurd ((n_le (by omega) (by omega)).mp q) (by omega)), mod4 (by omega), show (Int32.ofNat k) / (4 : Int32) = (Int32.ofNat (k / 4)) from n_div (b := 4) (by omega) (by decide), ix_get hx (by omega), bO_s, show (8 : Int32) * (Int32.ofNat (k % 4)) = (Int32.ofNat (8 * (k % 4))) from n_mul 8 _, ev, n_add, n_subL 1 (by omega), n_sub (by omega), hs', bO_s, n_addL k 1]
    have := ih (k + 1) fuel (S.so 13 0 ((S 13 0).sA kb (fun j' => sb (wrB β (p + size - (k + 1)) (beV (k + 1) v) j')))) (by omega) (by omega) (by
      have e2 : igt (S.so 13 0 ((S 13 0).sA kb (fun j' => sb (wrB β (p + size - (k + 1)) (beV (k + 1) v) j')))) x = igt S x := igt_ne (x := .a 13 0 kb) hxb
      rw [e2]
      exact hd) (by rw [so_eq]; exact mB_sA _ _ _)
    rw [this]
    congr 2
    show (S.so 13 0 _).so 13 0 _ = _
    rw [so_so, so_eq, sA_sA]
    rfl
theorem Q12_store {n N kb p size v i : Nat} {S : ST} {x : Cl} {β : Nat → UInt8} (X : Cx G F W) (h : isM W) (qb : (kdA 13)[kb]? = some 1) (lb_ : mLen kb < 2 ^ 30) (hx : iok W x N) (hn : n ≤ 32) (hN : n ≤ N) (hp : p + size ≤ mLen kb) (hs : size ≤ 4 * n) (hxb : x ≠ .a 13 0 kb) (hd : IV (igt S x) n v) (hb : mB (S 13 0) kb β) : P_X12_store G F i (W.ad x) (W.ad (.a 13 0 kb)) (Int32.ofNat p) (Int32.ofNat size) (mem W S) = some (mem W (ist S (.a 13 0 kb) (fun j => sb (wrB β p (beV size v) j)))) := by
  have hF := X.hF
  exact Q12_store_l (G := G) (F := F) h qb lb_ hx hn hN hp hs hxb size 0 F S (by omega) (by omega) hd.dg (by
    rw [beV, wrB_nil]
    exact hb)
end ISET
