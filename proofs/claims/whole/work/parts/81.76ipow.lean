/-! THE MODEL'S MODULUS: reduce, set, into, outOf, power -/
theorem gN_rdB {β : Nat → UInt8} {p n j : Nat} (h : j < n) : gN (rdB β p n) j = (β (p + j)).toNat := by
  unfold gN
  rw [List.getD_eq_getElem?_getD, rdB_at h]
  rfl
theorem MdS.b {S : ST} {i n m : Nat} (h : MdS S i n m) : MdB S i n m := h.1
theorem MdS.tw {S : ST} {i n m : Nat} (h : MdS S i n m) : ∃ tw, (S 12 i).f 2 = (Int32.ofNat tw) ∧ tw < 4294967296 ∧ (tw * m + 1) % 4294967296 = 0 := h.2.1
theorem MdS.unit {S : ST} {i n m : Nat} (h : MdS S i n m) : IV (igt S (.a 12 i 3)) n (4294967296 ^ n % m) := h.2.2.1
theorem MdS.sq {S : ST} {i n m : Nat} (h : MdS S i n m) : IV (igt S (.a 12 i 4)) n (4294967296 ^ n * 4294967296 ^ n % m) := h.2.2.2
theorem igt_sf {S : ST} {c i k : Nat} {v : Int32} (x : Cl) : igt (S.so c i ((S c i).sf k v)) x = igt S x := by
  rcases x with ⟨c', i'⟩ | ⟨c', i', k'⟩ | ⟨c', i', k', j'⟩
  · rfl
  · show ((S.so c i _) c' i').a k' = (S c' i').a k'
    rw [so_at]
    split
    · rename_i q; rw [q.1, q.2]; rfl
    · rfl
  · rfl
section IPOW
variable {W : WR} {G : mG} {F : Nat}
theorem Q12_red27 {i n m N kb p size : Nat} {to : Cl} {β : Nat → UInt8} (X : Cx G F W) (h : isM W) (hd : isMd W i) (qb : (kdA 13)[kb]? = some 1) (lb_ : mLen kb < 2 ^ 30) (ht : iok W to N) (hN : n ≤ N) (hp : p + size ≤ mLen kb) (hsz : size ≤ 1000) (tb : (.a 13 0 kb : Cl) ≠ to) (t0 : (.a 12 i 0 : Cl) ≠ to) : ∀ (q k fuel : Nat) (S : ST), q < fuel → k + q = 8 * size → MdB S i n m → mB (S 13 0) kb β → IV (igt S to) n (eB (rdB β p size) k % m) → ∃ S', B_X12_reduce_27 G F fuel (W.ad (.o 12 i)) (W.ad (.a 13 0 kb)) (Int32.ofNat p) (Int32.ofNat size) (W.ad to) (Int32.ofNat k) (mem W S) = some (mem W S') ∧ ifr [to] S S' ∧ IV (igt S' to) n (eB (rdB β p size) (8 * size) % m) := by
  intro q
  induction q with
  | zero =>
    intro k fuel S hf hk hM hb hv
    obtain ⟨fuel, rfl⟩ : ∃ q, fuel = q + 1 := ⟨fuel - 1, by omega⟩
    obtain rfl : k = 8 * size := by omega
    rw [B_X12_reduce_27, show (8 : Int32) * (Int32.ofNat size) = (Int32.ofNat (8 * size)) from n_mul 8 _, if_pos ((n_le (by omega) (by omega)).mpr (Nat.le_refl _))]
    exact ⟨S, rfl, ifr.refl _ _, hv⟩
  | succ q ih =>
    intro k fuel S hf hk hM hb hv
    obtain ⟨fuel, rfl⟩ : ∃ q, fuel = q + 1 := ⟨fuel - 1, by omega⟩
    have hm1 := hM.2.2.2.2.1
    have hlt : ∀ a, a % m < m := fun a => Nat.mod_lt _ (by omega)
    obtain ⟨S1, g1, f1, v1⟩ := Q12_twice (G := G) (F := F) X hd hM ht hN t0 hv (hlt _)
    have M1 := hM.ifr f1 (by simpa using t0)
    have b1 := f1.mB hb (by simpa using tb)
    have hgn : gN (rdB β p size) (k / 8) = (β (p + k / 8)).toNat := gN_rdB (by omega)
    rw [B_X12_reduce_27, show (8 : Int32) * (Int32.ofNat size) = (Int32.ofNat (8 * size)) from n_mul 8 _, if_neg (fun q => absurd ((n_le (by omega) (by omega)).mp q) (by omega)), rcv_m hd.1, bO_s, g1, bO_s, mod8 (by omega), show (Int32.ofNat k) / (8 : Int32) = (Int32.ofNat (k / 8)) from n_div (b := 8) (by omega) (by decide), n_add, h.aB qb b1 (by omega) (by omega), bO_s, n_addL k 1]
    have hbt := sbit (β (p + k / 8)) (s := k % 8) (by omega)
    by_cases c : (β (p + k / 8)).toNat / 2 ^ (7 - k % 8) % 2 = 1
    · have cb : bitA (rdB β p size) k = true := decide_eq_true (by rw [hgn]; exact c)
      obtain ⟨S2, g2, f2, v2⟩ := Q12_addOne (G := G) (F := F) X hd M1 ht hN t0 v1 (hlt _)
      rw [if_pos (hbt.mpr c), rcv_m hd.1, bO_s, g2, bO_s]
      obtain ⟨S3, g3, f3, v3⟩ := ih (k + 1) fuel S2 (by omega) (by omega) (M1.ifr f2 (by simpa using t0)) (f2.mB b1 (by simpa using tb)) (by
        rw [eB, cb, if_pos rfl]
        have e : ((eB (rdB β p size) k % m + eB (rdB β p size) k % m) % m + 1) % m = (2 * eB (rdB β p size) k + 1) % m := by
          rw [← Nat.add_mod, ac (Nat.mod_mod _ _) rfl]
          congr 1
          omega
        rw [← e]
        exact v2)
      exact ⟨S3, g3, (f1.trans f2).trans f3, v3⟩
    · have cb : bitA (rdB β p size) k = false := decide_eq_false (by rw [hgn]; exact c)
      rw [if_neg (fun q => c (hbt.mp q))]
      obtain ⟨S3, g3, f3, v3⟩ := ih (k + 1) fuel S1 (by omega) (by omega) M1 b1 (by
        rw [eB, cb, if_neg (by decide), Nat.add_zero]
        have e : (eB (rdB β p size) k % m + eB (rdB β p size) k % m) % m = (2 * eB (rdB β p size) k) % m := by
          rw [← Nat.add_mod]
          congr 1
          omega
        rw [← e]
        exact v1)
      exact ⟨S3, g3, f1.trans f3, v3⟩
theorem Q12_red3 {i n N l1 : Nat} {l2 l3 : Int32} {to : Cl} (h : isMd W i) (ht : iok W to N) (hn : n ≤ 32) (hN : n ≤ N) : ∀ (m j fuel : Nat) (S : ST), m < fuel → j + m = n → (S 12 i).f 1 = (Int32.ofNat n) → (∀ t, t < j → igt S to t = 0) → ∃ S', B_X12_reduce_3 G F fuel (W.ad (.o 12 i)) l1 l2 l3 (W.ad to) (Int32.ofNat j) (mem W S) = B_X12_reduce_27 G F F (W.ad (.o 12 i)) l1 l2 l3 (W.ad to) 0 (mem W S') ∧ ifr [to] S S' ∧ ∀ t, t < n → igt S' to t = 0 := by
  intro m
  induction m with
  | zero =>
    intro j fuel S hf hj h0 hz
    obtain ⟨fuel, rfl⟩ : ∃ q, fuel = q + 1 := ⟨fuel - 1, by omega⟩
    rw [B_X12_reduce_3, h.gI, bO_s, h0, if_pos ((n_le (by omega) (by omega)).mpr (by omega))]
    exact ⟨S, rfl, ifr.refl _ _, fun t ht => hz t (by omega)⟩
  | succ m ih =>
    intro j fuel S hf hj h0 hz
    obtain ⟨fuel, rfl⟩ : ∃ q, fuel = q + 1 := ⟨fuel - 1, by omega⟩
    rw [B_X12_reduce_3, h.gI, bO_s, h0, if_neg (fun q => absurd ((n_le (by omega) (by omega)).mp q) (by omega)), ix_set ht (by omega), bO_s, n_addL j 1]
    obtain ⟨S', g1, g2, g3⟩ := ih (j + 1) fuel (ist S to (upd (igt S to) j 0)) (by omega) (by omega) (by rw [(ist_fgl _ _ _ _ _).1]; exact h0) (fun t h2 => by
      rw [igt_eq ht]
      by_cases c : t = j
      · rw [c, upd_eq]
      · rw [upd_ne c]; exact hz t (by omega))
    exact ⟨S', g1, (ifr_ist (by simp)).trans g2, g3⟩
theorem IV_zero {f : Nat → Int32} {n : Nat} (h : ∀ t, t < n → f t = 0) : IV f n 0 := ⟨_, ID_zero h, vN_zero (fun _ _ => rfl)⟩
theorem Q12_reduce {i n m N kb p size : Nat} {S : ST} {to : Cl} {β : Nat → UInt8} (X : Cx G F W) (h : isM W) (hd : isMd W i) (qb : (kdA 13)[kb]? = some 1) (lb_ : mLen kb < 2 ^ 30) (ht : iok W to N) (hN : n ≤ N) (hp : p + size ≤ mLen kb) (hsz : size ≤ 1000) (tb : (.a 13 0 kb : Cl) ≠ to) (t0 : (.a 12 i 0 : Cl) ≠ to) (hM : MdB S i n m) (hb : mB (S 13 0) kb β) : ∃ S', P_X12_reduce G F (W.ad (.o 12 i)) (W.ad (.a 13 0 kb)) (Int32.ofNat p) (Int32.ofNat size) (W.ad to) (mem W S) = some (mem W S') ∧ ifr [to] S S' ∧ IV (igt S' to) n (beN (rdB β p size) % m) := by
  have hF := X.hF
  have hn := hM.2.2.1
  obtain ⟨S1, g1, g2, g3⟩ := Q12_red3 (G := G) (F := F) (l1 := W.ad (.a 13 0 kb)) (l2 := (Int32.ofNat p)) (l3 := (Int32.ofNat size)) hd ht hn hN n 0 F S (by omega) (by omega) hM.1 (fun t ht => by omega)
  obtain ⟨S2, e1, e2, e3⟩ := Q12_red27 (G := G) (F := F) (n := n) (m := m) (p := p) (size := size) (β := β) X h hd qb lb_ ht hN hp hsz tb t0 (8 * size) 0 F S1 (by omega) (by omega) (hM.ifr g2 (by simpa using t0)) (g2.mB hb (by simpa using tb)) (by
    rw [eB, Nat.zero_mod]
    exact IV_zero g3)
  refine ⟨S2, ?_, g2.trans e2, ?_⟩
  · unfold P_X12_reduce
    have g1' : B_X12_reduce_3 G F F (W.ad (.o 12 i)) (W.ad (.a 13 0 kb)) (Int32.ofNat p) (Int32.ofNat size) (W.ad to) 0 (mem W S) = _ := g1
    rw [g1']
    exact e1
  · have := eB_beN (rdB β p size)
    rw [rdB_len] at this
    rw [← this]
    exact e3
theorem Q12_into {i n m N Nx v : Nat} {S : ST} {x to : Cl} (X : Cx G F W) (h : isMd W i) (hM : MdS S i n m) (hx : iok W x Nx) (hNx : n ≤ Nx) (ht : iok W to N) (hN : n ≤ N) (hxo : ow x ≠ (12, i)) (ho : ow to ≠ (12, i)) (hv : IV (igt S x) n v) : ∃ S', P_X12_into G F (W.ad (.o 12 i)) (W.ad x) (W.ad to) (mem W S) = some (mem W S') ∧ ifr [to, .a 12 i 5] S S' ∧ IV (igt S' to) n (v * 4294967296 ^ n % m) ∧ MdS S' i n m := by
  have hm1 := hM.b.2.2.2.2.1
  have hn := hM.b.2.2.1
  have nx : ∀ k, x ≠ .a 12 i k := fun k e => hxo (by rw [e]; rfl)
  have no : ∀ k, to ≠ .a 12 i k := fun k e => ho (by rw [e]; rfl)
  obtain ⟨S1, g1, g2, g3⟩ := Q12_product (G := G) (F := F) X h hM.b hM.tw hx h.l4 ht hNx (by omega) hN (nx 5) (by simp) (no 5).symm (no 0).symm hv hM.sq (Nat.mod_lt _ (by omega))
  rw [M_lead hm1 hM.b.2.2.2.2.2] at g3
  refine ⟨S1, ?_, g2, g3, hM.ifr g2 (by simp; exact (no 0).symm) (by simp; exact (no 3).symm) (by simp; exact (no 4).symm)⟩
  unfold P_X12_into
  rw [h.gR (by omega), bO_s, rcv_m h.1, bO_s, g1, bO_s]
theorem Q12_out2 {i n l1 l2 : Nat} (h : isMd W i) (hn : n ≤ 32) : ∀ (m j fuel : Nat) (S : ST), m < fuel → j + m = n → (S 12 i).f 1 = (Int32.ofNat n) → (∀ t, t < j → igt S (.a 12 i 8) t = 0) → ∃ S', B_X12_outOf_2 G F fuel (W.ad (.o 12 i)) l1 l2 (Int32.ofNat j) (mem W S) = (bO (sI (mem W S') 0 (W.ad (.a 12 i 8)) (0 : Int32) (1 : Int32)) fun M29 => bO (gfR M29 (W.ad (.o 12 i)) 12 8) fun v33 => bO (rcv M29 (W.ad (.o 12 i)) 12) fun _ => bO (P_X12_product G F (W.ad (.o 12 i)) l1 v33 l2 M29) fun M37 => some M37) ∧ ifr [.a 12 i 8] S S' ∧ ∀ t, t < n → igt S' (.a 12 i 8) t = 0 := by
  intro m
  induction m with
  | zero =>
    intro j fuel S hf hj h0 hz
    obtain ⟨fuel, rfl⟩ : ∃ q, fuel = q + 1 := ⟨fuel - 1, by omega⟩
    rw [B_X12_outOf_2, h.gI, bO_s, h0, if_pos ((n_le (by omega) (by omega)).mpr (by omega)), h.gR (by omega), bO_s]
    exact ⟨S, rfl, ifr.refl _ _, fun t ht => hz t (by omega)⟩
  | succ m ih =>
    intro j fuel S hf hj h0 hz
    obtain ⟨fuel, rfl⟩ : ∃ q, fuel = q + 1 := ⟨fuel - 1, by omega⟩
    rw [B_X12_outOf_2, h.gI, bO_s, h0, if_neg (fun q => absurd ((n_le (by omega) (by omega)).mp q) (by omega)), h.gR (by omega), bO_s, ix_set h.l8 (by omega), bO_s, n_addL j 1]
    obtain ⟨S', g1, g2, g3⟩ := ih (j + 1) fuel (ist S (.a 12 i 8) (upd (igt S (.a 12 i 8)) j 0)) (by omega) (by omega) (by rw [(ist_fgl _ _ _ _ _).1]; exact h0) (fun t h2 => by
      rw [igt_eq h.l8]
      by_cases c : t = j
      · rw [c, upd_eq]
      · rw [upd_ne c]; exact hz t (by omega))
    exact ⟨S', g1, (ifr_ist (by simp)).trans g2, g3⟩
theorem ID_one {f : Nat → Int32} {n : Nat} (h : ∀ t, t < n → f t = if t = 0 then 1 else 0) : ID f n (dg 1) := by
  intro t ht
  rw [h t ht, dg_1]
  by_cases c : t = 0
  · rw [if_pos c, if_pos c]; exact ⟨rfl, by decide⟩
  · rw [if_neg c, if_neg c]; exact ⟨rfl, by decide⟩
theorem Q12_outOf {i n m N Nx v : Nat} {S : ST} {x to : Cl} (X : Cx G F W) (h : isMd W i) (hM : MdS S i n m) (hx : iok W x Nx) (hNx : n ≤ Nx) (ht : iok W to N) (hN : n ≤ N) (hxo : ow x ≠ (12, i)) (ho : ow to ≠ (12, i)) (hv : IV (igt S x) n v) : ∃ S', P_X12_outOf G F (W.ad (.o 12 i)) (W.ad x) (W.ad to) (mem W S) = some (mem W S') ∧ ifr [to, .a 12 i 5, .a 12 i 8] S S' ∧ IV (igt S' to) n (v * 1 * RI n m % m) ∧ MdS S' i n m := by
  have hF := X.hF
  have hm1 := hM.b.2.2.2.2.1
  have hn1 := hM.b.2.1
  have hn := hM.b.2.2.1
  have nx : ∀ k, x ≠ .a 12 i k := fun k e => hxo (by rw [e]; rfl)
  have no : ∀ k, to ≠ .a 12 i k := fun k e => ho (by rw [e]; rfl)
  obtain ⟨S1, g1, f1, z1⟩ := Q12_out2 (G := G) (F := F) (l1 := W.ad x) (l2 := W.ad to) h hn n 0 F S (by omega) (by omega) hM.b.1 (fun t ht => by omega)
  obtain ⟨S2, hS2⟩ : ∃ S2, S2 = ist S1 (.a 12 i 8) (upd (igt S1 (.a 12 i 8)) 0 1) := ⟨_, rfl⟩
  have f2 : ifr [.a 12 i 8] S S2 := f1.trans (by rw [hS2]; exact ifr_ist (by simp))
  have s0 : sI (mem W S1) 0 (W.ad (.a 12 i 8)) (0 : Int32) (1 : Int32) = some (mem W S2) := by rw [hS2]; exact ix_set (j := 0) h.l8 (by omega)
  have M2 : MdS S2 i n m := hM.ifr f2 (by simp) (by simp) (by simp)
  have v2 : IV (igt S2 (.a 12 i 8)) n 1 := by
    refine ID.iv (ID_one (fun t ht => ?_)) (Nat.lt_of_lt_of_le (show 1 < 4294967296 ^ 1 by decide) (Nat.pow_le_pow_right (by decide) (by omega)))
    rw [hS2, igt_eq h.l8]
    by_cases c : t = 0
    · rw [if_pos c, c, upd_eq]
    · rw [if_neg c, upd_ne c]; exact z1 t ht
  obtain ⟨S3, g3, f3, v3⟩ := Q12_product (G := G) (F := F) X h M2.b M2.tw hx h.l8 ht hNx (by omega) hN (nx 5) (by simp) (no 5).symm (no 0).symm (by rw [f2.2 _ (by simp; exact nx 8)]; exact hv) v2 hm1
  refine ⟨S3, ?_, (f2.mono (by simp)).trans (f3.mono (by simp)), v3, M2.ifr f3 (by simp; exact (no 0).symm) (by simp; exact (no 3).symm) (by simp; exact (no 4).symm)⟩
  unfold P_X12_outOf
  have g1' : B_X12_outOf_2 G F F (W.ad (.o 12 i)) (W.ad x) (W.ad to) 0 (mem W S) = _ := g1
  rw [g1', s0, bO_s, h.gR (by omega), bO_s, rcv_m h.1, bO_s, g3, bO_s]
theorem Q12_pw121 {i n N : Nat} {to : Cl} {d : Nat → Nat} (h : isMd W i) (ht : iok W to N) (hn : n ≤ 32) (hN : n ≤ N) (t7 : (.a 12 i 7 : Cl) ≠ to) : ∀ (q j fuel : Nat) (S : ST), q < fuel → j + q = n → (S 12 i).f 1 = (Int32.ofNat n) → ID (igt S (.a 12 i 7)) n d → ID (igt S to) j d → ∃ S', B_X12_power_121 G F fuel (W.ad (.o 12 i)) (W.ad to) (Int32.ofNat j) (mem W S) = some (mem W S') ∧ ifr [to] S S' ∧ ID (igt S' to) n d := by
  intro q
  induction q with
  | zero =>
    intro j fuel S hf hj h0 hd he
    obtain ⟨fuel, rfl⟩ : ∃ q, fuel = q + 1 := ⟨fuel - 1, by omega⟩
    obtain rfl : j = n := by omega
    rw [B_X12_power_121, h.gI, bO_s, h0, if_pos ((n_le (by omega) (by omega)).mpr (by omega))]
    exact ⟨S, rfl, ifr.refl _ _, he⟩
  | succ q ih =>
    intro j fuel S hf hj h0 hd he
    obtain ⟨fuel, rfl⟩ : ∃ q, fuel = q + 1 := ⟨fuel - 1, by omega⟩
    have hdj := hd j (by omega)
    rw [B_X12_power_121, h.gI, bO_s, h0, if_neg (fun q => absurd ((n_le (by omega) (by omega)).mp q) (by omega)), h.gR (by omega), bO_s, ix_get h.l7 (by omega), bO_s, hdj.1, ix_set ht (by omega), bO_s, n_addL j 1]
    obtain ⟨S', g1, g2, g3⟩ := ih (j + 1) fuel (ist S to (upd (igt S to) j (Int32.ofNat (d j)))) (by omega) (by omega) (by rw [(ist_fgl _ _ _ _ _).1]; exact h0) (by rw [igt_ne t7]; exact hd) (by
      rw [igt_eq ht]
      intro t h2
      by_cases c : t = j
      · rw [c, upd_eq]; exact ⟨rfl, hdj.2⟩
      · rw [upd_ne c]; exact he t (by omega))
    exact ⟨S', g1, (ifr_ist (by simp)).trans g2, g3⟩
theorem Q12_pw46 {i n m N kb p size x : Nat} {to : Cl} {β : Nat → UInt8} (X : Cx G F W) (h : isM W) (hd : isMd W i) (qb : (kdA 13)[kb]? = some 1) (lb_ : mLen kb < 2 ^ 30) (ht : iok W to N) (hN : n ≤ N) (hp : p + size ≤ mLen kb) (hsz : size ≤ 1000) (ho : ow to ≠ (12, i)) : ∀ (q k fuel : Nat) (S : ST), q < fuel → k + q = 8 * size → MdS S i n m → mB (S 13 0) kb β → IV (igt S (.a 12 i 6)) n (x * 4294967296 ^ n % m) → IV (igt S (.a 12 i 7)) n (rz x m (rdB β p size) k * 4294967296 ^ n % m) → ∃ S', B_X12_power_46 G F fuel (W.ad (.o 12 i)) (W.ad (.a 13 0 kb)) (Int32.ofNat p) (Int32.ofNat size) (W.ad to) (Int32.ofNat k) (mem W S) = some (mem W S') ∧ ifr [to, .a 12 i 5, .a 12 i 7] S S' ∧ MdS S' i n m ∧ IV (igt S' to) n (rz x m (rdB β p size) (8 * size) * 4294967296 ^ n % m) := by
  have hF := X.hF
  have no : ∀ k, to ≠ .a 12 i k := fun k e => ho (by rw [e]; rfl)
  intro q
  induction q with
  | zero =>
    intro k fuel S hf hk hM hb v6 v7
    obtain ⟨fuel, rfl⟩ : ∃ q, fuel = q + 1 := ⟨fuel - 1, by omega⟩
    obtain rfl : k = 8 * size := by omega
    have hn := hM.b.2.2.1
    obtain ⟨d, hd7, hdv⟩ := v7
    obtain ⟨S1, g1, f1, v1⟩ := Q12_pw121 (G := G) (F := F) hd ht hn hN (no 7).symm n 0 F S (by omega) (by omega) hM.b.1 hd7 (fun t ht => by omega)
    have g1' : B_X12_power_121 G F F (W.ad (.o 12 i)) (W.ad to) 0 (mem W S) = _ := g1
    rw [B_X12_power_46, show (8 : Int32) * (Int32.ofNat size) = (Int32.ofNat (8 * size)) from n_mul 8 _, if_pos ((n_le (by omega) (by omega)).mpr (Nat.le_refl _)), g1']
    exact ⟨S1, rfl, f1.mono (by simp), hM.ifr f1 (by simp; exact (no 0).symm) (by simp; exact (no 3).symm) (by simp; exact (no 4).symm), d, v1, hdv⟩
  | succ q ih =>
    intro k fuel S hf hk hM hb v6 v7
    obtain ⟨fuel, rfl⟩ : ∃ q, fuel = q + 1 := ⟨fuel - 1, by omega⟩
    have hn := hM.b.2.2.1
    have hm1 := hM.b.2.2.2.2.1
    have hm2 := hM.b.2.2.2.2.2
    have hlt : ∀ a, a % m < m := fun a => Nat.mod_lt _ (by omega)
    obtain ⟨S1, g1, f1, w1⟩ := Q12_product (G := G) (F := F) X hd hM.b hM.tw hd.l7 hd.l7 hd.l7 (by omega) (by omega) (by omega) (by simp) (by simp) (by simp) (by simp) v7 v7 (hlt _)
    rw [M_mul hm1 hm2] at w1
    have M1 : MdS S1 i n m := hM.ifr f1 (by simp) (by simp) (by simp)
    have b1 := f1.mB hb (by simp)
    have hgn : gN (rdB β p size) (k / 8) = (β (p + k / 8)).toNat := gN_rdB (by omega)
    rw [B_X12_power_46, show (8 : Int32) * (Int32.ofNat size) = (Int32.ofNat (8 * size)) from n_mul 8 _, if_neg (fun q => absurd ((n_le (by omega) (by omega)).mp q) (by omega)), hd.gR (by omega), bO_s, bO_s, bO_s, rcv_m hd.1, bO_s, g1, bO_s, mod8 (by omega), show (Int32.ofNat k) / (8 : Int32) = (Int32.ofNat (k / 8)) from n_div (b := 8) (by omega) (by decide), n_add, h.aB qb b1 (by omega) (by omega), bO_s, n_addL k 1]
    have hbt := sbit (β (p + k / 8)) (s := k % 8) (by omega)
    by_cases c : (β (p + k / 8)).toNat / 2 ^ (7 - k % 8) % 2 = 1
    · have cb : bitA (rdB β p size) k = true := decide_eq_true (by rw [hgn]; exact c)
      obtain ⟨S2, g2, f2, w2⟩ := Q12_product (G := G) (F := F) X hd M1.b M1.tw hd.l7 hd.l6 hd.l7 (by omega) (by omega) (by omega) (by simp) (by simp) (by simp) (by simp) w1 (by rw [f1.2 _ (by simp)]; exact v6) (hlt _)
      rw [M_mul hm1 hm2] at w2
      have er : rz x m (rdB β p size) (k + 1) = rz x m (rdB β p size) k * rz x m (rdB β p size) k * x % m := by rw [rz, if_pos cb]
      rw [if_pos (hbt.mpr c), hd.gR (by omega), bO_s, hd.gR (by omega), bO_s, bO_s, rcv_m hd.1, bO_s, g2, bO_s]
      obtain ⟨S3, g3, f3, m3, w3⟩ := ih (k + 1) fuel S2 (by omega) (by omega) (M1.ifr f2 (by simp) (by simp) (by simp)) (f2.mB b1 (by simp)) (by rw [f2.2 _ (by simp), f1.2 _ (by simp)]; exact v6) (by
        rw [er, mc (Nat.mod_mod _ _) rfl]
        exact w2)
      exact ⟨S3, g3, ((f1.mono (by simp)).trans (f2.mono (by simp))).trans f3, m3, w3⟩
    · have cb : bitA (rdB β p size) k = false := decide_eq_false (by rw [hgn]; exact c)
      have er : rz x m (rdB β p size) (k + 1) = rz x m (rdB β p size) k * rz x m (rdB β p size) k % m := by rw [rz, cb]; rfl
      rw [if_neg (fun q => c (hbt.mp q))]
      obtain ⟨S3, g3, f3, m3, w3⟩ := ih (k + 1) fuel S1 (by omega) (by omega) M1 b1 (by rw [f1.2 _ (by simp)]; exact v6) (by
        rw [er, mc (Nat.mod_mod _ _) rfl]
        exact w1)
      exact ⟨S3, g3, (f1.mono (by simp)).trans f3, m3, w3⟩
theorem Q12_pw3 {i n Nx l2 l5 : Nat} {l3 l4 : Int32} {x : Cl} {d e : Nat → Nat} (h : isMd W i) (hx : iok W x Nx) (hn : n ≤ 32) (hNx : n ≤ Nx) (hxo : ow x ≠ (12, i)) : ∀ (q j fuel : Nat) (S : ST), q < fuel → j + q = n → (S 12 i).f 1 = (Int32.ofNat n) → ID (igt S x) n d → ID (igt S (.a 12 i 3)) n e → ID (igt S (.a 12 i 6)) j d → ID (igt S (.a 12 i 7)) j e → ∃ S', B_X12_power_3 G F fuel (W.ad (.o 12 i)) (W.ad x) l2 l3 l4 l5 (Int32.ofNat j) (mem W S) = B_X12_power_46 G F F (W.ad (.o 12 i)) l2 l3 l4 l5 0 (mem W S') ∧ ifr [.a 12 i 6, .a 12 i 7] S S' ∧ ID (igt S' (.a 12 i 6)) n d ∧ ID (igt S' (.a 12 i 7)) n e := by
  have nx : ∀ k, x ≠ .a 12 i k := fun k e => hxo (by rw [e]; rfl)
  intro q
  induction q with
  | zero =>
    intro j fuel S hf hj h0 hd he h6 h7
    obtain ⟨fuel, rfl⟩ : ∃ q, fuel = q + 1 := ⟨fuel - 1, by omega⟩
    obtain rfl : j = n := by omega
    rw [B_X12_power_3, h.gI, bO_s, h0, if_pos ((n_le (by omega) (by omega)).mpr (by omega))]
    exact ⟨S, rfl, ifr.refl _ _, h6, h7⟩
  | succ q ih =>
    intro j fuel S hf hj h0 hd he h6 h7
    obtain ⟨fuel, rfl⟩ : ∃ q, fuel = q + 1 := ⟨fuel - 1, by omega⟩
    have hdj := hd j (by omega)
    have hej := he j (by omega)
    obtain ⟨S1, hS1⟩ : ∃ S1, S1 = ist S (.a 12 i 6) (upd (igt S (.a 12 i 6)) j (Int32.ofNat (d j))) := ⟨_, rfl⟩
    have f1 : ifr [.a 12 i 6, .a 12 i 7] S S1 := by rw [hS1]; exact ifr_ist (by simp)
    have e3 : igt S1 (.a 12 i 3) j = (Int32.ofNat (e j)) := by rw [hS1, igt_ne (by simp)]; exact hej.1
    rw [B_X12_power_3, h.gI, bO_s, h0, if_neg (fun q => absurd ((n_le (by omega) (by omega)).mp q) (by omega)), h.gR (by omega), bO_s, ix_get hx (by omega), bO_s, hdj.1, ix_set h.l6 (by omega), bO_s, ← hS1, h.gR (by omega), bO_s, h.gR (by omega), bO_s, ix_get h.l3 (by omega), bO_s, e3, ix_set h.l7 (by omega), bO_s, n_addL j 1]
    have snoc : ∀ (f : Nat → Int32) (g : Nat → Nat), ID f j g → g j < 4294967296 → ID (upd f j (Int32.ofNat (g j))) (j + 1) g := by
      intro f g hg hgl t h2
      by_cases c : t = j
      · rw [c, upd_eq]; exact ⟨rfl, hgl⟩
      · rw [upd_ne c]; exact hg t (by omega)
    obtain ⟨S', g1, g2, g3, g4⟩ := ih (j + 1) fuel (ist S1 (.a 12 i 7) (upd (igt S1 (.a 12 i 7)) j (Int32.ofNat (e j)))) (by omega) (by omega) (by rw [(ist_fgl _ _ _ _ _).1, (f1.1 12 i).1]; exact h0) (by rw [igt_ne (nx 7), hS1, igt_ne (nx 6)]; exact hd) (by rw [igt_ne (by simp), hS1, igt_ne (by simp)]; exact he) (by rw [igt_ne (by simp), hS1, igt_eq h.l6]; exact snoc _ _ h6 hdj.2) (by rw [igt_eq h.l7, hS1, igt_ne (by simp)]; exact snoc _ _ h7 hej.2)
    exact ⟨S', g1, (f1.trans (ifr_ist (by simp))).trans g2, g3, g4⟩
theorem Q12_power {i n m N Nx kb p size x : Nat} {S : ST} {xc to : Cl} {β : Nat → UInt8} (X : Cx G F W) (h : isM W) (hd : isMd W i) (qb : (kdA 13)[kb]? = some 1) (lb_ : mLen kb < 2 ^ 30) (hx : iok W xc Nx) (hNx : n ≤ Nx) (ht : iok W to N) (hN : n ≤ N) (hp : p + size ≤ mLen kb) (hsz : size ≤ 1000) (hxo : ow xc ≠ (12, i)) (ho : ow to ≠ (12, i)) (hM : MdS S i n m) (hb : mB (S 13 0) kb β) (hv : IV (igt S xc) n (x * 4294967296 ^ n % m)) : ∃ S', P_X12_power G F (W.ad (.o 12 i)) (W.ad xc) (W.ad (.a 13 0 kb)) (Int32.ofNat p) (Int32.ofNat size) (W.ad to) (mem W S) = some (mem W S') ∧ ifr [to, .a 12 i 5, .a 12 i 6, .a 12 i 7] S S' ∧ MdS S' i n m ∧ IV (igt S' to) n (rz x m (rdB β p size) (8 * size) * 4294967296 ^ n % m) := by
  have hF := X.hF
  have hn := hM.b.2.2.1
  obtain ⟨d, h1, h2⟩ := hv
  obtain ⟨e, h3, h4⟩ := hM.unit
  obtain ⟨S1, g1, f1, v6, v7⟩ := Q12_pw3 (G := G) (F := F) (l2 := W.ad (.a 13 0 kb)) (l3 := (Int32.ofNat p)) (l4 := (Int32.ofNat size)) (l5 := W.ad to) (d := d) (e := e) hd hx hn hNx hxo n 0 F S (by omega) (by omega) hM.b.1 h1 h3 (fun t ht => by omega) (fun t ht => by omega)
  obtain ⟨S2, g2, f2, m2, v2⟩ := Q12_pw46 (G := G) (F := F) (n := n) (m := m) (x := x) (p := p) (size := size) (β := β) X h hd qb lb_ ht hN hp hsz ho (8 * size) 0 F S1 (by omega) (by omega) (hM.ifr f1 (by simp) (by simp) (by simp)) (f1.mB hb (by simp)) ⟨d, v6, h2⟩ ⟨e, v7, by rw [h4, rz, mc (Nat.mod_mod _ _) rfl, Nat.one_mul]⟩
  refine ⟨S2, ?_, (f1.mono (by simp)).trans (f2.mono (by simp)), m2, v2⟩
  unfold P_X12_power
  have g1' : B_X12_power_3 G F F (W.ad (.o 12 i)) (W.ad xc) (W.ad (.a 13 0 kb)) (Int32.ofNat p) (Int32.ofNat size) (W.ad to) 0 (mem W S) = _ := g1
  rw [g1']
  exact g2
end IPOW
