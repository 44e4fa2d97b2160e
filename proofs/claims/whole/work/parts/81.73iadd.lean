/-! THE MODEL'S MODULUS: add, subtract, twice, addOne, isZero -/
theorem lgc {a b : Nat} (ha : a < 2 ^ 63) (hb : b < 2 ^ 63) : lg_cmp (Int64.ofNat a) (Int64.ofNat b) = 0 ↔ a = b := by
  rw [lg_cmp_eq]
  exact l_inj ha hb
theorem vN_set {d : Nat → Nat} {k x : Nat} : ∀ (n : Nat), k < n → vN (vp_updN d k x) n + d k * 4294967296 ^ k = vN d n + x * 4294967296 ^ k
  | 0, h => by omega
  | n + 1, h => by
    by_cases c : k = n
    · subst c
      rw [vN_upd, vN_s]
      omega
    · have := vN_set (d := d) (k := k) (x := x) n (by omega)
      rw [vN_s, vN_s, updN_ne (show n ≠ k by omega)]
      omega
section IADD
variable {W : WR} {G : mG} {F : Nat}
theorem ikeep {S : ST} {to : Cl} {N n j : Nat} {v : Int32} (ht : iok W to N) (z : Cl) (dz : Nat → Nat) (hz : ∀ t, j ≤ t → t < n → igt S z t = (Int32.ofNat (dz t)) ∧ dz t < 4294967296) : ∀ t, j + 1 ≤ t → t < n → igt (ist S to (upd (igt S to) j v)) z t = (Int32.ofNat (dz t)) ∧ dz t < 4294967296 := by
  intro t h1 h2
  by_cases c : z = to
  · rw [c, igt_eq ht, upd_ne (by omega), ← c]; exact hz t (by omega) h2
  · rw [igt_ne c]; exact hz t (by omega) h2
theorem Q12_add_l {i n m N Nx Ny : Nat} {x y to : Cl} {dx dy : Nat → Nat} (X : Cx G F W) (h : isMd W i) (hx : iok W x Nx) (hy : iok W y Ny) (ht : iok W to N) (hNx : n ≤ Nx) (hNy : n ≤ Ny) (hN : n ≤ N) (t0 : (.a 12 i 0 : Cl) ≠ to) (hT : vN dx n + vN dy n < 2 * m) : ∀ (q j fuel : Nat) (S : ST) (c : Nat) (e : Nat → Nat), q < fuel → j + q = n → MdB S i n m → (∀ t, j ≤ t → t < n → igt S x t = (Int32.ofNat (dx t)) ∧ dx t < 4294967296) → (∀ t, j ≤ t → t < n → igt S y t = (Int32.ofNat (dy t)) ∧ dy t < 4294967296) → ID (igt S to) j e → c ≤ 1 → vN dx j + vN dy j = vN e j + c * 4294967296 ^ j → ∃ S', B_X12_add_6 G F fuel (W.ad (.o 12 i)) (W.ad x) (W.ad y) (W.ad to) (Int64.ofNat c) (Int32.ofNat j) (mem W S) = some (mem W S') ∧ ifr [to] S S' ∧ IV (igt S' to) n ((vN dx n + vN dy n) % m) := by
  intro q
  induction q with
  | zero =>
    intro j fuel S c e hf hj hM hdx hdy he hc hv
    obtain ⟨fuel, rfl⟩ : ∃ q, fuel = q + 1 := ⟨fuel - 1, by omega⟩
    obtain rfl : j = n := by omega
    have h0 := hM.1
    have hn := hM.2.2.1
    rw [B_X12_add_6, h.gI, bO_s, h0, if_pos ((n_le (by omega) (by omega)).mpr (Nat.le_refl _)), hv]
    by_cases c1 : c = 1
    · subst c1
      rw [if_pos (show lg_cmp (Int64.ofNat 1) 1 = 0 by decide)]
      exact Q12_tail1 (G := G) (F := F) X h hM ht hN t0 ⟨e, he, rfl⟩ (by omega)
    · obtain rfl : c = 0 := by omega
      rw [if_neg (show ¬ lg_cmp (Int64.ofNat 0) 1 = 0 by decide), Nat.zero_mul, Nat.add_zero]
      exact Q12_tail0 (G := G) (F := F) X h hM ht hN t0 ⟨e, he, rfl⟩ (by omega)
  | succ q ih =>
    intro j fuel S c e hf hj hM hdx hdy he hc hv
    obtain ⟨fuel, rfl⟩ : ∃ q, fuel = q + 1 := ⟨fuel - 1, by omega⟩
    have h0 := hM.1
    have hn := hM.2.2.1
    have hxj := hdx j (by omega) (by omega)
    have hyj := hdy j (by omega) (by omega)
    have ea : ((((igt S x j).toInt64) &&& (4294967295 : Int64)) + (((igt S y j).toInt64) &&& (4294967295 : Int64))) + Int64.ofNat c = Int64.ofNat (dx j + dy j + c) := by rw [hxj.1, hyj.1, i_64 hxj.2, i_64 hyj.2, l_add, l_add]
    rw [B_X12_add_6, h.gI, bO_s, h0, if_neg (fun q => absurd ((n_le (by omega) (by omega)).mp q) (by omega)), ix_get hx (by omega), bO_s, ix_get hy (by omega), bO_s, ea, i_of64, l_ush (by omega), ix_set ht (by omega), bO_s, n_addL j 1]
    obtain ⟨S', g1, g2, g3⟩ := ih (j + 1) fuel (ist S to (upd (igt S to) j (Int32.ofNat ((dx j + dy j + c) % 4294967296)))) ((dx j + dy j + c) / 4294967296) (vp_updN e j ((dx j + dy j + c) % 4294967296)) (by omega) (by omega) (hM.ifr (ifr_ist (L := [to]) (by simp)) (by simpa using t0)) (ikeep ht x dx hdx) (ikeep ht y dy hdy) (by rw [igt_eq ht]; exact he.snoc rfl (by omega)) (by omega) (by
      rw [vN_upd, vN_s, vN_s, Nat.pow_succ]
      exact stepN hv (by omega))
    exact ⟨S', g1, (ifr_ist (by simp)).trans g2, g3⟩
theorem Q12_add {i n m N Nx Ny vx vy : Nat} {S : ST} {x y to : Cl} (X : Cx G F W) (h : isMd W i) (hM : MdB S i n m) (hx : iok W x Nx) (hy : iok W y Ny) (ht : iok W to N) (hNx : n ≤ Nx) (hNy : n ≤ Ny) (hN : n ≤ N) (t0 : (.a 12 i 0 : Cl) ≠ to) (hvx : IV (igt S x) n vx) (hvy : IV (igt S y) n vy) (hT : vx + vy < 2 * m) : ∃ S', P_X12_add G F (W.ad (.o 12 i)) (W.ad x) (W.ad y) (W.ad to) (mem W S) = some (mem W S') ∧ ifr [to] S S' ∧ IV (igt S' to) n ((vx + vy) % m) := by
  have hF := X.hF
  have hn := hM.2.2.1
  obtain ⟨dx, hdx, rfl⟩ := hvx
  obtain ⟨dy, hdy, rfl⟩ := hvy
  exact Q12_add_l (G := G) (F := F) X h hx hy ht hNx hNy hN t0 hT n 0 F S 0 (fun _ => 0) (by omega) (by omega) hM (fun t _ h2 => hdx t h2) (fun t _ h2 => hdy t h2) (fun t ht => by omega) (by omega) (by simp [vN])
theorem Q12_sub_b {i n m N : Nat} {to : Cl} {e0 dm : Nat → Nat} (h : isMd W i) (ht : iok W to N) (hN : n ≤ N) (t0 : (.a 12 i 0 : Cl) ≠ to) : ∀ (q j fuel : Nat) (S : ST) (c : Nat) (e : Nat → Nat), q < fuel → j + q = n → MdB S i n m → ID (igt S (.a 12 i 0)) n dm → (∀ t, j ≤ t → t < n → igt S to t = (Int32.ofNat (e0 t)) ∧ e0 t < 4294967296) → ID (igt S to) j e → c ≤ 1 → vN e0 j + vN dm j = vN e j + c * 4294967296 ^ j → ∃ S' e' c', B_X12_subtract_72 G F fuel (W.ad (.o 12 i)) (W.ad to) 1 (Int64.ofNat c) (Int32.ofNat j) (mem W S) = some (mem W S') ∧ ifr [to] S S' ∧ ID (igt S' to) n e' ∧ vN e0 n + vN dm n = vN e' n + c' * 4294967296 ^ n := by
  intro q
  induction q with
  | zero =>
    intro j fuel S c e hf hj hM hm hd0 he hc hv
    obtain ⟨fuel, rfl⟩ : ∃ q, fuel = q + 1 := ⟨fuel - 1, by omega⟩
    obtain rfl : j = n := by omega
    have hn := hM.2.2.1
    rw [B_X12_subtract_72, h.gI, bO_s, hM.1, if_pos ((n_le (by omega) (by omega)).mpr (Nat.le_refl _))]
    exact ⟨S, e, c, rfl, ifr.refl _ _, he, hv⟩
  | succ q ih =>
    intro j fuel S c e hf hj hM hm hd0 he hc hv
    obtain ⟨fuel, rfl⟩ : ∃ q, fuel = q + 1 := ⟨fuel - 1, by omega⟩
    have hn := hM.2.2.1
    have hxj := hd0 j (by omega) (by omega)
    have hmj := hm j (by omega)
    have ea : ((((igt S to j).toInt64) &&& (4294967295 : Int64)) + (((igt S (.a 12 i 0) j).toInt64) &&& (4294967295 : Int64))) + Int64.ofNat c = Int64.ofNat (e0 j + dm j + c) := by rw [hxj.1, hmj.1, i_64 hxj.2, i_64 hmj.2, l_add, l_add]
    rw [B_X12_subtract_72, h.gI, bO_s, hM.1, if_neg (fun q => absurd ((n_le (by omega) (by omega)).mp q) (by omega)), if_pos (by decide), ix_get ht (by omega), bO_s, h.gR (by omega), bO_s, ix_get h.l0 (by omega), bO_s, ea, i_of64, l_ush (by omega), ix_set ht (by omega), bO_s, n_addL j 1]
    obtain ⟨S', e', c', g1, g2, g3, g4⟩ := ih (j + 1) fuel (ist S to (upd (igt S to) j (Int32.ofNat ((e0 j + dm j + c) % 4294967296)))) ((e0 j + dm j + c) / 4294967296) (vp_updN e j ((e0 j + dm j + c) % 4294967296)) (by omega) (by omega) (hM.ifr (ifr_ist (L := [to]) (by simp)) (by simpa using t0)) (by rw [igt_ne t0]; exact hm) (ikeep ht to e0 hd0) (by rw [igt_eq ht]; exact he.snoc rfl (by omega)) (by omega) (by
      rw [vN_upd, vN_s, vN_s, Nat.pow_succ]
      exact stepN hv (by omega))
    exact ⟨S', e', c', g1, (ifr_ist (by simp)).trans g2, g3, g4⟩
theorem Q12_sub_l {i n m N Nx Ny : Nat} {x y to : Cl} {dx dy : Nat → Nat} (X : Cx G F W) (h : isMd W i) (hx : iok W x Nx) (hy : iok W y Ny) (ht : iok W to N) (hNx : n ≤ Nx) (hNy : n ≤ Ny) (hN : n ≤ N) (t0 : (.a 12 i 0 : Cl) ≠ to) (hxm : vN dx n < m) (hym : vN dy n < m) : ∀ (q j fuel : Nat) (S : ST) (b : Nat) (e : Nat → Nat), q < fuel → j + q = n → MdB S i n m → (∀ t, j ≤ t → t < n → igt S x t = (Int32.ofNat (dx t)) ∧ dx t < 4294967296) → (∀ t, j ≤ t → t < n → igt S y t = (Int32.ofNat (dy t)) ∧ dy t < 4294967296) → ID (igt S to) j e → b ≤ 1 → (vN dx j : Int) - vN dy j = vN e j - (b : Int) * ((4294967296 ^ j : Nat) : Int) → ∃ S', B_X12_subtract_6 G F fuel (W.ad (.o 12 i)) (W.ad x) (W.ad y) (W.ad to) (Int64.ofNat b) (Int32.ofNat j) (mem W S) = some (mem W S') ∧ ifr [to] S S' ∧ IV (igt S' to) n ((vN dx n + (m - vN dy n)) % m) := by
  have hF := X.hF
  intro q
  induction q with
  | zero =>
    intro j fuel S b e hf hj hM hdx hdy he hb hv
    obtain ⟨fuel, rfl⟩ : ∃ q, fuel = q + 1 := ⟨fuel - 1, by omega⟩
    obtain ⟨F', hF'⟩ : ∃ q, F = q + 1 := ⟨F - 1, by omega⟩
    obtain rfl : j = n := by omega
    have hn1 := hM.2.1
    have hn := hM.2.2.1
    have hml := hM.2.2.2.1.lt
    have hel := he.lt
    obtain ⟨h0, _, _, ⟨dm, hm, hmv⟩, _⟩ := id hM
    rw [B_X12_subtract_6, h.gI, bO_s, h0, if_pos ((n_le (by omega) (by omega)).mpr (Nat.le_refl _))]
    by_cases c0 : b = 0
    · subst c0
      have e0 : B_X12_subtract_72 G F F (W.ad (.o 12 i)) (W.ad to) (Int64.ofNat 0) 0 0 (mem W S) = some (mem W S) := by
        conv => lhs; rw [hF']
        rw [B_X12_subtract_72, h.gI, bO_s, h0, if_neg (by rw [z32]; exact fun q => absurd ((n_le (by omega) (by omega)).mp q) (by omega)), if_neg (by decide)]
      rw [e0]
      refine ⟨S, rfl, ifr.refl _ _, e, he, ?_⟩
      rw [show vN dx j + (m - vN dy j) = (vN dx j - vN dy j) + m by omega, Nat.add_mod_right, Nat.mod_eq_of_lt (by omega)]
      omega
    · obtain rfl : b = 1 := by omega
      obtain ⟨S', e', c', g1, g2, g3, g4⟩ := Q12_sub_b (G := G) (F := F) (m := m) (dm := dm) (e0 := e) h ht hN t0 j 0 F S 0 (fun _ => 0) (by omega) (by omega) hM hm (fun t _ h2 => he t h2) (fun t ht => by omega) (by omega) (by simp [vN])
      refine ⟨S', g1, g2, e', g3, ?_⟩
      have hel' := g3.lt
      rw [hmv] at g4
      generalize hP : 4294967296 ^ j = P at *
      have hc1 : c' = 1 := by
        have hu : c' < 2 := by
          apply Nat.lt_of_not_le
          intro q
          have := Nat.mul_le_mul_right P q
          omega
        have hd : c' ≠ 0 := by
          intro q
          rw [q, Nat.zero_mul] at g4
          omega
        omega
      rw [hc1, Nat.one_mul] at g4
      rw [Nat.mod_eq_of_lt (by omega)]
      omega
  | succ q ih =>
    intro j fuel S b e hf hj hM hdx hdy he hb hv
    obtain ⟨fuel, rfl⟩ : ∃ q, fuel = q + 1 := ⟨fuel - 1, by omega⟩
    have h0 := hM.1
    have hn := hM.2.2.1
    have hxj := hdx j (by omega) (by omega)
    have hyj := hdy j (by omega) (by omega)
    obtain ⟨z, hz⟩ : ∃ z : Int, z = (dx j : Int) - dy j - b := ⟨_, rfl⟩
    have ea : ((((igt S x j).toInt64) &&& (4294967295 : Int64)) - (((igt S y j).toInt64) &&& (4294967295 : Int64))) - Int64.ofNat b = Int64.ofInt z := by rw [hxj.1, hyj.1, i_64 hxj.2, i_64 hyj.2, s_nat, s_nat, s_nat, s_sub, s_sub, hz]
    rw [B_X12_subtract_6, h.gI, bO_s, h0, if_neg (fun q => absurd ((n_le (by omega) (by omega)).mp q) (by omega)), ix_get hx (by omega), bO_s, ix_get hy (by omega), bO_s, ea, i_ofS, ix_set ht (by omega), bO_s, n_addL j 1]
    obtain ⟨lo, hlo⟩ : ∃ lo : Nat, lo = (z % 4294967296).toNat := ⟨_, rfl⟩
    have hlo2 : lo < 4294967296 := by omega
    rw [← hlo]
    have go : ∀ b' : Nat, b' ≤ 1 → z = lo - (b' : Int) * 4294967296 → ∃ S', B_X12_subtract_6 G F fuel (W.ad (.o 12 i)) (W.ad x) (W.ad y) (W.ad to) (Int64.ofNat b') (Int32.ofNat (j + 1)) (mem W (ist S to (upd (igt S to) j (Int32.ofNat lo)))) = some (mem W S') ∧ ifr [to] S S' ∧ IV (igt S' to) n ((vN dx n + (m - vN dy n)) % m) := by
      intro b' hb' hzb
      obtain ⟨S', g1, g2, g3⟩ := ih (j + 1) fuel (ist S to (upd (igt S to) j (Int32.ofNat lo))) b' (vp_updN e j lo) (by omega) (by omega) (hM.ifr (ifr_ist (L := [to]) (by simp)) (by simpa using t0)) (ikeep ht x dx hdx) (ikeep ht y dy hdy) (by rw [igt_eq ht]; exact he.snoc rfl hlo2) hb' (by
        rw [vN_upd, vN_s, vN_s, Nat.pow_succ]
        exact stepS hv (by rw [← hz]; exact hzb))
      exact ⟨S', g1, (ifr_ist (by simp)).trans g2, g3⟩
    by_cases c : 0 ≤ z
    · rw [if_pos ((s_nn (by omega) (by omega)).mpr c)]
      exact go 0 (by omega) (by omega)
    · rw [if_neg (fun q => c ((s_nn (by omega) (by omega)).mp q))]
      exact go 1 (by omega) (by omega)
theorem Q12_subtract {i n m N Nx Ny vx vy : Nat} {S : ST} {x y to : Cl} (X : Cx G F W) (h : isMd W i) (hM : MdB S i n m) (hx : iok W x Nx) (hy : iok W y Ny) (ht : iok W to N) (hNx : n ≤ Nx) (hNy : n ≤ Ny) (hN : n ≤ N) (t0 : (.a 12 i 0 : Cl) ≠ to) (hvx : IV (igt S x) n vx) (hvy : IV (igt S y) n vy) (hxm : vx < m) (hym : vy < m) : ∃ S', P_X12_subtract G F (W.ad (.o 12 i)) (W.ad x) (W.ad y) (W.ad to) (mem W S) = some (mem W S') ∧ ifr [to] S S' ∧ IV (igt S' to) n ((vx + (m - vy)) % m) := by
  have hF := X.hF
  have hn := hM.2.2.1
  obtain ⟨dx, hdx, rfl⟩ := hvx
  obtain ⟨dy, hdy, rfl⟩ := hvy
  exact Q12_sub_l (G := G) (F := F) X h hx hy ht hNx hNy hN t0 hxm hym n 0 F S 0 (fun _ => 0) (by omega) (by omega) hM (fun t _ h2 => hdx t h2) (fun t _ h2 => hdy t h2) (fun t ht => by omega) (by omega) (by simp [vN])
theorem tw_dig {d ov : Nat} (hd : d < 4294967296) (ho : ov ≤ 1) : ((Int32.ofNat d) <<< ((1 : Int32) &&& 31)) ||| (Int32.ofNat ov) = (Int32.ofNat (d * 2 % 4294967296 + ov)) ∧ ushI (Int32.ofNat d) 31 = (Int32.ofNat (d / 2147483648)) := by
  constructor
  · have e : ((1 : Int32) &&& 31) = (Int32.ofNat 1) := by decide
    rw [e, n_shl (by decide), i_mod, n_or]
    have e2 : d * 2 ^ 1 % 4294967296 = (d % 2147483648) * 2 ^ 1 := by omega
    rw [e2, or_add (show ov < 2 ^ 1 by omega)]
  · have := ushI_n (x := (Int32.ofNat d)) (s := 31) (by decide)
    have e : ((Int32.ofNat d)).toUInt32.toNat = d := by
      show ((Int32.ofNat d)).toBitVec.toNat = d
      rw [bv_of, BitVec.toNat_ofNat, Nat.mod_eq_of_lt hd]
    rw [e] at this
    exact this
theorem Q12_twice_l {i n m N : Nat} {x : Cl} {dx : Nat → Nat} (X : Cx G F W) (h : isMd W i) (hx : iok W x N) (hN : n ≤ N) (x0 : (.a 12 i 0 : Cl) ≠ x) (hxm : vN dx n < m) : ∀ (q j fuel : Nat) (S : ST) (c : Nat) (e : Nat → Nat), q < fuel → j + q = n → MdB S i n m → (∀ t, j ≤ t → t < n → igt S x t = (Int32.ofNat (dx t)) ∧ dx t < 4294967296) → ID (igt S x) j e → c ≤ 1 → vN dx j + vN dx j = vN e j + c * 4294967296 ^ j → ∃ S', B_X12_twice_4 G F fuel (W.ad (.o 12 i)) (W.ad x) (Int32.ofNat c) (Int32.ofNat j) (mem W S) = some (mem W S') ∧ ifr [x] S S' ∧ IV (igt S' x) n ((vN dx n + vN dx n) % m) := by
  intro q
  induction q with
  | zero =>
    intro j fuel S c e hf hj hM hdx he hc hv
    obtain ⟨fuel, rfl⟩ : ∃ q, fuel = q + 1 := ⟨fuel - 1, by omega⟩
    obtain rfl : j = n := by omega
    have hn := hM.2.2.1
    rw [B_X12_twice_4, h.gI, bO_s, hM.1, if_pos ((n_le (by omega) (by omega)).mpr (Nat.le_refl _)), hv]
    by_cases c1 : c = 1
    · subst c1
      rw [if_pos (show (Int32.ofNat 1) = 1 from rfl)]
      exact Q12_tail1 (G := G) (F := F) X h hM hx hN x0 ⟨e, he, rfl⟩ (by omega)
    · obtain rfl : c = 0 := by omega
      rw [if_neg (show ¬ (Int32.ofNat 0) = 1 by decide), Nat.zero_mul, Nat.add_zero]
      exact Q12_tail0 (G := G) (F := F) X h hM hx hN x0 ⟨e, he, rfl⟩ (by omega)
  | succ q ih =>
    intro j fuel S c e hf hj hM hdx he hc hv
    obtain ⟨fuel, rfl⟩ : ∃ q, fuel = q + 1 := ⟨fuel - 1, by omega⟩
    have hn := hM.2.2.1
    have hxj := hdx j (by omega) (by omega)
    obtain ⟨t1, t2⟩ := tw_dig hxj.2 hc
    rw [B_X12_twice_4, h.gI, bO_s, hM.1, if_neg (fun q => absurd ((n_le (by omega) (by omega)).mp q) (by omega)), ix_get hx (by omega), bO_s, bO_s, hxj.1, t1, t2, ix_set hx (by omega), bO_s, n_addL j 1]
    obtain ⟨S', g1, g2, g3⟩ := ih (j + 1) fuel (ist S x (upd (igt S x) j (Int32.ofNat (dx j * 2 % 4294967296 + c)))) (dx j / 2147483648) (vp_updN e j (dx j * 2 % 4294967296 + c)) (by omega) (by omega) (hM.ifr (ifr_ist (L := [x]) (by simp)) (by simpa using x0)) (ikeep hx x dx hdx) (by rw [igt_eq hx]; exact he.snoc rfl (by omega)) (by omega) (by
      rw [vN_upd, vN_s, Nat.pow_succ]
      exact stepN hv (by omega))
    exact ⟨S', g1, (ifr_ist (by simp)).trans g2, g3⟩
theorem Q12_twice {i n m N vx : Nat} {S : ST} {x : Cl} (X : Cx G F W) (h : isMd W i) (hM : MdB S i n m) (hx : iok W x N) (hN : n ≤ N) (x0 : (.a 12 i 0 : Cl) ≠ x) (hvx : IV (igt S x) n vx) (hxm : vx < m) : ∃ S', P_X12_twice G F (W.ad (.o 12 i)) (W.ad x) (mem W S) = some (mem W S') ∧ ifr [x] S S' ∧ IV (igt S' x) n ((vx + vx) % m) := by
  have hF := X.hF
  have hn := hM.2.2.1
  obtain ⟨dx, hdx, rfl⟩ := hvx
  exact Q12_twice_l (G := G) (F := F) X h hx hN x0 hxm n 0 F S 0 (fun _ => 0) (by omega) (by omega) hM (fun t _ h2 => hdx t h2) (fun t ht => by omega) (by omega) (by simp [vN])
theorem Q12_addOne_l {i n m N vx : Nat} {x : Cl} (X : Cx G F W) (h : isMd W i) (hx : iok W x N) (hN : n ≤ N) (x0 : (.a 12 i 0 : Cl) ≠ x) (hxm : vx < m) : ∀ (q j fuel : Nat) (S : ST) (c : Nat) (e : Nat → Nat), q < fuel → j + q = n → MdB S i n m → ID (igt S x) n e → c ≤ 1 → vx + 1 = vN e n + c * 4294967296 ^ j → ∃ S', B_X12_addOne_4 G F (fuel + 1) (W.ad (.o 12 i)) (W.ad x) (Int32.ofNat j) (Int32.ofNat c) (mem W S) = some (mem W S') ∧ ifr [x] S S' ∧ IV (igt S' x) n ((vx + 1) % m) := by
  have fin : ∀ (j fuel : Nat) (S : ST) (e : Nat → Nat), MdB S i n m → ID (igt S x) n e → vx + 1 = vN e n → ∃ S', B_X12_addOne_4 G F (fuel + 1) (W.ad (.o 12 i)) (W.ad x) (Int32.ofNat j) 0 (mem W S) = some (mem W S') ∧ ifr [x] S S' ∧ IV (igt S' x) n ((vx + 1) % m) := by
    intro j fuel S e hM he hv
    rw [B_X12_addOne_4, if_pos rfl, hv]
    exact Q12_tail0 (G := G) (F := F) X h hM hx hN x0 ⟨e, he, rfl⟩ (by omega)
  intro q
  induction q with
  | zero =>
    intro j fuel S c e hf hj hM he hc hv
    obtain rfl : j = n := by omega
    have hml := hM.2.2.2.1.lt
    have c0 : c = 0 := by
      by_cases c1 : c = 1
      · rw [c1, Nat.one_mul] at hv
        omega
      · omega
    subst c0
    rw [Nat.zero_mul, Nat.add_zero] at hv
    exact fin j fuel S e hM he hv
  | succ q ih =>
    intro j fuel S c e hf hj hM he hc hv
    by_cases c0 : c = 0
    · subst c0
      rw [Nat.zero_mul, Nat.add_zero] at hv
      exact fin j fuel S e hM he hv
    obtain rfl : c = 1 := by omega
    obtain ⟨fuel, rfl⟩ : ∃ q, fuel = q + 1 := ⟨fuel - 1, by omega⟩
    have hn := hM.2.2.1
    have hej := he j (by omega)
    rw [B_X12_addOne_4, if_neg (by decide), h.gI, bO_s, hM.1, if_neg (fun q => absurd ((n_le (by omega) (by omega)).mp q) (by omega)), ix_get hx (by omega), bO_s, hej.1, n_addL (e j) 1, i_mod (e j + 1), ix_set hx (by omega), bO_s, ix_get hx (by omega), bO_s, igt_eq hx, upd_eq, n_addL j 1]
    have hset := vN_set (d := e) (k := j) (x := (e j + 1) % 4294967296) n (by omega)
    have f1 : ifr [x] S (ist S x (upd (igt S x) j (Int32.ofNat ((e j + 1) % 4294967296)))) := ifr_ist (by simp)
    have he' : ID (igt (ist S x (upd (igt S x) j (Int32.ofNat ((e j + 1) % 4294967296)))) x) n (vp_updN e j ((e j + 1) % 4294967296)) := by
      rw [igt_eq hx]
      intro t ht
      by_cases c : t = j
      · rw [c, upd_eq, updN_eq]; exact ⟨rfl, Nat.mod_lt _ (by decide)⟩
      · rw [upd_ne c, updN_ne c]; exact he t ht
    have hM' : MdB (ist S x (upd (igt S x) j (Int32.ofNat ((e j + 1) % 4294967296)))) i n m := hM.ifr f1 (by simpa using x0)
    by_cases c2 : e j + 1 = 4294967296
    · have e3 : (e j + 1) % 4294967296 = 0 := by omega
      rw [if_pos (show (Int32.ofNat ((e j + 1) % 4294967296)) = 0 by rw [e3]; rfl)]
      obtain ⟨S', g1, g2, g3⟩ := ih (j + 1) fuel _ 1 _ (by omega) (by omega) hM' he' (by omega) (by
        rw [e3] at hset ⊢
        rw [Nat.zero_mul, Nat.add_zero, show e j = 4294967295 by omega] at hset
        rw [Nat.pow_succ]
        omega)
      exact ⟨S', g1, f1.trans g2, g3⟩
    · have e3 : (e j + 1) % 4294967296 = e j + 1 := by omega
      rw [if_neg (show ¬ (Int32.ofNat ((e j + 1) % 4294967296)) = 0 by rw [z32]; exact fun q => absurd ((i_inj (by omega) (by omega)).mp q) (by omega))]
      obtain ⟨S', g1, g2, g3⟩ := fin (j + 1) fuel _ _ hM' he' (by
        rw [e3] at hset ⊢
        rw [Nat.add_mul] at hset
        omega)
      exact ⟨S', g1, f1.trans g2, g3⟩
theorem Q12_addOne {i n m N vx : Nat} {S : ST} {x : Cl} (X : Cx G F W) (h : isMd W i) (hM : MdB S i n m) (hx : iok W x N) (hN : n ≤ N) (x0 : (.a 12 i 0 : Cl) ≠ x) (hvx : IV (igt S x) n vx) (hxm : vx < m) : ∃ S', P_X12_addOne G F (W.ad (.o 12 i)) (W.ad x) (mem W S) = some (mem W S') ∧ ifr [x] S S' ∧ IV (igt S' x) n ((vx + 1) % m) := by
  have hF := X.hF
  have hn := hM.2.2.1
  obtain ⟨F', hF'⟩ : ∃ q, F = q + 1 := ⟨F - 1, by omega⟩
  obtain ⟨dx, hdx, hvv⟩ := hvx
  obtain ⟨S', g1, g2, g3⟩ := Q12_addOne_l (G := G) (F := F) (vx := vx) X h hx hN x0 hxm n 0 F' S 1 dx (by omega) (by omega) hM hdx (by omega) (by rw [hvv, Nat.pow_zero])
  rw [← hF'] at g1
  exact ⟨S', g1, g2, g3⟩
theorem Q12_isZero_l {i n N : Nat} {S : ST} {x : Cl} {d : Nat → Nat} (h : isMd W i) (hx : iok W x N) (hn : n ≤ 32) (hN : n ≤ N) (h0 : (S 12 i).f 1 = (Int32.ofNat n)) (hd : ID (igt S x) n d) : ∀ (q j fuel : Nat) (f : Bool), q < fuel → j + q = n → (f = true ↔ ∀ t, t < j → d t = 0) → B_X12_isZero_4 G F fuel (W.ad (.o 12 i)) (W.ad x) (if f then 1 else 0) (Int32.ofNat j) (mem W S) = some (if vN d n = 0 then 1 else 0, mem W S) := by
  intro q
  induction q with
  | zero =>
    intro j fuel f hf hj hz
    obtain ⟨fuel, rfl⟩ : ∃ q, fuel = q + 1 := ⟨fuel - 1, by omega⟩
    obtain rfl : j = n := by omega
    rw [B_X12_isZero_4, h.gI, bO_s, h0, if_pos ((n_le (by omega) (by omega)).mpr (by omega))]
    cases f with
    | true => rw [if_pos (c := vN d j = 0) (vN_zero (hz.mp rfl))]; rfl
    | false => rw [if_neg (c := vN d j = 0) (fun q => absurd (hz.mpr (vN_z q)) (by decide))]; rfl
  | succ q ih =>
    intro j fuel f hf hj hz
    obtain ⟨fuel, rfl⟩ : ∃ q, fuel = q + 1 := ⟨fuel - 1, by omega⟩
    have hdj := hd j (by omega)
    rw [B_X12_isZero_4, h.gI, bO_s, h0, if_neg (fun q => absurd ((n_le (by omega) (by omega)).mp q) (by omega)), n_addL j 1]
    cases f with
    | false =>
      rw [if_pos (by rfl)]
      exact ih (j + 1) fuel false (by omega) (by omega) ⟨fun q => absurd q (by decide), fun q => absurd (hz.mpr (fun t ht => q t (by omega))) (by decide)⟩
    | true =>
      rw [if_neg (by decide), ix_get hx (by omega), bO_s, hdj.1]
      by_cases c : d j = 0
      · rw [if_pos (show (Int32.ofNat (d j)) = 0 by rw [c]; rfl)]
        exact ih (j + 1) fuel true (by omega) (by omega) ⟨fun _ t ht => by
          by_cases e : t = j
          · rw [e]; exact c
          · exact hz.mp rfl t (by omega), fun _ => rfl⟩
      · rw [if_neg (show ¬ (Int32.ofNat (d j)) = 0 by rw [z32]; exact fun q => c ((i_inj hdj.2 (by omega)).mp q))]
        exact ih (j + 1) fuel false (by omega) (by omega) ⟨fun q => absurd q (by decide), fun q => absurd (q j (by omega)) c⟩
theorem Q12_isZero {i n N v : Nat} {S : ST} {x : Cl} (X : Cx G F W) (h : isMd W i) (hx : iok W x N) (hn : n ≤ 32) (hN : n ≤ N) (h0 : (S 12 i).f 1 = (Int32.ofNat n)) (hd : IV (igt S x) n v) : P_X12_isZero G F (W.ad (.o 12 i)) (W.ad x) (mem W S) = some (if v = 0 then 1 else 0, mem W S) := by
  have hF := X.hF
  obtain ⟨d, h1, rfl⟩ := hd
  exact Q12_isZero_l (G := G) (F := F) h hx hn hN h0 h1 n 0 F true (by omega) (by omega) ⟨fun _ t ht => by omega, fun _ => rfl⟩
end IADD
