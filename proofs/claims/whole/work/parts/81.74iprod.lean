/-! THE MODEL'S MODULUS: product -/
section IPROD
variable {W : WR} {G : mG} {F : Nat}
theorem Q12_p219 {r31 : Nat → Nat → Nat → Nat → Int32 → mM → Option mM} {i n q top l1 l2 l3 : Nat} {l4 : Int32} {dm ds : Nat → Nat} (h : isMd W i) (hn : n ≤ 32) (hq : q < 4294967296) (htop : top < 8589934592) : ∀ (m k fuel : Nat) (S : ST) (c : Nat) (r : Nat → Nat), m < fuel → k + 1 + m = n → (S 12 i).f 1 = (Int32.ofNat n) → ID (igt S (.a 12 i 0)) n dm → ID (igt S (.a 12 i 5)) k r → (∀ t, k + 1 ≤ t → t < n → igt S (.a 12 i 5) t = (Int32.ofNat (ds t)) ∧ ds t < 4294967296) → igt S (.a 12 i 5) n = (Int32.ofNat (top % 4294967296)) → igt S (.a 12 i 5) (n + 1) = (Int32.ofNat (top / 4294967296)) → c < 4294967296 → vN ds (k + 1) + q * vN dm (k + 1) = 4294967296 * (vN r k + c * 4294967296 ^ k) → ∃ S' r' tp', B_X12_product_219 G F r31 fuel (W.ad (.o 12 i)) l1 l2 l3 l4 (Int64.ofNat c) (Int64.ofNat q) (Int32.ofNat (k + 1)) (mem W S) = r31 (W.ad (.o 12 i)) l1 l2 l3 (l4 + 1) (mem W S') ∧ ifr [.a 12 i 5] S S' ∧ ID (igt S' (.a 12 i 5)) n r' ∧ igt S' (.a 12 i 5) n = (Int32.ofNat tp') ∧ tp' < 10 ∧ vN ds n + top * 4294967296 ^ n + q * vN dm n = 4294967296 * (vN r' n + tp' * 4294967296 ^ n) := by
  intro m
  induction m with
  | zero =>
    intro k fuel S c r hf hj h0 hm hr hs ht1 ht2 hc hv
    obtain ⟨fuel, rfl⟩ : ∃ q, fuel = q + 1 := ⟨fuel - 1, by omega⟩
    obtain rfl : n = k + 1 := by omega
    have ea : ((((Int32.ofNat (top % 4294967296))).toInt64) &&& (4294967295 : Int64)) + Int64.ofNat c = Int64.ofNat (top % 4294967296 + c) := by rw [i_64 (by omega), l_add]
    rw [B_X12_product_219, h.gI, bO_s, h0, if_pos ((n_le (by omega) (by omega)).mpr (Nat.le_refl _)), h.gR (by omega), bO_s, bO_s, ix_get h.l5 (by omega), bO_s, bO_s, bO_s, ht1, ea, i_of64, l_ush (by omega), i_of64, n_subL 1 (by omega), Nat.add_sub_cancel, ix_set h.l5 (by omega), bO_s]
    obtain ⟨S1, hS1⟩ : ∃ S1, S1 = ist S (.a 12 i 5) (upd (igt S (.a 12 i 5)) k (Int32.ofNat ((top % 4294967296 + c) % 4294967296))) := ⟨_, rfl⟩
    have f1 : ifr [.a 12 i 5] S S1 := by rw [hS1]; exact ifr_ist (by simp)
    have g1 : igt S1 (.a 12 i 5) (k + 1 + 1) = (Int32.ofNat (top / 4294967296)) := by rw [hS1, igt_eq h.l5, upd_ne (by omega)]; exact ht2
    rw [← hS1, h.gR (by omega), bO_s, h.gI, bO_s, (f1.1 12 i).1, h0, bO_s, bO_s, n_addL (k + 1) 1, ix_get h.l5 (by omega), bO_s, g1, n_add, ix_set h.l5 (by omega), bO_s]
    refine ⟨_, vp_updN r k ((top % 4294967296 + c) % 4294967296), top / 4294967296 + (top % 4294967296 + c) / 4294967296 % 4294967296, rfl, f1.trans (ifr_ist (by simp)), ?_, ?_, by omega, ?_⟩
    · rw [igt_eq h.l5]
      refine ID.congr (f := igt S1 (.a 12 i 5)) ?_ (fun t ht => upd_ne (by omega))
      rw [hS1, igt_eq h.l5]
      exact hr.snoc rfl (by omega)
    · rw [igt_eq h.l5, upd_eq]
    · rw [vN_upd, Nat.pow_succ]
      exact stepE hv (by omega)
  | succ m ih =>
    intro k fuel S c r hf hj h0 hm hr hs ht1 ht2 hc hv
    obtain ⟨fuel, rfl⟩ : ∃ q, fuel = q + 1 := ⟨fuel - 1, by omega⟩
    have hmj := hm (k + 1) (by omega)
    have hsj := hs (k + 1) (by omega) (by omega)
    have hmul := mul_lt64 hq hmj.2
    have ea : ((((igt S (.a 12 i 5) (k + 1)).toInt64) &&& (4294967295 : Int64)) + (Int64.ofNat q * (((igt S (.a 12 i 0) (k + 1)).toInt64) &&& (4294967295 : Int64)))) + Int64.ofNat c = Int64.ofNat (ds (k + 1) + q * dm (k + 1) + c) := by rw [hmj.1, hsj.1, i_64 hmj.2, i_64 hsj.2, l_mul, l_add, l_add]
    rw [B_X12_product_219, h.gI, bO_s, h0, if_neg (fun q => absurd ((n_le (by omega) (by omega)).mp q) (by omega)), h.gR (by omega), bO_s, ix_get h.l5 (by omega), bO_s, h.gR (by omega), bO_s, ix_get h.l0 (by omega), bO_s, bO_s, ea, i_of64, l_ush (by omega), n_subL 1 (by omega), Nat.add_sub_cancel, ix_set h.l5 (by omega), bO_s, n_addL (k + 1) 1]
    obtain ⟨S', r', tp', g1, g2, g3, g4, g5, g6⟩ := ih (k + 1) fuel (ist S (.a 12 i 5) (upd (igt S (.a 12 i 5)) k (Int32.ofNat ((ds (k + 1) + q * dm (k + 1) + c) % 4294967296)))) ((ds (k + 1) + q * dm (k + 1) + c) / 4294967296) (vp_updN r k ((ds (k + 1) + q * dm (k + 1) + c) % 4294967296)) (by omega) (by omega) (by rw [(ist_fgl _ _ _ _ _).1]; exact h0) (by rw [igt_ne (by simp)]; exact hm) (by rw [igt_eq h.l5]; exact hr.snoc rfl (by omega)) (fun t h1 h2 => by rw [igt_eq h.l5, upd_ne (by omega)]; exact hs t (by omega) h2) (by rw [igt_eq h.l5, upd_ne (by omega)]; exact ht1) (by rw [igt_eq h.l5, upd_ne (by omega)]; exact ht2) (by omega) (by
      rw [vN_upd, vN_s ds (k + 1), vN_s dm (k + 1), Nat.pow_succ]
      exact stepD hv (by omega))
    exact ⟨S', r', tp', g1, (ifr_ist (by simp)).trans g2, g3, g4, g5, g6⟩
theorem Q12_p57 {r31 : Nat → Nat → Nat → Nat → Int32 → mM → Option mM} {i n dig tp tw Ny l1 l3 : Nat} {l4 : Int32} {y : Cl} {dm dy ds : Nat → Nat} (X : Cx G F W) (h : isMd W i) (hy : iok W y Ny) (hn1 : 1 ≤ n) (hn : n ≤ 32) (hNy : n ≤ Ny) (y5 : y ≠ .a 12 i 5) (hd : dig < 4294967296) (htp : tp ≤ 10) (htw : tw < 4294967296) (htm : (tw * vN dm n + 1) % 4294967296 = 0) : ∀ (m j fuel : Nat) (S : ST) (c : Nat) (e : Nat → Nat), m < fuel → j + m = n → (S 12 i).f 1 = (Int32.ofNat n) → (S 12 i).f 2 = (Int32.ofNat tw) → ID (igt S (.a 12 i 0)) n dm → ID (igt S y) n dy → ID (igt S (.a 12 i 5)) j e → (∀ t, j ≤ t → t < n → igt S (.a 12 i 5) t = (Int32.ofNat (ds t)) ∧ ds t < 4294967296) → igt S (.a 12 i 5) n = (Int32.ofNat tp) → c < 4294967296 → vN ds j + dig * vN dy j = vN e j + c * 4294967296 ^ j → ∃ S' r' tp' q, B_X12_product_57 G F r31 fuel (W.ad (.o 12 i)) l1 (W.ad y) l3 l4 (Int64.ofNat c) (Int64.ofNat dig) (Int32.ofNat j) (mem W S) = r31 (W.ad (.o 12 i)) l1 (W.ad y) l3 (l4 + 1) (mem W S') ∧ ifr [.a 12 i 5] S S' ∧ ID (igt S' (.a 12 i 5)) n r' ∧ igt S' (.a 12 i 5) n = (Int32.ofNat tp') ∧ tp' < 10 ∧ q < 4294967296 ∧ (vN ds n + tp * 4294967296 ^ n) + dig * vN dy n + q * vN dm n = 4294967296 * (vN r' n + tp' * 4294967296 ^ n) := by
  have hF := X.hF
  intro m
  induction m with
  | zero =>
    intro j fuel S c e hf hj h0 hg hm hdy he hs ht hc hv
    obtain ⟨fuel, rfl⟩ : ∃ q, fuel = q + 1 := ⟨fuel - 1, by omega⟩
    obtain rfl : j = n := by omega
    have ea : (((igt S (.a 12 i 5) j).toInt64) &&& (4294967295 : Int64)) + Int64.ofNat c = Int64.ofNat (tp + c) := by rw [ht, i_64 (by omega), l_add]
    rw [B_X12_product_57, h.gI, bO_s, h0, if_pos ((n_le (by omega) (by omega)).mpr (Nat.le_refl _)), h.gR (k := 5) (by omega), bO_s, bO_s, ix_get h.l5 (by omega), bO_s, bO_s, bO_s, ea, i_of64, l_ush (by omega), i_of64, ix_set h.l5 (by omega), bO_s]
    obtain ⟨S1, hS1⟩ : ∃ S1, S1 = ist S (.a 12 i 5) (upd (igt S (.a 12 i 5)) j (Int32.ofNat ((tp + c) % 4294967296))) := ⟨_, rfl⟩
    have f1 : ifr [.a 12 i 5] S S1 := by rw [hS1]; exact ifr_ist (by simp)
    rw [← hS1, h.gR (k := 5) (by omega), bO_s, h.gI, bO_s, (f1.1 12 i).1, h0, n_addL j 1, ix_set h.l5 (by omega), bO_s]
    obtain ⟨S2, hS2⟩ : ∃ S2, S2 = ist S1 (.a 12 i 5) (upd (igt S1 (.a 12 i 5)) (j + 1) (Int32.ofNat ((tp + c) / 4294967296 % 4294967296))) := ⟨_, rfl⟩
    have f2 : ifr [.a 12 i 5] S S2 := f1.trans (by rw [hS2]; exact ifr_ist (by simp))
    have g5 : ∀ t, t < j → igt S2 (.a 12 i 5) t = igt S (.a 12 i 5) t := by
      intro t h1
      rw [hS2, igt_eq h.l5, upd_ne (by omega), hS1, igt_eq h.l5, upd_ne (by omega)]
    have gn : igt S2 (.a 12 i 5) j = (Int32.ofNat ((tp + c) % 4294967296)) := by rw [hS2, igt_eq h.l5, upd_ne (by omega), hS1, igt_eq h.l5, upd_eq]
    have gn1 : igt S2 (.a 12 i 5) (j + 1) = (Int32.ofNat ((tp + c) / 4294967296)) := by
      rw [hS2, igt_eq h.l5, upd_eq, show (tp + c) / 4294967296 % 4294967296 = (tp + c) / 4294967296 by omega]
    have h5 := he 0 (by omega)
    have hm0 := hm 0 (by omega)
    have v5 : igt S2 (.a 12 i 5) 0 = (Int32.ofNat (e 0)) := by rw [g5 0 (by omega)]; exact h5.1
    have v0 : igt S2 (.a 12 i 0) 0 = (Int32.ofNat (dm 0)) := by rw [f2.2 _ (by simp)]; exact hm0.1
    obtain ⟨q, hq⟩ : ∃ q, q = e 0 * tw % 4294967296 := ⟨_, rfl⟩
    have hq2 : q < 4294967296 := by omega
    have hmul := mul_lt64 hq2 hm0.2
    have eb : (((Int32.ofNat (e 0)) * (Int32.ofNat tw)).toInt64) &&& (4294967295 : Int64) = Int64.ofNat q := by rw [n_mul, i_mod, ← hq, i_64 hq2]
    have ec : ushL (((((Int32.ofNat (e 0))).toInt64) &&& (4294967295 : Int64)) + (Int64.ofNat q * ((((Int32.ofNat (dm 0))).toInt64) &&& (4294967295 : Int64)))) (32 : Int32) = Int64.ofNat ((e 0 + q * dm 0) / 4294967296) := by rw [i_64 h5.2, i_64 hm0.2, l_mul, l_add, l_ush (by omega)]
    have q5 : aI G (mem W S2) 0 (W.ad (.a 12 i 5)) (0 : Int32) = some (igt S2 (.a 12 i 5) 0) := ix_get (j := 0) h.l5 (by omega)
    have q0 : aI G (mem W S2) 0 (W.ad (.a 12 i 0)) (0 : Int32) = some (igt S2 (.a 12 i 0) 0) := ix_get (j := 0) h.l0 (by omega)
    have gl : gfI (mem W S2) (W.ad (.o 12 i)) 12 2 = some ((S2 12 i).f 2) := gfI_m h.1 rfl
    rw [← hS2, h.gR (k := 5) (by omega), bO_s, q5, bO_s, gl, bO_s, bO_s, q5, bO_s, h.gR (k := 0) (by omega), bO_s, q0, bO_s, (f2.1 12 i).1, hg, v5, v0, eb, ec]
    have hmod : (e 0 + q * dm 0) % 4294967296 = 0 := by
      have e1 : dm 0 = vN dm j % 4294967296 := (vN_mod hm0.2 hn1).symm
      rw [Nat.add_comm, hq, e1, Nat.add_mod, ← Nat.mul_mod, ← Nat.add_mod, show e 0 * tw * vN dm j + e 0 = e 0 * (tw * vN dm j + 1) by rw [Nat.mul_add, Nat.mul_one, Nat.mul_assoc], Nat.mul_mod, htm, Nat.mul_zero, Nat.zero_mod]
    obtain ⟨S', r', tp', g1, g2, g3, g4, g6, g7⟩ := Q12_p219 (G := G) (F := F) (r31 := r31) (q := q) (top := tp + c) (l1 := l1) (l2 := W.ad y) (l3 := l3) (l4 := l4) (dm := dm) (ds := e) h hn hq2 (by omega) (j - 1) 0 F S2 ((e 0 + q * dm 0) / 4294967296) (fun _ => 0) (by omega) (by omega) (by rw [(f2.1 12 i).1]; exact h0) (by rw [f2.2 _ (by simp)]; exact hm) (fun t ht => by omega) (fun t _ h2 => by rw [g5 t h2]; exact he t h2) gn gn1 (by omega) (by
      show (0 + e 0 * 1) + q * (0 + dm 0 * 1) = 4294967296 * (0 + _ * 1)
      rw [Nat.zero_add, Nat.zero_add, Nat.zero_add, Nat.mul_one, Nat.mul_one, Nat.mul_one]
      omega)
    refine ⟨S', r', tp', q, g1, f2.trans g2, g3, g4, g6, hq2, ?_⟩
    rw [← g7, Nat.add_mul]
    omega
  | succ m ih =>
    intro j fuel S c e hf hj h0 hg hm hdy he hs ht hc hv
    obtain ⟨fuel, rfl⟩ : ∃ q, fuel = q + 1 := ⟨fuel - 1, by omega⟩
    have hyj := hdy j (by omega)
    have hsj := hs j (by omega) (by omega)
    have hmul := mul_lt64 hd hyj.2
    have ea : ((((igt S (.a 12 i 5) j).toInt64) &&& (4294967295 : Int64)) + (Int64.ofNat dig * (((igt S y j).toInt64) &&& (4294967295 : Int64)))) + Int64.ofNat c = Int64.ofNat (ds j + dig * dy j + c) := by rw [hyj.1, hsj.1, i_64 hyj.2, i_64 hsj.2, l_mul, l_add, l_add]
    rw [B_X12_product_57, h.gI, bO_s, h0, if_neg (fun q => absurd ((n_le (by omega) (by omega)).mp q) (by omega)), h.gR (by omega), bO_s, ix_get h.l5 (by omega), bO_s, ix_get hy (by omega), bO_s, bO_s, ea, i_of64, l_ush (by omega), ix_set h.l5 (by omega), bO_s, n_addL j 1]
    obtain ⟨S', r', tp', q, g1, g2, g3, g4, g5⟩ := ih (j + 1) fuel (ist S (.a 12 i 5) (upd (igt S (.a 12 i 5)) j (Int32.ofNat ((ds j + dig * dy j + c) % 4294967296)))) ((ds j + dig * dy j + c) / 4294967296) (vp_updN e j ((ds j + dig * dy j + c) % 4294967296)) (by omega) (by omega) (by rw [(ist_fgl _ _ _ _ _).1]; exact h0) (by rw [(ist_fgl _ _ _ _ _).1]; exact hg) (by rw [igt_ne (by simp)]; exact hm) (by rw [igt_ne y5]; exact hdy) (by rw [igt_eq h.l5]; exact he.snoc rfl (by omega)) (fun t h1 h2 => by rw [igt_eq h.l5, upd_ne (by omega)]; exact hs t (by omega) h2) (by rw [igt_eq h.l5, upd_ne (by omega)]; exact ht) (by omega) (by
      rw [vN_upd, vN_s ds j, vN_s dy j, Nat.pow_succ]
      exact stepT hv (by omega))
    exact ⟨S', r', tp', q, g1, (ifr_ist (by simp)).trans g2, g3, g4, g5⟩
theorem Q12_p374 {i n m N tp : Nat} {to : Cl} {s : Nat → Nat} (X : Cx G F W) (h : isMd W i) (ht : iok W to N) (hN : n ≤ N) (t0 : (.a 12 i 0 : Cl) ≠ to) (t5 : (.a 12 i 5 : Cl) ≠ to) (htp : tp ≤ 1) (hT : vN s n + tp * 4294967296 ^ n < 2 * m) : ∀ (q j fuel : Nat) (S : ST), q < fuel → j + q = n → MdB S i n m → ID (igt S (.a 12 i 5)) n s → ID (igt S to) j s → ∃ S', B_X12_product_374 G F fuel (W.ad (.o 12 i)) (W.ad to) (Int32.ofNat tp) (Int32.ofNat j) (mem W S) = some (mem W S') ∧ ifr [to] S S' ∧ IV (igt S' to) n ((vN s n + tp * 4294967296 ^ n) % m) := by
  intro q
  induction q with
  | zero =>
    intro j fuel S hf hj hM hs he
    obtain ⟨fuel, rfl⟩ : ∃ q, fuel = q + 1 := ⟨fuel - 1, by omega⟩
    obtain rfl : j = n := by omega
    have hn := hM.2.2.1
    rw [B_X12_product_374, h.gI, bO_s, hM.1, if_pos ((n_le (by omega) (by omega)).mpr (Nat.le_refl _))]
    by_cases c1 : tp = 1
    · subst c1
      rw [if_neg (show ¬ (Int32.ofNat 1) = 0 by decide)]
      exact Q12_tail1 (G := G) (F := F) X h hM ht hN t0 ⟨s, he, rfl⟩ (by omega)
    · obtain rfl : tp = 0 := by omega
      rw [if_pos (show (Int32.ofNat 0) = 0 from rfl), Nat.zero_mul, Nat.add_zero]
      exact Q12_tail0 (G := G) (F := F) X h hM ht hN t0 ⟨s, he, rfl⟩ (by omega)
  | succ q ih =>
    intro j fuel S hf hj hM hs he
    obtain ⟨fuel, rfl⟩ : ∃ q, fuel = q + 1 := ⟨fuel - 1, by omega⟩
    have hn := hM.2.2.1
    have hsj := hs j (by omega)
    rw [B_X12_product_374, h.gI, bO_s, hM.1, if_neg (fun q => absurd ((n_le (by omega) (by omega)).mp q) (by omega)), h.gR (by omega), bO_s, ix_get h.l5 (by omega), bO_s, hsj.1, ix_set ht (by omega), bO_s, n_addL j 1]
    obtain ⟨S', g1, g2, g3⟩ := ih (j + 1) fuel (ist S to (upd (igt S to) j (Int32.ofNat (s j)))) (by omega) (by omega) (hM.ifr (ifr_ist (L := [to]) (by simp)) (by simpa using t0)) (by rw [igt_ne t5]; exact hs) (by
      rw [igt_eq ht]
      intro t h2
      by_cases c : t = j
      · rw [c, upd_eq]; exact ⟨rfl, hsj.2⟩
      · rw [upd_ne c]; exact he t (by omega))
    exact ⟨S', g1, (ifr_ist (by simp)).trans g2, g3⟩
theorem Q12_p31 {i n m tw Nx Ny N : Nat} {x y to : Cl} {dx dy : Nat → Nat} (X : Cx G F W) (h : isMd W i) (hx : iok W x Nx) (hy : iok W y Ny) (ht : iok W to N) (hNx : n ≤ Nx) (hNy : n ≤ Ny) (hN : n ≤ N) (x5 : x ≠ .a 12 i 5) (y5 : y ≠ .a 12 i 5) (t5 : (.a 12 i 5 : Cl) ≠ to) (t0 : (.a 12 i 0 : Cl) ≠ to) (htw : tw < 4294967296) (htm : (tw * m + 1) % 4294967296 = 0) (hym : vN dy n < m) : ∀ (q k fuel : Nat) (S : ST) (s : Nat → Nat) (tp Q : Nat), q < fuel → k + q = n → MdB S i n m → (S 12 i).f 2 = (Int32.ofNat tw) → ID (igt S x) n dx → ID (igt S y) n dy → ID (igt S (.a 12 i 5)) n s → igt S (.a 12 i 5) n = (Int32.ofNat tp) → (vN s n + tp * 4294967296 ^ n) * 4294967296 ^ k = vN dx k * vN dy n + Q * m → Q < 4294967296 ^ k → ∃ S' T Q', B_X12_product_31 G F fuel (W.ad (.o 12 i)) (W.ad x) (W.ad y) (W.ad to) (Int32.ofNat k) (mem W S) = some (mem W S') ∧ ifr [to, .a 12 i 5] S S' ∧ IV (igt S' to) n (T % m) ∧ T * 4294967296 ^ n = vN dx n * vN dy n + Q' * m := by
  have hF := X.hF
  intro q
  induction q with
  | zero =>
    intro k fuel S s tp Q hf hj hM hg hdx hdy hs hst hv hQ
    obtain ⟨fuel, rfl⟩ : ∃ q, fuel = q + 1 := ⟨fuel - 1, by omega⟩
    obtain rfl : k = n := by omega
    have hn := hM.2.2.1
    have hb := mont_bound hv hdx.lt hQ hym
    have hml := hM.2.2.2.1.lt
    have htp : tp < 2 := by
      apply Nat.lt_of_not_le
      intro q
      have := Nat.mul_le_mul_right (4294967296 ^ k) q
      omega
    rw [B_X12_product_31, h.gI, bO_s, hM.1, if_pos ((n_le (by omega) (by omega)).mpr (Nat.le_refl _)), h.gR (by omega), bO_s, bO_s, ix_get h.l5 (by omega), bO_s, hst]
    obtain ⟨S', g1, g2, g3⟩ := Q12_p374 (G := G) (F := F) (tp := tp) X h ht hN t0 t5 (by omega) hb k 0 F S (by omega) (by omega) hM hs (fun t ht => by omega)
    have g1' : B_X12_product_374 G F F (W.ad (.o 12 i)) (W.ad to) (Int32.ofNat tp) 0 (mem W S) = _ := g1
    refine ⟨S', _, Q, ?_, g2.mono (by simp), g3, hv⟩
    by_cases c : tp = 0
    · rw [if_pos (show (Int32.ofNat tp) = 0 by rw [c]; rfl), ← g1', c]; rfl
    · rw [if_neg (show ¬ (Int32.ofNat tp) = 0 by rw [z32]; exact fun q => c ((n_eq (by omega) (by omega)).mp q)), ← g1', show tp = 1 by omega]; rfl
  | succ q ih =>
    intro k fuel S s tp Q hf hj hM hg hdx hdy hs hst hv hQ
    obtain ⟨fuel, rfl⟩ : ∃ q, fuel = q + 1 := ⟨fuel - 1, by omega⟩
    have hn1 := hM.2.1
    have hn := hM.2.2.1
    have hb := mont_bound hv (vN_lt (fun t ht => (hdx t (by omega)).2)) hQ hym
    have hml := hM.2.2.2.1.lt
    have htp : tp < 2 := by
      apply Nat.lt_of_not_le
      intro q
      have := Nat.mul_le_mul_right (4294967296 ^ n) q
      omega
    obtain ⟨h0, _, _, ⟨dm, hm, hmv⟩, _⟩ := id hM
    have hxk := hdx k (by omega)
    rw [B_X12_product_31, h.gI, bO_s, h0, if_neg (fun q => absurd ((n_le (by omega) (by omega)).mp q) (by omega)), ix_get hx (by omega), bO_s, hxk.1, i_64 hxk.2]
    obtain ⟨S1, r1, tp1, q, g1, g2, g3, g4, g5, g6, g7⟩ := Q12_p57 (G := G) (F := F) (r31 := B_X12_product_31 G F fuel) (dig := dx k) (tp := tp) (tw := tw) (l1 := W.ad x) (l3 := W.ad to) (l4 := (Int32.ofNat k)) (dm := dm) (dy := dy) (ds := s) X h hy hn1 hn hNy y5 hxk.2 (by omega) htw (by rw [hmv]; exact htm) n 0 F S 0 (fun _ => 0) (by omega) (by omega) h0 hg hm hdy (fun t ht => by omega) (fun t _ h2 => hs t h2) hst (by omega) (by simp [vN])
    have g1' : B_X12_product_57 G F (B_X12_product_31 G F fuel) F (W.ad (.o 12 i)) (W.ad x) (W.ad y) (W.ad to) (Int32.ofNat k) 0 (Int64.ofNat (dx k)) 0 (mem W S) = _ := g1
    rw [g1', n_addL k 1]
    rw [hmv] at g7
    have hq : q * 4294967296 ^ k ≤ 4294967295 * 4294967296 ^ k := Nat.mul_le_mul_right _ (by omega)
    obtain ⟨S', T, Q', e1, e2, e3, e4⟩ := ih (k + 1) fuel S1 r1 tp1 (Q + q * 4294967296 ^ k) (by omega) (by omega) (hM.ifr g2 (by simp)) (by rw [(g2.1 12 i).1]; exact hg) (by rw [g2.2 _ (by simpa using x5)]; exact hdx) (by rw [g2.2 _ (by simpa using y5)]; exact hdy) g3 g4 (by
      rw [Nat.pow_succ, vN_s]
      exact stepO hv g7) (by rw [Nat.pow_succ]; omega)
    exact ⟨S', T, Q', e1, (g2.mono (by simp)).trans e2, e3, e4⟩
theorem Q12_p3 {i n : Nat} {l1 l2 l3 : Nat} (h : isMd W i) (hn : n ≤ 32) : ∀ (m j fuel : Nat) (S : ST), m < fuel → j + m = n + 2 → (S 12 i).f 1 = (Int32.ofNat n) → (∀ t, t < j → igt S (.a 12 i 5) t = 0) → ∃ S', B_X12_product_3 G F fuel (W.ad (.o 12 i)) l1 l2 l3 (Int32.ofNat j) (mem W S) = B_X12_product_31 G F F (W.ad (.o 12 i)) l1 l2 l3 0 (mem W S') ∧ ifr [.a 12 i 5] S S' ∧ ∀ t, t ≤ n + 1 → igt S' (.a 12 i 5) t = 0 := by
  intro m
  induction m with
  | zero =>
    intro j fuel S hf hj h0 hz
    obtain ⟨fuel, rfl⟩ : ∃ q, fuel = q + 1 := ⟨fuel - 1, by omega⟩
    rw [B_X12_product_3, h.gI, bO_s, h0, n_addL n 1, if_pos ((n_lt (by omega) (by omega)).mpr (by omega))]
    exact ⟨S, rfl, ifr.refl _ _, fun t ht => hz t (by omega)⟩
  | succ m ih =>
    intro j fuel S hf hj h0 hz
    obtain ⟨fuel, rfl⟩ : ∃ q, fuel = q + 1 := ⟨fuel - 1, by omega⟩
    rw [B_X12_product_3, h.gI, bO_s, h0, n_addL n 1, if_neg (fun q => absurd ((n_lt (by omega) (by omega)).mp q) (by omega)), h.gR (by omega), bO_s, ix_set h.l5 (by omega), bO_s, n_addL j 1]
    obtain ⟨S', g1, g2, g3⟩ := ih (j + 1) fuel (ist S (.a 12 i 5) (upd (igt S (.a 12 i 5)) j 0)) (by omega) (by omega) (by rw [(ist_fgl _ _ _ _ _).1]; exact h0) (fun t ht => by
      rw [igt_eq h.l5]
      by_cases c : t = j
      · rw [c, upd_eq]
      · rw [upd_ne c]; exact hz t (by omega))
    exact ⟨S', g1, (ifr_ist (by simp)).trans g2, g3⟩
theorem Q12_product {i n m N Nx Ny vx vy : Nat} {S : ST} {x y to : Cl} (X : Cx G F W) (h : isMd W i) (hM : MdB S i n m) (htw : ∃ tw, (S 12 i).f 2 = (Int32.ofNat tw) ∧ tw < 4294967296 ∧ (tw * m + 1) % 4294967296 = 0) (hx : iok W x Nx) (hy : iok W y Ny) (ht : iok W to N) (hNx : n ≤ Nx) (hNy : n ≤ Ny) (hN : n ≤ N) (x5 : x ≠ .a 12 i 5) (y5 : y ≠ .a 12 i 5) (t5 : (.a 12 i 5 : Cl) ≠ to) (t0 : (.a 12 i 0 : Cl) ≠ to) (hvx : IV (igt S x) n vx) (hvy : IV (igt S y) n vy) (hym : vy < m) : ∃ S', P_X12_product G F (W.ad (.o 12 i)) (W.ad x) (W.ad y) (W.ad to) (mem W S) = some (mem W S') ∧ ifr [to, .a 12 i 5] S S' ∧ IV (igt S' to) n (vx * vy * RI n m % m) := by
  have hF := X.hF
  have hn := hM.2.2.1
  obtain ⟨dx, hdx, rfl⟩ := hvx
  obtain ⟨dy, hdy, rfl⟩ := hvy
  obtain ⟨tw, hg, htw1, htw2⟩ := htw
  obtain ⟨S1, g1, g2, g3⟩ := Q12_p3 (G := G) (F := F) (n := n) (l1 := W.ad x) (l2 := W.ad y) (l3 := W.ad to) h hn (n + 2) 0 F S (by omega) (by omega) hM.1 (fun t ht => by omega)
  obtain ⟨S', T, Q', e1, e2, e3, e4⟩ := Q12_p31 (G := G) (F := F) (tw := tw) (m := m) (dx := dx) (dy := dy) X h hx hy ht hNx hNy hN x5 y5 t5 t0 htw1 htw2 hym n 0 F S1 (fun _ => 0) 0 0 (by omega) (by omega) (hM.ifr g2 (by simp)) (by rw [(g2.1 12 i).1]; exact hg) (by rw [g2.2 _ (by simpa using x5)]; exact hdx) (by rw [g2.2 _ (by simpa using y5)]; exact hdy) (ID_zero (fun t ht => g3 t (by omega))) (g3 n (by omega)) (by rw [vN_zero (fun _ _ => rfl), vN]; simp) (by simp)
  refine ⟨S', ?_, (g2.mono (by simp)).trans e2, ?_⟩
  · unfold P_X12_product
    have g1' : B_X12_product_3 G F F (W.ad (.o 12 i)) (W.ad x) (W.ad y) (W.ad to) 0 (mem W S) = _ := g1
    rw [g1']
    exact e1
  · rw [← RI_cancel hM.2.2.2.2.1 hM.2.2.2.2.2 e4]
    exact e3
end IPROD
