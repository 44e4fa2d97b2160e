/-! THE MODEL'S MODULUS: set -/
section MSET
variable {W : WR} {G : mG} {F : Nat}
theorem Q12_set158 {i n m : Nat} (X : Cx G F W) (h : isMd W i) : ∀ (q k fuel : Nat) (S : ST), q < fuel → k + q = 32 * n → MdB S i n m → IV (igt S (.a 12 i 4)) n (4294967296 ^ n * 2 ^ k % m) → ∃ S', B_X12_set_158 G F fuel (W.ad (.o 12 i)) (Int32.ofNat k) (mem W S) = some (mem W S') ∧ ifr [.a 12 i 4] S S' ∧ IV (igt S' (.a 12 i 4)) n (4294967296 ^ n * 4294967296 ^ n % m) := by
  intro q
  induction q with
  | zero =>
    intro k fuel S hf hk hM hv
    obtain ⟨fuel, rfl⟩ : ∃ q, fuel = q + 1 := ⟨fuel - 1, by omega⟩
    obtain rfl : k = 32 * n := by omega
    have hn := hM.2.2.1
    rw [B_X12_set_158, h.gI, bO_s, hM.1, show (32 : Int32) * (Int32.ofNat n) = (Int32.ofNat (32 * n)) from n_mul 32 n, if_pos ((n_le (by omega) (by omega)).mpr (Nat.le_refl _))]
    rw [show (2 : Nat) ^ (32 * n) = 4294967296 ^ n by rw [Nat.pow_mul]] at hv
    exact ⟨S, rfl, ifr.refl _ _, hv⟩
  | succ q ih =>
    intro k fuel S hf hk hM hv
    obtain ⟨fuel, rfl⟩ : ∃ q, fuel = q + 1 := ⟨fuel - 1, by omega⟩
    have hn := hM.2.2.1
    have hm1 := hM.2.2.2.2.1
    obtain ⟨S1, g1, f1, v1⟩ := Q12_twice (G := G) (F := F) X h hM h.l4 (by omega) (by simp) hv (Nat.mod_lt _ (by omega))
    rw [B_X12_set_158, h.gI, bO_s, hM.1, show (32 : Int32) * (Int32.ofNat n) = (Int32.ofNat (32 * n)) from n_mul 32 n, if_neg (fun q => absurd ((n_le (by omega) (by omega)).mp q) (by omega)), h.gR (by omega), bO_s, rcv_m h.1, bO_s, g1, bO_s, n_addL k 1]
    have ev : (4294967296 ^ n * 2 ^ k % m + 4294967296 ^ n * 2 ^ k % m) % m = 4294967296 ^ n * 2 ^ (k + 1) % m := by
      rw [← Nat.add_mod, Nat.pow_succ, ← Nat.mul_assoc]
      congr 1
      omega
    rw [ev] at v1
    obtain ⟨S2, g2, f2, v2⟩ := ih (k + 1) fuel S1 (by omega) (by omega) (hM.ifr f1 (by simp)) v1
    exact ⟨S2, g2, f1.trans f2, v2⟩
theorem Q12_set126 {i n : Nat} {d : Nat → Nat} (h : isMd W i) (hn : n ≤ 32) : ∀ (q j fuel : Nat) (S : ST), q < fuel → j + q = n → (S 12 i).f 1 = (Int32.ofNat n) → ID (igt S (.a 12 i 3)) n d → ID (igt S (.a 12 i 4)) j d → ∃ S', B_X12_set_126 G F fuel (W.ad (.o 12 i)) (Int32.ofNat j) (mem W S) = B_X12_set_158 G F F (W.ad (.o 12 i)) 0 (mem W S') ∧ ifr [.a 12 i 4] S S' ∧ ID (igt S' (.a 12 i 4)) n d := by
  intro q
  induction q with
  | zero =>
    intro j fuel S hf hj h0 hd he
    obtain ⟨fuel, rfl⟩ : ∃ q, fuel = q + 1 := ⟨fuel - 1, by omega⟩
    obtain rfl : j = n := by omega
    rw [B_X12_set_126, h.gI, bO_s, h0, if_pos ((n_le (by omega) (by omega)).mpr (by omega))]
    exact ⟨S, rfl, ifr.refl _ _, he⟩
  | succ q ih =>
    intro j fuel S hf hj h0 hd he
    obtain ⟨fuel, rfl⟩ : ∃ q, fuel = q + 1 := ⟨fuel - 1, by omega⟩
    have hdj := hd j (by omega)
    rw [B_X12_set_126, h.gI, bO_s, h0, if_neg (fun q => absurd ((n_le (by omega) (by omega)).mp q) (by omega)), h.gR (by omega), bO_s, h.gR (by omega), bO_s, ix_get h.l3 (by omega), bO_s, hdj.1, ix_set h.l4 (by omega), bO_s, n_addL j 1]
    obtain ⟨S', g1, g2, g3⟩ := ih (j + 1) fuel (ist S (.a 12 i 4) (upd (igt S (.a 12 i 4)) j (Int32.ofNat (d j)))) (by omega) (by omega) (by rw [(ist_fgl _ _ _ _ _).1]; exact h0) (by rw [igt_ne (by simp)]; exact hd) (by
      rw [igt_eq h.l4]
      intro t h2
      by_cases c : t = j
      · rw [c, upd_eq]; exact ⟨rfl, hdj.2⟩
      · rw [upd_ne c]; exact he t (by omega))
    exact ⟨S', g1, (ifr_ist (by simp)).trans g2, g3⟩
theorem Q12_set97 {i n m : Nat} (X : Cx G F W) (h : isMd W i) : ∀ (q k fuel : Nat) (S : ST), q < fuel → k + q = 32 * n → MdB S i n m → (∃ tw, (S 12 i).f 2 = (Int32.ofNat tw) ∧ tw < 4294967296 ∧ (tw * m + 1) % 4294967296 = 0) → IV (igt S (.a 12 i 3)) n (2 ^ k % m) → ∃ S', B_X12_set_97 G F fuel (W.ad (.o 12 i)) (Int32.ofNat k) (mem W S) = some (mem W S') ∧ ifr [.a 12 i 3, .a 12 i 4] S S' ∧ MdS S' i n m := by
  have hF := X.hF
  intro q
  induction q with
  | zero =>
    intro k fuel S hf hk hM htw hv
    obtain ⟨fuel, rfl⟩ : ∃ q, fuel = q + 1 := ⟨fuel - 1, by omega⟩
    obtain rfl : k = 32 * n := by omega
    have hn := hM.2.2.1
    rw [show (2 : Nat) ^ (32 * n) = 4294967296 ^ n by rw [Nat.pow_mul]] at hv
    obtain ⟨d, hd, hdv⟩ := id hv
    obtain ⟨S1, g1, f1, v1⟩ := Q12_set126 (G := G) (F := F) h hn n 0 F S (by omega) (by omega) hM.1 hd (fun t ht => by omega)
    have g1' : B_X12_set_126 G F F (W.ad (.o 12 i)) 0 (mem W S) = _ := g1
    have M1 := hM.ifr f1 (by simp)
    obtain ⟨S2, g2, f2, v2⟩ := Q12_set158 (G := G) (F := F) X h (32 * n) 0 F S1 (by omega) (by omega) M1 ⟨d, v1, by rw [hdv, Nat.pow_zero, Nat.mul_one]⟩
    have g2' : B_X12_set_158 G F F (W.ad (.o 12 i)) 0 (mem W S1) = _ := g2
    rw [B_X12_set_97, h.gI, bO_s, hM.1, show (32 : Int32) * (Int32.ofNat n) = (Int32.ofNat (32 * n)) from n_mul 32 n, if_pos ((n_le (by omega) (by omega)).mpr (Nat.le_refl _)), g1', g2']
    exact ⟨S2, rfl, (f1.mono (by simp)).trans (f2.mono (by simp)), M1.ifr f2 (by simp), by rw [(f2.1 12 i).1, (f1.1 12 i).1]; exact htw, by rw [f2.2 _ (by simp), f1.2 _ (by simp)]; exact hv, v2⟩
  | succ q ih =>
    intro k fuel S hf hk hM htw hv
    obtain ⟨fuel, rfl⟩ : ∃ q, fuel = q + 1 := ⟨fuel - 1, by omega⟩
    have hn := hM.2.2.1
    have hm1 := hM.2.2.2.2.1
    obtain ⟨S1, g1, f1, v1⟩ := Q12_twice (G := G) (F := F) X h hM h.l3 (by omega) (by simp) hv (Nat.mod_lt _ (by omega))
    rw [B_X12_set_97, h.gI, bO_s, hM.1, show (32 : Int32) * (Int32.ofNat n) = (Int32.ofNat (32 * n)) from n_mul 32 n, if_neg (fun q => absurd ((n_le (by omega) (by omega)).mp q) (by omega)), h.gR (by omega), bO_s, rcv_m h.1, bO_s, g1, bO_s, n_addL k 1]
    have ev : (2 ^ k % m + 2 ^ k % m) % m = 2 ^ (k + 1) % m := by
      rw [← Nat.add_mod, Nat.pow_succ]
      congr 1
      omega
    rw [ev] at v1
    obtain ⟨S2, g2, f2, m2⟩ := ih (k + 1) fuel S1 (by omega) (by omega) (hM.ifr f1 (by simp)) (by rw [(f1.1 12 i).1]; exact htw) v1
    exact ⟨S2, g2, (f1.mono (by simp)).trans f2, m2⟩
theorem Q12_set64 {i n : Nat} (h : isMd W i) (hn : n ≤ 32) : ∀ (m j fuel : Nat) (S : ST), m < fuel → j + m = n → (S 12 i).f 1 = (Int32.ofNat n) → (∀ t, t < j → igt S (.a 12 i 3) t = 0) → ∃ S', B_X12_set_64 G F fuel (W.ad (.o 12 i)) (Int32.ofNat j) (mem W S) = (bO (sI (mem W S') 0 (W.ad (.a 12 i 3)) (0 : Int32) (1 : Int32)) fun M93 => B_X12_set_97 G F F (W.ad (.o 12 i)) (0 : Int32) M93) ∧ ifr [.a 12 i 3] S S' ∧ ∀ t, t < n → igt S' (.a 12 i 3) t = 0 := by
  intro m
  induction m with
  | zero =>
    intro j fuel S hf hj h0 hz
    obtain ⟨fuel, rfl⟩ : ∃ q, fuel = q + 1 := ⟨fuel - 1, by omega⟩
    rw [B_X12_set_64, h.gI, bO_s, h0, if_pos ((n_le (by omega) (by omega)).mpr (by omega)), h.gR (by omega), bO_s]
    exact ⟨S, rfl, ifr.refl _ _, fun t ht => hz t (by omega)⟩
  | succ m ih =>
    intro j fuel S hf hj h0 hz
    obtain ⟨fuel, rfl⟩ : ∃ q, fuel = q + 1 := ⟨fuel - 1, by omega⟩
    rw [B_X12_set_64, h.gI, bO_s, h0, if_neg (fun q => absurd ((n_le (by omega) (by omega)).mp q) (by omega)), h.gR (by omega), bO_s, ix_set h.l3 (by omega), bO_s, n_addL j 1]
    obtain ⟨S', g1, g2, g3⟩ := ih (j + 1) fuel (ist S (.a 12 i 3) (upd (igt S (.a 12 i 3)) j 0)) (by omega) (by omega) (by rw [(ist_fgl _ _ _ _ _).1]; exact h0) (fun t h2 => by
      rw [igt_eq h.l3]
      by_cases c : t = j
      · rw [c, upd_eq]
      · rw [upd_ne c]; exact hz t (by omega))
    exact ⟨S', g1, (ifr_ist (by simp)).trans g2, g3⟩
theorem Q12_set26 {i : Nat} {S : ST} {m0 : Nat} (h : isMd W i) (hm0 : igt S (.a 12 i 0) 0 = (Int32.ofNat m0)) : ∀ (m k fuel : Nat), m < fuel → k + m = 5 → B_X12_set_26 G F fuel (W.ad (.o 12 i)) (Int32.ofInt (nwt m0 k)) (Int32.ofNat k) (mem W S) = B_X12_set_64 G F F (W.ad (.o 12 i)) 0 (mem W (S.so 12 i ((S 12 i).sf 2 (Int32.ofNat ((-(nwt m0 5)) % 4294967296).toNat)))) := by
  intro m
  induction m with
  | zero =>
    intro k fuel hf hk
    obtain ⟨fuel, rfl⟩ : ∃ q, fuel = q + 1 := ⟨fuel - 1, by omega⟩
    obtain rfl : k = 5 := by omega
    have e : -Int32.ofInt (nwt m0 5) = Int32.ofInt (-(nwt m0 5)) := Int32.neg_ofInt
    rw [B_X12_set_26, if_pos (by decide), e, i_ofI, pfI_m h.1 rfl, bO_s]
  | succ m ih =>
    intro k fuel hf hk
    obtain ⟨fuel, rfl⟩ : ∃ q, fuel = q + 1 := ⟨fuel - 1, by omega⟩
    have q0 : aI G (mem W S) 0 (W.ad (.a 12 i 0)) (0 : Int32) = some (igt S (.a 12 i 0) 0) := ix_get (j := 0) h.l0 (by omega)
    have e : Int32.ofInt (nwt m0 k) * (2 - (Int32.ofNat m0) * Int32.ofInt (nwt m0 k)) = Int32.ofInt (nwt m0 (k + 1)) := by
      have e2 : (2 : Int32) = Int32.ofInt 2 := rfl
      have e3 : (Int32.ofNat m0) = Int32.ofInt m0 := Int32.ofInt_eq_ofNat.symm
      rw [e2, e3, ← Int32.ofInt_mul, ← Int32.ofInt_sub, ← Int32.ofInt_mul]
      rfl
    rw [B_X12_set_26, if_neg (by rw [lit 5]; exact fun q => absurd ((n_le (by omega) (by omega)).mp q) (by omega)), h.gR (by omega), bO_s, q0, bO_s, hm0, e, n_addL k 1]
    exact ih (k + 1) fuel (by omega) (by omega)
theorem Q12_set {i kb p size : Nat} {S : ST} {β : Nat → UInt8} (X : Cx G F W) (h : isM W) (hd : isMd W i) (qb : (kdA 13)[kb]? = some 1) (lb_ : mLen kb < 2 ^ 30) (hp : p + size ≤ mLen kb) (hb : mB (S 13 0) kb β) (hs : suitsF (rdB β p size) = true) : ∃ S', P_X12_set G F (W.ad (.o 12 i)) (W.ad (.a 13 0 kb)) (Int32.ofNat p) (Int32.ofNat size) (mem W S) = some (mem W S') ∧ fr [(12, i)] S S' ∧ MdS S' i ((size + 3) / 4) (beN (rdB β p size)) := by
  have hF := X.hF
  obtain ⟨hm1, hm2⟩ := suits_m hs
  obtain ⟨s1, s2, _⟩ := of_decide_eq_true hs
  rw [rdB_len] at s1 s2
  obtain ⟨n, hn⟩ : ∃ n, n = (size + 3) / 4 := ⟨_, rfl⟩
  have hbn : 1 < 4294967296 ^ n := Nat.lt_of_lt_of_le (show 1 < 4294967296 ^ 1 by decide) (Nat.pow_le_pow_right (by decide) (by omega))
  unfold P_X12_set
  rw [n_addL _ 3, show (Int32.ofNat (size + 3)) / (4 : Int32) = (Int32.ofNat ((size + 3) / 4)) from n_div (b := 4) (by omega) (by decide), ← hn, pfI_m hd.1 rfl, bO_s]
  obtain ⟨S1, hS1⟩ : ∃ S1, S1 = S.so 12 i ((S 12 i).sf 1 (Int32.ofNat n)) := ⟨_, rfl⟩
  have f1 : fr [(12, i)] S S1 := by rw [hS1]; exact fr_so (by simp)
  have z1 : (S1 12 i).f 1 = (Int32.ofNat n) := by rw [hS1, so_eq, sf_f, if_pos rfl]
  have b1 : mB (S1 13 0) kb β := by rw [f1 13 0 (by simp)]; exact hb
  obtain ⟨S2, g2, f2, v2⟩ := Q12_load (G := G) (F := F) (S := S1) (n := n) (p := p) (size := size) X h hd qb lb_ hd.l0 (by omega) (by omega) hp (by omega) (by simp) z1 b1
  rw [← hS1, hd.gR (by omega), bO_s, rcv_m hd.1, bO_s, g2, bO_s]
  have d0 := v2.dg 0 (by omega)
  have em0 : beN (rdB β p size) % 4294967296 = dg (beN (rdB β p size)) 0 := by unfold dg; rw [Nat.pow_zero, Nat.div_one]
  have hN := Q12_set26 (G := G) (F := F) (S := S2) (m0 := dg (beN (rdB β p size)) 0) hd d0.1 5 0 F (by omega) (by omega)
  have hN' : B_X12_set_26 G F F (W.ad (.o 12 i)) 1 0 (mem W S2) = _ := hN
  rw [hN']
  obtain ⟨S3, hS3⟩ : ∃ S3, S3 = S2.so 12 i ((S2 12 i).sf 2 (Int32.ofNat ((-(nwt (dg (beN (rdB β p size)) 0) 5)) % 4294967296).toNat)) := ⟨_, rfl⟩
  rw [← hS3]
  have f3 : fr [(12, i)] S2 S3 := by rw [hS3]; exact fr_so (by simp)
  have ig3 : ∀ x, igt S3 x = igt S2 x := fun x => by rw [hS3]; exact igt_sf x
  have z3 : (S3 12 i).f 1 = (Int32.ofNat n) := by rw [hS3, so_eq, sf_f, if_neg (by decide), (f2.1 12 i).1]; exact z1
  have hodd : ((dg (beN (rdB β p size)) 0 : Nat) : Int) % 2 = 1 := by omega
  have tk := tw_okg em0 (nwt_5 _ hodd)
  have M3 : MdB S3 i n (beN (rdB β p size)) := ⟨z3, by omega, by omega, by rw [ig3]; exact v2, hm1, hm2⟩
  obtain ⟨S4, g4, f4, v4⟩ := Q12_set64 (G := G) (F := F) (n := n) hd (by omega) n 0 F S3 (by omega) (by omega) z3 (fun t ht => by omega)
  have g4' : B_X12_set_64 G F F (W.ad (.o 12 i)) 0 (mem W S3) = _ := g4
  obtain ⟨S5, hS5⟩ : ∃ S5, S5 = ist S4 (.a 12 i 3) (upd (igt S4 (.a 12 i 3)) 0 1) := ⟨_, rfl⟩
  have s5 : sI (mem W S4) 0 (W.ad (.a 12 i 3)) (0 : Int32) (1 : Int32) = some (mem W S5) := by rw [hS5]; exact ix_set (j := 0) hd.l3 (by omega)
  have f5 : ifr [.a 12 i 3] S3 S5 := f4.trans (by rw [hS5]; exact ifr_ist (by simp))
  have v5 : IV (igt S5 (.a 12 i 3)) n 1 := by
    refine ID.iv (ID_one (fun t ht => ?_)) hbn
    rw [hS5, igt_eq hd.l3]
    by_cases c : t = 0
    · rw [if_pos c, c, upd_eq]
    · rw [if_neg c, upd_ne c]; exact v4 t ht
  obtain ⟨S6, g6, f6, m6⟩ := Q12_set97 (G := G) (F := F) (n := n) (m := beN (rdB β p size)) X hd (32 * n) 0 F S5 (by omega) (by omega) (M3.ifr f5 (by simp)) (by
    rw [(f5.1 12 i).1]
    exact ⟨_, by rw [hS3, so_eq, sf_f, if_pos rfl], tk.1, tk.2⟩) (by rw [Nat.pow_zero, Nat.mod_eq_of_lt hm1]; exact v5)
  have g6' : B_X12_set_97 G F F (W.ad (.o 12 i)) 0 (mem W S5) = _ := g6
  rw [g4', s5, bO_s, g6']
  exact ⟨S6, rfl, (((f1.trans (f2.fr (by simp [ow]))).trans f3).trans (f5.fr (by simp [ow]))).trans (f6.fr (by simp [ow])), m6⟩
end MSET
