/-! THE CLASS'S MODULUS: become, lead, take, raise -/
theorem n_subM {a b : Nat} (ha : a < 2 ^ 30) (hb : b < 2 ^ 30) : (if (Int32.ofNat a) - (Int32.ofNat b) < 0 then (0 : Int32) else (Int32.ofNat a) - (Int32.ofNat b)) = (Int32.ofNat (a - b)) := by
  by_cases c : b ≤ a
  · rw [n_sub c, if_neg (nn (by omega))]
  · have e : (Int32.ofNat a) - (Int32.ofNat b) < 0 := by
      apply Int32.lt_iff_toInt_lt.mpr
      rw [Int32.toInt_sub, Int32.toInt_ofNat_of_lt (by omega), Int32.toInt_ofNat_of_lt (by omega)]
      show ((a : Int) - b).bmod (2 ^ 32) < 0
      rw [Int.bmod_eq_of_le (by omega) (by omega)]
      omega
    rw [if_pos e, show a - b = 0 by omega]
    rfl
theorem n_m1 {a : Nat} (h : 1 ≤ a) : (Int32.ofNat a) + (-1 : Int32) = (Int32.ofNat (a - 1)) := by
  have : (Int32.ofNat a) + (-1 : Int32) = (Int32.ofNat a) - 1 := by rw [Int32.sub_eq_add_neg]
  rw [this, n_subL 1 h]
/-- a bit of a row of bytes, the highest first -/
def bitA (ys : List UInt8) (k : Nat) : Bool := decide (gN ys (k / 8) / 2 ^ (7 - k % 8) % 2 = 1)
/-- powers by squaring -/
def rz (x m : Nat) (ys : List UInt8) : Nat → Nat
  | 0 => 1 % m
  | k + 1 => if bitA ys k then rz x m ys k * rz x m ys k * x % m else rz x m ys k * rz x m ys k % m
theorem rz_lt {x m : Nat} {ys : List UInt8} (hm : 1 < m) (k : Nat) : rz x m ys k < m := by
  cases k with
  | zero => exact Nat.mod_lt _ (by omega)
  | succ k =>
    rw [rz]
    split <;> exact Nat.mod_lt _ (by omega)
theorem bit_t (a s : Nat) (ha : a < 256) (hs : s < 8) : (((Int32.ofNat a) >>> (((7 : Int32) - (Int32.ofNat s)) &&& 31)) &&& (1 : Int32) = (1 : Int32)) ↔ a / 2 ^ (7 - s) % 2 = 1 := by
  have e : ((7 : Int32) - (Int32.ofNat s)) &&& 31 = (Int32.ofNat (7 - s)) := by
    rw [show (7 : Int32) - (Int32.ofNat s) = (Int32.ofNat (7 - s)) from n_sub (a := 7) (by omega), and31 (by omega)]
  rw [e, n_shr (by omega) (by omega), lit 1, n_and, Nat.and_one_is_mod]
  exact n_eq (by omega) (by omega)
section TAKE
variable {W : WR} {G : mG} {F : Nat}
theorem Q6_bc23 {i ib n : Nat} (h : isMo W i) (hn : n ≤ 32) : ∀ (m j fuel : Nat) (S : ST), m < fuel → j + m = n → (S 6 i).f 0 = (Int32.ofNat n) → (∀ t, t < j → lgt S (.a 6 i 3) t = Int64.ofNat (dg 1 t)) → (∀ t, t < j → lgt S (.a 6 i 4) t = Int64.ofNat (dg 1 t)) → ∃ S', B_X6_become_23 G F fuel (W.ad (.o 6 i)) (W.ad (.o 0 ib)) (Int32.ofNat j) (mem W S) = (bO (gfI (mem W S') (W.ad (.o 0 ib)) 0 1) fun v75 => bO (gfR (mem W S') (W.ad (.o 6 i)) 6 2) fun v79 => bO (rcv (mem W S') (W.ad (.o 6 i)) 6) fun _ => bO (P_X6_loadLimbs G F (W.ad (.o 6 i)) (W.ad (.o 0 ib)) (0 : Int32) v75 v79 (mem W S')) fun M82 => B_X6_become_90 G F F (W.ad (.o 6 i)) (1 : Int64) (0 : Int32) M82) ∧ lfr [.a 6 i 2, .a 6 i 3, .a 6 i 4] S S' ∧ LD (lgt S' (.a 6 i 3)) n (dg 1) ∧ LD (lgt S' (.a 6 i 4)) n (dg 1) := by
  intro m
  induction m with
  | zero =>
    intro j fuel S hf hj h0 h3 h4
    obtain ⟨fuel, rfl⟩ : ∃ q, fuel = q + 1 := ⟨fuel - 1, by omega⟩
    rw [B_X6_become_23, h.gI, bO_s, h0, if_pos ((n_le (by omega) (by omega)).mpr (by omega))]
    exact ⟨S, rfl, lfr.refl _ _, fun t ht => ⟨h3 t (by omega), dg_lt _ _⟩, fun t ht => ⟨h4 t (by omega), dg_lt _ _⟩⟩
  | succ m ih =>
    intro j fuel S hf hj h0 h3 h4
    obtain ⟨fuel, rfl⟩ : ∃ q, fuel = q + 1 := ⟨fuel - 1, by omega⟩
    rw [B_X6_become_23, h.gI, bO_s, h0, if_neg (fun q => absurd ((n_le (by omega) (by omega)).mp q) (by omega)), h.gR (by omega) (by omega), bO_s, lx_set h.l2 (by omega), bO_s, h.gR (by omega) (by omega), bO_s]
    obtain ⟨S1, hS1⟩ : ∃ S1, S1 = lst S (.a 6 i 2) (vp_updL (lgt S (.a 6 i 2)) j 0) := ⟨_, rfl⟩
    have f1 : lfr [.a 6 i 2, .a 6 i 3, .a 6 i 4] S S1 := by rw [hS1]; exact lfr_lst (by simp)
    rw [← hS1]
    have go : ∀ b : Int64, b = Int64.ofNat (dg 1 j) → ∃ S', (bO (sL (mem W S1) (W.ad (.a 6 i 3)) (Int32.ofNat j) b) fun M52 => bO (gfR M52 (W.ad (.o 6 i)) 6 4) fun v54 => bO (gfR M52 (W.ad (.o 6 i)) 6 3) fun v59 => bO (aL G M52 v59 (Int32.ofNat j)) fun v63 => bO (sL M52 v54 (Int32.ofNat j) v63) fun M64 => B_X6_become_23 G F fuel (W.ad (.o 6 i)) (W.ad (.o 0 ib)) ((Int32.ofNat j) + 1) M64) = (bO (gfI (mem W S') (W.ad (.o 0 ib)) 0 1) fun v75 => bO (gfR (mem W S') (W.ad (.o 6 i)) 6 2) fun v79 => bO (rcv (mem W S') (W.ad (.o 6 i)) 6) fun _ => bO (P_X6_loadLimbs G F (W.ad (.o 6 i)) (W.ad (.o 0 ib)) (0 : Int32) v75 v79 (mem W S')) fun M82 => B_X6_become_90 G F F (W.ad (.o 6 i)) (1 : Int64) (0 : Int32) M82) ∧ lfr [.a 6 i 2, .a 6 i 3, .a 6 i 4] S S' ∧ LD (lgt S' (.a 6 i 3)) n (dg 1) ∧ LD (lgt S' (.a 6 i 4)) n (dg 1) := by
      intro b hb
      obtain ⟨S2, hS2⟩ : ∃ S2, S2 = lst S1 (.a 6 i 3) (vp_updL (lgt S1 (.a 6 i 3)) j b) := ⟨_, rfl⟩
      have f2 : lfr [.a 6 i 2, .a 6 i 3, .a 6 i 4] S S2 := f1.trans (by rw [hS2]; exact lfr_lst (by simp))
      have e3 : lgt S2 (.a 6 i 3) j = b := by rw [hS2, lgt_eq h.l3, updL_eq]
      rw [lx_set h.l3 (by omega), bO_s, ← hS2, h.gR (by omega) (by omega), bO_s, h.gR (by omega) (by omega), bO_s, lx_get h.l3 (by omega), bO_s, e3, lx_set h.l4 (by omega), bO_s, n_addL j 1]
      obtain ⟨S', g1, g2, g3, g4⟩ := ih (j + 1) fuel (lst S2 (.a 6 i 4) (vp_updL (lgt S2 (.a 6 i 4)) j b)) (by omega) (by omega) (by rw [(lst_fga _ _ _ _ _).1, (f2.1 6 i).1]; exact h0) (fun t ht => by
        rw [lgt_ne (by simp), hS2, lgt_eq h.l3]
        by_cases c : t = j
        · rw [c, updL_eq]; exact hb
        · rw [updL_ne c, hS1, lgt_ne (by simp)]; exact h3 t (by omega)) (fun t ht => by
        rw [lgt_eq h.l4]
        by_cases c : t = j
        · rw [c, updL_eq]; exact hb
        · rw [updL_ne c, hS2, lgt_ne (by simp), hS1, lgt_ne (by simp)]; exact h4 t (by omega))
      exact ⟨S', g1, (f2.trans (lfr_lst (by simp))).trans g2, g3, g4⟩
    by_cases c : j = 0
    · rw [if_pos (show (Int32.ofNat j) = 0 by rw [c]; rfl)]
      exact go 1 (by rw [dg_1, if_pos c]; rfl)
    · rw [if_neg (show ¬ (Int32.ofNat j) = 0 by rw [z32]; exact fun q => c ((n_eq (by omega) (by omega)).mp q))]
      exact go 0 (by rw [dg_1, if_neg c]; rfl)
theorem Q6_bc90 {i : Nat} {S : ST} {m0 : Nat} (h : isMo W i) (hm0 : lgt S (.a 6 i 2) 0 = Int64.ofNat m0) : ∀ (m k fuel : Nat), m < fuel → k + m = 6 → B_X6_become_90 G F fuel (W.ad (.o 6 i)) (Int64.ofInt (nwt m0 k)) (Int32.ofNat k) (mem W S) = B_X6_become_131 G F F (W.ad (.o 6 i)) 0 (mem W (S.so 6 i ((S 6 i).sg 1 (Int64.ofNat ((-(nwt m0 6)) % 4294967296).toNat)))) := by
  intro m
  induction m with
  | zero =>
    intro k fuel hf hk
    obtain ⟨fuel, rfl⟩ : ∃ q, fuel = q + 1 := ⟨fuel - 1, by omega⟩
    obtain rfl : k = 6 := by omega
    have e : -Int64.ofInt (nwt m0 6) = Int64.ofInt (-(nwt m0 6)) := Int64.neg_ofInt
    rw [B_X6_become_90, if_pos (by decide), e, s_lim, pfL_m h.1 rfl, bO_s]
  | succ m ih =>
    intro k fuel hf hk
    obtain ⟨fuel, rfl⟩ : ∃ q, fuel = q + 1 := ⟨fuel - 1, by omega⟩
    have q2 : aL G (mem W S) (W.ad (.a 6 i 2)) (0 : Int32) = some (lgt S (.a 6 i 2) 0) := lx_get (j := 0) h.l2 (by omega)
    have e : Int64.ofInt (nwt m0 k) * (2 - Int64.ofNat m0 * Int64.ofInt (nwt m0 k)) = Int64.ofInt (nwt m0 (k + 1)) := by
      have e2 : (2 : Int64) = Int64.ofInt 2 := rfl
      rw [s_nat, e2, ← Int64.ofInt_mul, ← Int64.ofInt_sub, ← Int64.ofInt_mul]
      rfl
    rw [B_X6_become_90, if_neg (by rw [lit 6]; exact fun q => absurd ((n_le (by omega) (by omega)).mp q) (by omega)), h.gR (by omega) (by omega), bO_s, q2, bO_s, hm0, e, n_addL k 1]
    exact ih (k + 1) fuel (by omega) (by omega)
theorem Q6_bc168 {i n m : Nat} (X : Cx G F W) (h : isMo W i) : ∀ (q k fuel : Nat) (S : ST), q < fuel → k + q = 5 → MoB S i n m → (∃ tw, (S 6 i).g 1 = Int64.ofNat tw ∧ tw < 4294967296 ∧ (tw * m + 1) % 4294967296 = 0) → LV (lgt S (.a 6 i 3)) n 1 → LV (lgt S (.a 6 i 4)) n (4294967296 ^ n * 2 ^ (n * 2 ^ k) % m) → ∃ S', B_X6_become_168 G F fuel (W.ad (.o 6 i)) (Int32.ofNat k) (mem W S) = some (mem W S') ∧ lfr [.a 6 i 4, .a 6 i 7] S S' ∧ MoS S' i n m := by
  intro q
  induction q with
  | zero =>
    intro k fuel S hf hk hM ht h1 hl
    obtain ⟨fuel, rfl⟩ : ∃ q, fuel = q + 1 := ⟨fuel - 1, by omega⟩
    obtain rfl : k = 5 := by omega
    rw [B_X6_become_168, if_pos (by decide)]
    refine ⟨S, rfl, lfr.refl _ _, hM, ht, h1, ?_⟩
    have e : 2 ^ (n * 2 ^ 5) = 4294967296 ^ n := by rw [Nat.mul_comm, Nat.pow_mul]
    rw [e] at hl
    exact hl
  | succ q ih =>
    intro k fuel S hf hk hM ht h1 hl
    obtain ⟨fuel, rfl⟩ : ∃ q, fuel = q + 1 := ⟨fuel - 1, by omega⟩
    have hn1 := hM.2.1
    have hn := hM.2.2.1
    have hm1 := hM.2.2.2.2.1
    have hm2 := hM.2.2.2.2.2
    obtain ⟨S1, g1, g2, g3⟩ := Q6_times (G := G) (F := F) X h hM ht h.l4 h.l4 h.l4 (by omega) (by omega) (by omega) (by simp) (by simp) (by simp) (by simp) hl hl (Nat.mod_lt _ (by omega))
    rw [B_X6_become_168, if_neg (by rw [lit 5]; exact fun q => absurd ((n_le (by omega) (by omega)).mp q) (by omega)), h.gR (by omega) (by omega), bO_s, bO_s, bO_s, rcv_m h.1, bO_s, g1, bO_s, n_addL k 1]
    have ev : 4294967296 ^ n * 2 ^ (n * 2 ^ k) % m * (4294967296 ^ n * 2 ^ (n * 2 ^ k) % m) * RI n m % m = 4294967296 ^ n * 2 ^ (n * 2 ^ (k + 1)) % m := by
      rw [Nat.mul_comm (4294967296 ^ n), M_mul hm1 hm2, Nat.mul_comm (4294967296 ^ n), ← Nat.pow_add]
      congr 3
      rw [Nat.pow_succ, ← Nat.mul_assoc]
      omega
    rw [ev] at g3
    obtain ⟨S2, e1, e2, e3⟩ := ih (k + 1) fuel S1 (by omega) (by omega) (hM.lfr g2 (by simp)) (by rw [(g2.1 6 i).2.1]; exact ht) (by rw [g2.2 _ (by simp)]; exact h1) g3
    exact ⟨S2, e1, g2.trans e2, e3⟩
theorem Q6_bc131 {i n m : Nat} (X : Cx G F W) (h : isMo W i) : ∀ (q k fuel : Nat) (S : ST), q < fuel → k + q = 33 * n → MoB S i n m → (∃ tw, (S 6 i).g 1 = Int64.ofNat tw ∧ tw < 4294967296 ∧ (tw * m + 1) % 4294967296 = 0) → LV (lgt S (.a 6 i 3)) n 1 → LV (lgt S (.a 6 i 4)) n (2 ^ k % m) → ∃ S', B_X6_become_131 G F fuel (W.ad (.o 6 i)) (Int32.ofNat k) (mem W S) = some (mem W S') ∧ lfr [.a 6 i 4, .a 6 i 7] S S' ∧ MoS S' i n m := by
  have hF := X.hF
  intro q
  induction q with
  | zero =>
    intro k fuel S hf hk hM ht h1 hl
    obtain ⟨fuel, rfl⟩ : ∃ q, fuel = q + 1 := ⟨fuel - 1, by omega⟩
    obtain rfl : k = 33 * n := by omega
    have h0 := hM.1
    have hn := hM.2.2.1
    rw [B_X6_become_131, h.gI, bO_s, h0, show (33 : Int32) * (Int32.ofNat n) = (Int32.ofNat (33 * n)) from n_mul 33 n, if_pos ((n_le (by omega) (by omega)).mpr (Nat.le_refl _))]
    have e : 2 ^ (33 * n) = 4294967296 ^ n * 2 ^ (n * 2 ^ 0) := by
      rw [show 33 * n = 32 * n + n * 2 ^ 0 by omega, Nat.pow_add, Nat.pow_mul]
    rw [e] at hl
    exact Q6_bc168 (G := G) (F := F) X h 5 0 F S (by omega) (by omega) hM ht h1 hl
  | succ q ih =>
    intro k fuel S hf hk hM ht h1 hl
    obtain ⟨fuel, rfl⟩ : ∃ q, fuel = q + 1 := ⟨fuel - 1, by omega⟩
    have h0 := hM.1
    have hn := hM.2.2.1
    have hm1 := hM.2.2.2.2.1
    have hlt : 2 ^ k % m < m := Nat.mod_lt _ (by omega)
    obtain ⟨S1, g1, g2, g3⟩ := Q6_plus (G := G) (F := F) X h hM h.l4 h.l4 h.l4 (by omega) (by omega) (by omega) (by simp) (by simp) (by simp) (by simp) hl hl (by omega)
    rw [B_X6_become_131, h.gI, bO_s, h0, show (33 : Int32) * (Int32.ofNat n) = (Int32.ofNat (33 * n)) from n_mul 33 n, if_neg (fun q => absurd ((n_le (by omega) (by omega)).mp q) (by omega)), h.gR (by omega) (by omega), bO_s, bO_s, bO_s, rcv_m h.1, bO_s, g1, bO_s, n_addL k 1]
    have ev : (2 ^ k % m + 2 ^ k % m) % m = 2 ^ (k + 1) % m := by
      rw [← Nat.add_mod, Nat.pow_succ]
      congr 1
      omega
    rw [ev] at g3
    obtain ⟨S2, e1, e2, e3⟩ := ih (k + 1) fuel S1 (by omega) (by omega) (hM.lfr g2 (by simp)) (by rw [(g2.1 6 i).2.1]; exact ht) (by rw [g2.2 _ (by simp)]; exact h1) g3
    exact ⟨S2, e1, g2.trans e2, e3⟩
theorem Q6_become {i ib room : Nat} {S : ST} {xs : List UInt8} {l : Bool} (X : Cx G F W) (h : isMo W i) (hB : isB W ib room) (hb : Byt room (S 0 ib) xs l) (hs : suitsF xs = true) : ∃ S', P_X6_become G F (W.ad (.o 6 i)) (W.ad (.o 0 ib)) (mem W S) = some (mem W S') ∧ fr [(6, i)] S S' ∧ MoS S' i ((xs.length + 3) / 4) (beN xs) := by
  have hF := X.hF
  obtain ⟨hm1, hm2⟩ := suits_m hs
  obtain ⟨s1, s2, _⟩ := of_decide_eq_true hs
  obtain ⟨n, hn⟩ : ∃ n, n = (xs.length + 3) / 4 := ⟨_, rfl⟩
  have hlim : (if (1 : Int32) < (if (32 : Int32) < (((Int32.ofNat xs.length) + (3 : Int32)) / (4 : Int32)) then (32 : Int32) else (((Int32.ofNat xs.length) + (3 : Int32)) / (4 : Int32))) then (if (32 : Int32) < (((Int32.ofNat xs.length) + (3 : Int32)) / (4 : Int32)) then (32 : Int32) else (((Int32.ofNat xs.length) + (3 : Int32)) / (4 : Int32))) else (1 : Int32)) = (Int32.ofNat n) := by
    rw [n_addL _ 3, show (Int32.ofNat (xs.length + 3)) / (4 : Int32) = (Int32.ofNat ((xs.length + 3) / 4)) from n_div (b := 4) (by omega) (by decide), ← hn, if_neg (show ¬ (32 : Int32) < (Int32.ofNat n) by rw [lit 32]; exact fun q => absurd ((n_lt (by omega) (by omega)).mp q) (by omega))]
    by_cases c : 1 < n
    · rw [if_pos (by rw [lit 1]; exact (n_lt (by omega) (by omega)).mpr c)]
    · rw [if_neg (by rw [lit 1]; exact fun q => c ((n_lt (by omega) (by omega)).mp q)), show n = 1 by omega]
      rfl
  unfold P_X6_become
  rw [hB.gI 1 rfl, bO_s, hb.many, hlim, pfI_m h.1 rfl, bO_s]
  obtain ⟨S1, hS1⟩ : ∃ S1, S1 = S.so 6 i ((S 6 i).sf 0 (Int32.ofNat n)) := ⟨_, rfl⟩
  have f1 : fr [(6, i)] S S1 := by rw [hS1]; exact fr_so (by simp)
  have z1 : (S1 6 i).f 0 = (Int32.ofNat n) := by rw [hS1, so_eq, sf_f, if_pos rfl]
  have b1 : Byt room (S1 0 ib) xs l := by rw [f1 0 ib (by simp)]; exact hb
  rw [← hS1]
  obtain ⟨S2, g2, f2, o2, l2⟩ := Q6_bc23 (G := G) (F := F) (ib := ib) (n := n) h (by omega) n 0 F S1 (by omega) (by omega) z1 (fun t ht => by omega) (fun t ht => by omega)
  have g2' : B_X6_become_23 G F F (W.ad (.o 6 i)) (W.ad (.o 0 ib)) 0 (mem W S1) = _ := g2
  have b2 := Byt.lfr f2 b1
  rw [g2', hB.gI 1 rfl, bO_s, b2.many, h.gR (by omega) (by omega), bO_s, rcv_m h.1, bO_s]
  obtain ⟨S3, g3, f3, v3⟩ := Q6_load (G := G) (F := F) (n := n) (p := 0) (many := xs.length) X h hB h.l2 (by omega) (by omega) (by omega) (by omega) (by rw [(f2.1 6 i).1]; exact z1) b2
  have esg : seg xs 0 xs.length = xs := by unfold seg; rw [List.drop_zero, List.take_length]
  rw [esg] at v3
  have g3' : P_X6_loadLimbs G F (W.ad (.o 6 i)) (W.ad (.o 0 ib)) 0 (Int32.ofNat xs.length) (W.ad (.a 6 i 2)) (mem W S2) = some (mem W S3) := g3
  rw [g3', bO_s]
  have d0 := v3.dg 0 (by omega)
  have em0 : beN xs % 4294967296 = dg (beN xs) 0 := by unfold dg; rw [Nat.pow_zero, Nat.div_one]
  have hN := Q6_bc90 (G := G) (F := F) (S := S3) (m0 := dg (beN xs) 0) h d0.1 6 0 F (by omega) (by omega)
  have hN' : B_X6_become_90 G F F (W.ad (.o 6 i)) 1 0 (mem W S3) = _ := hN
  rw [hN']
  obtain ⟨S4, hS4⟩ : ∃ S4, S4 = S3.so 6 i ((S3 6 i).sg 1 (Int64.ofNat ((-(nwt (dg (beN xs) 0) 6)) % 4294967296).toNat)) := ⟨_, rfl⟩
  rw [← hS4]
  have f4 : fr [(6, i)] S3 S4 := by rw [hS4]; exact fr_so (by simp)
  have lg4 : ∀ x, lgt S4 x = lgt S3 x := fun x => by rw [hS4]; exact lgt_sg x
  have z3 : (S3 6 i).f 0 = (Int32.ofNat n) := by rw [(f3.1 6 i).1, (f2.1 6 i).1]; exact z1
  have hM4 : MoB S4 i n (beN xs) := ⟨by rw [hS4, so_eq]; exact z3, by omega, by omega, by rw [lg4]; exact v3, hm1, hm2⟩
  have hbn : 1 < 4294967296 ^ n := Nat.lt_of_lt_of_le (show 1 < 4294967296 ^ 1 by decide) (Nat.pow_le_pow_right (by decide) (by omega))
  obtain ⟨S5, g5, f5, m5⟩ := Q6_bc131 (G := G) (F := F) (n := n) (m := beN xs) X h (33 * n) 0 F S4 (by omega) (by omega) hM4 ⟨_, by rw [hS4, so_eq, sg_g, if_pos rfl], (tw_ok em0 hm2).1, (tw_ok em0 hm2).2⟩ (by
    rw [lg4, f3.2 _ (by simp)]
    exact o2.lv hbn) (by
    rw [lg4, f3.2 _ (by simp), Nat.pow_zero, Nat.mod_eq_of_lt hm1]
    exact l2.lv hbn)
  refine ⟨S5, g5, (((f1.trans (f2.fr (by simp [ow]))).trans (f3.fr (by simp [ow]))).trans f4).trans (f5.fr (by simp [ow])), ?_⟩
  rw [← hn]
  exact m5
theorem MoS.b {S : ST} {i n m : Nat} (h : MoS S i n m) : MoB S i n m := h.1
theorem MoS.tw {S : ST} {i n m : Nat} (h : MoS S i n m) : ∃ tw, (S 6 i).g 1 = Int64.ofNat tw ∧ tw < 4294967296 ∧ (tw * m + 1) % 4294967296 = 0 := h.2.1
theorem MoS.one {S : ST} {i n m : Nat} (h : MoS S i n m) : LV (lgt S (.a 6 i 3)) n 1 := h.2.2.1
theorem MoS.ld {S : ST} {i n m : Nat} (h : MoS S i n m) : LV (lgt S (.a 6 i 4)) n (4294967296 ^ n * 4294967296 ^ n % m) := h.2.2.2
theorem Q6_lead {i n m N v : Nat} {S : ST} {x : Cl} (X : Cx G F W) (h : isMo W i) (hM : MoS S i n m) (hx : lok W x N) (hN : n ≤ N) (ho : ow x ≠ (6, i)) (hv : LV (lgt S x) n v) : ∃ S', P_X6_lead G F (W.ad (.o 6 i)) (W.ad x) (mem W S) = some (mem W S') ∧ lfr [x, .a 6 i 7] S S' ∧ LV (lgt S' x) n (v * 4294967296 ^ n % m) ∧ MoS S' i n m := by
  have hm1 := hM.b.2.2.2.2.1
  have hn := hM.b.2.2.1
  have no : ∀ k, x ≠ .a 6 i k := fun k e => ho (by rw [e]; rfl)
  obtain ⟨S1, g1, g2, g3⟩ := Q6_times (G := G) (F := F) X h hM.b hM.tw hx h.l4 hx hN (by omega) hN (no 7) (by simp) (no 7).symm (no 2).symm hv hM.ld (Nat.mod_lt _ (by omega))
  rw [M_lead hm1 hM.b.2.2.2.2.2] at g3
  refine ⟨S1, ?_, g2, g3, hM.lfr g2 (by simp; exact (no 2).symm) (by simp; exact (no 3).symm) (by simp; exact (no 4).symm)⟩
  unfold P_X6_lead
  rw [h.gR (by omega) (by omega), bO_s, rcv_m h.1, bO_s, g1, bO_s]
theorem Q6_back {i n m N v : Nat} {S : ST} {x : Cl} (X : Cx G F W) (h : isMo W i) (hM : MoS S i n m) (hx : lok W x N) (hN : n ≤ N) (ho : ow x ≠ (6, i)) (hv : LV (lgt S x) n v) : ∃ S', P_X6_leadBack G F (W.ad (.o 6 i)) (W.ad x) (mem W S) = some (mem W S') ∧ lfr [x, .a 6 i 7] S S' ∧ LV (lgt S' x) n (v * 1 * RI n m % m) ∧ MoS S' i n m := by
  have hm1 := hM.b.2.2.2.2.1
  have hn := hM.b.2.2.1
  have no : ∀ k, x ≠ .a 6 i k := fun k e => ho (by rw [e]; rfl)
  obtain ⟨S1, g1, g2, g3⟩ := Q6_times (G := G) (F := F) X h hM.b hM.tw hx h.l3 hx hN (by omega) hN (no 7) (by simp) (no 7).symm (no 2).symm hv hM.one hm1
  refine ⟨S1, ?_, g2, g3, hM.lfr g2 (by simp; exact (no 2).symm) (by simp; exact (no 3).symm) (by simp; exact (no 4).symm)⟩
  unfold P_X6_leadBack
  rw [h.gR (by omega) (by omega), bO_s, rcv_m h.1, bO_s, g1, bO_s]
end TAKE
