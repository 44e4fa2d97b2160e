/-! THE CLASS'S MODULUS: products -/
/-- the inverse of 2 to the power of all bits -/
def RI (n m : Nat) : Nat := ((m + 1) / 2) ^ (32 * n) % m
theorem one_pow_mod {m : Nat} (h1 : 1 < m) (k : Nat) : (m + 1) ^ k % m = 1 := by
  rw [Nat.pow_mod, Nat.add_mod_left, Nat.mod_eq_of_lt h1, Nat.one_pow, Nat.mod_eq_of_lt h1]
theorem RI_spec {n m : Nat} (h1 : 1 < m) (h2 : m % 2 = 1) : 4294967296 ^ n * RI n m % m = 1 := by
  unfold RI
  have e : (4294967296 : Nat) = 2 ^ 32 := by decide
  rw [e, ← Nat.pow_mul, Nat.mul_mod, Nat.mod_mod, ← Nat.mul_mod, ← Nat.mul_pow, show 2 * ((m + 1) / 2) = m + 1 by omega]
  exact one_pow_mod h1 _
theorem RI_cancel {T x y Q n m : Nat} (h1 : 1 < m) (h2 : m % 2 = 1) (h : T * 4294967296 ^ n = x * y + Q * m) : T % m = x * y * RI n m % m := by
  have e1 : T * (4294967296 ^ n * RI n m) % m = T % m := by
    rw [Nat.mul_mod, RI_spec h1 h2, Nat.mul_one, Nat.mod_mod]
  rw [← e1, ← Nat.mul_assoc, h, Nat.add_mul, Nat.mul_right_comm Q m, Nat.add_mul_mod_self_right]
theorem vN_mod {d : Nat → Nat} (h0 : d 0 < 4294967296) : ∀ {n : Nat}, 1 ≤ n → vN d n % 4294967296 = d 0
  | 1, _ => by
    rw [vN, vN, Nat.pow_zero, Nat.zero_add, Nat.mul_one, Nat.mod_eq_of_lt h0]
  | n + 2, _ => by
    rw [vN, Nat.pow_succ, ← Nat.mul_assoc, Nat.add_mul_mod_self_right]
    exact vN_mod h0 (n := n + 1) (by omega)
theorem stepT {A M E dig s y lo c c' P : Nat} (h : A + dig * M = E + c * P) (hk : c + (dig * y + s) = lo + c' * 4294967296) : (A + s * P) + dig * (M + y * P) = (E + lo * P) + c' * (P * 4294967296) := by
  rw [Nat.mul_add, ← Nat.mul_assoc]
  have := stepN (s := s) (mm := dig * y) (lo := lo) (c' := c') h (by omega)
  omega
theorem stepD {A M R q s y lo c c' P : Nat} (h : A + q * M = 4294967296 * (R + c * P)) (hk : c + (q * y + s) = lo + c' * 4294967296) : (A + s * (P * 4294967296)) + q * (M + y * (P * 4294967296)) = 4294967296 * ((R + lo * P) + c' * (P * 4294967296)) := by
  have h2 := congrArg (fun z => z * P) hk
  simp only [Nat.add_mul] at h2
  rw [Nat.mul_add q, ← Nat.mul_assoc q, ← Nat.mul_assoc (q * y), ← Nat.mul_assoc s, ← Nat.mul_assoc c']
  have e1 : c' * 4294967296 * P = c' * P * 4294967296 := Nat.mul_right_comm c' _ _
  omega
theorem stepE {A M R q top lo hi c P : Nat} (h : A + q * M = 4294967296 * (R + c * P)) (hk : top + c = lo + hi * 4294967296) : A + top * (P * 4294967296) + q * M = 4294967296 * ((R + lo * P) + hi * (P * 4294967296)) := by
  have h2 := congrArg (fun z => z * P) hk
  simp only [Nat.add_mul] at h2
  rw [← Nat.mul_assoc top, ← Nat.mul_assoc hi]
  have e1 : hi * 4294967296 * P = hi * P * 4294967296 := Nat.mul_right_comm hi _ _
  omega
theorem stepO {T T' X d y Q q m P : Nat} (h : T * P = X * y + Q * m) (hk : T + d * y + q * m = 4294967296 * T') : T' * (P * 4294967296) = (X + d * P) * y + (Q + q * P) * m := by
  have h2 := congrArg (fun z => z * P) hk
  simp only [Nat.add_mul] at h2
  have e1 : T' * (P * 4294967296) = 4294967296 * T' * P := by rw [Nat.mul_comm P, ← Nat.mul_assoc, Nat.mul_comm T']
  have e2 : d * P * y = d * y * P := Nat.mul_right_comm d P y
  have e3 : q * P * m = q * m * P := Nat.mul_right_comm q P m
  rw [e1, ← h2, Nat.add_mul, Nat.add_mul, e2, e3, h]
  omega
theorem mont_bound {T X Q y m P : Nat} (h : T * P = X * y + Q * m) (hX : X < P) (hQ : Q < P) (hy : y < m) : T < 2 * m := by
  apply Nat.lt_of_not_le
  intro q
  have hP : 0 < P := by omega
  have a1 : 2 * m * P ≤ T * P := Nat.mul_le_mul_right P q
  have a2 : X * y ≤ P * y := Nat.mul_le_mul_right y (by omega)
  have a3 : Q * m ≤ P * m := Nat.mul_le_mul_right m (by omega)
  have a4 : P * y < P * m := Nat.mul_lt_mul_of_pos_left hy hP
  have a5 : 2 * m * P = 2 * (P * m) := by rw [Nat.mul_assoc, Nat.mul_comm m]
  omega
theorem mul_lt64 {a b : Nat} (ha : a < 4294967296) (hb : b < 4294967296) : a * b ≤ 18446744065119617025 := by
  have := Nat.mul_le_mul (show a ≤ 4294967295 by omega) (show b ≤ 4294967295 by omega)
  omega
theorem vN_s (d : Nat → Nat) (n : Nat) : vN d (n + 1) = vN d n + d n * 4294967296 ^ n := rfl
section MONT
variable {W : WR} {G : mG} {F : Nat}
theorem Q6_t160 {r29 : Nat → Nat → Nat → Nat → Int32 → mM → Option mM} {i n q top l1 l2 l3 : Nat} {l4 : Int32} {dm ds : Nat → Nat} (h : isMo W i) (hn : n ≤ 32) (hq : q < 4294967296) (htop : top < 8589934592) : ∀ (m k fuel : Nat) (S : ST) (c : Nat) (r : Nat → Nat), m < fuel → k + 1 + m = n → (S 6 i).f 0 = (Int32.ofNat n) → LD (lgt S (.a 6 i 2)) n dm → LD (lgt S (.a 6 i 7)) k r → (∀ t, k + 1 ≤ t → t < n → lgt S (.a 6 i 7) t = Int64.ofNat (ds t) ∧ ds t < 4294967296) → c < 4294967296 → vN ds (k + 1) + q * vN dm (k + 1) = 4294967296 * (vN r k + c * 4294967296 ^ k) → ∃ S' r' tp', B_X6_times_160 G F r29 fuel (W.ad (.o 6 i)) l1 l2 l3 l4 (Int64.ofNat q) (Int64.ofNat c) (Int64.ofNat top) (Int32.ofNat (k + 1)) (mem W S) = r29 (W.ad (.o 6 i)) l1 l2 l3 (l4 + 1) (mem W S') ∧ lfr [.a 6 i 7] S S' ∧ LD (lgt S' (.a 6 i 7)) n r' ∧ lgt S' (.a 6 i 7) n = Int64.ofNat tp' ∧ vN ds n + top * 4294967296 ^ n + q * vN dm n = 4294967296 * (vN r' n + tp' * 4294967296 ^ n) := by
  intro m
  induction m with
  | zero =>
    intro k fuel S c r hf hj h0 hm hr hs hc hv
    obtain ⟨fuel, rfl⟩ : ∃ q, fuel = q + 1 := ⟨fuel - 1, by omega⟩
    obtain rfl : n = k + 1 := by omega
    rw [B_X6_times_160, h.gI, bO_s, h0, if_pos ((n_le (by omega) (by omega)).mpr (Nat.le_refl _)), h.gR (by omega) (by omega), bO_s, bO_s, n_subL 1 (by omega), Nat.add_sub_cancel, l_add, l_lim, l_ush (by omega), lx_set h.l7 (by omega), bO_s]
    obtain ⟨S1, hS1⟩ : ∃ S1, S1 = lst S (.a 6 i 7) (vp_updL (lgt S (.a 6 i 7)) k (Int64.ofNat ((top + c) % 4294967296))) := ⟨_, rfl⟩
    have f1 : lfr [.a 6 i 7] S S1 := by rw [hS1]; exact lfr_lst (by simp)
    rw [← hS1, h.gR (by omega) (by omega), bO_s, h.gI, bO_s, (f1.1 6 i).1, h0, lx_set h.l7 (by omega), bO_s]
    refine ⟨_, vp_updN r k ((top + c) % 4294967296), (top + c) / 4294967296, rfl, f1.trans (lfr_lst (by simp)), ?_, ?_, ?_⟩
    · rw [lgt_eq h.l7]
      refine LD.congr (f := lgt S1 (.a 6 i 7)) ?_ (fun t ht => updL_ne (by omega))
      rw [hS1, lgt_eq h.l7]
      exact hr.snoc rfl (by omega)
    · rw [lgt_eq h.l7, updL_eq]
    · rw [vN_upd, Nat.pow_succ]
      exact stepE hv (by omega)
  | succ m ih =>
    intro k fuel S c r hf hj h0 hm hr hs hc hv
    obtain ⟨fuel, rfl⟩ : ∃ q, fuel = q + 1 := ⟨fuel - 1, by omega⟩
    have hmj := hm (k + 1) (by omega)
    have hsj := hs (k + 1) (by omega) (by omega)
    have hmul := mul_lt64 hq hmj.2
    have ea : Int64.ofNat c + (Int64.ofNat q * lgt S (.a 6 i 2) (k + 1) + lgt S (.a 6 i 7) (k + 1)) = Int64.ofNat (c + (q * dm (k + 1) + ds (k + 1))) := by rw [hmj.1, hsj.1, l_mul, l_add, l_add]
    rw [B_X6_times_160, h.gI, bO_s, h0, if_neg (fun q => absurd ((n_le (by omega) (by omega)).mp q) (by omega)), h.gR (by omega) (by omega), bO_s, lx_get h.l2 (by omega), bO_s, h.gR (by omega) (by omega), bO_s, lx_get h.l7 (by omega), bO_s, bO_s, ea, l_lim, l_ush (by omega), n_subL 1 (by omega), Nat.add_sub_cancel, lx_set h.l7 (by omega), bO_s, n_addL (k + 1) 1]
    obtain ⟨S', r', tp', g1, g2, g3, g4, g5⟩ := ih (k + 1) fuel (lst S (.a 6 i 7) (vp_updL (lgt S (.a 6 i 7)) k (Int64.ofNat ((c + (q * dm (k + 1) + ds (k + 1))) % 4294967296)))) ((c + (q * dm (k + 1) + ds (k + 1))) / 4294967296) (vp_updN r k ((c + (q * dm (k + 1) + ds (k + 1))) % 4294967296)) (by omega) (by omega) (by rw [(lst_fga _ _ _ _ _).1]; exact h0) (by rw [lgt_ne (by simp)]; exact hm) (by rw [lgt_eq h.l7]; exact hr.snoc rfl (by omega)) (fun t h1 h2 => by rw [lgt_eq h.l7, updL_ne (by omega)]; exact hs t (by omega) h2) (by omega) (by
      rw [vN_upd, vN_s ds (k + 1), vN_s dm (k + 1), Nat.pow_succ]
      exact stepD hv (by omega))
    exact ⟨S', r', tp', g1, (lfr_lst (by simp)).trans g2, g3, g4, g5⟩
theorem Q6_t50 {r29 : Nat → Nat → Nat → Nat → Int32 → mM → Option mM} {i n dig tp tw Ny l1 l3 : Nat} {l4 : Int32} {y : Cl} {dm dy ds : Nat → Nat} (X : Cx G F W) (h : isMo W i) (hy : lok W y Ny) (hn1 : 1 ≤ n) (hn : n ≤ 32) (hNy : n ≤ Ny) (y7 : y ≠ .a 6 i 7) (hd : dig < 4294967296) (htp : tp ≤ 1) (htw : tw < 4294967296) (htm : (tw * vN dm n + 1) % 4294967296 = 0) : ∀ (m j fuel : Nat) (S : ST) (c : Nat) (e : Nat → Nat), m < fuel → j + m = n → (S 6 i).f 0 = (Int32.ofNat n) → (S 6 i).g 1 = Int64.ofNat tw → LD (lgt S (.a 6 i 2)) n dm → LD (lgt S y) n dy → LD (lgt S (.a 6 i 7)) j e → (∀ t, j ≤ t → t < n → lgt S (.a 6 i 7) t = Int64.ofNat (ds t) ∧ ds t < 4294967296) → lgt S (.a 6 i 7) n = Int64.ofNat tp → c < 4294967296 → vN ds j + dig * vN dy j = vN e j + c * 4294967296 ^ j → ∃ S' r' tp' q, B_X6_times_50 G F r29 fuel (W.ad (.o 6 i)) l1 (W.ad y) l3 l4 (Int64.ofNat dig) (Int64.ofNat c) (Int32.ofNat j) (mem W S) = r29 (W.ad (.o 6 i)) l1 (W.ad y) l3 (l4 + 1) (mem W S') ∧ lfr [.a 6 i 7] S S' ∧ LD (lgt S' (.a 6 i 7)) n r' ∧ lgt S' (.a 6 i 7) n = Int64.ofNat tp' ∧ q < 4294967296 ∧ (vN ds n + tp * 4294967296 ^ n) + dig * vN dy n + q * vN dm n = 4294967296 * (vN r' n + tp' * 4294967296 ^ n) := by
  have hF := X.hF
  intro m
  induction m with
  | zero =>
    intro j fuel S c e hf hj h0 hg hm hdy he hs ht hc hv
    obtain ⟨fuel, rfl⟩ : ∃ q, fuel = q + 1 := ⟨fuel - 1, by omega⟩
    obtain rfl : j = n := by omega
    have h7 := he 0 (by omega)
    have hm0 := hm 0 (by omega)
    obtain ⟨q, hq⟩ : ∃ q, q = e 0 * tw % 4294967296 := ⟨_, rfl⟩
    have hq2 : q < 4294967296 := by omega
    have hmul := mul_lt64 hq2 hm0.2
    have ea : (lgt S (.a 6 i 7) 0 * Int64.ofNat tw) &&& 4294967295 = Int64.ofNat q := by rw [h7.1, l_mul, l_lim, hq]
    have eb : ushL (Int64.ofNat q * lgt S (.a 6 i 2) 0 + lgt S (.a 6 i 7) 0) 32 = Int64.ofNat ((q * dm 0 + e 0) / 4294967296) := by rw [h7.1, hm0.1, l_mul, l_add, l_ush (by omega)]
    have q7 : aL G (mem W S) (W.ad (.a 6 i 7)) (0 : Int32) = some (lgt S (.a 6 i 7) 0) := lx_get (j := 0) h.l7 (by omega)
    have q2 : aL G (mem W S) (W.ad (.a 6 i 2)) (0 : Int32) = some (lgt S (.a 6 i 2) 0) := lx_get (j := 0) h.l2 (by omega)
    have gl : gfL (mem W S) (W.ad (.o 6 i)) 6 1 = some ((S 6 i).g 1) := gfL_m h.1 rfl
    rw [B_X6_times_50, h.gI, bO_s, h0, if_pos ((n_le (by omega) (by omega)).mpr (Nat.le_refl _)), h.gR (k := 7) (by omega) (by omega), bO_s, bO_s, lx_get h.l7 (by omega), bO_s, bO_s, q7, bO_s, gl, bO_s, h.gR (k := 2) (by omega) (by omega), bO_s, q2, bO_s, bO_s, q7, bO_s, hg, ea, eb, ht, l_add]
    have hmod : (q * dm 0 + e 0) % 4294967296 = 0 := by
      have e1 : dm 0 = vN dm j % 4294967296 := (vN_mod hm0.2 hn1).symm
      rw [hq, e1, Nat.add_mod, ← Nat.mul_mod, ← Nat.add_mod, show e 0 * tw * vN dm j + e 0 = e 0 * (tw * vN dm j + 1) by rw [Nat.mul_add, Nat.mul_one, Nat.mul_assoc], Nat.mul_mod, htm, Nat.mul_zero, Nat.zero_mod]
    obtain ⟨S', r', tp', g1, g2, g3, g4, g5⟩ := Q6_t160 (G := G) (F := F) (r29 := r29) (q := q) (top := tp + c) (l1 := l1) (l2 := W.ad y) (l3 := l3) (l4 := l4) (dm := dm) (ds := e) h hn hq2 (by omega) (j - 1) 0 F S ((q * dm 0 + e 0) / 4294967296) (fun _ => 0) (by omega) (by omega) h0 hm (fun t ht => by omega) (fun t _ h2 => he t h2) (by omega) (by
      show (0 + e 0 * 1) + q * (0 + dm 0 * 1) = 4294967296 * (0 + _ * 1)
      rw [Nat.zero_add, Nat.zero_add, Nat.zero_add, Nat.mul_one, Nat.mul_one, Nat.mul_one]
      omega)
    refine ⟨S', r', tp', q, g1, g2, g3, g4, hq2, ?_⟩
    rw [← g5, Nat.add_mul]
    omega
  | succ m ih =>
    intro j fuel S c e hf hj h0 hg hm hdy he hs ht hc hv
    obtain ⟨fuel, rfl⟩ : ∃ q, fuel = q + 1 := ⟨fuel - 1, by omega⟩
    have hyj := hdy j (by omega)
    have hsj := hs j (by omega) (by omega)
    have hmul := mul_lt64 hd hyj.2
    have ea : Int64.ofNat c + (Int64.ofNat dig * lgt S y j + lgt S (.a 6 i 7) j) = Int64.ofNat (c + (dig * dy j + ds j)) := by rw [hyj.1, hsj.1, l_mul, l_add, l_add]
    rw [B_X6_times_50, h.gI, bO_s, h0, if_neg (fun q => absurd ((n_le (by omega) (by omega)).mp q) (by omega)), lx_get hy (by omega), bO_s, h.gR (by omega) (by omega), bO_s, lx_get h.l7 (by omega), bO_s, bO_s, ea, l_lim, l_ush (by omega), lx_set h.l7 (by omega), bO_s, n_addL j 1]
    obtain ⟨S', r', tp', q, g1, g2, g3, g4, g5⟩ := ih (j + 1) fuel (lst S (.a 6 i 7) (vp_updL (lgt S (.a 6 i 7)) j (Int64.ofNat ((c + (dig * dy j + ds j)) % 4294967296)))) ((c + (dig * dy j + ds j)) / 4294967296) (vp_updN e j ((c + (dig * dy j + ds j)) % 4294967296)) (by omega) (by omega) (by rw [(lst_fga _ _ _ _ _).1]; exact h0) (by rw [(lst_fga _ _ _ _ _).2.1]; exact hg) (by rw [lgt_ne (by simp)]; exact hm) (by rw [lgt_ne y7]; exact hdy) (by rw [lgt_eq h.l7]; exact he.snoc rfl (by omega)) (fun t h1 h2 => by rw [lgt_eq h.l7, updL_ne (by omega)]; exact hs t (by omega) h2) (by rw [lgt_eq h.l7, updL_ne (by omega)]; exact ht) (by omega) (by
      rw [vN_upd, vN_s ds j, vN_s dy j, Nat.pow_succ]
      exact stepT hv (by omega))
    exact ⟨S', r', tp', q, g1, (lfr_lst (by simp)).trans g2, g3, g4, g5⟩
theorem Q6_t29 {i n tw Nx Ny N : Nat} {x y to : Cl} {dm dx dy : Nat → Nat} (X : Cx G F W) (h : isMo W i) (hx : lok W x Nx) (hy : lok W y Ny) (ht : lok W to N) (hn1 : 1 ≤ n) (hn : n ≤ 32) (hNx : n ≤ Nx) (hNy : n ≤ Ny) (hN : n ≤ N) (x7 : x ≠ .a 6 i 7) (y7 : y ≠ .a 6 i 7) (t7 : (.a 6 i 7 : Cl) ≠ to) (t2 : (.a 6 i 2 : Cl) ≠ to) (htw : tw < 4294967296) (htm : (tw * vN dm n + 1) % 4294967296 = 0) (hym : vN dy n < vN dm n) : ∀ (m k fuel : Nat) (S : ST) (s : Nat → Nat) (tp Q : Nat), m < fuel → k + m = n → (S 6 i).f 0 = (Int32.ofNat n) → (S 6 i).g 1 = Int64.ofNat tw → LD (lgt S (.a 6 i 2)) n dm → LD (lgt S x) n dx → LD (lgt S y) n dy → LD (lgt S (.a 6 i 7)) n s → lgt S (.a 6 i 7) n = Int64.ofNat tp → (vN s n + tp * 4294967296 ^ n) * 4294967296 ^ k = vN dx k * vN dy n + Q * vN dm n → Q < 4294967296 ^ k → ∃ S' T Q', B_X6_times_29 G F fuel (W.ad (.o 6 i)) (W.ad x) (W.ad y) (W.ad to) (Int32.ofNat k) (mem W S) = some (mem W S') ∧ lfr [to, .a 6 i 7] S S' ∧ LV (lgt S' to) n (T % vN dm n) ∧ T * 4294967296 ^ n = vN dx n * vN dy n + Q' * vN dm n := by
  have hF := X.hF
  intro m
  induction m with
  | zero =>
    intro k fuel S s tp Q hf hj h0 hg hm hdx hdy hs hst hv hQ
    obtain ⟨fuel, rfl⟩ : ∃ q, fuel = q + 1 := ⟨fuel - 1, by omega⟩
    obtain rfl : k = n := by omega
    have hb := mont_bound hv hdx.lt hQ hym
    have hml := hm.lt
    have htp : tp < 2 := by
      apply Nat.lt_of_not_le
      intro q
      have := Nat.mul_le_mul_right (4294967296 ^ k) q
      omega
    rw [B_X6_times_29, h.gI, bO_s, h0, if_pos ((n_le (by omega) (by omega)).mpr (Nat.le_refl _)), rcv_m h.1, bO_s]
    obtain ⟨S', g1, g2, g3⟩ := Q6_settle (G := G) (F := F) (S := S) (tp := tp) (dm := dm) (ds := s) X h ht hn1 hn hN t7 t2 (by omega) hb h0 hm hs hst
    rw [g1, bO_s]
    exact ⟨S', _, Q, rfl, g2.mono (by simp), g3, hv⟩
  | succ m ih =>
    intro k fuel S s tp Q hf hj h0 hg hm hdx hdy hs hst hv hQ
    obtain ⟨fuel, rfl⟩ : ∃ q, fuel = q + 1 := ⟨fuel - 1, by omega⟩
    have hb := mont_bound hv (vN_lt (fun t ht => (hdx t (by omega)).2)) hQ hym
    have hml := hm.lt
    have htp : tp < 2 := by
      apply Nat.lt_of_not_le
      intro q
      have := Nat.mul_le_mul_right (4294967296 ^ n) q
      omega
    have hxk := hdx k (by omega)
    rw [B_X6_times_29, h.gI, bO_s, h0, if_neg (fun q => absurd ((n_le (by omega) (by omega)).mp q) (by omega)), lx_get hx (by omega), bO_s, hxk.1]
    obtain ⟨S1, r1, tp1, q, g1, g2, g3, g4, g5, g6⟩ := Q6_t50 (G := G) (F := F) (r29 := B_X6_times_29 G F fuel) (dig := dx k) (tp := tp) (tw := tw) (l1 := W.ad x) (l3 := W.ad to) (l4 := (Int32.ofNat k)) (dm := dm) (dy := dy) (ds := s) X h hy hn1 hn hNy y7 hxk.2 (by omega) htw htm n 0 F S 0 (fun _ => 0) (by omega) (by omega) h0 hg hm hdy (fun t ht => by omega) (fun t _ h2 => hs t h2) hst (by omega) (by simp [vN])
    have g1' : B_X6_times_50 G F (B_X6_times_29 G F fuel) F (W.ad (.o 6 i)) (W.ad x) (W.ad y) (W.ad to) (Int32.ofNat k) (Int64.ofNat (dx k)) 0 0 (mem W S) = _ := g1
    rw [g1', n_addL k 1]
    have hq : q * 4294967296 ^ k ≤ 4294967295 * 4294967296 ^ k := Nat.mul_le_mul_right _ (by omega)
    obtain ⟨S', T, Q', e1, e2, e3, e4⟩ := ih (k + 1) fuel S1 r1 tp1 (Q + q * 4294967296 ^ k) (by omega) (by omega) (by rw [(g2.1 6 i).1]; exact h0) (by rw [(g2.1 6 i).2.1]; exact hg) (by rw [g2.2 _ (by simp)]; exact hm) (by rw [g2.2 _ (by simpa using x7)]; exact hdx) (by rw [g2.2 _ (by simpa using y7)]; exact hdy) g3 g4 (by
      rw [Nat.pow_succ, vN]
      exact stepO hv g6) (by rw [Nat.pow_succ]; omega)
    exact ⟨S', T, Q', e1, (g2.mono (by simp)).trans e2, e3, e4⟩
theorem Q6_t3 {i n : Nat} {l1 l2 l3 : Nat} (h : isMo W i) (hn : n ≤ 32) : ∀ (m j fuel : Nat) (S : ST), m < fuel → j + m = n + 1 → (S 6 i).f 0 = (Int32.ofNat n) → (∀ t, t < j → lgt S (.a 6 i 7) t = 0) → ∃ S', B_X6_times_3 G F fuel (W.ad (.o 6 i)) l1 l2 l3 (Int32.ofNat j) (mem W S) = B_X6_times_29 G F F (W.ad (.o 6 i)) l1 l2 l3 0 (mem W S') ∧ lfr [.a 6 i 7] S S' ∧ ∀ t, t ≤ n → lgt S' (.a 6 i 7) t = 0 := by
  intro m
  induction m with
  | zero =>
    intro j fuel S hf hj h0 hz
    obtain ⟨fuel, rfl⟩ : ∃ q, fuel = q + 1 := ⟨fuel - 1, by omega⟩
    rw [B_X6_times_3, h.gI, bO_s, h0, if_pos ((n_lt (by omega) (by omega)).mpr (by omega))]
    exact ⟨S, rfl, lfr.refl _ _, fun t ht => hz t (by omega)⟩
  | succ m ih =>
    intro j fuel S hf hj h0 hz
    obtain ⟨fuel, rfl⟩ : ∃ q, fuel = q + 1 := ⟨fuel - 1, by omega⟩
    rw [B_X6_times_3, h.gI, bO_s, h0, if_neg (fun q => absurd ((n_lt (by omega) (by omega)).mp q) (by omega)), h.gR (by omega) (by omega), bO_s, lx_set h.l7 (by omega), bO_s, n_addL j 1]
    obtain ⟨S', g1, g2, g3⟩ := ih (j + 1) fuel (lst S (.a 6 i 7) (vp_updL (lgt S (.a 6 i 7)) j 0)) (by omega) (by omega) (by rw [(lst_fga _ _ _ _ _).1]; exact h0) (fun t ht => by
      rw [lgt_eq h.l7]
      by_cases c : t = j
      · rw [c, updL_eq]
      · rw [updL_ne c]; exact hz t (by omega))
    exact ⟨S', g1, (lfr_lst (by simp)).trans g2, g3⟩
theorem LD_zero {f : Nat → Int64} {n : Nat} (h : ∀ t, t < n → f t = 0) : LD f n (fun _ => 0) := fun t ht => ⟨(h t ht).trans rfl, by show 0 < 4294967296; decide⟩
theorem Q6_times {i n m N Nx Ny vx vy : Nat} {S : ST} {x y to : Cl} (X : Cx G F W) (h : isMo W i) (hM : MoB S i n m) (htw : ∃ tw, (S 6 i).g 1 = Int64.ofNat tw ∧ tw < 4294967296 ∧ (tw * m + 1) % 4294967296 = 0) (hx : lok W x Nx) (hy : lok W y Ny) (ht : lok W to N) (hNx : n ≤ Nx) (hNy : n ≤ Ny) (hN : n ≤ N) (x7 : x ≠ .a 6 i 7) (y7 : y ≠ .a 6 i 7) (t7 : (.a 6 i 7 : Cl) ≠ to) (t2 : (.a 6 i 2 : Cl) ≠ to) (hvx : LV (lgt S x) n vx) (hvy : LV (lgt S y) n vy) (hym : vy < m) : ∃ S', P_X6_times G F (W.ad (.o 6 i)) (W.ad x) (W.ad y) (W.ad to) (mem W S) = some (mem W S') ∧ lfr [to, .a 6 i 7] S S' ∧ LV (lgt S' to) n (vx * vy * RI n m % m) := by
  have hF := X.hF
  obtain ⟨h0, hn1, hn, ⟨dm, hm, rfl⟩, hm1, hm2⟩ := hM
  obtain ⟨dx, hdx, rfl⟩ := hvx
  obtain ⟨dy, hdy, rfl⟩ := hvy
  obtain ⟨tw, hg, htw1, htw2⟩ := htw
  obtain ⟨S1, g1, g2, g3⟩ := Q6_t3 (G := G) (F := F) (n := n) (l1 := W.ad x) (l2 := W.ad y) (l3 := W.ad to) h hn (n + 1) 0 F S (by omega) (by omega) h0 (fun t ht => by omega)
  obtain ⟨S', T, Q', e1, e2, e3, e4⟩ := Q6_t29 (G := G) (F := F) (tw := tw) (dm := dm) (dx := dx) (dy := dy) X h hx hy ht hn1 hn hNx hNy hN x7 y7 t7 t2 htw1 htw2 hym n 0 F S1 (fun _ => 0) 0 0 (by omega) (by omega) (by rw [(g2.1 6 i).1]; exact h0) (by rw [(g2.1 6 i).2.1]; exact hg) (by rw [g2.2 _ (by simp)]; exact hm) (by rw [g2.2 _ (by simpa using x7)]; exact hdx) (by rw [g2.2 _ (by simpa using y7)]; exact hdy) (LD_zero (fun t ht => g3 t (by omega))) (g3 n (by omega)) (by rw [vN_zero (fun _ _ => rfl), vN]; simp) (by simp)
  refine ⟨S', ?_, (g2.mono (by simp)).trans e2, ?_⟩
  · unfold P_X6_times
    have g1' : B_X6_times_3 G F F (W.ad (.o 6 i)) (W.ad x) (W.ad y) (W.ad to) 0 (mem W S) = _ := g1
    rw [g1']
    exact e1
  · rw [← RI_cancel hm1 hm2 e4]
    exact e3
end MONT
