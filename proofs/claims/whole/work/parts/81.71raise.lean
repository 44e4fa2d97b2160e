/-! THE CLASS'S MODULUS: take, raise -/
theorem seg_tk {xs : List UInt8} {p n a : Nat} (h : a ≤ n) : (seg xs p n).take a = seg xs p a := by
  unfold seg
  rw [List.take_take, Nat.min_eq_left h]
theorem seg_cat {xs : List UInt8} {p a b : Nat} : seg xs p a ++ seg xs (p + a) b = seg xs p (a + b) := by
  unfold seg
  rw [← List.drop_drop, ← List.take_add]
section RAISE
variable {W : WR} {G : mG} {F : Nat}
theorem Q6_take_l {i ib room n m N p many : Nat} {to : Cl} {xs : List UInt8} {l : Bool} (X : Cx G F W) (h : isMo W i) (hB : isB W ib room) (ht : lok W to N) (hN : n ≤ N) (ho : ow to ≠ (6, i)) (hp : p + many ≤ xs.length) (hmany : many ≤ 1000) : ∀ (k fuel : Nat) (S : ST), k < fuel → k ≤ (many + 4 * n - 1) / (4 * n) → MoS S i n m → Byt room (S 0 ib) xs l → LV (lgt S to) n (beN (seg xs p (many - k * (4 * n))) % m) → ∃ S', B_X6_take_32 G F fuel (W.ad (.o 6 i)) (W.ad (.o 0 ib)) (Int32.ofNat p) (Int32.ofNat many) (W.ad to) (Int32.ofNat (4 * n)) (Int32.ofNat k) (mem W S) = some (mem W S') ∧ lfr [to, .a 6 i 6, .a 6 i 7] S S' ∧ MoS S' i n m ∧ LV (lgt S' to) n (beN (seg xs p many) % m) := by
  have no : ∀ k, to ≠ .a 6 i k := fun k e => ho (by rw [e]; rfl)
  intro k
  induction k with
  | zero =>
    intro fuel S hf hk hM hb hv
    obtain ⟨fuel, rfl⟩ : ∃ q, fuel = q + 1 := ⟨fuel - 1, by omega⟩
    rw [B_X6_take_32, if_pos (by decide)]
    rw [Nat.zero_mul, Nat.sub_zero] at hv
    exact ⟨S, rfl, lfr.refl _ _, hM, hv⟩
  | succ k ih =>
    intro fuel S hf hk hM hb hv
    obtain ⟨fuel, rfl⟩ : ∃ q, fuel = q + 1 := ⟨fuel - 1, by omega⟩
    have hle := hb.le
    have hr := hB.hr
    have h0 := hM.b.1
    have hn1 := hM.b.2.1
    have hn := hM.b.2.2.1
    have hm1 := hM.b.2.2.2.2.1
    have hm2 := hM.b.2.2.2.2.2
    have hkm : k * (4 * n) < many := by
      have h1 : (k + 1) * (4 * n) ≤ many + 4 * n - 1 := (Nat.le_div_iff_mul_le (by omega)).mp hk
      rw [Nat.add_mul, Nat.one_mul] at h1
      omega
    have hkk : k ≤ k * (4 * n) := Nat.le_mul_of_pos_right k (by omega)
    have hk1 : (k + 1) * (4 * n) = k * (4 * n) + 4 * n := by rw [Nat.add_mul, Nat.one_mul]
    have ep : (Int32.ofNat p) + (Int32.ofNat (many - (k + 1) * (4 * n))) = (Int32.ofNat (p + (many - (k + 1) * (4 * n)))) := n_add _ _
    rw [B_X6_take_32, if_neg (by rw [z32]; exact fun q => absurd ((n_le (by omega) (by omega)).mp q) (by omega)), h.gR (by omega) (by omega), bO_s, rcv_m h.1, bO_s, n_mul, n_subM (by omega) (by omega), n_subL 1 (by omega), Nat.add_sub_cancel, n_mul, n_sub (by omega), n_sub (by omega), ep]
    obtain ⟨S1, g1, f1, v1⟩ := Q6_load (G := G) (F := F) (S := S) (n := n) (p := p + (many - (k + 1) * (4 * n))) (many := many - k * (4 * n) - (many - (k + 1) * (4 * n))) X h hB h.l6 (by omega) (by omega) (by omega) (by omega) h0 hb
    rw [g1, bO_s]
    have M1 : MoS S1 i n m := hM.lfr f1 (by simp) (by simp) (by simp)
    obtain ⟨S2, g2, f2, v2⟩ := Q6_times (G := G) (F := F) X h M1.b M1.tw h.l6 h.l4 h.l6 (by omega) (by omega) (by omega) (by simp) (by simp) (by simp) (by simp) v1 M1.ld (Nat.mod_lt _ (by omega))
    rw [M_lead hm1 hm2] at v2
    have M2 : MoS S2 i n m := M1.lfr f2 (by simp) (by simp) (by simp)
    rw [h.gR (by omega) (by omega), bO_s, h.gR (by omega) (by omega), bO_s, bO_s, rcv_m h.1, bO_s, g2, bO_s]
    obtain ⟨S3, g3, f3, v3⟩ := Q6_times (G := G) (F := F) X h M2.b M2.tw h.l6 h.l3 h.l6 (by omega) (by omega) (by omega) (by simp) (by simp) (by simp) (by simp) v2 M2.one hm1
    rw [M_back hm1 hm2] at v3
    have M3 : MoS S3 i n m := M2.lfr f3 (by simp) (by simp) (by simp)
    have f13 : lfr [to, .a 6 i 6, .a 6 i 7] S S3 := ((f1.mono (by simp)).trans (f2.mono (by simp))).trans (f3.mono (by simp))
    have vt3 : LV (lgt S3 to) n (beN (seg xs p (many - (k + 1) * (4 * n))) % m) := by
      rw [f3.2 _ (by simp; exact ⟨no 6, no 7⟩), f2.2 _ (by simp; exact ⟨no 6, no 7⟩), f1.2 _ (by simp; exact no 6)]
      exact hv
    rw [h.gR (by omega) (by omega), bO_s, h.gR (by omega) (by omega), bO_s, bO_s, rcv_m h.1, bO_s, g3, bO_s]
    obtain ⟨S4, g4, f4, v4⟩ := Q6_times (G := G) (F := F) X h M3.b M3.tw ht h.l4 ht hN (by omega) hN (no 7) (by simp) (no 7).symm (no 2).symm vt3 M3.ld (Nat.mod_lt _ (by omega))
    rw [M_lead hm1 hm2] at v4
    have M4 : MoS S4 i n m := M3.lfr f4 (by simp; exact (no 2).symm) (by simp; exact (no 3).symm) (by simp; exact (no 4).symm)
    rw [h.gR (by omega) (by omega), bO_s, rcv_m h.1, bO_s, g4, bO_s]
    have v34 : LV (lgt S4 (.a 6 i 6)) n (beN (seg xs (p + (many - (k + 1) * (4 * n))) (many - k * (4 * n) - (many - (k + 1) * (4 * n)))) % m) := by
      rw [f4.2 _ (by simp; exact (no 6).symm)]
      exact v3
    have hlt : ∀ a, a % m < m := fun a => Nat.mod_lt _ (by omega)
    have hl1 := hlt (beN (seg xs p (many - (k + 1) * (4 * n))) % m * 4294967296 ^ n)
    have hl2 := hlt (beN (seg xs (p + (many - (k + 1) * (4 * n))) (many - k * (4 * n) - (many - (k + 1) * (4 * n)))))
    obtain ⟨S5, g5, f5, v5⟩ := Q6_plus (G := G) (F := F) X h M4.b ht h.l6 ht hN (by omega) hN (no 7) (by simp) (no 7).symm (no 2).symm v4 v34 (by omega)
    have M5 : MoS S5 i n m := M4.lfr f5 (by simp; exact (no 2).symm) (by simp; exact (no 3).symm) (by simp; exact (no 4).symm)
    rw [h.gR (by omega) (by omega), bO_s, rcv_m h.1, bO_s, g5, bO_s, n_m1 (by omega), Nat.add_sub_cancel]
    have f15 : lfr [to, .a 6 i 6, .a 6 i 7] S S5 := (f13.trans (f4.mono (by simp))).trans (f5.mono (by simp))
    have ev : (beN (seg xs p (many - (k + 1) * (4 * n))) % m * 4294967296 ^ n % m + beN (seg xs (p + (many - (k + 1) * (4 * n))) (many - k * (4 * n) - (many - (k + 1) * (4 * n)))) % m) % m = beN (seg xs p (many - k * (4 * n))) % m := by
      rw [← Nat.add_mod, ac (mc (Nat.mod_mod _ _) rfl) rfl]
      congr 1
      have ec := seg_cat (xs := xs) (p := p) (a := many - (k + 1) * (4 * n)) (b := many - k * (4 * n) - (many - (k + 1) * (4 * n)))
      rw [show many - (k + 1) * (4 * n) + (many - k * (4 * n) - (many - (k + 1) * (4 * n))) = many - k * (4 * n) by omega] at ec
      rw [← ec, beN_app, seg_len (by omega)]
      by_cases c : (k + 1) * (4 * n) ≤ many
      · rw [show many - k * (4 * n) - (many - (k + 1) * (4 * n)) = 4 * n by omega, B_256]
      · rw [show many - (k + 1) * (4 * n) = 0 by omega]
        have : seg xs p 0 = [] := by unfold seg; rw [List.take_zero]
        rw [this, beN_nil, Nat.zero_mul, Nat.zero_mul]
    rw [ev] at v5
    obtain ⟨S6, g6, f6, m6, v6⟩ := ih fuel S5 (by omega) (by omega) M5 (Byt.lfr f15 hb) v5
    exact ⟨S6, g6, f15.trans f6, m6, v6⟩
theorem Q6_take {i ib room n m N p many : Nat} {S : ST} {to : Cl} {xs : List UInt8} {l : Bool} (X : Cx G F W) (h : isMo W i) (hB : isB W ib room) (ht : lok W to N) (hN : n ≤ N) (ho : ow to ≠ (6, i)) (hp : p + many ≤ xs.length) (hmany : many ≤ 1000) (hM : MoS S i n m) (hb : Byt room (S 0 ib) xs l) : ∃ S', P_X6_take G F (W.ad (.o 6 i)) (W.ad (.o 0 ib)) (Int32.ofNat p) (Int32.ofNat many) (W.ad to) (mem W S) = some (mem W S') ∧ lfr [to, .a 6 i 6, .a 6 i 7] S S' ∧ MoS S' i n m ∧ LV (lgt S' to) n (beN (seg xs p many) % m) := by
  have hF := X.hF
  have no : ∀ k, to ≠ .a 6 i k := fun k e => ho (by rw [e]; rfl)
  have h0 := hM.b.1
  have hn1 := hM.b.2.1
  have hn := hM.b.2.2.1
  have hm1 := hM.b.2.2.2.2.1
  have hdv : dvI (((Int32.ofNat many) + ((4 : Int32) * (Int32.ofNat n))) - (1 : Int32)) ((4 : Int32) * (Int32.ofNat n)) = some (Int32.ofNat ((many + 4 * n - 1) / (4 * n))) := by
    unfold dvI
    rw [show (4 : Int32) * (Int32.ofNat n) = (Int32.ofNat (4 * n)) from n_mul 4 n, if_neg (show ¬ (Int32.ofNat (4 * n)) = 0 by rw [z32]; exact fun q => absurd ((n_eq (by omega) (by omega)).mp q) (by omega)), n_add, n_subL 1 (by omega), n_div (by omega) (by omega)]
  obtain ⟨S1, g1, f1, v1⟩ := Q6_load (G := G) (F := F) (S := S) (n := n) (p := p) (many := 0) X h hB ht (by omega) hN (by omega) (by omega) h0 hb
  have g1' : P_X6_loadLimbs G F (W.ad (.o 6 i)) (W.ad (.o 0 ib)) (Int32.ofNat p) 0 (W.ad to) (mem W S) = some (mem W S1) := g1
  have e0 : seg xs p 0 = [] := by unfold seg; rw [List.take_zero]
  have hq : (many + 4 * n - 1) / (4 * n) ≤ 1000 := by
    apply Nat.div_le_of_le_mul
    have : 4 * n * 1000 ≥ 4000 := by omega
    omega
  have hmul : many ≤ (many + 4 * n - 1) / (4 * n) * (4 * n) := by
    have h1 := Nat.lt_div_mul_add (a := many + 4 * n - 1) (b := 4 * n) (by omega)
    omega
  rw [e0, beN_nil] at v1
  obtain ⟨S2, g2, f2, m2, v2⟩ := Q6_take_l (G := G) (F := F) (n := n) (m := m) (xs := xs) (l := l) X h hB ht hN ho hp hmany ((many + 4 * n - 1) / (4 * n)) F S1 (by omega) (Nat.le_refl _) (hM.lfr f1 (by simp; exact (no 2).symm) (by simp; exact (no 3).symm) (by simp; exact (no 4).symm)) (Byt.lfr f1 hb) (by
    rw [show many - (many + 4 * n - 1) / (4 * n) * (4 * n) = 0 by omega, e0, beN_nil, Nat.zero_mod]
    exact v1)
  refine ⟨S2, ?_, (f1.mono (by simp)).trans f2, m2, v2⟩
  unfold P_X6_take
  rw [h.gI, bO_s, h0, hdv, bO_s, rcv_m h.1, bO_s, g1', bO_s, show (4 : Int32) * (Int32.ofNat n) = (Int32.ofNat (4 * n)) from n_mul 4 n]
  exact g2
theorem Q6_raise_l {i ib room n m N vx : Nat} {to : Cl} {ys : List UInt8} {l : Bool} (X : Cx G F W) (h : isMo W i) (hB : isB W ib room) (ht : lok W to N) (hN : n ≤ N) (ho : ow to ≠ (6, i)) (hys : ys.length ≤ 10000) : ∀ (q k fuel : Nat) (S : ST) (bg : Int32), q < fuel → k + q = 8 * ys.length → MoS S i n m → Byt room (S 0 ib) ys l → LV (lgt S (.a 6 i 6)) n (vx * 4294967296 ^ n % m) → LV (lgt S (.a 6 i 5)) n (rz vx m ys k * 4294967296 ^ n % m) → (bg = 1 ∨ bg = 0 ∧ rz vx m ys k = 1) → ∃ S', B_X6_raise_35 G F fuel (W.ad (.o 6 i)) (W.ad (.o 0 ib)) (W.ad to) bg (Int32.ofNat k) (mem W S) = some (mem W S') ∧ lfr [to, .a 6 i 5, .a 6 i 7] S S' ∧ MoS S' i n m ∧ LV (lgt S' to) n (rz vx m ys (8 * ys.length)) := by
  have no : ∀ k, to ≠ .a 6 i k := fun k e => ho (by rw [e]; rfl)
  intro q
  induction q with
  | zero =>
    intro k fuel S bg hf hk hM hb v6 v5 hbg
    obtain ⟨fuel, rfl⟩ : ∃ q, fuel = q + 1 := ⟨fuel - 1, by omega⟩
    obtain rfl : k = 8 * ys.length := by omega
    have hn := hM.b.2.2.1
    have hm1 := hM.b.2.2.2.2.1
    obtain ⟨S1, g1, f1, v1⟩ := Q6_times (G := G) (F := F) X h hM.b hM.tw h.l5 h.l3 ht (by omega) (by omega) hN (by simp) (by simp) (no 7).symm (no 2).symm v5 hM.one hm1
    rw [M_back hm1 hM.b.2.2.2.2.2, Nat.mod_eq_of_lt (rz_lt hm1 _)] at v1
    rw [B_X6_raise_35, hB.gI 1 rfl, bO_s, hb.many, show (8 : Int32) * (Int32.ofNat ys.length) = (Int32.ofNat (8 * ys.length)) from n_mul 8 _, if_pos ((n_le (by omega) (by omega)).mpr (Nat.le_refl _)), h.gR (by omega) (by omega), bO_s, h.gR (by omega) (by omega), bO_s, rcv_m h.1, bO_s, g1, bO_s]
    exact ⟨S1, rfl, f1.mono (by simp), hM.lfr f1 (by simp; exact (no 2).symm) (by simp; exact (no 3).symm) (by simp; exact (no 4).symm), v1⟩
  | succ q ih =>
    intro k fuel S bg hf hk hM hb v6 v5 hbg
    obtain ⟨fuel, rfl⟩ : ∃ q, fuel = q + 1 := ⟨fuel - 1, by omega⟩
    have hn := hM.b.2.2.1
    have hm1 := hM.b.2.2.2.2.1
    have hm2 := hM.b.2.2.2.2.2
    have hlt : ∀ a, a % m < m := fun a => Nat.mod_lt _ (by omega)
    have st : ∀ (S1 : ST) (b1 : Int32), lfr [to, .a 6 i 5, .a 6 i 7] S S1 → MoS S1 i n m → Byt room (S1 0 ib) ys l → LV (lgt S1 (.a 6 i 6)) n (vx * 4294967296 ^ n % m) → LV (lgt S1 (.a 6 i 5)) n (rz vx m ys k * rz vx m ys k * 4294967296 ^ n % m) → (b1 = 1 ∨ b1 = 0 ∧ rz vx m ys k = 1) → ∃ S', B_X6_raise_68 G F (B_X6_raise_35 G F fuel) (W.ad (.o 6 i)) (W.ad (.o 0 ib)) (W.ad to) b1 (Int32.ofNat k) (mem W S1) = some (mem W S') ∧ lfr [to, .a 6 i 5, .a 6 i 7] S S' ∧ MoS S' i n m ∧ LV (lgt S' to) n (rz vx m ys (8 * ys.length)) := by
      intro S1 b1 f1 M1 hb1 u6 u5 hb1g
      unfold B_X6_raise_68
      have hg : P_X0_get G F (W.ad (.o 0 ib)) (Int32.ofNat (k / 8)) (mem W S1) = some ((Int32.ofNat (gN ys (k / 8))), mem W S1) := by rw [← gB_gN]; exact Q0_get hB hb1 (by omega)
      rw [rcv_m hB.lo, bO_s, show (Int32.ofNat k) / (8 : Int32) = (Int32.ofNat (k / 8)) from n_div (b := 8) (by omega) (by decide), hg, bP_s, n_and7]
      have hbt := bit_t (gN ys (k / 8)) (k % 8) (gN_lt _ _) (by omega)
      by_cases c : gN ys (k / 8) / 2 ^ (7 - k % 8) % 2 = 1
      · have cb : bitA ys k = true := decide_eq_true c
        obtain ⟨S2, g2, f2, w2⟩ := Q6_times (G := G) (F := F) X h M1.b M1.tw h.l5 h.l6 h.l5 (by omega) (by omega) (by omega) (by simp) (by simp) (by simp) (by simp) u5 u6 (hlt _)
        rw [M_mul hm1 hm2] at w2
        have M2 : MoS S2 i n m := M1.lfr f2 (by simp) (by simp) (by simp)
        rw [if_pos (hbt.mpr c), h.gR (by omega) (by omega), bO_s, h.gR (by omega) (by omega), bO_s, bO_s, rcv_m h.1, bO_s, g2, bO_s, n_addL k 1]
        have er : rz vx m ys (k + 1) = rz vx m ys k * rz vx m ys k * vx % m := by rw [rz, if_pos cb]
        obtain ⟨S3, g3, f3, m3, w3⟩ := ih (k + 1) fuel S2 1 (by omega) (by omega) M2 (Byt.lfr f2 hb1) (by rw [f2.2 _ (by simp)]; exact u6) (by
          rw [er, mc (Nat.mod_mod _ _) rfl]
          exact w2) (Or.inl rfl)
        exact ⟨S3, g3, (f1.trans (f2.mono (by simp))).trans f3, m3, w3⟩
      · have cb : bitA ys k = false := decide_eq_false c
        rw [if_neg (fun q => c (hbt.mp q)), n_addL k 1]
        have er : rz vx m ys (k + 1) = rz vx m ys k * rz vx m ys k % m := by rw [rz, cb]; rfl
        obtain ⟨S3, g3, f3, m3, w3⟩ := ih (k + 1) fuel S1 b1 (by omega) (by omega) M1 hb1 u6 (by
          rw [er, mc (Nat.mod_mod _ _) rfl]
          exact u5) (by
          rcases hb1g with q | ⟨q1, q2⟩
          · exact Or.inl q
          · exact Or.inr ⟨q1, by rw [er, q2, Nat.mul_one, Nat.mod_eq_of_lt hm1]⟩)
        exact ⟨S3, g3, f1.trans f3, m3, w3⟩
    rw [B_X6_raise_35, hB.gI 1 rfl, bO_s, hb.many, show (8 : Int32) * (Int32.ofNat ys.length) = (Int32.ofNat (8 * ys.length)) from n_mul 8 _, if_neg (fun q => absurd ((n_le (by omega) (by omega)).mp q) (by omega))]
    rcases hbg with rfl | ⟨rfl, h1⟩
    · obtain ⟨S1, g1, f1, w1⟩ := Q6_times (G := G) (F := F) X h hM.b hM.tw h.l5 h.l5 h.l5 (by omega) (by omega) (by omega) (by simp) (by simp) (by simp) (by simp) v5 v5 (hlt _)
      rw [M_mul hm1 hm2] at w1
      rw [if_neg (by decide), h.gR (by omega) (by omega), bO_s, bO_s, bO_s, rcv_m h.1, bO_s, g1, bO_s]
      exact st S1 1 (f1.mono (by simp)) (hM.lfr f1 (by simp) (by simp) (by simp)) (Byt.lfr f1 hb) (by rw [f1.2 _ (by simp)]; exact v6) w1 (Or.inl rfl)
    · rw [if_pos rfl]
      exact st S 0 (lfr.refl _ _) hM hb v6 (by rw [h1] at v5 ⊢; exact v5) (Or.inr ⟨rfl, h1⟩)
theorem Q6_raise {i ib room n m N Nx vx : Nat} {S : ST} {x to : Cl} {ys : List UInt8} {l : Bool} (X : Cx G F W) (h : isMo W i) (hB : isB W ib room) (hx : lok W x Nx) (hNx : n ≤ Nx) (ht : lok W to N) (hN : n ≤ N) (hxo : ow x ≠ (6, i)) (ho : ow to ≠ (6, i)) (hys : ys.length ≤ 10000) (hM : MoS S i n m) (hb : Byt room (S 0 ib) ys l) (hv : LV (lgt S x) n vx) : ∃ S', P_X6_raise G F (W.ad (.o 6 i)) (W.ad x) (W.ad (.o 0 ib)) (W.ad to) (mem W S) = some (mem W S') ∧ lfr [to, .a 6 i 5, .a 6 i 6, .a 6 i 7] S S' ∧ MoS S' i n m ∧ LV (lgt S' to) n (rz vx m ys (8 * ys.length)) := by
  have hF := X.hF
  have no : ∀ k, x ≠ .a 6 i k := fun k e => hxo (by rw [e]; rfl)
  have hn := hM.b.2.2.1
  have hm1 := hM.b.2.2.2.2.1
  have hm2 := hM.b.2.2.2.2.2
  have hlt : ∀ a, a % m < m := fun a => Nat.mod_lt _ (by omega)
  obtain ⟨S1, g1, f1, v1⟩ := Q6_times (G := G) (F := F) X h hM.b hM.tw hx h.l4 h.l6 hNx (by omega) (by omega) (no 7) (by simp) (by simp) (by simp) hv hM.ld (hlt _)
  rw [M_lead hm1 hm2] at v1
  have M1 : MoS S1 i n m := hM.lfr f1 (by simp) (by simp) (by simp)
  obtain ⟨S2, g2, f2, v2⟩ := Q6_times (G := G) (F := F) X h M1.b M1.tw h.l3 h.l4 h.l5 (by omega) (by omega) (by omega) (by simp) (by simp) (by simp) (by simp) M1.one M1.ld (hlt _)
  rw [M_lead hm1 hm2] at v2
  have M2 : MoS S2 i n m := M1.lfr f2 (by simp) (by simp) (by simp)
  obtain ⟨S3, g3, f3, m3, v3⟩ := Q6_raise_l (G := G) (F := F) (vx := vx) (ys := ys) (l := l) X h hB ht hN ho hys (8 * ys.length) 0 F S2 0 (by omega) (by omega) M2 (Byt.lfr f2 (Byt.lfr f1 hb)) (by rw [f2.2 _ (by simp)]; exact v1) (by
    rw [rz, mc (Nat.mod_mod _ _) rfl]
    exact v2) (Or.inr ⟨rfl, by rw [rz, Nat.mod_eq_of_lt hm1]⟩)
  refine ⟨S3, ?_, ((f1.mono (by simp)).trans (f2.mono (by simp))).trans (f3.mono (by simp)), m3, v3⟩
  unfold P_X6_raise
  rw [h.gR (by omega) (by omega), bO_s, h.gR (by omega) (by omega), bO_s, rcv_m h.1, bO_s, g1, bO_s, h.gR (by omega) (by omega), bO_s, h.gR (by omega) (by omega), bO_s, h.gR (by omega) (by omega), bO_s, rcv_m h.1, bO_s, g2, bO_s]
  exact g3
end RAISE
