/-! THE CLASS'S MODULUS: sums and differences -/
abbrev isMo (W : WR) (i : Nat) : Prop := W.live (.o 6 i) = true ∧ ∀ k, 2 ≤ k → k < 8 → W.r 6 i k = some (.a 6 i k) ∧ lok W (.a 6 i k) (if k = 7 then 34 else 32)
def MoB (S : ST) (i n m : Nat) : Prop := (S 6 i).f 0 = (Int32.ofNat n) ∧ 1 ≤ n ∧ n ≤ 32 ∧ LV (lgt S (.a 6 i 2)) n m ∧ 1 < m ∧ m % 2 = 1
def MoS (S : ST) (i n m : Nat) : Prop := MoB S i n m ∧ (∃ tw, (S 6 i).g 1 = Int64.ofNat tw ∧ tw < 4294967296 ∧ (tw * m + 1) % 4294967296 = 0) ∧ LV (lgt S (.a 6 i 3)) n 1 ∧ LV (lgt S (.a 6 i 4)) n (4294967296 ^ n * 4294967296 ^ n % m)
theorem MoB.lfr {S S' : ST} {i n m : Nat} {L : List Cl} (h : MoB S i n m) (f : lfr L S S') (h2 : (.a 6 i 2 : Cl) ∉ L) : MoB S' i n m := by
  obtain ⟨a, b, c, d, e⟩ := h
  exact ⟨by rw [(f.1 6 i).1]; exact a, b, c, by rw [f.2 _ h2]; exact d, e⟩
theorem MoS.lfr {S S' : ST} {i n m : Nat} {L : List Cl} (h : MoS S i n m) (f : lfr L S S') (h2 : (.a 6 i 2 : Cl) ∉ L) (h3 : (.a 6 i 3 : Cl) ∉ L) (h4 : (.a 6 i 4 : Cl) ∉ L) : MoS S' i n m := by
  obtain ⟨a, ⟨tw, b⟩, c, d⟩ := h
  exact ⟨a.lfr f h2, ⟨tw, by rw [(f.1 6 i).2.1]; exact b⟩, by rw [f.2 _ h3]; exact c, by rw [f.2 _ h4]; exact d⟩
theorem stepI {A s M mm E lo P : Nat} {cc c' : Int} (h : (A : Int) - M = E + cc * P) (hk : cc + ((s : Int) - mm) = lo + c' * 4294967296) : ((A + s * P : Nat) : Int) - ((M + mm * P : Nat) : Int) = ((E + lo * P : Nat) : Int) + c' * ((P * 4294967296 : Nat) : Int) := by
  have h2 := congrArg (fun z => z * (P : Int)) hk
  simp only [Int.add_mul, Int.sub_mul] at h2
  have e1 : c' * 4294967296 * (P : Int) = c' * (P : Int) * 4294967296 := Int.mul_right_comm c' _ _
  have e2 : c' * ((P * 4294967296 : Nat) : Int) = c' * (P : Int) * 4294967296 := by rw [Int.natCast_mul, ← Int.mul_assoc]; rfl
  have e3 : ((s * P : Nat) : Int) = (s : Int) * P := Int.natCast_mul _ _
  have e4 : ((mm * P : Nat) : Int) = (mm : Int) * P := Int.natCast_mul _ _
  have e5 : ((lo * P : Nat) : Int) = (lo : Int) * P := Int.natCast_mul _ _
  rw [e2, Int.natCast_add, Int.natCast_add, Int.natCast_add, e3, e4, e5]
  omega
theorem stepN {A s M mm E lo c c' P : Nat} (h : A + M = E + c * P) (hk : c + (s + mm) = lo + c' * 4294967296) : (A + s * P) + (M + mm * P) = (E + lo * P) + c' * (P * 4294967296) := by
  have h2 := congrArg (fun z => z * P) hk
  simp only [Nat.add_mul] at h2
  have e1 : c' * 4294967296 * P = c' * P * 4294967296 := Nat.mul_right_comm c' _ _
  have e2 : c' * (P * 4294967296) = c' * P * 4294967296 := (Nat.mul_assoc _ _ _).symm
  rw [e2]
  omega
section MODU
variable {W : WR} {G : mG} {F : Nat}
theorem isMo.gR {S : ST} {i k : Nat} (h : isMo W i) (h1 : 2 ≤ k) (h2 : k < 8) : gfR (mem W S) (W.ad (.o 6 i)) 6 k = some (W.ad (.a 6 i k)) := by
  refine gfR_m h.1 ?_ (h.2 k h1 h2).1
  have : k = 2 ∨ k = 3 ∨ k = 4 ∨ k = 5 ∨ k = 6 ∨ k = 7 := by omega
  rcases this with rfl | rfl | rfl | rfl | rfl | rfl <;> rfl
theorem isMo.gI {S : ST} {i : Nat} (h : isMo W i) : gfI (mem W S) (W.ad (.o 6 i)) 6 0 = some ((S 6 i).f 0) := gfI_m h.1 rfl
theorem isMo.l2 {i : Nat} (h : isMo W i) : lok W (.a 6 i 2) 32 := (h.2 2 (by omega) (by omega)).2
theorem isMo.l3 {i : Nat} (h : isMo W i) : lok W (.a 6 i 3) 32 := (h.2 3 (by omega) (by omega)).2
theorem isMo.l4 {i : Nat} (h : isMo W i) : lok W (.a 6 i 4) 32 := (h.2 4 (by omega) (by omega)).2
theorem isMo.l5 {i : Nat} (h : isMo W i) : lok W (.a 6 i 5) 32 := (h.2 5 (by omega) (by omega)).2
theorem isMo.l6 {i : Nat} (h : isMo W i) : lok W (.a 6 i 6) 32 := (h.2 6 (by omega) (by omega)).2
theorem isMo.l7 {i : Nat} (h : isMo W i) : lok W (.a 6 i 7) 34 := (h.2 7 (by omega) (by omega)).2
theorem Q6_settle_l {i n N tp : Nat} {to : Cl} {dm ds : Nat → Nat} (h : isMo W i) (ht : lok W to N) (hn1 : 1 ≤ n) (hn : n ≤ 32) (hN : n ≤ N) (t7 : (.a 6 i 7 : Cl) ≠ to) (t2 : (.a 6 i 2 : Cl) ≠ to) (htp : tp < 4294967296) (hT : vN ds n + tp * 4294967296 ^ n < 2 * vN dm n) : ∀ (q j fuel : Nat) (S : ST) (cc : Int) (e : Nat → Nat), q < fuel → j + q = n → (S 6 i).f 0 = (Int32.ofNat n) → LD (lgt S (.a 6 i 2)) n dm → LD (lgt S (.a 6 i 7)) n ds → lgt S (.a 6 i 7) n = Int64.ofNat tp → LD (lgt S to) j e → (cc = 0 ∨ cc = -1) → (vN ds j : Int) - vN dm j = vN e j + cc * ((4294967296 ^ j : Nat) : Int) → ∃ S', B_X6_settle_5 G F fuel (W.ad (.o 6 i)) (W.ad to) (Int64.ofInt cc) (Int32.ofNat j) (mem W S) = some (mem W S') ∧ lfr [to] S S' ∧ LV (lgt S' to) n ((vN ds n + tp * 4294967296 ^ n) % vN dm n) := by
  intro q
  induction q with
  | zero =>
    intro j fuel S cc e hf hj h0 hm hs htop he hc hv
    obtain ⟨fuel, rfl⟩ : ∃ q, fuel = q + 1 := ⟨fuel - 1, by omega⟩
    obtain rfl : j = n := by omega
    have hml := hm.lt
    have hel := he.lt
    have hsl := hs.lt
    have ea : Int64.ofInt cc + lgt S (.a 6 i 7) j = Int64.ofInt (cc + tp) := by rw [htop, s_nat, s_add]
    rw [B_X6_settle_5, h.gI, bO_s, h0, if_pos ((n_le (by omega) (by omega)).mpr (Nat.le_refl _)), h.gR (by omega) (by omega), bO_s, bO_s, lx_get h.l7 (by omega), bO_s, ea]
    generalize hP : 4294967296 ^ j = P at *
    have hTP : ((vN ds j + tp * P : Nat) : Int) - vN dm j = vN e j + (cc + tp) * (P : Int) := by
      rw [Int.add_mul, Int.natCast_add, Int.natCast_mul]
      omega
    by_cases c0 : 0 ≤ cc + tp
    · rw [if_pos ((s_nn (by omega) (by omega)).mpr c0)]
      refine ⟨S, rfl, lfr.refl _ _, e, he, ?_⟩
      have hz : cc + tp = 0 := by
        by_cases c1 : cc + (tp : Int) = 0
        · exact c1
        · have := Int.mul_le_mul_of_nonneg_right (show (1 : Int) ≤ cc + tp by omega) (show (0 : Int) ≤ (P : Int) by omega)
          omega
      rw [hz, Int.zero_mul] at hTP
      rw [Nat.mod_eq_sub_mod (by omega), Nat.mod_eq_of_lt (by omega)]
      omega
    · rw [if_neg (fun q => c0 ((s_nn (by omega) (by omega)).mp q)), bO_s, bO_s]
      have htp0 : tp = 0 := by omega
      have hcc : cc = -1 := by omega
      have cp := lx_cp (G := G) (S := S) (p := 0) (q := 0) (cnt := j) h.l7 ht (by omega) (by omega)
      have cp' : cpL G (mem W S) (W.ad (.a 6 i 7)) 0 (W.ad to) 0 (Int32.ofNat j) = _ := cp
      rw [cp', bO_s]
      refine ⟨_, rfl, lfr_lst (by simp), ds, ?_, ?_⟩
      · rw [lgt_eq ht]
        refine hs.congr (fun t ht => ?_)
        unfold va_cpy
        rw [if_pos (by omega)]
        congr 1
        omega
      · subst htp0 hcc
        rw [Nat.zero_mul, Nat.add_zero, Nat.mod_eq_of_lt (by omega)]
  | succ q ih =>
    intro j fuel S cc e hf hj h0 hm hs htop he hc hv
    obtain ⟨fuel, rfl⟩ : ∃ q, fuel = q + 1 := ⟨fuel - 1, by omega⟩
    have hmj := hm j (by omega)
    have hsj := hs j (by omega)
    have ea : Int64.ofInt cc + (lgt S (.a 6 i 7) j - lgt S (.a 6 i 2) j) = Int64.ofInt (cc + ((ds j : Int) - dm j)) := by rw [hmj.1, hsj.1, s_nat, s_nat, s_sub, s_add]
    rw [B_X6_settle_5, h.gI, bO_s, h0, if_neg (fun q => absurd ((n_le (by omega) (by omega)).mp q) (by omega)), h.gR (by omega) (by omega), bO_s, lx_get h.l7 (by omega), bO_s, h.gR (by omega) (by omega), bO_s, lx_get h.l2 (by omega), bO_s, ea, s_lim, s_shr (by omega) (by omega), lx_set ht (by omega), bO_s, n_addL j 1]
    obtain ⟨lo, hlo⟩ : ∃ lo : Nat, lo = ((cc + ((ds j : Int) - dm j)) % 4294967296).toNat := ⟨_, rfl⟩
    have hlo2 : lo < 4294967296 := by omega
    rw [← hlo]
    obtain ⟨S', g1, g2, g3⟩ := ih (j + 1) fuel (lst S to (vp_updL (lgt S to) j (Int64.ofNat lo))) ((cc + ((ds j : Int) - dm j)) / 4294967296) (vp_updN e j lo) (by omega) (by omega) (by rw [(lst_fga _ _ _ _ _).1]; exact h0) (by rw [lgt_ne t2]; exact hm) (by rw [lgt_ne t7]; exact hs) (by rw [lgt_ne t7]; exact htop) (by rw [lgt_eq ht]; exact he.snoc rfl hlo2) (by omega) (by
      rw [vN_upd, vN, vN, Nat.pow_succ]
      exact stepI hv (by omega))
    exact ⟨S', g1, (lfr_lst (by simp)).trans g2, g3⟩
theorem Q6_settle {i n N tp : Nat} {S : ST} {to : Cl} {dm ds : Nat → Nat} (X : Cx G F W) (h : isMo W i) (ht : lok W to N) (hn1 : 1 ≤ n) (hn : n ≤ 32) (hN : n ≤ N) (t7 : (.a 6 i 7 : Cl) ≠ to) (t2 : (.a 6 i 2 : Cl) ≠ to) (htp : tp < 4294967296) (hT : vN ds n + tp * 4294967296 ^ n < 2 * vN dm n) (h0 : (S 6 i).f 0 = (Int32.ofNat n)) (hm : LD (lgt S (.a 6 i 2)) n dm) (hs : LD (lgt S (.a 6 i 7)) n ds) (htop : lgt S (.a 6 i 7) n = Int64.ofNat tp) : ∃ S', P_X6_settle G F (W.ad (.o 6 i)) (W.ad to) (mem W S) = some (mem W S') ∧ lfr [to] S S' ∧ LV (lgt S' to) n ((vN ds n + tp * 4294967296 ^ n) % vN dm n) := by
  have hF := X.hF
  exact Q6_settle_l (G := G) (F := F) h ht hn1 hn hN t7 t2 htp hT n 0 F S 0 (fun _ => 0) (by omega) (by omega) h0 hm hs htop (fun t ht => by omega) (Or.inl rfl) (by simp [vN])
theorem Q6_plus_l {i n N Nx Ny : Nat} {x y to : Cl} {dm dx dy : Nat → Nat} (X : Cx G F W) (h : isMo W i) (hx : lok W x Nx) (hy : lok W y Ny) (ht : lok W to N) (hn1 : 1 ≤ n) (hn : n ≤ 32) (hNx : n ≤ Nx) (hNy : n ≤ Ny) (hN : n ≤ N) (x7 : x ≠ .a 6 i 7) (y7 : y ≠ .a 6 i 7) (t7 : (.a 6 i 7 : Cl) ≠ to) (t2 : (.a 6 i 2 : Cl) ≠ to) (hT : vN dx n + vN dy n < 2 * vN dm n) : ∀ (q j fuel : Nat) (S : ST) (c : Nat) (e : Nat → Nat), q < fuel → j + q = n → (S 6 i).f 0 = (Int32.ofNat n) → LD (lgt S (.a 6 i 2)) n dm → LD (lgt S x) n dx → LD (lgt S y) n dy → LD (lgt S (.a 6 i 7)) j e → c ≤ 1 → vN dx j + vN dy j = vN e j + c * 4294967296 ^ j → ∃ S', B_X6_plus_6 G F fuel (W.ad (.o 6 i)) (W.ad x) (W.ad y) (W.ad to) (Int64.ofNat c) (Int32.ofNat j) (mem W S) = some (mem W S') ∧ lfr [to, .a 6 i 7] S S' ∧ LV (lgt S' to) n ((vN dx n + vN dy n) % vN dm n) := by
  intro q
  induction q with
  | zero =>
    intro j fuel S c e hf hj h0 hm hdx hdy he hc hv
    obtain ⟨fuel, rfl⟩ : ∃ q, fuel = q + 1 := ⟨fuel - 1, by omega⟩
    obtain rfl : j = n := by omega
    rw [B_X6_plus_6, h.gI, bO_s, h0, if_pos ((n_le (by omega) (by omega)).mpr (Nat.le_refl _)), h.gR (by omega) (by omega), bO_s, bO_s, lx_set h.l7 (by omega), bO_s, rcv_m h.1, bO_s]
    obtain ⟨S1, hS1⟩ : ∃ S1, S1 = lst S (.a 6 i 7) (vp_updL (lgt S (.a 6 i 7)) j (Int64.ofNat c)) := ⟨_, rfl⟩
    rw [← hS1]
    have f1 : lfr [to, .a 6 i 7] S S1 := by rw [hS1]; exact lfr_lst (by simp)
    obtain ⟨S', g1, g2, g3⟩ := Q6_settle (G := G) (F := F) (S := S1) (tp := c) (dm := dm) (ds := e) X h ht hn1 hn hN t7 t2 (by omega) (by rw [← hv]; exact hT) (by rw [(f1.1 6 i).1]; exact h0) (by rw [hS1, lgt_ne (by simp)]; exact hm) (by rw [hS1, lgt_eq h.l7]; exact he.congr (fun t ht => updL_ne (by omega))) (by rw [hS1, lgt_eq h.l7, updL_eq])
    rw [g1, bO_s]
    rw [← hv] at g3
    exact ⟨S', rfl, f1.trans (g2.mono (by simp)), g3⟩
  | succ q ih =>
    intro j fuel S c e hf hj h0 hm hdx hdy he hc hv
    obtain ⟨fuel, rfl⟩ : ∃ q, fuel = q + 1 := ⟨fuel - 1, by omega⟩
    have hxj := hdx j (by omega)
    have hyj := hdy j (by omega)
    have ea : Int64.ofNat c + (lgt S x j + lgt S y j) = Int64.ofNat (c + (dx j + dy j)) := by rw [hxj.1, hyj.1, l_add, l_add]
    rw [B_X6_plus_6, h.gI, bO_s, h0, if_neg (fun q => absurd ((n_le (by omega) (by omega)).mp q) (by omega)), lx_get hx (by omega), bO_s, lx_get hy (by omega), bO_s, h.gR (by omega) (by omega), bO_s, ea, l_lim, l_ush (by omega), lx_set h.l7 (by omega), bO_s, n_addL j 1]
    obtain ⟨S', g1, g2, g3⟩ := ih (j + 1) fuel (lst S (.a 6 i 7) (vp_updL (lgt S (.a 6 i 7)) j (Int64.ofNat ((c + (dx j + dy j)) % 4294967296)))) ((c + (dx j + dy j)) / 4294967296) (vp_updN e j ((c + (dx j + dy j)) % 4294967296)) (by omega) (by omega) (by rw [(lst_fga _ _ _ _ _).1]; exact h0) (by rw [lgt_ne (by simp)]; exact hm) (by rw [lgt_ne x7]; exact hdx) (by rw [lgt_ne y7]; exact hdy) (by rw [lgt_eq h.l7]; exact he.snoc rfl (by omega)) (by omega) (by
      rw [vN_upd, vN, vN, Nat.pow_succ]
      exact stepN hv (by omega))
    exact ⟨S', g1, (lfr_lst (by simp)).trans g2, g3⟩
theorem Q6_plus {i n m N Nx Ny vx vy : Nat} {S : ST} {x y to : Cl} (X : Cx G F W) (h : isMo W i) (hM : MoB S i n m) (hx : lok W x Nx) (hy : lok W y Ny) (ht : lok W to N) (hNx : n ≤ Nx) (hNy : n ≤ Ny) (hN : n ≤ N) (x7 : x ≠ .a 6 i 7) (y7 : y ≠ .a 6 i 7) (t7 : (.a 6 i 7 : Cl) ≠ to) (t2 : (.a 6 i 2 : Cl) ≠ to) (hvx : LV (lgt S x) n vx) (hvy : LV (lgt S y) n vy) (hT : vx + vy < 2 * m) : ∃ S', P_X6_plus G F (W.ad (.o 6 i)) (W.ad x) (W.ad y) (W.ad to) (mem W S) = some (mem W S') ∧ lfr [to, .a 6 i 7] S S' ∧ LV (lgt S' to) n ((vx + vy) % m) := by
  have hF := X.hF
  obtain ⟨h0, hn1, hn, ⟨dm, hm, rfl⟩, hm1⟩ := hM
  obtain ⟨dx, hdx, rfl⟩ := hvx
  obtain ⟨dy, hdy, rfl⟩ := hvy
  exact Q6_plus_l (G := G) (F := F) X h hx hy ht hn1 hn hNx hNy hN x7 y7 t7 t2 hT n 0 F S 0 (fun _ => 0) (by omega) (by omega) h0 hm hdx hdy (fun t ht => by omega) (by omega) (by simp [vN])
/-- the modulus is added: the sum wraps -/
theorem Q6_minus_b {i n N : Nat} {to : Cl} {dm e0 : Nat → Nat} (h : isMo W i) (ht : lok W to N) (hn : n ≤ 32) (hN : n ≤ N) (t2 : (.a 6 i 2 : Cl) ≠ to) : ∀ (q j fuel : Nat) (S : ST) (c : Nat) (e : Nat → Nat), q < fuel → j + q = n → (S 6 i).f 0 = (Int32.ofNat n) → LD (lgt S (.a 6 i 2)) n dm → LD (lgt S to) j e → (∀ t, j ≤ t → t < n → lgt S to t = Int64.ofNat (e0 t) ∧ e0 t < 4294967296) → c ≤ 1 → vN e0 j + vN dm j = vN e j + c * 4294967296 ^ j → ∃ S' e' c', B_X6_minus_65 G F fuel (W.ad (.o 6 i)) (W.ad to) (Int64.ofNat c) (Int32.ofNat j) (mem W S) = some (mem W S') ∧ lfr [to] S S' ∧ LD (lgt S' to) n e' ∧ vN e0 n + vN dm n = vN e' n + c' * 4294967296 ^ n := by
  intro q
  induction q with
  | zero =>
    intro j fuel S c e hf hj h0 hm he he0 hc hv
    obtain ⟨fuel, rfl⟩ : ∃ q, fuel = q + 1 := ⟨fuel - 1, by omega⟩
    obtain rfl : j = n := by omega
    rw [B_X6_minus_65, h.gI, bO_s, h0, if_pos ((n_le (by omega) (by omega)).mpr (Nat.le_refl _))]
    exact ⟨S, e, c, rfl, lfr.refl _ _, he, hv⟩
  | succ q ih =>
    intro j fuel S c e hf hj h0 hm he he0 hc hv
    obtain ⟨fuel, rfl⟩ : ∃ q, fuel = q + 1 := ⟨fuel - 1, by omega⟩
    have hxj := he0 j (by omega) (by omega)
    have hyj := hm j (by omega)
    have ea : Int64.ofNat c + (lgt S to j + lgt S (.a 6 i 2) j) = Int64.ofNat (c + (e0 j + dm j)) := by rw [hxj.1, hyj.1, l_add, l_add]
    rw [B_X6_minus_65, h.gI, bO_s, h0, if_neg (fun q => absurd ((n_le (by omega) (by omega)).mp q) (by omega)), lx_get ht (by omega), bO_s, h.gR (by omega) (by omega), bO_s, lx_get h.l2 (by omega), bO_s, ea, l_lim, l_ush (by omega), lx_set ht (by omega), bO_s, n_addL j 1]
    obtain ⟨S', e', c', g1, g2, g3, g4⟩ := ih (j + 1) fuel (lst S to (vp_updL (lgt S to) j (Int64.ofNat ((c + (e0 j + dm j)) % 4294967296)))) ((c + (e0 j + dm j)) / 4294967296) (vp_updN e j ((c + (e0 j + dm j)) % 4294967296)) (by omega) (by omega) (by rw [(lst_fga _ _ _ _ _).1]; exact h0) (by rw [lgt_ne t2]; exact hm) (by rw [lgt_eq ht]; exact he.snoc rfl (by omega)) (fun t h1 h2 => by rw [lgt_eq ht, updL_ne (by omega)]; exact he0 t (by omega) h2) (by omega) (by
      rw [vN_upd, vN, vN, Nat.pow_succ]
      exact stepN hv (by omega))
    exact ⟨S', e', c', g1, (lfr_lst (by simp)).trans g2, g3, g4⟩
theorem Q6_minus_l {i n N Nx Ny : Nat} {x y to : Cl} {dm dx dy : Nat → Nat} (X : Cx G F W) (h : isMo W i) (hx : lok W x Nx) (hy : lok W y Ny) (ht : lok W to N) (hn : n ≤ 32) (hNx : n ≤ Nx) (hNy : n ≤ Ny) (hN : n ≤ N) (t2 : (.a 6 i 2 : Cl) ≠ to) (hxm : vN dx n < vN dm n) (hym : vN dy n < vN dm n) : ∀ (q j fuel : Nat) (S : ST) (cc : Int) (e : Nat → Nat), q < fuel → j + q = n → (S 6 i).f 0 = (Int32.ofNat n) → LD (lgt S (.a 6 i 2)) n dm → (∀ t, j ≤ t → t < n → lgt S x t = Int64.ofNat (dx t) ∧ dx t < 4294967296) → (∀ t, j ≤ t → t < n → lgt S y t = Int64.ofNat (dy t) ∧ dy t < 4294967296) → LD (lgt S to) j e → (cc = 0 ∨ cc = -1) → (vN dx j : Int) - vN dy j = vN e j + cc * ((4294967296 ^ j : Nat) : Int) → ∃ S', B_X6_minus_6 G F fuel (W.ad (.o 6 i)) (W.ad x) (W.ad y) (W.ad to) (Int64.ofInt cc) (Int32.ofNat j) (mem W S) = some (mem W S') ∧ lfr [to] S S' ∧ LV (lgt S' to) n ((vN dx n + (vN dm n - vN dy n)) % vN dm n) := by
  have hF := X.hF
  intro q
  induction q with
  | zero =>
    intro j fuel S cc e hf hj h0 hm hdx hdy he hc hv
    obtain ⟨fuel, rfl⟩ : ∃ q, fuel = q + 1 := ⟨fuel - 1, by omega⟩
    obtain rfl : j = n := by omega
    have hml := hm.lt
    have hel := he.lt
    rw [B_X6_minus_6, h.gI, bO_s, h0, if_pos ((n_le (by omega) (by omega)).mpr (Nat.le_refl _))]
    by_cases c0 : 0 ≤ cc
    · rw [if_pos ((s_nn (by omega) (by omega)).mpr c0)]
      refine ⟨S, rfl, lfr.refl _ _, e, he, ?_⟩
      have : cc = 0 := by omega
      subst this
      rw [Int.zero_mul] at hv
      rw [show vN dx j + (vN dm j - vN dy j) = (vN dx j - vN dy j) + vN dm j by omega, Nat.add_mod_right, Nat.mod_eq_of_lt (by omega)]
      omega
    · rw [if_neg (fun q => c0 ((s_nn (by omega) (by omega)).mp q))]
      have : cc = -1 := by omega
      subst this
      obtain ⟨S', e', c', g1, g2, g3, g4⟩ := Q6_minus_b (G := G) (F := F) (dm := dm) (e0 := e) h ht hn hN t2 j 0 F S 0 (fun _ => 0) (by omega) (by omega) h0 hm (fun t ht => by omega) (fun t _ h2 => he t h2) (by omega) (by simp [vN])
      refine ⟨S', g1, g2, e', g3, ?_⟩
      have hel' := g3.lt
      generalize hP : 4294967296 ^ j = P at *
      have hc1 : c' = 1 := by
        have hu : c' < 2 := by
          apply Nat.lt_of_not_le
          intro q
          have := Nat.mul_le_mul_right P q
          omega
        have hd : c' ≠ 0 := by
          intro q
          rw [q, Nat.zero_mul] at g4
          omega
        omega
      rw [hc1, Nat.one_mul] at g4
      rw [Nat.mod_eq_of_lt (by omega)]
      omega
  | succ q ih =>
    intro j fuel S cc e hf hj h0 hm hdx hdy he hc hv
    obtain ⟨fuel, rfl⟩ : ∃ q, fuel = q + 1 := ⟨fuel - 1, by omega⟩
    have hxj := hdx j (by omega) (by omega)
    have hyj := hdy j (by omega) (by omega)
    have ea : Int64.ofInt cc + (lgt S x j - lgt S y j) = Int64.ofInt (cc + ((dx j : Int) - dy j)) := by rw [hxj.1, hyj.1, s_nat, s_nat, s_sub, s_add]
    rw [B_X6_minus_6, h.gI, bO_s, h0, if_neg (fun q => absurd ((n_le (by omega) (by omega)).mp q) (by omega)), lx_get hx (by omega), bO_s, lx_get hy (by omega), bO_s, ea, s_lim, s_shr (by omega) (by omega), lx_set ht (by omega), bO_s, n_addL j 1]
    obtain ⟨lo, hlo⟩ : ∃ lo : Nat, lo = ((cc + ((dx j : Int) - dy j)) % 4294967296).toNat := ⟨_, rfl⟩
    have hlo2 : lo < 4294967296 := by omega
    rw [← hlo]
    have keep : ∀ (z : Cl) (dz : Nat → Nat), (∀ t, j ≤ t → t < n → lgt S z t = Int64.ofNat (dz t) ∧ dz t < 4294967296) → ∀ t, j + 1 ≤ t → t < n → lgt (lst S to (vp_updL (lgt S to) j (Int64.ofNat lo))) z t = Int64.ofNat (dz t) ∧ dz t < 4294967296 := by
      intro z dz hz t h1 h2
      by_cases c : z = to
      · rw [c, lgt_eq ht, updL_ne (by omega), ← c]; exact hz t (by omega) h2
      · rw [lgt_ne c]; exact hz t (by omega) h2
    obtain ⟨S', g1, g2, g3⟩ := ih (j + 1) fuel (lst S to (vp_updL (lgt S to) j (Int64.ofNat lo))) ((cc + ((dx j : Int) - dy j)) / 4294967296) (vp_updN e j lo) (by omega) (by omega) (by rw [(lst_fga _ _ _ _ _).1]; exact h0) (by rw [lgt_ne t2]; exact hm) (keep x dx hdx) (keep y dy hdy) (by rw [lgt_eq ht]; exact he.snoc rfl hlo2) (by omega) (by
      rw [vN_upd, vN, vN, Nat.pow_succ]
      exact stepI hv (by omega))
    exact ⟨S', g1, (lfr_lst (by simp)).trans g2, g3⟩
theorem Q6_minus {i n m N Nx Ny vx vy : Nat} {S : ST} {x y to : Cl} (X : Cx G F W) (h : isMo W i) (hM : MoB S i n m) (hx : lok W x Nx) (hy : lok W y Ny) (ht : lok W to N) (hNx : n ≤ Nx) (hNy : n ≤ Ny) (hN : n ≤ N) (t2 : (.a 6 i 2 : Cl) ≠ to) (hvx : LV (lgt S x) n vx) (hvy : LV (lgt S y) n vy) (hxm : vx < m) (hym : vy < m) : ∃ S', P_X6_minus G F (W.ad (.o 6 i)) (W.ad x) (W.ad y) (W.ad to) (mem W S) = some (mem W S') ∧ lfr [to] S S' ∧ LV (lgt S' to) n ((vx + (m - vy)) % m) := by
  have hF := X.hF
  obtain ⟨h0, hn1, hn, ⟨dm, hm, rfl⟩, hm1⟩ := hM
  obtain ⟨dx, hdx, rfl⟩ := hvx
  obtain ⟨dy, hdy, rfl⟩ := hvy
  exact Q6_minus_l (G := G) (F := F) X h hx hy ht hn hNx hNy hN t2 hxm hym n 0 F S 0 (fun _ => 0) (by omega) (by omega) h0 hm (fun t _ h2 => hdx t h2) (fun t _ h2 => hdy t h2) (fun t ht => by omega) (Or.inl rfl) (by simp [vN])
end MODU
