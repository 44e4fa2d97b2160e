/-! NUMBERS AS LIMBS OF 32 BITS; LONG ARRAYS AS CELLS -/
def vN (d : Nat → Nat) : Nat → Nat
  | 0 => 0
  | n + 1 => vN d n + d n * 4294967296 ^ n
theorem B_pos (n : Nat) : 0 < 4294967296 ^ n := Nat.pow_pos (by decide)
theorem vN_congr {d e : Nat → Nat} : ∀ {n : Nat}, (∀ t, t < n → d t = e t) → vN d n = vN e n
  | 0, _ => rfl
  | n + 1, h => by rw [vN, vN, vN_congr (fun t ht => h t (by omega)), h n (by omega)]
theorem vN_lt {d : Nat → Nat} : ∀ {n : Nat}, (∀ t, t < n → d t < 4294967296) → vN d n < 4294967296 ^ n
  | 0, _ => by show 0 < 1; decide
  | n + 1, h => by
    have ih := vN_lt (n := n) (fun t ht => h t (by omega))
    have hd := h n (by omega)
    rw [vN, Nat.pow_succ]
    have : d n * 4294967296 ^ n ≤ 4294967295 * 4294967296 ^ n := Nat.mul_le_mul_right _ (by omega)
    omega
theorem vN_top {a b P : Nat} (h : a < P) : (a + b * P) / P = b ∧ (a + b * P) % P = a := by
  have hP : 0 < P := by omega
  exact ⟨by rw [Nat.add_mul_div_right _ _ hP, Nat.div_eq_of_lt h, Nat.zero_add], by rw [Nat.add_mul_mod_self_right, Nat.mod_eq_of_lt h]⟩
theorem vN_inj {d e : Nat → Nat} : ∀ {n : Nat}, (∀ t, t < n → d t < 4294967296) → (∀ t, t < n → e t < 4294967296) → vN d n = vN e n → ∀ t, t < n → d t = e t
  | 0, _, _, _, t, ht => by omega
  | n + 1, hd, he, h, t, ht => by
    rw [vN, vN] at h
    have a1 := vN_top (b := d n) (vN_lt (n := n) (d := d) (fun t ht => hd t (by omega)))
    have a2 := vN_top (b := e n) (vN_lt (n := n) (d := e) (fun t ht => he t (by omega)))
    rw [h] at a1
    by_cases c : t = n
    · rw [c]; exact a1.1.symm.trans a2.1
    · exact vN_inj (n := n) (fun t ht => hd t (by omega)) (fun t ht => he t (by omega)) (a1.2.symm.trans a2.2) t (by omega)
theorem vN_zero {d : Nat → Nat} : ∀ {n : Nat}, (∀ t, t < n → d t = 0) → vN d n = 0
  | 0, _ => rfl
  | n + 1, h => by rw [vN, vN_zero (fun t ht => h t (by omega)), h n (by omega), Nat.zero_mul]
theorem vN_z {d : Nat → Nat} : ∀ {n : Nat}, vN d n = 0 → ∀ t, t < n → d t = 0
  | 0, _, t, ht => by omega
  | n + 1, h, t, ht => by
    rw [vN] at h
    have h1 : vN d n = 0 := by omega
    have h2 : d n * 4294967296 ^ n = 0 := by omega
    by_cases c : t = n
    · rw [c]
      rcases Nat.mul_eq_zero.mp h2 with q | q
      · exact q
      · exact absurd q (Nat.pos_iff_ne_zero.mp (B_pos n))
    · exact vN_z h1 t (by omega)
/-- a function from digits that is set at one place -/
def vp_updN (f : Nat → Nat) (k x : Nat) : Nat → Nat := fun j => if j = k then x else f j
theorem updN_eq (f : Nat → Nat) (k x : Nat) : vp_updN f k x k = x := if_pos rfl
theorem updN_ne {f : Nat → Nat} {k x j : Nat} (h : j ≠ k) : vp_updN f k x j = f j := if_neg h
theorem vN_upd (d : Nat → Nat) (n x : Nat) : vN (vp_updN d n x) (n + 1) = vN d n + x * 4294967296 ^ n := by
  rw [vN, updN_eq, vN_congr (e := d) (fun t ht => updN_ne (by omega))]
theorem updL_eq (f : Nat → Int64) (k : Nat) (x : Int64) : vp_updL f k x k = x := if_pos rfl
theorem updL_ne {f : Nat → Int64} {k j : Nat} {x : Int64} (h : j ≠ k) : vp_updL f k x j = f j := if_neg h
/-- the limbs stand in a long array -/
def LD (f : Nat → Int64) (n : Nat) (d : Nat → Nat) : Prop := ∀ t, t < n → f t = Int64.ofNat (d t) ∧ d t < 4294967296
def LV (f : Nat → Int64) (n v : Nat) : Prop := ∃ d, LD f n d ∧ vN d n = v
theorem LD.congr {f g : Nat → Int64} {n : Nat} {d : Nat → Nat} (h : LD f n d) (e : ∀ t, t < n → g t = f t) : LD g n d := fun t ht => ⟨(e t ht).trans (h t ht).1, (h t ht).2⟩
theorem LV.congr {f g : Nat → Int64} {n v : Nat} (h : LV f n v) (e : ∀ t, t < n → g t = f t) : LV g n v := by
  obtain ⟨d, h1, h2⟩ := h
  exact ⟨d, h1.congr e, h2⟩
theorem LD.lt {f : Nat → Int64} {n : Nat} {d : Nat → Nat} (h : LD f n d) : vN d n < 4294967296 ^ n := vN_lt (fun t ht => (h t ht).2)
theorem LV.lt {f : Nat → Int64} {n v : Nat} (h : LV f n v) : v < 4294967296 ^ n := by
  obtain ⟨d, h1, h2⟩ := h
  rw [← h2]
  exact h1.lt
theorem LD.snoc {f : Nat → Int64} {n x : Nat} {d : Nat → Nat} {v : Int64} (h : LD f n d) (hv : v = Int64.ofNat x) (hx : x < 4294967296) : LD (vp_updL f n v) (n + 1) (vp_updN d n x) := by
  intro t ht
  by_cases c : t = n
  · rw [c, updL_eq, updN_eq]; exact ⟨hv, hx⟩
  · rw [updL_ne c, updN_ne c]; exact h t (by omega)
theorem LD.set {f : Nat → Int64} {n k x : Nat} {d : Nat → Nat} {v : Int64} (h : LD f n d) (hv : v = Int64.ofNat x) (hx : x < 4294967296) : LD (vp_updL f k v) n (vp_updN d k x) := by
  intro t ht
  by_cases c : t = k
  · rw [c, updL_eq, updN_eq]; exact ⟨hv, hx⟩
  · rw [updL_ne c, updN_ne c]; exact h t ht
theorem LD.mono {f : Nat → Int64} {n m : Nat} {d : Nat → Nat} (h : LD f n d) (hm : m ≤ n) : LD f m d := fun t ht => h t (by omega)
theorem l_add (a b : Nat) : Int64.ofNat a + Int64.ofNat b = Int64.ofNat (a + b) := (Int64.ofNat_add a b).symm
theorem l_mul (a b : Nat) : Int64.ofNat a * Int64.ofNat b = Int64.ofNat (a * b) := (Int64.ofNat_mul a b).symm
theorem l_lim (a : Nat) : Int64.ofNat a &&& 4294967295 = Int64.ofNat (a % 4294967296) := by
  have e : (4294967295 : Int64) = Int64.ofNat 4294967295 := rfl
  rw [e, l_and]
  congr 1
  exact Nat.and_two_pow_sub_one_eq_mod a 32
theorem l_ush {a : Nat} (h : a < 2 ^ 64) : ushL (Int64.ofNat a) 32 = Int64.ofNat (a / 4294967296) := by
  have e : (Int64.ofNat a).toUInt64.toNat = a := by
    show (Int64.ofNat a).toBitVec.toNat = a
    rw [bvL, BitVec.toNat_ofNat, Nat.mod_eq_of_lt h]
  have := ushL_n (x := Int64.ofNat a) (s := 32) (by decide)
  rw [e] at this
  exact this
theorem s_nat (a : Nat) : Int64.ofNat a = Int64.ofInt a := Int64.ofInt_eq_ofNat.symm
theorem s_add (a b : Int) : Int64.ofInt a + Int64.ofInt b = Int64.ofInt (a + b) := (Int64.ofInt_add a b).symm
theorem s_sub (a b : Int) : Int64.ofInt a - Int64.ofInt b = Int64.ofInt (a - b) := (Int64.ofInt_sub a b).symm
theorem s_lim (a : Int) : Int64.ofInt a &&& 4294967295 = Int64.ofNat (a % 4294967296).toNat := by
  apply L_ext
  rw [Int64.toBitVec_and, Int64.toBitVec_ofInt, bvL]
  apply BitVec.eq_of_toNat_eq
  have e : (4294967295 : Int64).toBitVec.toNat = 2 ^ 32 - 1 := by decide
  rw [BitVec.toNat_and, e, Nat.and_two_pow_sub_one_eq_mod, BitVec.toNat_ofInt, BitVec.toNat_ofNat]
  omega
theorem s_to {a : Int} (h1 : -9223372036854775808 ≤ a) (h2 : a < 9223372036854775808) : (Int64.ofInt a).toInt = a := Int64.toInt_ofInt_of_le h1 h2
theorem s_shr {a : Int} (h1 : -9223372036854775808 ≤ a) (h2 : a < 9223372036854775808) : shrL (Int64.ofInt a) 32 = Int64.ofInt (a / 4294967296) := by
  have hs := shr64 32 (by decide)
  apply Int64.toInt_inj.mp
  rw [s_to (a := a / 4294967296) (by omega) (by omega)]
  unfold shrL
  show (Int64.ofInt a >>> (((Int32.ofNat 32)).toInt64 &&& 63)).toBitVec.toInt = _
  rw [Int64.toBitVec_shiftRight, BitVec.sshiftRight_eq', hs, BitVec.toInt_sshiftRight, Int.shiftRight_eq_div_pow]
  have e : (Int64.ofInt a).toBitVec.toInt = a := s_to h1 h2
  rw [e]
  rfl
theorem s_nn {a : Int} (h1 : -9223372036854775808 ≤ a) (h2 : a < 9223372036854775808) : (0 ≤ lg_cmp (Int64.ofInt a) 0) ↔ 0 ≤ a := by
  rw [lg_cmp_ge, Int64.le_iff_toInt_le, s_to h1 h2]
  rfl
/-- the longs in a cell -/
def lgt (S : ST) (x : Cl) : Nat → Int64 := match x with
  | .inl _ => fun _ => 0
  | .inr (.inl (c, i, k)) => (S c i).l k
  | .inr (.inr (c, i, k, j)) => (S c i).m k j
def lst (S : ST) (x : Cl) (f : Nat → Int64) : ST := match x with
  | .inl _ => S
  | .inr (.inl (c, i, k)) => S.so c i ((S c i).sL k f)
  | .inr (.inr (c, i, k, j)) => S.so c i ((S c i).sM k j f)
/-- a cell with n longs -/
def lok (W : WR) (x : Cl) (n : Nat) : Prop := W.live x = true ∧ W.n x = n ∧ n < 2 ^ 30 ∧ match x with
  | .inl _ => False
  | .inr (.inl (c, _, k)) => (kdA c)[k]? = some 2
  | .inr (.inr _) => True
/-- but for the longs in these cells nothing changed -/
abbrev lfr (L : List Cl) (S S' : ST) : Prop := (∀ c i, (S' c i).f = (S c i).f ∧ (S' c i).g = (S c i).g ∧ (S' c i).a = (S c i).a) ∧ ∀ y, y ∉ L → lgt S' y = lgt S y
theorem lfr.refl (L : List Cl) (S : ST) : lfr L S S := ⟨fun _ _ => ⟨rfl, rfl, rfl⟩, fun _ _ => rfl⟩
theorem lfr.trans {L : List Cl} {S S1 S2 : ST} (h1 : lfr L S S1) (h2 : lfr L S1 S2) : lfr L S S2 := ⟨fun c i => ⟨(h2.1 c i).1.trans (h1.1 c i).1, (h2.1 c i).2.1.trans (h1.1 c i).2.1, (h2.1 c i).2.2.trans (h1.1 c i).2.2⟩, fun y hy => (h2.2 y hy).trans (h1.2 y hy)⟩
theorem lfr.mono {L L' : List Cl} {S S' : ST} (h : lfr L S S') (hs : ∀ x ∈ L, x ∈ L') : lfr L' S S' := ⟨h.1, fun y hy => h.2 y (fun q => hy (hs _ q))⟩
theorem lst_fga (S : ST) (x : Cl) (f : Nat → Int64) (c i : Nat) : ((lst S x f) c i).f = (S c i).f ∧ ((lst S x f) c i).g = (S c i).g ∧ ((lst S x f) c i).a = (S c i).a := by
  rcases x with ⟨c', i'⟩ | ⟨c', i', k'⟩ | ⟨c', i', k', j'⟩
  · exact ⟨rfl, rfl, rfl⟩
  · show ((S.so c' i' ((S c' i').sL k' f)) c i).f = _ ∧ ((S.so c' i' ((S c' i').sL k' f)) c i).g = _ ∧ ((S.so c' i' ((S c' i').sL k' f)) c i).a = _
    rw [so_at]
    split
    · rename_i h; rw [h.1, h.2]; exact ⟨rfl, rfl, rfl⟩
    · exact ⟨rfl, rfl, rfl⟩
  · show ((S.so c' i' ((S c' i').sM k' j' f)) c i).f = _ ∧ ((S.so c' i' ((S c' i').sM k' j' f)) c i).g = _ ∧ ((S.so c' i' ((S c' i').sM k' j' f)) c i).a = _
    rw [so_at]
    split
    · rename_i h; rw [h.1, h.2]; exact ⟨rfl, rfl, rfl⟩
    · exact ⟨rfl, rfl, rfl⟩
theorem lgt_ne {S : ST} {x y : Cl} {f : Nat → Int64} (h : y ≠ x) : lgt (lst S x f) y = lgt S y := by
  rcases x with ⟨c, i⟩ | ⟨c, i, k⟩ | ⟨c, i, k, j⟩
  · rfl
  · rcases y with ⟨c', i'⟩ | ⟨c', i', k'⟩ | ⟨c', i', k', j'⟩
    · rfl
    · show ((S.so c i ((S c i).sL k f)) c' i').l k' = (S c' i').l k'
      rw [so_at]
      split
      · rename_i q
        rw [q.1, q.2, sL_at, if_neg (fun e => h (by rw [q.1, q.2, e]))]
      · rfl
    · show ((S.so c i ((S c i).sL k f)) c' i').m k' j' = (S c' i').m k' j'
      rw [so_at]
      split
      · rename_i q
        rw [q.1, q.2]; rfl
      · rfl
  · rcases y with ⟨c', i'⟩ | ⟨c', i', k'⟩ | ⟨c', i', k', j'⟩
    · rfl
    · show ((S.so c i ((S c i).sM k j f)) c' i').l k' = (S c' i').l k'
      rw [so_at]
      split
      · rename_i q
        rw [q.1, q.2]; rfl
      · rfl
    · show ((S.so c i ((S c i).sM k j f)) c' i').m k' j' = (S c' i').m k' j'
      rw [so_at]
      split
      · rename_i q
        rw [q.1, q.2, sM_at, if_neg (fun e => h (by rw [q.1, q.2, e.1, e.2]))]
      · rfl
theorem lfr_lst {L : List Cl} {S : ST} {x : Cl} {f : Nat → Int64} (h : x ∈ L) : lfr L S (lst S x f) := ⟨lst_fga S x f, fun y hy => lgt_ne (fun e => hy (by rw [e]; exact h))⟩
section LCELL
variable {W : WR} {S : ST} {G : mG} {x y : Cl} {n m : Nat}
theorem lgt_eq (h : lok W x n) (S : ST) (f : Nat → Int64) : lgt (lst S x f) x = f := by
  rcases x with ⟨c, i⟩ | ⟨c, i, k⟩ | ⟨c, i, k, j⟩
  · exact absurd h.2.2.2 (fun q => q)
  · show ((S.so c i ((S c i).sL k f)) c i).l k = f
    rw [so_eq, sL_at, if_pos rfl]
  · show ((S.so c i ((S c i).sM k j f)) c i).m k j = f
    rw [so_eq, sM_at, if_pos ⟨rfl, rfl⟩]
theorem lx_get {j : Nat} (h : lok W x n) (hj : j < n) : aL G (mem W S) (W.ad x) (Int32.ofNat j) = some (lgt S x j) := by
  obtain ⟨h1, h2, h3, h4⟩ := h
  have hb : inB (Int32.ofNat j) (W.n x) = true := by rw [h2]; exact inB_n hj (by omega)
  rcases x with ⟨c, i⟩ | ⟨c, i, k⟩ | ⟨c, i, k, q⟩
  · exact absurd h4 (fun q => q)
  · have := aL_m (G := G) (S := S) h1 h4 hb
    rw [n_at (by omega)] at this
    exact this
  · have := bL_m (G := G) (S := S) h1 hb
    rw [n_at (by omega)] at this
    exact this
theorem lx_set {j : Nat} {v : Int64} (h : lok W x n) (hj : j < n) : sL (mem W S) (W.ad x) (Int32.ofNat j) v = some (mem W (lst S x (vp_updL (lgt S x) j v))) := by
  obtain ⟨h1, h2, h3, h4⟩ := h
  have hb : inB (Int32.ofNat j) (W.n x) = true := by rw [h2]; exact inB_n hj (by omega)
  rcases x with ⟨c, i⟩ | ⟨c, i, k⟩ | ⟨c, i, k, q⟩
  · exact absurd h4 (fun q => q)
  · have := sL_m (S := S) (v := v) h1 h4 hb
    rw [n_at (by omega)] at this
    exact this
  · have := bsL_m (S := S) (v := v) h1 hb
    rw [n_at (by omega)] at this
    exact this
theorem lx_sr (h : lok W x n) : srL G (mem W S) (W.ad x) = some (n, lgt S x) := by
  obtain ⟨h1, h2, h3, h4⟩ := h
  unfold srL
  rw [mem_at h1]
  rcases x with ⟨c, i⟩ | ⟨c, i, k⟩ | ⟨c, i, k, q⟩
  · exact absurd h4 (fun q => q)
  · have h4' : (kdA c)[k]? = some 2 := h4
    simp [cell, cellB, h1, acl, h4', h2, lgt]
  · simp [cell, cellB, h1, h2, lgt]
theorem lx_up (h : lok W x n) (f : Nat → Int64) : va_up (mem W S) (W.ad x) (some (.inl (2, n, .inr (.inl f)))) = mem W (lst S x f) := by
  obtain ⟨h1, h2, h3, h4⟩ := h
  rcases x with ⟨c, i⟩ | ⟨c, i, k⟩ | ⟨c, i, k, q⟩
  · exact absurd h4 (fun q => q)
  · rw [← h2]
    exact sLm_m h1 h4 f
  · refine mem_up (W' := W) h1 ?_ (fun y hy => cell_b hy (fun c' i' hn => so_ne hn) (by show ((S.so c i _) c i).f = _; rw [so_eq]; rfl) (by show ((S.so c i _) c i).g = _; rw [so_eq]; rfl) (by show ((S.so c i _) c i).a = _; rw [so_eq]; rfl) (by show ((S.so c i _) c i).l = _; rw [so_eq]; rfl) (fun k' j' hk => by show ((S.so c i _) c i).m k' j' = _; rw [so_eq, sM_at, if_neg hk]))
    show cell W (S.so c i ((S c i).sM k q f)) (.b c i k q) = _
    simp [cell, cellB, h1, h2, so_eq, sM_at]
theorem lx_cp {p q cnt : Nat} (hx : lok W x n) (hy : lok W y m) (b1 : p + cnt ≤ n) (b2 : q + cnt ≤ m) : cpL G (mem W S) (W.ad x) (Int32.ofNat p) (W.ad y) (Int32.ofNat q) (Int32.ofNat cnt) = some (mem W (lst S y (va_cpy (lgt S x) (lgt S y) p q cnt))) := by
  have hn := hx.2.2.1
  have hm := hy.2.2.1
  unfold cpL
  rw [lx_sr hx, mem_at hy.1]
  have e : cell W S y = some (.inl (2, m, .inr (.inl (lgt S y)))) := by
    obtain ⟨h1, h2, h3, h4⟩ := hy
    rcases y with ⟨c, i⟩ | ⟨c, i, k⟩ | ⟨c, i, k, q⟩
    · exact absurd h4 (fun q => q)
    · have h4' : (kdA c)[k]? = some 2 := h4
      simp [cell, cellB, h1, acl, h4', h2, lgt]
    · simp [cell, cellB, h1, h2, lgt]
  rw [e]
  show (if _ then some _ else none) = _
  rw [if_pos ⟨rfl, nn (by omega), nn (by omega), nn (by omega), by rw [n_at (by omega), n_at (by omega)]; exact b1, by rw [n_at (by omega), n_at (by omega)]; exact b2⟩, n_at (by omega), n_at (by omega), n_at (by omega)]
  congr 1
  exact lx_up hy _
end LCELL
