/-! THE BOX: the class's table of ways back, the model's tables -/
def ivT : Nat → Nat → Int32
  | 0 => fun _ => 0
  | m + 1 => upd (ivT m) (sbx (UInt8.ofNat m)).toNat (Int32.ofNat m)
theorem ib_of : ∀ n, n < 256 → ibx (sbx (UInt8.ofNat n)) = UInt8.ofNat n := by decide +kernel
theorem sb_of : ∀ n, n < 256 → sbx (ibx (UInt8.ofNat n)) = UInt8.ofNat n := by decide +kernel
theorem ivT_at : ∀ m, m ≤ 256 → ∀ x, x < m → ivT m (sbx (UInt8.ofNat x)).toNat = (Int32.ofNat x) := by
  intro m
  induction m with
  | zero => exact fun _ x hx => absurd hx (Nat.not_lt_zero _)
  | succ m ih =>
    intro hm x hx
    show upd (ivT m) (sbx (UInt8.ofNat m)).toNat (Int32.ofNat m) _ = _
    by_cases e : x = m
    · rw [e, upd_eq]
    · rw [upd_ne, ih (by omega) x (by omega)]
      intro q
      have q1 := UInt8.toNat_inj.mp q
      have q2 := congrArg ibx q1
      rw [ib_of x (by omega), ib_of m (by omega)] at q2
      have q3 := congrArg UInt8.toNat q2
      rw [UInt8.toNat_ofNat', UInt8.toNat_ofNat', Nat.mod_eq_of_lt (by omega), Nat.mod_eq_of_lt (by omega)] at q3
      exact e q3
theorem ivT_ib (y : UInt8) : ivT 256 y.toNat = b32 (ibx y) := by
  have h := sb_of y.toNat y.toNat_lt
  rw [UInt8.ofNat_toNat] at h
  have g := ivT_at 256 (Nat.le_refl _) (ibx y).toNat (ibx y).toNat_lt
  rw [UInt8.ofNat_toNat, h] at g
  exact g
theorem sA_cm {o : Ob} {k k' : Nat} {f g : Nat → Int32} (h : k ≠ k') : (o.sA k f).sA k' g = (o.sA k' g).sA k f := by
  show Ob.mk o.f o.g (va_up (va_up o.a k f) k' g) o.l o.m = Ob.mk o.f o.g (va_up (va_up o.a k' g) k f) o.l o.m
  congr 1
  funext j
  unfold va_up
  by_cases e : j = k
  · rw [if_pos e, if_neg (fun q => h (e.symm.trans q)), if_pos e]
  · rw [if_neg e]
    by_cases e' : j = k'
    · rw [if_pos e', if_neg e]
    · rw [if_neg e', if_neg e]
section BOX
variable {W : WR} {G : mG} {F : Nat} {S : ST}
theorem Q1_ivl {z sl : Nat} (X : Cx G F W) (h : W.live (.o 1 0) = true) (ha : hasA W 1 0 0 256) : ∀ (m k f : Nat), m < f → k + m = 256 → B_X1_init_48 G F f (W.ad (.o 1 0)) (Int32.ofNat k) (mem W (S.so 1 0 (zOb.sA 0 (ivT k)))) z sl = some (mem W (S.so 1 0 (zOb.sA 0 (ivT 256))), z, sl) := by
  intro m
  induction m with
  | zero =>
    intro k f hf hk
    obtain ⟨f, rfl⟩ : ∃ q, f = q + 1 := ⟨f - 1, by omega⟩
    have : k = 256 := by omega
    subst this
    rw [B_X1_init_48]
    unfold B_X1_init_52
    rw [if_pos (show (256 : Int32) ≤ (Int32.ofNat 256) by decide)]
  | succ m ih =>
    intro k f hf hk
    obtain ⟨f, rfl⟩ : ∃ q, f = q + 1 := ⟨f - 1, by omega⟩
    have ek : (Int32.ofNat k) = b32 (UInt8.ofNat k) := by
      unfold b32
      rw [UInt8.toNat_ofNat', Nat.mod_eq_of_lt (by omega)]
    have bx := Q1_box (G := G) (F := F) (S := S.so 1 0 (zOb.sA 0 (ivT k))) X (UInt8.ofNat k)
    rw [← ek] at bx
    have st := hasA.so' (S := S) (o := zOb.sA 0 (ivT k)) (v := (Int32.ofNat k)) ha rfl (show (sbx (UInt8.ofNat k)).toNat < 256 from UInt8.toNat_lt _)
    rw [sA_a, sA_sA] at st
    rw [B_X1_init_48]
    unfold B_X1_init_52
    rw [if_neg (show ¬ (256 : Int32) ≤ (Int32.ofNat k) from fun q => absurd ((n_le (a := 256) (by omega) (by omega)).mp q) (by omega)), ha.g h rfl, bO_s, bx, bO_s, and255, lo8_b32]
    show bO (sI _ 0 _ (Int32.ofNat (sbx (UInt8.ofNat k)).toNat) _) _ = _
    rw [st, bO_s, n_i1]
    exact ih (k + 1) f (by omega) (by omega)
theorem nw_ciph {z sl : Nat} (X : Cx G F W) (hf : WF W z) (hv : frS W 1 0) (hz : S 1 0 = zOb) : ∃ W' z' sl', (∀ (β : Type) (K : mM → Nat → Nat → Option β), (bO (some (nwO (mem W S) z 1 dfX1)) fun M => bA (P_X1_init G F z M (z + 1) (sl + 6)) K) = K (mem W' (S.so 1 0 (zOb.sA 0 (ivT 256)))) z' sl') ∧ WF W' z' ∧ (z ≤ z' ∧ z' ≤ z + 6) ∧ sl' ≤ sl + 620 ∧ FX [(1, 0)] W W' ∧ W'.ad (.o 1 0) = z ∧ W'.live (.o 1 0) = true ∧ isCi W' := by
  have hF := X.hF
  have hq : ∀ k, (S 1 0).a k = fun _ => 0 := fun k => by rw [hz]; rfl
  obtain ⟨W0, g0, c0, f0⟩ := st_obj (S := S) hf hv hz (rfl : dfX1 = dfK 1)
  obtain ⟨W1, g1, c1, f1, a1⟩ := st_arr (S := S) (kk := 0) c0 0 256 (by decide) rfl rfl (by decide) (hq 0)
  obtain ⟨W2, g2, c2, f2, a2⟩ := st_arr (S := S) (kk := 0) c1 1 240 (by decide) rfl rfl (by decide) (hq 1)
  obtain ⟨W3, g3, c3, f3, a3⟩ := st_arr (S := S) (kk := 0) c2 3 16 (by decide) rfl rfl (by decide) (hq 3)
  obtain ⟨W4, g4, c4, f4, a4⟩ := st_arr (S := S) (kk := 0) c3 4 16 (by decide) rfl rfl (by decide) (hq 4)
  obtain ⟨W5, g5, c5, f5, a5⟩ := st_arr (S := S) (kk := 0) c4 5 72 (by decide) rfl rfl (by decide) (hq 5)
  have y4 : FX [(1, 0)] W4 W5 := f5
  have y3 : FX [(1, 0)] W3 W5 := f4.trans y4
  have y2 : FX [(1, 0)] W2 W5 := f3.trans y3
  have y1 : FX [(1, 0)] W1 W5 := f2.trans y2
  have x : FX [(1, 0)] W W5 := (f0.trans f1).trans y1
  have ic : isCi W5 := ⟨c5.2.1.1, y1.1.ha a1, y2.1.ha a2, y3.1.ha a3, y4.1.ha a4, a5⟩
  have X5 : Cx G F W5 := ⟨by rw [x.1.2.2.2]; exact X.1, X.2⟩
  have s0 : S = S.so 1 0 (zOb.sA 0 (ivT 0)) := by
    rw [show zOb.sA 0 (ivT 0) = zOb from sA_self rfl, zO_so hz]
  have lp := Q1_ivl (G := G) (F := F) (S := S) (z := z + 1 + 1 + 1 + 1 + 1 + 1) (sl := sl + 6 + ((256 : Int32)).toNatClampNeg + ((240 : Int32)).toNatClampNeg + ((16 : Int32)).toNatClampNeg + ((16 : Int32)).toNatClampNeg + ((72 : Int32)).toNatClampNeg) X5 c5.2.1.1 ic.2.1 256 0 F (by omega) rfl
  rw [c5.2.2, ← s0] at lp
  have p : P_X1_init G F z (mem W0 S) (z + 1) (sl + 6) = some (mem W5 (S.so 1 0 (zOb.sA 0 (ivT 256))), z + 1 + 1 + 1 + 1 + 1 + 1, sl + 6 + ((256 : Int32)).toNatClampNeg + ((240 : Int32)).toNatClampNeg + ((16 : Int32)).toNatClampNeg + ((16 : Int32)).toNatClampNeg + ((72 : Int32)).toNatClampNeg) := by
    unfold P_X1_init
    refine (g1 _ _).trans ?_
    refine (g2 _ _).trans ?_
    refine (g3 _ _).trans ?_
    refine (g4 _ _).trans ?_
    refine (g5 _ _).trans ?_
    exact lp
  have n256 : ((256 : Int32)).toNatClampNeg = 256 := rfl
  have n240 : ((240 : Int32)).toNatClampNeg = 240 := rfl
  have n16 : ((16 : Int32)).toNatClampNeg = 16 := rfl
  have n72 : ((72 : Int32)).toNatClampNeg = 72 := rfl
  exact ⟨W5, _, _, fun β K => by rw [g0, p]; rfl, c5.1, ⟨by omega, by omega⟩, by omega, x, c5.2.2, c5.2.1.1, ic⟩
/-! the model's: found by trying, then turned -/
def tN (x : Nat) : Nat := if x < 128 then 2 * x else (2 * x) ^^^ 283
def gmN : Nat → Nat → Nat → Nat → Nat
  | 0, _, _, a => a
  | m + 1, x, l, a => gmN m (tN x) (l / 2) (if l % 2 = 1 then a ^^^ x else a)
def srN : Nat → Nat → Nat → Nat
  | 0, _, _ => 0
  | m + 1, x, l => if gmN 8 x l 0 = 1 then l else srN m x (l + 1)
def rtI (v k : Int32) : Int32 := ((v <<< (k &&& 31)) ||| (v >>> (((8 : Int32) - k) &&& 31))) &&& (255 : Int32)
def afI (v : Int32) : Int32 := (((v ^^^ rtI v 1) ^^^ rtI v 2) ^^^ rtI v 3) ^^^ rtI v 4
theorem tN_tab : ∀ n, n < 256 → b32 (tw (UInt8.ofNat n)) = (Int32.ofNat (tN n)) ∧ tN n < 256 := by decide +kernel
theorem bit_tab : ∀ l, l < 256 → ∀ k, k < 8 → (((Int32.ofNat l) >>> ((Int32.ofNat k) &&& 31)) &&& (1 : Int32)) = (Int32.ofNat (l / 2 ^ k % 2)) := by decide +kernel
theorem oM_tw {n : Nat} (h : n < 256) (M : mM) : P_X13_twice G F (Int32.ofNat n) M = some ((Int32.ofNat (tN n)), M) := by
  have := QM_twice (G := G) (F := F) (UInt8.ofNat n) M
  rw [(tN_tab n h).1] at this
  rw [← this]
  unfold b32
  rw [UInt8.toNat_ofNat', Nat.mod_eq_of_lt (by omega)]
theorem oM_gm {l : Nat} (hl : l < 256) (M : mM) : ∀ (m k f x a : Nat), m < f → k + m = 8 → x < 256 → B_X13_times_7 G F f (Int32.ofNat l) (Int32.ofNat x) (Int32.ofNat a) (Int32.ofNat k) M = some ((Int32.ofNat (gmN m x (l / 2 ^ k) a)), M) := by
  intro m
  induction m with
  | zero =>
    intro k f x a hf hk hx
    obtain ⟨f, rfl⟩ : ∃ q, f = q + 1 := ⟨f - 1, by omega⟩
    have : k = 8 := by omega
    subst this
    rw [B_X13_times_7, if_pos (show (8 : Int32) ≤ (Int32.ofNat 8) by decide)]
    rfl
  | succ m ih =>
    intro k f x a hf hk hx
    obtain ⟨f, rfl⟩ : ∃ q, f = q + 1 := ⟨f - 1, by omega⟩
    have e2 : l / 2 ^ k / 2 = l / 2 ^ (k + 1) := by rw [Nat.div_div_eq_div_mul, Nat.pow_succ]
    rw [B_X13_times_7, if_neg (show ¬ (8 : Int32) ≤ (Int32.ofNat k) from fun q => absurd ((n_le (a := 8) (by omega) (by omega)).mp q) (by omega)), bit_tab l hl k (by omega)]
    show _ = some ((Int32.ofNat (gmN m (tN x) (l / 2 ^ k / 2) (if l / 2 ^ k % 2 = 1 then a ^^^ x else a))), M)
    rw [e2]
    by_cases hb : l / 2 ^ k % 2 = 1
    · rw [if_pos hb, if_pos (by rw [hb]; rfl), oM_tw hx, bP_s, n_i1, n_xor]
      exact ih (k + 1) f (tN x) (a ^^^ x) (by omega) (by omega) (tN_tab x hx).2
    · rw [if_neg hb, if_neg (show ¬ (Int32.ofNat (l / 2 ^ k % 2)) = (1 : Int32) from fun q => hb ((n_eq (b := 1) (by omega) (by omega)).mp q)), oM_tw hx, bP_s, n_i1]
      exact ih (k + 1) f (tN x) a (by omega) (by omega) (tN_tab x hx).2
theorem oM_gm8 {x l : Nat} (hF : 100000 ≤ F) (hx : x < 256) (hl : l < 256) (M : mM) : P_X13_times G F (Int32.ofNat x) (Int32.ofNat l) M = some ((Int32.ofNat (gmN 8 x l 0)), M) := by
  have := oM_gm (G := G) (F := F) hl M 8 0 F x 0 (by omega) rfl hx
  rw [Nat.pow_zero, Nat.div_one] at this
  exact this
theorem gm_lt : ∀ (m x l a : Nat), x < 256 → a < 256 → gmN m x l a < 256 := by
  intro m
  induction m with
  | zero => exact fun _ _ _ _ h => h
  | succ m ih =>
    intro x l a hx ha
    show gmN m (tN x) (l / 2) (if l % 2 = 1 then a ^^^ x else a) < 256
    refine ih _ _ _ (tN_tab x hx).2 ?_
    split
    · exact Nat.xor_lt_two_pow (n := 8) ha hx
    · exact ha
/-- the box as the model finds it -/
theorem box_tab : ∀ x, x < 256 → afI (Int32.ofNat (srN 255 x 1)) ^^^ 99 = mt_0.getD x 0 := by decide +kernel
theorem oM_aff {r2 : Nat → Int32 → mM → Option mM} {A : Nat} {x v : Int32} {M : mM} (hF : 100000 ≤ F) : B_X13_layCipher_54 G F r2 F A x v v 1 M = bO (gfR M A 13 41) fun v86 => bO (sI M 0 v86 x (afI v ^^^ (99 : Int32))) fun M94 => bO (gfR M94 A 13 42) fun v96 => bO (gfR M94 A 13 41) fun v100 => bO (aI G M94 0 v100 x) fun v104 => bO (sI M94 0 v96 v104 x) fun M106 => r2 A (x + 1) M106 := by
  obtain ⟨n, hn⟩ : ∃ n, F = n + 5 := ⟨F - 5, by omega⟩
  have e0 : B_X13_layCipher_54 G F r2 F = B_X13_layCipher_54 G F r2 (n + 5) := by rw [← hn]
  rw [e0, B_X13_layCipher_54, if_neg (by decide), B_X13_layCipher_54, if_neg (by decide), B_X13_layCipher_54, if_neg (by decide), B_X13_layCipher_54, if_neg (by decide), B_X13_layCipher_54, if_pos (by decide)]
  rfl
theorem oM_find {r2 : Nat → Int32 → mM → Option mM} {A x : Nat} {M : mM} (hF : 100000 ≤ F) (h0 : 0 < x) (hx : x < 256) : ∀ (m l f : Nat), m + 1 < f → l + m = 256 → 0 < l → B_X13_layCipher_13 G F r2 f A (Int32.ofNat x) 0 (Int32.ofNat l) M = B_X13_layCipher_54 G F r2 F A (Int32.ofNat x) (Int32.ofNat (srN m x l)) (Int32.ofNat (srN m x l)) 1 M := by
  intro m
  induction m with
  | zero =>
    intro l f hf hl hl0
    obtain ⟨f, rfl⟩ : ∃ q, f = q + 1 := ⟨f - 1, by omega⟩
    have : l = 256 := by omega
    subst this
    rw [B_X13_layCipher_13, if_pos (show (256 : Int32) ≤ (Int32.ofNat 256) by decide)]
    rfl
  | succ m ih =>
    intro l f hf hl hl0
    obtain ⟨f, rfl⟩ : ∃ q, f = q + 1 := ⟨f - 1, by omega⟩
    have gl := gm_lt 8 x l 0 hx (by omega)
    rw [B_X13_layCipher_13, if_neg (show ¬ (256 : Int32) ≤ (Int32.ofNat l) from fun q => absurd ((n_le (a := 256) (by omega) (by omega)).mp q) (by omega)), if_neg (show ¬ (Int32.ofNat x) ≤ (0 : Int32) from fun q => absurd ((n_le (b := 0) (by omega) (by omega)).mp q) (by omega)), if_pos rfl, oM_gm8 hF hx (by omega), bP_s]
    show _ = B_X13_layCipher_54 G F r2 F A (Int32.ofNat x) (Int32.ofNat (if gmN 8 x l 0 = 1 then l else srN m x (l + 1))) (Int32.ofNat (if gmN 8 x l 0 = 1 then l else srN m x (l + 1))) 1 M
    by_cases hg : gmN 8 x l 0 = 1
    · obtain ⟨f, rfl⟩ : ∃ q, f = q + 1 := ⟨f - 1, by omega⟩
      rw [if_pos hg, if_pos (by rw [hg]; rfl), B_X13_layCipher_13, if_neg (show ¬ (Int32.ofNat x) ≤ (0 : Int32) from fun q => absurd ((n_le (b := 0) (by omega) (by omega)).mp q) (by omega)), if_neg (show ¬ (Int32.ofNat l) = (0 : Int32) from fun q => absurd ((n_eq (b := 0) (by omega) (by omega)).mp q) (by omega)), ite_self]
    · rw [if_neg hg, if_neg (show ¬ (Int32.ofNat (gmN 8 x l 0)) = (1 : Int32) from fun q => hg ((n_eq (b := 1) (by omega) (by omega)).mp q)), n_i1]
      exact ih (l + 1) f (by omega) (by omega) (by omega)
/-- the tables when x bytes have been laid -/
def bxO (o : Ob) (x : Nat) : Ob := (o.sA 41 (fun j => if j < x then mt_0.getD j 0 else 0)).sA 42 (ivT x)
theorem oM_layC (X : Cx G F W) (h : isM W) {o : Ob} : ∀ (m x f : Nat), m < f → x + m = 256 → B_X13_layCipher_2 G F f (W.ad (.o 13 0)) (Int32.ofNat x) (mem W (S.so 13 0 (bxO o x))) = some (mem W (S.so 13 0 (bxO o 256))) := by
  have hF := X.hF
  intro m
  induction m with
  | zero =>
    intro x f hf hx
    obtain ⟨f, rfl⟩ : ∃ q, f = q + 1 := ⟨f - 1, by omega⟩
    have : x = 256 := by omega
    subst this
    rw [B_X13_layCipher_2, if_pos (show (256 : Int32) ≤ (Int32.ofNat 256) by decide)]
  | succ m ih =>
    intro x f hf hx
    obtain ⟨f, rfl⟩ : ∃ q, f = q + 1 := ⟨f - 1, by omega⟩
    obtain ⟨q, hq⟩ : ∃ q, F = q + 1 := ⟨F - 1, by omega⟩
    have fnd : B_X13_layCipher_13 G F (B_X13_layCipher_2 G F f) F (W.ad (.o 13 0)) (Int32.ofNat x) 0 1 (mem W (S.so 13 0 (bxO o x))) = B_X13_layCipher_54 G F (B_X13_layCipher_2 G F f) F (W.ad (.o 13 0)) (Int32.ofNat x) (Int32.ofNat (srN 255 x 1)) (Int32.ofNat (srN 255 x 1)) 1 (mem W (S.so 13 0 (bxO o x))) := by
      by_cases h0 : x = 0
      · subst h0
        have e0 : B_X13_layCipher_13 G F (B_X13_layCipher_2 G F f) F = B_X13_layCipher_13 G F (B_X13_layCipher_2 G F f) (q + 1) := by rw [← hq]
        rw [e0, B_X13_layCipher_13, if_neg (by decide), if_pos (by decide), show srN 255 0 1 = 0 by decide +kernel]
        rfl
      · exact oM_find hF (by omega) (by omega) 255 1 F (by omega) rfl (by omega)
    have ex : (Int32.ofNat x) = b32 (UInt8.ofNat x) := by
      unfold b32
      rw [UInt8.toNat_ofNat', Nat.mod_eq_of_lt (by omega)]
    have bt : mt_0.getD x 0 = (Int32.ofNat (sbx (UInt8.ofNat x)).toNat) := sbx_tab x (by omega)
    have h41 : hasA W 13 0 41 256 := h.hA 41 ⟨by decide, by decide⟩
    have h42 : hasA W 13 0 42 256 := h.hA 42 ⟨by decide, by decide⟩
    obtain ⟨o1, ho1⟩ : ∃ o1, o1 = (bxO o x).sA 41 (upd ((bxO o x).a 41) x (mt_0.getD x 0)) := ⟨_, rfl⟩
    have s1 := hasA.so' (S := S) (o := bxO o x) (v := mt_0.getD x 0) h41 rfl (show x < 256 by omega)
    rw [← ho1] at s1
    have l1 := hasA.lo' (G := G) (S := S) (o := o1) h41 rfl (show x < 256 by omega)
    have v1 : o1.a 41 x = (Int32.ofNat (sbx (UInt8.ofNat x)).toNat) := by rw [ho1, sA_a, upd_eq, bt]
    rw [v1] at l1
    have s2 := hasA.so' (S := S) (o := o1) (v := (Int32.ofNat x)) h42 rfl (show (sbx (UInt8.ofNat x)).toNat < 256 from UInt8.toNat_lt _)
    have e2 : o1.sA 42 (upd (o1.a 42) (sbx (UInt8.ofNat x)).toNat (Int32.ofNat x)) = bxO o (x + 1) := by
      have a42 : o1.a 42 = ivT x := by
        rw [ho1, sA_a' (by decide)]
        exact sA_a _ _ _
      rw [a42]
      show o1.sA 42 (ivT (x + 1)) = (o.sA 41 (fun j => if j < x + 1 then mt_0.getD j 0 else 0)).sA 42 (ivT (x + 1))
      have a41 : (bxO o x).a 41 = fun j => if j < x then mt_0.getD j 0 else 0 := (sA_a' (by decide)).trans (sA_a _ _ _)
      have f41 : upd ((bxO o x).a 41) x (mt_0.getD x 0) = fun j => if j < x + 1 then mt_0.getD j 0 else 0 := by
        funext j
        by_cases ej : j = x
        · rw [ej, upd_eq, if_pos (by omega)]
        · rw [upd_ne ej, a41]
          show (if j < x then mt_0.getD j 0 else 0) = _
          by_cases hj : j < x
          · rw [if_pos hj, if_pos (by omega)]
          · rw [if_neg hj, if_neg (by omega)]
      rw [ho1, f41]
      unfold bxO
      rw [sA_cm (k := 42) (k' := 41) (by decide), sA_sA, sA_sA]
    rw [e2] at s2
    rw [B_X13_layCipher_2, if_neg (show ¬ (256 : Int32) ≤ (Int32.ofNat x) from fun q => absurd ((n_le (a := 256) (by omega) (by omega)).mp q) (by omega)), fnd, oM_aff hF, box_tab x (by omega), h.gR 41 rfl (by decide), bO_s, s1, bO_s, h.gR 42 rfl (by decide), bO_s, h.gR 41 rfl (by decide), bO_s, l1, bO_s, s2, bO_s, n_i1]
    exact ih (x + 1) f (by omega) (by omega)
theorem oM_layCipher {o : Ob} (X : Cx G F W) (h : isM W) (h1 : o.a 41 = fun _ => 0) (h2 : o.a 42 = fun _ => 0) : ∃ o', P_X13_layCipher G F (W.ad (.o 13 0)) (mem W (S.so 13 0 o)) = some (mem W (S.so 13 0 o')) ∧ oBX o' ∧ agr [] [] [41, 42] [] o o' := by
  have e0 : o = bxO o 0 := by
    unfold bxO
    rw [show (fun j => if j < 0 then mt_0.getD j 0 else (0 : Int32)) = fun _ => 0 from funext fun j => if_neg (Nat.not_lt_zero _), sA_self h1]
    exact (sA_self h2).symm
  have := oM_layC (G := G) (F := F) (S := S) (o := o) X h 256 0 F (by have := X.hF; omega) rfl
  rw [← e0] at this
  refine ⟨bxO o 256, this, ⟨fun x => ?_, fun x => ?_⟩, (agr_sA (by decide)).trans (agr_sA (by decide))⟩
  · show (if x.toNat < 256 then mt_0.getD x.toNat 0 else 0) = _
    rw [if_pos x.toNat_lt, sbx_tab x.toNat x.toNat_lt, UInt8.ofNat_toNat]
  · exact ivT_ib x
end BOX
