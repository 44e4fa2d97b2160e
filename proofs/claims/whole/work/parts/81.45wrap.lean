/-! KEYS WRAPPED: said purely, and the class -/
/-- what is turned at turn t of p parts: the first 8 and the part -/
def wpart (p t : Nat) : Nat := 8 + 8 * (t % p)
def wst (ks : Nat → UInt8) (nr p t : Nat) (w : Nat → UInt8) : Nat → UInt8 := fun j =>
  let B := fwd ks nr (m16 fun k => if k < 8 then w k else w (wpart p t + (k - 8)))
  if j < 8 then B.getD j 0 ^^^ (if j = 7 then UInt8.ofNat (t + 1) else 0) else if wpart p t ≤ j ∧ j < wpart p t + 8 then B.getD (8 + (j - wpart p t)) 0 else w j
def ust (ks : Nat → UInt8) (nr p t : Nat) (w : Nat → UInt8) : Nat → UInt8 := fun j =>
  let B := bck ks nr (m16 fun k => if k < 8 then w k ^^^ (if k = 7 then UInt8.ofNat (t + 1) else 0) else w (wpart p t + (k - 8)))
  if j < 8 then B.getD j 0 else if wpart p t ≤ j ∧ j < wpart p t + 8 then B.getD (8 + (j - wpart p t)) 0 else w j
theorem wst_at {ks : Nat → UInt8} {nr p t : Nat} {w : Nat → UInt8} {B : List UInt8} (hB : B = fwd ks nr (m16 fun k => if k < 8 then w k else w (wpart p t + (k - 8)))) (j : Nat) : wst ks nr p t w j = if j < 8 then B.getD j 0 ^^^ (if j = 7 then UInt8.ofNat (t + 1) else 0) else if wpart p t ≤ j ∧ j < wpart p t + 8 then B.getD (8 + (j - wpart p t)) 0 else w j := by
  rw [hB]
  rfl
theorem ust_at {ks : Nat → UInt8} {nr p t : Nat} {w : Nat → UInt8} {B : List UInt8} (hB : B = bck ks nr (m16 fun k => if k < 8 then w k ^^^ (if k = 7 then UInt8.ofNat (t + 1) else 0) else w (wpart p t + (k - 8)))) (j : Nat) : ust ks nr p t w j = if j < 8 then B.getD j 0 else if wpart p t ≤ j ∧ j < wpart p t + 8 then B.getD (8 + (j - wpart p t)) 0 else w j := by
  rw [hB]
  rfl
def wIt (ks : Nat → UInt8) (nr p : Nat) : Nat → Nat → (Nat → UInt8) → Nat → UInt8
  | 0, _, w => w
  | m + 1, t, w => wIt ks nr p m (t + 1) (wst ks nr p t w)
def uIt (ks : Nat → UInt8) (nr p : Nat) : Nat → (Nat → UInt8) → Nat → UInt8
  | 0, w => w
  | t + 1, w => uIt ks nr p t (ust ks nr p t w)
def w0F (u : List UInt8) : Nat → UInt8 := fun j => if j < 8 then 166 else u.getD (j - 8) 0
def mapN (f : Nat → UInt8) (n : Nat) : List UInt8 := (List.range n).map f
theorem mapN_len (f : Nat → UInt8) (n : Nat) : (mapN f n).length = n := by simp [mapN]
theorem mapN_at {f : Nat → UInt8} {n j : Nat} (h : j < n) : (mapN f n)[j]? = some (f j) := by simp [mapN, h]
theorem mapN_drop (f : Nat → UInt8) {n j : Nat} (h : j < n) : (mapN f n).drop j = f j :: (mapN f n).drop (j + 1) := by
  rw [List.drop_eq_getElem_cons (by rw [mapN_len]; omega)]
  congr 1
  simp [mapN]
/-- wrapped, and unwrapped -/
def wrapF (key u : List UInt8) : List UInt8 := mapN (wIt (ksF (key.length / 4) key) (key.length / 4 + 6) (u.length / 8) (6 * (u.length / 8)) 0 (w0F u)) (u.length + 8)
def uwF (key u : List UInt8) : Nat → UInt8 := uIt (ksF (key.length / 4) key) (key.length / 4 + 6) ((u.length - 8) / 8) (6 * ((u.length - 8) / 8)) (fun j => u.getD j 0)
def okA (w : Nat → UInt8) : Bool := (List.range 8).all fun j => w j == 166
def unwrapF (key u : List UInt8) : Option (List UInt8) := if okA (uwF key u) then some (mapN (fun j => uwF key u (8 + j)) (u.length - 8)) else none
theorem okA_iff (w : Nat → UInt8) : okA w = true ↔ ∀ j, j < 8 → w j = 166 := by simp [okA]
def mayW (n : Nat) : Bool := decide (16 ≤ n ∧ n ≤ 64 ∧ n % 8 = 0)
theorem ofN_x {a b : Nat} (hb : b < 256) (x : UInt8) (h : x.toNat = a) : b32 x ^^^ (Int32.ofNat b) = b32 (x ^^^ UInt8.ofNat b) := b32_xor x hb
section WRAP
variable {W : WR} {G : mG} {F : Nat}
theorem and7_t : ∀ n, n < 8300 → (Int32.ofNat n) &&& (7 : Int32) = (Int32.ofNat (n % 8)) := by
  intro n _
  rw [lit 7, n_and]
  congr 1
  rw [show (7 : Nat) = 2 ^ 3 - 1 from rfl, and_mask]
theorem Q1_mayWrap {n : Nat} {M : mM} (hn : n ≤ 8192) : P_X1_mayWrap G F (Int32.ofNat n) M = some (if mayW n then 1 else 0, M) := by
  unfold P_X1_mayWrap mayW
  by_cases h16 : n < 16
  · rw [if_pos (by rw [lit 16]; exact (n_lt (by omega) (by omega)).mpr h16), retZ0]
    rw [if_neg (by simp; omega)]
  · rw [if_neg (by rw [lit 16]; exact fun q => h16 ((n_lt (by omega) (by omega)).mp q))]
    by_cases h64 : 64 < n
    · rw [if_pos (by rw [lit 64]; exact (n_lt (by omega) (by omega)).mpr h64), retZ0]
      rw [if_neg (by simp; omega)]
    · rw [if_neg (by rw [lit 64]; exact fun q => h64 ((n_lt (by omega) (by omega)).mp q)), and7_t n (by omega)]
      by_cases h8 : n % 8 = 0
      · rw [if_pos (by rw [h8]; rfl), retZ1]
        rw [if_pos (by simp; omega)]
      · rw [if_neg (by rw [z32]; exact fun q => h8 ((n_eq (by omega) (by omega)).mp q)), retZ0]
        rw [if_neg (by simp; omega)]
/-- the state between turns: the first 8 in block, the parts in wrapped -/
abbrev WS (S : ST) (p : Nat) (w : Nat → UInt8) : Prop := (∀ j, j < 8 → (S 1 0).a 4 j = b32 (w j)) ∧ ∀ j, 8 ≤ j → j < 8 + 8 * p → (S 1 0).a 5 j = b32 (w j)
abbrev LW : List (Nat × Nat × Nat) := [(1, 0, 3), (1, 0, 4), (1, 0, 5)]
theorem cmul8 (x : Nat) : (8 : Int32) + (8 : Int32) * (Int32.ofNat x) = (Int32.ofNat (8 + 8 * x)) := by
  rw [show (8 : Int32) * (Int32.ofNat x) = (Int32.ofNat (8 * x)) from n_mul 8 x]
  exact n_add 8 _
theorem pmax {p : Nat} (h : 1 ≤ p) (hp : p < 100) : (if (Int32.ofNat p) < (1 : Int32) then (1 : Int32) else (Int32.ofNat p)) = (Int32.ofNat p) := by
  rw [if_neg (by rw [lit 1]; exact fun q => absurd ((n_lt (by omega) (by omega)).mp q) (by omega))]
theorem Q1_wr_t {ks : Nat → UInt8} {nr p i2 i3 : Nat} (X : Cx G F W) (h : isCi W) (hp : 1 ≤ p) (hp8 : p ≤ 8) : ∀ (m t n : Nat) (S : ST) (w : Nat → UInt8), m < n → t + m = 6 * p → KS S ks nr → WS S p w → ∃ n' S', B_X1_putWrapped_93 G F n (W.ad (.o 1 0)) (W.ad (.o 0 i2)) (W.ad (.o 0 i3)) (Int32.ofNat p) (Int32.ofNat t) (mem W S) = B_X1_putWrapped_93 G F (n' + 1) (W.ad (.o 1 0)) (W.ad (.o 0 i2)) (W.ad (.o 0 i3)) (Int32.ofNat p) (Int32.ofNat (6 * p)) (mem W S') ∧ arF LW S S' ∧ WS S' p (wIt ks nr p m t w) := by
  have h4 := h.2.2.2.2.1
  have h5 := h.2.2.2.2.2
  intro m
  induction m with
  | zero =>
    intro t n S w hn ht hk hw
    obtain ⟨n, rfl⟩ : ∃ q, n = q + 1 := ⟨n - 1, by omega⟩
    obtain rfl : t = 6 * p := by omega
    exact ⟨n, S, rfl, arF.refl _ _, hw⟩
  | succ m ih =>
    intro t n S w hn ht hk hw
    obtain ⟨n, rfl⟩ : ∃ q, n = q + 1 := ⟨n - 1, by omega⟩
    have htp : t % p < p := Nat.mod_lt _ (by omega)
    have hmul : (6 : Int32) * (Int32.ofNat p) = (Int32.ofNat (6 * p)) := n_mul 6 p
    rw [B_X1_putWrapped_93, hmul, if_neg (fun q => absurd ((n_le (by omega) (by omega)).mp q) (by omega)), pmax hp (by omega), n_rem (by omega) (by omega) (by omega), bO_s, cmul8, h5.g h.1 rfl, bO_s, h4.g h.1 rfl, bO_s]
    have cp1 := cpI_a (G := G) (S := S) (p := 8 + 8 * (t % p)) (q := 8) (m := 8) h5 rfl h4 rfl (by omega) (by omega)
    have cp1' : cpI G (mem W S) (W.ad (.a 1 0 5)) (Int32.ofNat (8 + 8 * (t % p))) (W.ad (.a 1 0 4)) 8 8 = _ := cp1
    rw [cp1', bO_s, h4.g h.1 rfl, bO_s, rcv_m h.1, bO_s]
    obtain ⟨S1, hS1⟩ : ∃ S1, S1 = S.sa 1 0 4 (va_cpy ((S 1 0).a 5) ((S 1 0).a 4) (8 + 8 * (t % p)) 8 8) := ⟨_, rfl⟩
    rw [← hS1]
    have a1 : arF LW S S1 := by rw [hS1]; exact arF_sa (by decide)
    have c1 : CL S1 1 0 4 (m16 fun k => if k < 8 then w k else w (wpart p t + (k - 8))) := by
      intro k hk
      rw [hS1, sa_eq, m16_g hk, va_cpy]
      by_cases h8 : k < 8
      · rw [if_neg (by omega), if_pos h8, hw.1 k h8]
      · rw [if_pos ⟨by omega, by omega⟩, if_neg h8, hw.2 _ (by omega) (by omega)]
        rfl
    obtain ⟨S2, g2, a2, c2⟩ := Q1_forward (S := S1) X h (aB4 h) (KS_ar a1 (by decide) hk) c1
    obtain ⟨B, hB⟩ : ∃ B, B = fwd ks nr (m16 fun k => if k < 8 then w k else w (wpart p t + (k - 8))) := ⟨_, rfl⟩
    rw [← hB] at c2
    rw [g2, bO_s, h4.g h.1 rfl, bO_s, h4.ldl rfl 7 (by decide), bO_s, c2 7 (by decide), gB_D, n_addL t 1, b32_xor _ (show t + 1 < 256 by omega), h4.stl rfl 7 (by decide), bO_s]
    obtain ⟨S3, hS3⟩ : ∃ S3, S3 = S2.sa 1 0 4 (upd ((S2 1 0).a 4) 7 (b32 (B.getD 7 0 ^^^ UInt8.ofNat (t + 1)))) := ⟨_, rfl⟩
    have hS3' : S2.so 1 0 ((S2 1 0).sA 4 (upd ((S2 1 0).a 4) 7 (b32 (B.getD 7 0 ^^^ UInt8.ofNat (t + 1))))) = S3 := hS3.symm
    rw [hS3', h4.g h.1 rfl, bO_s, h5.g h.1 rfl, bO_s]
    have a3 : arF LW S S3 := by rw [hS3]; exact (a1.trans (a2.mono (by decide))).trans (arF_sa (by decide))
    have cp2 := cpI_a (G := G) (S := S3) (p := 8) (q := 8 + 8 * (t % p)) (m := 8) h4 rfl h5 rfl (by omega) (by omega)
    have cp2' : cpI G (mem W S3) (W.ad (.a 1 0 4)) 8 (W.ad (.a 1 0 5)) (Int32.ofNat (8 + 8 * (t % p))) 8 = _ := cp2
    rw [cp2', bO_s]
    obtain ⟨S4, hS4⟩ : ∃ S4, S4 = S3.sa 1 0 5 (va_cpy ((S3 1 0).a 4) ((S3 1 0).a 5) 8 (8 + 8 * (t % p)) 8) := ⟨_, rfl⟩
    rw [← hS4]
    have a4 : arF LW S S4 := by rw [hS4]; exact a3.trans (arF_sa (by decide))
    have b4 : ∀ k, k < 16 → (S3 1 0).a 4 k = b32 (B.getD k 0 ^^^ (if k = 7 then UInt8.ofNat (t + 1) else 0)) := by
      intro k hk
      rw [hS3, sa_eq]
      by_cases h7 : k = 7
      · rw [h7, upd_eq, if_pos rfl]
      · rw [upd_ne h7, if_neg h7, c2 k hk, gB_D, UInt8.xor_zero]
    have w4_ : WS S4 p (wst ks nr p t w) := by
      refine ⟨fun j hj => ?_, fun j hj hj2 => ?_⟩
      · rw [hS4, sa_ne (by decide), b4 j (by omega), wst_at hB, if_pos hj]
      · rw [hS4, sa_eq, va_cpy, wst_at hB, if_neg (show ¬ j < 8 by omega)]
        by_cases hin : wpart p t ≤ j ∧ j < wpart p t + 8
        · have hin' : 8 + 8 * (t % p) ≤ j ∧ j < 8 + 8 * (t % p) + 8 := hin
          rw [if_pos hin, if_pos hin', b4 _ (by omega), if_neg (by omega), UInt8.xor_zero]
          rfl
        · have hin' : ¬ (8 + 8 * (t % p) ≤ j ∧ j < 8 + 8 * (t % p) + 8) := hin
          rw [if_neg hin, if_neg hin', hS3, sa_ne (by decide), a2.1 1 0 5 (by decide), hS1, sa_ne (by decide)]
          exact hw.2 j hj hj2
    obtain ⟨n', S', g5, a5, w5⟩ := ih (t + 1) n S4 _ (by omega) (by omega) (KS_ar a4 (by decide) hk) w4_
    exact ⟨n', S', g5, a4.trans a5, w5⟩
theorem Q1_wr_o {ks : Nat → UInt8} {i2 i3 room2 room3 N : Nat} {w : Nat → UInt8} {u : List UInt8} {l2 : Bool} (h : isCi W) (hB2 : isB W i2 room2) (hB3 : isB W i3 room3) (hne : i2 ≠ i3) (hN : N = u.length + 8) (hN2 : N ≤ 72) : ∀ (m j n : Nat) (S : ST) (xs : List UInt8) (l : Bool), m < n → j + m = N → Byt room2 (S 0 i2) u l2 → (∀ j, j < N → (S 1 0).a 5 j = b32 (w j)) → Byt room3 (S 0 i3) xs l → ∃ o, B_X1_putWrapped_204 G F n (W.ad (.o 1 0)) (W.ad (.o 0 i2)) (W.ad (.o 0 i3)) (Int32.ofNat j) (mem W S) = some (mem W (S.so 0 i3 o)) ∧ Byt room3 o (tkl room3 xs ((mapN w N).drop j)) (lsl room3 xs ((mapN w N).drop j) l) := by
  have h5 := h.2.2.2.2.2
  intro m
  induction m with
  | zero =>
    intro j n S xs l hn hj hb hw hx
    obtain ⟨n, rfl⟩ : ∃ q, n = q + 1 := ⟨n - 1, by omega⟩
    rw [B_X1_putWrapped_204, hB2.gI 1 rfl, bO_s, hb.many, n_addL _ 8, if_pos ((n_le (by omega) (by omega)).mpr (by omega))]
    exact ⟨S 0 i3, by rw [so_self], by rw [List.drop_of_length_le (by rw [mapN_len]; omega), tkl_nil hx.le, lsl_nil hx.le]; exact hx⟩
  | succ m ih =>
    intro j n S xs l hn hj hb hw hx
    obtain ⟨n, rfl⟩ : ∃ q, n = q + 1 := ⟨n - 1, by omega⟩
    rw [B_X1_putWrapped_204, hB2.gI 1 rfl, bO_s, hb.many, n_addL _ 8, if_neg (fun q => absurd ((n_le (by omega) (by omega)).mp q) (by omega)), h5.g h.1 rfl, bO_s, h5.ld rfl (by omega), bO_s, rcv_m hB3.lo, bO_s, hw j (by omega)]
    obtain ⟨o, g1, g2⟩ := Q0_put1 (S := S) (x := b32 (w j)) (G := G) (F := F) hB3 hx
    rw [g1, bO_s, n_addL j 1]
    obtain ⟨o2, g3, g4⟩ := ih (j + 1) n (S.so 0 i3 o) _ _ (by omega) (by omega) (by rw [so_ne (by omega)]; exact hb) (fun t ht => by rw [so_ne (by omega)]; exact hw t ht) (by rw [so_eq]; exact g2)
    rw [so_so] at g3
    have el : lo8 (b32 (w j)) = w j := by
      unfold b32
      rw [lo8_n, UInt8.ofNat_toNat]
    rw [tkl_tkl, lsl_lsl, el, show [w j] ++ (mapN w N).drop (j + 1) = (mapN w N).drop j from (mapN_drop w (by omega)).symm] at g4
    exact ⟨o2, g3, g4⟩
theorem Q1_putWrapped {S : ST} {i1 i2 i3 room1 room2 room3 : Nat} {key u t : List UInt8} {l1 l2 l3 : Bool} (X : Cx G F W) (h : isCi W) (hB1 : isB W i1 room1) (hB2 : isB W i2 room2) (hB3 : isB W i3 room3) (hne : i2 ≠ i3) (hkl : key.length = 16 ∨ key.length = 32) (hm : mayW u.length = true) (hr3 : 72 ≤ room3) (hb1 : Byt room1 (S 0 i1) key l1) (hb2 : Byt room2 (S 0 i2) u l2) (hb3 : Byt room3 (S 0 i3) t l3) : ∃ S', P_X1_putWrapped G F (W.ad (.o 1 0)) (W.ad (.o 0 i1)) (W.ad (.o 0 i2)) (W.ad (.o 0 i3)) (mem W S) = some (mem W S') ∧ fr [(1, 0), (0, i3)] S S' ∧ agr [2] [] [1, 3, 4, 5] [] (S 1 0) (S' 1 0) ∧ Byt room3 (S' 0 i3) (wrapF key u) false := by
  have hF := X.hF
  have h4 := h.2.2.2.2.1
  have h5 := h.2.2.2.2.2
  have hm' : 16 ≤ u.length ∧ u.length ≤ 64 ∧ u.length % 8 = 0 := of_decide_eq_true hm
  obtain ⟨p, hp⟩ : ∃ p, u.length = 8 * p := ⟨u.length / 8, by omega⟩
  have hp8 : u.length / 8 = p := by omega
  unfold P_X1_putWrapped
  rw [hB2.gI 1 rfl, bO_s, hb2.many, Q1_mayWrap (by omega), bP_s, hm, if_neg (by decide), hB1.gI 1 rfl, bO_s, hb1.many, rcv_m h.1, bO_s]
  obtain ⟨o1, g1, a1, k1⟩ := Q1_become (S := S) (p := 0) (n := key.length) X h hB1 hb1 hkl (by omega) (by omega)
  rw [List.drop_zero, List.take_length] at k1
  have g1' : P_X1_become G F (W.ad (.o 1 0)) (W.ad (.o 0 i1)) 0 (Int32.ofNat key.length) (mem W S) = some (mem W (S.so 1 0 o1)) := g1
  rw [g1', bO_s, hB2.gI 1 rfl, bO_s, so_ne (by omega), hb2.many, show (8 : Int32) = (Int32.ofNat 8) from rfl, n_div (by omega) (by omega), hp8]
  obtain ⟨S1, hS1⟩ : ∃ S1, S1 = S.so 1 0 o1 := ⟨_, rfl⟩
  rw [← hS1] at k1 ⊢
  have o1B : ∀ j, S1 0 j = S 0 j := fun j => by rw [hS1, so_ne (by omega)]
  -- the bytes to be wrapped
  obtain ⟨n2, S2, e2, a2, c2⟩ := loopS (fun n j S => B_X1_putWrapped_33 G F n (W.ad (.o 1 0)) (W.ad (.o 0 i2)) (W.ad (.o 0 i3)) (Int32.ofNat p) (Int32.ofNat j) (mem W S)) (fun j S' => arF LW S1 S' ∧ ∀ t, t < j → (S' 1 0).a 5 (8 + t) = b32 (u.getD t 0)) u.length (by
    intro n j S2 hj hI
    obtain ⟨i1_, i2_⟩ := hI
    have hb : Byt room2 (S2 0 i2) u l2 := by rw [i1_.ob (c := 0) (i := i2) (by simp), o1B]; exact hb2
    show ∃ S', B_X1_putWrapped_33 G F (n + 1) _ _ _ _ _ _ = _ ∧ _
    rw [B_X1_putWrapped_33, hB2.gI 1 rfl, bO_s, hb.many, if_neg (fun q => absurd ((n_le (by omega) (by omega)).mp q) (by omega)), h5.g h.1 rfl, bO_s, rcv_m hB2.lo, bO_s, Q0_get hB2 hb (by omega), bP_s, show (8 : Int32) + (Int32.ofNat j) = (Int32.ofNat (8 + j)) from n_add 8 j, h5.sa rfl (by omega), bO_s, n_addL j 1, gB_D]
    refine ⟨_, rfl, i1_.trans (arF_sa (by simp)), fun t ht => ?_⟩
    rw [sa_eq]
    by_cases et : t = j
    · rw [et, upd_eq]
    · rw [upd_ne (by omega)]
      exact i2_ t (by omega)) u.length 0 F S1 (by omega) (by omega) ⟨arF.refl _ _, fun t ht => absurd ht (Nat.not_lt_zero _)⟩
  have e2' : B_X1_putWrapped_33 G F F (W.ad (.o 1 0)) (W.ad (.o 0 i2)) (W.ad (.o 0 i3)) (Int32.ofNat p) 0 (mem W S1) = B_X1_putWrapped_33 G F (n2 + 1) (W.ad (.o 1 0)) (W.ad (.o 0 i2)) (W.ad (.o 0 i3)) (Int32.ofNat p) (Int32.ofNat u.length) (mem W S2) := e2
  have hb22 : Byt room2 (S2 0 i2) u l2 := by rw [a2.ob (c := 0) (i := i2) (by simp), o1B]; exact hb2
  rw [e2', B_X1_putWrapped_33, hB2.gI 1 rfl, bO_s, hb22.many, if_pos ((n_le (by omega) (by omega)).mpr (Nat.le_refl _))]
  -- the first 8
  obtain ⟨n3, S3, e3, a3, c3⟩ := loopS (fun n j S => B_X1_putWrapped_67 G F n (W.ad (.o 1 0)) (W.ad (.o 0 i2)) (W.ad (.o 0 i3)) (Int32.ofNat p) (Int32.ofNat j) (mem W S)) (fun j S' => arF [(1, 0, 4)] S2 S' ∧ ∀ t, t < j → (S' 1 0).a 4 t = b32 166) 8 (by
    intro n j S3 hj hI
    obtain ⟨i1_, i2_⟩ := hI
    show ∃ S', B_X1_putWrapped_67 G F (n + 1) _ _ _ _ _ _ = _ ∧ _
    rw [B_X1_putWrapped_67, if_neg (by rw [lit 8]; exact fun q => absurd ((n_le (by omega) (by omega)).mp q) (by omega)), h4.g h.1 rfl, bO_s, h4.sa rfl (by omega), bO_s, n_addL j 1]
    refine ⟨_, rfl, i1_.trans (arF_sa (by simp)), fun t ht => ?_⟩
    rw [sa_eq]
    by_cases et : t = j
    · rw [et, upd_eq]
      rfl
    · rw [upd_ne (by omega)]
      exact i2_ t (by omega)) 8 0 F S2 (by omega) (by omega) ⟨arF.refl _ _, fun t ht => absurd ht (Nat.not_lt_zero _)⟩
  have e3' : B_X1_putWrapped_67 G F F (W.ad (.o 1 0)) (W.ad (.o 0 i2)) (W.ad (.o 0 i3)) (Int32.ofNat p) 0 (mem W S2) = B_X1_putWrapped_67 G F (n3 + 1) (W.ad (.o 1 0)) (W.ad (.o 0 i2)) (W.ad (.o 0 i3)) (Int32.ofNat p) 8 (mem W S3) := e3
  rw [e3', B_X1_putWrapped_67, if_pos (by decide)]
  have a13 : arF LW S1 S3 := a2.trans (a3.mono (by decide))
  have ws3 : WS S3 p (w0F u) := by
    refine ⟨fun j hj => by rw [c3 j hj, w0F, if_pos hj], fun j hj hj2 => ?_⟩
    have := c2 (j - 8) (by omega)
    rw [show 8 + (j - 8) = j by omega] at this
    rw [a3.1 1 0 5 (by decide), this, w0F, if_neg (by omega)]
  obtain ⟨n4, S4, e4, a4, w4_⟩ := Q1_wr_t (G := G) (F := F) (i2 := i2) (i3 := i3) X h (show 1 ≤ p by omega) (by omega) (6 * p) 0 F S3 (w0F u) (by omega) (by omega) (KS_ar a13 (by decide) k1) ws3
  have e4' : B_X1_putWrapped_93 G F F (W.ad (.o 1 0)) (W.ad (.o 0 i2)) (W.ad (.o 0 i3)) (Int32.ofNat p) 0 (mem W S3) = _ := e4
  have a14 := a13.trans a4
  have cp := cpI_a (G := G) (S := S4) (p := 0) (q := 0) (m := 8) h4 rfl h5 rfl (by omega) (by omega)
  have cp' : cpI G (mem W S4) (W.ad (.a 1 0 4)) 0 (W.ad (.a 1 0 5)) 0 8 = _ := cp
  rw [e4', B_X1_putWrapped_93, show (6 : Int32) * (Int32.ofNat p) = (Int32.ofNat (6 * p)) from n_mul 6 p, if_pos ((n_le (by omega) (by omega)).mpr (Nat.le_refl _)), h4.g h.1 rfl, bO_s, h5.g h.1 rfl, bO_s, cp', bO_s, rcv_m hB3.lo, bO_s]
  obtain ⟨S5, hS5⟩ : ∃ S5, S5 = S4.sa 1 0 5 (va_cpy ((S4 1 0).a 4) ((S4 1 0).a 5) 0 0 8) := ⟨_, rfl⟩
  rw [← hS5]
  have a15 : arF LW S1 S5 := by rw [hS5]; exact a14.trans (arF_sa (by decide))
  obtain ⟨WW, hWW⟩ : ∃ WW, WW = wIt (ksF (key.length / 4) key) (key.length / 4 + 6) p (6 * p) 0 (w0F u) := ⟨_, rfl⟩
  rw [← hWW] at w4_
  have w5 : ∀ j, j < u.length + 8 → (S5 1 0).a 5 j = b32 (WW j) := by
    intro j hj
    rw [hS5, sa_eq, va_cpy]
    by_cases h8 : j < 8
    · rw [if_pos ⟨by omega, by omega⟩, Nat.zero_add, Nat.sub_zero, w4_.1 j h8]
    · rw [if_neg (by omega), w4_.2 j (by omega) (by omega)]
  obtain ⟨o6, g6, b6⟩ := Q0_clear (G := G) (F := F) (S := S5) hB3 (by rw [a15.ob (c := 0) (i := i3) (by simp), o1B]; exact hb3)
  rw [g6, bO_s]
  obtain ⟨o7, g7, b7⟩ := Q1_wr_o (ks := fun _ => 0) (G := G) (F := F) (w := WW) (N := u.length + 8) (u := u) h hB2 hB3 hne rfl (by omega) (u.length + 8) 0 F (S5.so 0 i3 o6) [] false (by omega) (by omega) (by rw [so_ne (by omega), a15.ob (c := 0) (i := i2) (by simp), o1B]; exact hb2) (fun j hj => by rw [so_ne (by omega)]; exact w5 j hj) (by rw [so_eq]; exact b6)
  rw [so_so] at g7
  rw [List.drop_zero, tkl_fit (by rw [mapN_len]; simp; omega), lsl_fit (by rw [mapN_len]; simp; omega), List.nil_append] at b7
  refine ⟨_, g7, ?_, ?_, ?_⟩
  · have f1 : fr [(1, 0), (0, i3)] S S1 := by rw [hS1]; exact fr_so (by simp)
    exact (f1.trans (a15.fr (by decide) |>.mono (L := [(1, 0)]) (by simp))).trans (fr_so (by simp))
  · rw [so_ne (by omega)]
    have := a15.ag 1 0 [3, 4, 5] (by decide)
    rw [hS1, so_eq] at this
    exact (a1.mono (by decide) (by decide) (by decide) (by decide)).trans (this.mono (by decide) (by decide) (by decide) (by decide))
  · rw [so_eq]
    have ew : wrapF key u = mapN WW (u.length + 8) := by rw [wrapF, hp8, hWW]
    rw [ew]
    exact b7
end WRAP
