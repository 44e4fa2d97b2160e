/-! TEXTS OF VALUES: the class's numbers and strings -/
def nmS (s : List UInt8) (p : Nat) (r : Nat ⊕ Nat) : Nat ⊕ (List UInt8 × Nat) := sB r fun q => .inr (seg s p (q - p), q)
def o7f (W : WR) (S : ST) (ip : Nat) (o b : Ob) (x : Option (Int32 × mM)) (r : Nat ⊕ (Nat × Nat)) : Prop := match r with
  | .inr (v, q) => x = some ((Int32.ofNat v), mem W (R7 S ip (o.sf 2 (Int32.ofNat q)) b))
  | .inl q => ∃ o', x = some (-1, mem W (R7 S ip o' b)) ∧ o'.f 3 = (Int32.ofNat q)
def o7e (W : WR) (S : ST) (ip : Nat) (o b : Ob) (x : Option (Int32 × mM)) (r : Nat ⊕ (Int32 × Nat)) : Prop := match r with
  | .inr (v, q) => x = some (v, mem W (R7 S ip (o.sf 2 (Int32.ofNat q)) b)) ∧ v ≠ -1
  | .inl q => ∃ o', x = some (-1, mem W (R7 S ip o' b)) ∧ o'.f 3 = (Int32.ofNat q)
theorem n_nm {n : Nat} (h : n < 2 ^ 31) : (Int32.ofNat n) ≠ (-1 : Int32) := by
  intro q
  have := congrArg Int32.toInt q
  rw [Int32.toInt_ofNat_of_lt (by omega)] at this
  have e : (-1 : Int32).toInt = -1 := by decide
  omega
theorem f4_low {s : List UInt8} {p v q : Nat} (h : f4 s true 4 0 0 p = .inr (v, q)) : 56320 ≤ v ∧ v ≤ 57343 := by
  have st : ∀ {m k u p v q : Nat}, f4 s true (m + 1) k u p = .inr (v, q) → f4B true k u (hxV (cd s p)) = false ∧ hxV (cd s p) < 16 ∧ f4 s true m (k + 1) (16 * u + hxV (cd s p)) (p + 1) = .inr (v, q) := by
    intro m k u p v q h
    have h : (if f4B true k u (hxV (cd s p)) = true then .inl p else f4 s true m (k + 1) (16 * u + hxV (cd s p)) (p + 1)) = Sum.inr (v, q) := h
    split at h
    · exact absurd h (by simp)
    · rename_i hb
      have hb' := Bool.eq_false_iff.mpr hb
      refine ⟨hb', ?_, h⟩
      have := hxV_lt (cd s p)
      by_cases e : hxV (cd s p) = 16
      · rw [e] at hb'
        simp [f4B] at hb'
      · omega
  obtain ⟨a1, a2, h⟩ := st h
  obtain ⟨b1, b2, h⟩ := st h
  obtain ⟨c1, c2, h⟩ := st h
  obtain ⟨d1, d2, h⟩ := st h
  have e := congrArg Prod.fst (Sum.inr.inj h)
  simp only at e
  have a3 : hxV (cd s p) = 13 := by
    simp [f4B] at a1
    exact a1.2
  have b3 : 12 ≤ hxV (cd s (p + 1)) := by
    simp [f4B] at b1
    exact b1.2
  omega
theorem srg_n {u v : Nat} (hu : 55296 ≤ u) (hu2 : u ≤ 56319) (hv : 56320 ≤ v) : srgF u v = (Int32.ofNat (65536 + (u - 55296) * 2 ^ 10 + (v - 56320))) := by
  unfold srgF
  rw [show ((Int32.ofNat u) - (55296 : Int32)) = (Int32.ofNat (u - 55296)) from n_sub hu, show ((10 : Int32) &&& 31) = (Int32.ofNat 10) from rfl, n_shl (by decide), show ((Int32.ofNat v) - (56320 : Int32)) = (Int32.ofNat (v - 56320)) from n_sub hv, show (65536 : Int32) = (Int32.ofNat 65536) from rfl, n_add, n_add]
section RD2
variable {W : WR} {G : mG} {F : Nat} {S : ST} {is_ ip t rs : Nat} {s pl : List UInt8} {ls : Bool} {o b : Ob}
theorem r7so {b' : Ob} : (R7 S ip o b).so 0 ip b' = R7 S ip o b' := so_so _ _ _ _ _
theorem Q7_num197 {p q : Nat} (K : isRd W is_ ip t rs) (hs : Byt rs (S 0 is_) s ls) (hb : Byt 8192 b pl false) (hl : s.length ≤ 8192) (hpl : pl.length ≤ p) (hpq : p ≤ q) (hq : q ≤ s.length) : o7s W S ip o pl (B_X7_number_197 G F (W.ad (.o 7 0)) (Int32.ofNat p) (mem W (R7 S ip (o.sf 2 (Int32.ofNat q)) b))) (.inr (seg s p (q - p), q)) := by
  obtain ⟨b', g, hb'⟩ := Q0_putPart (G := G) (F := F) (S := R7 S ip (o.sf 2 (Int32.ofNat q)) b) (i := ip) (p := p) (n := q - p) K.2.2.2.2.1 (by rw [r7_p]; exact hb) K.2.2.2.1 (by rw [r7_s K.2.2.2.2.2.2.2.1]; exact hs) (by omega)
  rw [r7so] at g
  have sl : (seg s p (q - p)).length = q - p := seg_len (by omega)
  unfold B_X7_number_197
  rw [r7txt K, bO_s, r7pool K, bO_s, r7src K, bO_s, r7at K, bO_s, r7pl K, bO_s, n_sub hpq, g, bO_s]
  refine ⟨b', rfl, ?_⟩
  have e1 : tkl 8192 pl ((s.drop p).take (q - p)) = pl ++ seg s p (q - p) := tkl_fit (by show pl.length + (seg s p (q - p)).length ≤ 8192; omega)
  have e2 : lsl 8192 pl ((s.drop p).take (q - p)) false = false := lsl_fit (by show pl.length + (seg s p (q - p)).length ≤ 8192; omega)
  rw [e1, e2] at hb'
  exact hb'
theorem Q7_numdg {p x : Nat} (X : Cx G F W) (K : isRd W is_ ip t rs) (hs : Byt rs (S 0 is_) s ls) (hb : Byt 8192 b pl false) (hl : s.length ≤ 8192) (hpl : pl.length ≤ p) (hx : x ≤ s.length + 8) {k : Int32 → mM → Option (Int32 × mM)} {r : Nat → Nat ⊕ Nat} (h1 : ∀ M, k 0 M = some (0, M)) (h2 : ∀ y, x < y → y ≤ s.length → dgR s x = .inr y → o7s W S ip o pl (k 1 (mem W (R7 S ip (o.sf 2 (Int32.ofNat y)) b))) (nmS s p (r y))) : o7s W S ip o pl (bP (P_X7_digits G F (W.ad (.o 7 0)) (mem W (R7 S ip (o.sf 2 (Int32.ofNat x)) b))) k) (nmS s p (sB (dgR s x) r)) := by
  have d := Q7_digits (G := G) (F := F) (o := o) (b := b) (p := x) X K hs hl hx
  cases hd : dgR s x with
  | inl y =>
    rw [hd] at d
    obtain ⟨o', e, f⟩ := d
    rw [e, bP_s, h1]
    exact ⟨o', b, pl, false, rfl, f, hb⟩
  | inr y =>
    rw [hd] at d
    have d : P_X7_digits G F (W.ad (.o 7 0)) (mem W (R7 S ip (o.sf 2 (Int32.ofNat x)) b)) = some (1, mem W (R7 S ip (o.sf 2 (Int32.ofNat y)) b)) := d
    have := dgR_ok hd
    rw [d, bP_s]
    exact h2 y this.1 this.2 hd
theorem sB_r (x : Nat ⊕ Nat) : sB x (fun y => (Sum.inr y : Nat ⊕ Nat)) = x := by cases x <;> rfl
theorem Q7_num136 {p q : Nat} (X : Cx G F W) (K : isRd W is_ ip t rs) (hs : Byt rs (S 0 is_) s ls) (hb : Byt 8192 b pl false) (hl : s.length ≤ 8192) (hpl : pl.length ≤ p) (hpq : p ≤ q) (hq : q ≤ s.length) : o7s W S ip o pl (B_X7_number_136 G F (W.ad (.o 7 0)) (Int32.ofNat p) (mem W (R7 S ip (o.sf 2 (Int32.ofNat q)) b))) (nmS s p (dgR s (if cd s (q + 1) = 43 ∨ cd s (q + 1) = 45 then q + 1 + 1 else q + 1))) := by
  have fin : ∀ x, q + 1 ≤ x → x ≤ s.length + 8 → o7s W S ip o pl (bP (P_X7_digits G F (W.ad (.o 7 0)) (mem W (R7 S ip (o.sf 2 (Int32.ofNat x)) b))) fun v189 M189 => if v189 = 0 then (retZ (0 : Int32) M189) else (B_X7_number_197 G F (W.ad (.o 7 0)) (Int32.ofNat p) M189)) (nmS s p (dgR s x)) := by
    intro x h1 h2
    rw [← sB_r (dgR s x)]
    exact Q7_numdg X K hs hb hl hpl h2 (fun M => by rw [if_pos rfl]; rfl) (fun y h3 h4 h5 => by
      rw [if_neg (by decide)]
      exact Q7_num197 K hs hb hl hpl (by omega) h4)
  unfold B_X7_number_136
  rw [r7at K, bO_s, n_i1, r7st K, bO_s, r7src K, bO_s, r7at K, bO_s, r7sl K, bO_s, r7peek K hs (by omega), bP_s]
  simp only [pe43, pe45]
  by_cases h1 : cd s (q + 1) = 43
  · rw [if_pos h1, if_pos (Or.inl h1), r7at K, bO_s, n_i1, r7st K, bO_s, r7lo K, bO_s]
    exact fin _ (by omega) (by omega)
  · rw [if_neg h1, r7src K, bO_s, r7at K, bO_s, r7sl K, bO_s, r7peek K hs (by omega), bP_s]
    simp only [pe45]
    by_cases h2 : cd s (q + 1) = 45
    · rw [if_pos h2, if_pos (Or.inr h2), r7at K, bO_s, n_i1, r7st K, bO_s, r7lo K, bO_s]
      exact fin _ (by omega) (by omega)
    · rw [if_neg h2, if_neg (fun q => q.elim h1 h2), r7lo K, bO_s]
      exact fin _ (by omega) (by omega)
theorem Q7_num104 {p q : Nat} (X : Cx G F W) (K : isRd W is_ ip t rs) (hs : Byt rs (S 0 is_) s ls) (hb : Byt 8192 b pl false) (hl : s.length ≤ 8192) (hpl : pl.length ≤ p) (hpq : p ≤ q) (hq : q ≤ s.length) : o7s W S ip o pl (B_X7_number_104 G F (W.ad (.o 7 0)) (Int32.ofNat p) (mem W (R7 S ip (o.sf 2 (Int32.ofNat q)) b))) (nmS s p (nmD s q)) := by
  unfold B_X7_number_104 nmD
  rw [r7src K, bO_s, r7at K, bO_s, r7sl K, bO_s, r7peek K hs (by omega), bP_s]
  simp only [pe101]
  by_cases h1 : cd s q = 101
  · rw [if_pos h1, if_pos (Or.inl h1)]
    exact Q7_num136 X K hs hb hl hpl hpq hq
  · rw [if_neg h1, r7src K, bO_s, r7at K, bO_s, r7sl K, bO_s, r7peek K hs (by omega), bP_s]
    simp only [pe69]
    by_cases h2 : cd s q = 69
    · rw [if_pos h2, if_pos (Or.inr h2)]
      exact Q7_num136 X K hs hb hl hpl hpq hq
    · rw [if_neg h2, if_neg (fun q => q.elim h1 h2)]
      exact Q7_num197 K hs hb hl hpl hpq hq
theorem Q7_num69 {p q : Nat} (X : Cx G F W) (K : isRd W is_ ip t rs) (hs : Byt rs (S 0 is_) s ls) (hb : Byt 8192 b pl false) (hl : s.length ≤ 8192) (hpl : pl.length ≤ p) (hpq : p ≤ q) (hq : q ≤ s.length) : o7s W S ip o pl (B_X7_number_69 G F (W.ad (.o 7 0)) (Int32.ofNat p) (mem W (R7 S ip (o.sf 2 (Int32.ofNat q)) b))) (nmS s p (sB (nmC s q) fun p3 => nmD s p3)) := by
  unfold B_X7_number_69 nmC
  rw [r7src K, bO_s, r7at K, bO_s, r7sl K, bO_s, r7peek K hs (by omega), bP_s]
  simp only [pe46]
  by_cases h1 : cd s q = 46
  · rw [if_pos h1, if_pos h1, r7at K, bO_s, n_i1, r7st K, bO_s, r7lo K, bO_s]
    exact Q7_numdg X K hs hb hl hpl (by omega) (fun M => by rw [if_pos rfl]; rfl) (fun y h3 h4 h5 => by
      rw [if_neg (by decide)]
      exact Q7_num104 X K hs hb hl hpl (by omega) h4)
  · rw [if_neg h1, if_neg h1]
    exact Q7_num104 X K hs hb hl hpl hpq hq
theorem Q7_num31 {p q : Nat} (X : Cx G F W) (K : isRd W is_ ip t rs) (hs : Byt rs (S 0 is_) s ls) (hb : Byt 8192 b pl false) (hl : s.length ≤ 8192) (hpl : pl.length ≤ p) (hpq : p ≤ q) (hq : q ≤ s.length) : o7s W S ip o pl (B_X7_number_31 G F (W.ad (.o 7 0)) (Int32.ofNat p) (mem W (R7 S ip (o.sf 2 (Int32.ofNat q)) b))) (nmS s p (sB (nmB s q) fun p2 => sB (nmC s p2) fun p3 => nmD s p3)) := by
  unfold B_X7_number_31 nmB
  rw [r7src K, bO_s, r7at K, bO_s, r7sl K, bO_s, r7peek K hs (by omega), bP_s]
  simp only [pe48]
  by_cases h1 : cd s q = 48
  · have hi := cd_in (s := s) (p := q) (by omega)
    rw [if_pos h1, if_pos h1, r7at K, bO_s, n_i1, r7st K, bO_s]
    exact Q7_num69 X K hs hb hl hpl (by omega) (by omega)
  · rw [if_neg h1, if_neg h1, r7lo K, bO_s]
    exact Q7_numdg X K hs hb hl hpl (by omega) (fun M => by rw [if_pos rfl]; rfl) (fun y h3 h4 h5 => by
      rw [if_neg (by decide)]
      exact Q7_num69 X K hs hb hl hpl (by omega) h4)
theorem Q7_number {p : Nat} (X : Cx G F W) (K : isRd W is_ ip t rs) (hs : Byt rs (S 0 is_) s ls) (hb : Byt 8192 b pl false) (hl : s.length ≤ 8192) (hpl : pl.length ≤ p) (hp : p ≤ s.length) : o7s W S ip o pl (P_X7_number G F (W.ad (.o 7 0)) (mem W (R7 S ip (o.sf 2 (Int32.ofNat p)) b))) (nmS s p (nmR s p)) := by
  unfold P_X7_number nmR nmA
  rw [r7at K, bO_s, r7src K, bO_s, bO_s, r7sl K, bO_s, r7peek K hs (by omega), bP_s]
  simp only [pe45]
  by_cases h1 : cd s p = 45
  · have hi := cd_in (s := s) (p := p) (by omega)
    rw [if_pos h1, if_pos h1, r7at K, bO_s, n_i1, r7st K, bO_s]
    exact Q7_num31 X K hs hb hl hpl (by omega) (by omega)
  · rw [if_neg h1, if_neg h1]
    exact Q7_num31 X K hs hb hl hpl (Nat.le_refl _) hp
/-! four digits -/
theorem hv_lt {n : Nat} (h : hxV n < 16) : hv n = (Int32.ofNat (hxV n)) := if_neg (by omega)
theorem Q7_four36 {low : Bool} {k u h : Nat} {M : mM} {A : Nat} {r4 : Nat → Int32 → Int32 → Int32 → mM → Option (Int32 × mM)} (hk : k < 4) (hu : u < 4096) (hh : h < 17) (hl : low = true → k = 1 → u = 13) : B_X7_fourDigits_36 G F r4 A (if low then 1 else 0) (Int32.ofNat u) (Int32.ofNat k) (if h = 16 then -1 else (Int32.ofNat h)) (if h = 16 then 0 else 1) M = B_X7_fourDigits_99 G F r4 A (if low then 1 else 0) (Int32.ofNat u) (Int32.ofNat k) (if h = 16 then -1 else (Int32.ofNat h)) (if f4B low k u h = true then 0 else 1) M := by
  have ek0 : ((Int32.ofNat k) = (0 : Int32)) = (k = 0) := propext (n_eq (b := 0) (by omega) (by omega))
  have ek1 : ((Int32.ofNat k) = (1 : Int32)) = (k = 1) := propext (n_eq (b := 1) (by omega) (by omega))
  have eu : ((Int32.ofNat u) = (13 : Int32)) = (u = 13) := propext (n_eq (b := 13) (by omega) (by omega))
  unfold B_X7_fourDigits_36 B_X7_fourDigits_60
  simp only [ek0, ek1, eu]
  by_cases hh16 : h = 16
  · have fb : f4B low k u h = true := by unfold f4B; rw [decide_eq_true hh16]; rfl
    rw [if_pos hh16, if_pos hh16, if_pos fb]
    have e13 : ((-1 : Int32) = (13 : Int32)) = False := by decide
    simp only [e13, if_false, if_true]
    cases low <;> simp
  · have eh13 : ((Int32.ofNat h) = (13 : Int32)) = (h = 13) := propext (n_eq (b := 13) (by omega) (by omega))
    have eh12 : ((Int32.ofNat h) < (12 : Int32)) = (h < 12) := propext (n_lt (b := 12) (by omega) (by omega))
    rw [if_neg hh16, if_neg hh16]
    simp only [eh13, eh12]
    unfold f4B
    rw [decide_eq_false hh16]
    cases low with
    | false =>
      simp only [Bool.false_eq_true, if_false, if_true, Bool.false_and, Bool.false_or, Bool.not_false, Bool.true_and]
      by_cases h0 : k = 0
      · subst h0
        simp
      · rw [if_neg h0]
        by_cases h1 : k = 1
        · subst h1
          by_cases h2 : u = 13
          · by_cases h3 : h < 12
            · simp [h2, h3, Nat.not_le.mpr h3]
            · simp [h2, h3, Nat.not_lt.mp h3]
          · simp [h2]
        · simp [h1]
    | true =>
      by_cases h0 : k = 0
      · subst h0
        by_cases h2 : h = 13
        · simp [h2]
        · simp [h2]
      · by_cases h1 : k = 1
        · subst h1
          have h2 := hl rfl rfl
          by_cases h3 : h < 12
          · simp [h2, h3]
          · simp [h2, h3]
        · simp [h0, h1]
theorem shl4 {u h : Nat} (hu : u < 4096) (hh : h < 16) : ((Int32.ofNat u) <<< ((4 : Int32) &&& 31)) ||| (Int32.ofNat h) = (Int32.ofNat (16 * u + h)) := by
  rw [show ((4 : Int32) &&& 31) = (Int32.ofNat 4) from rfl, n_shl (by decide), n_or, Nat.mul_comm u]
  congr 1
  have := Nat.two_pow_add_eq_or_of_lt (i := 4) (b := h) (by omega) u
  omega
theorem Q7_four_l {low : Bool} (K : isRd W is_ ip t rs) (hs : Byt rs (S 0 is_) s ls) (hl : s.length ≤ 8192) : ∀ (m k u p fuel : Nat), m < fuel → k + m = 4 → p ≤ s.length → u < 16 ^ k → (low = true → k = 1 → u = 13) → o7f W S ip o b (B_X7_fourDigits_4 G F fuel (W.ad (.o 7 0)) (if low then 1 else 0) (Int32.ofNat u) (Int32.ofNat k) (mem W (R7 S ip (o.sf 2 (Int32.ofNat p)) b))) (f4 s low m k u p) := by
  intro m
  induction m with
  | zero =>
    intro k u p fuel hf hk hp hu hw
    obtain ⟨fuel, rfl⟩ : ∃ q, fuel = q + 1 := ⟨fuel - 1, by omega⟩
    rw [B_X7_fourDigits_4, if_pos (show (4 : Int32) ≤ (Int32.ofNat k) from (n_le (a := 4) (by omega) (by omega)).mpr (by omega))]
    exact rfl
  | succ m ih =>
    intro k u p fuel hf hk hp hu hw
    obtain ⟨fuel, rfl⟩ : ∃ q, fuel = q + 1 := ⟨fuel - 1, by omega⟩
    have h16 : u < 4096 := Nat.lt_of_lt_of_le hu (Nat.le_trans (Nat.pow_le_pow_right (by decide) (show k ≤ 3 by omega)) (by decide))
    have hx := hxV_lt (cd s p)
    rw [B_X7_fourDigits_4, if_neg (show ¬ (4 : Int32) ≤ (Int32.ofNat k) from fun q => absurd ((n_le (a := 4) (by omega) (by omega)).mp q) (by omega)), r7src K, bO_s, r7at K, bO_s, r7sl K, bO_s, r7peek K hs (by omega), bP_s, Q7_hexValue, bP_s, hvI_pB]
    have e : ∀ M, (if hv (cd s p) = (-1 : Int32) then B_X7_fourDigits_36 G F (B_X7_fourDigits_4 G F fuel) (W.ad (.o 7 0)) (if low then 1 else 0) (Int32.ofNat u) (Int32.ofNat k) (hv (cd s p)) (0 : Int32) M else B_X7_fourDigits_36 G F (B_X7_fourDigits_4 G F fuel) (W.ad (.o 7 0)) (if low then 1 else 0) (Int32.ofNat u) (Int32.ofNat k) (hv (cd s p)) (1 : Int32) M) = B_X7_fourDigits_99 G F (B_X7_fourDigits_4 G F fuel) (W.ad (.o 7 0)) (if low then 1 else 0) (Int32.ofNat u) (Int32.ofNat k) (if hxV (cd s p) = 16 then -1 else (Int32.ofNat (hxV (cd s p)))) (if f4B low k u (hxV (cd s p)) = true then 0 else 1) M := by
      intro M
      rw [← Q7_four36 (by omega) h16 hx hw]
      unfold hv
      by_cases h6 : hxV (cd s p) = 16
      · rw [if_pos h6, if_pos h6, if_pos rfl]
      · rw [if_neg h6, if_neg h6, if_neg (n_nm (by omega))]
    rw [e]
    show o7f _ _ _ _ _ _ (if f4B low k u (hxV (cd s p)) = true then .inl p else f4 s low m (k + 1) (16 * u + hxV (cd s p)) (p + 1))
    unfold B_X7_fourDigits_99
    by_cases hb : f4B low k u (hxV (cd s p)) = true
    · rw [if_pos hb, if_pos hb, if_pos rfl, r7at K, bO_s, r7p K 3 rfl, bO_s]
      exact ⟨_, rfl, sf_eq _ _ _⟩
    · have h6 : hxV (cd s p) ≠ 16 := fun e => hb (by unfold f4B; rw [decide_eq_true e]; rfl)
      have hi := cd_in (s := s) (p := p) (fun e => h6 (by rw [e]; rfl))
      rw [if_neg hb, if_neg hb, if_neg (by decide), r7at K, bO_s, n_i1, r7st K, bO_s, if_neg h6, shl4 h16 (by omega), n_i1]
      refine ih (k + 1) _ (p + 1) fuel (by omega) (by omega) (by omega) (by rw [Nat.pow_succ]; omega) (fun hlow hk1 => ?_)
      have hk0 : k = 0 := by omega
      subst hk0
      subst hlow
      have : hxV (cd s p) = 13 := by
        simp [f4B] at hb
        exact hb.2
      have : u = 0 := by omega
      omega
theorem Q7_four {low : Bool} {p : Nat} {x : Int32} (X : Cx G F W) (K : isRd W is_ ip t rs) (hs : Byt rs (S 0 is_) s ls) (hl : s.length ≤ 8192) (hp : p ≤ s.length) (hx : x = if low then 1 else 0) : o7f W S ip o b (P_X7_fourDigits G F (W.ad (.o 7 0)) x (mem W (R7 S ip (o.sf 2 (Int32.ofNat p)) b))) (f4 s low 4 0 0 p) := by
  rw [hx]
  exact Q7_four_l K hs hl 4 0 0 p F (by have := X.hF; omega) (by omega) hp (by decide) (by omega)
theorem Q7_short {n : Nat} {M : mM} {x : Int32} (hx : x = (Int32.ofNat n) ∨ (x = -1 ∧ n = 0)) (hn : n < 256) : P_X7_shortEscaped G F x M = some (if shE n = 256 then -1 else (Int32.ofNat (shE n)), M) := by
  have e : ∀ k, 0 < k → k < 256 → (x = (Int32.ofNat k)) = (n = k) := by
    intro k h0 hk
    rcases hx with rfl | ⟨rfl, rfl⟩
    · exact propext (n_eq (by omega) (by omega))
    · exact propext ⟨fun q => absurd q.symm (n_nm (by omega)), fun q => by omega⟩
  have e1 : (x = (34 : Int32)) = (n = 34) := e 34 (by omega) (by omega)
  have e2 : (x = (47 : Int32)) = (n = 47) := e 47 (by omega) (by omega)
  have e3 : (x = (92 : Int32)) = (n = 92) := e 92 (by omega) (by omega)
  have e4 : (x = (98 : Int32)) = (n = 98) := e 98 (by omega) (by omega)
  have e5 : (x = (102 : Int32)) = (n = 102) := e 102 (by omega) (by omega)
  have e6 : (x = (110 : Int32)) = (n = 110) := e 110 (by omega) (by omega)
  have e7 : (x = (114 : Int32)) = (n = 114) := e 114 (by omega) (by omega)
  have e8 : (x = (116 : Int32)) = (n = 116) := e 116 (by omega) (by omega)
  unfold P_X7_shortEscaped shE
  simp only [e1, e2, e3, e4, e5, e6, e7, e8]
  repeat' split
  all_goals first | rfl | (exfalso; omega)
theorem Q7_escape {p : Nat} (X : Cx G F W) (K : isRd W is_ ip t rs) (hs : Byt rs (S 0 is_) s ls) (hl : s.length ≤ 8192) (hp : p < s.length) : o7e W S ip o b (P_X7_escape G F (W.ad (.o 7 0)) (mem W (R7 S ip (o.sf 2 (Int32.ofNat p)) b))) (esR s (p + 1)) := by
  unfold P_X7_escape esR
  rw [r7at K, bO_s, n_i1, r7st K, bO_s, r7src K, bO_s, r7at K, bO_s, r7sl K, bO_s, r7peek K hs (by omega), bP_s]
  simp only [pe117]
  by_cases h1 : cd s (p + 1) = 117
  · have hi := cd_in (s := s) (p := p + 1) (by omega)
    rw [if_pos h1, if_pos h1, r7at K, bO_s, n_i1, r7st K, bO_s, r7lo K, bO_s]
    unfold esU
    have f := Q7_four (G := G) (F := F) (o := o) (b := b) (low := false) (p := p + 1 + 1) (x := 0) X K hs hl (by omega) rfl
    cases hf : f4 s false 4 0 0 (p + 1 + 1) with
    | inl y =>
      rw [hf] at f
      obtain ⟨o', f1, f2⟩ := f
      rw [f1, bP_s, if_pos (by decide)]
      exact ⟨o', rfl, f2⟩
    | inr r =>
      obtain ⟨u, r⟩ := r
      rw [hf] at f
      have k1 := f4_ok (by omega) hf
      have f : P_X7_fourDigits G F (W.ad (.o 7 0)) 0 (mem W (R7 S ip (o.sf 2 (Int32.ofNat (p + 1 + 1))) b)) = some ((Int32.ofNat u), mem W (R7 S ip (o.sf 2 (Int32.ofNat r)) b)) := f
      rw [f, bP_s]
      show o7e _ _ _ _ _ _ (if u < 55296 ∨ 56319 < u then .inr ((Int32.ofNat u), r) else sB (wdR s [92, 117] r) fun q => sB (f4 s true 4 0 0 q) fun t => .inr (srgF u t.1, t.2))
      by_cases h2 : u < 55296
      · rw [if_pos (Or.inl h2), if_pos (show (Int32.ofNat u) < (55296 : Int32) from (n_lt (b := 55296) (by omega) (by omega)).mpr h2)]
        exact ⟨rfl, n_nm (by omega)⟩
      · rw [if_neg (show ¬ (Int32.ofNat u) < (55296 : Int32) from fun q => h2 ((n_lt (b := 55296) (by omega) (by omega)).mp q))]
        by_cases h3 : 56319 < u
        · rw [if_pos (Or.inr h3), if_neg (show ¬ (Int32.ofNat u) ≤ (56319 : Int32) from fun q => absurd ((n_le (b := 56319) (by omega) (by omega)).mp q) (by omega))]
          exact ⟨rfl, n_nm (by omega)⟩
        · rw [if_neg (show ¬ (u < 55296 ∨ 56319 < u) by omega), if_pos (show (Int32.ofNat u) ≤ (56319 : Int32) from (n_le (b := 56319) (by omega) (by omega)).mpr (by omega)), r7lo K, bO_s]
          have w := Q7_word (G := G) (F := F) (o := o) (b := b) (j := 10) (p := r) X K hs hl (by decide) (by omega)
          rw [show str 10 = [92, 117] by decide] at w
          cases hw : wdR s [92, 117] r with
          | inl y =>
            rw [hw] at w
            obtain ⟨o', w1, w2⟩ := w
            rw [w1, bP_s, if_pos rfl]
            exact ⟨o', rfl, w2⟩
          | inr r2 =>
            rw [hw] at w
            have k2 := wdR_ok (by decide) k1.2.2 hw
            have w : P_X7_word G F (W.ad (.o 7 0)) (G.1 10) (mem W (R7 S ip (o.sf 2 (Int32.ofNat r)) b)) = some (1, mem W (R7 S ip (o.sf 2 (Int32.ofNat r2)) b)) := w
            rw [w, bP_s, if_neg (by decide), r7lo K, bO_s]
            show o7e _ _ _ _ _ _ (sB (f4 s true 4 0 0 r2) fun t => .inr (srgF u t.1, t.2))
            have g := Q7_four (G := G) (F := F) (o := o) (b := b) (low := true) (p := r2) (x := 1) X K hs hl k2.2 rfl
            cases hg : f4 s true 4 0 0 r2 with
            | inl y =>
              rw [hg] at g
              obtain ⟨o', g1, g2⟩ := g
              have g1 : P_X7_fourDigits G F (W.ad (.o 7 0)) 1 (mem W (R7 S ip (o.sf 2 (Int32.ofNat r2)) b)) = _ := g1
              rw [g1, bP_s, if_pos rfl]
              exact ⟨o', rfl, g2⟩
            | inr t2 =>
              obtain ⟨v, t2⟩ := t2
              rw [hg] at g
              have k3 := f4_ok k2.2 hg
              have k4 := f4_low hg
              have g : P_X7_fourDigits G F (W.ad (.o 7 0)) 1 (mem W (R7 S ip (o.sf 2 (Int32.ofNat r2)) b)) = some ((Int32.ofNat v), mem W (R7 S ip (o.sf 2 (Int32.ofNat t2)) b)) := g
              rw [g, bP_s, if_neg (n_nm (by omega))]
              refine ⟨rfl, ?_⟩
              rw [srg_n (by omega) (by omega) k4.1]
              exact n_nm (by omega)
  · rw [if_neg h1, if_neg h1]
    have hx : pB s (p + 1) = (Int32.ofNat (cd s (p + 1))) ∨ (pB s (p + 1) = -1 ∧ cd s (p + 1) = 0) := by
      by_cases hi : p + 1 < s.length
      · exact Or.inl (pB_in hi)
      · exact Or.inr ⟨pB_ge (by omega), by unfold cd; rw [by8_ge (by omega)]; rfl⟩
    rw [Q7_short hx (cd_lt _ _), bP_s]
    by_cases h2 : shE (cd s (p + 1)) = 256
    · rw [if_pos h2, if_pos h2, if_pos rfl, r7at K, bO_s, r7p K 3 rfl, bO_s, r7g K 2 rfl, bO_s, r7p K 2 rfl, bO_s]
      exact ⟨_, rfl, by rw [sf_ne (by decide), sf_eq]⟩
    · have := (shE_cases (cd s (p + 1))).resolve_right h2
      rw [if_neg h2, if_neg h2, if_neg (n_nm (by omega)), r7at K, bO_s, n_i1, r7st K, bO_s]
      exact ⟨rfl, n_nm (by omega)⟩
theorem Q7_putPoint {x : Int32} (K : isRd W is_ ip t rs) (hb : Byt 8192 b pl false) (hl : pl.length + (u8 x).length ≤ 8192) : ∃ b', P_X7_putPoint G F (W.ad (.o 7 0)) x (mem W (R7 S ip o b)) = some (mem W (R7 S ip o b')) ∧ Byt 8192 b' (pl ++ u8 x) false := by
  unfold P_X7_putPoint
  rw [r7txt K, bO_s, r7pool K, bO_s]
  unfold u8 at hl ⊢
  by_cases h1 : (128 : Int32) ≤ x
  · rw [if_pos h1] at hl ⊢
    rw [if_pos h1]
    by_cases h2 : (2048 : Int32) ≤ x
    · rw [if_pos h2] at hl ⊢
      rw [if_pos h2]
      by_cases h3 : (65536 : Int32) ≤ x
      · rw [if_pos h3] at hl ⊢
        rw [if_pos h3]
        simp only [List.length_cons, List.length_nil] at hl
        obtain ⟨b1, g1, k1⟩ := r7put (G := G) (F := F) (S := S) (o := o) (x := ((240 : Int32) ||| (x >>> ((18 : Int32) &&& 31)))) K hb (by omega)
        obtain ⟨b2, g2, k2⟩ := r7put (G := G) (F := F) (S := S) (o := o) (x := ((128 : Int32) ||| ((x >>> ((12 : Int32) &&& 31)) &&& (63 : Int32)))) K k1 (by simp; omega)
        obtain ⟨b3, g3, k3⟩ := r7put (G := G) (F := F) (S := S) (o := o) (x := ((128 : Int32) ||| ((x >>> ((6 : Int32) &&& 31)) &&& (63 : Int32)))) K k2 (by simp; omega)
        obtain ⟨b4, g4, k4⟩ := r7put (G := G) (F := F) (S := S) (o := o) (x := ((128 : Int32) ||| (x &&& (63 : Int32)))) K k3 (by simp; omega)
        rw [r7pl K, bO_s, g1, bO_s, r7pl K, bO_s, g2, bO_s, r7pl K, bO_s, g3, bO_s, r7pl K, bO_s, g4, bO_s]
        exact ⟨b4, rfl, by simpa only [List.append_assoc, List.cons_append, List.nil_append] using k4⟩
      · rw [if_neg h3] at hl ⊢
        rw [if_neg h3]
        simp only [List.length_cons, List.length_nil] at hl
        obtain ⟨b1, g1, k1⟩ := r7put (G := G) (F := F) (S := S) (o := o) (x := ((224 : Int32) ||| (x >>> ((12 : Int32) &&& 31)))) K hb (by omega)
        obtain ⟨b3, g3, k3⟩ := r7put (G := G) (F := F) (S := S) (o := o) (x := ((128 : Int32) ||| ((x >>> ((6 : Int32) &&& 31)) &&& (63 : Int32)))) K k1 (by simp; omega)
        obtain ⟨b4, g4, k4⟩ := r7put (G := G) (F := F) (S := S) (o := o) (x := ((128 : Int32) ||| (x &&& (63 : Int32)))) K k3 (by simp; omega)
        rw [r7pl K, bO_s, g1, bO_s, r7pl K, bO_s, g3, bO_s, r7pl K, bO_s, g4, bO_s]
        exact ⟨b4, rfl, by simpa only [List.append_assoc, List.cons_append, List.nil_append] using k4⟩
    · rw [if_neg h2] at hl ⊢
      rw [if_neg h2]
      simp only [List.length_cons, List.length_nil] at hl
      obtain ⟨b1, g1, k1⟩ := r7put (G := G) (F := F) (S := S) (o := o) (x := ((192 : Int32) ||| (x >>> ((6 : Int32) &&& 31)))) K hb (by omega)
      obtain ⟨b4, g4, k4⟩ := r7put (G := G) (F := F) (S := S) (o := o) (x := ((128 : Int32) ||| (x &&& (63 : Int32)))) K k1 (by simp; omega)
      rw [r7pl K, bO_s, g1, bO_s, r7pl K, bO_s, g4, bO_s]
      exact ⟨b4, rfl, by simpa only [List.append_assoc, List.cons_append, List.nil_append] using k4⟩
  · rw [if_neg h1] at hl ⊢
    rw [if_neg h1]
    simp only [List.length_cons, List.length_nil] at hl
    obtain ⟨b1, g1, k1⟩ := r7put (G := G) (F := F) (S := S) (o := o) (x := x) K hb (by omega)
    rw [r7pl K, bO_s, g1, bO_s]
    exact ⟨b1, rfl, k1⟩
theorem Q7_long_l {mo : Nat} (K : isRd W is_ ip t rs) (hs : Byt rs (S 0 is_) s ls) (hl : s.length ≤ 8192) (hmo : mo ≤ 3) : ∀ (m k lo hi : Nat) (acc : List UInt8) (q fuel : Nat) (b : Ob), m < fuel → k + m = mo → 0 < lo → lo < 256 → hi < 256 → q ≤ s.length → Byt 8192 b (pl ++ acc) false → (pl ++ acc).length ≤ q → o7s W S ip o pl (B_X7_longForm_154 G F fuel (W.ad (.o 7 0)) (Int32.ofNat mo) (Int32.ofNat lo) (Int32.ofNat hi) (Int32.ofNat k) (mem W (R7 S ip (o.sf 2 (Int32.ofNat q)) b))) (wlR s m lo hi acc q) := by
  intro m
  induction m with
  | zero =>
    intro k lo hi acc q fuel b hf hk h1 h2 h3 hq hb hlen
    obtain ⟨fuel, rfl⟩ : ∃ q, fuel = q + 1 := ⟨fuel - 1, by omega⟩
    rw [B_X7_longForm_154, if_pos ((n_le (by omega) (by omega)).mpr (by omega))]
    exact ⟨b, rfl, hb⟩
  | succ m ih =>
    intro k lo hi acc q fuel b hf hk h1 h2 h3 hq hb hlen
    obtain ⟨fuel, rfl⟩ : ∃ q, fuel = q + 1 := ⟨fuel - 1, by omega⟩
    rw [B_X7_longForm_154, if_neg (fun q => absurd ((n_le (by omega) (by omega)).mp q) (by omega)), r7src K, bO_s, r7at K, bO_s, r7sl K, bO_s, r7peek K hs (by omega), bP_s]
    show o7s _ _ _ _ _ _ (if cd s q < lo ∨ hi < cd s q then .inl q else wlR s m 128 191 (acc ++ [by8 s q]) (q + 1))
    have bad : o7s W S ip o pl (bO (gfI (mem W (R7 S ip (o.sf 2 (Int32.ofNat q)) b)) (W.ad (.o 7 0)) 7 2) fun v188 => bO (rcv (mem W (R7 S ip (o.sf 2 (Int32.ofNat q)) b)) (W.ad (.o 7 0)) 7) fun _ => bP (P_X7_wrong G F (W.ad (.o 7 0)) v188 (mem W (R7 S ip (o.sf 2 (Int32.ofNat q)) b))) fun v191 M191 => retZ v191 M191) (.inl q) := by
      obtain ⟨o', w1, w2⟩ := Q7_wrong (G := G) (F := F) (S := S) (o := o.sf 2 (Int32.ofNat q)) (b := b) (q := q) K
      rw [r7at K, bO_s, r7lo K, bO_s, w1, bP_s]
      exact ⟨o', b, _, _, rfl, w2, hb⟩
    by_cases c1 : cd s q < lo
    · rw [if_pos (Or.inl c1), if_pos (by rw [ck_lt h1 (by omega)]; exact c1)]
      exact bad
    · rw [if_neg (by rw [ck_lt h1 (by omega)]; exact c1)]
      by_cases c2 : hi < cd s q
      · rw [if_pos (Or.inr c2), if_neg (show ¬ pB s q ≤ (Int32.ofNat hi) by rw [ck_le (by omega)]; omega)]
        exact bad
      · have hi' := cd_in (s := s) (p := q) (by omega)
        obtain ⟨b1, g1, k1⟩ := r7put (G := G) (F := F) (S := S) (o := o.sf 2 (Int32.ofNat q)) (x := pB s q) K hb (by omega)
        rw [lo8_pB hi'] at k1
        rw [if_neg (show ¬ (cd s q < lo ∨ hi < cd s q) by omega), if_pos (show pB s q ≤ (Int32.ofNat hi) by rw [ck_le (by omega)]; omega), r7txt K, bO_s, r7pool K, bO_s, r7pl K, bO_s, g1, bO_s, r7at K, bO_s, n_i1, r7st K, bO_s, n_i1]
        exact ih (k + 1) 128 191 _ (q + 1) fuel b1 (by omega) (by omega) (by omega) (by omega) (by omega) (by omega) (by rw [← List.append_assoc]; exact k1) (by rw [← List.append_assoc, List.length_append, List.length_singleton]; omega)
theorem Q7_longForm {p : Nat} {acc : List UInt8} (X : Cx G F W) (K : isRd W is_ ip t rs) (hs : Byt rs (S 0 is_) s ls) (hl : s.length ≤ 8192) (hb : Byt 8192 b pl false) (hpl : pl.length ≤ p) (hp : p < s.length) : o7s W S ip o pl (P_X7_longForm G F (W.ad (.o 7 0)) (pB s p) (mem W (R7 S ip (o.sf 2 (Int32.ofNat p)) b))) (wiR s p) := by
  have hF := X.hF
  have e1 : ∀ M, P_X7_longForm G F (W.ad (.o 7 0)) (pB s p) M = B_X7_longForm_55 G F (W.ad (.o 7 0)) (pB s p) (Int32.ofNat (wMo (cd s p))) M := by
    intro M
    unfold P_X7_longForm B_X7_longForm_36 wMo
    simp only [pl194, pl224, pg239, pg223, pl240, pg244]
    repeat' split
    all_goals first | rfl | (exfalso; omega)
  have e2 : ∀ lo M, B_X7_longForm_98 G F (W.ad (.o 7 0)) (pB s p) (Int32.ofNat (wMo (cd s p))) lo M = B_X7_longForm_128 G F (W.ad (.o 7 0)) (pB s p) (Int32.ofNat (wMo (cd s p))) lo (Int32.ofNat (wHi (cd s p))) M := by
    intro lo M
    unfold B_X7_longForm_98 wHi
    simp only [pe237, pe244]
    repeat' split
    all_goals first | rfl | (exfalso; omega)
  have mo := wMo_le (cd s p)
  rw [e1]
  unfold B_X7_longForm_55 wiR
  by_cases h0 : wMo (cd s p) = 0
  · rw [if_pos h0, h0, if_pos (show (Int32.ofNat 0) = (0 : Int32) from rfl)]
    obtain ⟨o', w1, w2⟩ := Q7_wrong (G := G) (F := F) (S := S) (o := o.sf 2 (Int32.ofNat p)) (b := b) (q := p) K
    rw [r7at K, bO_s, r7lo K, bO_s, w1, bP_s]
    exact ⟨o', b, _, _, rfl, w2, hb⟩
  · rw [if_neg h0, if_neg (show ¬ (Int32.ofNat (wMo (cd s p))) = 0 from fun q => h0 ((n_eq (b := 0) (by omega) (by omega)).mp q))]
    have e3 : ∀ M, (if pB s p = (224 : Int32) then B_X7_longForm_98 G F (W.ad (.o 7 0)) (pB s p) (Int32.ofNat (wMo (cd s p))) (160 : Int32) M else if pB s p = (240 : Int32) then B_X7_longForm_98 G F (W.ad (.o 7 0)) (pB s p) (Int32.ofNat (wMo (cd s p))) (144 : Int32) M else B_X7_longForm_98 G F (W.ad (.o 7 0)) (pB s p) (Int32.ofNat (wMo (cd s p))) (128 : Int32) M) = B_X7_longForm_128 G F (W.ad (.o 7 0)) (pB s p) (Int32.ofNat (wMo (cd s p))) (Int32.ofNat (wLo (cd s p))) (Int32.ofNat (wHi (cd s p))) M := by
      intro M
      rw [e2, e2, e2]
      unfold wLo
      simp only [pe224, pe240]
      repeat' split
      all_goals first | rfl | (exfalso; omega)
    rw [e3]
    unfold B_X7_longForm_128
    obtain ⟨b1, g1, k1⟩ := r7put (G := G) (F := F) (S := S) (o := o.sf 2 (Int32.ofNat p)) (x := pB s p) K hb (by omega)
    rw [lo8_pB hp] at k1
    rw [r7txt K, bO_s, r7pool K, bO_s, r7pl K, bO_s, g1, bO_s, r7at K, bO_s, n_i1, r7st K, bO_s]
    exact Q7_long_l K hs hl mo _ 0 _ _ _ (p + 1) F b1 (by omega) (by omega) (wLo_pos _).1 (wLo_pos _).2 (wHi_lt _).2 (by omega) k1 (by rw [List.length_append, List.length_singleton]; omega)
theorem o7s_ext {acc : List UInt8} {x : Option (Int32 × mM)} {r : Nat ⊕ (List UInt8 × Nat)} (h : o7s W S ip o (pl ++ acc) x r) : o7s W S ip o pl x (sB r fun y => .inr (acc ++ y.1, y.2)) := by
  cases r with
  | inl q => exact h
  | inr y =>
    obtain ⟨bs, q⟩ := y
    obtain ⟨b', h1, h2⟩ := h
    exact ⟨b', h1, by show Byt 8192 b' (pl ++ (acc ++ bs)) false; rw [← List.append_assoc]; exact h2⟩
theorem Q7_str_l (X : Cx G F W) (K : isRd W is_ ip t rs) (hs : Byt rs (S 0 is_) s ls) (hl : s.length ≤ 8192) : ∀ (n p k fuel : Nat) (acc : List UInt8) (b : Ob), n < fuel → s.length < n + p → p ≤ s.length → k ≤ p → Byt 8192 b (pl ++ acc) false → (pl ++ acc).length ≤ p → o7s W S ip o pl (B_X7_string_12 G F fuel (W.ad (.o 7 0)) (Int32.ofNat k) (mem W (R7 S ip (o.sf 2 (Int32.ofNat p)) b))) (stL s n p acc) := by
  intro n
  induction n with
  | zero => intro p k fuel acc b h1 h2 h3; omega
  | succ n ih =>
    intro p k fuel acc b hf hn hp hk hb hlen
    obtain ⟨fuel, rfl⟩ : ∃ q, fuel = q + 1 := ⟨fuel - 1, by omega⟩
    rw [B_X7_string_12, r7src K, bO_s, r7many K hs, bO_s, if_neg (fun q => absurd ((n_lt (by omega) (by omega)).mp q) (by omega)), bO_s, r7at K, bO_s, r7sl K, bO_s, r7peek K hs (by omega), bP_s]
    simp only [pe34, ph32, pe92, ph128]
    show o7s _ _ _ _ _ _ (if cd s p = 34 then .inr (acc, p + 1) else sB (chR s p) fun r => stL s n r.2 (acc ++ r.1))
    by_cases c1 : cd s p = 34
    · rw [if_pos c1, if_pos c1, r7at K, bO_s, n_i1, r7st K, bO_s]
      exact ⟨b, rfl, hb⟩
    · rw [if_neg c1, if_neg c1]
      unfold chR
      by_cases c2 : cd s p < 32
      · rw [if_neg (by omega), if_pos c2]
        obtain ⟨o', w1, w2⟩ := Q7_wrong (G := G) (F := F) (S := S) (o := o.sf 2 (Int32.ofNat p)) (b := b) (q := p) K
        rw [r7at K, bO_s, r7lo K, bO_s, w1, bP_s]
        exact ⟨o', b, _, _, rfl, w2, hb⟩
      · have hi := cd_in (s := s) (p := p) (by omega)
        rw [if_pos (by omega), if_neg c2]
        by_cases c3 : cd s p = 92
        · rw [if_pos c3, if_pos c3, r7lo K, bO_s]
          have e := Q7_escape (G := G) (F := F) (o := o) (b := b) (p := p) X K hs hl hi
          cases he : esR s (p + 1) with
          | inl y =>
            rw [he] at e
            obtain ⟨o', e1, e2⟩ := e
            rw [e1, bP_s, if_pos rfl]
            exact ⟨o', b, _, _, rfl, e2, hb⟩
          | inr r =>
            obtain ⟨x, r⟩ := r
            rw [he] at e
            obtain ⟨e1, e2⟩ := e
            have ek := esR_ok (by omega) he
            obtain ⟨b1, g1, k1⟩ := Q7_putPoint (G := G) (F := F) (S := S) (o := o.sf 2 (Int32.ofNat r)) (x := x) K hb (by omega)
            rw [e1, bP_s, if_neg e2, r7lo K, bO_s, g1, bO_s, n_i1]
            exact ih r (k + 1) fuel (acc ++ u8 x) b1 (by omega) (by omega) (by omega) (by omega) (by rw [← List.append_assoc]; exact k1) (by rw [← List.append_assoc, List.length_append]; omega)
        · rw [if_neg c3, if_neg c3]
          by_cases c4 : cd s p < 128
          · obtain ⟨b1, g1, k1⟩ := r7put (G := G) (F := F) (S := S) (o := o.sf 2 (Int32.ofNat p)) (x := pB s p) K hb (by omega)
            rw [lo8_pB hi] at k1
            rw [if_neg (by omega), if_pos c4, r7txt K, bO_s, r7pool K, bO_s, r7pl K, bO_s, g1, bO_s, r7at K, bO_s, n_i1, r7st K, bO_s, n_i1]
            exact ih (p + 1) (k + 1) fuel (acc ++ [by8 s p]) b1 (by omega) (by omega) (by omega) (by omega) (by rw [← List.append_assoc]; exact k1) (by rw [← List.append_assoc, List.length_append, List.length_singleton]; omega)
          · rw [if_pos (by omega), if_neg c4, r7lo K, bO_s]
            have e := Q7_longForm (G := G) (F := F) (o := o) (b := b) (p := p) (acc := acc) X K hs hl hb hlen hi
            cases he : wiR s p with
            | inl y =>
              rw [he] at e
              obtain ⟨o', b', xs, l, e1, e2, e3⟩ := e
              rw [e1, bP_s, if_pos rfl]
              exact ⟨o', b', xs, l, rfl, e2, e3⟩
            | inr r =>
              obtain ⟨bs, r⟩ := r
              rw [he] at e
              have ck := chR_ok (s := s) (p := p) (q := r) (bs := bs) (by unfold chR; rw [if_neg c2, if_neg c3, if_neg c4]; exact he)
              obtain ⟨b1, e1, k1⟩ := e
              rw [e1, bP_s, if_neg (by decide), n_i1]
              exact ih r (k + 1) fuel (acc ++ bs) b1 (by omega) (by omega) (by omega) (by omega) (by rw [← List.append_assoc]; exact k1) (by rw [← List.append_assoc, List.length_append]; omega)
theorem Q7_string {p : Nat} (X : Cx G F W) (K : isRd W is_ ip t rs) (hs : Byt rs (S 0 is_) s ls) (hl : s.length ≤ 8192) (hb : Byt 8192 b pl false) (hpl : pl.length ≤ p) (hp : p < s.length) : o7s W S ip o pl (P_X7_string G F (W.ad (.o 7 0)) (mem W (R7 S ip (o.sf 2 (Int32.ofNat p)) b))) (stR s p) := by
  have hF := X.hF
  unfold P_X7_string
  rw [r7at K, bO_s, n_i1, r7st K, bO_s]
  exact Q7_str_l X K hs hl _ (p + 1) 0 F [] b (by omega) (by omega) (by omega) (by omega) (by rw [List.append_nil]; exact hb) (by rw [List.append_nil]; omega)
end RD2
