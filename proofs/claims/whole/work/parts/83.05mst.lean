/-! TEXTS OF VALUES: the model's numbers and strings -/
section MST
variable {W : WR} {G : mG} {F : Nat} {S : ST} {ks p0 u : Nat} {s acc : List UInt8} {o : Ob} {β : Nat → UInt8} {fl : Int32}
theorem QM_num104 {q : Nat} (X : Cx G F W) (h : isM W) (K : isSr W ks) (C : SrC o ks p0 s) (hl : s.length ≤ 8192) (hq : q < s.length) : m7 W S o u β acc (B_X13_number_104 G F (W.ad (.o 13 0)) (mem W (MA S o (Int32.ofNat q) (-1) u β acc))) (dgR s (if cd s (q + 1) = 43 ∨ cd s (q + 1) = 45 then q + 1 + 1 else q + 1)) := by
  have fin : ∀ x, q + 1 ≤ x → x ≤ s.length + 1 → m7 W S o u β acc (bO (P_X13_digits G F (W.ad (.o 13 0)) (mem W (MA S o (Int32.ofNat x) (-1) u β acc))) fun M147 => some M147) (dgR s x) := by
    intro x h1 h2
    have d := QM_digits (G := G) (F := F) (S := S) (u := u) (β := β) (acc := acc) (p := x) X h K C hl h2
    cases hd : dgR s x with
    | inl y =>
      rw [hd] at d
      obtain ⟨p', d⟩ := d
      rw [d, bO_s]
      exact ⟨p', rfl⟩
    | inr y =>
      rw [hd] at d
      have d : P_X13_digits G F (W.ad (.o 13 0)) (mem W (MA S o (Int32.ofNat x) (-1) u β acc)) = some (mem W (MA S o (Int32.ofNat y) (-1) u β acc)) := d
      rw [d, bO_s]
      exact rfl
  unfold B_X13_number_104
  rw [ma_at h, bO_s, n_i1, ma_st h, bO_s, ma_at h, bO_s, ma_lo h, bO_s, QM_at h K C (by omega) hl, bP_s]
  simp only [pe43]
  by_cases h1 : cd s (q + 1) = 43
  · have hi := cd_in (s := s) (p := q + 1) (by omega)
    rw [if_pos h1, if_pos (Or.inl h1), n_i1, ma_st h, bO_s, ma_lo h, bO_s]
    exact fin _ (by omega) (by omega)
  · rw [if_neg h1, ma_lo h, bO_s, QM_at h K C (by omega) hl, bP_s]
    simp only [pe45]
    by_cases h2 : cd s (q + 1) = 45
    · have hi := cd_in (s := s) (p := q + 1) (by omega)
      rw [if_pos h2, if_pos (Or.inr h2), n_i1, ma_st h, bO_s, ma_lo h, bO_s]
      exact fin _ (by omega) (by omega)
    · rw [if_neg h2, if_neg (fun q => q.elim h1 h2), show (Int32.ofNat (q + 1)) + (0 : Int32) = (Int32.ofNat (q + 1)) from n_add (q + 1) 0, ma_st h, bO_s, ma_lo h, bO_s]
      exact fin _ (by omega) (by omega)
theorem QM_num79 {q : Nat} (X : Cx G F W) (h : isM W) (K : isSr W ks) (C : SrC o ks p0 s) (hl : s.length ≤ 8192) (hq : q ≤ s.length) : m7 W S o u β acc (B_X13_number_79 G F (W.ad (.o 13 0)) (mem W (MA S o (Int32.ofNat q) (-1) u β acc))) (nmD s q) := by
  unfold B_X13_number_79 nmD
  rw [ma_lo h, bO_s, QM_good1 h, bP_s, if_neg (by decide), ma_lo h, bO_s, QM_at h K C (by omega) hl, bP_s]
  simp only [pe101]
  by_cases h1 : cd s q = 101
  · rw [if_pos h1, if_pos (Or.inl h1)]
    exact QM_num104 X h K C hl (cd_in (by omega))
  · rw [if_neg h1, ma_lo h, bO_s, QM_at h K C (by omega) hl, bP_s]
    simp only [pe69]
    by_cases h2 : cd s q = 69
    · rw [if_pos h2, if_pos (Or.inr h2)]
      exact QM_num104 X h K C hl (cd_in (by omega))
    · rw [if_neg h2, if_neg (fun q => q.elim h1 h2)]
      exact rfl
theorem QM_num79b {q : Nat} {p : Int32} (h : isM W) (hq : q < 2 ^ 31) : B_X13_number_79 G F (W.ad (.o 13 0)) (mem W (MA S o p (Int32.ofNat q) u β acc)) = some (mem W (MA S o p (Int32.ofNat q) u β acc)) := by
  unfold B_X13_number_79
  rw [ma_lo h, bO_s, QM_good0 h hq, bP_s, if_pos rfl]
theorem QM_num49 {q : Nat} (X : Cx G F W) (h : isM W) (K : isSr W ks) (C : SrC o ks p0 s) (hl : s.length ≤ 8192) (hq : q ≤ s.length) : m7 W S o u β acc (B_X13_number_49 G F (W.ad (.o 13 0)) (mem W (MA S o (Int32.ofNat q) (-1) u β acc))) (sB (nmC s q) fun p3 => nmD s p3) := by
  unfold B_X13_number_49 nmC
  rw [ma_lo h, bO_s, QM_good1 h, bP_s, if_neg (by decide), ma_lo h, bO_s, QM_at h K C (by omega) hl, bP_s]
  simp only [pe46]
  by_cases h1 : cd s q = 46
  · have hi := cd_in (s := s) (p := q) (by omega)
    rw [if_pos h1, if_pos h1, ma_at h, bO_s, n_i1, ma_st h, bO_s, ma_lo h, bO_s]
    have d := QM_digits (G := G) (F := F) (S := S) (u := u) (β := β) (acc := acc) (p := q + 1) X h K C hl (by omega)
    cases hd : dgR s (q + 1) with
    | inl y =>
      rw [hd] at d
      have hy := dgR_bad hd
      obtain ⟨p', d⟩ := d
      rw [d, bO_s, QM_num79b h (by omega)]
      exact ⟨p', rfl⟩
    | inr y =>
      rw [hd] at d
      have hy := dgR_ok hd
      have d : P_X13_digits G F (W.ad (.o 13 0)) (mem W (MA S o (Int32.ofNat (q + 1)) (-1) u β acc)) = some (mem W (MA S o (Int32.ofNat y) (-1) u β acc)) := d
      rw [d, bO_s]
      exact QM_num79 X h K C hl hy.2
  · rw [if_neg h1, if_neg h1]
    exact QM_num79 X h K C hl hq
theorem QM_num49b {q : Nat} {p : Int32} (h : isM W) (hq : q < 2 ^ 31) : B_X13_number_49 G F (W.ad (.o 13 0)) (mem W (MA S o p (Int32.ofNat q) u β acc)) = some (mem W (MA S o p (Int32.ofNat q) u β acc)) := by
  unfold B_X13_number_49
  rw [ma_lo h, bO_s, QM_good0 h hq, bP_s, if_pos rfl, QM_num79b h hq]
theorem QM_num19 {q : Nat} {p : Int32} {v w : Int32} (X : Cx G F W) (h : isM W) (K : isSr W ks) (C : SrC o ks p0 s) (hl : s.length ≤ 8192) (hq : q ≤ s.length) (hv : v + w = (Int32.ofNat q)) : m7 W S o u β acc (B_X13_number_19 G F (W.ad (.o 13 0)) (W.ad (.o 13 0)) v w (mem W (MA S o p (-1) u β acc))) (sB (nmB s q) fun p2 => sB (nmC s p2) fun p3 => nmD s p3) := by
  unfold B_X13_number_19 nmB
  rw [hv, ma_st h, bO_s, ma_lo h, bO_s, QM_at h K C (by omega) hl, bP_s]
  simp only [pe48]
  by_cases h1 : cd s q = 48
  · have hi := cd_in (s := s) (p := q) (by omega)
    rw [if_pos h1, if_pos h1, ma_at h, bO_s, n_i1, ma_st h, bO_s]
    exact QM_num49 X h K C hl (by omega)
  · rw [if_neg h1, if_neg h1, ma_lo h, bO_s]
    have d := QM_digits (G := G) (F := F) (S := S) (u := u) (β := β) (acc := acc) (p := q) X h K C hl (by omega)
    cases hd : dgR s q with
    | inl y =>
      rw [hd] at d
      have hy := dgR_bad hd
      obtain ⟨p', d⟩ := d
      rw [d, bO_s, QM_num49b h (by omega)]
      exact ⟨p', rfl⟩
    | inr y =>
      rw [hd] at d
      have hy := dgR_ok hd
      have d : P_X13_digits G F (W.ad (.o 13 0)) (mem W (MA S o (Int32.ofNat q) (-1) u β acc)) = some (mem W (MA S o (Int32.ofNat y) (-1) u β acc)) := d
      rw [d, bO_s]
      exact QM_num49 X h K C hl hy.2
theorem QM_number {p : Nat} (X : Cx G F W) (h : isM W) (K : isSr W ks) (C : SrC o ks p0 s) (hl : s.length ≤ 8192) (hp : p ≤ s.length) : m7 W S o u β acc (P_X13_number G F (W.ad (.o 13 0)) (mem W (MA S o (Int32.ofNat p) (-1) u β acc))) (nmR s p) := by
  unfold P_X13_number nmR nmA
  rw [ma_at h, bO_s, ma_lo h, bO_s, QM_at h K C (by omega) hl, bP_s]
  simp only [pe45]
  by_cases h1 : cd s p = 45
  · have hi := cd_in (s := s) (p := p) (by omega)
    rw [if_pos h1, if_pos h1]
    exact QM_num19 X h K C hl (by omega) (n_i1 p)
  · rw [if_neg h1, if_neg h1]
    exact QM_num19 X h K C hl hp (n_add p 0)
/-! four digits -/
theorem hexOf_p {p : Nat} {M : mM} : P_X13_hexOf G F (pB s p) M = some (hv (cd s p), M) := by
  have hl := cd_lt s p
  unfold P_X13_hexOf
  rw [QM_isDg, bP_s]
  unfold B_X13_hexOf_33
  simp only [pl97, pg102, pl65, pg70]
  have hp : ∀ k, 0 < k → k ≤ cd s p → pB s p - (Int32.ofNat k) = (Int32.ofNat (cd s p - k)) := fun k h0 hk => by rw [pB_pos (by omega), n_sub hk]
  have h48 := hp 48 (by omega)
  have h87 := hp 87 (by omega)
  have h55 := hp 55 (by omega)
  unfold hv hxV isDg
  by_cases c1 : 48 ≤ cd s p ∧ cd s p ≤ 57
  · rw [decide_eq_true c1.1, decide_eq_true c1.2, if_neg (by decide), if_pos c1, if_neg (by omega)]
    exact congrArg (fun x => some (x, M)) (h48 c1.1)
  · have e : (decide (48 ≤ cd s p) && decide (cd s p ≤ 57)) = false := by
      rw [Bool.and_eq_false_iff, decide_eq_false_iff_not, decide_eq_false_iff_not]
      omega
    rw [e, if_pos (by rfl), if_neg c1]
    by_cases c2 : 97 ≤ cd s p ∧ cd s p ≤ 102
    · rw [if_neg (show ¬ cd s p < 97 by omega), if_neg (show ¬ 102 < cd s p by omega), if_pos c2, if_neg (by omega)]
      exact congrArg (fun x => some (x, M)) (h87 (by omega))
    · rw [if_neg c2]
      have fin : (if cd s p < 65 then some ((-1 : Int32), M) else if 70 < cd s p then some ((-1 : Int32), M) else some (pB s p - 55, M)) = some (if (if 65 ≤ cd s p ∧ cd s p ≤ 70 then cd s p - 55 else 16) = 16 then -1 else (Int32.ofNat (if 65 ≤ cd s p ∧ cd s p ≤ 70 then cd s p - 55 else 16)), M) := by
        by_cases c3 : 65 ≤ cd s p ∧ cd s p ≤ 70
        · rw [if_neg (show ¬ cd s p < 65 by omega), if_neg (show ¬ 70 < cd s p by omega), if_pos c3, if_neg (by omega)]
          exact congrArg (fun x => some (x, M)) (h55 (by omega))
        · rw [if_neg c3, if_pos rfl]
          by_cases c4 : cd s p < 65
          · rw [if_pos c4]
          · rw [if_neg c4, if_pos (by omega)]
      by_cases c5 : cd s p < 97
      · rw [if_pos c5]
        exact fin
      · rw [if_neg c5, if_pos (by omega)]
        exact fin
theorem QM_four_in {low : Bool} {k v x : Nat} {M : mM} {A : Nat} {r4 : Nat → Int32 → Int32 → Int32 → mM → Option (Int32 × mM)} (hk : k < 4) (hv : v < 4096) (hx : x < 16) : (if (Int32.ofNat x) < (0 : Int32) then (B_X13_four_84 G F r4 A (if low then 1 else 0) (Int32.ofNat v) (Int32.ofNat k) (Int32.ofNat x) (1 : Int32) M)
  else (if (if low then (1 : Int32) else 0) = 0 then (B_X13_four_57 G F r4 A (if low then 1 else 0) (Int32.ofNat v) (Int32.ofNat k) (Int32.ofNat x) M)
  else (if (Int32.ofNat k) = (0 : Int32) then (if (Int32.ofNat x) = (13 : Int32) then (if (Int32.ofNat k) = (1 : Int32) then (if (Int32.ofNat x) < (12 : Int32) then (B_X13_four_84 G F r4 A (if low then 1 else 0) (Int32.ofNat v) (Int32.ofNat k) (Int32.ofNat x) (1 : Int32) M)
  else (B_X13_four_57 G F r4 A (if low then 1 else 0) (Int32.ofNat v) (Int32.ofNat k) (Int32.ofNat x) M))
  else (B_X13_four_57 G F r4 A (if low then 1 else 0) (Int32.ofNat v) (Int32.ofNat k) (Int32.ofNat x) M))
  else (B_X13_four_84 G F r4 A (if low then 1 else 0) (Int32.ofNat v) (Int32.ofNat k) (Int32.ofNat x) (1 : Int32) M))
  else (if (Int32.ofNat k) = (1 : Int32) then (if (Int32.ofNat x) < (12 : Int32) then (B_X13_four_84 G F r4 A (if low then 1 else 0) (Int32.ofNat v) (Int32.ofNat k) (Int32.ofNat x) (1 : Int32) M)
  else (B_X13_four_57 G F r4 A (if low then 1 else 0) (Int32.ofNat v) (Int32.ofNat k) (Int32.ofNat x) M))
  else (B_X13_four_57 G F r4 A (if low then 1 else 0) (Int32.ofNat v) (Int32.ofNat k) (Int32.ofNat x) M))))) = B_X13_four_84 G F r4 A (if low then 1 else 0) (Int32.ofNat v) (Int32.ofNat k) (Int32.ofNat x) (if f4B low k v x = true then 1 else 0) M := by
  have ek0 : ((Int32.ofNat k) = (0 : Int32)) = (k = 0) := propext (n_eq (b := 0) (by omega) (by omega))
  have ek1 : ((Int32.ofNat k) = (1 : Int32)) = (k = 1) := propext (n_eq (b := 1) (by omega) (by omega))
  have ev : ((Int32.ofNat v) = (13 : Int32)) = (v = 13) := propext (n_eq (b := 13) (by omega) (by omega))
  have ex13 : ((Int32.ofNat x) = (13 : Int32)) = (x = 13) := propext (n_eq (b := 13) (by omega) (by omega))
  have ex12 : ((Int32.ofNat x) < (12 : Int32)) = (x < 12) := propext (n_lt (b := 12) (by omega) (by omega))
  have ex0 : ((Int32.ofNat x) < (0 : Int32)) = False := propext ⟨fun q => absurd ((n_lt (b := 0) (by omega) (by omega)).mp q) (by omega), False.elim⟩
  unfold B_X13_four_57
  simp only [ek0, ek1, ev, ex13, ex12, ex0, if_false]
  unfold f4B
  rw [decide_eq_false (show ¬ x = 16 by omega)]
  cases low with
  | false =>
    simp only [Bool.false_eq_true, if_false, if_true, Bool.false_and, Bool.false_or, Bool.not_false, Bool.true_and]
    by_cases h1 : k = 1
    · by_cases h2 : v = 13
      · by_cases h3 : x < 12
        · simp [h1, h2, h3, Nat.not_le.mpr h3]
        · simp [h1, h2, h3, Nat.not_lt.mp h3]
      · simp [h2]
    · simp [h1]
  | true =>
    by_cases h0 : k = 0
    · subst h0
      by_cases h2 : x = 13
      · simp [h2]
      · simp [h2]
    · by_cases h1 : k = 1
      · subst h1
        by_cases h3 : x < 12
        · simp [h3]
        · simp [h3]
      · simp [h0, h1]
theorem QM_four_l {low : Bool} (h : isM W) (K : isSr W ks) (C : SrC o ks p0 s) (hl : s.length ≤ 8192) : ∀ (m k v p fuel : Nat), m + 1 < fuel → k + m = 4 → p ≤ s.length → v < 16 ^ k → m7f W S o u β acc (B_X13_four_4 G F fuel (W.ad (.o 13 0)) (if low then 1 else 0) (Int32.ofNat v) (Int32.ofNat k) (mem W (MA S o (Int32.ofNat p) (-1) u β acc))) (f4 s low m k v p) := by
  intro m
  induction m with
  | zero =>
    intro k v p fuel hf hk hp hvl
    obtain ⟨fuel, rfl⟩ : ∃ q, fuel = q + 1 := ⟨fuel - 1, by omega⟩
    rw [B_X13_four_4, if_pos (show (4 : Int32) ≤ (Int32.ofNat k) from (n_le (a := 4) (by omega) (by omega)).mpr (by omega))]
    exact rfl
  | succ m ih =>
    intro k v p fuel hf hk hp hvl
    obtain ⟨fuel, rfl⟩ : ∃ q, fuel = q + 1 + 1 := ⟨fuel - 2, by omega⟩
    have h16 : v < 4096 := Nat.lt_of_lt_of_le hvl (Nat.le_trans (Nat.pow_le_pow_right (by decide) (show k ≤ 3 by omega)) (by decide))
    have hx := hxV_lt (cd s p)
    have bad : ∀ (x : Int32), m7f W S o u β acc (B_X13_four_84 G F (B_X13_four_4 G F (fuel + 1)) (W.ad (.o 13 0)) (if low then 1 else 0) (Int32.ofNat v) (Int32.ofNat k) x 1 (mem W (MA S o (Int32.ofNat p) (-1) u β acc))) (.inl p) := by
      intro x
      unfold B_X13_four_84
      rw [if_neg (by decide), ma_at h, bO_s, ma_lo h, bO_s, QM_fail h, bO_s, n_i1, B_X13_four_4]
      by_cases h4 : 4 ≤ k + 1
      · rw [if_pos (show (4 : Int32) ≤ (Int32.ofNat (k + 1)) from (n_le (a := 4) (by omega) (by omega)).mpr h4)]
        exact ⟨_, _, rfl⟩
      · rw [if_neg (show ¬ (4 : Int32) ≤ (Int32.ofNat (k + 1)) from fun q => h4 ((n_le (a := 4) (by omega) (by omega)).mp q)), ma_lo h, bO_s, QM_good0 h (by omega), bP_s, if_pos rfl]
        exact ⟨_, _, rfl⟩
    rw [B_X13_four_4, if_neg (show ¬ (4 : Int32) ≤ (Int32.ofNat k) from fun q => absurd ((n_le (a := 4) (by omega) (by omega)).mp q) (by omega)), ma_lo h, bO_s, QM_good1 h, bP_s, if_neg (by decide), ma_lo h, bO_s, QM_at h K C (by omega) hl, bP_s, hexOf_p, bP_s]
    show m7f _ _ _ _ _ _ _ (if f4B low k v (hxV (cd s p)) = true then .inl p else f4 s low m (k + 1) (16 * v + hxV (cd s p)) (p + 1))
    by_cases h6 : hxV (cd s p) = 16
    · have fb : f4B low k v (hxV (cd s p)) = true := by unfold f4B; rw [decide_eq_true h6]; rfl
      rw [if_pos fb, show hv (cd s p) = -1 from if_pos h6, if_pos (by decide)]
      exact bad _
    · rw [hv_lt (by omega), QM_four_in (by omega) h16 (by omega)]
      by_cases hb : f4B low k v (hxV (cd s p)) = true
      · rw [if_pos hb, if_pos hb]
        exact bad _
      · have hi := cd_in (s := s) (p := p) (fun e => h6 (by rw [e]; rfl))
        rw [if_neg hb, if_neg hb]
        unfold B_X13_four_84
        rw [if_pos rfl, ma_at h, bO_s, n_i1, ma_st h, bO_s, show (16 : Int32) * (Int32.ofNat v) + (Int32.ofNat (hxV (cd s p))) = (Int32.ofNat (16 * v + hxV (cd s p))) by rw [show (16 : Int32) = (Int32.ofNat 16) from rfl, n_mul, n_add], n_i1]
        exact ih (k + 1) _ (p + 1) (fuel + 1) (by omega) (by omega) (by omega) (by rw [Nat.pow_succ]; omega)
theorem QM_four {low : Bool} {p : Nat} {x : Int32} (X : Cx G F W) (h : isM W) (K : isSr W ks) (C : SrC o ks p0 s) (hl : s.length ≤ 8192) (hp : p ≤ s.length) (hx : x = if low then 1 else 0) : m7f W S o u β acc (P_X13_four G F (W.ad (.o 13 0)) x (mem W (MA S o (Int32.ofNat p) (-1) u β acc))) (f4 s low 4 0 0 p) := by
  rw [hx]
  exact QM_four_l h K C hl 4 0 0 p F (by have := X.hF; omega) (by omega) hp (by decide)
theorem QM_sign8 {x p : Int32} (h : isM W) (hl : u + acc.length + (u8 x).length ≤ 16400) : P_X13_sign8 G F (W.ad (.o 13 0)) x (mem W (MA S o p fl u β acc)) = some (mem W (MA S o p fl u β (acc ++ u8 x))) := by
  unfold P_X13_sign8
  unfold u8 at hl ⊢
  by_cases h1 : (128 : Int32) ≤ x
  · rw [if_pos h1] at hl ⊢
    rw [if_pos h1]
    by_cases h2 : (2048 : Int32) ≤ x
    · rw [if_pos h2] at hl ⊢
      rw [if_pos h2]
      by_cases h3 : (65536 : Int32) ≤ x
      · rw [if_pos h3] at hl ⊢
        rw [if_pos h3]
        simp only [List.length_cons, List.length_nil] at hl
        rw [ma_lo h, bO_s, QM_keep8 h (by omega), bO_s, ma_lo h, bO_s, QM_keep8 h (by simp; omega), bO_s, ma_lo h, bO_s, QM_keep8 h (by simp; omega), bO_s, ma_lo h, bO_s, QM_keep8 h (by simp; omega), bO_s]
        simp only [List.append_assoc, List.cons_append, List.nil_append]
      · rw [if_neg h3] at hl ⊢
        rw [if_neg h3]
        simp only [List.length_cons, List.length_nil] at hl
        rw [ma_lo h, bO_s, QM_keep8 h (by omega), bO_s, ma_lo h, bO_s, QM_keep8 h (by simp; omega), bO_s, ma_lo h, bO_s, QM_keep8 h (by simp; omega), bO_s]
        simp only [List.append_assoc, List.cons_append, List.nil_append]
    · rw [if_neg h2] at hl ⊢
      rw [if_neg h2]
      simp only [List.length_cons, List.length_nil] at hl
      rw [ma_lo h, bO_s, QM_keep8 h (by omega), bO_s, ma_lo h, bO_s, QM_keep8 h (by simp; omega), bO_s]
      simp only [List.append_assoc, List.cons_append, List.nil_append]
  · rw [if_neg h1] at hl ⊢
    rw [if_neg h1]
    simp only [List.length_cons, List.length_nil] at hl
    rw [ma_lo h, bO_s, QM_keep8 h (by omega), bO_s]
/-! the JDK's indexOf -/
theorem QJ_ix_l {j v : Nat} {c : Int32} {M : mM} (hv : ∀ k, k < (mbyt.getD j []).length → aI G M 1 v (Int32.ofNat k) = some ((mbyt.getD j []).getD k 0)) (hn : (mbyt.getD j []).length < 1000) : ∀ (m k fuel : Nat), m < fuel → k + m = (mbyt.getD j []).length → B_J1_indexOfChar_4cfef_7 G F fuel v (Int32.ofNat (mbyt.getD j []).length) c (Int32.ofNat k) M = some (ixI ((mbyt.getD j []).drop k) c k, M) := by
  intro m
  induction m with
  | zero =>
    intro k fuel hf hk
    obtain ⟨fuel, rfl⟩ : ∃ q, fuel = q + 1 := ⟨fuel - 1, by omega⟩
    rw [B_J1_indexOfChar_4cfef_7, if_pos ((n_le (by omega) (by omega)).mpr (by omega)), List.drop_of_length_le (by omega)]
    rfl
  | succ m ih =>
    intro k fuel hf hk
    obtain ⟨fuel, rfl⟩ : ∃ q, fuel = q + 1 := ⟨fuel - 1, by omega⟩
    have hkl : k < (mbyt.getD j []).length := by omega
    rw [B_J1_indexOfChar_4cfef_7, if_neg (fun q => absurd ((n_le (by omega) (by omega)).mp q) (by omega)), hv k hkl, bO_s, n_i1, ih (k + 1) fuel (by omega) (by omega), List.drop_eq_getElem_cons hkl]
    have e : (mbyt.getD j []).getD k 0 = (mbyt.getD j [])[k] := by
      rw [List.getD_eq_getElem?_getD, List.getElem?_eq_getElem hkl]
      rfl
    rw [e]
    show _ = some (if (mbyt.getD j [])[k] = c then (Int32.ofNat k) else ixI ((mbyt.getD j []).drop (k + 1)) c (k + 1), M)
    split <;> rfl
theorem QJ_indexOf {j n : Nat} (X : Cx G F W) (hj : j < 124) (hn : n < 256) (h0 : 0 < (mbyt.getD j []).length) : P_J0_indexOf_0f7a4 G F (G.1 j) (Int32.ofNat n) (mem W S) = some (ixI (mbyt.getD j []) (((Int32.ofNat n)).toInt8.toInt32) 0, mem W S) := by
  obtain ⟨h1, v, h2, h3, h4⟩ := X.ro.1.1 j hj
  have h5 := mby_len j hj
  have hF := X.hF
  have e1 : sVl G (G.1 j) = some v := by simp [sVl, h3]
  have e2 : sCo G (G.1 j) = some 0 := by simp [sCo, h3]
  have e3 : rcs G (G.1 j) = some () := by simp [rcs, h3]
  have e4 : aln G (mem W S) v = some (Int32.ofNat (mbyt.getD j []).length) := by
    unfold aln
    rw [mem_lo h2]
    simp [X.ro.2 j v hj h3]
  have e8 : ∀ k, k < (mbyt.getD j []).length → aI G (mem W S) 1 v (Int32.ofNat k) = some ((mbyt.getD j []).getD k 0) := by
    intro k hk
    unfold aI
    rw [mem_lo h2]
    simp only [Nat.one_ne_zero, if_false, if_true, h4]
    rw [if_pos (inB_n hk (by omega)), n_at (by omega)]
  have l1 : P_J0_isLatin1_aae02 G F (G.1 j) (mem W S) = some (1, mem W S) := by
    unfold P_J0_isLatin1_aae02
    rw [if_neg (by decide), e2, bO_s, if_pos rfl]
    rfl
  have l2 : P_J1_canEncode_9a6ad G F (Int32.ofNat n) (mem W S) = some (1, mem W S) := by
    unfold P_J1_canEncode_9a6ad
    rw [if_neg (show ¬ (Int32.ofNat n) < (0 : Int32) from nn (by omega)), if_neg (show ¬ (255 : Int32) < (Int32.ofNat n) from fun q => absurd ((n_lt (a := 255) (by omega) (by omega)).mp q) (by omega))]
    rfl
  unfold P_J0_indexOf_0f7a4 P_J0_indexOf_7cf53
  rw [e3, bO_s, bO_s, l1, bP_s, if_neg (by decide), e1, bO_s, bO_s, QJ_length X hj, bP_s]
  unfold P_J1_indexOf_4cfef
  have m0 : (if (0 : Int32) < (0 : Int32) then (0 : Int32) else 0) = (Int32.ofNat 0) := by decide
  rw [l2, bP_s, if_neg (by decide), e4, bO_s, m0, if_neg (show ¬ (Int32.ofNat (mbyt.getD j []).length) < (Int32.ofNat (mbyt.getD j []).length) from Int32.lt_irrefl), if_pos ((n_lt (by omega) (by omega)).mpr h0)]
  unfold P_J1_indexOfChar_4cfef
  rw [QJ_ix_l e8 (by omega) (mbyt.getD j []).length 0 F (by omega) (by omega)]
  rfl
end MST
