/-! TEXTS OF VALUES: the model's strings -/
section MSTR
variable {W : WR} {G : mG} {F : Nat} {S : ST} {ks p0 u : Nat} {s acc : List UInt8} {o : Ob} {β : Nat → UInt8} {fl : Int32}
theorem lo8_n8 : ∀ n, n < 256 → lo8 (Int32.ofNat n) = UInt8.ofNat n := by decide +kernel
def esB (r : Nat ⊕ (Int32 × Nat)) : Nat ⊕ (List UInt8 × Nat) := sB r fun y => .inr (u8 y.1, y.2)
theorem esc_good {p : Int32} (h : isM W) {v : Int32} (hl : u + acc.length + (u8 v).length ≤ 16400) : (bO (rcv (mem W (MA S o p (-1) u β acc)) (W.ad (.o 13 0)) 13) fun _ => bP (P_X13_good G F (W.ad (.o 13 0)) (mem W (MA S o p (-1) u β acc))) fun v221 M221 => if v221 = 0 then some M221 else (bO (rcv M221 (W.ad (.o 13 0)) 13) fun _ => bO (P_X13_sign8 G F (W.ad (.o 13 0)) v M221) fun M229 => some M229)) = some (mem W (MA S o p (-1) u β (acc ++ u8 v))) := by
  rw [ma_lo h, bO_s, QM_good1 h, bP_s, if_neg (by decide), ma_lo h, bO_s, QM_sign8 h hl, bO_s]
theorem esc_bad {p : Int32} {q : Nat} (h : isM W) {v : Int32} (hq : q < 2 ^ 31) : (bO (rcv (mem W (MA S o p (Int32.ofNat q) u β acc)) (W.ad (.o 13 0)) 13) fun _ => bP (P_X13_good G F (W.ad (.o 13 0)) (mem W (MA S o p (Int32.ofNat q) u β acc))) fun v221 M221 => if v221 = 0 then some M221 else (bO (rcv M221 (W.ad (.o 13 0)) 13) fun _ => bO (P_X13_sign8 G F (W.ad (.o 13 0)) v M221) fun M229 => some M229)) = some (mem W (MA S o p (Int32.ofNat q) u β acc)) := by
  rw [ma_lo h, bO_s, QM_good0 h hq, bP_s, if_pos rfl]
theorem f4_bad {low : Bool} : ∀ {m k v p q : Nat}, p ≤ s.length → f4 s low m k v p = .inl q → q ≤ s.length := by
  intro m
  induction m with
  | zero => exact fun _ h => absurd h (by simp [f4])
  | succ m ih =>
    intro k v p q hp h
    have h : (if f4B low k v (hxV (cd s p)) = true then .inl p else f4 s low m (k + 1) (16 * v + hxV (cd s p)) (p + 1)) = _ := h
    split at h
    · have := Sum.inl.inj h
      omega
    · rename_i hb
      have hi := cd_in (s := s) (p := p) (fun e => hb (by rw [e]; unfold f4B; rw [decide_eq_true (p := hxV 0 = 16) rfl]; rfl))
      exact ih (by omega) h
theorem srg_m {a b : Nat} : (((65536 : Int32) + (((Int32.ofNat a) - (55296 : Int32)) <<< ((10 : Int32) &&& 31))) + (Int32.ofNat b)) - (56320 : Int32) = srgF a b := by
  unfold srgF
  rw [Int32.sub_eq_add_neg, Int32.add_assoc, ← Int32.sub_eq_add_neg]
theorem QM_escU {p : Nat} (X : Cx G F W) (h : isM W) (K : isSr W ks) (C : SrC o ks p0 s) (hl : s.length ≤ 8192) (hp : p ≤ s.length) (hc : cd s p = 117) (hu : u ≤ 8200 ∧ acc.length ≤ p) : m7s W S o u β acc (B_X13_escape_20 G F (W.ad (.o 13 0)) (Int32.ofNat 117) 8 (mem W (MA S o (Int32.ofNat p) (-1) u β acc))) (esB (esU s (p + 1))) := by
  have hi := cd_in (s := s) (p := p) (by omega)
  unfold B_X13_escape_20
  rw [if_pos (by decide), ma_at h, bO_s, n_i1, ma_st h, bO_s, if_pos (show (Int32.ofNat 117) = (117 : Int32) from rfl), ma_lo h, bO_s]
  unfold esU
  have f := QM_four (G := G) (F := F) (S := S) (u := u) (β := β) (acc := acc) (low := false) (p := p + 1) (x := 0) X h K C hl (by omega) rfl
  cases hf : f4 s false 4 0 0 (p + 1) with
  | inl y =>
    rw [hf] at f
    have hy := f4_bad (by omega) hf
    obtain ⟨v, p', f⟩ := f
    rw [f, bP_s, ma_lo h, bO_s, QM_good0 h (by omega), bP_s, if_pos rfl, esc_bad h (by omega)]
    exact ⟨_, _, rfl, by first | assumption | omega⟩
  | inr r =>
    obtain ⟨a, r⟩ := r
    rw [hf] at f
    have k1 := f4_ok (by omega) hf
    have f : P_X13_four G F (W.ad (.o 13 0)) 0 (mem W (MA S o (Int32.ofNat (p + 1)) (-1) u β acc)) = some ((Int32.ofNat a), mem W (MA S o (Int32.ofNat r) (-1) u β acc)) := f
    rw [f, bP_s, ma_lo h, bO_s, QM_good1 h, bP_s, if_neg (by decide)]
    show m7s _ _ _ _ _ _ _ (esB (if a < 55296 ∨ 56319 < a then .inr ((Int32.ofNat a), r) else sB (wdR s [92, 117] r) fun q => sB (f4 s true 4 0 0 q) fun t => .inr (srgF a t.1, t.2)))
    have u3 := u8_len3 (n := a) (by omega)
    by_cases h2 : a < 55296
    · rw [if_pos (Or.inl h2), if_pos (show (Int32.ofNat a) < (55296 : Int32) from (n_lt (b := 55296) (by omega) (by omega)).mpr h2), esc_good h (by omega)]
      exact rfl
    · rw [if_neg (show ¬ (Int32.ofNat a) < (55296 : Int32) from fun q => h2 ((n_lt (b := 55296) (by omega) (by omega)).mp q))]
      by_cases h3 : 56319 < a
      · rw [if_pos (Or.inr h3), if_pos (show (56319 : Int32) < (Int32.ofNat a) from (n_lt (a := 56319) (by omega) (by omega)).mpr h3), esc_good h (by omega)]
        exact rfl
      · rw [if_neg (show ¬ (a < 55296 ∨ 56319 < a) by omega), if_neg (show ¬ (56319 : Int32) < (Int32.ofNat a) from fun q => h3 ((n_lt (a := 56319) (by omega) (by omega)).mp q)), ma_lo h, bO_s, QM_at h K C (by omega) hl, bP_s]
        simp only [pe92]
        show m7s _ _ _ _ _ _ _ (esB (sB (if cd s r = 92 then (if cd s (r + 1) = 117 then .inr (r + 1 + 1) else .inl (r + 1)) else .inl r) fun q => sB (f4 s true 4 0 0 q) fun t => .inr (srgF a t.1, t.2)))
        by_cases h4 : cd s r = 92
        · have hi4 := cd_in (s := s) (p := r) (by omega)
          rw [if_pos h4, if_pos h4, ma_at h, bO_s, n_i1, ma_st h, bO_s, ma_lo h, bO_s, QM_at h K C (by omega) hl, bP_s]
          simp only [pe117]
          by_cases h5 : cd s (r + 1) = 117
          · have hi5 := cd_in (s := s) (p := r + 1) (by omega)
            rw [if_pos h5, if_pos h5, ma_at h, bO_s, n_i1, ma_st h, bO_s, ma_lo h, bO_s]
            show m7s _ _ _ _ _ _ _ (esB (sB (f4 s true 4 0 0 (r + 1 + 1)) fun t => .inr (srgF a t.1, t.2)))
            have g := QM_four (G := G) (F := F) (S := S) (u := u) (β := β) (acc := acc) (low := true) (p := r + 1 + 1) (x := 1) X h K C hl (by omega) rfl
            cases hg : f4 s true 4 0 0 (r + 1 + 1) with
            | inl y =>
              rw [hg] at g
              have hy := f4_bad (by omega) hg
              obtain ⟨v, p', g⟩ := g
              rw [g, bP_s, esc_bad h (by omega)]
              exact ⟨_, _, rfl, by first | assumption | omega⟩
            | inr t2 =>
              obtain ⟨b, t2⟩ := t2
              rw [hg] at g
              have k3 := f4_ok (by omega) hg
              have g : P_X13_four G F (W.ad (.o 13 0)) 1 (mem W (MA S o (Int32.ofNat (r + 1 + 1)) (-1) u β acc)) = some ((Int32.ofNat b), mem W (MA S o (Int32.ofNat t2) (-1) u β acc)) := g
              have u4 := u8_len4 (srgF a b)
              rw [g, bP_s, srg_m, esc_good h (by omega)]
              exact rfl
          · rw [if_neg h5, if_neg h5, ma_at h, bO_s, ma_lo h, bO_s, QM_fail h, bO_s, esc_bad h (by omega)]
            exact ⟨_, _, rfl, by first | assumption | omega⟩
        · rw [if_neg h4, if_neg h4, ma_at h, bO_s, ma_lo h, bO_s, QM_fail h, bO_s, esc_bad h (by omega)]
          exact ⟨_, _, rfl, by first | assumption | omega⟩
theorem QM_escape {p : Nat} (X : Cx G F W) (h : isM W) (K : isSr W ks) (C : SrC o ks p0 s) (hl : s.length ≤ 8192) (hp : p ≤ s.length) (hu : u ≤ 8200 ∧ acc.length ≤ p) : m7s W S o u β acc (P_X13_escape G F (W.ad (.o 13 0)) (mem W (MA S o (Int32.ofNat p) (-1) u β acc))) (esB (esR s p)) := by
  have hlt := cd_lt s p
  have hrc : rcs G (G.1 78) = some () := by
    obtain ⟨h1, v, h2, h3, h4⟩ := X.ro.1.1 78 (by decide)
    simp [rcs, h3]
  have bad : ∀ x : Int32, m7s W S o u β acc (B_X13_escape_20 G F (W.ad (.o 13 0)) x (-1) (mem W (MA S o (Int32.ofNat p) (-1) u β acc))) (.inl p) := by
    intro x
    unfold B_X13_escape_20
    rw [if_neg (by decide), ma_at h, bO_s, ma_lo h, bO_s, QM_fail h, bO_s]
    exact ⟨_, _, rfl, by first | assumption | omega⟩
  unfold P_X13_escape
  rw [ma_lo h, bO_s, QM_at h K C (by omega) hl, bP_s]
  by_cases hin : p < s.length
  · rw [if_pos (show (0 : Int32) ≤ pB s p by rw [pB_in hin]; exact (n_le (a := 0) (by omega) (by omega)).mpr (by omega)), hrc, bO_s, pB_in hin]
    have ix := QJ_indexOf (G := G) (F := F) (W := W) (S := MA S o (Int32.ofNat p) (-1) u β acc) (j := 78) X (by decide) hlt (by decide)
    rw [esI_ix _ hlt] at ix
    rw [ix, bP_s]
    have short : ∀ (n x : Nat) (k : Int32), cd s p = n → n ≠ 117 → shE n = x → x < 128 → 0 ≤ k → (bO (rcv (mem W (MA S o (Int32.ofNat (p + 1)) (-1) u β acc)) (W.ad (.o 13 0)) 13) fun _ => bO (P_X13_keep8 G F (W.ad (.o 13 0)) (Int32.ofNat x) (mem W (MA S o (Int32.ofNat (p + 1)) (-1) u β acc))) fun M103 => some M103) = some (mem W (MA S o (Int32.ofNat (p + 1)) (-1) u β (acc ++ [lo8 (Int32.ofNat x)]))) := by
      intro n x k _ _ _ _ _
      rw [ma_lo h, bO_s, QM_keep8 h (by omega), bO_s]
    have fin : ∀ (x : Nat), shE (cd s p) = x → x < 128 → cd s p ≠ 117 → m7s W S o u β acc (some (mem W (MA S o (Int32.ofNat (p + 1)) (-1) u β (acc ++ [lo8 (Int32.ofNat x)])))) (esB (esR s p)) := by
      intro x h1 h2 h3
      unfold esR
      rw [if_neg h3, h1, if_neg (by omega)]
      show m7s _ _ _ _ _ _ _ (.inr (u8 (Int32.ofNat x), p + 1))
      rw [u8_len1 h2]
      exact rfl
    by_cases c0 : cd s p = 117
    · rw [c0]
      unfold esR
      rw [if_pos c0]
      exact QM_escU X h K C hl hp c0 hu
    · unfold B_X13_escape_20
      rw [ma_at h, bO_s, n_i1, ma_st h, bO_s, if_neg (show ¬ (Int32.ofNat (cd s p)) = (117 : Int32) from fun q => c0 ((n_eq (b := 117) (by omega) (by omega)).mp q))]
      by_cases c1 : cd s p = 34
      · rw [c1, short 34 34 0 c1 (by decide) rfl (by decide) (by decide)]
        exact fin 34 (by rw [c1]; rfl) (by decide) c0
      by_cases c2 : cd s p = 92
      · rw [c2, short 92 92 0 c2 (by decide) rfl (by decide) (by decide)]
        exact fin 92 (by rw [c2]; rfl) (by decide) c0
      by_cases c3 : cd s p = 47
      · rw [c3, short 47 47 0 c3 (by decide) rfl (by decide) (by decide)]
        exact fin 47 (by rw [c3]; rfl) (by decide) c0
      by_cases c4 : cd s p = 98
      · have q := short 98 8 0 c4 (by decide) rfl (by decide) (by decide)
        rw [c4]
        show m7s _ _ _ _ _ _ (bO (rcv (mem W (MA S o (Int32.ofNat (p + 1)) (-1) u β acc)) (W.ad (.o 13 0)) 13) fun _ => bO (P_X13_keep8 G F (W.ad (.o 13 0)) (Int32.ofNat 8) (mem W (MA S o (Int32.ofNat (p + 1)) (-1) u β acc))) fun M103 => some M103) _
        rw [q]
        exact fin 8 (by rw [c4]; rfl) (by decide) c0
      by_cases c5 : cd s p = 102
      · have q := short 102 12 0 c5 (by decide) rfl (by decide) (by decide)
        rw [c5]
        show m7s _ _ _ _ _ _ (bO (rcv (mem W (MA S o (Int32.ofNat (p + 1)) (-1) u β acc)) (W.ad (.o 13 0)) 13) fun _ => bO (P_X13_keep8 G F (W.ad (.o 13 0)) (Int32.ofNat 12) (mem W (MA S o (Int32.ofNat (p + 1)) (-1) u β acc))) fun M103 => some M103) _
        rw [q]
        exact fin 12 (by rw [c5]; rfl) (by decide) c0
      by_cases c6 : cd s p = 110
      · have q := short 110 10 0 c6 (by decide) rfl (by decide) (by decide)
        rw [c6]
        show m7s _ _ _ _ _ _ (bO (rcv (mem W (MA S o (Int32.ofNat (p + 1)) (-1) u β acc)) (W.ad (.o 13 0)) 13) fun _ => bO (P_X13_keep8 G F (W.ad (.o 13 0)) (Int32.ofNat 10) (mem W (MA S o (Int32.ofNat (p + 1)) (-1) u β acc))) fun M103 => some M103) _
        rw [q]
        exact fin 10 (by rw [c6]; rfl) (by decide) c0
      by_cases c7 : cd s p = 114
      · have q := short 114 13 0 c7 (by decide) rfl (by decide) (by decide)
        rw [c7]
        show m7s _ _ _ _ _ _ (bO (rcv (mem W (MA S o (Int32.ofNat (p + 1)) (-1) u β acc)) (W.ad (.o 13 0)) 13) fun _ => bO (P_X13_keep8 G F (W.ad (.o 13 0)) (Int32.ofNat 13) (mem W (MA S o (Int32.ofNat (p + 1)) (-1) u β acc))) fun M103 => some M103) _
        rw [q]
        exact fin 13 (by rw [c7]; rfl) (by decide) c0
      by_cases c8 : cd s p = 116
      · have q := short 116 9 0 c8 (by decide) rfl (by decide) (by decide)
        rw [c8]
        show m7s _ _ _ _ _ _ (bO (rcv (mem W (MA S o (Int32.ofNat (p + 1)) (-1) u β acc)) (W.ad (.o 13 0)) 13) fun _ => bO (P_X13_keep8 G F (W.ad (.o 13 0)) (Int32.ofNat 9) (mem W (MA S o (Int32.ofNat (p + 1)) (-1) u β acc))) fun M103 => some M103) _
        rw [q]
        exact fin 9 (by rw [c8]; rfl) (by decide) c0
      have e1 : esI (cd s p) = -1 := by unfold esI; rw [if_neg c1, if_neg c2, if_neg c3, if_neg c4, if_neg c5, if_neg c6, if_neg c7, if_neg c8, if_neg c0]
      have e2 : shE (cd s p) = 256 := by unfold shE; rw [if_neg c1, if_neg c3, if_neg c2, if_neg c4, if_neg c5, if_neg c6, if_neg c7, if_neg c8]
      have := bad (Int32.ofNat (cd s p))
      unfold B_X13_escape_20 at this
      unfold esR
      rw [if_neg c0, if_pos e2, e1, if_neg (by decide), ma_lo h, bO_s, QM_fail h, bO_s]
      exact ⟨_, _, rfl, by first | assumption | omega⟩
  · have e : cd s p = 0 := by unfold cd; rw [by8_ge (by omega)]; rfl
    rw [pB_ge (by omega), if_neg (by decide)]
    unfold esR
    rw [e]
    exact bad _
theorem QM_wide_l {mw : Nat} (h : isM W) (K : isSr W ks) (C : SrC o ks p0 s) (hl : s.length ≤ 8192) (hmw : mw ≤ 3) : ∀ (m k lo hi : Nat) (bs : List UInt8) (q fuel : Nat), m + 1 < fuel → k + m = mw → 0 < lo → lo < 256 → hi < 256 → q ≤ s.length → u ≤ 8200 ∧ (acc ++ bs).length ≤ q → m7s W S o u β acc (B_X13_wide_148 G F fuel (W.ad (.o 13 0)) (Int32.ofNat mw) (Int32.ofNat lo) (Int32.ofNat hi) (Int32.ofNat k) (mem W (MA S o (Int32.ofNat q) (-1) u β (acc ++ bs)))) (wlR s m lo hi bs q) := by
  intro m
  induction m with
  | zero =>
    intro k lo hi bs q fuel hf hk h1 h2 h3 hq hlen
    obtain ⟨fuel, rfl⟩ : ∃ q, fuel = q + 1 := ⟨fuel - 1, by omega⟩
    rw [B_X13_wide_148, if_pos ((n_le (by omega) (by omega)).mpr (by omega))]
    exact rfl
  | succ m ih =>
    intro k lo hi bs q fuel hf hk h1 h2 h3 hq hlen
    obtain ⟨fuel, rfl⟩ : ∃ q, fuel = q + 1 + 1 := ⟨fuel - 2, by omega⟩
    rw [B_X13_wide_148, if_neg (fun q => absurd ((n_le (by omega) (by omega)).mp q) (by omega)), ma_lo h, bO_s, QM_good1 h, bP_s, if_neg (by decide), ma_lo h, bO_s, QM_at h K C (by omega) hl, bP_s]
    show m7s _ _ _ _ _ _ _ (if cd s q < lo ∨ hi < cd s q then .inl q else wlR s m 128 191 (bs ++ [by8 s q]) (q + 1))
    have bad : m7s W S o u β acc (bO (gfI (mem W (MA S o (Int32.ofNat q) (-1) u β (acc ++ bs))) (W.ad (.o 13 0)) 13 22) fun v182 => bO (rcv (mem W (MA S o (Int32.ofNat q) (-1) u β (acc ++ bs))) (W.ad (.o 13 0)) 13) fun _ => bO (P_X13_fail G F (W.ad (.o 13 0)) v182 (mem W (MA S o (Int32.ofNat q) (-1) u β (acc ++ bs)))) fun M185 => B_X13_wide_148 G F (fuel + 1) (W.ad (.o 13 0)) (Int32.ofNat mw) (128 : Int32) (191 : Int32) ((Int32.ofNat k) + 1) M185) (.inl q) := by
      rw [ma_at h, bO_s, ma_lo h, bO_s, QM_fail h, bO_s, n_i1, B_X13_wide_148]
      by_cases h4 : mw ≤ k + 1
      · rw [if_pos ((n_le (by omega) (by omega)).mpr h4)]
        exact ⟨_, _, rfl, by first | assumption | omega⟩
      · rw [if_neg (fun q => h4 ((n_le (by omega) (by omega)).mp q)), ma_lo h, bO_s, QM_good0 h (by omega), bP_s, if_pos rfl]
        exact ⟨_, _, rfl, by first | assumption | omega⟩
    by_cases c1 : cd s q < lo
    · rw [if_pos (Or.inl c1), if_pos (show pB s q < (Int32.ofNat lo) by rw [ck_lt h1 (by omega)]; exact c1)]
      exact bad
    · rw [if_neg (show ¬ pB s q < (Int32.ofNat lo) by rw [ck_lt h1 (by omega)]; exact c1)]
      by_cases c2 : hi < cd s q
      · rw [if_pos (Or.inr c2), if_neg (show ¬ pB s q ≤ (Int32.ofNat hi) by rw [ck_le (by omega)]; omega)]
        exact bad
      · have hi' := cd_in (s := s) (p := q) (by omega)
        rw [if_neg (show ¬ (cd s q < lo ∨ hi < cd s q) by omega), if_pos (show pB s q ≤ (Int32.ofNat hi) by rw [ck_le (by omega)]; omega), ma_lo h, bO_s, QM_keep8 h (by omega), bO_s, lo8_pB hi', ma_at h, bO_s, n_i1, ma_st h, bO_s, n_i1, List.append_assoc]
        exact ih (k + 1) 128 191 _ (q + 1) (fuel + 1) (by omega) (by omega) (by omega) (by omega) (by omega) (by omega) (by rw [← List.append_assoc, List.length_append (bs := [by8 s q]), List.length_singleton]; omega)
theorem QM_wide {p : Nat} (X : Cx G F W) (h : isM W) (K : isSr W ks) (C : SrC o ks p0 s) (hl : s.length ≤ 8192) (hp : p < s.length) (hu : u ≤ 8200 ∧ acc.length ≤ p) : m7s W S o u β acc (P_X13_wide G F (W.ad (.o 13 0)) (pB s p) (mem W (MA S o (Int32.ofNat p) (-1) u β acc))) (wiR s p) := by
  have hF := X.hF
  have e1 : ∀ M, P_X13_wide G F (W.ad (.o 13 0)) (pB s p) M = B_X13_wide_55 G F (W.ad (.o 13 0)) (pB s p) (Int32.ofNat (wMo (cd s p))) M := by
    intro M
    unfold P_X13_wide B_X13_wide_36 wMo
    simp only [pl194, pl224, pg239, pg223, pl240, pg244]
    repeat' split
    all_goals first | rfl | (exfalso; omega)
  have e2 : ∀ lo M, B_X13_wide_113 G F (W.ad (.o 13 0)) (pB s p) (Int32.ofNat (wMo (cd s p))) lo M = B_X13_wide_148 G F F (W.ad (.o 13 0)) (Int32.ofNat (wMo (cd s p))) lo (Int32.ofNat (wHi (cd s p))) (0 : Int32) M := by
    intro lo M
    unfold B_X13_wide_113 wHi
    simp only [pe237, pe244]
    repeat' split
    all_goals first | rfl | (exfalso; omega)
  have mw := wMo_le (cd s p)
  rw [e1]
  unfold B_X13_wide_55 wiR
  by_cases h0 : wMo (cd s p) = 0
  · rw [if_pos h0, h0, if_pos (show (Int32.ofNat 0) = (0 : Int32) from rfl), ma_at h, bO_s, ma_lo h, bO_s, QM_fail h, bO_s]
    exact ⟨_, _, rfl, by first | assumption | omega⟩
  · rw [if_neg h0, if_neg (show ¬ (Int32.ofNat (wMo (cd s p))) = 0 from fun q => h0 ((n_eq (b := 0) (by omega) (by omega)).mp q)), ma_lo h, bO_s, QM_keep8 h (by omega), bO_s, lo8_pB hp, ma_at h, bO_s, n_i1, ma_st h, bO_s]
    have e3 : ∀ M, (if pB s p = (224 : Int32) then B_X13_wide_113 G F (W.ad (.o 13 0)) (pB s p) (Int32.ofNat (wMo (cd s p))) (160 : Int32) M else if pB s p = (240 : Int32) then B_X13_wide_113 G F (W.ad (.o 13 0)) (pB s p) (Int32.ofNat (wMo (cd s p))) (144 : Int32) M else B_X13_wide_113 G F (W.ad (.o 13 0)) (pB s p) (Int32.ofNat (wMo (cd s p))) (128 : Int32) M) = B_X13_wide_148 G F F (W.ad (.o 13 0)) (Int32.ofNat (wMo (cd s p))) (Int32.ofNat (wLo (cd s p))) (Int32.ofNat (wHi (cd s p))) (0 : Int32) M := by
      intro M
      rw [e2, e2, e2]
      unfold wLo
      simp only [pe224, pe240]
      repeat' split
      all_goals first | rfl | (exfalso; omega)
    rw [e3]
    exact QM_wide_l h K C hl mw _ 0 _ _ _ (p + 1) F (by omega) (by omega) (wLo_pos _).1 (wLo_pos _).2 (wHi_lt _).2 (by omega) (by rw [List.length_append, List.length_singleton]; omega)
theorem QM_strb {p : Int32} {q fuel : Nat} (h : isM W) (hq : q < 2 ^ 31) : ∃ p', B_X13_readString_10 G F (fuel + 1) (W.ad (.o 13 0)) (mem W (MA S o p (Int32.ofNat q) u β acc)) = some (mem W (MA S o p' (Int32.ofNat q) u β acc)) := by
  rw [B_X13_readString_10, ma_lo h, bO_s, QM_good0 h hq, bP_s, if_pos rfl, ma_at h, bO_s, ma_st h, bO_s]
  exact ⟨_, rfl⟩
theorem wlR_bad : ∀ {m lo hi : Nat} {bs : List UInt8} {q r : Nat}, 0 < lo → q ≤ s.length → wlR s m lo hi bs q = .inl r → r ≤ s.length := by
  intro m
  induction m with
  | zero => exact fun _ _ h => absurd h (by simp [wlR])
  | succ m ih =>
    intro lo hi bs q r hlo hq h
    have h : (if cd s q < lo ∨ hi < cd s q then .inl q else wlR s m 128 191 (bs ++ [by8 s q]) (q + 1)) = _ := h
    split at h
    · have := Sum.inl.inj h
      omega
    · have hi := cd_in (s := s) (p := q) (by omega)
      exact ih (by omega) (by omega) h
theorem wdR_bad : ∀ {w : List UInt8} {p q : Nat}, (∀ c ∈ w, c.toNat ≠ 0) → p ≤ s.length → wdR s w p = .inl q → q ≤ s.length := by
  intro w
  induction w with
  | nil => exact fun _ _ h => absurd h (by simp [wdR])
  | cons c w ih =>
    intro p q hw hp h
    have h : (if cd s p = c.toNat then wdR s w (p + 1) else .inl p) = _ := h
    split at h
    · rename_i e
      have hi := cd_in (s := s) (p := p) (by rw [e]; exact hw c (by simp))
      exact ih (fun c hc => hw c (by simp [hc])) (by omega) h
    · have := Sum.inl.inj h
      omega
theorem esR_bad {p q : Nat} (hp : p ≤ s.length) (h : esR s p = .inl q) : q ≤ s.length := by
  unfold esR at h
  split at h
  · have hi := cd_in (s := s) (p := p) (by omega)
    unfold esU at h
    cases h1 : f4 s false 4 0 0 (p + 1) with
    | inl y =>
      rw [h1] at h
      have := Sum.inl.inj (α := Nat) (β := Int32 × Nat) h
      have := f4_bad (by omega) h1
      omega
    | inr r =>
      rw [h1] at h
      obtain ⟨a, r⟩ := r
      have k1 := f4_ok (by omega) h1
      have h : (if a < 55296 ∨ 56319 < a then .inr ((Int32.ofNat a), r) else sB (wdR s [92, 117] r) fun q => sB (f4 s true 4 0 0 q) fun t => .inr (srgF a t.1, t.2)) = Sum.inl q := h
      split at h
      · exact absurd h (by simp)
      · cases h2 : wdR s [92, 117] r with
        | inl y =>
          rw [h2] at h
          have := Sum.inl.inj (α := Nat) (β := Int32 × Nat) h
          have := wdR_bad (by decide) k1.2.2 h2
          omega
        | inr r2 =>
          rw [h2] at h
          have k2 := wdR_ok (by decide) k1.2.2 h2
          have h : (sB (f4 s true 4 0 0 r2) fun t => Sum.inr (srgF a t.1, t.2)) = Sum.inl q := h
          cases h3 : f4 s true 4 0 0 r2 with
          | inl y =>
            rw [h3] at h
            have := Sum.inl.inj (α := Nat) (β := Int32 × Nat) h
            have := f4_bad k2.2 h3
            omega
          | inr t => rw [h3] at h; exact absurd h (by simp [sB])
  · split at h
    · have := Sum.inl.inj h
      omega
    · exact absurd h (by simp)
theorem QM_str_l (X : Cx G F W) (h : isM W) (K : isSr W ks) (C : SrC o ks p0 s) (hl : s.length ≤ 8192) : ∀ (n p fuel : Nat) (bs : List UInt8), n + 1 < fuel → s.length < n + p → p ≤ s.length → u ≤ 8200 ∧ (acc ++ bs).length ≤ p → m7s W S o u β acc (B_X13_readString_10 G F fuel (W.ad (.o 13 0)) (mem W (MA S o (Int32.ofNat p) (-1) u β (acc ++ bs)))) (stL s n p bs) := by
  intro n
  induction n with
  | zero => intro p fuel bs h1 h2 h3; omega
  | succ n ih =>
    intro p fuel bs hf hn hp hlen
    obtain ⟨fuel, rfl⟩ : ∃ q, fuel = q + 1 + 1 := ⟨fuel - 2, by omega⟩
    rw [B_X13_readString_10, ma_lo h, bO_s, QM_good1 h, bP_s, if_neg (by decide), ma_lo h, bO_s, QM_at h K C (by omega) hl, bP_s]
    simp only [pe34]
    show m7s _ _ _ _ _ _ _ (if cd s p = 34 then .inr (bs, p + 1) else sB (chR s p) fun r => stL s n r.2 (bs ++ r.1))
    by_cases c1 : cd s p = 34
    · rw [if_pos c1, if_pos c1, ma_at h, bO_s, n_i1, ma_st h, bO_s]
      exact rfl
    · rw [if_neg c1, if_neg c1, ma_lo h, bO_s, QM_at h K C (by omega) hl, bP_s]
      simp only [ph32, pe92, ph128]
      unfold chR
      by_cases c2 : cd s p < 32
      · rw [if_neg (by omega), if_pos c2, ma_at h, bO_s, ma_lo h, bO_s, QM_fail h, bO_s]
        obtain ⟨p', e⟩ := QM_strb (G := G) (F := F) (S := S) (o := o) (p := (Int32.ofNat p)) (q := p) (fuel := fuel) (u := u) (β := β) (acc := acc ++ bs) h (by omega)
        rw [e]
        exact ⟨_, _, rfl, by first | assumption | omega⟩
      · have hi := cd_in (s := s) (p := p) (by omega)
        rw [if_pos (by omega), if_neg c2]
        by_cases c3 : cd s p = 92
        · rw [if_pos c3, if_pos c3, ma_at h, bO_s, n_i1, ma_st h, bO_s, ma_lo h, bO_s]
          have e := QM_escape (G := G) (F := F) (S := S) (u := u) (β := β) (acc := acc ++ bs) (p := p + 1) X h K C hl (by omega) (by omega)
          cases he : esR s (p + 1) with
          | inl y =>
            rw [he] at e
            have hy := esR_bad (by omega) he
            obtain ⟨p', acc', e, ha⟩ := e
            rw [e, bO_s]
            obtain ⟨p2, e2⟩ := QM_strb (G := G) (F := F) (S := S) (o := o) (p := p') (q := y) (fuel := fuel) (u := u) (β := β) (acc := acc') h (by omega)
            rw [e2]
            exact ⟨_, _, rfl, by first | assumption | omega⟩
          | inr r =>
            obtain ⟨x, r⟩ := r
            rw [he] at e
            have ek := esR_ok (by omega) he
            have e : P_X13_escape G F (W.ad (.o 13 0)) (mem W (MA S o (Int32.ofNat (p + 1)) (-1) u β (acc ++ bs))) = some (mem W (MA S o (Int32.ofNat r) (-1) u β (acc ++ bs ++ u8 x))) := e
            rw [e, bO_s, List.append_assoc]
            exact ih r (fuel + 1) (bs ++ u8 x) (by omega) (by omega) (by omega) (by rw [← List.append_assoc, List.length_append (bs := u8 x)]; omega)
        · rw [if_neg c3, if_neg c3]
          by_cases c4 : cd s p < 128
          · rw [if_neg (by omega), if_pos c4, ma_lo h, bO_s, QM_keep8 h (by omega), bO_s, lo8_pB hi, ma_at h, bO_s, n_i1, ma_st h, bO_s, List.append_assoc]
            exact ih (p + 1) (fuel + 1) (bs ++ [by8 s p]) (by omega) (by omega) (by omega) (by rw [← List.append_assoc, List.length_append (bs := [by8 s p]), List.length_singleton]; omega)
          · rw [if_pos (by omega), if_neg c4, ma_lo h, bO_s]
            have e := QM_wide (G := G) (F := F) (S := S) (u := u) (β := β) (acc := acc ++ bs) (p := p) X h K C hl hi (by omega)
            cases he : wiR s p with
            | inl y =>
              rw [he] at e
              have hy : y ≤ s.length := by
                unfold wiR at he
                split at he
                · have := Sum.inl.inj he
                  omega
                · exact wlR_bad (wLo_pos _).1 (by omega) he
              obtain ⟨p', acc', e, ha⟩ := e
              rw [e, bO_s]
              obtain ⟨p2, e2⟩ := QM_strb (G := G) (F := F) (S := S) (o := o) (p := p') (q := y) (fuel := fuel) (u := u) (β := β) (acc := acc') h (by omega)
              rw [e2]
              exact ⟨_, _, rfl, by first | assumption | omega⟩
            | inr r =>
              obtain ⟨b1, r⟩ := r
              rw [he] at e
              have ck := chR_ok (s := s) (p := p) (q := r) (bs := b1) (by unfold chR; rw [if_neg c2, if_neg c3, if_neg c4]; exact he)
              have e : P_X13_wide G F (W.ad (.o 13 0)) (pB s p) (mem W (MA S o (Int32.ofNat p) (-1) u β (acc ++ bs))) = some (mem W (MA S o (Int32.ofNat r) (-1) u β (acc ++ bs ++ b1))) := e
              rw [e, bO_s, List.append_assoc]
              exact ih r (fuel + 1) (bs ++ b1) (by omega) (by omega) (by omega) (by rw [← List.append_assoc, List.length_append (bs := b1)]; omega)
theorem QM_readString {p : Nat} (X : Cx G F W) (h : isM W) (K : isSr W ks) (C : SrC o ks p0 s) (hl : s.length ≤ 8192) (hp : p < s.length) (hu : u ≤ 8200 ∧ acc.length ≤ p) : m7s W S o u β acc (P_X13_readString G F (W.ad (.o 13 0)) (mem W (MA S o (Int32.ofNat p) (-1) u β acc))) (stR s p) := by
  have hF := X.hF
  unfold P_X13_readString
  rw [ma_at h, bO_s, n_i1, ma_st h, bO_s]
  have := QM_str_l (G := G) (F := F) (S := S) (u := u) (β := β) (acc := acc) X h K C hl (s.length + 1) (p + 1) F [] (by omega) (by omega) (by omega) (by rw [List.append_nil]; omega)
  rw [List.append_nil] at this
  exact this
end MSTR
