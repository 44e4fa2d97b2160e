/-! A STRING'S WRITTEN FORM IS NO LONGER THAN WHAT IT WAS READ FROM -/
theorem lo8_or (a b : Int32) : lo8 (a ||| b) = lo8 a ||| lo8 b := by
  apply UInt8.toBitVec_inj.mp
  rw [UInt8.toBitVec_or]
  show (a ||| b).toBitVec.setWidth 8 = a.toBitVec.setWidth 8 ||| b.toBitVec.setWidth 8
  rw [Int32.toBitVec_or, BitVec.setWidth_or]
theorem or_128 : ∀ n, n < 256 → ∀ c ∈ [128, 192, 224, 240], 128 ≤ ((UInt8.ofNat c) ||| UInt8.ofNat n).toNat := by decide +kernel
theorem hi_of {c : Int32} {y : Int32} (k : Nat) (hk : k ∈ [128, 192, 224, 240]) (hc : lo8 c = UInt8.ofNat k) : 128 ≤ (lo8 (c ||| y)).toNat := by
  rw [lo8_or, hc]
  have := or_128 (lo8 y).toNat (lo8 y).toNat_lt k hk
  rwa [UInt8.ofNat_toNat] at this
theorem esc_hi {c : UInt8} (h : 128 ≤ c.toNat) : escF c = [c] := by
  have t : ∀ n, n < 256 → 128 ≤ n → escF (UInt8.ofNat n) = [UInt8.ofNat n] := by decide +kernel
  have := t c.toNat c.toNat_lt h
  rwa [UInt8.ofNat_toNat] at this
theorem fm_hi : ∀ {bs : List UInt8}, (∀ c ∈ bs, 128 ≤ c.toNat) → (bs.flatMap escF).length = bs.length
  | [], _ => rfl
  | c :: bs, h => by
    rw [List.flatMap_cons, List.length_append, esc_hi (h c (by simp)), fm_hi (fun d hd => h d (by simp [hd]))]
    simp
    omega
theorem u8_hi {x : Int32} (h : (128 : Int32) ≤ x) : ∀ c ∈ u8 x, 128 ≤ c.toNat := by
  have a8 : ∀ y : Int32, 128 ≤ (lo8 (128 ||| y)).toNat := fun y => hi_of 128 (by simp) rfl
  have a12 : ∀ y : Int32, 128 ≤ (lo8 (192 ||| y)).toNat := fun y => hi_of 192 (by simp) rfl
  have a14 : ∀ y : Int32, 128 ≤ (lo8 (224 ||| y)).toNat := fun y => hi_of 224 (by simp) rfl
  have a15 : ∀ y : Int32, 128 ≤ (lo8 (240 ||| y)).toNat := fun y => hi_of 240 (by simp) rfl
  unfold u8
  rw [if_pos h]
  intro c hc
  split at hc
  · split at hc
    · simp only [List.mem_cons, List.not_mem_nil, or_false] at hc
      rcases hc with rfl | rfl | rfl | rfl
      · exact a15 _
      · exact a8 _
      · exact a8 _
      · exact a8 _
    · simp only [List.mem_cons, List.not_mem_nil, or_false] at hc
      rcases hc with rfl | rfl | rfl
      · exact a14 _
      · exact a8 _
      · exact a8 _
  · simp only [List.mem_cons, List.not_mem_nil, or_false] at hc
    rcases hc with rfl | rfl
    · exact a12 _
    · exact a8 _
theorem u8_fm (x : Int32) : ((u8 x).flatMap escF).length ≤ 6 := by
  by_cases h : (128 : Int32) ≤ x
  · rw [fm_hi (u8_hi h)]
    have := u8_len4 x
    omega
  · have e : u8 x = [lo8 x] := by unfold u8; rw [if_neg h]
    rw [e, List.flatMap_cons, List.flatMap_nil, List.append_nil]
    exact escF_len _
theorem shE_fm (n : Nat) (h : shE n < 128) : ((u8 (Int32.ofNat (shE n))).flatMap escF).length ≤ 2 := by
  have t : ∀ m ∈ [34, 47, 92, 8, 12, 10, 13, 9], (escF (lo8 (Int32.ofNat m))).length ≤ 2 := by decide +kernel
  rw [u8_len1 h, List.flatMap_cons, List.flatMap_nil, List.append_nil]
  apply t
  unfold shE at h ⊢
  repeat' split
  all_goals first | decide | (rename_i a b c d e f g i; simp_all)
theorem es_fit {s : List UInt8} {p q : Nat} {x : Int32} (hp : p ≤ s.length) (h : esR s p = .inr (x, q)) : ((u8 x).flatMap escF).length ≤ q - p + 1 := by
  have fm := u8_fm x
  unfold esR at h
  split at h
  · rename_i hc
    have hi := cd_in (s := s) (p := p) (by omega)
    unfold esU at h
    cases h1 : f4 s false 4 0 0 (p + 1) with
    | inl y => rw [h1] at h; exact absurd h (by simp [sB])
    | inr r =>
      rw [h1] at h
      obtain ⟨u, r⟩ := r
      have k1 := f4_ok (by omega) h1
      have h : (if u < 55296 ∨ 56319 < u then .inr ((Int32.ofNat u), r) else sB (wdR s [92, 117] r) fun q => sB (f4 s true 4 0 0 q) fun t => .inr (srgF u t.1, t.2)) = Sum.inr (x, q) := h
      split at h
      · have e2 := congrArg Prod.snd (Sum.inr.inj h)
        simp only at e2
        omega
      · cases h2 : wdR s [92, 117] r with
        | inl y => rw [h2] at h; exact absurd h (by simp [sB])
        | inr r2 =>
          rw [h2] at h
          have k2 := wdR_ok (by decide) k1.2.2 h2
          have h : (sB (f4 s true 4 0 0 r2) fun t => Sum.inr (srgF u t.1, t.2)) = Sum.inr (x, q) := h
          cases h3 : f4 s true 4 0 0 r2 with
          | inl y => rw [h3] at h; exact absurd h (by simp [sB])
          | inr t =>
            rw [h3] at h
            obtain ⟨v, t⟩ := t
            have k3 := f4_ok k2.2 h3
            have e2 := congrArg Prod.snd (Sum.inr.inj h)
            simp only at e2
            simp only [List.length_cons, List.length_nil] at k2
            omega
  · split at h
    · exact absurd h (by simp)
    · rename_i h1 h2
      have e1 := congrArg Prod.fst (Sum.inr.inj h)
      have e2 := congrArg Prod.snd (Sum.inr.inj h)
      simp only at e1 e2
      have := shE_fm (cd s p) ((shE_cases (cd s p)).resolve_right h2)
      rw [e1] at this
      omega
theorem wl_hi {s : List UInt8} : ∀ {m lo hi : Nat} {acc bs : List UInt8} {q r : Nat}, 128 ≤ lo → (∀ c ∈ acc, 128 ≤ c.toNat) → wlR s m lo hi acc q = .inr (bs, r) → ∀ c ∈ bs, 128 ≤ c.toNat := by
  intro m
  induction m with
  | zero =>
    intro lo hi acc bs q r hl ha h
    have e1 := congrArg Prod.fst (Sum.inr.inj h)
    simp only at e1
    rw [← e1]
    exact ha
  | succ m ih =>
    intro lo hi acc bs q r hl ha h
    have h : (if cd s q < lo ∨ hi < cd s q then .inl q else wlR s m 128 191 (acc ++ [by8 s q]) (q + 1)) = Sum.inr (bs, r) := h
    split at h
    · exact absurd h (by simp)
    · rename_i hc
      refine ih (by omega) (fun c hc' => ?_) h
      rw [List.mem_append, List.mem_singleton] at hc'
      rcases hc' with q1 | q1
      · exact ha c q1
      · rw [q1]
        have : (by8 s q).toNat = cd s q := rfl
        omega
theorem esc_raw {c : UInt8} (h : 32 ≤ c.toNat) (h1 : c.toNat ≠ 34) (h2 : c.toNat ≠ 92) : (escF c).length = 1 := by
  have t : ∀ n, n < 256 → 32 ≤ n → n ≠ 34 → n ≠ 92 → (escF (UInt8.ofNat n)).length = 1 := by decide +kernel
  have := t c.toNat c.toNat_lt h h1 h2
  rwa [UInt8.ofNat_toNat] at this
theorem ch_fit {s : List UInt8} {p q : Nat} {bs : List UInt8} (h34 : cd s p ≠ 34) (h : chR s p = .inr (bs, q)) : (bs.flatMap escF).length ≤ q - p := by
  have ok := chR_ok h
  unfold chR at h
  split at h
  · exact absurd h (by simp)
  · have hi := cd_in (s := s) (p := p) (by omega)
    split at h
    · cases h1 : esR s (p + 1) with
      | inl y => rw [h1] at h; exact absurd h (by simp [sB])
      | inr r =>
        rw [h1] at h
        obtain ⟨x, r⟩ := r
        have k1 := es_fit (by omega) h1
        have k2 := esR_ok (by omega) h1
        have e1 := congrArg Prod.fst (Sum.inr.inj h)
        have e2 := congrArg Prod.snd (Sum.inr.inj h)
        simp only at e1 e2
        rw [← e1]
        omega
    · split at h
      · have e1 := congrArg Prod.fst (Sum.inr.inj h)
        have e2 := congrArg Prod.snd (Sum.inr.inj h)
        simp only at e1 e2
        rw [← e1, List.flatMap_cons, List.flatMap_nil, List.append_nil, esc_raw (c := by8 s p) (by show 32 ≤ cd s p; omega) h34 (by assumption)]
        omega
      · unfold wiR at h
        split at h
        · exact absurd h (by simp)
        · have lo : 128 ≤ wLo (cd s p) := by
            unfold wLo
            repeat' split
            all_goals omega
          have hb := wl_hi lo (acc := [by8 s p]) (fun c hc => by
            rw [List.mem_singleton] at hc
            rw [hc]
            show 128 ≤ cd s p
            omega) h
          rw [fm_hi hb]
          omega
theorem sl_fit {s : List UInt8} : ∀ {n p : Nat} {acc bs : List UInt8} {q : Nat}, stL s n p acc = .inr (bs, q) → ∃ cs, bs = acc ++ cs ∧ p + (cs.flatMap escF).length < q := by
  intro n
  induction n with
  | zero => exact fun h => absurd h (by simp [stL])
  | succ n ih =>
    intro p acc bs q h
    have h : (if cd s p = 34 then .inr (acc, p + 1) else sB (chR s p) fun r => stL s n r.2 (acc ++ r.1)) = Sum.inr (bs, q) := h
    split at h
    · have e1 := congrArg Prod.fst (Sum.inr.inj h)
      have e2 := congrArg Prod.snd (Sum.inr.inj h)
      simp only at e1 e2
      exact ⟨[], by rw [← e1, List.append_nil], by rw [← e2]; exact Nat.lt_succ_self _⟩
    · rename_i h34
      cases h1 : chR s p with
      | inl y => rw [h1] at h; exact absurd h (by simp [sB])
      | inr r =>
        rw [h1] at h
        obtain ⟨b1, r⟩ := r
        have k1 := ch_fit h34 h1
        have k2 := chR_ok h1
        obtain ⟨cs, e, l⟩ := ih h
        refine ⟨b1 ++ cs, by rw [e, List.append_assoc], ?_⟩
        rw [List.flatMap_append, List.length_append]
        omega
theorem st_fit {s : List UInt8} {p q : Nat} {bs : List UInt8} (h : stR s p = .inr (bs, q)) : p + (strP bs).length ≤ q := by
  obtain ⟨cs, e, l⟩ := sl_fit h
  rw [List.nil_append] at e
  rw [e]
  unfold strP
  rw [List.length_cons, List.length_append]
  show p + ((cs.flatMap escF).length + 1 + 1) ≤ q
  omega
