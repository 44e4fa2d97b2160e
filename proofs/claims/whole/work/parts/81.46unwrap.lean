/-! KEYS UNWRAPPED: the class; the calls wrap and unwrap of the class -/
section UNWRAP
variable {W : WR} {G : mG} {F : Nat}
theorem n_decL (t : Nat) : (Int32.ofNat t) + (-1) = (Int32.ofNat t) - 1 := by
  rw [Int32.sub_eq_add_neg]
theorem Q1_un_t {ks : Nat → UInt8} {nr p i3 : Nat} {l4 : Int32} (X : Cx G F W) (h : isCi W) (hp : 1 ≤ p) (hp8 : p ≤ 8) : ∀ (t n : Nat) (S : ST) (w : Nat → UInt8), t < n → t ≤ 6 * p → KS S ks nr → IB S → WS S p w → ∃ n' S', B_X1_putUnwrapped_91 G F n (W.ad (.o 1 0)) (W.ad (.o 0 i3)) l4 (Int32.ofNat p) ((Int32.ofNat t) - 1) (mem W S) = B_X1_putUnwrapped_91 G F (n' + 1) (W.ad (.o 1 0)) (W.ad (.o 0 i3)) l4 (Int32.ofNat p) ((Int32.ofNat 0) - 1) (mem W S') ∧ arF LW S S' ∧ WS S' p (uIt ks nr p t w) := by
  have h4 := h.2.2.2.2.1
  have h5 := h.2.2.2.2.2
  intro t
  induction t with
  | zero =>
    intro n S w hn ht hk hI hw
    obtain ⟨n, rfl⟩ : ∃ q, n = q + 1 := ⟨n - 1, by omega⟩
    exact ⟨n, S, rfl, arF.refl _ _, hw⟩
  | succ t ih =>
    intro n S w hn ht hk hI hw
    obtain ⟨n, rfl⟩ : ∃ q, n = q + 1 := ⟨n - 1, by omega⟩
    have htp : t % p < p := Nat.mod_lt _ (by omega)
    have et : (Int32.ofNat (t + 1)) - 1 = (Int32.ofNat t) := n_subL 1 (by omega)
    rw [B_X1_putUnwrapped_91, et, if_neg (nn (by omega)), pmax hp (by omega), n_rem (by omega) (by omega) (by omega), bO_s, cmul8, h4.g h.1 rfl, bO_s, h4.ldl rfl 7 (by decide), bO_s, hw.1 7 (by decide), n_addL t 1, b32_xor _ (show t + 1 < 256 by omega), h4.stl rfl 7 (by decide), bO_s]
    obtain ⟨S1, hS1⟩ : ∃ S1, S1 = S.sa 1 0 4 (upd ((S 1 0).a 4) 7 (b32 (w 7 ^^^ UInt8.ofNat (t + 1)))) := ⟨_, rfl⟩
    have hS1' : S.so 1 0 ((S 1 0).sA 4 (upd ((S 1 0).a 4) 7 (b32 (w 7 ^^^ UInt8.ofNat (t + 1))))) = S1 := hS1.symm
    rw [hS1', h5.g h.1 rfl, bO_s, h4.g h.1 rfl, bO_s]
    have cp1 := cpI_a (G := G) (S := S1) (p := 8 + 8 * (t % p)) (q := 8) (m := 8) h5 rfl h4 rfl (by omega) (by omega)
    have cp1' : cpI G (mem W S1) (W.ad (.a 1 0 5)) (Int32.ofNat (8 + 8 * (t % p))) (W.ad (.a 1 0 4)) 8 8 = _ := cp1
    rw [cp1', bO_s, h4.g h.1 rfl, bO_s, rcv_m h.1, bO_s]
    obtain ⟨S2, hS2⟩ : ∃ S2, S2 = S1.sa 1 0 4 (va_cpy ((S1 1 0).a 5) ((S1 1 0).a 4) (8 + 8 * (t % p)) 8 8) := ⟨_, rfl⟩
    rw [← hS2]
    have a1 : arF LW S S1 := by rw [hS1]; exact arF_sa (by decide)
    have a2 : arF LW S S2 := by rw [hS2]; exact a1.trans (arF_sa (by decide))
    have c2 : CL S2 1 0 4 (m16 fun k => if k < 8 then w k ^^^ (if k = 7 then UInt8.ofNat (t + 1) else 0) else w (wpart p t + (k - 8))) := by
      intro k hk
      rw [hS2, sa_eq, m16_g hk, va_cpy]
      by_cases h8 : k < 8
      · rw [if_neg (by omega), if_pos h8, hS1, sa_eq]
        by_cases h7 : k = 7
        · rw [h7, upd_eq, if_pos rfl]
        · rw [upd_ne h7, if_neg h7, hw.1 k h8, UInt8.xor_zero]
      · rw [if_pos ⟨by omega, by omega⟩, if_neg h8, hS1, sa_ne (by decide), hw.2 _ (by omega) (by omega)]
        rfl
    obtain ⟨S3, g3, a3, c3⟩ := Q1_backward (S := S2) X h (aB4 h) (KS_ar a2 (by decide) hk) (IB_ar a2 (by decide) hI) c2
    obtain ⟨B, hB⟩ : ∃ B, B = bck ks nr (m16 fun k => if k < 8 then w k ^^^ (if k = 7 then UInt8.ofNat (t + 1) else 0) else w (wpart p t + (k - 8))) := ⟨_, rfl⟩
    rw [← hB] at c3
    rw [g3, bO_s, h4.g h.1 rfl, bO_s, h5.g h.1 rfl, bO_s]
    have a3' : arF LW S S3 := a2.trans (a3.mono (by decide))
    have cp2 := cpI_a (G := G) (S := S3) (p := 8) (q := 8 + 8 * (t % p)) (m := 8) h4 rfl h5 rfl (by omega) (by omega)
    have cp2' : cpI G (mem W S3) (W.ad (.a 1 0 4)) 8 (W.ad (.a 1 0 5)) (Int32.ofNat (8 + 8 * (t % p))) 8 = _ := cp2
    rw [cp2', bO_s, n_decL]
    obtain ⟨S4, hS4⟩ : ∃ S4, S4 = S3.sa 1 0 5 (va_cpy ((S3 1 0).a 4) ((S3 1 0).a 5) 8 (8 + 8 * (t % p)) 8) := ⟨_, rfl⟩
    rw [← hS4]
    have a4 : arF LW S S4 := by rw [hS4]; exact a3'.trans (arF_sa (by decide))
    have w4_ : WS S4 p (ust ks nr p t w) := by
      refine ⟨fun j hj => ?_, fun j hj hj2 => ?_⟩
      · rw [hS4, sa_ne (by decide), c3 j (by omega), ust_at hB, if_pos hj, gB_D]
      · rw [hS4, sa_eq, va_cpy, ust_at hB, if_neg (show ¬ j < 8 by omega)]
        by_cases hin : wpart p t ≤ j ∧ j < wpart p t + 8
        · have hin' : 8 + 8 * (t % p) ≤ j ∧ j < 8 + 8 * (t % p) + 8 := hin
          rw [if_pos hin, if_pos hin', c3 _ (by omega), gB_D]
          rfl
        · have hin' : ¬ (8 + 8 * (t % p) ≤ j ∧ j < 8 + 8 * (t % p) + 8) := hin
          rw [if_neg hin, if_neg hin', a3.1 1 0 5 (by decide), hS2, sa_ne (by decide), hS1, sa_ne (by decide)]
          exact hw.2 j hj hj2
    obtain ⟨n', S', g5, a5, w5⟩ := ih n S4 _ (by omega) (by omega) (KS_ar a4 (by decide) hk) (IB_ar a4 (by decide) hI) w4_
    exact ⟨n', S', g5, a4.trans a5, w5⟩
theorem Q1_un_o {i3 room3 N : Nat} {w : Nat → UInt8} (h : isCi W) (hB3 : isB W i3 room3) (hN2 : N ≤ 64) : ∀ (m j n : Nat) (S : ST) (xs : List UInt8) (l : Bool), m < n → j + m = N → (∀ j, j < N → (S 1 0).a 5 (8 + j) = b32 (w j)) → Byt room3 (S 0 i3) xs l → ∃ o, B_X1_putUnwrapped_213 G F n (W.ad (.o 1 0)) (W.ad (.o 0 i3)) (Int32.ofNat N) (Int32.ofNat j) (mem W S) = some (1, mem W (S.so 0 i3 o)) ∧ Byt room3 o (tkl room3 xs ((mapN w N).drop j)) (lsl room3 xs ((mapN w N).drop j) l) := by
  have h5 := h.2.2.2.2.2
  intro m
  induction m with
  | zero =>
    intro j n S xs l hn hj hw hx
    obtain ⟨n, rfl⟩ : ∃ q, n = q + 1 := ⟨n - 1, by omega⟩
    rw [B_X1_putUnwrapped_213, if_pos ((n_le (by omega) (by omega)).mpr (by omega)), retZ1]
    exact ⟨S 0 i3, by rw [so_self], by rw [List.drop_of_length_le (by rw [mapN_len]; omega), tkl_nil hx.le, lsl_nil hx.le]; exact hx⟩
  | succ m ih =>
    intro j n S xs l hn hj hw hx
    obtain ⟨n, rfl⟩ : ∃ q, n = q + 1 := ⟨n - 1, by omega⟩
    rw [B_X1_putUnwrapped_213, if_neg (fun q => absurd ((n_le (by omega) (by omega)).mp q) (by omega)), h5.g h.1 rfl, bO_s, show (8 : Int32) + (Int32.ofNat j) = (Int32.ofNat (8 + j)) from n_add 8 j, h5.ld rfl (by omega), bO_s, rcv_m hB3.lo, bO_s, hw j (by omega)]
    obtain ⟨o, g1, g2⟩ := Q0_put1 (S := S) (x := b32 (w j)) (G := G) (F := F) hB3 hx
    rw [g1, bO_s, n_addL j 1]
    obtain ⟨o2, g3, g4⟩ := ih (j + 1) n (S.so 0 i3 o) _ _ (by omega) (by omega) (fun t ht => by rw [so_ne (by omega)]; exact hw t ht) (by rw [so_eq]; exact g2)
    rw [so_so] at g3
    have el : lo8 (b32 (w j)) = w j := by
      unfold b32
      rw [lo8_n, UInt8.ofNat_toNat]
    rw [tkl_tkl, lsl_lsl, el, show [w j] ++ (mapN w N).drop (j + 1) = (mapN w N).drop j from (mapN_drop w (by omega)).symm] at g4
    exact ⟨o2, g3, g4⟩
/-- the first 8 are looked at -/
theorem Q1_un_c {S : ST} {i3 : Nat} {w : Nat → UInt8} {l4 : Int32} (h : isCi W) (hw : ∀ j, j < 8 → (S 1 0).a 4 j = b32 (w j)) : ∀ (m j n : Nat), m < n → j + m = 8 → (∀ t, t < j → w t = 166) → B_X1_putUnwrapped_178 G F n (W.ad (.o 1 0)) (W.ad (.o 0 i3)) l4 (Int32.ofNat j) (mem W S) = if okA w then (bO (rcv (mem W S) (W.ad (.o 0 i3)) 0) fun _ => bO (P_X0_clear G F (W.ad (.o 0 i3)) (mem W S)) fun M207 => B_X1_putUnwrapped_213 G F F (W.ad (.o 1 0)) (W.ad (.o 0 i3)) l4 (0 : Int32) M207) else some (0, mem W S) := by
  have h4 := h.2.2.2.2.1
  intro m
  induction m with
  | zero =>
    intro j n hn hj hok
    obtain ⟨n, rfl⟩ : ∃ q, n = q + 1 := ⟨n - 1, by omega⟩
    obtain rfl : j = 8 := by omega
    have := (okA_iff w).mpr hok
    rw [B_X1_putUnwrapped_178, if_pos (by decide), this]
    rfl
  | succ m ih =>
    intro j n hn hj hok
    obtain ⟨n, rfl⟩ : ∃ q, n = q + 1 := ⟨n - 1, by omega⟩
    rw [B_X1_putUnwrapped_178, if_neg (by rw [lit 8]; exact fun q => absurd ((n_le (by omega) (by omega)).mp q) (by omega)), h4.g h.1 rfl, bO_s, h4.ld rfl (by omega), bO_s, hw j (by omega), n_addL j 1]
    by_cases hv : w j = 166
    · rw [if_pos (show b32 (w j) = (166 : Int32) by rw [hv]; rfl)]
      exact ih (j + 1) n (by omega) (by omega) (fun t ht => by
        by_cases e : t = j
        · rw [e]; exact hv
        · exact hok t (by omega))
    · rw [if_neg (show ¬ b32 (w j) = (166 : Int32) from fun q => hv (b32_inj q)), retZ0]
      have : okA w = false := by
        cases hq : okA w
        · rfl
        · exact absurd ((okA_iff w).mp hq j (by omega)) hv
      rw [this]
      rfl
theorem Q1_putUnwrapped {S : ST} {i1 i2 i3 room1 room2 room3 : Nat} {key u t : List UInt8} {l1 l2 l3 : Bool} (X : Cx G F W) (h : isCi W) (hB1 : isB W i1 room1) (hB2 : isB W i2 room2) (hB3 : isB W i3 room3) (hkl : key.length = 16 ∨ key.length = 32) (h8 : 8 ≤ u.length) (hm : mayW (u.length - 8) = true) (hr3 : 64 ≤ room3) (hI : IB S) (hb1 : Byt room1 (S 0 i1) key l1) (hb2 : Byt room2 (S 0 i2) u l2) (hb3 : Byt room3 (S 0 i3) t l3) : ∃ S', P_X1_putUnwrapped G F (W.ad (.o 1 0)) (W.ad (.o 0 i1)) (W.ad (.o 0 i2)) (W.ad (.o 0 i3)) (mem W S) = some (if (unwrapF key u).isSome then 1 else 0, mem W S') ∧ fr [(1, 0), (0, i3)] S S' ∧ agr [2] [] [1, 3, 4, 5] [] (S 1 0) (S' 1 0) ∧ match unwrapF key u with | some v => Byt room3 (S' 0 i3) v false | none => S' 0 i3 = S 0 i3 := by
  have hF := X.hF
  have h4 := h.2.2.2.2.1
  have h5 := h.2.2.2.2.2
  have hm' : 16 ≤ u.length - 8 ∧ u.length - 8 ≤ 64 ∧ (u.length - 8) % 8 = 0 := of_decide_eq_true hm
  obtain ⟨p, hp⟩ : ∃ p, u.length = 8 + 8 * p := ⟨(u.length - 8) / 8, by omega⟩
  have hp8 : (u.length - 8) / 8 = p := by omega
  unfold P_X1_putUnwrapped
  rw [hB2.gI 1 rfl, bO_s, hb2.many, n_subL 8 h8, Q1_mayWrap (by omega), bP_s, hm, if_neg (by decide), hB1.gI 1 rfl, bO_s, hb1.many, rcv_m h.1, bO_s]
  obtain ⟨o1, g1, a1, k1⟩ := Q1_become (S := S) (p := 0) (n := key.length) X h hB1 hb1 hkl (by omega) (by omega)
  rw [List.drop_zero, List.take_length] at k1
  have g1' : P_X1_become G F (W.ad (.o 1 0)) (W.ad (.o 0 i1)) 0 (Int32.ofNat key.length) (mem W S) = some (mem W (S.so 1 0 o1)) := g1
  rw [g1', bO_s, show (8 : Int32) = (Int32.ofNat 8) from rfl, n_div (by omega) (by omega), hp8]
  obtain ⟨S1, hS1⟩ : ∃ S1, S1 = S.so 1 0 o1 := ⟨_, rfl⟩
  rw [← hS1] at k1 ⊢
  have o1B : ∀ j, S1 0 j = S 0 j := fun j => by rw [hS1, so_ne (by omega)]
  have hI1 : IB S1 := fun x => by rw [hS1, so_eq, a1.2.2.1 0 (by decide)]; exact hI x
  obtain ⟨n2, S2, e2, a2, c2⟩ := loopS (fun n j S => B_X1_putUnwrapped_39 G F n (W.ad (.o 1 0)) (W.ad (.o 0 i2)) (W.ad (.o 0 i3)) (Int32.ofNat (u.length - 8)) (Int32.ofNat p) (Int32.ofNat j) (mem W S)) (fun j S' => arF LW S1 S' ∧ ∀ t, t < j → (S' 1 0).a 5 t = b32 (u.getD t 0)) u.length (by
    intro n j S2 hj hI
    obtain ⟨i1_, i2_⟩ := hI
    have hb : Byt room2 (S2 0 i2) u l2 := by rw [i1_.ob (c := 0) (i := i2) (by simp), o1B]; exact hb2
    show ∃ S', B_X1_putUnwrapped_39 G F (n + 1) _ _ _ _ _ _ _ = _ ∧ _
    rw [B_X1_putUnwrapped_39, hB2.gI 1 rfl, bO_s, hb.many, if_neg (fun q => absurd ((n_le (by omega) (by omega)).mp q) (by omega)), h5.g h.1 rfl, bO_s, rcv_m hB2.lo, bO_s, Q0_get hB2 hb (by omega), bP_s, h5.sa rfl (by omega), bO_s, n_addL j 1, gB_D]
    refine ⟨_, rfl, i1_.trans (arF_sa (by simp)), fun t ht => ?_⟩
    rw [sa_eq]
    by_cases et : t = j
    · rw [et, upd_eq]
    · rw [upd_ne (by omega)]
      exact i2_ t (by omega)) u.length 0 F S1 (by omega) (by omega) ⟨arF.refl _ _, fun t ht => absurd ht (Nat.not_lt_zero _)⟩
  have e2' : B_X1_putUnwrapped_39 G F F (W.ad (.o 1 0)) (W.ad (.o 0 i2)) (W.ad (.o 0 i3)) (Int32.ofNat (u.length - 8)) (Int32.ofNat p) 0 (mem W S1) = B_X1_putUnwrapped_39 G F (n2 + 1) (W.ad (.o 1 0)) (W.ad (.o 0 i2)) (W.ad (.o 0 i3)) (Int32.ofNat (u.length - 8)) (Int32.ofNat p) (Int32.ofNat u.length) (mem W S2) := e2
  have hb22 : Byt room2 (S2 0 i2) u l2 := by rw [a2.ob (c := 0) (i := i2) (by simp), o1B]; exact hb2
  have cp := cpI_a (G := G) (S := S2) (p := 0) (q := 0) (m := 8) h5 rfl h4 rfl (by omega) (by omega)
  have cp' : cpI G (mem W S2) (W.ad (.a 1 0 5)) 0 (W.ad (.a 1 0 4)) 0 8 = _ := cp
  have h6 : (6 : Int32) * (Int32.ofNat p) = (Int32.ofNat (6 * p)) := n_mul 6 p
  rw [e2', B_X1_putUnwrapped_39, hB2.gI 1 rfl, bO_s, hb22.many, if_pos ((n_le (by omega) (by omega)).mpr (Nat.le_refl _)), h5.g h.1 rfl, bO_s, h4.g h.1 rfl, bO_s, cp', bO_s, h6]
  obtain ⟨S3, hS3⟩ : ∃ S3, S3 = S2.sa 1 0 4 (va_cpy ((S2 1 0).a 5) ((S2 1 0).a 4) 0 0 8) := ⟨_, rfl⟩
  rw [← hS3]
  have a13 : arF LW S1 S3 := by rw [hS3]; exact a2.trans (arF_sa (by decide))
  have ws3 : WS S3 p (fun j => u.getD j 0) := by
    refine ⟨fun j hj => ?_, fun j hj hj2 => ?_⟩
    · rw [hS3, sa_eq, va_cpy, if_pos ⟨by omega, by omega⟩, Nat.zero_add, Nat.sub_zero, c2 j (by omega)]
    · rw [hS3, sa_ne (by decide), c2 j (by omega)]
  obtain ⟨n4, S4, e4, a4, w4_⟩ := Q1_un_t (G := G) (F := F) (i3 := i3) (l4 := (Int32.ofNat (u.length - 8))) X h (show 1 ≤ p by omega) (by omega) (6 * p) F S3 _ (by omega) (by omega) (KS_ar a13 (by decide) k1) (IB_ar a13 (by decide) hI1) ws3
  have a14 := a13.trans a4
  obtain ⟨WW, hWW⟩ : ∃ WW, WW = uIt (ksF (key.length / 4) key) (key.length / 4 + 6) p (6 * p) (fun j => u.getD j 0) := ⟨_, rfl⟩
  rw [← hWW] at w4_
  have euw : uwF key u = WW := by rw [uwF, hp8, hWW]
  have f1 : fr [(1, 0), (0, i3)] S S1 := by rw [hS1]; exact fr_so (by simp)
  have f4 : fr [(1, 0), (0, i3)] S S4 := f1.trans ((a14.fr (L' := [(1, 0)]) (by decide)).mono (by simp))
  have g4 : agr [2] [] [1, 3, 4, 5] [] (S 1 0) (S4 1 0) := by
    have := a14.ag 1 0 [3, 4, 5] (by decide)
    rw [hS1, so_eq] at this
    exact (a1.mono (by decide) (by decide) (by decide) (by decide)).trans (this.mono (by decide) (by decide) (by decide) (by decide))
  have o4B : ∀ j, S4 0 j = S 0 j := fun j => by rw [a14.ob (c := 0) (i := j) (by simp), o1B]
  have chk := Q1_un_c (G := G) (F := F) (S := S4) (i3 := i3) (l4 := (Int32.ofNat (u.length - 8))) h w4_.1 8 0 F (by omega) rfl (fun t ht => absurd ht (Nat.not_lt_zero _))
  have chk' : B_X1_putUnwrapped_178 G F F (W.ad (.o 1 0)) (W.ad (.o 0 i3)) (Int32.ofNat (u.length - 8)) 0 (mem W S4) = _ := chk
  rw [e4, B_X1_putUnwrapped_91, if_pos (by decide), chk']
  unfold unwrapF
  rw [euw]
  cases hok : okA WW with
  | false =>
    exact ⟨S4, rfl, f4, g4, o4B i3⟩
  | true =>
    simp only [if_true]
    obtain ⟨o6, g6, b6⟩ := Q0_clear (G := G) (F := F) (S := S4) hB3 (by rw [o4B]; exact hb3)
    rw [rcv_m hB3.lo, bO_s, g6, bO_s]
    obtain ⟨o7, g7, b7⟩ := Q1_un_o (G := G) (F := F) (w := fun j => WW (8 + j)) (N := u.length - 8) h hB3 (by omega) (u.length - 8) 0 F (S4.so 0 i3 o6) [] false (by omega) (by omega) (fun j hj => by rw [so_ne (by omega)]; exact w4_.2 (8 + j) (by omega) (by omega)) (by rw [so_eq]; exact b6)
    rw [so_so] at g7
    rw [List.drop_zero, tkl_fit (by rw [mapN_len]; simp; omega), lsl_fit (by rw [mapN_len]; simp; omega), List.nil_append] at b7
    exact ⟨_, g7, f4.trans (fr_so (by simp)), by rw [so_ne (by omega)]; exact g4, by rw [so_eq]; exact b7⟩
/-- what wrap and unwrap do to the rows -/
def wrapC (rows : Nat → List UInt8) (x y : Int32) : Option (List UInt8) := if isCK rows x && (isr y && mayW (rows y.toNatClampNeg).length) then some (wrapF (rows x.toNatClampNeg) (rows y.toNatClampNeg)) else none
def unwrapC (rows : Nat → List UInt8) (x y : Int32) : Option (Option (List UInt8)) := if isCK rows x && (isr y && (decide (8 ≤ (rows y.toNatClampNeg).length) && mayW ((rows y.toNatClampNeg).length - 8))) then some (unwrapF (rows x.toNatClampNeg) (rows y.toNatClampNeg)) else none
theorem wrapF_len (key u : List UInt8) : (wrapF key u).length = u.length + 8 := mapN_len _ _
theorem Q11_wrap {S : ST} {rows : Nat → List UInt8} {t : List UInt8} {l : Bool} {x y : Int32} (X : Cx G F W) (h : isT W) (hc : isCi W) (h13 : W.r 11 0 13 = some (.o 1 0)) (hs : Byt 8192 (S 0 9) t l) (hR : ∀ r, r < 8 → ∃ l, Byt 8192 (S 0 r) (rows r) l) : ∃ S', P_X11_wrap G F (W.ad (.o 11 0)) x y (mem W S) = some (match wrapC rows x y with | some u => (Int32.ofNat u.length) | none => -2, mem W S') ∧ fr [(1, 0), (0, 9)] S S' ∧ agr [2] [] [1, 3, 4, 5] [] (S 1 0) (S' 1 0) ∧ match wrapC rows x y with | some u => Byt 8192 (S' 0 9) u false | none => S' = S := by
  unfold P_X11_wrap wrapC
  rw [rcv_m h.lo, bO_s, Q11_isCipherKey h hR, bP_s]
  cases hk : isCK rows x
  · rw [if_pos (by rfl)]
    exact ⟨S, rfl, fr.refl _ _, agr.refl _ _ _ _ _, rfl⟩
  · rw [if_neg (by decide), rcv_m h.lo, bO_s, Q11_isRow, bP_s]
    obtain ⟨rk, hrk, rfl, hkl⟩ := isCK_i hk
    rcases isr_cases y with hy | ⟨r, hr, rfl, hy⟩
    · rw [hy, if_pos (by rfl)]
      exact ⟨S, rfl, fr.refl _ _, agr.refl _ _ _ _ _, rfl⟩
    · obtain ⟨lr, hb⟩ := hR r hr
      obtain ⟨lk, hbk⟩ := hR rk hrk
      have hl := hb.le
      rw [hy, if_neg (by decide), h.gR rfl h.ra, bO_s, h.row hr, bO_s, (h.rb r hr).gI 1 rfl, bO_s, hb.many, n_at (by omega), n_at (by omega), Q1_mayWrap (by omega), bP_s]
      cases hm : mayW (rows r).length
      · rw [if_pos (by rfl)]
        exact ⟨S, rfl, fr.refl _ _, agr.refl _ _ _ _ _, rfl⟩
      · rw [if_neg (by decide), h.gR rfl h13, bO_s, h.gR rfl h.ra, bO_s, h.row hrk, bO_s, bO_s, h.row hr, bO_s, h.gR rfl h.shown, bO_s, rcv_m hc.1, bO_s]
        obtain ⟨S1, g1, f1, a1, b1⟩ := Q1_putWrapped (S := S) (i3 := 9) X hc (h.rb rk hrk) (h.rb r hr) h.sb (by omega) hkl hm (by decide) hbk hb hs
        rw [g1, bO_s, h.gR rfl h.shown, bO_s, h.sb.gI 1 rfl, bO_s, b1.many]
        exact ⟨S1, rfl, f1, a1, b1⟩
theorem neg_may {n : Nat} {M : mM} (hn : n < 8) : P_X1_mayWrap G F ((Int32.ofNat n) - 8) M = some (0, M) := by
  have : ∀ n, n < 8 → (Int32.ofNat n) - 8 < (16 : Int32) := by decide +kernel
  unfold P_X1_mayWrap
  rw [if_pos (this n hn), retZ0]
theorem Q11_unwrap {S : ST} {rows : Nat → List UInt8} {t : List UInt8} {l : Bool} {x y : Int32} (X : Cx G F W) (h : isT W) (hc : isCi W) (h13 : W.r 11 0 13 = some (.o 1 0)) (hI : IB S) (hs : Byt 8192 (S 0 9) t l) (hR : ∀ r, r < 8 → ∃ l, Byt 8192 (S 0 r) (rows r) l) : ∃ S', P_X11_unwrap G F (W.ad (.o 11 0)) x y (mem W S) = some (match unwrapC rows x y with | some (some u) => (Int32.ofNat u.length) | some none => -1 | none => -2, mem W S') ∧ fr [(1, 0), (0, 9)] S S' ∧ agr [2] [] [1, 3, 4, 5] [] (S 1 0) (S' 1 0) ∧ match unwrapC rows x y with | some (some u) => Byt 8192 (S' 0 9) u false | some none => S' 0 9 = S 0 9 | none => S' = S := by
  unfold P_X11_unwrap unwrapC
  rw [rcv_m h.lo, bO_s, Q11_isCipherKey h hR, bP_s]
  cases hk : isCK rows x
  · rw [if_pos (by rfl)]
    exact ⟨S, rfl, fr.refl _ _, agr.refl _ _ _ _ _, rfl⟩
  · rw [if_neg (by decide), rcv_m h.lo, bO_s, Q11_isRow, bP_s]
    obtain ⟨rk, hrk, rfl, hkl⟩ := isCK_i hk
    rcases isr_cases y with hy | ⟨r, hr, rfl, hy⟩
    · rw [hy, if_pos (by rfl)]
      exact ⟨S, rfl, fr.refl _ _, agr.refl _ _ _ _ _, rfl⟩
    · obtain ⟨lr, hb⟩ := hR r hr
      obtain ⟨lk, hbk⟩ := hR rk hrk
      have hl := hb.le
      rw [hy, if_neg (by decide), h.gR rfl h.ra, bO_s, h.row hr, bO_s, (h.rb r hr).gI 1 rfl, bO_s, hb.many, n_at (by omega), n_at (by omega)]
      by_cases h8 : 8 ≤ (rows r).length
      · rw [n_subL 8 h8, Q1_mayWrap (by omega), bP_s]
        cases hm : mayW ((rows r).length - 8)
        · rw [if_pos (by rfl)]
          simp only [Bool.and_false, Bool.false_eq_true, if_false]
          exact ⟨S, rfl, fr.refl _ _, agr.refl _ _ _ _ _, rfl⟩
        · rw [if_neg (by decide), h.gR rfl h13, bO_s, h.gR rfl h.ra, bO_s, h.row hrk, bO_s, bO_s, h.row hr, bO_s, h.gR rfl h.shown, bO_s, rcv_m hc.1, bO_s]
          obtain ⟨S1, g1, f1, a1, b1⟩ := Q1_putUnwrapped (S := S) (i3 := 9) X hc (h.rb rk hrk) (h.rb r hr) h.sb hkl h8 hm (by decide) hI hbk hb hs
          rw [g1, bP_s]
          have hd : decide (8 ≤ (rows r).length) = true := decide_eq_true h8
          simp only [hd, Bool.and_true, if_true]
          cases hu : unwrapF (rows rk) (rows r) with
          | none =>
            rw [hu] at b1
            rw [if_pos (by rfl)]
            exact ⟨S1, rfl, f1, a1, b1⟩
          | some v =>
            rw [hu] at b1
            have b1' : Byt 8192 (S1 0 9) v false := b1
            rw [if_neg (show ¬ (if (some v).isSome = true then (1 : Int32) else 0) = 0 by simp), h.gR rfl h.shown, bO_s, h.sb.gI 1 rfl, bO_s, b1'.many]
            exact ⟨S1, rfl, f1, a1, b1'⟩
      · have hd : decide (8 ≤ (rows r).length) = false := decide_eq_false h8
        rw [neg_may (by omega), bP_s, if_pos rfl]
        simp only [hd, Bool.false_and, Bool.and_false, Bool.false_eq_true, if_false]
        exact ⟨S, rfl, fr.refl _ _, agr.refl _ _ _ _ _, rfl⟩
end UNWRAP
