/-! SEALED CONTENT BY A COUNTER: the class, its mark and its stream -/
theorem i64_8 {n : Nat} (h : n < 2 ^ 28) : ((Int32.ofNat n)).toInt64 * (8 : Int64) = Int64.ofNat (8 * n) := by
  rw [n_64 (by omega), show (8 : Int64) = Int64.ofNat 8 from rfl, ← Int64.ofNat_mul, Nat.mul_comm]
section GCM2
variable {W : WR} {G : mG} {F : Nat} {ks : Nat → UInt8} {nr : Nat}
theorem Q2_putMarkHalf {S : ST} {x : Int64} {ys : List UInt8} {l : Bool} (h : isCo W) (hb : Byt 64 (S 0 68) ys l) (hy : ys.length + 8 ≤ 64) : ∃ o, P_X2_putMarkHalf G F (W.ad (.o 2 0)) x (mem W S) = some (mem W (S.so 0 68 o)) ∧ Byt 64 o (ys ++ w8 x) l := by
  have hB := h.2.2.2.2.2.2
  have hr := h.2.2.2.2.2.1
  unfold P_X2_putMarkHalf
  obtain ⟨o1, g1, b1⟩ := Q0_putWord (S := S) (x := (ushL x 32).toInt32) (G := G) (F := F) hB hb
  obtain ⟨o2, g2, b2⟩ := Q0_putWord (S := S.so 0 68 o1) (x := x.toInt32) (G := G) (F := F) hB (by rw [so_eq]; exact b1)
  rw [so_so] at g2
  rw [tkl_tkl, lsl_lsl] at b2
  have e : w4 (ushL x 32).toInt32 ++ w4 x.toInt32 = w8 x := rfl
  rw [e, tkl_fit (by rw [w8_len]; omega), lsl_fit (by rw [w8_len]; omega)] at b2
  rw [gfR_m h.1 rfl hr, bO_s, rcv_m hB.lo, bO_s, g1, bO_s, gfR_m h.1 rfl hr, bO_s, rcv_m hB.lo, bO_s, g2, bO_s]
  exact ⟨o2, rfl, b2⟩
/-- the cipher over the block of the content -/
theorem Q2_fwd {S : ST} {s : List UInt8} (X : Cx G F W) (hc : isCi W) (h : isCo W) (hk : KS S ks nr) (hs : CL S 2 0 2 s) : ∃ S', P_X1_forward G F (W.ad (.o 1 0)) (W.ad (.a 2 0 2)) (mem W S) = some (mem W S') ∧ arF L12 S S' ∧ cA S S' ∧ CL S' 2 0 2 (fwd ks nr s) := by
  obtain ⟨S', g1, g2, g3⟩ := Q1_forward X hc (aB2 h) hk hs
  exact ⟨S', g1, g2, cA_ar g2 (by decide), g3⟩
theorem Q2_markByField {S : ST} {i1 i2 i3 r1 r2 r3 many : Nat} {iv al xs ys : List UInt8} {l1 l2 l3 l4 : Bool} (X : Cx G F W) (hc : isCi W) (h : isCo W) (hB1 : isB W i1 r1) (hB2 : isB W i2 r2) (hB3 : isB W i3 r3) (n1 : i1 ≠ 68) (n2 : i2 ≠ 68) (n3 : i3 ≠ 68) (hk : KS S ks nr) (b1 : Byt r1 (S 0 i1) iv l1) (b2 : Byt r2 (S 0 i2) al l2) (b3 : Byt r3 (S 0 i3) xs l3) (b4 : Byt 64 (S 0 68) ys l4) (hm : many ≤ xs.length) (hx : xs.length < 90000) (ha : al.length < 90000) : ∃ S', P_X2_markByField G F (W.ad (.o 2 0)) (W.ad (.o 0 i1)) (W.ad (.o 0 i2)) (W.ad (.o 0 i3)) (Int32.ofNat many) (mem W S) = some (mem W S') ∧ fr [(1, 0), (2, 0), (0, 68)] S S' ∧ cA S S' ∧ Byt 64 (S' 0 68) (gmarkF ks nr iv al (xs.take many)) false := by
  have hF := X.hF
  have lo := h.1
  have h2 := h.2.2.2.1
  have hr1 := h.2.2.1
  have hr4 := h.2.2.2.2.2.1
  have hB4 := h.2.2.2.2.2.2
  have htl : (xs.take many).length = many := by rw [List.length_take]; omega
  -- the block of zeros
  obtain ⟨n', S1, e, a1, c1⟩ := loopS (fun n j S => B_X2_markByField_3 G F n (W.ad (.o 2 0)) (W.ad (.o 0 i1)) (W.ad (.o 0 i2)) (W.ad (.o 0 i3)) (Int32.ofNat many) (Int32.ofNat j) (mem W S)) (fun j S' => arF [(2, 0, 2)] S S' ∧ ∀ t, t < j → (S' 2 0).a 2 t = gB (m16 fun _ => 0) t) 16 (by
    intro n j S1 hj hI
    obtain ⟨i1_, i2_⟩ := hI
    show ∃ S', B_X2_markByField_3 G F (n + 1) _ _ _ _ _ _ _ = _ ∧ _
    rw [B_X2_markByField_3, if_neg (by rw [lit 16]; exact fun q => absurd ((n_le (by omega) (by omega)).mp q) (by omega)), h2.g lo rfl, bO_s, h2.sa rfl hj, bO_s, n_addL j 1]
    refine ⟨_, rfl, i1_.trans (arF_sa (by simp)), fun t ht => ?_⟩
    rw [sa_eq]
    by_cases et : t = j
    · rw [et, upd_eq, m16_g hj]
      rfl
    · rw [upd_ne et]
      exact i2_ t (by omega)) 16 0 F S (by omega) rfl ⟨arF.refl _ _, fun t ht => absurd ht (Nat.not_lt_zero _)⟩
  have e' : B_X2_markByField_3 G F F (W.ad (.o 2 0)) (W.ad (.o 0 i1)) (W.ad (.o 0 i2)) (W.ad (.o 0 i3)) (Int32.ofNat many) 0 (mem W S) = B_X2_markByField_3 G F (n' + 1) (W.ad (.o 2 0)) (W.ad (.o 0 i1)) (W.ad (.o 0 i2)) (W.ad (.o 0 i3)) (Int32.ofNat many) 16 (mem W S1) := e
  have hk1 : KS S1 ks nr := KS_ar a1 (by decide) hk
  obtain ⟨S2, g2, a2, ca2, c2⟩ := Q2_fwd X hc h hk1 c1
  have c2' : CL S2 2 0 2 (gE0 ks nr) := c2
  have l0 : (gE0 ks nr).length = 16 := fwd_len _ _ _
  -- the longs are set
  obtain ⟨o3, ho3⟩ : ∃ o3, o3 = ((((S2 2 0).sg 5 (hi8 (gE0 ks nr))).sg 6 (lo8L (gE0 ks nr))).sg 7 0).sg 8 0 := ⟨_, rfl⟩
  have c2b : CL (S2.so 2 0 ((S2 2 0).sg 5 (hi8 (gE0 ks nr)))) 2 0 2 (gE0 ks nr) := fun t ht => by rw [so_eq]; exact c2' t ht
  have gs3 : GS (S2.so 2 0 o3) (gH ks nr) (0, 0) := by
    refine ⟨?_, ?_, ?_, ?_⟩
    · rw [so_eq, ho3, sg_g, if_neg (by decide), sg_g, if_neg (by decide), sg_g, if_neg (by decide), sg_g, if_pos rfl]; rfl
    · rw [so_eq, ho3, sg_g, if_neg (by decide), sg_g, if_neg (by decide), sg_g, if_pos rfl]; rfl
    · rw [so_eq, ho3, sg_g, if_neg (by decide), sg_g, if_pos rfl]
    · rw [so_eq, ho3, sg_g, if_pos rfl]
  have f3 : fr [(1, 0), (2, 0), (0, 68)] S (S2.so 2 0 o3) := ((a1.fr (by decide)).trans (a2.fr (by decide))).trans (fr_so (by simp))
  have ca3 : cA S (S2.so 2 0 o3) := by
    have : cA S S2 := (cA_ar a1 (by decide)).trans ca2
    show agr [] [] [3] [] (S 1 0) ((S2.so 2 0 o3) 1 0)
    rw [so_ne (by omega)]
    exact this
  have k3 : ∀ i, i ≠ 68 → (S2.so 2 0 o3) 0 i = S 0 i := fun i hi => f3 0 i (by simp [hi])
  obtain ⟨S4, g4, f4, gs4⟩ := Q2_addToSum (S := S2.so 2 0 o3) (many := al.length) (xs := al) X h hB2 (by omega) ha (by rw [k3 i2 n2]; exact b2) gs3
  rw [List.take_length] at gs4
  obtain ⟨S5, g5, f5, gs5⟩ := Q2_addToSum (S := S4) (many := many) X h hB3 hm (by omega) (by rw [f4 0 i3 (by simp), k3 i3 n3]; exact b3) gs4
  have f35 : fr [(1, 0), (2, 0), (0, 68)] S S5 := (f3.trans (f4.mono (by simp))).trans (f5.mono (by simp))
  have ca5 : cA S S5 := (ca3.trans (cA_fr f4 (by decide))).trans (cA_fr f5 (by decide))
  have g6 := Q2_timesFactor (G := G) (F := F) (S := S5) (x := Int64.ofNat (8 * al.length)) (y := Int64.ofNat (8 * many)) X h gs5.1 gs5.2.1 gs5.2.2.1 gs5.2.2.2
  obtain ⟨Y, hY⟩ : ∃ Y, Y = gst (gH ks nr) (gall (gH ks nr) ((many + 15) / 16) (gall (gH ks nr) ((al.length + 15) / 16) (0, 0) al) (xs.take many)) (Int64.ofNat (8 * al.length)) (Int64.ofNat (8 * many)) := ⟨_, rfl⟩
  rw [← hY] at g6
  have eY : gY ks nr al (xs.take many) = Y := by rw [gY, htl, hY]
  obtain ⟨S6, hS6⟩ : ∃ S6, S6 = S5.so 2 0 (((S5 2 0).sg 7 Y.1).sg 8 Y.2) := ⟨_, rfl⟩
  rw [← hS6] at g6
  have f6 : fr [(1, 0), (2, 0), (0, 68)] S S6 := by rw [hS6]; exact f35.trans (fr_so (by simp))
  have ca6 : cA S S6 := by
    show agr [] [] [3] [] (S 1 0) (S6 1 0)
    rw [hS6, so_ne (by omega)]
    exact ca5
  have k6 : ∀ i, i ≠ 68 → S6 0 i = S 0 i := fun i hi => f6 0 i (by simp [hi])
  obtain ⟨S7, g7, a7, c7⟩ := Q2_startCounter (S := S6) (cnt := 1) X h hB1 (by rw [k6 i1 n1]; exact b1)
  have g7' : P_X2_startCounter G F (W.ad (.o 2 0)) (W.ad (.o 0 i1)) 1 (mem W S6) = some (mem W S7) := g7
  have ca7 : cA S S7 := ca6.trans (cA_ar a7 (by decide))
  obtain ⟨S8, g8, a8, ca8, c8⟩ := Q2_fwd X hc h (KS_ag ca7 hk) c7
  have f8 : fr [(1, 0), (2, 0), (0, 68)] S S8 := (f6.trans (a7.fr (by decide))).trans (a8.fr (by decide))
  have ca9 : cA S S8 := ca7.trans ca8
  obtain ⟨E, hE⟩ : ∃ E, E = fwd ks nr (ctrB iv 1) := ⟨_, rfl⟩
  rw [← hE] at c8
  have lE : E.length = 16 := by rw [hE]; exact fwd_len _ _ _
  have g87 : (S8 2 0).g 7 = Y.1 := by rw [(a8.2 2 0).2.1, (a7.2 2 0).2.1, hS6, so_eq, sg_g, if_neg (by decide), sg_g, if_pos rfl]
  have g88 : (S8 2 0).g 8 = Y.2 := by rw [(a8.2 2 0).2.1, (a7.2 2 0).2.1, hS6, so_eq, sg_g, if_pos rfl]
  have h68 : S8 0 68 = S 0 68 := by
    rw [a8.ob (c := 0) (i := 68) (by simp), a7.ob (c := 0) (i := 68) (by simp), hS6, so_ne (by omega), f5 0 68 (by simp), f4 0 68 (by simp), so_ne (by omega), a2.ob (c := 0) (i := 68) (by simp), a1.ob (c := 0) (i := 68) (by simp)]
  obtain ⟨o9, g9, b9⟩ := Q0_clear (G := G) (F := F) (S := S8) hB4 (by rw [h68]; exact b4)
  have c9 : CL (S8.so 0 68 o9) 2 0 2 E := fun t ht => by rw [so_ne (by omega)]; exact c8 t ht
  obtain ⟨o10, g10, b10⟩ := Q2_putMarkHalf (G := G) (F := F) (S := S8.so 0 68 o9) (x := Y.1 ^^^ hi8 E) h (by rw [so_eq]; exact b9) (by decide)
  rw [so_so] at g10
  have c10 : CL (S8.so 0 68 o10) 2 0 2 E := fun t ht => by rw [so_ne (by omega)]; exact c8 t ht
  obtain ⟨o11, g11, b11⟩ := Q2_putMarkHalf (G := G) (F := F) (S := S8.so 0 68 o10) (x := Y.2 ^^^ lo8L E) h (by rw [so_eq]; exact b10) (by rw [List.nil_append, w8_len]; omega)
  rw [so_so] at g11
  rw [List.nil_append] at b11
  have m8 : ((Int32.ofNat al.length)).toInt64 * (8 : Int64) = Int64.ofNat (8 * al.length) := i64_8 (by omega)
  have m8' : ((Int32.ofNat many)).toInt64 * (8 : Int64) = Int64.ofNat (8 * many) := i64_8 (by omega)
  unfold P_X2_markByField
  rw [e', B_X2_markByField_3, if_pos (by decide), gfR_m lo rfl hr1, bO_s, h2.g lo rfl, bO_s, rcv_m hc.1, bO_s, g2, bO_s, rcv_m lo, bO_s, Q2_half0 X h l0 c2', bP_s, pfL_m lo rfl, bO_s, rcv_m lo, bO_s, Q2_half8 X h l0 c2b, bP_s, pL lo rfl, bO_s, pL lo rfl, bO_s, pL lo rfl, bO_s, ← ho3, hB2.gI 1 rfl, bO_s, k3 i2 n2, b2.many, rcv_m lo, bO_s, g4, bO_s, rcv_m lo, bO_s, g5, bO_s, hB2.gI 1 rfl, bO_s, f5 0 i2 (by simp), f4 0 i2 (by simp), k3 i2 n2, b2.many, rcv_m lo, bO_s, m8, m8', g6, bO_s, rcv_m lo, bO_s, g7', bO_s, gfR_m lo rfl hr1, bO_s, h2.g lo rfl, bO_s, rcv_m hc.1, bO_s, g8, bO_s, gfR_m lo rfl hr4, bO_s, rcv_m hB4.lo, bO_s, g9, bO_s, gfL_m lo rfl, bO_s, rcv_m lo, bO_s, Q2_half0 X h lE c9, bP_s, rcv_m lo, bO_s, so_ne (by omega), g87, g10, bO_s, gfL_m lo rfl, bO_s, rcv_m lo, bO_s, Q2_half8 X h lE c10, bP_s, rcv_m lo, bO_s, so_ne (by omega), g88, g11, bO_s]
  refine ⟨_, rfl, f8.trans (fr_so (by simp)), ?_, ?_⟩
  · show agr [] [] [3] [] (S 1 0) ((S8.so 0 68 o11) 1 0)
    rw [so_ne (by omega)]
    exact ca9
  · rw [so_eq, gmarkF, eY, ← hE]
    exact b11
/-- the stream -/
theorem Q2_pc_l {i1 i3 it r1 r3 rt many : Nat} {iv xs ts : List UInt8} {l1 l3 lt : Bool} (X : Cx G F W) (hc : isCi W) (h : isCo W) (hB1 : isB W i1 r1) (hB3 : isB W i3 r3) (hT : isB W it rt) (n1 : i1 ≠ it) (n3 : i3 ≠ it) (hm : many ≤ xs.length) (hm2 : many < 90000) : ∀ (m b n : Nat) (S : ST), m < n → b + m = (many + 15) / 16 → KS S ks nr → Byt r1 (S 0 i1) iv l1 → Byt r3 (S 0 i3) xs l3 → TK S it rt ts (ctrF ks nr iv (xs.take many)) (16 * b) lt → ∃ S', B_X2_putCounted_16 G F n (W.ad (.o 2 0)) (W.ad (.o 0 i1)) (W.ad (.o 0 i3)) (Int32.ofNat many) (W.ad (.o 0 it)) (Int32.ofNat (16 * b)) (mem W S) = some (mem W S') ∧ fr [(1, 0), (2, 0), (0, it)] S S' ∧ cA S S' ∧ Byt rt (S' 0 it) (tkl rt ts (ctrF ks nr iv (xs.take many))) (lsl rt ts (ctrF ks nr iv (xs.take many)) lt) := by
  have hF := X.hF
  have lo := h.1
  have h2 := h.2.2.2.1
  have hr1 := h.2.2.1
  have htl : (xs.take many).length = many := by rw [List.length_take]; omega
  have hcl : (ctrF ks nr iv (xs.take many)).length = many := by rw [ctrF_len, htl]
  intro m
  induction m with
  | zero =>
    intro b n S hn hb hk h1 h3 ht
    obtain ⟨n, rfl⟩ : ∃ q, n = q + 1 := ⟨n - 1, by omega⟩
    rw [B_X2_putCounted_16, if_pos ((n_le (by omega) (by omega)).mpr (by omega))]
    refine ⟨S, rfl, fr.refl _ _, cA.refl _, ?_⟩
    unfold TK at ht
    rw [List.take_of_length_le (by omega)] at ht
    exact ht
  | succ m ih =>
    intro b n S hn hb hk h1 h3 ht
    obtain ⟨n, rfl⟩ : ∃ q, n = q + 1 := ⟨n - 1, by omega⟩
    have hbd : 16 * b / 16 = b := by omega
    rw [B_X2_putCounted_16, if_neg (fun q => absurd ((n_le (by omega) (by omega)).mp q) (by omega)), rcv_m lo, bO_s, show (16 : Int32) = (Int32.ofNat 16) from rfl, n_div (by omega) (by omega), hbd, n_addL b 2]
    obtain ⟨S1, g1, a1, c1⟩ := Q2_startCounter (S := S) (cnt := b + 2) X h hB1 h1
    have ca1 : cA S S1 := cA_ar a1 (by decide)
    obtain ⟨S2, g2, a2, ca2, c2⟩ := Q2_fwd X hc h (KS_ag ca1 hk) c1
    have ca12 : cA S S2 := ca1.trans ca2
    have f2 : fr [(1, 0), (2, 0), (0, it)] S S2 := (a1.fr (by simp)).trans (a2.fr (by simp))
    have o2 : ∀ j, S2 0 j = S 0 j := fun j => by rw [a2.ob (c := 0) (i := j) (by simp), a1.ob (c := 0) (i := j) (by simp)]
    rw [g1, bO_s, gfR_m lo rfl hr1, bO_s, h2.g lo rfl, bO_s, rcv_m hc.1, bO_s, g2, bO_s]
    -- the bytes of this block
    have inner : ∀ (p j n1 : Nat) (S3 : ST), p < n1 → j + p = min 16 (many - 16 * b) → fr [(0, it)] S2 S3 → TK S3 it rt ts (ctrF ks nr iv (xs.take many)) (16 * b + j) lt → ∃ S4, B_X2_putCounted_49 G F (B_X2_putCounted_16 G F n) n1 (W.ad (.o 2 0)) (W.ad (.o 0 i1)) (W.ad (.o 0 i3)) (Int32.ofNat many) (W.ad (.o 0 it)) (Int32.ofNat (16 * b)) (Int32.ofNat j) (mem W S3) = B_X2_putCounted_16 G F n (W.ad (.o 2 0)) (W.ad (.o 0 i1)) (W.ad (.o 0 i3)) (Int32.ofNat many) (W.ad (.o 0 it)) (Int32.ofNat (16 * (b + 1))) (mem W S4) ∧ fr [(0, it)] S2 S4 ∧ TK S4 it rt ts (ctrF ks nr iv (xs.take many)) (16 * (b + 1)) lt := by
      intro p
      induction p with
      | zero =>
        intro j n1 S3 hn1 hj f3 t3
        obtain ⟨n1, rfl⟩ : ∃ q, n1 = q + 1 := ⟨n1 - 1, by omega⟩
        have last : TK S3 it rt ts (ctrF ks nr iv (xs.take many)) (16 * (b + 1)) lt := by
          unfold TK at t3 ⊢
          by_cases h16 : 16 ≤ many - 16 * b
          · rw [show 16 * b + j = 16 * (b + 1) by omega] at t3
            exact t3
          · rw [List.take_of_length_le (by omega)] at t3 ⊢
            exact t3
        rw [B_X2_putCounted_49]
        by_cases h16 : 16 ≤ j
        · rw [if_pos (by rw [lit 16]; exact (n_le (by omega) (by omega)).mpr h16), n_addL _ 16, show 16 * b + 16 = 16 * (b + 1) by omega]
          exact ⟨S3, rfl, f3, last⟩
        · rw [if_neg (by rw [lit 16]; exact fun q => h16 ((n_le (by omega) (by omega)).mp q)), n_add, if_pos ((n_le (by omega) (by omega)).mpr (by omega)), n_addL _ 16, show 16 * b + 16 = 16 * (b + 1) by omega]
          exact ⟨S3, rfl, f3, last⟩
      | succ p ihp =>
        intro j n1 S3 hn1 hj f3 t3
        obtain ⟨n1, rfl⟩ : ∃ q, n1 = q + 1 := ⟨n1 - 1, by omega⟩
        have hb3 : Byt r3 (S3 0 i3) xs l3 := by rw [f3 0 i3 (by simp [n3]), o2]; exact h3
        have cv : (S3 2 0).a 2 j = b32 ((fwd ks nr (ctrB iv (b + 2))).getD j 0) := by rw [f3 2 0 (by simp), c2 j (by omega), gB_D]
        rw [B_X2_putCounted_49, if_neg (by rw [lit 16]; exact fun q => absurd ((n_le (by omega) (by omega)).mp q) (by omega)), n_add, if_neg (fun q => absurd ((n_le (by omega) (by omega)).mp q) (by omega)), h2.g lo rfl, bO_s, h2.ld rfl (by omega), bO_s, rcv_m hB3.lo, bO_s, Q0_get hB3 hb3 (by omega), bP_s, rcv_m hT.lo, bO_s, cv, gB_D, b32_x]
        have hy : (ctrF ks nr iv (xs.take many))[16 * b + j]? = some ((fwd ks nr (ctrB iv (b + 2))).getD j 0 ^^^ xs.getD (16 * b + j) 0) := by
          unfold ctrF
          rw [mapN_at (by omega), show (16 * b + j) / 16 + 2 = b + 2 by omega, show (16 * b + j) % 16 = j by omega]
          congr 2
          rw [List.getD_eq_getElem?_getD, List.getD_eq_getElem?_getD, List.getElem?_take_of_lt (by omega)]
        obtain ⟨o4, g4, t4⟩ := TK_put (G := G) (F := F) hT t3 hy
        rw [g4, bO_s, n_addL j 1]
        exact ihp (j + 1) n1 (S3.so 0 it o4) (by omega) (by omega) (f3.trans (fr_so (by simp))) t4
    obtain ⟨S4, g4, f4, t4⟩ := inner (min 16 (many - 16 * b)) 0 F S2 (by omega) (by omega) (fr.refl _ _) (by unfold TK; rw [o2]; exact ht)
    have g4' : B_X2_putCounted_49 G F (B_X2_putCounted_16 G F n) F (W.ad (.o 2 0)) (W.ad (.o 0 i1)) (W.ad (.o 0 i3)) (Int32.ofNat many) (W.ad (.o 0 it)) (Int32.ofNat (16 * b)) 0 (mem W S2) = _ := g4
    rw [g4']
    have ca4 : cA S S4 := ca12.trans (cA_fr f4 (by simp))
    obtain ⟨S5, g5, f5, ca5, b5⟩ := ih (b + 1) n S4 (by omega) (by omega) (KS_ag ca4 hk) (by rw [f4 0 i1 (by simp [n1]), o2]; exact h1) (by rw [f4 0 i3 (by simp [n3]), o2]; exact h3) t4
    exact ⟨S5, g5, (f2.trans (f4.mono (by simp))).trans f5, ca4.trans ca5, b5⟩
theorem Q2_putCounted {S : ST} {ik i1 i3 it rk r1 r3 rt many : Nat} {key iv xs ts : List UInt8} {lk l1 l3 lt : Bool} (X : Cx G F W) (hc : isCi W) (h : isCo W) (hK : isB W ik rk) (hB1 : isB W i1 r1) (hB3 : isB W i3 r3) (hT : isB W it rt) (n1 : i1 ≠ it) (n3 : i3 ≠ it) (hm : many ≤ xs.length) (hm2 : many < 90000) (hkl : key.length = 16 ∨ key.length = 32) (bk : Byt rk (S 0 ik) key lk) (b1 : Byt r1 (S 0 i1) iv l1) (b3 : Byt r3 (S 0 i3) xs l3) (bt : Byt rt (S 0 it) ts lt) : ∃ S', P_X2_putCounted G F (W.ad (.o 2 0)) (W.ad (.o 0 ik)) (W.ad (.o 0 i1)) (W.ad (.o 0 i3)) (Int32.ofNat many) (W.ad (.o 0 it)) (mem W S) = some (mem W S') ∧ fr [(1, 0), (2, 0), (0, it)] S S' ∧ agr [2] [] [1, 3] [] (S 1 0) (S' 1 0) ∧ KS S' (ksF (key.length / 4) key) (key.length / 4 + 6) ∧ Byt rt (S' 0 it) (tkl rt ts (ctrF (ksF (key.length / 4) key) (key.length / 4 + 6) iv (xs.take many))) (lsl rt ts (ctrF (ksF (key.length / 4) key) (key.length / 4 + 6) iv (xs.take many)) lt) := by
  have hF := X.hF
  unfold P_X2_putCounted
  obtain ⟨o1, g1, a1, k1⟩ := Q1_become (S := S) (p := 0) (n := key.length) X hc hK bk hkl (by omega) (by omega)
  rw [List.drop_zero, List.take_length] at k1
  have g1' : P_X1_become G F (W.ad (.o 1 0)) (W.ad (.o 0 ik)) 0 (Int32.ofNat key.length) (mem W S) = some (mem W (S.so 1 0 o1)) := g1
  rw [gfR_m h.1 rfl h.2.2.1, bO_s, hK.gI 1 rfl, bO_s, bk.many, rcv_m hc.1, bO_s, g1', bO_s]
  obtain ⟨S2, g2, f2, ca2, b2⟩ := Q2_pc_l (ks := ksF (key.length / 4) key) (nr := key.length / 4 + 6) (ts := ts) (lt := lt) (many := many) X hc h hB1 hB3 hT n1 n3 hm hm2 ((many + 15) / 16) 0 F (S.so 1 0 o1) (by omega) (by omega) k1 (by rw [so_ne (by omega)]; exact b1) (by rw [so_ne (by omega)]; exact b3) (by unfold TK; rw [Nat.mul_zero, List.take_zero, so_ne (by omega), tkl_nil bt.le, lsl_nil bt.le]; exact bt)
  rw [Nat.mul_zero] at g2
  have ca2' : agr [] [] [3] [] o1 (S2 1 0) := by
    have := ca2
    unfold cA at this
    rw [so_eq] at this
    exact this
  exact ⟨S2, g2, (fr_so (by simp)).trans f2, (a1.mono (by decide) (by decide) (by decide) (by decide)).trans (ca2'.mono (by decide) (by decide) (by decide) (by decide)), KS_ag ca2 k1, b2⟩
end GCM2
