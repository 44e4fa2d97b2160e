/-! A KEY'S TEXT: the reason against it, whole -/
section REAS
variable {W : WR} {G : mG} {F : Nat} {S : ST} {t ip j : Nat} {J : JT} {lp : Bool}
theorem oI_eq {o : Option Nat} (h : ∀ i, o = some i → i < 2 ^ 31) : (oI o = -1) = (o = none) := by
  cases o with
  | none => exact propext ⟨fun _ => rfl, fun _ => rfl⟩
  | some i => exact propext ⟨fun q => absurd q (n_nm (h i rfl)), fun q => absurd q (by simp)⟩
theorem Q5_odd {jn : Nat} (X : Cx G F W) (K : isTx W t ip) (C : TbC (S 9 t) J) (Y : JX J) (bp : Byt 8192 (S 0 ip) J.2.2 lp) (hj : jn < 124) : P_X9_isStringOrNone G F (W.ad (.o 9 t)) (oI (fd J jn)) (mem W S) = some (if okN J jn = true then 1 else 0, mem W S) := by
  rw [Q9_strNone K C Y (fN_b Y)]
  unfold okN
  by_cases c : fd J jn = none ∨ kB J (fd J jn) 4 = true
  · rw [if_pos c, if_pos (by rw [Bool.or_eq_true, decide_eq_true_iff]; exact c)]
  · rw [if_neg c, if_neg (by rw [Bool.or_eq_true, decide_eq_true_iff]; exact c)]
theorem Q5_72 {x : Int32} {kd sz sl : Nat} (X : Cx G F W) (H : isKo W j) (K : isTx W t ip) (hip : ip < 16) (C : TbC (S 9 t) J) (Y : JX J) (bp : Byt 8192 (S 0 ip) J.2.2 lp) (E : KyE S j) (hk : kd ≤ 2) (h1 : (S 5 j).f 1 = (Int32.ofNat kd)) : ∃ S', fr ((5, j) :: kyFr j) S S' ∧ KyE S' j ∧ (∀ k, k ≠ 5 → (S' 5 j).f k = (S 5 j).f k) ∧ B_X5_reasonAgainst_72 G F (W.ad (.o 5 j)) (W.ad (.o 9 t)) (Int32.ofNat kd) (-1) (mem W S) sz sl = (if okN J 20 = true ∧ okN J 21 = true ∧ okN J 22 = true then (if kyL J kd = true then B_X5_reasonAgainst_251 G F (W.ad (.o 5 j)) (W.ad (.o 9 t)) (if (kyN J kd).isSome = true then 1 else 0) (mem W S') sz sl else some (5, mem W S', sz, sl)) else some (4, mem W S', sz, sl)) ∧ (kyL J kd = true → (okN J 20 = true ∧ okN J 21 = true ∧ okN J 22 = true) → ∀ k, kyN J kd = some k → KyT S' j k ∧ (S' 5 j).f 5 = if k.2.2.isSome = true then 1 else 0) := by
  unfold B_X5_reasonAgainst_72 B_X5_reasonAgainst_88 B_X5_reasonAgainst_102 B_X5_reasonAgainst_116
  rw [if_neg (n_nm (by omega)), rcv_m K.1, bO_s, Q9_find0 X K C Y bp (by decide), bP_s, rcv_m K.1, bO_s, Q5_odd X K C Y bp (by decide), bP_s]
  have stay : ∀ (P : Option (Int32 × mM × Nat × Nat)), ¬ (okN J 20 = true ∧ okN J 21 = true ∧ okN J 22 = true) → P = some (4, mem W S, sz, sl) → ∃ S', fr ((5, j) :: kyFr j) S S' ∧ KyE S' j ∧ (∀ k, k ≠ 5 → (S' 5 j).f k = (S 5 j).f k) ∧ P = (if okN J 20 = true ∧ okN J 21 = true ∧ okN J 22 = true then (if kyL J kd = true then B_X5_reasonAgainst_251 G F (W.ad (.o 5 j)) (W.ad (.o 9 t)) (if (kyN J kd).isSome = true then 1 else 0) (mem W S') sz sl else some (5, mem W S', sz, sl)) else some (4, mem W S', sz, sl)) ∧ (kyL J kd = true → (okN J 20 = true ∧ okN J 21 = true ∧ okN J 22 = true) → ∀ k, kyN J kd = some k → KyT S' j k ∧ (S' 5 j).f 5 = if k.2.2.isSome = true then 1 else 0) := by
    intro P hn hP
    exact ⟨S, fr.refl _ _, E, fun _ _ => rfl, by rw [if_neg hn]; exact hP, fun _ q => absurd q hn⟩
  by_cases c20 : okN J 20 = true
  · rw [if_pos c20, if_neg (by decide), rcv_m K.1, bO_s, Q9_find0 X K C Y bp (by decide), bP_s, rcv_m K.1, bO_s, Q5_odd X K C Y bp (by decide), bP_s]
    by_cases c21 : okN J 21 = true
    · rw [if_pos c21, if_neg (by decide), rcv_m K.1, bO_s, Q9_find0 X K C Y bp (by decide), bP_s, rcv_m K.1, bO_s, Q5_odd X K C Y bp (by decide), bP_s]
      by_cases c22 : okN J 22 = true
      · rw [if_pos c22, if_neg (by decide), ko_I H rfl, bO_s, h1]
        have cc : okN J 20 = true ∧ okN J 21 = true ∧ okN J 22 = true := ⟨c20, c21, c22⟩
        -- the field of the secret is set
        obtain ⟨S1, hS1⟩ : ∃ S1, S1 = S.so 5 j ((S 5 j).sf 5 (if kyD J kd = true then 1 else 0)) := ⟨_, rfl⟩
        have f1 : fr ((5, j) :: kyFr j) S S1 := by rw [hS1]; exact fr_so (by simp)
        have e126 : B_X5_reasonAgainst_126 G F (W.ad (.o 5 j)) (W.ad (.o 9 t)) (W.ad (.o 5 j)) (Int32.ofNat kd) (mem W S) sz sl = bO (rcv (mem W S1) (W.ad (.o 5 j)) 5) fun _ => bP (P_X5_areLettersThere G F (W.ad (.o 5 j)) (W.ad (.o 9 t)) (mem W S1)) fun v150 M150 => B_X5_reasonAgainst_153 G F (W.ad (.o 5 j)) (W.ad (.o 9 t)) v150 M150 sz sl := by
          unfold B_X5_reasonAgainst_126
          by_cases c0 : kd = 0
          · subst c0
            rw [if_pos (show (Int32.ofNat 0) = (0 : Int32) from rfl), pfZ_m H.1 rfl (Or.inl rfl), bO_s, hS1]
            rfl
          · rw [if_neg (show ¬ (Int32.ofNat kd) = (0 : Int32) from fun q => c0 ((n_eq (b := 0) (by omega) (by omega)).mp q)), rcv_m K.1, bO_s, Q9_find0 X K C Y bp (by decide), bP_s]
            unfold B_X5_reasonAgainst_137
            have ed : kyD J kd = (fd J 23).isSome := by unfold kyD; rw [decide_eq_true c0, Bool.true_and]
            cases e : fN J (str 23) (some 0) with
            | none =>
              rw [if_pos (show oI none = -1 from rfl), pfZ_m H.1 rfl (Or.inl rfl), bO_s, hS1, ed, show fd J 23 = none from e]
              rfl
            | some i =>
              have hi := fN_b Y i e
              rw [if_neg (show ¬ oI (some i) = -1 from n_nm hi), pfZ_m H.1 rfl (Or.inr rfl), bO_s, hS1, ed, show fd J 23 = some i from e]
              rfl
        have g1 : (S1 5 j).f 1 = (Int32.ofNat kd) := by rw [hS1, so_eq, sf_ne (by decide)]; exact h1
        have g5 : (S1 5 j).f 5 = if kyD J kd = true then 1 else 0 := by rw [hS1, so_eq, sf_eq]
        have C1 : TbC (S1 9 t) J := by rw [hS1, so_ne (by omega)]; exact C
        have bp1 : Byt 8192 (S1 0 ip) J.2.2 lp := by rw [hS1, so_ne (by omega)]; exact bp
        have ek : ∀ k, k ≠ 5 → (S1 5 j).f k = (S 5 j).f k := fun k hk => by rw [hS1, so_eq, sf_ne hk]
        have E1 : KyE S1 j := by
          obtain ⟨⟨a1, l1, x1⟩, ⟨a2, l2, x2⟩, a3, l3, x3⟩ := E
          refine ⟨⟨a1, l1, ?_⟩, ⟨a2, l2, ?_⟩, a3, l3, ?_⟩
          · rw [hS1, so_ne (by omega)]; exact x1
          · rw [hS1, so_ne (by omega)]; exact x2
          · rw [hS1, so_ne (by omega)]; exact x3
        rw [e126, rcv_m H.1, bO_s, Q5_lettersThere X H K C1 Y bp1 hk g1 g5, bP_s]
        simp only [if_pos cc]
        unfold B_X5_reasonAgainst_153
        by_cases cL : kyL J kd = true
        · obtain ⟨⟨a1, l1, x1⟩, ⟨a2, l2, x2⟩, a3, l3, x3⟩ := E1
          have r6 : ∀ S : ST, gfR (mem W S) (W.ad (.o 5 j)) 5 6 = some (W.ad (.o 0 (16 + 3 * j))) := fun S => gfR_m H.1 rfl H.2.1
          have r7 : ∀ S : ST, gfR (mem W S) (W.ad (.o 5 j)) 5 7 = some (W.ad (.o 0 (17 + 3 * j))) := fun S => gfR_m H.1 rfl H.2.2.1
          have r8 : ∀ S : ST, gfR (mem W S) (W.ad (.o 5 j)) 5 8 = some (W.ad (.o 0 (18 + 3 * j))) := fun S => gfR_m H.1 rfl H.2.2.2.1
          obtain ⟨p1, q1, b1⟩ := Q0_clear (G := G) (F := F) (S := S1) H.2.2.2.2.1 x1
          obtain ⟨S2, hS2⟩ : ∃ S2, S2 = S1.so 0 (16 + 3 * j) p1 := ⟨_, rfl⟩
          rw [← hS2] at q1
          obtain ⟨p2, q2, b2⟩ := Q0_clear (G := G) (F := F) (S := S2) H.2.2.2.2.2.1 (by rw [hS2, so_ne (by omega)]; exact x2)
          obtain ⟨S3, hS3⟩ : ∃ S3, S3 = S2.so 0 (17 + 3 * j) p2 := ⟨_, rfl⟩
          rw [← hS3] at q2
          obtain ⟨p3, q3, b3⟩ := Q0_clear (G := G) (F := F) (S := S3) H.2.2.2.2.2.2 (by rw [hS3, so_ne (by omega), hS2, so_ne (by omega)]; exact x3)
          obtain ⟨S4, hS4⟩ : ∃ S4, S4 = S3.so 0 (18 + 3 * j) p3 := ⟨_, rfl⟩
          rw [← hS4] at q3
          have f4 : fr (kyFr j) S1 S4 := by
            have u1 : fr (kyFr j) S1 S2 := by rw [hS2]; exact fr_so (by simp [kyFr])
            have u2 : fr (kyFr j) S2 S3 := by rw [hS3]; exact fr_so (by simp [kyFr])
            have u3 : fr (kyFr j) S3 S4 := by rw [hS4]; exact fr_so (by simp [kyFr])
            exact (u1.trans u2).trans u3
          have k5 : S4 5 j = S1 5 j := f4 5 j (by simp [kyFr])
          have ET : KyT S4 j ([], [], none) := by
            refine ⟨?_, ?_, ?_⟩
            · rw [hS4, so_ne (by omega), hS3, so_ne (by omega), hS2, so_eq]; exact b1
            · rw [hS4, so_ne (by omega), hS3, so_eq]; exact b2
            · rw [hS4, so_eq]; exact b3
          obtain ⟨S5, f5, e5, t1, t2⟩ := Q5_take (G := G) (F := F) (S := S4) (kd := kd) X H K hip (by rw [f4 9 t (by simp [kyFr])]; exact C1) Y (by rw [f4 0 ip (by simp [kyFr]; omega)]; exact bp1) ET hk cL (by rw [k5]; exact g1) (by rw [k5]; exact g5) sz sl
          have k55 : S5 5 j = S1 5 j := (f5 5 j (by simp [kyFr])).trans k5
          rw [if_pos cL, if_neg (by decide), r6, bO_s, rcv_m H.2.2.2.2.1.lo, bO_s, q1, bO_s, r7, bO_s, rcv_m H.2.2.2.2.2.1.lo, bO_s, q2, bO_s, r8, bO_s, rcv_m H.2.2.2.2.2.2.lo, bO_s, q3, bO_s, ko_I H rfl, bO_s, k5, g1, t1]
          refine ⟨S5, f1.trans ((f4.trans f5).mono (fun x hx => List.mem_cons_of_mem _ hx)), e5, fun k hk => by rw [k55]; exact ek k hk, by rw [if_pos cL], fun _ _ k hkn => ⟨t2 k hkn, ?_⟩⟩
          rw [k55, g5, kyN_D hk hkn]
        · rw [if_neg cL, if_pos rfl]
          exact ⟨S1, f1, E1, ek, by rw [if_neg cL], fun q => absurd q cL⟩
      · rw [if_neg c22, if_pos rfl]
        exact stay _ (fun q => c22 q.2.2) rfl
    · rw [if_neg c21, if_pos rfl]
      exact stay _ (fun q => c21 q.2.1) rfl
  · rw [if_neg c20, if_pos rfl]
    exact stay _ (fun q => c20 q.1) rfl
theorem Q5_reason {sz sl : Nat} (X : Cx G F W) (H : isKo W j) (K : isTx W t ip) (hip : ip < 16) (C : TbC (S 9 t) J) (Y : JX J) (bp : Byt 8192 (S 0 ip) J.2.2 lp) (E : KyE S j) : ∃ S', fr ((5, j) :: kyFr j) S S' ∧ KyE S' j ∧ (∀ k, k ≠ 5 → k ≠ 1 → (S' 5 j).f k = (S 5 j).f k) ∧ match kyR J with | .inl r => P_X5_reasonAgainst G F (W.ad (.o 5 j)) (W.ad (.o 9 t)) (mem W S) sz sl = some ((Int32.ofNat r), mem W S', sz, sl) | .inr (kd, k) => P_X5_reasonAgainst G F (W.ad (.o 5 j)) (W.ad (.o 9 t)) (mem W S) sz sl = bA (P_X5_takeUse G F (W.ad (.o 5 j)) (W.ad (.o 9 t)) (mem W S') sz sl) (fun M z s => some (0, M, z, s)) ∧ KyT S' j k ∧ (S' 5 j).f 1 = (Int32.ofNat kd) ∧ (S' 5 j).f 5 = if k.2.2.isSome = true then 1 else 0 := by
  have ek := Q9_isKind (G := G) (F := F) (o := some 0) (kd := 6) K C Y (fun i h => by have := Option.some.inj h; omega) (by decide)
  have ek : P_X9_isKind G F (W.ad (.o 9 t)) 0 6 (mem W S) = _ := ek
  unfold P_X5_reasonAgainst B_X5_reasonAgainst_7 kyR
  rw [rcv_m K.1, bO_s, ek, bP_s]
  by_cases c6 : kB J (some 0) 6 = true
  · rw [if_pos c6, if_pos c6, if_neg (by decide), rcv_m K.1, bO_s, Q9_find0 X K C Y bp (by decide), bP_s, rcv_m K.1, bO_s, Q9_says X K C Y bp (by decide) (fN_b Y), bP_s]
    -- the kind is set, whatever it is
    have ki : ∀ (x : Int32) (o : Option Nat), x = oI o → (∀ kd, o = some kd → kd ≤ 2) → ∃ S', fr ((5, j) :: kyFr j) S S' ∧ KyE S' j ∧ (∀ k, k ≠ 5 → k ≠ 1 → (S' 5 j).f k = (S 5 j).f k) ∧ match (match o with
        | none => Sum.inl 3
        | some kd => if okN J 20 = true ∧ okN J 21 = true ∧ okN J 22 = true then (if kyL J kd = true then (match kyN J kd with
          | none => Sum.inl 6
          | some k => Sum.inr (kd, k)) else Sum.inl 5) else Sum.inl 4 : Nat ⊕ (Nat × Ky3)) with | .inl r => (bO (pfv (mem W S) (W.ad (.o 5 j)) 5 1 (.int x)) fun M64 => bO (gfI M64 (W.ad (.o 5 j)) 5 1) fun v68 => B_X5_reasonAgainst_72 G F (W.ad (.o 5 j)) (W.ad (.o 9 t)) v68 (-1 : Int32) M64 sz sl) = some ((Int32.ofNat r), mem W S', sz, sl) | .inr (kd, k) => (bO (pfv (mem W S) (W.ad (.o 5 j)) 5 1 (.int x)) fun M64 => bO (gfI M64 (W.ad (.o 5 j)) 5 1) fun v68 => B_X5_reasonAgainst_72 G F (W.ad (.o 5 j)) (W.ad (.o 9 t)) v68 (-1 : Int32) M64 sz sl) = bA (P_X5_takeUse G F (W.ad (.o 5 j)) (W.ad (.o 9 t)) (mem W S') sz sl) (fun M z s => some (0, M, z, s)) ∧ KyT S' j k ∧ (S' 5 j).f 1 = (Int32.ofNat kd) ∧ (S' 5 j).f 5 = if k.2.2.isSome = true then 1 else 0 := by
      intro x o hx ho
      obtain ⟨S1, hS1⟩ : ∃ S1, S1 = S.so 5 j ((S 5 j).sf 1 x) := ⟨_, rfl⟩
      have f1 : fr ((5, j) :: kyFr j) S S1 := by rw [hS1]; exact fr_so (by simp)
      have ek1 : ∀ k, k ≠ 5 → k ≠ 1 → (S1 5 j).f k = (S 5 j).f k := fun k _ hk => by rw [hS1, so_eq, sf_ne hk]
      have E1 : KyE S1 j := by
        obtain ⟨⟨a1, l1, x1⟩, ⟨a2, l2, x2⟩, a3, l3, x3⟩ := E
        refine ⟨⟨a1, l1, ?_⟩, ⟨a2, l2, ?_⟩, a3, l3, ?_⟩
        · rw [hS1, so_ne (by omega)]; exact x1
        · rw [hS1, so_ne (by omega)]; exact x2
        · rw [hS1, so_ne (by omega)]; exact x3
      have h1 : (S1 5 j).f 1 = x := by rw [hS1, so_eq, sf_eq]
      rw [pfI_m H.1 rfl, bO_s, ← hS1, ko_I H rfl, bO_s, h1]
      cases o with
      | none =>
        refine ⟨S1, f1, E1, ek1, ?_⟩
        show B_X5_reasonAgainst_72 G F (W.ad (.o 5 j)) (W.ad (.o 9 t)) x (-1 : Int32) (mem W S1) sz sl = some ((Int32.ofNat 3), mem W S1, sz, sl)
        unfold B_X5_reasonAgainst_72
        rw [if_pos (show x = -1 from hx)]
        rfl
      | some kd =>
        have hk := ho kd rfl
        obtain ⟨S2, f2, e2, k2, g2, t2⟩ := Q5_72 (G := G) (F := F) (S := S1) (x := x) (kd := kd) (sz := sz) (sl := sl) X H K hip (by rw [hS1, so_ne (by omega)]; exact C) Y (by rw [hS1, so_ne (by omega)]; exact bp) E1 hk (h1.trans hx)
        have hx : x = (Int32.ofNat kd) := hx
        rw [← hx] at g2
        refine ⟨S2, f1.trans f2, e2, fun k a b => (k2 k a).trans (ek1 k a b), ?_⟩
        show match (if okN J 20 = true ∧ okN J 21 = true ∧ okN J 22 = true then (if kyL J kd = true then (match kyN J kd with | none => Sum.inl 6 | some k => Sum.inr (kd, k)) else Sum.inl 5) else Sum.inl 4 : Nat ⊕ (Nat × Ky3)) with | .inl r => _ | .inr (kd, k) => _
        by_cases co : okN J 20 = true ∧ okN J 21 = true ∧ okN J 22 = true
        · rw [if_pos co] at g2 ⊢
          by_cases cL : kyL J kd = true
          · rw [if_pos cL] at g2 ⊢
            cases hn : kyN J kd with
            | none =>
              rw [hn] at g2
              show B_X5_reasonAgainst_72 G F (W.ad (.o 5 j)) (W.ad (.o 9 t)) x (-1 : Int32) (mem W S1) sz sl = some ((Int32.ofNat 6), mem W S2, sz, sl)
              rw [g2]
              rfl
            | some k =>
              rw [hn] at g2
              obtain ⟨u1, u2⟩ := t2 cL co k hn
              refine ⟨?_, u1, ?_, u2⟩
              · rw [g2]
                unfold B_X5_reasonAgainst_251
                rw [if_neg (show ¬ (if (some k).isSome = true then (1 : Int32) else 0) = 0 by rw [if_pos (show (some k).isSome = true from rfl)]; decide), rcv_m H.1, bO_s]
              · rw [k2 1 (by decide), h1, hx]
          · rw [if_neg cL] at g2 ⊢
            exact g2
        · rw [if_neg co] at g2 ⊢
          exact g2
    have kk : ∀ kd, kyKind J = some kd → kd ≤ 2 := fun kd h => kyKind_le h
    unfold B_X5_reasonAgainst_28
    by_cases c17 : sayB J (fN J (str 16) (some 0)) (str 17) = true
    · have ekd : kyKind J = some 0 := if_pos c17
      rw [if_pos c17, if_neg (by decide)]
      exact ki 0 (kyKind J) (by rw [ekd]; rfl) kk
    · rw [if_neg c17, if_pos rfl, rcv_m K.1, bO_s, Q9_says X K C Y bp (by decide) (fN_b Y), bP_s]
      unfold B_X5_reasonAgainst_42
      by_cases c18 : sayB J (fN J (str 16) (some 0)) (str 18) = true
      · have ekd : kyKind J = some 1 := (if_neg c17).trans (if_pos c18)
        rw [if_pos c18, if_neg (by decide)]
        exact ki 1 (kyKind J) (by rw [ekd]; rfl) kk
      · rw [if_neg c18, if_pos rfl, rcv_m K.1, bO_s, Q9_says X K C Y bp (by decide) (fN_b Y), bP_s]
        unfold B_X5_reasonAgainst_56
        by_cases c19 : sayB J (fN J (str 16) (some 0)) (str 19) = true
        · have ekd : kyKind J = some 2 := ((if_neg c17).trans (if_neg c18)).trans (if_pos c19)
          rw [if_pos c19, if_neg (by decide)]
          exact ki 2 (kyKind J) (by rw [ekd]; rfl) kk
        · have ekd : kyKind J = none := ((if_neg c17).trans (if_neg c18)).trans (if_neg c19)
          rw [if_neg c19, if_pos rfl]
          exact ki (-1) (kyKind J) (by rw [ekd]; rfl) kk
  · rw [if_neg c6, if_neg c6, if_pos rfl]
    exact ⟨S, fr.refl _ _, E, fun _ _ _ => rfl, rfl⟩
end REAS
