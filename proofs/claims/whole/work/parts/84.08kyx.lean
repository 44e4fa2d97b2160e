/-! A KEY'S TEXT: the reason against it -/
section KYX
variable {W : WR} {G : mG} {F : Nat} {S : ST} {t ip j : Nat} {J : JT} {lp : Bool}
theorem Q5_takePoint {o : Option Nat} {it rt : Nat} {x : Int32} (X : Cx G F W) (K : isTx W t ip) (C : TbC (S 9 t) J) (Y : JX J) (bp : Byt 8192 (S 0 ip) J.2.2 lp) (ho : ∀ i, o = some i → i < 2 ^ 31) (hx : x = oI o) (hT : isB W it rt) (hrt : 64 ≤ rt) (bt : Byt rt (S 0 it) [] false) (hne : it ≠ ip) (h1 : (ltB J (fN J (str 29) o)).isSome = true) (h2 : (ltB J (fN J (str 30) o)).isSome = true) : ∃ o', P_X5_takePoint G F (W.ad (.o 9 t)) x (W.ad (.o 0 it)) (mem W S) = some (if inL (lB J (fN J (str 29) o)) 32 32 = true ∧ inL (lB J (fN J (str 30) o)) 32 32 = true then 1 else 0, mem W (S.so 0 it o')) ∧ (if inL (lB J (fN J (str 29) o)) 32 32 = true ∧ inL (lB J (fN J (str 30) o)) 32 32 = true then Byt rt o' (lB J (fN J (str 29) o) ++ lB J (fN J (str 30) o)) false else ∃ xs l, Byt rt o' xs l) := by
  subst hx
  have il : ∀ d : List UInt8, inL d 32 32 = true → d.length = 32 := by
    intro d h
    unfold inL at h
    rw [Bool.and_eq_true, decide_eq_true_iff, decide_eq_true_iff] at h
    omega
  obtain ⟨o1, g1, b1⟩ := Q9_putLettered (G := G) (F := F) (lo := 32) (hi := 32) X K C Y bp (fN_b Y) hT bt hne (by decide) (by decide) (lB_of h1)
  have g1 : P_X9_putLettered G F (W.ad (.o 9 t)) (oI (fN J (str 29) o)) 32 32 (W.ad (.o 0 it)) (mem W S) = _ := g1
  unfold P_X5_takePoint
  rw [rcv_m K.1, bO_s, Q9_find X K C Y bp (by decide) ho, bP_s, rcv_m K.1, bO_s, g1, bP_s]
  by_cases c1 : inL (lB J (fN J (str 29) o)) 32 32 = true
  · have l1 := il _ c1
    rw [if_pos c1] at b1
    rw [tkl_fit (by rw [List.length_nil]; omega), lsl_fit (by rw [List.length_nil]; omega), List.nil_append] at b1
    have C1 : TbC ((S.so 0 it o1) 9 t) J := by rw [so_ne (by omega)]; exact C
    have bp1 : Byt 8192 ((S.so 0 it o1) 0 ip) J.2.2 lp := by rw [so_ne (by omega)]; exact bp
    obtain ⟨o2, g2, b2⟩ := Q9_putLettered (G := G) (F := F) (S := S.so 0 it o1) (lo := 32) (hi := 32) X K C1 Y bp1 (fN_b Y) hT (by rw [so_eq]; exact b1) hne (by decide) (by decide) (lB_of h2)
    rw [so_so] at g2
    rw [so_eq] at b2
    have g2 : P_X9_putLettered G F (W.ad (.o 9 t)) (oI (fN J (str 30) o)) 32 32 (W.ad (.o 0 it)) (mem W (S.so 0 it o1)) = _ := g2
    rw [if_pos c1, if_neg (by decide), rcv_m K.1, bO_s, Q9_find X K C1 Y bp1 (by decide) ho, bP_s, rcv_m K.1, bO_s, g2, bP_s]
    by_cases c2 : inL (lB J (fN J (str 30) o)) 32 32 = true
    · have l2 := il _ c2
      rw [if_pos c2] at b2
      rw [tkl_fit (by omega), lsl_fit (by omega)] at b2
      have cc : inL (lB J (fN J (str 29) o)) 32 32 = true ∧ inL (lB J (fN J (str 30) o)) 32 32 = true := ⟨c1, c2⟩
      rw [if_pos c2, if_neg (by decide), if_pos cc]
      exact ⟨o2, rfl, by rw [if_pos cc]; exact b2⟩
    · rw [if_neg c2] at b2
      have cc : ¬ (inL (lB J (fN J (str 29) o)) 32 32 = true ∧ inL (lB J (fN J (str 30) o)) 32 32 = true) := fun q => c2 q.2
      rw [if_neg c2, if_pos rfl, if_neg cc]
      exact ⟨o2, rfl, by rw [if_neg cc, b2]; exact ⟨_, _, b1⟩⟩
  · have cc : ¬ (inL (lB J (fN J (str 29) o)) 32 32 = true ∧ inL (lB J (fN J (str 30) o)) 32 32 = true) := fun q => c1 q.1
    rw [if_neg c1] at b1
    rw [if_neg c1, if_pos rfl, if_neg cc]
    exact ⟨o1, rfl, by rw [if_neg cc, b1]; exact ⟨_, _, bt⟩⟩
theorem kyN_D {kd : Nat} {k : Ky3} (hk : kd ≤ 2) (h : kyN J kd = some k) : k.2.2.isSome = kyD J kd := by
  unfold kyN at h
  split at h
  · rename_i e
    subst e
    split at h
    · rw [← Option.some.inj h]
      rfl
    · exact absurd h (by simp)
  · split at h
    · rename_i e
      subst e
      unfold rsaN at h
      split at h
      · split at h
        · rename_i q
          split at h
          · rw [← Option.some.inj h, q]
            rfl
          · exact absurd h (by simp)
        · rename_i q
          rw [← Option.some.inj h, Bool.eq_false_iff.mpr q]
          rfl
      · exact absurd h (by simp)
    · have e : kd = 2 := by omega
      subst e
      unfold ecN at h
      split at h
      · split at h
        · rename_i q
          split at h
          · rw [← Option.some.inj h, q]
            rfl
          · exact absurd h (by simp)
        · rename_i q
          rw [← Option.some.inj h, Bool.eq_false_iff.mpr q]
          rfl
      · exact absurd h (by simp)
theorem kyKind_le {kd : Nat} (h : kyKind J = some kd) : kd ≤ 2 := by
  unfold kyKind at h
  split at h
  · have := Option.some.inj h
    omega
  · split at h
    · have := Option.some.inj h
      omega
    · split at h
      · have := Option.some.inj h
        omega
      · exact absurd h (by simp)
/-- the numbers, taken -/
theorem Q5_take {kd : Nat} (X : Cx G F W) (H : isKo W j) (K : isTx W t ip) (hip : ip < 16) (C : TbC (S 9 t) J) (Y : JX J) (bp : Byt 8192 (S 0 ip) J.2.2 lp) (E : KyT S j ([], [], none)) (hk : kd ≤ 2) (hL : kyL J kd = true) (h1 : (S 5 j).f 1 = (Int32.ofNat kd)) (h5 : (S 5 j).f 5 = if kyD J kd = true then 1 else 0) (sz sl : Nat) : ∃ S', fr (kyFr j) S S' ∧ KyE S' j ∧ B_X5_reasonAgainst_183 G F (W.ad (.o 5 j)) (W.ad (.o 9 t)) (Int32.ofNat kd) (mem W S) sz sl = B_X5_reasonAgainst_251 G F (W.ad (.o 5 j)) (W.ad (.o 9 t)) (if (kyN J kd).isSome = true then 1 else 0) (mem W S') sz sl ∧ ∀ k, kyN J kd = some k → KyT S' j k := by
  have r6 : ∀ S : ST, gfR (mem W S) (W.ad (.o 5 j)) 5 6 = some (W.ad (.o 0 (16 + 3 * j))) := fun S => gfR_m H.1 rfl H.2.1
  have r8 : ∀ S : ST, gfR (mem W S) (W.ad (.o 5 j)) 5 8 = some (W.ad (.o 0 (18 + 3 * j))) := fun S => gfR_m H.1 rfl H.2.2.2.1
  unfold B_X5_reasonAgainst_183 kyN
  by_cases c0 : kd = 0
  · subst c0
    have hL : (ltB J (fd J 24)).isSome = true := by unfold kyL at hL; rw [if_pos rfl] at hL; exact hL
    obtain ⟨E1, E2, E3⟩ := E
    obtain ⟨o1, g1, b1⟩ := put0 (G := G) (F := F) (lo := 1) (hi := 128) X K C Y bp (fN_b Y) H.2.2.2.2.1 E1 (by omega) (by decide) (by decide) hL
    have g1 : P_X9_putLettered G F (W.ad (.o 9 t)) (oI (fd J 24)) 1 128 (W.ad (.o 0 (16 + 3 * j))) (mem W S) = _ := g1
    have E3 : Byt 128 (S 0 (18 + 3 * j)) [] false := E3
    have t17 : Byt 128 ((S.so 0 (16 + 3 * j) o1) 0 (17 + 3 * j)) [] false := by rw [so_ne (by omega)]; exact E2
    have t18 : Byt 128 ((S.so 0 (16 + 3 * j) o1) 0 (18 + 3 * j)) [] false := by rw [so_ne (by omega)]; exact E3
    rw [if_pos (show (Int32.ofNat 0) = (0 : Int32) from rfl), if_pos rfl, rcv_m K.1, bO_s, Q9_find0 X K C Y bp (by decide), bP_s, r6, bO_s, rcv_m K.1, bO_s, g1, bP_s]
    refine ⟨S.so 0 (16 + 3 * j) o1, fr_so (by simp [kyFr]), ⟨⟨_, _, by rw [so_eq]; exact b1⟩, ⟨_, _, t17⟩, _, _, t18⟩, ?_, fun k hk => ?_⟩
    · by_cases c : inL (lB J (fd J 24)) 1 128 = true
      · rw [if_pos c, if_pos c]
        rfl
      · rw [if_neg c, if_neg c]
        rfl
    · split at hk
      · rename_i c
        rw [← Option.some.inj hk]
        rw [if_pos c] at b1
        exact ⟨by rw [so_eq]; exact b1, t17, t18⟩
      · exact absurd hk (by simp)
  · rw [if_neg (show ¬ (Int32.ofNat kd) = (0 : Int32) from fun q => c0 ((n_eq (b := 0) (by omega) (by omega)).mp q)), if_neg c0, ko_I H rfl, bO_s, h1]
    unfold B_X5_reasonAgainst_213
    by_cases c1 : kd = 1
    · subst c1
      have r := Q5_takeRsa (G := G) (F := F) X H K hip C Y bp E hL h5
      rw [if_pos (show (Int32.ofNat 1) = (1 : Int32) from rfl), if_pos rfl, rcv_m H.1, bO_s]
      cases hr : rsaN J with
      | none =>
        rw [hr] at r
        obtain ⟨S', g, f, e⟩ := r
        rw [g, bP_s]
        exact ⟨S', f, e, rfl, fun k hk => absurd hk (by simp)⟩
      | some k =>
        rw [hr] at r
        obtain ⟨S', g, f, e⟩ := r
        rw [g, bP_s]
        exact ⟨S', f, e.e, rfl, fun k' hk => by rw [← Option.some.inj hk]; exact e⟩
    · have c2 : kd = 2 := by omega
      subst c2
      have hL' : ptL J (some 0) = true ∧ (kyD J 2 = false ∨ (ltB J (fd J 23)).isSome = true) := by
        unfold kyL at hL
        rw [if_neg (by decide), if_neg (by decide), Bool.and_eq_true, Bool.or_eq_true, Bool.not_eq_true'] at hL
        exact hL
      obtain ⟨lp1, l23⟩ := hL'
      unfold ptL at lp1
      rw [Bool.and_eq_true, Bool.and_eq_true] at lp1
      obtain ⟨E1, E2, E3⟩ := E
      have E3 : Byt 128 (S 0 (18 + 3 * j)) [] false := E3
      obtain ⟨o1, g1, b1⟩ := Q5_takePoint (G := G) (F := F) (o := some 0) (x := 0) X K C Y bp (fun i h => by have := Option.some.inj h; omega) rfl H.2.2.2.2.1 (by decide) E1 (by omega) lp1.2.1 lp1.2.2
      obtain ⟨S1, hS1⟩ : ∃ S1, S1 = S.so 0 (16 + 3 * j) o1 := ⟨_, rfl⟩
      rw [← hS1] at g1
      have f1 : fr (kyFr j) S S1 := by rw [hS1]; exact fr_so (by simp [kyFr])
      have C1 : TbC (S1 9 t) J := by rw [hS1, so_ne (by omega)]; exact C
      have bp1 : Byt 8192 (S1 0 ip) J.2.2 lp := by rw [hS1, so_ne (by omega)]; exact bp
      have e17 : Byt 128 (S1 0 (17 + 3 * j)) [] false := by rw [hS1, so_ne (by omega)]; exact E2
      have e18 : Byt 128 (S1 0 (18 + 3 * j)) [] false := by rw [hS1, so_ne (by omega)]; exact E3
      have h51 : (S1 5 j).f 5 = if kyD J 2 = true then 1 else 0 := by rw [f1 5 j (by simp [kyFr])]; exact h5
      rw [if_neg (show ¬ (Int32.ofNat 2) = (1 : Int32) by decide), if_neg (show ¬ (2 : Nat) = 1 by decide), r6, bO_s, g1, bP_s]
      unfold ecN B_X5_reasonAgainst_233
      by_cases c : inL (lB J (fd J 29)) 32 32 = true ∧ inL (lB J (fd J 30)) 32 32 = true
      · rw [if_pos c] at b1
        have d16 : Byt 128 (S1 0 (16 + 3 * j)) (lB J (fd J 29) ++ lB J (fd J 30)) false := by rw [hS1, so_eq]; exact b1
        rw [if_pos c, if_neg (by decide), if_pos c, rcv_m H.1, bO_s]
        unfold P_X5_takeCurveSecret
        rw [ko_I H rfl, bO_s, h51]
        by_cases cD : kyD J 2 = true
        · have l23' := l23.resolve_left (by rw [cD]; decide)
          obtain ⟨o3, g3, b3⟩ := put0 (G := G) (F := F) (S := S1) (lo := 32) (hi := 32) X K C1 Y bp1 (fN_b Y) H.2.2.2.2.2.2 e18 (by omega) (by decide) (by decide) l23'
          have g3 : P_X9_putLettered G F (W.ad (.o 9 t)) (oI (fd J 23)) 32 32 (W.ad (.o 0 (18 + 3 * j))) (mem W S1) = _ := g3
          have t16 : Byt 128 ((S1.so 0 (18 + 3 * j) o3) 0 (16 + 3 * j)) (lB J (fd J 29) ++ lB J (fd J 30)) false := by rw [so_ne (by omega)]; exact d16
          have t17 : Byt 128 ((S1.so 0 (18 + 3 * j) o3) 0 (17 + 3 * j)) [] false := by rw [so_ne (by omega)]; exact e17
          rw [if_pos cD, if_neg (by decide), if_pos cD, rcv_m K.1, bO_s, Q9_find0 X K C1 Y bp1 (by decide), bP_s, r8, bO_s, rcv_m K.1, bO_s, g3, bP_s]
          unfold B_X5_reasonAgainst_241
          refine ⟨S1.so 0 (18 + 3 * j) o3, f1.trans (fr_so (by simp [kyFr])), ⟨⟨_, _, t16⟩, ⟨_, _, t17⟩, _, _, by rw [so_eq]; exact b3⟩, ?_, fun k hk => ?_⟩
          · by_cases c6 : inL (lB J (fd J 23)) 32 32 = true
            · rw [if_pos c6, if_pos c6]
              rfl
            · rw [if_neg c6, if_neg c6]
              rfl
          · split at hk
            · rename_i c6
              rw [if_pos c6] at b3
              rw [← Option.some.inj hk]
              exact ⟨t16, t17, by rw [so_eq]; exact b3⟩
            · exact absurd hk (by simp)
        · rw [if_neg cD, if_pos rfl, if_neg cD]
          unfold B_X5_reasonAgainst_241
          exact ⟨S1, f1, ⟨⟨_, _, d16⟩, ⟨_, _, e17⟩, _, _, e18⟩, rfl, fun k hk => by rw [← Option.some.inj hk]; exact ⟨d16, e17, e18⟩⟩
      · rw [if_neg c] at b1
        obtain ⟨xs, l, b1⟩ := b1
        rw [if_neg c, if_pos rfl, if_neg c]
        exact ⟨S1, f1, ⟨⟨xs, l, by rw [hS1, so_eq]; exact b1⟩, ⟨_, _, e17⟩, _, _, e18⟩, rfl, fun k hk => absurd hk (by simp)⟩
end KYX
