/-! SealedTokens$Curve.sumUp(LSealedTokens$Bytes;[[JLSealedTokens$Bytes;[[J)V -/
theorem dX3_sumUp_0 : decode cX3_sumUp 0 = .ok (.iconst 0, 1) := by decide +kernel
theorem dX3_sumUp_1 : decode cX3_sumUp 1 = .ok (.istore 5, 2) := by decide +kernel
theorem dX3_sumUp_3 : decode cX3_sumUp 3 = .ok (.iload 5, 2) := by decide +kernel
theorem dX3_sumUp_5 : decode cX3_sumUp 5 = .ok (.bipush 8, 2) := by decide +kernel
theorem dX3_sumUp_7 : decode cX3_sumUp 7 = .ok (.if_icmp .ge 19, 3) := by decide +kernel
theorem dX3_sumUp_10 : decode cX3_sumUp 10 = .ok (.aload_n 0, 1) := by decide +kernel
theorem dX3_sumUp_11 : decode cX3_sumUp 11 = .ok (.getfield 59, 3) := by decide +kernel
theorem dX3_sumUp_14 : decode cX3_sumUp 14 = .ok (.iconst 2, 1) := by decide +kernel
theorem dX3_sumUp_15 : decode cX3_sumUp 15 = .ok (.aaload, 1) := by decide +kernel
theorem dX3_sumUp_16 : decode cX3_sumUp 16 = .ok (.iload 5, 2) := by decide +kernel
theorem dX3_sumUp_18 : decode cX3_sumUp 18 = .ok (.lconst 0, 1) := by decide +kernel
theorem dX3_sumUp_19 : decode cX3_sumUp 19 = .ok (.lastore, 1) := by decide +kernel
theorem dX3_sumUp_20 : decode cX3_sumUp 20 = .ok (.iinc 5 1, 3) := by decide +kernel
theorem dX3_sumUp_23 : decode cX3_sumUp 23 = .ok (.goto (-20), 3) := by decide +kernel
theorem dX3_sumUp_26 : decode cX3_sumUp 26 = .ok (.iconst 0, 1) := by decide +kernel
theorem dX3_sumUp_27 : decode cX3_sumUp 27 = .ok (.istore 5, 2) := by decide +kernel
theorem dX3_sumUp_29 : decode cX3_sumUp 29 = .ok (.iload 5, 2) := by decide +kernel
theorem dX3_sumUp_31 : decode cX3_sumUp 31 = .ok (.sipush 256, 3) := by decide +kernel
theorem dX3_sumUp_34 : decode cX3_sumUp 34 = .ok (.if_icmp .ge 84, 3) := by decide +kernel
theorem dX3_sumUp_37 : decode cX3_sumUp 37 = .ok (.aload_n 0, 1) := by decide +kernel
theorem dX3_sumUp_38 : decode cX3_sumUp 38 = .ok (.invokevirtual 152, 3) := by decide +kernel
theorem dX3_sumUp_41 : decode cX3_sumUp 41 = .ok (.bipush 7, 2) := by decide +kernel
theorem dX3_sumUp_43 : decode cX3_sumUp 43 = .ok (.iload 5, 2) := by decide +kernel
theorem dX3_sumUp_45 : decode cX3_sumUp 45 = .ok (.bipush 7, 2) := by decide +kernel
theorem dX3_sumUp_47 : decode cX3_sumUp 47 = .ok (.iand, 1) := by decide +kernel
theorem dX3_sumUp_48 : decode cX3_sumUp 48 = .ok (.isub, 1) := by decide +kernel
theorem dX3_sumUp_49 : decode cX3_sumUp 49 = .ok (.istore 6, 2) := by decide +kernel
theorem dX3_sumUp_51 : decode cX3_sumUp 51 = .ok (.aload_n 1, 1) := by decide +kernel
theorem dX3_sumUp_52 : decode cX3_sumUp 52 = .ok (.iload 5, 2) := by decide +kernel
theorem dX3_sumUp_54 : decode cX3_sumUp 54 = .ok (.bipush 8, 2) := by decide +kernel
theorem dX3_sumUp_56 : decode cX3_sumUp 56 = .ok (.idiv, 1) := by decide +kernel
theorem dX3_sumUp_57 : decode cX3_sumUp 57 = .ok (.invokevirtual 155, 3) := by decide +kernel
theorem dX3_sumUp_60 : decode cX3_sumUp 60 = .ok (.iload 6, 2) := by decide +kernel
theorem dX3_sumUp_62 : decode cX3_sumUp 62 = .ok (.ishr, 1) := by decide +kernel
theorem dX3_sumUp_63 : decode cX3_sumUp 63 = .ok (.iconst 1, 1) := by decide +kernel
theorem dX3_sumUp_64 : decode cX3_sumUp 64 = .ok (.iand, 1) := by decide +kernel
theorem dX3_sumUp_65 : decode cX3_sumUp 65 = .ok (.iconst 1, 1) := by decide +kernel
theorem dX3_sumUp_66 : decode cX3_sumUp 66 = .ok (.if_icmp .ne 15, 3) := by decide +kernel
theorem dX3_sumUp_69 : decode cX3_sumUp 69 = .ok (.aload_n 0, 1) := by decide +kernel
theorem dX3_sumUp_70 : decode cX3_sumUp 70 = .ok (.aload_n 2, 1) := by decide +kernel
theorem dX3_sumUp_71 : decode cX3_sumUp 71 = .ok (.invokevirtual 158, 3) := by decide +kernel
theorem dX3_sumUp_74 : decode cX3_sumUp 74 = .ok (.ifCond .ne 7, 3) := by decide +kernel
theorem dX3_sumUp_77 : decode cX3_sumUp 77 = .ok (.aload_n 0, 1) := by decide +kernel
theorem dX3_sumUp_78 : decode cX3_sumUp 78 = .ok (.invokevirtual 152, 3) := by decide +kernel
theorem dX3_sumUp_81 : decode cX3_sumUp 81 = .ok (.aload_n 3, 1) := by decide +kernel
theorem dX3_sumUp_82 : decode cX3_sumUp 82 = .ok (.iload 5, 2) := by decide +kernel
theorem dX3_sumUp_84 : decode cX3_sumUp 84 = .ok (.bipush 8, 2) := by decide +kernel
theorem dX3_sumUp_86 : decode cX3_sumUp 86 = .ok (.idiv, 1) := by decide +kernel
theorem dX3_sumUp_87 : decode cX3_sumUp 87 = .ok (.invokevirtual 155, 3) := by decide +kernel
theorem dX3_sumUp_90 : decode cX3_sumUp 90 = .ok (.iload 6, 2) := by decide +kernel
theorem dX3_sumUp_92 : decode cX3_sumUp 92 = .ok (.ishr, 1) := by decide +kernel
theorem dX3_sumUp_93 : decode cX3_sumUp 93 = .ok (.iconst 1, 1) := by decide +kernel
theorem dX3_sumUp_94 : decode cX3_sumUp 94 = .ok (.iand, 1) := by decide +kernel
theorem dX3_sumUp_95 : decode cX3_sumUp 95 = .ok (.iconst 1, 1) := by decide +kernel
theorem dX3_sumUp_96 : decode cX3_sumUp 96 = .ok (.if_icmp .ne 16, 3) := by decide +kernel
theorem dX3_sumUp_99 : decode cX3_sumUp 99 = .ok (.aload_n 0, 1) := by decide +kernel
theorem dX3_sumUp_100 : decode cX3_sumUp 100 = .ok (.aload 4, 2) := by decide +kernel
theorem dX3_sumUp_102 : decode cX3_sumUp 102 = .ok (.invokevirtual 158, 3) := by decide +kernel
theorem dX3_sumUp_105 : decode cX3_sumUp 105 = .ok (.ifCond .ne 7, 3) := by decide +kernel
theorem dX3_sumUp_108 : decode cX3_sumUp 108 = .ok (.aload_n 0, 1) := by decide +kernel
theorem dX3_sumUp_109 : decode cX3_sumUp 109 = .ok (.invokevirtual 152, 3) := by decide +kernel
theorem dX3_sumUp_112 : decode cX3_sumUp 112 = .ok (.iinc 5 1, 3) := by decide +kernel
theorem dX3_sumUp_115 : decode cX3_sumUp 115 = .ok (.goto (-86), 3) := by decide +kernel
theorem dX3_sumUp_118 : decode cX3_sumUp 118 = .ok (.return_, 1) := by decide +kernel
abbrev rmX3_sumUp : Room := { frames := 4, cells := 0, slots := 0, locals := 139 }
set_option maxHeartbeats 4000000 in
set_option maxRecDepth 100000 in
theorem wB_X3_sumUp_81 {G : mG} {F : Nat} {x : mXT} {sz : Nat} {M0 : mM} (X : mCX G RX3 cX3_sumUp 7 none "sumUp" rmX3_sumUp x) (hQ : mQV x M0 (sz, 0, 0)) (r29 : Nat → Nat → Nat → Nat → Nat → Int32 → mM → Option mM) (hr29 : ∀ (l0 : Nat) (l1 : Nat) (l2 : Nat) (l3 : Nat) (l4 : Nat) (l5 : Int32) (M : mM), r29 l0 l1 l2 l3 l4 l5 M = some M0 → WW x (sz, 0, 0) M 29 [(0, .ref l0), (1, .ref l1), (2, .ref l2), (3, .ref l3), (4, .ref l4), (5, .int l5)] []) {l0 : Nat} {l1 : Nat} {l2 : Nat} {l3 : Nat} {l4 : Nat} {l5 : Int32} {l6 : Int32} {M : mM} (h : B_X3_sumUp_81 G F r29 l0 l1 l2 l3 l4 l5 l6 M = some M0) : WW x (sz, 0, 0) M 81 [(0, .ref l0), (1, .ref l1), (2, .ref l2), (3, .ref l3), (4, .ref l4), (5, .int l5), (6, .int l6)] [] := by
  unfold B_X3_sumUp_81 at h
  refine ww_aload_n 81 X dX3_sumUp_81 3 rfl rfl ?_
  refine ww_iload 82 X dX3_sumUp_82 5 rfl ?_
  refine ww_bipush 84 X (v := (8 : Int32)) dX3_sumUp_84 (by decide) ?_
  refine ww_idiv 86 X (v := (l5 / (8 : Int32))) dX3_sumUp_86 rfl ?_
  obtain ⟨_, f87, h⟩ := bO_some h
  obtain ⟨v87, M87, e87, h⟩ := bP_some h
  refine ww_callVI0 87 X dX3_sumUp_87 mY_X0_get mL_X3_155 (rcv_spec f87) ⟨_, _, rfl⟩ (by decide) (As := [.int (l5 / (8 : Int32))]) (rest := []) rfl rfl ⟨Nat.le_of_ble_eq_true rfl, Nat.le_of_ble_eq_true rfl⟩ (Nat.le_of_ble_eq_true rfl) (fun l D A => c_X0_get l D A e87) ?_
  refine ww_iload 90 X dX3_sumUp_90 6 rfl ?_
  refine ww_ishr 92 X dX3_sumUp_92 ?_
  refine ww_iconst 93 X (v := (1 : Int32)) dX3_sumUp_93 (by decide) ?_
  refine ww_iand 94 X dX3_sumUp_94 ?_
  refine ww_iconst 95 X (v := (1 : Int32)) dX3_sumUp_95 (by decide) ?_
  refine ww_icmp_ne 96 112 X dX3_sumUp_96 (by decide) (fun q => ?_) (fun q => ?_)
  · replace h := (if_neg q).symm.trans h
    refine ww_iinc 112 X dX3_sumUp_112 (lv' := [(0, .ref l0), (1, .ref l1), (2, .ref l2), (3, .ref l3), (4, .ref l4), (5, .int (l5 + 1)), (6, .int l6)]) 5 rfl rfl (by decide) [1, 2, 3, 4, 5, 0, 6] rfl ?_
    refine ww_goto 115 29 X dX3_sumUp_115 (by decide) ?_
    exact ww_sub [0, 1, 2, 3, 4, 5] rfl (hr29 _ _ _ _ _ _ _ h)
  · replace h := (if_pos q).symm.trans h
    refine ww_aload_n 99 X dX3_sumUp_99 0 rfl rfl ?_
    refine ww_aload 100 X dX3_sumUp_100 4 rfl ?_
    obtain ⟨_, f102, h⟩ := bO_some h
    obtain ⟨v102, M102, e102, h⟩ := bP_some h
    refine ww_callVI0 102 X dX3_sumUp_102 mY_X3_add mL_X3_158 (rcv_spec f102) ⟨_, _, rfl⟩ (by decide) (As := [.ref l4]) (rest := []) rfl rfl ⟨Nat.le_of_ble_eq_true rfl, Nat.le_of_ble_eq_true rfl⟩ (Nat.le_of_ble_eq_true rfl) (fun l D A => c_X3_add l D A e102) ?_
    refine ww_if_ne 105 112 X dX3_sumUp_105 (by decide) (fun q => ?_) (fun q => ?_)
    · replace h := (if_neg q).symm.trans h
      refine ww_iinc 112 X dX3_sumUp_112 (lv' := [(0, .ref l0), (1, .ref l1), (2, .ref l2), (3, .ref l3), (4, .ref l4), (5, .int (l5 + 1)), (6, .int l6)]) 5 rfl rfl (by decide) [1, 2, 3, 4, 5, 0, 6] rfl ?_
      refine ww_goto 115 29 X dX3_sumUp_115 (by decide) ?_
      exact ww_sub [0, 1, 2, 3, 4, 5] rfl (hr29 _ _ _ _ _ _ _ h)
    · replace h := (if_pos q).symm.trans h
      refine ww_aload_n 108 X dX3_sumUp_108 0 rfl rfl ?_
      obtain ⟨_, f109, h⟩ := bO_some h
      obtain ⟨M109, e109, h⟩ := bO_some h
      refine ww_callVV0 109 X dX3_sumUp_109 mY_X3_twice mL_X3_152 (rcv_spec f109) ⟨_, _, rfl⟩ (by decide) (As := []) (rest := []) rfl rfl ⟨Nat.le_of_ble_eq_true rfl, Nat.le_of_ble_eq_true rfl⟩ (Nat.le_of_ble_eq_true rfl) (fun l D A => c_X3_twice l D A e109) ?_
      refine ww_iinc 112 X dX3_sumUp_112 (lv' := [(0, .ref l0), (1, .ref l1), (2, .ref l2), (3, .ref l3), (4, .ref l4), (5, .int (l5 + 1)), (6, .int l6)]) 5 rfl rfl (by decide) [1, 2, 3, 4, 5, 0, 6] rfl ?_
      refine ww_goto 115 29 X dX3_sumUp_115 (by decide) ?_
      exact ww_sub [0, 1, 2, 3, 4, 5] rfl (hr29 _ _ _ _ _ _ _ h)
set_option maxHeartbeats 4000000 in
set_option maxRecDepth 100000 in
theorem wB_X3_sumUp_29 {G : mG} {F : Nat} {x : mXT} {sz : Nat} {M0 : mM} (X : mCX G RX3 cX3_sumUp 7 none "sumUp" rmX3_sumUp x) (hQ : mQV x M0 (sz, 0, 0)) : ∀ (n : Nat) (l0 : Nat) (l1 : Nat) (l2 : Nat) (l3 : Nat) (l4 : Nat) (l5 : Int32) (M : mM), B_X3_sumUp_29 G F n l0 l1 l2 l3 l4 l5 M = some M0 → WW x (sz, 0, 0) M 29 [(0, .ref l0), (1, .ref l1), (2, .ref l2), (3, .ref l3), (4, .ref l4), (5, .int l5)] [] := by
  intro n
  induction n with
  | zero =>
    intro l0 l1 l2 l3 l4 l5 M h
    exact nomatch (show (none : Option mM) = some M0 from h)
  | succ n ih =>
    intro l0 l1 l2 l3 l4 l5 M h
    rw [B_X3_sumUp_29] at h
    refine ww_iload 29 X dX3_sumUp_29 5 rfl ?_
    refine ww_sipush 31 X (v := (256 : Int32)) dX3_sumUp_31 (by decide) ?_
    refine ww_icmp_ge 34 118 X dX3_sumUp_34 (by decide) (fun q => ?_) (fun q => ?_)
    · replace h := (if_pos q).symm.trans h
      exact ww_vretE 118 X hQ dX3_sumUp_118 h
    · replace h := (if_neg q).symm.trans h
      refine ww_aload_n 37 X dX3_sumUp_37 0 rfl rfl ?_
      obtain ⟨_, f38, h⟩ := bO_some h
      obtain ⟨M38, e38, h⟩ := bO_some h
      refine ww_callVV0 38 X dX3_sumUp_38 mY_X3_twice mL_X3_152 (rcv_spec f38) ⟨_, _, rfl⟩ (by decide) (As := []) (rest := []) rfl rfl ⟨Nat.le_of_ble_eq_true rfl, Nat.le_of_ble_eq_true rfl⟩ (Nat.le_of_ble_eq_true rfl) (fun l D A => c_X3_twice l D A e38) ?_
      refine ww_bipush 41 X (v := (7 : Int32)) dX3_sumUp_41 (by decide) ?_
      refine ww_iload 43 X dX3_sumUp_43 5 rfl ?_
      refine ww_bipush 45 X (v := (7 : Int32)) dX3_sumUp_45 (by decide) ?_
      refine ww_iand 47 X dX3_sumUp_47 ?_
      refine ww_isub 48 X dX3_sumUp_48 ?_
      refine ww_istore 49 X dX3_sumUp_49 (lv' := [(0, .ref l0), (1, .ref l1), (2, .ref l2), (3, .ref l3), (4, .ref l4), (5, .int l5), (6, .int ((7 : Int32) - (l5 &&& (7 : Int32))))]) (by decide) [1, 2, 3, 4, 5, 6, 0] rfl ?_
      refine ww_aload_n 51 X dX3_sumUp_51 1 rfl rfl ?_
      refine ww_iload 52 X dX3_sumUp_52 5 rfl ?_
      refine ww_bipush 54 X (v := (8 : Int32)) dX3_sumUp_54 (by decide) ?_
      refine ww_idiv 56 X (v := (l5 / (8 : Int32))) dX3_sumUp_56 rfl ?_
      obtain ⟨_, f57, h⟩ := bO_some h
      obtain ⟨v57, M57, e57, h⟩ := bP_some h
      refine ww_callVI0 57 X dX3_sumUp_57 mY_X0_get mL_X3_155 (rcv_spec f57) ⟨_, _, rfl⟩ (by decide) (As := [.int (l5 / (8 : Int32))]) (rest := []) rfl rfl ⟨Nat.le_of_ble_eq_true rfl, Nat.le_of_ble_eq_true rfl⟩ (Nat.le_of_ble_eq_true rfl) (fun l D A => c_X0_get l D A e57) ?_
      refine ww_iload 60 X dX3_sumUp_60 6 rfl ?_
      refine ww_ishr 62 X dX3_sumUp_62 ?_
      refine ww_iconst 63 X (v := (1 : Int32)) dX3_sumUp_63 (by decide) ?_
      refine ww_iand 64 X dX3_sumUp_64 ?_
      refine ww_iconst 65 X (v := (1 : Int32)) dX3_sumUp_65 (by decide) ?_
      refine ww_icmp_ne 66 81 X dX3_sumUp_66 (by decide) (fun q => ?_) (fun q => ?_)
      · replace h := (if_neg q).symm.trans h
        exact (wB_X3_sumUp_81 X hQ _ ih h)
      · replace h := (if_pos q).symm.trans h
        refine ww_aload_n 69 X dX3_sumUp_69 0 rfl rfl ?_
        refine ww_aload_n 70 X dX3_sumUp_70 2 rfl rfl ?_
        obtain ⟨_, f71, h⟩ := bO_some h
        obtain ⟨v71, M71, e71, h⟩ := bP_some h
        refine ww_callVI0 71 X dX3_sumUp_71 mY_X3_add mL_X3_158 (rcv_spec f71) ⟨_, _, rfl⟩ (by decide) (As := [.ref l2]) (rest := []) rfl rfl ⟨Nat.le_of_ble_eq_true rfl, Nat.le_of_ble_eq_true rfl⟩ (Nat.le_of_ble_eq_true rfl) (fun l D A => c_X3_add l D A e71) ?_
        refine ww_if_ne 74 81 X dX3_sumUp_74 (by decide) (fun q => ?_) (fun q => ?_)
        · replace h := (if_neg q).symm.trans h
          exact (wB_X3_sumUp_81 X hQ _ ih h)
        · replace h := (if_pos q).symm.trans h
          refine ww_aload_n 77 X dX3_sumUp_77 0 rfl rfl ?_
          obtain ⟨_, f78, h⟩ := bO_some h
          obtain ⟨M78, e78, h⟩ := bO_some h
          refine ww_callVV0 78 X dX3_sumUp_78 mY_X3_twice mL_X3_152 (rcv_spec f78) ⟨_, _, rfl⟩ (by decide) (As := []) (rest := []) rfl rfl ⟨Nat.le_of_ble_eq_true rfl, Nat.le_of_ble_eq_true rfl⟩ (Nat.le_of_ble_eq_true rfl) (fun l D A => c_X3_twice l D A e78) ?_
          exact (wB_X3_sumUp_81 X hQ _ ih h)
set_option maxHeartbeats 4000000 in
set_option maxRecDepth 100000 in
theorem wB_X3_sumUp_3 {G : mG} {F : Nat} {x : mXT} {sz : Nat} {M0 : mM} (X : mCX G RX3 cX3_sumUp 7 none "sumUp" rmX3_sumUp x) (hQ : mQV x M0 (sz, 0, 0)) : ∀ (n : Nat) (l0 : Nat) (l1 : Nat) (l2 : Nat) (l3 : Nat) (l4 : Nat) (l5 : Int32) (M : mM), B_X3_sumUp_3 G F n l0 l1 l2 l3 l4 l5 M = some M0 → WW x (sz, 0, 0) M 3 [(0, .ref l0), (1, .ref l1), (2, .ref l2), (3, .ref l3), (4, .ref l4), (5, .int l5)] [] := by
  intro n
  induction n with
  | zero =>
    intro l0 l1 l2 l3 l4 l5 M h
    exact nomatch (show (none : Option mM) = some M0 from h)
  | succ n ih =>
    intro l0 l1 l2 l3 l4 l5 M h
    rw [B_X3_sumUp_3] at h
    refine ww_iload 3 X dX3_sumUp_3 5 rfl ?_
    refine ww_bipush 5 X (v := (8 : Int32)) dX3_sumUp_5 (by decide) ?_
    refine ww_icmp_ge 7 26 X dX3_sumUp_7 (by decide) (fun q => ?_) (fun q => ?_)
    · replace h := (if_pos q).symm.trans h
      refine ww_iconst 26 X (v := (0 : Int32)) dX3_sumUp_26 (by decide) ?_
      refine ww_istore 27 X dX3_sumUp_27 (lv' := [(0, .ref l0), (1, .ref l1), (2, .ref l2), (3, .ref l3), (4, .ref l4), (5, .int (0 : Int32))]) (by decide) [1, 2, 3, 4, 5, 0] rfl ?_
      exact (wB_X3_sumUp_29 X hQ F _ _ _ _ _ _ _ h)
    · replace h := (if_neg q).symm.trans h
      refine ww_aload_n 10 X dX3_sumUp_10 0 rfl rfl ?_
      obtain ⟨v11, e11, h⟩ := bO_some h
      refine ww_getR 11 X dX3_sumUp_11 fG_X3_59 e11 ?_
      refine ww_iconst 14 X (v := (2 : Int32)) dX3_sumUp_14 (by decide) ?_
      obtain ⟨v15, e15, h⟩ := bO_some h
      refine ww_aald6 15 X dX3_sumUp_15 e15 ?_
      refine ww_iload 16 X dX3_sumUp_16 5 rfl ?_
      refine ww_lconst 18 X (v := (0 : Int64)) dX3_sumUp_18 (by decide) ?_
      obtain ⟨M19, e19, h⟩ := bO_some h
      refine ww_last 19 X dX3_sumUp_19 e19 ?_
      refine ww_iinc 20 X dX3_sumUp_20 (lv' := [(0, .ref l0), (1, .ref l1), (2, .ref l2), (3, .ref l3), (4, .ref l4), (5, .int (l5 + 1))]) 5 rfl rfl (by decide) [1, 2, 3, 4, 5, 0] rfl ?_
      refine ww_goto 23 3 X dX3_sumUp_23 (by decide) ?_
      exact (ih _ _ _ _ _ _ _ h)
set_option maxHeartbeats 4000000 in
set_option maxRecDepth 100000 in
theorem wP_X3_sumUp {G : mG} {F : Nat} {x : mXT} {sz : Nat} {M0 : mM} (X : mCX G RX3 cX3_sumUp 7 none "sumUp" rmX3_sumUp x) (hQ : mQV x M0 (sz, 0, 0)) {l0 : Nat} {l1 : Nat} {l2 : Nat} {l3 : Nat} {l4 : Nat} {M : mM} (h : P_X3_sumUp G F l0 l1 l2 l3 l4 M = some M0) : WW x (sz, 0, 0) M 0 [(0, .ref l0), (1, .ref l1), (2, .ref l2), (3, .ref l3), (4, .ref l4)] [] := by
  unfold P_X3_sumUp at h
  refine ww_iconst 0 X (v := (0 : Int32)) dX3_sumUp_0 (by decide) ?_
  refine ww_istore 1 X dX3_sumUp_1 (lv' := [(0, .ref l0), (1, .ref l1), (2, .ref l2), (3, .ref l3), (4, .ref l4), (5, .int (0 : Int32))]) (by decide) [1, 2, 3, 4, 5, 0] rfl ?_
  exact (wB_X3_sumUp_3 X hQ F _ _ _ _ _ _ _ h)
theorem c_X3_sumUp {G : mG} {F sz : Nat} {M0 : mM} (l : Launch) (D : mD) (A : Nat → Prop) {l0 : Nat} {l1 : Nat} {l2 : Nat} {l3 : Nat} {l4 : Nat} {M : mM} (h : P_X3_sumUp G F l0 l1 l2 l3 l4 M = some M0) : mMetV l D G A yX3_sumUp cX3_sumUp 7 none 4 139 0 0 [.ref l0, .ref l1, .ref l2, .ref l3, .ref l4] M sz M0 sz := mMetV_of l D G A (by decide) (Nat.le_of_ble_eq_true rfl) (fun x X hQ => wP_X3_sumUp X hQ h)
/-! SealedTokens$Modulus.leadBack([J)V -/
theorem dX6_leadBack_0 : decode cX6_leadBack 0 = .ok (.aload_n 0, 1) := by decide +kernel
theorem dX6_leadBack_1 : decode cX6_leadBack 1 = .ok (.aload_n 1, 1) := by decide +kernel
theorem dX6_leadBack_2 : decode cX6_leadBack 2 = .ok (.aload_n 0, 1) := by decide +kernel
theorem dX6_leadBack_3 : decode cX6_leadBack 3 = .ok (.getfield 17, 3) := by decide +kernel
theorem dX6_leadBack_6 : decode cX6_leadBack 6 = .ok (.aload_n 1, 1) := by decide +kernel
theorem dX6_leadBack_7 : decode cX6_leadBack 7 = .ok (.invokevirtual 66, 3) := by decide +kernel
theorem dX6_leadBack_10 : decode cX6_leadBack 10 = .ok (.return_, 1) := by decide +kernel
abbrev rmX6_leadBack : Room := { frames := 3, cells := 0, slots := 0, locals := 115 }
set_option maxHeartbeats 4000000 in
set_option maxRecDepth 100000 in
theorem wP_X6_leadBack {G : mG} {F : Nat} {x : mXT} {sz : Nat} {M0 : mM} (X : mCX G RX6 cX6_leadBack 2 none "leadBack" rmX6_leadBack x) (hQ : mQV x M0 (sz, 0, 0)) {l0 : Nat} {l1 : Nat} {M : mM} (h : P_X6_leadBack G F l0 l1 M = some M0) : WW x (sz, 0, 0) M 0 [(0, .ref l0), (1, .ref l1)] [] := by
  unfold P_X6_leadBack at h
  refine ww_aload_n 0 X dX6_leadBack_0 0 rfl rfl ?_
  refine ww_aload_n 1 X dX6_leadBack_1 1 rfl rfl ?_
  refine ww_aload_n 2 X dX6_leadBack_2 0 rfl rfl ?_
  obtain ⟨v3, e3, h⟩ := bO_some h
  refine ww_getR 3 X dX6_leadBack_3 fG_X6_17 e3 ?_
  refine ww_aload_n 6 X dX6_leadBack_6 1 rfl rfl ?_
  obtain ⟨_, f7, h⟩ := bO_some h
  obtain ⟨M7, e7, h⟩ := bO_some h
  refine ww_callVV0 7 X dX6_leadBack_7 mY_X6_times mL_X6_66 (rcv_spec f7) ⟨_, _, rfl⟩ (by decide) (As := [.ref l1, .ref v3, .ref l1]) (rest := []) rfl rfl ⟨Nat.le_of_ble_eq_true rfl, Nat.le_of_ble_eq_true rfl⟩ (Nat.le_of_ble_eq_true rfl) (fun l D A => c_X6_times l D A e7) ?_
  exact ww_vretE 10 X hQ dX6_leadBack_10 h
theorem c_X6_leadBack {G : mG} {F sz : Nat} {M0 : mM} (l : Launch) (D : mD) (A : Nat → Prop) {l0 : Nat} {l1 : Nat} {M : mM} (h : P_X6_leadBack G F l0 l1 M = some M0) : mMetV l D G A yX6_leadBack cX6_leadBack 2 none 3 115 0 0 [.ref l0, .ref l1] M sz M0 sz := mMetV_of l D G A (by decide) (Nat.le_of_ble_eq_true rfl) (fun x X hQ => wP_X6_leadBack X hQ h)
/-! SealedTokens$Modulus.raise([JLSealedTokens$Bytes;[J)V -/
theorem dX6_raise_0 : decode cX6_raise 0 = .ok (.aload_n 0, 1) := by decide +kernel
theorem dX6_raise_1 : decode cX6_raise 1 = .ok (.aload_n 1, 1) := by decide +kernel
theorem dX6_raise_2 : decode cX6_raise 2 = .ok (.aload_n 0, 1) := by decide +kernel
theorem dX6_raise_3 : decode cX6_raise 3 = .ok (.getfield 20, 3) := by decide +kernel
theorem dX6_raise_6 : decode cX6_raise 6 = .ok (.aload_n 0, 1) := by decide +kernel
theorem dX6_raise_7 : decode cX6_raise 7 = .ok (.getfield 26, 3) := by decide +kernel
theorem dX6_raise_10 : decode cX6_raise 10 = .ok (.invokevirtual 66, 3) := by decide +kernel
theorem dX6_raise_13 : decode cX6_raise 13 = .ok (.aload_n 0, 1) := by decide +kernel
theorem dX6_raise_14 : decode cX6_raise 14 = .ok (.aload_n 0, 1) := by decide +kernel
theorem dX6_raise_15 : decode cX6_raise 15 = .ok (.getfield 17, 3) := by decide +kernel
theorem dX6_raise_18 : decode cX6_raise 18 = .ok (.aload_n 0, 1) := by decide +kernel
theorem dX6_raise_19 : decode cX6_raise 19 = .ok (.getfield 20, 3) := by decide +kernel
theorem dX6_raise_22 : decode cX6_raise 22 = .ok (.aload_n 0, 1) := by decide +kernel
theorem dX6_raise_23 : decode cX6_raise 23 = .ok (.getfield 23, 3) := by decide +kernel
theorem dX6_raise_26 : decode cX6_raise 26 = .ok (.invokevirtual 66, 3) := by decide +kernel
theorem dX6_raise_29 : decode cX6_raise 29 = .ok (.iconst 0, 1) := by decide +kernel
theorem dX6_raise_30 : decode cX6_raise 30 = .ok (.istore 4, 2) := by decide +kernel
theorem dX6_raise_32 : decode cX6_raise 32 = .ok (.iconst 0, 1) := by decide +kernel
theorem dX6_raise_33 : decode cX6_raise 33 = .ok (.istore 5, 2) := by decide +kernel
theorem dX6_raise_35 : decode cX6_raise 35 = .ok (.iload 5, 2) := by decide +kernel
theorem dX6_raise_37 : decode cX6_raise 37 = .ok (.bipush 8, 2) := by decide +kernel
theorem dX6_raise_39 : decode cX6_raise 39 = .ok (.aload_n 2, 1) := by decide +kernel
theorem dX6_raise_40 : decode cX6_raise 40 = .ok (.getfield 32, 3) := by decide +kernel
theorem dX6_raise_43 : decode cX6_raise 43 = .ok (.imul, 1) := by decide +kernel
theorem dX6_raise_44 : decode cX6_raise 44 = .ok (.if_icmp .ge 73, 3) := by decide +kernel
theorem dX6_raise_47 : decode cX6_raise 47 = .ok (.iload 4, 2) := by decide +kernel
theorem dX6_raise_49 : decode cX6_raise 49 = .ok (.ifCond .eq 19, 3) := by decide +kernel
theorem dX6_raise_52 : decode cX6_raise 52 = .ok (.aload_n 0, 1) := by decide +kernel
theorem dX6_raise_53 : decode cX6_raise 53 = .ok (.aload_n 0, 1) := by decide +kernel
theorem dX6_raise_54 : decode cX6_raise 54 = .ok (.getfield 23, 3) := by decide +kernel
theorem dX6_raise_57 : decode cX6_raise 57 = .ok (.aload_n 0, 1) := by decide +kernel
theorem dX6_raise_58 : decode cX6_raise 58 = .ok (.getfield 23, 3) := by decide +kernel
theorem dX6_raise_61 : decode cX6_raise 61 = .ok (.aload_n 0, 1) := by decide +kernel
theorem dX6_raise_62 : decode cX6_raise 62 = .ok (.getfield 23, 3) := by decide +kernel
theorem dX6_raise_65 : decode cX6_raise 65 = .ok (.invokevirtual 66, 3) := by decide +kernel
theorem dX6_raise_68 : decode cX6_raise 68 = .ok (.aload_n 2, 1) := by decide +kernel
theorem dX6_raise_69 : decode cX6_raise 69 = .ok (.iload 5, 2) := by decide +kernel
theorem dX6_raise_71 : decode cX6_raise 71 = .ok (.bipush 8, 2) := by decide +kernel
theorem dX6_raise_73 : decode cX6_raise 73 = .ok (.idiv, 1) := by decide +kernel
theorem dX6_raise_74 : decode cX6_raise 74 = .ok (.invokevirtual 37, 3) := by decide +kernel
theorem dX6_raise_77 : decode cX6_raise 77 = .ok (.bipush 7, 2) := by decide +kernel
theorem dX6_raise_79 : decode cX6_raise 79 = .ok (.iload 5, 2) := by decide +kernel
theorem dX6_raise_81 : decode cX6_raise 81 = .ok (.bipush 7, 2) := by decide +kernel
theorem dX6_raise_83 : decode cX6_raise 83 = .ok (.iand, 1) := by decide +kernel
theorem dX6_raise_84 : decode cX6_raise 84 = .ok (.isub, 1) := by decide +kernel
theorem dX6_raise_85 : decode cX6_raise 85 = .ok (.ishr, 1) := by decide +kernel
theorem dX6_raise_86 : decode cX6_raise 86 = .ok (.iconst 1, 1) := by decide +kernel
theorem dX6_raise_87 : decode cX6_raise 87 = .ok (.iand, 1) := by decide +kernel
theorem dX6_raise_88 : decode cX6_raise 88 = .ok (.iconst 1, 1) := by decide +kernel
theorem dX6_raise_89 : decode cX6_raise 89 = .ok (.if_icmp .ne 22, 3) := by decide +kernel
theorem dX6_raise_92 : decode cX6_raise 92 = .ok (.aload_n 0, 1) := by decide +kernel
theorem dX6_raise_93 : decode cX6_raise 93 = .ok (.aload_n 0, 1) := by decide +kernel
theorem dX6_raise_94 : decode cX6_raise 94 = .ok (.getfield 23, 3) := by decide +kernel
theorem dX6_raise_97 : decode cX6_raise 97 = .ok (.aload_n 0, 1) := by decide +kernel
theorem dX6_raise_98 : decode cX6_raise 98 = .ok (.getfield 26, 3) := by decide +kernel
theorem dX6_raise_101 : decode cX6_raise 101 = .ok (.aload_n 0, 1) := by decide +kernel
theorem dX6_raise_102 : decode cX6_raise 102 = .ok (.getfield 23, 3) := by decide +kernel
theorem dX6_raise_105 : decode cX6_raise 105 = .ok (.invokevirtual 66, 3) := by decide +kernel
theorem dX6_raise_108 : decode cX6_raise 108 = .ok (.iconst 1, 1) := by decide +kernel
theorem dX6_raise_109 : decode cX6_raise 109 = .ok (.istore 4, 2) := by decide +kernel
theorem dX6_raise_111 : decode cX6_raise 111 = .ok (.iinc 5 1, 3) := by decide +kernel
theorem dX6_raise_114 : decode cX6_raise 114 = .ok (.goto (-79), 3) := by decide +kernel
theorem dX6_raise_117 : decode cX6_raise 117 = .ok (.aload_n 0, 1) := by decide +kernel
theorem dX6_raise_118 : decode cX6_raise 118 = .ok (.aload_n 0, 1) := by decide +kernel
theorem dX6_raise_119 : decode cX6_raise 119 = .ok (.getfield 23, 3) := by decide +kernel
theorem dX6_raise_122 : decode cX6_raise 122 = .ok (.aload_n 0, 1) := by decide +kernel
theorem dX6_raise_123 : decode cX6_raise 123 = .ok (.getfield 17, 3) := by decide +kernel
theorem dX6_raise_126 : decode cX6_raise 126 = .ok (.aload_n 3, 1) := by decide +kernel
theorem dX6_raise_127 : decode cX6_raise 127 = .ok (.invokevirtual 66, 3) := by decide +kernel
theorem dX6_raise_130 : decode cX6_raise 130 = .ok (.return_, 1) := by decide +kernel
abbrev rmX6_raise : Room := { frames := 3, cells := 0, slots := 0, locals := 115 }
set_option maxHeartbeats 4000000 in
set_option maxRecDepth 100000 in
theorem wB_X6_raise_68 {G : mG} {F : Nat} {x : mXT} {sz : Nat} {M0 : mM} (X : mCX G RX6 cX6_raise 6 none "raise" rmX6_raise x) (hQ : mQV x M0 (sz, 0, 0)) (r35 : Nat → Nat → Nat → Int32 → Int32 → mM → Option mM) (hr35 : ∀ (l0 : Nat) (l2 : Nat) (l3 : Nat) (l4 : Int32) (l5 : Int32) (M : mM), r35 l0 l2 l3 l4 l5 M = some M0 → WW x (sz, 0, 0) M 35 [(0, .ref l0), (2, .ref l2), (3, .ref l3), (4, .int l4), (5, .int l5)] []) {l0 : Nat} {l2 : Nat} {l3 : Nat} {l4 : Int32} {l5 : Int32} {M : mM} (h : B_X6_raise_68 G F r35 l0 l2 l3 l4 l5 M = some M0) : WW x (sz, 0, 0) M 68 [(0, .ref l0), (2, .ref l2), (3, .ref l3), (4, .int l4), (5, .int l5)] [] := by
  unfold B_X6_raise_68 at h
  refine ww_aload_n 68 X dX6_raise_68 1 rfl rfl ?_
  refine ww_iload 69 X dX6_raise_69 4 rfl ?_
  refine ww_bipush 71 X (v := (8 : Int32)) dX6_raise_71 (by decide) ?_
  refine ww_idiv 73 X (v := (l5 / (8 : Int32))) dX6_raise_73 rfl ?_
  obtain ⟨_, f74, h⟩ := bO_some h
  obtain ⟨v74, M74, e74, h⟩ := bP_some h
  refine ww_callVI0 74 X dX6_raise_74 mY_X0_get mL_X6_37 (rcv_spec f74) ⟨_, _, rfl⟩ (by decide) (As := [.int (l5 / (8 : Int32))]) (rest := []) rfl rfl ⟨Nat.le_of_ble_eq_true rfl, Nat.le_of_ble_eq_true rfl⟩ (Nat.le_of_ble_eq_true rfl) (fun l D A => c_X0_get l D A e74) ?_
  refine ww_bipush 77 X (v := (7 : Int32)) dX6_raise_77 (by decide) ?_
  refine ww_iload 79 X dX6_raise_79 4 rfl ?_
  refine ww_bipush 81 X (v := (7 : Int32)) dX6_raise_81 (by decide) ?_
  refine ww_iand 83 X dX6_raise_83 ?_
  refine ww_isub 84 X dX6_raise_84 ?_
  refine ww_ishr 85 X dX6_raise_85 ?_
  refine ww_iconst 86 X (v := (1 : Int32)) dX6_raise_86 (by decide) ?_
  refine ww_iand 87 X dX6_raise_87 ?_
  refine ww_iconst 88 X (v := (1 : Int32)) dX6_raise_88 (by decide) ?_
  refine ww_icmp_ne 89 111 X dX6_raise_89 (by decide) (fun q => ?_) (fun q => ?_)
  · replace h := (if_neg q).symm.trans h
    refine ww_iinc 111 X dX6_raise_111 (lv' := [(0, .ref l0), (2, .ref l2), (3, .ref l3), (4, .int l4), (5, .int (l5 + 1))]) 4 rfl rfl (by decide) [1, 2, 3, 4, 0] rfl ?_
    refine ww_goto 114 35 X dX6_raise_114 (by decide) ?_
    exact (hr35 _ _ _ _ _ _ h)
  · replace h := (if_pos q).symm.trans h
    refine ww_aload_n 92 X dX6_raise_92 0 rfl rfl ?_
    refine ww_aload_n 93 X dX6_raise_93 0 rfl rfl ?_
    obtain ⟨v94, e94, h⟩ := bO_some h
    refine ww_getR 94 X dX6_raise_94 fG_X6_23 e94 ?_
    refine ww_aload_n 97 X dX6_raise_97 0 rfl rfl ?_
    obtain ⟨v98, e98, h⟩ := bO_some h
    refine ww_getR 98 X dX6_raise_98 fG_X6_26 e98 ?_
    refine ww_aload_n 101 X dX6_raise_101 0 rfl rfl ?_
    obtain ⟨v102, e102, h⟩ := bO_some h
    refine ww_getR 102 X dX6_raise_102 fG_X6_23 e102 ?_
    obtain ⟨_, f105, h⟩ := bO_some h
    obtain ⟨M105, e105, h⟩ := bO_some h
    refine ww_callVV0 105 X dX6_raise_105 mY_X6_times mL_X6_66 (rcv_spec f105) ⟨_, _, rfl⟩ (by decide) (As := [.ref v94, .ref v98, .ref v102]) (rest := []) rfl rfl ⟨Nat.le_of_ble_eq_true rfl, Nat.le_of_ble_eq_true rfl⟩ (Nat.le_of_ble_eq_true rfl) (fun l D A => c_X6_times l D A e105) ?_
    refine ww_iconst 108 X (v := (1 : Int32)) dX6_raise_108 (by decide) ?_
    refine ww_istore 109 X dX6_raise_109 (lv' := [(0, .ref l0), (2, .ref l2), (3, .ref l3), (4, .int (1 : Int32)), (5, .int l5)]) (by decide) [1, 2, 3, 0, 4] rfl ?_
    refine ww_iinc 111 X dX6_raise_111 (lv' := [(0, .ref l0), (2, .ref l2), (3, .ref l3), (4, .int (1 : Int32)), (5, .int (l5 + 1))]) 4 rfl rfl (by decide) [1, 2, 3, 4, 0] rfl ?_
    refine ww_goto 114 35 X dX6_raise_114 (by decide) ?_
    exact (hr35 _ _ _ _ _ _ h)
set_option maxHeartbeats 4000000 in
set_option maxRecDepth 100000 in
theorem wB_X6_raise_35 {G : mG} {F : Nat} {x : mXT} {sz : Nat} {M0 : mM} (X : mCX G RX6 cX6_raise 6 none "raise" rmX6_raise x) (hQ : mQV x M0 (sz, 0, 0)) : ∀ (n : Nat) (l0 : Nat) (l2 : Nat) (l3 : Nat) (l4 : Int32) (l5 : Int32) (M : mM), B_X6_raise_35 G F n l0 l2 l3 l4 l5 M = some M0 → WW x (sz, 0, 0) M 35 [(0, .ref l0), (2, .ref l2), (3, .ref l3), (4, .int l4), (5, .int l5)] [] := by
  intro n
  induction n with
  | zero =>
    intro l0 l2 l3 l4 l5 M h
    exact nomatch (show (none : Option mM) = some M0 from h)
  | succ n ih =>
    intro l0 l2 l3 l4 l5 M h
    rw [B_X6_raise_35] at h
    refine ww_iload 35 X dX6_raise_35 4 rfl ?_
    refine ww_bipush 37 X (v := (8 : Int32)) dX6_raise_37 (by decide) ?_
    refine ww_aload_n 39 X dX6_raise_39 1 rfl rfl ?_
    obtain ⟨v40, e40, h⟩ := bO_some h
    refine ww_getI 40 X dX6_raise_40 fG_X6_32 e40 ?_
    refine ww_imul 43 X dX6_raise_43 ?_
    refine ww_icmp_ge 44 117 X dX6_raise_44 (by decide) (fun q => ?_) (fun q => ?_)
    · replace h := (if_pos q).symm.trans h
      refine ww_aload_n 117 X dX6_raise_117 0 rfl rfl ?_
      refine ww_aload_n 118 X dX6_raise_118 0 rfl rfl ?_
      obtain ⟨v119, e119, h⟩ := bO_some h
      refine ww_getR 119 X dX6_raise_119 fG_X6_23 e119 ?_
      refine ww_aload_n 122 X dX6_raise_122 0 rfl rfl ?_
      obtain ⟨v123, e123, h⟩ := bO_some h
      refine ww_getR 123 X dX6_raise_123 fG_X6_17 e123 ?_
      refine ww_aload_n 126 X dX6_raise_126 2 rfl rfl ?_
      obtain ⟨_, f127, h⟩ := bO_some h
      obtain ⟨M127, e127, h⟩ := bO_some h
      refine ww_callVV0 127 X dX6_raise_127 mY_X6_times mL_X6_66 (rcv_spec f127) ⟨_, _, rfl⟩ (by decide) (As := [.ref v119, .ref v123, .ref l3]) (rest := []) rfl rfl ⟨Nat.le_of_ble_eq_true rfl, Nat.le_of_ble_eq_true rfl⟩ (Nat.le_of_ble_eq_true rfl) (fun l D A => c_X6_times l D A e127) ?_
      exact ww_vretE 130 X hQ dX6_raise_130 h
    · replace h := (if_neg q).symm.trans h
      refine ww_iload 47 X dX6_raise_47 3 rfl ?_
      refine ww_if_eq 49 68 X dX6_raise_49 (by decide) (fun q => ?_) (fun q => ?_)
      · replace h := (if_pos q).symm.trans h
        exact (wB_X6_raise_68 X hQ _ ih h)
      · replace h := (if_neg q).symm.trans h
        refine ww_aload_n 52 X dX6_raise_52 0 rfl rfl ?_
        refine ww_aload_n 53 X dX6_raise_53 0 rfl rfl ?_
        obtain ⟨v54, e54, h⟩ := bO_some h
        refine ww_getR 54 X dX6_raise_54 fG_X6_23 e54 ?_
        refine ww_aload_n 57 X dX6_raise_57 0 rfl rfl ?_
        obtain ⟨v58, e58, h⟩ := bO_some h
        refine ww_getR 58 X dX6_raise_58 fG_X6_23 e58 ?_
        refine ww_aload_n 61 X dX6_raise_61 0 rfl rfl ?_
        obtain ⟨v62, e62, h⟩ := bO_some h
        refine ww_getR 62 X dX6_raise_62 fG_X6_23 e62 ?_
        obtain ⟨_, f65, h⟩ := bO_some h
        obtain ⟨M65, e65, h⟩ := bO_some h
        refine ww_callVV0 65 X dX6_raise_65 mY_X6_times mL_X6_66 (rcv_spec f65) ⟨_, _, rfl⟩ (by decide) (As := [.ref v54, .ref v58, .ref v62]) (rest := []) rfl rfl ⟨Nat.le_of_ble_eq_true rfl, Nat.le_of_ble_eq_true rfl⟩ (Nat.le_of_ble_eq_true rfl) (fun l D A => c_X6_times l D A e65) ?_
        exact (wB_X6_raise_68 X hQ _ ih h)
set_option maxHeartbeats 4000000 in
set_option maxRecDepth 100000 in
theorem wP_X6_raise {G : mG} {F : Nat} {x : mXT} {sz : Nat} {M0 : mM} (X : mCX G RX6 cX6_raise 6 none "raise" rmX6_raise x) (hQ : mQV x M0 (sz, 0, 0)) {l0 : Nat} {l1 : Nat} {l2 : Nat} {l3 : Nat} {M : mM} (h : P_X6_raise G F l0 l1 l2 l3 M = some M0) : WW x (sz, 0, 0) M 0 [(0, .ref l0), (1, .ref l1), (2, .ref l2), (3, .ref l3)] [] := by
  unfold P_X6_raise at h
  refine ww_aload_n 0 X dX6_raise_0 0 rfl rfl ?_
  refine ww_aload_n 1 X dX6_raise_1 1 rfl rfl ?_
  refine ww_aload_n 2 X dX6_raise_2 0 rfl rfl ?_
  obtain ⟨v3, e3, h⟩ := bO_some h
  refine ww_getR 3 X dX6_raise_3 fG_X6_20 e3 ?_
  refine ww_aload_n 6 X dX6_raise_6 0 rfl rfl ?_
  obtain ⟨v7, e7, h⟩ := bO_some h
  refine ww_getR 7 X dX6_raise_7 fG_X6_26 e7 ?_
  obtain ⟨_, f10, h⟩ := bO_some h
  obtain ⟨M10, e10, h⟩ := bO_some h
  refine ww_callVV0 10 X dX6_raise_10 mY_X6_times mL_X6_66 (rcv_spec f10) ⟨_, _, rfl⟩ (by decide) (As := [.ref l1, .ref v3, .ref v7]) (rest := []) rfl rfl ⟨Nat.le_of_ble_eq_true rfl, Nat.le_of_ble_eq_true rfl⟩ (Nat.le_of_ble_eq_true rfl) (fun l D A => c_X6_times l D A e10) ?_
  refine ww_aload_n 13 X dX6_raise_13 0 rfl rfl ?_
  refine ww_aload_n 14 X dX6_raise_14 0 rfl rfl ?_
  obtain ⟨v15, e15, h⟩ := bO_some h
  refine ww_getR 15 X dX6_raise_15 fG_X6_17 e15 ?_
  refine ww_aload_n 18 X dX6_raise_18 0 rfl rfl ?_
  obtain ⟨v19, e19, h⟩ := bO_some h
  refine ww_getR 19 X dX6_raise_19 fG_X6_20 e19 ?_
  refine ww_aload_n 22 X dX6_raise_22 0 rfl rfl ?_
  obtain ⟨v23, e23, h⟩ := bO_some h
  refine ww_getR 23 X dX6_raise_23 fG_X6_23 e23 ?_
  obtain ⟨_, f26, h⟩ := bO_some h
  obtain ⟨M26, e26, h⟩ := bO_some h
  refine ww_callVV0 26 X dX6_raise_26 mY_X6_times mL_X6_66 (rcv_spec f26) ⟨_, _, rfl⟩ (by decide) (As := [.ref v15, .ref v19, .ref v23]) (rest := []) rfl rfl ⟨Nat.le_of_ble_eq_true rfl, Nat.le_of_ble_eq_true rfl⟩ (Nat.le_of_ble_eq_true rfl) (fun l D A => c_X6_times l D A e26) ?_
  refine ww_iconst 29 X (v := (0 : Int32)) dX6_raise_29 (by decide) ?_
  refine ww_istore 30 X dX6_raise_30 (lv' := [(0, .ref l0), (1, .ref l1), (2, .ref l2), (3, .ref l3), (4, .int (0 : Int32))]) (by decide) [1, 2, 3, 4, 0] rfl ?_
  refine ww_iconst 32 X (v := (0 : Int32)) dX6_raise_32 (by decide) ?_
  refine ww_istore 33 X dX6_raise_33 (lv' := [(0, .ref l0), (1, .ref l1), (2, .ref l2), (3, .ref l3), (4, .int (0 : Int32)), (5, .int (0 : Int32))]) (by decide) [1, 2, 3, 4, 5, 0] rfl ?_
  exact ww_sub [0, 2, 3, 4, 5] rfl (wB_X6_raise_35 X hQ F _ _ _ _ _ _ h)
theorem c_X6_raise {G : mG} {F sz : Nat} {M0 : mM} (l : Launch) (D : mD) (A : Nat → Prop) {l0 : Nat} {l1 : Nat} {l2 : Nat} {l3 : Nat} {M : mM} (h : P_X6_raise G F l0 l1 l2 l3 M = some M0) : mMetV l D G A yX6_raise cX6_raise 6 none 3 115 0 0 [.ref l0, .ref l1, .ref l2, .ref l3] M sz M0 sz := mMetV_of l D G A (by decide) (Nat.le_of_ble_eq_true rfl) (fun x X hQ => wP_X6_raise X hQ h)
/-! SealedTokens$Modulus.give([JILSealedTokens$Bytes;)V -/
theorem dX6_give_0 : decode cX6_give 0 = .ok (.iload_n 2, 1) := by decide +kernel
theorem dX6_give_1 : decode cX6_give 1 = .ok (.iconst 1, 1) := by decide +kernel
theorem dX6_give_2 : decode cX6_give 2 = .ok (.isub, 1) := by decide +kernel
theorem dX6_give_3 : decode cX6_give 3 = .ok (.istore 4, 2) := by decide +kernel
theorem dX6_give_5 : decode cX6_give 5 = .ok (.iload 4, 2) := by decide +kernel
theorem dX6_give_7 : decode cX6_give 7 = .ok (.ifCond .lt 43, 3) := by decide +kernel
theorem dX6_give_10 : decode cX6_give 10 = .ok (.aload_n 3, 1) := by decide +kernel
theorem dX6_give_11 : decode cX6_give 11 = .ok (.iload 4, 2) := by decide +kernel
theorem dX6_give_13 : decode cX6_give 13 = .ok (.iconst 4, 1) := by decide +kernel
theorem dX6_give_14 : decode cX6_give 14 = .ok (.idiv, 1) := by decide +kernel
theorem dX6_give_15 : decode cX6_give 15 = .ok (.aload_n 0, 1) := by decide +kernel
theorem dX6_give_16 : decode cX6_give 16 = .ok (.getfield 7, 3) := by decide +kernel
theorem dX6_give_19 : decode cX6_give 19 = .ok (.if_icmp .ge 21, 3) := by decide +kernel
theorem dX6_give_22 : decode cX6_give 22 = .ok (.aload_n 1, 1) := by decide +kernel
theorem dX6_give_23 : decode cX6_give 23 = .ok (.iload 4, 2) := by decide +kernel
theorem dX6_give_25 : decode cX6_give 25 = .ok (.iconst 4, 1) := by decide +kernel
theorem dX6_give_26 : decode cX6_give 26 = .ok (.idiv, 1) := by decide +kernel
theorem dX6_give_27 : decode cX6_give 27 = .ok (.laload, 1) := by decide +kernel
theorem dX6_give_28 : decode cX6_give 28 = .ok (.bipush 8, 2) := by decide +kernel
theorem dX6_give_30 : decode cX6_give 30 = .ok (.iload 4, 2) := by decide +kernel
theorem dX6_give_32 : decode cX6_give 32 = .ok (.iconst 3, 1) := by decide +kernel
theorem dX6_give_33 : decode cX6_give 33 = .ok (.iand, 1) := by decide +kernel
theorem dX6_give_34 : decode cX6_give 34 = .ok (.imul, 1) := by decide +kernel
theorem dX6_give_35 : decode cX6_give 35 = .ok (.lushr, 1) := by decide +kernel
theorem dX6_give_36 : decode cX6_give 36 = .ok (.l2i, 1) := by decide +kernel
theorem dX6_give_37 : decode cX6_give 37 = .ok (.goto 4, 3) := by decide +kernel
theorem dX6_give_40 : decode cX6_give 40 = .ok (.iconst 0, 1) := by decide +kernel
theorem dX6_give_41 : decode cX6_give 41 = .ok (.invokevirtual 69, 3) := by decide +kernel
theorem dX6_give_44 : decode cX6_give 44 = .ok (.iinc 4 (-1), 3) := by decide +kernel
theorem dX6_give_47 : decode cX6_give 47 = .ok (.goto (-42), 3) := by decide +kernel
theorem dX6_give_50 : decode cX6_give 50 = .ok (.return_, 1) := by decide +kernel
abbrev rmX6_give : Room := { frames := 1, cells := 0, slots := 0, locals := 21 }
set_option maxHeartbeats 4000000 in
set_option maxRecDepth 100000 in
theorem wB_X6_give_5 {G : mG} {F : Nat} {x : mXT} {sz : Nat} {M0 : mM} (X : mCX G RX6 cX6_give 5 none "give" rmX6_give x) (hQ : mQV x M0 (sz, 0, 0)) : ∀ (n : Nat) (l0 : Nat) (l1 : Nat) (l3 : Nat) (l4 : Int32) (M : mM), B_X6_give_5 G F n l0 l1 l3 l4 M = some M0 → WW x (sz, 0, 0) M 5 [(0, .ref l0), (1, .ref l1), (3, .ref l3), (4, .int l4)] [] := by
  intro n
  induction n with
  | zero =>
    intro l0 l1 l3 l4 M h
    exact nomatch (show (none : Option mM) = some M0 from h)
  | succ n ih =>
    intro l0 l1 l3 l4 M h
    rw [B_X6_give_5] at h
    refine ww_iload 5 X dX6_give_5 3 rfl ?_
    refine ww_if_lt 7 50 X dX6_give_7 (by decide) (fun q => ?_) (fun q => ?_)
    · replace h := (if_pos q).symm.trans h
      exact ww_vretE 50 X hQ dX6_give_50 h
    · replace h := (if_neg q).symm.trans h
      refine ww_aload_n 10 X dX6_give_10 2 rfl rfl ?_
      refine ww_iload 11 X dX6_give_11 3 rfl ?_
      refine ww_iconst 13 X (v := (4 : Int32)) dX6_give_13 (by decide) ?_
      refine ww_idiv 14 X (v := (l4 / (4 : Int32))) dX6_give_14 rfl ?_
      refine ww_aload_n 15 X dX6_give_15 0 rfl rfl ?_
      obtain ⟨v16, e16, h⟩ := bO_some h
      refine ww_getI 16 X dX6_give_16 fG_X6_7 e16 ?_
      refine ww_icmp_ge 19 40 X dX6_give_19 (by decide) (fun q => ?_) (fun q => ?_)
      · replace h := (if_pos q).symm.trans h
        refine ww_iconst 40 X (v := (0 : Int32)) dX6_give_40 (by decide) ?_
        obtain ⟨_, f41, h⟩ := bO_some h
        obtain ⟨M41, e41, h⟩ := bO_some h
        refine ww_callVV0 41 X dX6_give_41 mY_X0_put mL_X6_69 (rcv_spec f41) ⟨_, _, rfl⟩ (by decide) (As := [.int (0 : Int32)]) (rest := []) rfl rfl ⟨Nat.le_of_ble_eq_true rfl, Nat.le_of_ble_eq_true rfl⟩ (Nat.le_of_ble_eq_true rfl) (fun l D A => c_X0_put l D A e41) ?_
        refine ww_iinc 44 X dX6_give_44 (lv' := [(0, .ref l0), (1, .ref l1), (3, .ref l3), (4, .int (l4 + (-1)))]) 3 rfl rfl (by decide) [1, 2, 3, 0] rfl ?_
        refine ww_goto 47 5 X dX6_give_47 (by decide) ?_
        exact (ih _ _ _ _ _ h)
      · replace h := (if_neg q).symm.trans h
        refine ww_aload_n 22 X dX6_give_22 1 rfl rfl ?_
        refine ww_iload 23 X dX6_give_23 3 rfl ?_
        refine ww_iconst 25 X (v := (4 : Int32)) dX6_give_25 (by decide) ?_
        refine ww_idiv 26 X (v := (l4 / (4 : Int32))) dX6_give_26 rfl ?_
        obtain ⟨v27, e27, h⟩ := bO_some h
        refine ww_lald 27 X dX6_give_27 e27 ?_
        refine ww_bipush 28 X (v := (8 : Int32)) dX6_give_28 (by decide) ?_
        refine ww_iload 30 X dX6_give_30 3 rfl ?_
        refine ww_iconst 32 X (v := (3 : Int32)) dX6_give_32 (by decide) ?_
        refine ww_iand 33 X dX6_give_33 ?_
        refine ww_imul 34 X dX6_give_34 ?_
        refine ww_lushr 35 X dX6_give_35 ?_
        refine ww_l2i 36 X dX6_give_36 ?_
        refine ww_goto 37 41 X dX6_give_37 (by decide) ?_
        obtain ⟨_, f41, h⟩ := bO_some h
        obtain ⟨M41, e41, h⟩ := bO_some h
        refine ww_callVV0 41 X dX6_give_41 mY_X0_put mL_X6_69 (rcv_spec f41) ⟨_, _, rfl⟩ (by decide) (As := [.int ((ushL v27 ((8 : Int32) * (l4 &&& (3 : Int32)))).toInt32)]) (rest := []) rfl rfl ⟨Nat.le_of_ble_eq_true rfl, Nat.le_of_ble_eq_true rfl⟩ (Nat.le_of_ble_eq_true rfl) (fun l D A => c_X0_put l D A e41) ?_
        refine ww_iinc 44 X dX6_give_44 (lv' := [(0, .ref l0), (1, .ref l1), (3, .ref l3), (4, .int (l4 + (-1)))]) 3 rfl rfl (by decide) [1, 2, 3, 0] rfl ?_
        refine ww_goto 47 5 X dX6_give_47 (by decide) ?_
        exact (ih _ _ _ _ _ h)
set_option maxHeartbeats 4000000 in
set_option maxRecDepth 100000 in
theorem wP_X6_give {G : mG} {F : Nat} {x : mXT} {sz : Nat} {M0 : mM} (X : mCX G RX6 cX6_give 5 none "give" rmX6_give x) (hQ : mQV x M0 (sz, 0, 0)) {l0 : Nat} {l1 : Nat} {l2 : Int32} {l3 : Nat} {M : mM} (h : P_X6_give G F l0 l1 l2 l3 M = some M0) : WW x (sz, 0, 0) M 0 [(0, .ref l0), (1, .ref l1), (2, .int l2), (3, .ref l3)] [] := by
  unfold P_X6_give at h
  refine ww_iload_n 0 X dX6_give_0 2 rfl rfl ?_
  refine ww_iconst 1 X (v := (1 : Int32)) dX6_give_1 (by decide) ?_
  refine ww_isub 2 X dX6_give_2 ?_
  refine ww_istore 3 X dX6_give_3 (lv' := [(0, .ref l0), (1, .ref l1), (2, .int l2), (3, .ref l3), (4, .int (l2 - (1 : Int32)))]) (by decide) [1, 2, 3, 4, 0] rfl ?_
  exact ww_sub [0, 1, 3, 4] rfl (wB_X6_give_5 X hQ F _ _ _ _ _ h)
theorem c_X6_give {G : mG} {F sz : Nat} {M0 : mM} (l : Launch) (D : mD) (A : Nat → Prop) {l0 : Nat} {l1 : Nat} {l2 : Int32} {l3 : Nat} {M : mM} (h : P_X6_give G F l0 l1 l2 l3 M = some M0) : mMetV l D G A yX6_give cX6_give 5 none 1 21 0 0 [.ref l0, .ref l1, .int l2, .ref l3] M sz M0 sz := mMetV_of l D G A (by decide) (Nat.le_of_ble_eq_true rfl) (fun x X hQ => wP_X6_give X hQ h)
/-! SealedTokens$Curve.putSum(LSealedTokens$Bytes;)Z -/
theorem dX3_putSum_0 : decode cX3_putSum 0 = .ok (.aload_n 0, 1) := by decide +kernel
theorem dX3_putSum_1 : decode cX3_putSum 1 = .ok (.getfield 20, 3) := by decide +kernel
theorem dX3_putSum_4 : decode cX3_putSum 4 = .ok (.aload_n 0, 1) := by decide +kernel
theorem dX3_putSum_5 : decode cX3_putSum 5 = .ok (.getfield 59, 3) := by decide +kernel
theorem dX3_putSum_8 : decode cX3_putSum 8 = .ok (.iconst 2, 1) := by decide +kernel
theorem dX3_putSum_9 : decode cX3_putSum 9 = .ok (.aaload, 1) := by decide +kernel
theorem dX3_putSum_10 : decode cX3_putSum 10 = .ok (.invokevirtual 162, 3) := by decide +kernel
theorem dX3_putSum_13 : decode cX3_putSum 13 = .ok (.ifCond .eq 5, 3) := by decide +kernel
theorem dX3_putSum_16 : decode cX3_putSum 16 = .ok (.iconst 0, 1) := by decide +kernel
theorem dX3_putSum_17 : decode cX3_putSum 17 = .ok (.ireturn, 1) := by decide +kernel
theorem dX3_putSum_18 : decode cX3_putSum 18 = .ok (.aload_n 0, 1) := by decide +kernel
theorem dX3_putSum_19 : decode cX3_putSum 19 = .ok (.getfield 20, 3) := by decide +kernel
theorem dX3_putSum_22 : decode cX3_putSum 22 = .ok (.aload_n 0, 1) := by decide +kernel
theorem dX3_putSum_23 : decode cX3_putSum 23 = .ok (.getfield 59, 3) := by decide +kernel
theorem dX3_putSum_26 : decode cX3_putSum 26 = .ok (.iconst 2, 1) := by decide +kernel
theorem dX3_putSum_27 : decode cX3_putSum 27 = .ok (.aaload, 1) := by decide +kernel
theorem dX3_putSum_28 : decode cX3_putSum 28 = .ok (.invokevirtual 172, 3) := by decide +kernel
theorem dX3_putSum_31 : decode cX3_putSum 31 = .ok (.aload_n 0, 1) := by decide +kernel
theorem dX3_putSum_32 : decode cX3_putSum 32 = .ok (.getfield 20, 3) := by decide +kernel
theorem dX3_putSum_35 : decode cX3_putSum 35 = .ok (.aload_n 0, 1) := by decide +kernel
theorem dX3_putSum_36 : decode cX3_putSum 36 = .ok (.getfield 59, 3) := by decide +kernel
theorem dX3_putSum_39 : decode cX3_putSum 39 = .ok (.iconst 2, 1) := by decide +kernel
theorem dX3_putSum_40 : decode cX3_putSum 40 = .ok (.aaload, 1) := by decide +kernel
theorem dX3_putSum_41 : decode cX3_putSum 41 = .ok (.aload_n 0, 1) := by decide +kernel
theorem dX3_putSum_42 : decode cX3_putSum 42 = .ok (.getfield 39, 3) := by decide +kernel
theorem dX3_putSum_45 : decode cX3_putSum 45 = .ok (.aload_n 0, 1) := by decide +kernel
theorem dX3_putSum_46 : decode cX3_putSum 46 = .ok (.getfield 62, 3) := by decide +kernel
theorem dX3_putSum_49 : decode cX3_putSum 49 = .ok (.iconst 0, 1) := by decide +kernel
theorem dX3_putSum_50 : decode cX3_putSum 50 = .ok (.aaload, 1) := by decide +kernel
theorem dX3_putSum_51 : decode cX3_putSum 51 = .ok (.invokevirtual 175, 3) := by decide +kernel
theorem dX3_putSum_54 : decode cX3_putSum 54 = .ok (.aload_n 0, 1) := by decide +kernel
theorem dX3_putSum_55 : decode cX3_putSum 55 = .ok (.getfield 20, 3) := by decide +kernel
theorem dX3_putSum_58 : decode cX3_putSum 58 = .ok (.aload_n 0, 1) := by decide +kernel
theorem dX3_putSum_59 : decode cX3_putSum 59 = .ok (.getfield 62, 3) := by decide +kernel
theorem dX3_putSum_62 : decode cX3_putSum 62 = .ok (.iconst 0, 1) := by decide +kernel
theorem dX3_putSum_63 : decode cX3_putSum 63 = .ok (.aaload, 1) := by decide +kernel
theorem dX3_putSum_64 : decode cX3_putSum 64 = .ok (.invokevirtual 96, 3) := by decide +kernel
theorem dX3_putSum_67 : decode cX3_putSum 67 = .ok (.aload_n 0, 1) := by decide +kernel
theorem dX3_putSum_68 : decode cX3_putSum 68 = .ok (.getfield 20, 3) := by decide +kernel
theorem dX3_putSum_71 : decode cX3_putSum 71 = .ok (.aload_n 0, 1) := by decide +kernel
theorem dX3_putSum_72 : decode cX3_putSum 72 = .ok (.getfield 62, 3) := by decide +kernel
theorem dX3_putSum_75 : decode cX3_putSum 75 = .ok (.iconst 0, 1) := by decide +kernel
theorem dX3_putSum_76 : decode cX3_putSum 76 = .ok (.aaload, 1) := by decide +kernel
theorem dX3_putSum_77 : decode cX3_putSum 77 = .ok (.aload_n 0, 1) := by decide +kernel
theorem dX3_putSum_78 : decode cX3_putSum 78 = .ok (.getfield 62, 3) := by decide +kernel
theorem dX3_putSum_81 : decode cX3_putSum 81 = .ok (.iconst 0, 1) := by decide +kernel
theorem dX3_putSum_82 : decode cX3_putSum 82 = .ok (.aaload, 1) := by decide +kernel
theorem dX3_putSum_83 : decode cX3_putSum 83 = .ok (.aload_n 0, 1) := by decide +kernel
theorem dX3_putSum_84 : decode cX3_putSum 84 = .ok (.getfield 62, 3) := by decide +kernel
theorem dX3_putSum_87 : decode cX3_putSum 87 = .ok (.iconst 1, 1) := by decide +kernel
theorem dX3_putSum_88 : decode cX3_putSum 88 = .ok (.aaload, 1) := by decide +kernel
theorem dX3_putSum_89 : decode cX3_putSum 89 = .ok (.invokevirtual 123, 3) := by decide +kernel
theorem dX3_putSum_92 : decode cX3_putSum 92 = .ok (.aload_n 0, 1) := by decide +kernel
theorem dX3_putSum_93 : decode cX3_putSum 93 = .ok (.getfield 20, 3) := by decide +kernel
theorem dX3_putSum_96 : decode cX3_putSum 96 = .ok (.aload_n 0, 1) := by decide +kernel
theorem dX3_putSum_97 : decode cX3_putSum 97 = .ok (.getfield 62, 3) := by decide +kernel
theorem dX3_putSum_100 : decode cX3_putSum 100 = .ok (.iconst 1, 1) := by decide +kernel
theorem dX3_putSum_101 : decode cX3_putSum 101 = .ok (.aaload, 1) := by decide +kernel
theorem dX3_putSum_102 : decode cX3_putSum 102 = .ok (.aload_n 0, 1) := by decide +kernel
theorem dX3_putSum_103 : decode cX3_putSum 103 = .ok (.getfield 62, 3) := by decide +kernel
theorem dX3_putSum_106 : decode cX3_putSum 106 = .ok (.iconst 0, 1) := by decide +kernel
theorem dX3_putSum_107 : decode cX3_putSum 107 = .ok (.aaload, 1) := by decide +kernel
theorem dX3_putSum_108 : decode cX3_putSum 108 = .ok (.aload_n 0, 1) := by decide +kernel
theorem dX3_putSum_109 : decode cX3_putSum 109 = .ok (.getfield 62, 3) := by decide +kernel
theorem dX3_putSum_112 : decode cX3_putSum 112 = .ok (.iconst 2, 1) := by decide +kernel
theorem dX3_putSum_113 : decode cX3_putSum 113 = .ok (.aaload, 1) := by decide +kernel
theorem dX3_putSum_114 : decode cX3_putSum 114 = .ok (.invokevirtual 123, 3) := by decide +kernel
theorem dX3_putSum_117 : decode cX3_putSum 117 = .ok (.aload_n 0, 1) := by decide +kernel
theorem dX3_putSum_118 : decode cX3_putSum 118 = .ok (.getfield 20, 3) := by decide +kernel
theorem dX3_putSum_121 : decode cX3_putSum 121 = .ok (.aload_n 0, 1) := by decide +kernel
theorem dX3_putSum_122 : decode cX3_putSum 122 = .ok (.getfield 59, 3) := by decide +kernel
theorem dX3_putSum_125 : decode cX3_putSum 125 = .ok (.iconst 0, 1) := by decide +kernel
theorem dX3_putSum_126 : decode cX3_putSum 126 = .ok (.aaload, 1) := by decide +kernel
theorem dX3_putSum_127 : decode cX3_putSum 127 = .ok (.aload_n 0, 1) := by decide +kernel
theorem dX3_putSum_128 : decode cX3_putSum 128 = .ok (.getfield 62, 3) := by decide +kernel
theorem dX3_putSum_131 : decode cX3_putSum 131 = .ok (.iconst 1, 1) := by decide +kernel
theorem dX3_putSum_132 : decode cX3_putSum 132 = .ok (.aaload, 1) := by decide +kernel
theorem dX3_putSum_133 : decode cX3_putSum 133 = .ok (.aload_n 0, 1) := by decide +kernel
theorem dX3_putSum_134 : decode cX3_putSum 134 = .ok (.getfield 62, 3) := by decide +kernel
theorem dX3_putSum_137 : decode cX3_putSum 137 = .ok (.iconst 1, 1) := by decide +kernel
theorem dX3_putSum_138 : decode cX3_putSum 138 = .ok (.aaload, 1) := by decide +kernel
theorem dX3_putSum_139 : decode cX3_putSum 139 = .ok (.invokevirtual 123, 3) := by decide +kernel
theorem dX3_putSum_142 : decode cX3_putSum 142 = .ok (.aload_n 0, 1) := by decide +kernel
theorem dX3_putSum_143 : decode cX3_putSum 143 = .ok (.getfield 20, 3) := by decide +kernel
theorem dX3_putSum_146 : decode cX3_putSum 146 = .ok (.aload_n 0, 1) := by decide +kernel
theorem dX3_putSum_147 : decode cX3_putSum 147 = .ok (.getfield 59, 3) := by decide +kernel
theorem dX3_putSum_150 : decode cX3_putSum 150 = .ok (.iconst 1, 1) := by decide +kernel
theorem dX3_putSum_151 : decode cX3_putSum 151 = .ok (.aaload, 1) := by decide +kernel
theorem dX3_putSum_152 : decode cX3_putSum 152 = .ok (.aload_n 0, 1) := by decide +kernel
theorem dX3_putSum_153 : decode cX3_putSum 153 = .ok (.getfield 62, 3) := by decide +kernel
theorem dX3_putSum_156 : decode cX3_putSum 156 = .ok (.iconst 2, 1) := by decide +kernel
theorem dX3_putSum_157 : decode cX3_putSum 157 = .ok (.aaload, 1) := by decide +kernel
theorem dX3_putSum_158 : decode cX3_putSum 158 = .ok (.aload_n 0, 1) := by decide +kernel
theorem dX3_putSum_159 : decode cX3_putSum 159 = .ok (.getfield 62, 3) := by decide +kernel
theorem dX3_putSum_162 : decode cX3_putSum 162 = .ok (.iconst 2, 1) := by decide +kernel
theorem dX3_putSum_163 : decode cX3_putSum 163 = .ok (.aaload, 1) := by decide +kernel
theorem dX3_putSum_164 : decode cX3_putSum 164 = .ok (.invokevirtual 123, 3) := by decide +kernel
theorem dX3_putSum_167 : decode cX3_putSum 167 = .ok (.aload_n 0, 1) := by decide +kernel
theorem dX3_putSum_168 : decode cX3_putSum 168 = .ok (.getfield 20, 3) := by decide +kernel
theorem dX3_putSum_171 : decode cX3_putSum 171 = .ok (.aload_n 0, 1) := by decide +kernel
theorem dX3_putSum_172 : decode cX3_putSum 172 = .ok (.getfield 62, 3) := by decide +kernel
theorem dX3_putSum_175 : decode cX3_putSum 175 = .ok (.iconst 1, 1) := by decide +kernel
theorem dX3_putSum_176 : decode cX3_putSum 176 = .ok (.aaload, 1) := by decide +kernel
theorem dX3_putSum_177 : decode cX3_putSum 177 = .ok (.invokevirtual 172, 3) := by decide +kernel
theorem dX3_putSum_180 : decode cX3_putSum 180 = .ok (.aload_n 0, 1) := by decide +kernel
theorem dX3_putSum_181 : decode cX3_putSum 181 = .ok (.getfield 20, 3) := by decide +kernel
theorem dX3_putSum_184 : decode cX3_putSum 184 = .ok (.aload_n 0, 1) := by decide +kernel
theorem dX3_putSum_185 : decode cX3_putSum 185 = .ok (.getfield 62, 3) := by decide +kernel
theorem dX3_putSum_188 : decode cX3_putSum 188 = .ok (.iconst 2, 1) := by decide +kernel
theorem dX3_putSum_189 : decode cX3_putSum 189 = .ok (.aaload, 1) := by decide +kernel
theorem dX3_putSum_190 : decode cX3_putSum 190 = .ok (.invokevirtual 172, 3) := by decide +kernel
theorem dX3_putSum_193 : decode cX3_putSum 193 = .ok (.aload_n 1, 1) := by decide +kernel
theorem dX3_putSum_194 : decode cX3_putSum 194 = .ok (.invokevirtual 179, 3) := by decide +kernel
theorem dX3_putSum_197 : decode cX3_putSum 197 = .ok (.aload_n 0, 1) := by decide +kernel
theorem dX3_putSum_198 : decode cX3_putSum 198 = .ok (.getfield 20, 3) := by decide +kernel
theorem dX3_putSum_201 : decode cX3_putSum 201 = .ok (.aload_n 0, 1) := by decide +kernel
theorem dX3_putSum_202 : decode cX3_putSum 202 = .ok (.getfield 62, 3) := by decide +kernel
theorem dX3_putSum_205 : decode cX3_putSum 205 = .ok (.iconst 1, 1) := by decide +kernel
theorem dX3_putSum_206 : decode cX3_putSum 206 = .ok (.aaload, 1) := by decide +kernel
theorem dX3_putSum_207 : decode cX3_putSum 207 = .ok (.bipush 32, 2) := by decide +kernel
theorem dX3_putSum_209 : decode cX3_putSum 209 = .ok (.aload_n 1, 1) := by decide +kernel
theorem dX3_putSum_210 : decode cX3_putSum 210 = .ok (.invokevirtual 182, 3) := by decide +kernel
theorem dX3_putSum_213 : decode cX3_putSum 213 = .ok (.aload_n 0, 1) := by decide +kernel
theorem dX3_putSum_214 : decode cX3_putSum 214 = .ok (.getfield 20, 3) := by decide +kernel
theorem dX3_putSum_217 : decode cX3_putSum 217 = .ok (.aload_n 0, 1) := by decide +kernel
theorem dX3_putSum_218 : decode cX3_putSum 218 = .ok (.getfield 62, 3) := by decide +kernel
theorem dX3_putSum_221 : decode cX3_putSum 221 = .ok (.iconst 2, 1) := by decide +kernel
theorem dX3_putSum_222 : decode cX3_putSum 222 = .ok (.aaload, 1) := by decide +kernel
theorem dX3_putSum_223 : decode cX3_putSum 223 = .ok (.bipush 32, 2) := by decide +kernel
theorem dX3_putSum_225 : decode cX3_putSum 225 = .ok (.aload_n 1, 1) := by decide +kernel
theorem dX3_putSum_226 : decode cX3_putSum 226 = .ok (.invokevirtual 182, 3) := by decide +kernel
theorem dX3_putSum_229 : decode cX3_putSum 229 = .ok (.iconst 1, 1) := by decide +kernel
theorem dX3_putSum_230 : decode cX3_putSum 230 = .ok (.ireturn, 1) := by decide +kernel
abbrev rmX3_putSum : Room := { frames := 4, cells := 0, slots := 0, locals := 140 }
set_option maxHeartbeats 4000000 in
set_option maxRecDepth 100000 in
theorem wP_X3_putSum {G : mG} {F : Nat} {x : mXT} {sz : Nat} {r0 : Int32} {M0 : mM} (X : mCX G RX3 cX3_putSum 2 (some .boolean) "putSum" rmX3_putSum x) (hQ : mQI x r0 M0 (sz, 0, 0)) {l0 : Nat} {l1 : Nat} {M : mM} (h : P_X3_putSum G F l0 l1 M = some (r0, M0)) : WW x (sz, 0, 0) M 0 [(0, .ref l0), (1, .ref l1)] [] := by
  unfold P_X3_putSum at h
  refine ww_aload_n 0 X dX3_putSum_0 0 rfl rfl ?_
  obtain ⟨v1, e1, h⟩ := bO_some h
  refine ww_getR 1 X dX3_putSum_1 fG_X3_20 e1 ?_
  refine ww_aload_n 4 X dX3_putSum_4 0 rfl rfl ?_
  obtain ⟨v5, e5, h⟩ := bO_some h
  refine ww_getR 5 X dX3_putSum_5 fG_X3_59 e5 ?_
  refine ww_iconst 8 X (v := (2 : Int32)) dX3_putSum_8 (by decide) ?_
  obtain ⟨v9, e9, h⟩ := bO_some h
  refine ww_aald6 9 X dX3_putSum_9 e9 ?_
  obtain ⟨_, f10, h⟩ := bO_some h
  obtain ⟨v10, M10, e10, h⟩ := bP_some h
  refine ww_callVI0 10 X dX3_putSum_10 mY_X6_isZero mL_X3_162 (rcv_spec f10) ⟨_, _, rfl⟩ (by decide) (As := [.ref v9]) (rest := []) rfl rfl ⟨Nat.le_of_ble_eq_true rfl, Nat.le_of_ble_eq_true rfl⟩ (Nat.le_of_ble_eq_true rfl) (fun l D A => c_X6_isZero l D A e10) ?_
  refine ww_if_eq 13 18 X dX3_putSum_13 (by decide) (fun q => ?_) (fun q => ?_)
  · replace h := (if_pos q).symm.trans h
    refine ww_aload_n 18 X dX3_putSum_18 0 rfl rfl ?_
    obtain ⟨v19, e19, h⟩ := bO_some h
    refine ww_getR 19 X dX3_putSum_19 fG_X3_20 e19 ?_
    refine ww_aload_n 22 X dX3_putSum_22 0 rfl rfl ?_
    obtain ⟨v23, e23, h⟩ := bO_some h
    refine ww_getR 23 X dX3_putSum_23 fG_X3_59 e23 ?_
    refine ww_iconst 26 X (v := (2 : Int32)) dX3_putSum_26 (by decide) ?_
    obtain ⟨v27, e27, h⟩ := bO_some h
    refine ww_aald6 27 X dX3_putSum_27 e27 ?_
    obtain ⟨_, f28, h⟩ := bO_some h
    obtain ⟨M28, e28, h⟩ := bO_some h
    refine ww_callVV0 28 X dX3_putSum_28 mY_X6_leadBack mL_X3_172 (rcv_spec f28) ⟨_, _, rfl⟩ (by decide) (As := [.ref v27]) (rest := []) rfl rfl ⟨Nat.le_of_ble_eq_true rfl, Nat.le_of_ble_eq_true rfl⟩ (Nat.le_of_ble_eq_true rfl) (fun l D A => c_X6_leadBack l D A e28) ?_
    refine ww_aload_n 31 X dX3_putSum_31 0 rfl rfl ?_
    obtain ⟨v32, e32, h⟩ := bO_some h
    refine ww_getR 32 X dX3_putSum_32 fG_X3_20 e32 ?_
    refine ww_aload_n 35 X dX3_putSum_35 0 rfl rfl ?_
    obtain ⟨v36, e36, h⟩ := bO_some h
    refine ww_getR 36 X dX3_putSum_36 fG_X3_59 e36 ?_
    refine ww_iconst 39 X (v := (2 : Int32)) dX3_putSum_39 (by decide) ?_
    obtain ⟨v40, e40, h⟩ := bO_some h
    refine ww_aald6 40 X dX3_putSum_40 e40 ?_
    refine ww_aload_n 41 X dX3_putSum_41 0 rfl rfl ?_
    obtain ⟨v42, e42, h⟩ := bO_some h
    refine ww_getR 42 X dX3_putSum_42 fG_X3_39 e42 ?_
    refine ww_aload_n 45 X dX3_putSum_45 0 rfl rfl ?_
    obtain ⟨v46, e46, h⟩ := bO_some h
    refine ww_getR 46 X dX3_putSum_46 fG_X3_62 e46 ?_
    refine ww_iconst 49 X (v := (0 : Int32)) dX3_putSum_49 (by decide) ?_
    obtain ⟨v50, e50, h⟩ := bO_some h
    refine ww_aald6 50 X dX3_putSum_50 e50 ?_
    obtain ⟨_, f51, h⟩ := bO_some h
    obtain ⟨M51, e51, h⟩ := bO_some h
    refine ww_callVV0 51 X dX3_putSum_51 mY_X6_raise mL_X3_175 (rcv_spec f51) ⟨_, _, rfl⟩ (by decide) (As := [.ref v40, .ref v42, .ref v50]) (rest := []) rfl rfl ⟨Nat.le_of_ble_eq_true rfl, Nat.le_of_ble_eq_true rfl⟩ (Nat.le_of_ble_eq_true rfl) (fun l D A => c_X6_raise l D A e51) ?_
    refine ww_aload_n 54 X dX3_putSum_54 0 rfl rfl ?_
    obtain ⟨v55, e55, h⟩ := bO_some h
    refine ww_getR 55 X dX3_putSum_55 fG_X3_20 e55 ?_
    refine ww_aload_n 58 X dX3_putSum_58 0 rfl rfl ?_
    obtain ⟨v59, e59, h⟩ := bO_some h
    refine ww_getR 59 X dX3_putSum_59 fG_X3_62 e59 ?_
    refine ww_iconst 62 X (v := (0 : Int32)) dX3_putSum_62 (by decide) ?_
    obtain ⟨v63, e63, h⟩ := bO_some h
    refine ww_aald6 63 X dX3_putSum_63 e63 ?_
    obtain ⟨_, f64, h⟩ := bO_some h
    obtain ⟨M64, e64, h⟩ := bO_some h
    refine ww_callVV0 64 X dX3_putSum_64 mY_X6_lead mL_X3_96 (rcv_spec f64) ⟨_, _, rfl⟩ (by decide) (As := [.ref v63]) (rest := []) rfl rfl ⟨Nat.le_of_ble_eq_true rfl, Nat.le_of_ble_eq_true rfl⟩ (Nat.le_of_ble_eq_true rfl) (fun l D A => c_X6_lead l D A e64) ?_
    refine ww_aload_n 67 X dX3_putSum_67 0 rfl rfl ?_
    obtain ⟨v68, e68, h⟩ := bO_some h
    refine ww_getR 68 X dX3_putSum_68 fG_X3_20 e68 ?_
    refine ww_aload_n 71 X dX3_putSum_71 0 rfl rfl ?_
    obtain ⟨v72, e72, h⟩ := bO_some h
    refine ww_getR 72 X dX3_putSum_72 fG_X3_62 e72 ?_
    refine ww_iconst 75 X (v := (0 : Int32)) dX3_putSum_75 (by decide) ?_
    obtain ⟨v76, e76, h⟩ := bO_some h
    refine ww_aald6 76 X dX3_putSum_76 e76 ?_
    refine ww_aload_n 77 X dX3_putSum_77 0 rfl rfl ?_
    obtain ⟨v78, e78, h⟩ := bO_some h
    refine ww_getR 78 X dX3_putSum_78 fG_X3_62 e78 ?_
    refine ww_iconst 81 X (v := (0 : Int32)) dX3_putSum_81 (by decide) ?_
    obtain ⟨v82, e82, h⟩ := bO_some h
    refine ww_aald6 82 X dX3_putSum_82 e82 ?_
    refine ww_aload_n 83 X dX3_putSum_83 0 rfl rfl ?_
    obtain ⟨v84, e84, h⟩ := bO_some h
    refine ww_getR 84 X dX3_putSum_84 fG_X3_62 e84 ?_
    refine ww_iconst 87 X (v := (1 : Int32)) dX3_putSum_87 (by decide) ?_
    obtain ⟨v88, e88, h⟩ := bO_some h
    refine ww_aald6 88 X dX3_putSum_88 e88 ?_
    obtain ⟨_, f89, h⟩ := bO_some h
    obtain ⟨M89, e89, h⟩ := bO_some h
    refine ww_callVV0 89 X dX3_putSum_89 mY_X6_times mL_X3_123 (rcv_spec f89) ⟨_, _, rfl⟩ (by decide) (As := [.ref v76, .ref v82, .ref v88]) (rest := []) rfl rfl ⟨Nat.le_of_ble_eq_true rfl, Nat.le_of_ble_eq_true rfl⟩ (Nat.le_of_ble_eq_true rfl) (fun l D A => c_X6_times l D A e89) ?_
    refine ww_aload_n 92 X dX3_putSum_92 0 rfl rfl ?_
    obtain ⟨v93, e93, h⟩ := bO_some h
    refine ww_getR 93 X dX3_putSum_93 fG_X3_20 e93 ?_
    refine ww_aload_n 96 X dX3_putSum_96 0 rfl rfl ?_
    obtain ⟨v97, e97, h⟩ := bO_some h
    refine ww_getR 97 X dX3_putSum_97 fG_X3_62 e97 ?_
    refine ww_iconst 100 X (v := (1 : Int32)) dX3_putSum_100 (by decide) ?_
    obtain ⟨v101, e101, h⟩ := bO_some h
    refine ww_aald6 101 X dX3_putSum_101 e101 ?_
    refine ww_aload_n 102 X dX3_putSum_102 0 rfl rfl ?_
    obtain ⟨v103, e103, h⟩ := bO_some h
    refine ww_getR 103 X dX3_putSum_103 fG_X3_62 e103 ?_
    refine ww_iconst 106 X (v := (0 : Int32)) dX3_putSum_106 (by decide) ?_
    obtain ⟨v107, e107, h⟩ := bO_some h
    refine ww_aald6 107 X dX3_putSum_107 e107 ?_
    refine ww_aload_n 108 X dX3_putSum_108 0 rfl rfl ?_
    obtain ⟨v109, e109, h⟩ := bO_some h
    refine ww_getR 109 X dX3_putSum_109 fG_X3_62 e109 ?_
    refine ww_iconst 112 X (v := (2 : Int32)) dX3_putSum_112 (by decide) ?_
    obtain ⟨v113, e113, h⟩ := bO_some h
    refine ww_aald6 113 X dX3_putSum_113 e113 ?_
    obtain ⟨_, f114, h⟩ := bO_some h
    obtain ⟨M114, e114, h⟩ := bO_some h
    refine ww_callVV0 114 X dX3_putSum_114 mY_X6_times mL_X3_123 (rcv_spec f114) ⟨_, _, rfl⟩ (by decide) (As := [.ref v101, .ref v107, .ref v113]) (rest := []) rfl rfl ⟨Nat.le_of_ble_eq_true rfl, Nat.le_of_ble_eq_true rfl⟩ (Nat.le_of_ble_eq_true rfl) (fun l D A => c_X6_times l D A e114) ?_
    refine ww_aload_n 117 X dX3_putSum_117 0 rfl rfl ?_
    obtain ⟨v118, e118, h⟩ := bO_some h
    refine ww_getR 118 X dX3_putSum_118 fG_X3_20 e118 ?_
    refine ww_aload_n 121 X dX3_putSum_121 0 rfl rfl ?_
    obtain ⟨v122, e122, h⟩ := bO_some h
    refine ww_getR 122 X dX3_putSum_122 fG_X3_59 e122 ?_
    refine ww_iconst 125 X (v := (0 : Int32)) dX3_putSum_125 (by decide) ?_
    obtain ⟨v126, e126, h⟩ := bO_some h
    refine ww_aald6 126 X dX3_putSum_126 e126 ?_
    refine ww_aload_n 127 X dX3_putSum_127 0 rfl rfl ?_
    obtain ⟨v128, e128, h⟩ := bO_some h
    refine ww_getR 128 X dX3_putSum_128 fG_X3_62 e128 ?_
    refine ww_iconst 131 X (v := (1 : Int32)) dX3_putSum_131 (by decide) ?_
    obtain ⟨v132, e132, h⟩ := bO_some h
    refine ww_aald6 132 X dX3_putSum_132 e132 ?_
    refine ww_aload_n 133 X dX3_putSum_133 0 rfl rfl ?_
    obtain ⟨v134, e134, h⟩ := bO_some h
    refine ww_getR 134 X dX3_putSum_134 fG_X3_62 e134 ?_
    refine ww_iconst 137 X (v := (1 : Int32)) dX3_putSum_137 (by decide) ?_
    obtain ⟨v138, e138, h⟩ := bO_some h
    refine ww_aald6 138 X dX3_putSum_138 e138 ?_
    obtain ⟨_, f139, h⟩ := bO_some h
    obtain ⟨M139, e139, h⟩ := bO_some h
    refine ww_callVV0 139 X dX3_putSum_139 mY_X6_times mL_X3_123 (rcv_spec f139) ⟨_, _, rfl⟩ (by decide) (As := [.ref v126, .ref v132, .ref v138]) (rest := []) rfl rfl ⟨Nat.le_of_ble_eq_true rfl, Nat.le_of_ble_eq_true rfl⟩ (Nat.le_of_ble_eq_true rfl) (fun l D A => c_X6_times l D A e139) ?_
    refine ww_aload_n 142 X dX3_putSum_142 0 rfl rfl ?_
    obtain ⟨v143, e143, h⟩ := bO_some h
    refine ww_getR 143 X dX3_putSum_143 fG_X3_20 e143 ?_
    refine ww_aload_n 146 X dX3_putSum_146 0 rfl rfl ?_
    obtain ⟨v147, e147, h⟩ := bO_some h
    refine ww_getR 147 X dX3_putSum_147 fG_X3_59 e147 ?_
    refine ww_iconst 150 X (v := (1 : Int32)) dX3_putSum_150 (by decide) ?_
    obtain ⟨v151, e151, h⟩ := bO_some h
    refine ww_aald6 151 X dX3_putSum_151 e151 ?_
    refine ww_aload_n 152 X dX3_putSum_152 0 rfl rfl ?_
    obtain ⟨v153, e153, h⟩ := bO_some h
    refine ww_getR 153 X dX3_putSum_153 fG_X3_62 e153 ?_
    refine ww_iconst 156 X (v := (2 : Int32)) dX3_putSum_156 (by decide) ?_
    obtain ⟨v157, e157, h⟩ := bO_some h
    refine ww_aald6 157 X dX3_putSum_157 e157 ?_
    refine ww_aload_n 158 X dX3_putSum_158 0 rfl rfl ?_
    obtain ⟨v159, e159, h⟩ := bO_some h
    refine ww_getR 159 X dX3_putSum_159 fG_X3_62 e159 ?_
    refine ww_iconst 162 X (v := (2 : Int32)) dX3_putSum_162 (by decide) ?_
    obtain ⟨v163, e163, h⟩ := bO_some h
    refine ww_aald6 163 X dX3_putSum_163 e163 ?_
    obtain ⟨_, f164, h⟩ := bO_some h
    obtain ⟨M164, e164, h⟩ := bO_some h
    refine ww_callVV0 164 X dX3_putSum_164 mY_X6_times mL_X3_123 (rcv_spec f164) ⟨_, _, rfl⟩ (by decide) (As := [.ref v151, .ref v157, .ref v163]) (rest := []) rfl rfl ⟨Nat.le_of_ble_eq_true rfl, Nat.le_of_ble_eq_true rfl⟩ (Nat.le_of_ble_eq_true rfl) (fun l D A => c_X6_times l D A e164) ?_
    refine ww_aload_n 167 X dX3_putSum_167 0 rfl rfl ?_
    obtain ⟨v168, e168, h⟩ := bO_some h
    refine ww_getR 168 X dX3_putSum_168 fG_X3_20 e168 ?_
    refine ww_aload_n 171 X dX3_putSum_171 0 rfl rfl ?_
    obtain ⟨v172, e172, h⟩ := bO_some h
    refine ww_getR 172 X dX3_putSum_172 fG_X3_62 e172 ?_
    refine ww_iconst 175 X (v := (1 : Int32)) dX3_putSum_175 (by decide) ?_
    obtain ⟨v176, e176, h⟩ := bO_some h
    refine ww_aald6 176 X dX3_putSum_176 e176 ?_
    obtain ⟨_, f177, h⟩ := bO_some h
    obtain ⟨M177, e177, h⟩ := bO_some h
    refine ww_callVV0 177 X dX3_putSum_177 mY_X6_leadBack mL_X3_172 (rcv_spec f177) ⟨_, _, rfl⟩ (by decide) (As := [.ref v176]) (rest := []) rfl rfl ⟨Nat.le_of_ble_eq_true rfl, Nat.le_of_ble_eq_true rfl⟩ (Nat.le_of_ble_eq_true rfl) (fun l D A => c_X6_leadBack l D A e177) ?_
    refine ww_aload_n 180 X dX3_putSum_180 0 rfl rfl ?_
    obtain ⟨v181, e181, h⟩ := bO_some h
    refine ww_getR 181 X dX3_putSum_181 fG_X3_20 e181 ?_
    refine ww_aload_n 184 X dX3_putSum_184 0 rfl rfl ?_
    obtain ⟨v185, e185, h⟩ := bO_some h
    refine ww_getR 185 X dX3_putSum_185 fG_X3_62 e185 ?_
    refine ww_iconst 188 X (v := (2 : Int32)) dX3_putSum_188 (by decide) ?_
    obtain ⟨v189, e189, h⟩ := bO_some h
    refine ww_aald6 189 X dX3_putSum_189 e189 ?_
    obtain ⟨_, f190, h⟩ := bO_some h
    obtain ⟨M190, e190, h⟩ := bO_some h
    refine ww_callVV0 190 X dX3_putSum_190 mY_X6_leadBack mL_X3_172 (rcv_spec f190) ⟨_, _, rfl⟩ (by decide) (As := [.ref v189]) (rest := []) rfl rfl ⟨Nat.le_of_ble_eq_true rfl, Nat.le_of_ble_eq_true rfl⟩ (Nat.le_of_ble_eq_true rfl) (fun l D A => c_X6_leadBack l D A e190) ?_
    refine ww_aload_n 193 X dX3_putSum_193 1 rfl rfl ?_
    obtain ⟨_, f194, h⟩ := bO_some h
    obtain ⟨M194, e194, h⟩ := bO_some h
    refine ww_callVV0 194 X dX3_putSum_194 mY_X0_clear mL_X3_179 (rcv_spec f194) ⟨_, _, rfl⟩ (by decide) (As := []) (rest := []) rfl rfl ⟨Nat.le_of_ble_eq_true rfl, Nat.le_of_ble_eq_true rfl⟩ (Nat.le_of_ble_eq_true rfl) (fun l D A => c_X0_clear l D A e194) ?_
    refine ww_aload_n 197 X dX3_putSum_197 0 rfl rfl ?_
    obtain ⟨v198, e198, h⟩ := bO_some h
    refine ww_getR 198 X dX3_putSum_198 fG_X3_20 e198 ?_
    refine ww_aload_n 201 X dX3_putSum_201 0 rfl rfl ?_
    obtain ⟨v202, e202, h⟩ := bO_some h
    refine ww_getR 202 X dX3_putSum_202 fG_X3_62 e202 ?_
    refine ww_iconst 205 X (v := (1 : Int32)) dX3_putSum_205 (by decide) ?_
    obtain ⟨v206, e206, h⟩ := bO_some h
    refine ww_aald6 206 X dX3_putSum_206 e206 ?_
    refine ww_bipush 207 X (v := (32 : Int32)) dX3_putSum_207 (by decide) ?_
    refine ww_aload_n 209 X dX3_putSum_209 1 rfl rfl ?_
    obtain ⟨_, f210, h⟩ := bO_some h
    obtain ⟨M210, e210, h⟩ := bO_some h
    refine ww_callVV0 210 X dX3_putSum_210 mY_X6_give mL_X3_182 (rcv_spec f210) ⟨_, _, rfl⟩ (by decide) (As := [.ref v206, .int (32 : Int32), .ref l1]) (rest := []) rfl rfl ⟨Nat.le_of_ble_eq_true rfl, Nat.le_of_ble_eq_true rfl⟩ (Nat.le_of_ble_eq_true rfl) (fun l D A => c_X6_give l D A e210) ?_
    refine ww_aload_n 213 X dX3_putSum_213 0 rfl rfl ?_
    obtain ⟨v214, e214, h⟩ := bO_some h
    refine ww_getR 214 X dX3_putSum_214 fG_X3_20 e214 ?_
    refine ww_aload_n 217 X dX3_putSum_217 0 rfl rfl ?_
    obtain ⟨v218, e218, h⟩ := bO_some h
    refine ww_getR 218 X dX3_putSum_218 fG_X3_62 e218 ?_
    refine ww_iconst 221 X (v := (2 : Int32)) dX3_putSum_221 (by decide) ?_
    obtain ⟨v222, e222, h⟩ := bO_some h
    refine ww_aald6 222 X dX3_putSum_222 e222 ?_
    refine ww_bipush 223 X (v := (32 : Int32)) dX3_putSum_223 (by decide) ?_
    refine ww_aload_n 225 X dX3_putSum_225 1 rfl rfl ?_
    obtain ⟨_, f226, h⟩ := bO_some h
    obtain ⟨M226, e226, h⟩ := bO_some h
    refine ww_callVV0 226 X dX3_putSum_226 mY_X6_give mL_X3_182 (rcv_spec f226) ⟨_, _, rfl⟩ (by decide) (As := [.ref v222, .int (32 : Int32), .ref l1]) (rest := []) rfl rfl ⟨Nat.le_of_ble_eq_true rfl, Nat.le_of_ble_eq_true rfl⟩ (Nat.le_of_ble_eq_true rfl) (fun l D A => c_X6_give l D A e226) ?_
    refine ww_iconst 229 X (v := (1 : Int32)) dX3_putSum_229 (by decide) ?_
    exact ww_zretE 230 X hQ dX3_putSum_230 h
  · replace h := (if_neg q).symm.trans h
    refine ww_iconst 16 X (v := (0 : Int32)) dX3_putSum_16 (by decide) ?_
    exact ww_zretE 17 X hQ dX3_putSum_17 h
theorem c_X3_putSum {G : mG} {F sz : Nat} {r0 : Int32} {M0 : mM} (l : Launch) (D : mD) (A : Nat → Prop) {l0 : Nat} {l1 : Nat} {M : mM} (h : P_X3_putSum G F l0 l1 M = some (r0, M0)) : mMetI l D G A yX3_putSum cX3_putSum 2 (some .boolean) 4 140 0 0 [.ref l0, .ref l1] M sz r0 M0 sz := mMetI_of l D G A (by decide) (Nat.le_of_ble_eq_true rfl) (fun x X hQ => wP_X3_putSum X hQ h)
/-! SealedTokens$Curve.isPair(LSealedTokens$Bytes;LSealedTokens$Bytes;)Z -/
theorem dX3_isPair_0 : decode cX3_isPair 0 = .ok (.aload_n 0, 1) := by decide +kernel
theorem dX3_isPair_1 : decode cX3_isPair 1 = .ok (.aload_n 1, 1) := by decide +kernel
theorem dX3_isPair_2 : decode cX3_isPair 2 = .ok (.iconst 0, 1) := by decide +kernel
theorem dX3_isPair_3 : decode cX3_isPair 3 = .ok (.invokevirtual 137, 3) := by decide +kernel
theorem dX3_isPair_6 : decode cX3_isPair 6 = .ok (.ifCond .ne 5, 3) := by decide +kernel
theorem dX3_isPair_9 : decode cX3_isPair 9 = .ok (.iconst 0, 1) := by decide +kernel
theorem dX3_isPair_10 : decode cX3_isPair 10 = .ok (.ireturn, 1) := by decide +kernel
theorem dX3_isPair_11 : decode cX3_isPair 11 = .ok (.aload_n 0, 1) := by decide +kernel
theorem dX3_isPair_12 : decode cX3_isPair 12 = .ok (.aload_n 1, 1) := by decide +kernel
theorem dX3_isPair_13 : decode cX3_isPair 13 = .ok (.aload_n 0, 1) := by decide +kernel
theorem dX3_isPair_14 : decode cX3_isPair 14 = .ok (.getfield 11, 3) := by decide +kernel
theorem dX3_isPair_17 : decode cX3_isPair 17 = .ok (.aload_n 0, 1) := by decide +kernel
theorem dX3_isPair_18 : decode cX3_isPair 18 = .ok (.getfield 79, 3) := by decide +kernel
theorem dX3_isPair_21 : decode cX3_isPair 21 = .ok (.aload_n 0, 1) := by decide +kernel
theorem dX3_isPair_22 : decode cX3_isPair 22 = .ok (.getfield 11, 3) := by decide +kernel
theorem dX3_isPair_25 : decode cX3_isPair 25 = .ok (.invokevirtual 141, 3) := by decide +kernel
theorem dX3_isPair_28 : decode cX3_isPair 28 = .ok (.aload_n 0, 1) := by decide +kernel
theorem dX3_isPair_29 : decode cX3_isPair 29 = .ok (.aload_n 0, 1) := by decide +kernel
theorem dX3_isPair_30 : decode cX3_isPair 30 = .ok (.getfield 70, 3) := by decide +kernel
theorem dX3_isPair_33 : decode cX3_isPair 33 = .ok (.invokevirtual 145, 3) := by decide +kernel
theorem dX3_isPair_36 : decode cX3_isPair 36 = .ok (.ifCond .eq 18, 3) := by decide +kernel
theorem dX3_isPair_39 : decode cX3_isPair 39 = .ok (.aload_n 0, 1) := by decide +kernel
theorem dX3_isPair_40 : decode cX3_isPair 40 = .ok (.getfield 70, 3) := by decide +kernel
theorem dX3_isPair_43 : decode cX3_isPair 43 = .ok (.aload_n 2, 1) := by decide +kernel
theorem dX3_isPair_44 : decode cX3_isPair 44 = .ok (.invokevirtual 149, 3) := by decide +kernel
theorem dX3_isPair_47 : decode cX3_isPair 47 = .ok (.ifCond .eq 7, 3) := by decide +kernel
theorem dX3_isPair_50 : decode cX3_isPair 50 = .ok (.iconst 1, 1) := by decide +kernel
theorem dX3_isPair_51 : decode cX3_isPair 51 = .ok (.goto 4, 3) := by decide +kernel
theorem dX3_isPair_54 : decode cX3_isPair 54 = .ok (.iconst 0, 1) := by decide +kernel
theorem dX3_isPair_55 : decode cX3_isPair 55 = .ok (.ireturn, 1) := by decide +kernel
abbrev rmX3_isPair : Room := { frames := 5, cells := 0, slots := 0, locals := 165 }
set_option maxHeartbeats 4000000 in
set_option maxRecDepth 100000 in
theorem wP_X3_isPair {G : mG} {F : Nat} {x : mXT} {sz : Nat} {r0 : Int32} {M0 : mM} (X : mCX G RX3 cX3_isPair 3 (some .boolean) "isPair" rmX3_isPair x) (hQ : mQI x r0 M0 (sz, 0, 0)) {l0 : Nat} {l1 : Nat} {l2 : Nat} {M : mM} (h : P_X3_isPair G F l0 l1 l2 M = some (r0, M0)) : WW x (sz, 0, 0) M 0 [(0, .ref l0), (1, .ref l1), (2, .ref l2)] [] := by
  unfold P_X3_isPair at h
  refine ww_aload_n 0 X dX3_isPair_0 0 rfl rfl ?_
  refine ww_aload_n 1 X dX3_isPair_1 1 rfl rfl ?_
  refine ww_iconst 2 X (v := (0 : Int32)) dX3_isPair_2 (by decide) ?_
  obtain ⟨_, f3, h⟩ := bO_some h
  obtain ⟨v3, M3, e3, h⟩ := bP_some h
  refine ww_callVI0 3 X dX3_isPair_3 mY_X3_isSecret mL_X3_137 (rcv_spec f3) ⟨_, _, rfl⟩ (by decide) (As := [.ref l1, .int (0 : Int32)]) (rest := []) rfl rfl ⟨Nat.le_of_ble_eq_true rfl, Nat.le_of_ble_eq_true rfl⟩ (Nat.le_of_ble_eq_true rfl) (fun l D A => c_X3_isSecret l D A e3) ?_
  refine ww_if_ne 6 11 X dX3_isPair_6 (by decide) (fun q => ?_) (fun q => ?_)
  · replace h := (if_neg q).symm.trans h
    refine ww_aload_n 11 X dX3_isPair_11 0 rfl rfl ?_
    refine ww_aload_n 12 X dX3_isPair_12 1 rfl rfl ?_
    refine ww_aload_n 13 X dX3_isPair_13 0 rfl rfl ?_
    obtain ⟨v14, e14, h⟩ := bO_some h
    refine ww_getR 14 X dX3_isPair_14 fG_X3_11 e14 ?_
    refine ww_aload_n 17 X dX3_isPair_17 0 rfl rfl ?_
    obtain ⟨v18, e18, h⟩ := bO_some h
    refine ww_getR 18 X dX3_isPair_18 fG_X3_79 e18 ?_
    refine ww_aload_n 21 X dX3_isPair_21 0 rfl rfl ?_
    obtain ⟨v22, e22, h⟩ := bO_some h
    refine ww_getR 22 X dX3_isPair_22 fG_X3_11 e22 ?_
    obtain ⟨_, f25, h⟩ := bO_some h
    obtain ⟨M25, e25, h⟩ := bO_some h
    refine ww_callVV0 25 X dX3_isPair_25 mY_X3_sumUp mL_X3_141 (rcv_spec f25) ⟨_, _, rfl⟩ (by decide) (As := [.ref l1, .ref v14, .ref v18, .ref v22]) (rest := []) rfl rfl ⟨Nat.le_of_ble_eq_true rfl, Nat.le_of_ble_eq_true rfl⟩ (Nat.le_of_ble_eq_true rfl) (fun l D A => c_X3_sumUp l D A e25) ?_
    refine ww_aload_n 28 X dX3_isPair_28 0 rfl rfl ?_
    refine ww_aload_n 29 X dX3_isPair_29 0 rfl rfl ?_
    obtain ⟨v30, e30, h⟩ := bO_some h
    refine ww_getR 30 X dX3_isPair_30 fG_X3_70 e30 ?_
    obtain ⟨_, f33, h⟩ := bO_some h
    obtain ⟨v33, M33, e33, h⟩ := bP_some h
    refine ww_callVI0 33 X dX3_isPair_33 mY_X3_putSum mL_X3_145 (rcv_spec f33) ⟨_, _, rfl⟩ (by decide) (As := [.ref v30]) (rest := []) rfl rfl ⟨Nat.le_of_ble_eq_true rfl, Nat.le_of_ble_eq_true rfl⟩ (Nat.le_of_ble_eq_true rfl) (fun l D A => c_X3_putSum l D A e33) ?_
    refine ww_if_eq 36 54 X dX3_isPair_36 (by decide) (fun q => ?_) (fun q => ?_)
    · replace h := (if_pos q).symm.trans h
      refine ww_iconst 54 X (v := (0 : Int32)) dX3_isPair_54 (by decide) ?_
      exact ww_zretE 55 X hQ dX3_isPair_55 h
    · replace h := (if_neg q).symm.trans h
      refine ww_aload_n 39 X dX3_isPair_39 0 rfl rfl ?_
      obtain ⟨v40, e40, h⟩ := bO_some h
      refine ww_getR 40 X dX3_isPair_40 fG_X3_70 e40 ?_
      refine ww_aload_n 43 X dX3_isPair_43 2 rfl rfl ?_
      obtain ⟨_, f44, h⟩ := bO_some h
      obtain ⟨v44, M44, e44, h⟩ := bP_some h
      refine ww_callVI0 44 X dX3_isPair_44 mY_X0_same mL_X3_149 (rcv_spec f44) ⟨_, _, rfl⟩ (by decide) (As := [.ref l2]) (rest := []) rfl rfl ⟨Nat.le_of_ble_eq_true rfl, Nat.le_of_ble_eq_true rfl⟩ (Nat.le_of_ble_eq_true rfl) (fun l D A => c_X0_same l D A e44) ?_
      refine ww_if_eq 47 54 X dX3_isPair_47 (by decide) (fun q => ?_) (fun q => ?_)
      · replace h := (if_pos q).symm.trans h
        refine ww_iconst 54 X (v := (0 : Int32)) dX3_isPair_54 (by decide) ?_
        exact ww_zretE 55 X hQ dX3_isPair_55 h
      · replace h := (if_neg q).symm.trans h
        refine ww_iconst 50 X (v := (1 : Int32)) dX3_isPair_50 (by decide) ?_
        refine ww_goto 51 55 X dX3_isPair_51 (by decide) ?_
        exact ww_zretE 55 X hQ dX3_isPair_55 h
  · replace h := (if_pos q).symm.trans h
    refine ww_iconst 9 X (v := (0 : Int32)) dX3_isPair_9 (by decide) ?_
    exact ww_zretE 10 X hQ dX3_isPair_10 h
theorem c_X3_isPair {G : mG} {F sz : Nat} {r0 : Int32} {M0 : mM} (l : Launch) (D : mD) (A : Nat → Prop) {l0 : Nat} {l1 : Nat} {l2 : Nat} {M : mM} (h : P_X3_isPair G F l0 l1 l2 M = some (r0, M0)) : mMetI l D G A yX3_isPair cX3_isPair 3 (some .boolean) 5 165 0 0 [.ref l0, .ref l1, .ref l2] M sz r0 M0 sz := mMetI_of l D G A (by decide) (Nat.le_of_ble_eq_true rfl) (fun x X hQ => wP_X3_isPair X hQ h)
/-! SealedTokens$Curve.putSignature(LSealedTokens$Bytes;LSealedTokens$Bytes;LSealedTokens$Bytes;LSealedTokens$Bytes;)Z -/
theorem dX3_putSignature_0 : decode cX3_putSignature 0 = .ok (.aload_n 3, 1) := by decide +kernel
theorem dX3_putSignature_1 : decode cX3_putSignature 1 = .ok (.getfield 186, 3) := by decide +kernel
theorem dX3_putSignature_4 : decode cX3_putSignature 4 = .ok (.bipush 32, 2) := by decide +kernel
theorem dX3_putSignature_6 : decode cX3_putSignature 6 = .ok (.if_icmp .lt 12, 3) := by decide +kernel
theorem dX3_putSignature_9 : decode cX3_putSignature 9 = .ok (.aload_n 0, 1) := by decide +kernel
theorem dX3_putSignature_10 : decode cX3_putSignature 10 = .ok (.aload_n 3, 1) := by decide +kernel
theorem dX3_putSignature_11 : decode cX3_putSignature 11 = .ok (.iconst 0, 1) := by decide +kernel
theorem dX3_putSignature_12 : decode cX3_putSignature 12 = .ok (.invokevirtual 137, 3) := by decide +kernel
theorem dX3_putSignature_15 : decode cX3_putSignature 15 = .ok (.ifCond .ne 5, 3) := by decide +kernel
theorem dX3_putSignature_18 : decode cX3_putSignature 18 = .ok (.iconst 0, 1) := by decide +kernel
theorem dX3_putSignature_19 : decode cX3_putSignature 19 = .ok (.ireturn, 1) := by decide +kernel
theorem dX3_putSignature_20 : decode cX3_putSignature 20 = .ok (.aload_n 0, 1) := by decide +kernel
theorem dX3_putSignature_21 : decode cX3_putSignature 21 = .ok (.getfield 76, 3) := by decide +kernel
theorem dX3_putSignature_24 : decode cX3_putSignature 24 = .ok (.invokevirtual 179, 3) := by decide +kernel
theorem dX3_putSignature_27 : decode cX3_putSignature 27 = .ok (.aload_n 0, 1) := by decide +kernel
theorem dX3_putSignature_28 : decode cX3_putSignature 28 = .ok (.getfield 76, 3) := by decide +kernel
theorem dX3_putSignature_31 : decode cX3_putSignature 31 = .ok (.aload_n 3, 1) := by decide +kernel
theorem dX3_putSignature_32 : decode cX3_putSignature 32 = .ok (.iconst 0, 1) := by decide +kernel
theorem dX3_putSignature_33 : decode cX3_putSignature 33 = .ok (.bipush 32, 2) := by decide +kernel
theorem dX3_putSignature_35 : decode cX3_putSignature 35 = .ok (.invokevirtual 190, 3) := by decide +kernel
theorem dX3_putSignature_38 : decode cX3_putSignature 38 = .ok (.aload_n 0, 1) := by decide +kernel
theorem dX3_putSignature_39 : decode cX3_putSignature 39 = .ok (.aload_n 0, 1) := by decide +kernel
theorem dX3_putSignature_40 : decode cX3_putSignature 40 = .ok (.getfield 76, 3) := by decide +kernel
theorem dX3_putSignature_43 : decode cX3_putSignature 43 = .ok (.aload_n 0, 1) := by decide +kernel
theorem dX3_putSignature_44 : decode cX3_putSignature 44 = .ok (.getfield 11, 3) := by decide +kernel
theorem dX3_putSignature_47 : decode cX3_putSignature 47 = .ok (.aload_n 0, 1) := by decide +kernel
theorem dX3_putSignature_48 : decode cX3_putSignature 48 = .ok (.getfield 79, 3) := by decide +kernel
theorem dX3_putSignature_51 : decode cX3_putSignature 51 = .ok (.aload_n 0, 1) := by decide +kernel
theorem dX3_putSignature_52 : decode cX3_putSignature 52 = .ok (.getfield 11, 3) := by decide +kernel
theorem dX3_putSignature_55 : decode cX3_putSignature 55 = .ok (.invokevirtual 141, 3) := by decide +kernel
theorem dX3_putSignature_58 : decode cX3_putSignature 58 = .ok (.aload_n 0, 1) := by decide +kernel
theorem dX3_putSignature_59 : decode cX3_putSignature 59 = .ok (.aload_n 0, 1) := by decide +kernel
theorem dX3_putSignature_60 : decode cX3_putSignature 60 = .ok (.getfield 70, 3) := by decide +kernel
theorem dX3_putSignature_63 : decode cX3_putSignature 63 = .ok (.invokevirtual 145, 3) := by decide +kernel
theorem dX3_putSignature_66 : decode cX3_putSignature 66 = .ok (.pop, 1) := by decide +kernel
theorem dX3_putSignature_67 : decode cX3_putSignature 67 = .ok (.aload_n 0, 1) := by decide +kernel
theorem dX3_putSignature_68 : decode cX3_putSignature 68 = .ok (.getfield 62, 3) := by decide +kernel
theorem dX3_putSignature_71 : decode cX3_putSignature 71 = .ok (.iconst 0, 1) := by decide +kernel
theorem dX3_putSignature_72 : decode cX3_putSignature 72 = .ok (.aaload, 1) := by decide +kernel
theorem dX3_putSignature_73 : decode cX3_putSignature 73 = .ok (.astore 5, 2) := by decide +kernel
theorem dX3_putSignature_75 : decode cX3_putSignature 75 = .ok (.aload_n 0, 1) := by decide +kernel
theorem dX3_putSignature_76 : decode cX3_putSignature 76 = .ok (.getfield 62, 3) := by decide +kernel
theorem dX3_putSignature_79 : decode cX3_putSignature 79 = .ok (.iconst 1, 1) := by decide +kernel
theorem dX3_putSignature_80 : decode cX3_putSignature 80 = .ok (.aaload, 1) := by decide +kernel
theorem dX3_putSignature_81 : decode cX3_putSignature 81 = .ok (.astore 6, 2) := by decide +kernel
theorem dX3_putSignature_83 : decode cX3_putSignature 83 = .ok (.aload_n 0, 1) := by decide +kernel
theorem dX3_putSignature_84 : decode cX3_putSignature 84 = .ok (.getfield 62, 3) := by decide +kernel
theorem dX3_putSignature_87 : decode cX3_putSignature 87 = .ok (.iconst 2, 1) := by decide +kernel
theorem dX3_putSignature_88 : decode cX3_putSignature 88 = .ok (.aaload, 1) := by decide +kernel
theorem dX3_putSignature_89 : decode cX3_putSignature 89 = .ok (.astore 7, 2) := by decide +kernel
theorem dX3_putSignature_91 : decode cX3_putSignature 91 = .ok (.aload_n 0, 1) := by decide +kernel
theorem dX3_putSignature_92 : decode cX3_putSignature 92 = .ok (.getfield 24, 3) := by decide +kernel
theorem dX3_putSignature_95 : decode cX3_putSignature 95 = .ok (.aload_n 0, 1) := by decide +kernel
theorem dX3_putSignature_96 : decode cX3_putSignature 96 = .ok (.getfield 70, 3) := by decide +kernel
theorem dX3_putSignature_99 : decode cX3_putSignature 99 = .ok (.iconst 0, 1) := by decide +kernel
theorem dX3_putSignature_100 : decode cX3_putSignature 100 = .ok (.bipush 32, 2) := by decide +kernel
theorem dX3_putSignature_102 : decode cX3_putSignature 102 = .ok (.aload 5, 2) := by decide +kernel
theorem dX3_putSignature_104 : decode cX3_putSignature 104 = .ok (.invokevirtual 88, 3) := by decide +kernel
theorem dX3_putSignature_107 : decode cX3_putSignature 107 = .ok (.aload_n 0, 1) := by decide +kernel
theorem dX3_putSignature_108 : decode cX3_putSignature 108 = .ok (.getfield 24, 3) := by decide +kernel
theorem dX3_putSignature_111 : decode cX3_putSignature 111 = .ok (.aload_n 2, 1) := by decide +kernel
theorem dX3_putSignature_112 : decode cX3_putSignature 112 = .ok (.iconst 0, 1) := by decide +kernel
theorem dX3_putSignature_113 : decode cX3_putSignature 113 = .ok (.bipush 32, 2) := by decide +kernel
theorem dX3_putSignature_115 : decode cX3_putSignature 115 = .ok (.aload 7, 2) := by decide +kernel
theorem dX3_putSignature_117 : decode cX3_putSignature 117 = .ok (.invokevirtual 88, 3) := by decide +kernel
theorem dX3_putSignature_120 : decode cX3_putSignature 120 = .ok (.aload_n 0, 1) := by decide +kernel
theorem dX3_putSignature_121 : decode cX3_putSignature 121 = .ok (.getfield 24, 3) := by decide +kernel
theorem dX3_putSignature_124 : decode cX3_putSignature 124 = .ok (.aload 7, 2) := by decide +kernel
theorem dX3_putSignature_126 : decode cX3_putSignature 126 = .ok (.invokevirtual 96, 3) := by decide +kernel
theorem dX3_putSignature_129 : decode cX3_putSignature 129 = .ok (.aload_n 0, 1) := by decide +kernel
theorem dX3_putSignature_130 : decode cX3_putSignature 130 = .ok (.getfield 24, 3) := by decide +kernel
theorem dX3_putSignature_133 : decode cX3_putSignature 133 = .ok (.aload 5, 2) := by decide +kernel
theorem dX3_putSignature_135 : decode cX3_putSignature 135 = .ok (.aload 7, 2) := by decide +kernel
theorem dX3_putSignature_137 : decode cX3_putSignature 137 = .ok (.aload 6, 2) := by decide +kernel
theorem dX3_putSignature_139 : decode cX3_putSignature 139 = .ok (.invokevirtual 123, 3) := by decide +kernel
theorem dX3_putSignature_142 : decode cX3_putSignature 142 = .ok (.aload_n 0, 1) := by decide +kernel
theorem dX3_putSignature_143 : decode cX3_putSignature 143 = .ok (.getfield 24, 3) := by decide +kernel
theorem dX3_putSignature_146 : decode cX3_putSignature 146 = .ok (.aload_n 1, 1) := by decide +kernel
theorem dX3_putSignature_147 : decode cX3_putSignature 147 = .ok (.iconst 0, 1) := by decide +kernel
theorem dX3_putSignature_148 : decode cX3_putSignature 148 = .ok (.bipush 32, 2) := by decide +kernel
theorem dX3_putSignature_150 : decode cX3_putSignature 150 = .ok (.aload 7, 2) := by decide +kernel
theorem dX3_putSignature_152 : decode cX3_putSignature 152 = .ok (.invokevirtual 88, 3) := by decide +kernel
theorem dX3_putSignature_155 : decode cX3_putSignature 155 = .ok (.aload_n 0, 1) := by decide +kernel
theorem dX3_putSignature_156 : decode cX3_putSignature 156 = .ok (.getfield 24, 3) := by decide +kernel
theorem dX3_putSignature_159 : decode cX3_putSignature 159 = .ok (.aload 6, 2) := by decide +kernel
theorem dX3_putSignature_161 : decode cX3_putSignature 161 = .ok (.aload 7, 2) := by decide +kernel
theorem dX3_putSignature_163 : decode cX3_putSignature 163 = .ok (.aload 6, 2) := by decide +kernel
theorem dX3_putSignature_165 : decode cX3_putSignature 165 = .ok (.invokevirtual 130, 3) := by decide +kernel
theorem dX3_putSignature_168 : decode cX3_putSignature 168 = .ok (.aload_n 0, 1) := by decide +kernel
theorem dX3_putSignature_169 : decode cX3_putSignature 169 = .ok (.getfield 24, 3) := by decide +kernel
theorem dX3_putSignature_172 : decode cX3_putSignature 172 = .ok (.aload_n 3, 1) := by decide +kernel
theorem dX3_putSignature_173 : decode cX3_putSignature 173 = .ok (.iconst 0, 1) := by decide +kernel
theorem dX3_putSignature_174 : decode cX3_putSignature 174 = .ok (.bipush 32, 2) := by decide +kernel
theorem dX3_putSignature_176 : decode cX3_putSignature 176 = .ok (.aload 7, 2) := by decide +kernel
theorem dX3_putSignature_178 : decode cX3_putSignature 178 = .ok (.invokevirtual 88, 3) := by decide +kernel
theorem dX3_putSignature_181 : decode cX3_putSignature 181 = .ok (.aload_n 0, 1) := by decide +kernel
theorem dX3_putSignature_182 : decode cX3_putSignature 182 = .ok (.getfield 24, 3) := by decide +kernel
theorem dX3_putSignature_185 : decode cX3_putSignature 185 = .ok (.aload 7, 2) := by decide +kernel
theorem dX3_putSignature_187 : decode cX3_putSignature 187 = .ok (.aload_n 0, 1) := by decide +kernel
theorem dX3_putSignature_188 : decode cX3_putSignature 188 = .ok (.getfield 49, 3) := by decide +kernel
theorem dX3_putSignature_191 : decode cX3_putSignature 191 = .ok (.aload 7, 2) := by decide +kernel
theorem dX3_putSignature_193 : decode cX3_putSignature 193 = .ok (.invokevirtual 175, 3) := by decide +kernel
theorem dX3_putSignature_196 : decode cX3_putSignature 196 = .ok (.aload_n 0, 1) := by decide +kernel
theorem dX3_putSignature_197 : decode cX3_putSignature 197 = .ok (.getfield 24, 3) := by decide +kernel
theorem dX3_putSignature_200 : decode cX3_putSignature 200 = .ok (.aload 7, 2) := by decide +kernel
theorem dX3_putSignature_202 : decode cX3_putSignature 202 = .ok (.invokevirtual 96, 3) := by decide +kernel
theorem dX3_putSignature_205 : decode cX3_putSignature 205 = .ok (.aload_n 0, 1) := by decide +kernel
theorem dX3_putSignature_206 : decode cX3_putSignature 206 = .ok (.getfield 24, 3) := by decide +kernel
theorem dX3_putSignature_209 : decode cX3_putSignature 209 = .ok (.aload 6, 2) := by decide +kernel
theorem dX3_putSignature_211 : decode cX3_putSignature 211 = .ok (.aload 7, 2) := by decide +kernel
theorem dX3_putSignature_213 : decode cX3_putSignature 213 = .ok (.aload 6, 2) := by decide +kernel
theorem dX3_putSignature_215 : decode cX3_putSignature 215 = .ok (.invokevirtual 123, 3) := by decide +kernel
theorem dX3_putSignature_218 : decode cX3_putSignature 218 = .ok (.aload_n 0, 1) := by decide +kernel
theorem dX3_putSignature_219 : decode cX3_putSignature 219 = .ok (.getfield 24, 3) := by decide +kernel
theorem dX3_putSignature_222 : decode cX3_putSignature 222 = .ok (.aload 5, 2) := by decide +kernel
theorem dX3_putSignature_224 : decode cX3_putSignature 224 = .ok (.invokevirtual 162, 3) := by decide +kernel
theorem dX3_putSignature_227 : decode cX3_putSignature 227 = .ok (.ifCond .ne 15, 3) := by decide +kernel
theorem dX3_putSignature_230 : decode cX3_putSignature 230 = .ok (.aload_n 0, 1) := by decide +kernel
theorem dX3_putSignature_231 : decode cX3_putSignature 231 = .ok (.getfield 24, 3) := by decide +kernel
theorem dX3_putSignature_234 : decode cX3_putSignature 234 = .ok (.aload 6, 2) := by decide +kernel
theorem dX3_putSignature_236 : decode cX3_putSignature 236 = .ok (.invokevirtual 162, 3) := by decide +kernel
theorem dX3_putSignature_239 : decode cX3_putSignature 239 = .ok (.ifCond .eq 5, 3) := by decide +kernel
theorem dX3_putSignature_242 : decode cX3_putSignature 242 = .ok (.iconst 0, 1) := by decide +kernel
theorem dX3_putSignature_243 : decode cX3_putSignature 243 = .ok (.ireturn, 1) := by decide +kernel
theorem dX3_putSignature_244 : decode cX3_putSignature 244 = .ok (.aload 4, 2) := by decide +kernel
theorem dX3_putSignature_246 : decode cX3_putSignature 246 = .ok (.invokevirtual 179, 3) := by decide +kernel
theorem dX3_putSignature_249 : decode cX3_putSignature 249 = .ok (.aload_n 0, 1) := by decide +kernel
theorem dX3_putSignature_250 : decode cX3_putSignature 250 = .ok (.getfield 24, 3) := by decide +kernel
theorem dX3_putSignature_253 : decode cX3_putSignature 253 = .ok (.aload 5, 2) := by decide +kernel
theorem dX3_putSignature_255 : decode cX3_putSignature 255 = .ok (.bipush 32, 2) := by decide +kernel
theorem dX3_putSignature_257 : decode cX3_putSignature 257 = .ok (.aload 4, 2) := by decide +kernel
theorem dX3_putSignature_259 : decode cX3_putSignature 259 = .ok (.invokevirtual 182, 3) := by decide +kernel
theorem dX3_putSignature_262 : decode cX3_putSignature 262 = .ok (.aload_n 0, 1) := by decide +kernel
theorem dX3_putSignature_263 : decode cX3_putSignature 263 = .ok (.getfield 24, 3) := by decide +kernel
theorem dX3_putSignature_266 : decode cX3_putSignature 266 = .ok (.aload 6, 2) := by decide +kernel
theorem dX3_putSignature_268 : decode cX3_putSignature 268 = .ok (.bipush 32, 2) := by decide +kernel
theorem dX3_putSignature_270 : decode cX3_putSignature 270 = .ok (.aload 4, 2) := by decide +kernel
theorem dX3_putSignature_272 : decode cX3_putSignature 272 = .ok (.invokevirtual 182, 3) := by decide +kernel
theorem dX3_putSignature_275 : decode cX3_putSignature 275 = .ok (.iconst 1, 1) := by decide +kernel
theorem dX3_putSignature_276 : decode cX3_putSignature 276 = .ok (.ireturn, 1) := by decide +kernel
abbrev rmX3_putSignature : Room := { frames := 5, cells := 0, slots := 0, locals := 165 }
set_option maxHeartbeats 4000000 in
set_option maxRecDepth 100000 in
theorem wP_X3_putSignature {G : mG} {F : Nat} {x : mXT} {sz : Nat} {r0 : Int32} {M0 : mM} (X : mCX G RX3 cX3_putSignature 8 (some .boolean) "putSignature" rmX3_putSignature x) (hQ : mQI x r0 M0 (sz, 0, 0)) {l0 : Nat} {l1 : Nat} {l2 : Nat} {l3 : Nat} {l4 : Nat} {M : mM} (h : P_X3_putSignature G F l0 l1 l2 l3 l4 M = some (r0, M0)) : WW x (sz, 0, 0) M 0 [(0, .ref l0), (1, .ref l1), (2, .ref l2), (3, .ref l3), (4, .ref l4)] [] := by
  unfold P_X3_putSignature at h
  refine ww_aload_n 0 X dX3_putSignature_0 3 rfl rfl ?_
  obtain ⟨v1, e1, h⟩ := bO_some h
  refine ww_getI 1 X dX3_putSignature_1 fG_X3_186 e1 ?_
  refine ww_bipush 4 X (v := (32 : Int32)) dX3_putSignature_4 (by decide) ?_
  refine ww_icmp_lt 6 18 X dX3_putSignature_6 (by decide) (fun q => ?_) (fun q => ?_)
  · replace h := (if_pos q).symm.trans h
    refine ww_iconst 18 X (v := (0 : Int32)) dX3_putSignature_18 (by decide) ?_
    exact ww_zretE 19 X hQ dX3_putSignature_19 h
  · replace h := (if_neg q).symm.trans h
    refine ww_aload_n 9 X dX3_putSignature_9 0 rfl rfl ?_
    refine ww_aload_n 10 X dX3_putSignature_10 3 rfl rfl ?_
    refine ww_iconst 11 X (v := (0 : Int32)) dX3_putSignature_11 (by decide) ?_
    obtain ⟨_, f12, h⟩ := bO_some h
    obtain ⟨v12, M12, e12, h⟩ := bP_some h
    refine ww_callVI0 12 X dX3_putSignature_12 mY_X3_isSecret mL_X3_137 (rcv_spec f12) ⟨_, _, rfl⟩ (by decide) (As := [.ref l3, .int (0 : Int32)]) (rest := []) rfl rfl ⟨Nat.le_of_ble_eq_true rfl, Nat.le_of_ble_eq_true rfl⟩ (Nat.le_of_ble_eq_true rfl) (fun l D A => c_X3_isSecret l D A e12) ?_
    refine ww_if_ne 15 20 X dX3_putSignature_15 (by decide) (fun q => ?_) (fun q => ?_)
    · replace h := (if_neg q).symm.trans h
      refine ww_aload_n 20 X dX3_putSignature_20 0 rfl rfl ?_
      obtain ⟨v21, e21, h⟩ := bO_some h
      refine ww_getR 21 X dX3_putSignature_21 fG_X3_76 e21 ?_
      obtain ⟨_, f24, h⟩ := bO_some h
      obtain ⟨M24, e24, h⟩ := bO_some h
      refine ww_callVV0 24 X dX3_putSignature_24 mY_X0_clear mL_X3_179 (rcv_spec f24) ⟨_, _, rfl⟩ (by decide) (As := []) (rest := []) rfl rfl ⟨Nat.le_of_ble_eq_true rfl, Nat.le_of_ble_eq_true rfl⟩ (Nat.le_of_ble_eq_true rfl) (fun l D A => c_X0_clear l D A e24) ?_
      refine ww_aload_n 27 X dX3_putSignature_27 0 rfl rfl ?_
      obtain ⟨v28, e28, h⟩ := bO_some h
      refine ww_getR 28 X dX3_putSignature_28 fG_X3_76 e28 ?_
      refine ww_aload_n 31 X dX3_putSignature_31 3 rfl rfl ?_
      refine ww_iconst 32 X (v := (0 : Int32)) dX3_putSignature_32 (by decide) ?_
      refine ww_bipush 33 X (v := (32 : Int32)) dX3_putSignature_33 (by decide) ?_
      obtain ⟨_, f35, h⟩ := bO_some h
      obtain ⟨M35, e35, h⟩ := bO_some h
      refine ww_callVV0 35 X dX3_putSignature_35 mY_X0_putPart mL_X3_190 (rcv_spec f35) ⟨_, _, rfl⟩ (by decide) (As := [.ref l3, .int (0 : Int32), .int (32 : Int32)]) (rest := []) rfl rfl ⟨Nat.le_of_ble_eq_true rfl, Nat.le_of_ble_eq_true rfl⟩ (Nat.le_of_ble_eq_true rfl) (fun l D A => c_X0_putPart l D A e35) ?_
      refine ww_aload_n 38 X dX3_putSignature_38 0 rfl rfl ?_
      refine ww_aload_n 39 X dX3_putSignature_39 0 rfl rfl ?_
      obtain ⟨v40, e40, h⟩ := bO_some h
      refine ww_getR 40 X dX3_putSignature_40 fG_X3_76 e40 ?_
      refine ww_aload_n 43 X dX3_putSignature_43 0 rfl rfl ?_
      obtain ⟨v44, e44, h⟩ := bO_some h
      refine ww_getR 44 X dX3_putSignature_44 fG_X3_11 e44 ?_
      refine ww_aload_n 47 X dX3_putSignature_47 0 rfl rfl ?_
      obtain ⟨v48, e48, h⟩ := bO_some h
      refine ww_getR 48 X dX3_putSignature_48 fG_X3_79 e48 ?_
      refine ww_aload_n 51 X dX3_putSignature_51 0 rfl rfl ?_
      obtain ⟨v52, e52, h⟩ := bO_some h
      refine ww_getR 52 X dX3_putSignature_52 fG_X3_11 e52 ?_
      obtain ⟨_, f55, h⟩ := bO_some h
      obtain ⟨M55, e55, h⟩ := bO_some h
      refine ww_callVV0 55 X dX3_putSignature_55 mY_X3_sumUp mL_X3_141 (rcv_spec f55) ⟨_, _, rfl⟩ (by decide) (As := [.ref v40, .ref v44, .ref v48, .ref v52]) (rest := []) rfl rfl ⟨Nat.le_of_ble_eq_true rfl, Nat.le_of_ble_eq_true rfl⟩ (Nat.le_of_ble_eq_true rfl) (fun l D A => c_X3_sumUp l D A e55) ?_
      refine ww_aload_n 58 X dX3_putSignature_58 0 rfl rfl ?_
      refine ww_aload_n 59 X dX3_putSignature_59 0 rfl rfl ?_
      obtain ⟨v60, e60, h⟩ := bO_some h
      refine ww_getR 60 X dX3_putSignature_60 fG_X3_70 e60 ?_
      obtain ⟨_, f63, h⟩ := bO_some h
      obtain ⟨v63, M63, e63, h⟩ := bP_some h
      refine ww_callVI0 63 X dX3_putSignature_63 mY_X3_putSum mL_X3_145 (rcv_spec f63) ⟨_, _, rfl⟩ (by decide) (As := [.ref v60]) (rest := []) rfl rfl ⟨Nat.le_of_ble_eq_true rfl, Nat.le_of_ble_eq_true rfl⟩ (Nat.le_of_ble_eq_true rfl) (fun l D A => c_X3_putSum l D A e63) ?_
      refine ww_pop 66 X dX3_putSignature_66 rfl ?_
      refine ww_aload_n 67 X dX3_putSignature_67 0 rfl rfl ?_
      obtain ⟨v68, e68, h⟩ := bO_some h
      refine ww_getR 68 X dX3_putSignature_68 fG_X3_62 e68 ?_
      refine ww_iconst 71 X (v := (0 : Int32)) dX3_putSignature_71 (by decide) ?_
      obtain ⟨v72, e72, h⟩ := bO_some h
      refine ww_aald6 72 X dX3_putSignature_72 e72 ?_
      refine ww_astore 73 X dX3_putSignature_73 (lv' := [(0, .ref l0), (1, .ref l1), (2, .ref l2), (3, .ref l3), (4, .ref l4), (5, .ref v72)]) (by decide) [1, 2, 3, 4, 5, 0] rfl ?_
      refine ww_aload_n 75 X dX3_putSignature_75 0 rfl rfl ?_
      obtain ⟨v76, e76, h⟩ := bO_some h
      refine ww_getR 76 X dX3_putSignature_76 fG_X3_62 e76 ?_
      refine ww_iconst 79 X (v := (1 : Int32)) dX3_putSignature_79 (by decide) ?_
      obtain ⟨v80, e80, h⟩ := bO_some h
      refine ww_aald6 80 X dX3_putSignature_80 e80 ?_
      refine ww_astore 81 X dX3_putSignature_81 (lv' := [(0, .ref l0), (1, .ref l1), (2, .ref l2), (3, .ref l3), (4, .ref l4), (5, .ref v72), (6, .ref v80)]) (by decide) [1, 2, 3, 4, 5, 6, 0] rfl ?_
      refine ww_aload_n 83 X dX3_putSignature_83 0 rfl rfl ?_
      obtain ⟨v84, e84, h⟩ := bO_some h
      refine ww_getR 84 X dX3_putSignature_84 fG_X3_62 e84 ?_
      refine ww_iconst 87 X (v := (2 : Int32)) dX3_putSignature_87 (by decide) ?_
      obtain ⟨v88, e88, h⟩ := bO_some h
      refine ww_aald6 88 X dX3_putSignature_88 e88 ?_
      refine ww_astore 89 X dX3_putSignature_89 (lv' := [(0, .ref l0), (1, .ref l1), (2, .ref l2), (3, .ref l3), (4, .ref l4), (5, .ref v72), (6, .ref v80), (7, .ref v88)]) (by decide) [1, 2, 3, 4, 5, 6, 7, 0] rfl ?_
      refine ww_aload_n 91 X dX3_putSignature_91 0 rfl rfl ?_
      obtain ⟨v92, e92, h⟩ := bO_some h
      refine ww_getR 92 X dX3_putSignature_92 fG_X3_24 e92 ?_
      refine ww_aload_n 95 X dX3_putSignature_95 0 rfl rfl ?_
      obtain ⟨v96, e96, h⟩ := bO_some h
      refine ww_getR 96 X dX3_putSignature_96 fG_X3_70 e96 ?_
      refine ww_iconst 99 X (v := (0 : Int32)) dX3_putSignature_99 (by decide) ?_
      refine ww_bipush 100 X (v := (32 : Int32)) dX3_putSignature_100 (by decide) ?_
      refine ww_aload 102 X dX3_putSignature_102 5 rfl ?_
      obtain ⟨_, f104, h⟩ := bO_some h
      obtain ⟨M104, e104, h⟩ := bO_some h
      refine ww_callVV0 104 X dX3_putSignature_104 mY_X6_take mL_X3_88 (rcv_spec f104) ⟨_, _, rfl⟩ (by decide) (As := [.ref v96, .int (0 : Int32), .int (32 : Int32), .ref v72]) (rest := []) rfl rfl ⟨Nat.le_of_ble_eq_true rfl, Nat.le_of_ble_eq_true rfl⟩ (Nat.le_of_ble_eq_true rfl) (fun l D A => c_X6_take l D A e104) ?_
      refine ww_aload_n 107 X dX3_putSignature_107 0 rfl rfl ?_
      obtain ⟨v108, e108, h⟩ := bO_some h
      refine ww_getR 108 X dX3_putSignature_108 fG_X3_24 e108 ?_
      refine ww_aload_n 111 X dX3_putSignature_111 2 rfl rfl ?_
      refine ww_iconst 112 X (v := (0 : Int32)) dX3_putSignature_112 (by decide) ?_
      refine ww_bipush 113 X (v := (32 : Int32)) dX3_putSignature_113 (by decide) ?_
      refine ww_aload 115 X dX3_putSignature_115 7 rfl ?_
      obtain ⟨_, f117, h⟩ := bO_some h
      obtain ⟨M117, e117, h⟩ := bO_some h
      refine ww_callVV0 117 X dX3_putSignature_117 mY_X6_take mL_X3_88 (rcv_spec f117) ⟨_, _, rfl⟩ (by decide) (As := [.ref l2, .int (0 : Int32), .int (32 : Int32), .ref v88]) (rest := []) rfl rfl ⟨Nat.le_of_ble_eq_true rfl, Nat.le_of_ble_eq_true rfl⟩ (Nat.le_of_ble_eq_true rfl) (fun l D A => c_X6_take l D A e117) ?_
      refine ww_aload_n 120 X dX3_putSignature_120 0 rfl rfl ?_
      obtain ⟨v121, e121, h⟩ := bO_some h
      refine ww_getR 121 X dX3_putSignature_121 fG_X3_24 e121 ?_
      refine ww_aload 124 X dX3_putSignature_124 7 rfl ?_
      obtain ⟨_, f126, h⟩ := bO_some h
      obtain ⟨M126, e126, h⟩ := bO_some h
      refine ww_callVV0 126 X dX3_putSignature_126 mY_X6_lead mL_X3_96 (rcv_spec f126) ⟨_, _, rfl⟩ (by decide) (As := [.ref v88]) (rest := []) rfl rfl ⟨Nat.le_of_ble_eq_true rfl, Nat.le_of_ble_eq_true rfl⟩ (Nat.le_of_ble_eq_true rfl) (fun l D A => c_X6_lead l D A e126) ?_
      refine ww_aload_n 129 X dX3_putSignature_129 0 rfl rfl ?_
      obtain ⟨v130, e130, h⟩ := bO_some h
      refine ww_getR 130 X dX3_putSignature_130 fG_X3_24 e130 ?_
      refine ww_aload 133 X dX3_putSignature_133 5 rfl ?_
      refine ww_aload 135 X dX3_putSignature_135 7 rfl ?_
      refine ww_aload 137 X dX3_putSignature_137 6 rfl ?_
      obtain ⟨_, f139, h⟩ := bO_some h
      obtain ⟨M139, e139, h⟩ := bO_some h
      refine ww_callVV0 139 X dX3_putSignature_139 mY_X6_times mL_X3_123 (rcv_spec f139) ⟨_, _, rfl⟩ (by decide) (As := [.ref v72, .ref v88, .ref v80]) (rest := []) rfl rfl ⟨Nat.le_of_ble_eq_true rfl, Nat.le_of_ble_eq_true rfl⟩ (Nat.le_of_ble_eq_true rfl) (fun l D A => c_X6_times l D A e139) ?_
      refine ww_aload_n 142 X dX3_putSignature_142 0 rfl rfl ?_
      obtain ⟨v143, e143, h⟩ := bO_some h
      refine ww_getR 143 X dX3_putSignature_143 fG_X3_24 e143 ?_
      refine ww_aload_n 146 X dX3_putSignature_146 1 rfl rfl ?_
      refine ww_iconst 147 X (v := (0 : Int32)) dX3_putSignature_147 (by decide) ?_
      refine ww_bipush 148 X (v := (32 : Int32)) dX3_putSignature_148 (by decide) ?_
      refine ww_aload 150 X dX3_putSignature_150 7 rfl ?_
      obtain ⟨_, f152, h⟩ := bO_some h
      obtain ⟨M152, e152, h⟩ := bO_some h
      refine ww_callVV0 152 X dX3_putSignature_152 mY_X6_take mL_X3_88 (rcv_spec f152) ⟨_, _, rfl⟩ (by decide) (As := [.ref l1, .int (0 : Int32), .int (32 : Int32), .ref v88]) (rest := []) rfl rfl ⟨Nat.le_of_ble_eq_true rfl, Nat.le_of_ble_eq_true rfl⟩ (Nat.le_of_ble_eq_true rfl) (fun l D A => c_X6_take l D A e152) ?_
      refine ww_aload_n 155 X dX3_putSignature_155 0 rfl rfl ?_
      obtain ⟨v156, e156, h⟩ := bO_some h
      refine ww_getR 156 X dX3_putSignature_156 fG_X3_24 e156 ?_
      refine ww_aload 159 X dX3_putSignature_159 6 rfl ?_
      refine ww_aload 161 X dX3_putSignature_161 7 rfl ?_
      refine ww_aload 163 X dX3_putSignature_163 6 rfl ?_
      obtain ⟨_, f165, h⟩ := bO_some h
      obtain ⟨M165, e165, h⟩ := bO_some h
      refine ww_callVV0 165 X dX3_putSignature_165 mY_X6_plus mL_X3_130 (rcv_spec f165) ⟨_, _, rfl⟩ (by decide) (As := [.ref v80, .ref v88, .ref v80]) (rest := []) rfl rfl ⟨Nat.le_of_ble_eq_true rfl, Nat.le_of_ble_eq_true rfl⟩ (Nat.le_of_ble_eq_true rfl) (fun l D A => c_X6_plus l D A e165) ?_
      refine ww_aload_n 168 X dX3_putSignature_168 0 rfl rfl ?_
      obtain ⟨v169, e169, h⟩ := bO_some h
      refine ww_getR 169 X dX3_putSignature_169 fG_X3_24 e169 ?_
      refine ww_aload_n 172 X dX3_putSignature_172 3 rfl rfl ?_
      refine ww_iconst 173 X (v := (0 : Int32)) dX3_putSignature_173 (by decide) ?_
      refine ww_bipush 174 X (v := (32 : Int32)) dX3_putSignature_174 (by decide) ?_
      refine ww_aload 176 X dX3_putSignature_176 7 rfl ?_
      obtain ⟨_, f178, h⟩ := bO_some h
      obtain ⟨M178, e178, h⟩ := bO_some h
      refine ww_callVV0 178 X dX3_putSignature_178 mY_X6_take mL_X3_88 (rcv_spec f178) ⟨_, _, rfl⟩ (by decide) (As := [.ref l3, .int (0 : Int32), .int (32 : Int32), .ref v88]) (rest := []) rfl rfl ⟨Nat.le_of_ble_eq_true rfl, Nat.le_of_ble_eq_true rfl⟩ (Nat.le_of_ble_eq_true rfl) (fun l D A => c_X6_take l D A e178) ?_
      refine ww_aload_n 181 X dX3_putSignature_181 0 rfl rfl ?_
      obtain ⟨v182, e182, h⟩ := bO_some h
      refine ww_getR 182 X dX3_putSignature_182 fG_X3_24 e182 ?_
      refine ww_aload 185 X dX3_putSignature_185 7 rfl ?_
      refine ww_aload_n 187 X dX3_putSignature_187 0 rfl rfl ?_
      obtain ⟨v188, e188, h⟩ := bO_some h
      refine ww_getR 188 X dX3_putSignature_188 fG_X3_49 e188 ?_
      refine ww_aload 191 X dX3_putSignature_191 7 rfl ?_
      obtain ⟨_, f193, h⟩ := bO_some h
      obtain ⟨M193, e193, h⟩ := bO_some h
      refine ww_callVV0 193 X dX3_putSignature_193 mY_X6_raise mL_X3_175 (rcv_spec f193) ⟨_, _, rfl⟩ (by decide) (As := [.ref v88, .ref v188, .ref v88]) (rest := []) rfl rfl ⟨Nat.le_of_ble_eq_true rfl, Nat.le_of_ble_eq_true rfl⟩ (Nat.le_of_ble_eq_true rfl) (fun l D A => c_X6_raise l D A e193) ?_
      refine ww_aload_n 196 X dX3_putSignature_196 0 rfl rfl ?_
      obtain ⟨v197, e197, h⟩ := bO_some h
      refine ww_getR 197 X dX3_putSignature_197 fG_X3_24 e197 ?_
      refine ww_aload 200 X dX3_putSignature_200 7 rfl ?_
      obtain ⟨_, f202, h⟩ := bO_some h
      obtain ⟨M202, e202, h⟩ := bO_some h
      refine ww_callVV0 202 X dX3_putSignature_202 mY_X6_lead mL_X3_96 (rcv_spec f202) ⟨_, _, rfl⟩ (by decide) (As := [.ref v88]) (rest := []) rfl rfl ⟨Nat.le_of_ble_eq_true rfl, Nat.le_of_ble_eq_true rfl⟩ (Nat.le_of_ble_eq_true rfl) (fun l D A => c_X6_lead l D A e202) ?_
      refine ww_aload_n 205 X dX3_putSignature_205 0 rfl rfl ?_
      obtain ⟨v206, e206, h⟩ := bO_some h
      refine ww_getR 206 X dX3_putSignature_206 fG_X3_24 e206 ?_
      refine ww_aload 209 X dX3_putSignature_209 6 rfl ?_
      refine ww_aload 211 X dX3_putSignature_211 7 rfl ?_
      refine ww_aload 213 X dX3_putSignature_213 6 rfl ?_
      obtain ⟨_, f215, h⟩ := bO_some h
      obtain ⟨M215, e215, h⟩ := bO_some h
      refine ww_callVV0 215 X dX3_putSignature_215 mY_X6_times mL_X3_123 (rcv_spec f215) ⟨_, _, rfl⟩ (by decide) (As := [.ref v80, .ref v88, .ref v80]) (rest := []) rfl rfl ⟨Nat.le_of_ble_eq_true rfl, Nat.le_of_ble_eq_true rfl⟩ (Nat.le_of_ble_eq_true rfl) (fun l D A => c_X6_times l D A e215) ?_
      refine ww_aload_n 218 X dX3_putSignature_218 0 rfl rfl ?_
      obtain ⟨v219, e219, h⟩ := bO_some h
      refine ww_getR 219 X dX3_putSignature_219 fG_X3_24 e219 ?_
      refine ww_aload 222 X dX3_putSignature_222 5 rfl ?_
      obtain ⟨_, f224, h⟩ := bO_some h
      obtain ⟨v224, M224, e224, h⟩ := bP_some h
      refine ww_callVI0 224 X dX3_putSignature_224 mY_X6_isZero mL_X3_162 (rcv_spec f224) ⟨_, _, rfl⟩ (by decide) (As := [.ref v72]) (rest := []) rfl rfl ⟨Nat.le_of_ble_eq_true rfl, Nat.le_of_ble_eq_true rfl⟩ (Nat.le_of_ble_eq_true rfl) (fun l D A => c_X6_isZero l D A e224) ?_
      refine ww_if_ne 227 242 X dX3_putSignature_227 (by decide) (fun q => ?_) (fun q => ?_)
      · replace h := (if_neg q).symm.trans h
        refine ww_iconst 242 X (v := (0 : Int32)) dX3_putSignature_242 (by decide) ?_
        exact ww_zretE 243 X hQ dX3_putSignature_243 h
      · replace h := (if_pos q).symm.trans h
        refine ww_aload_n 230 X dX3_putSignature_230 0 rfl rfl ?_
        obtain ⟨v231, e231, h⟩ := bO_some h
        refine ww_getR 231 X dX3_putSignature_231 fG_X3_24 e231 ?_
        refine ww_aload 234 X dX3_putSignature_234 6 rfl ?_
        obtain ⟨_, f236, h⟩ := bO_some h
        obtain ⟨v236, M236, e236, h⟩ := bP_some h
        refine ww_callVI0 236 X dX3_putSignature_236 mY_X6_isZero mL_X3_162 (rcv_spec f236) ⟨_, _, rfl⟩ (by decide) (As := [.ref v80]) (rest := []) rfl rfl ⟨Nat.le_of_ble_eq_true rfl, Nat.le_of_ble_eq_true rfl⟩ (Nat.le_of_ble_eq_true rfl) (fun l D A => c_X6_isZero l D A e236) ?_
        refine ww_if_eq 239 244 X dX3_putSignature_239 (by decide) (fun q => ?_) (fun q => ?_)
        · replace h := (if_pos q).symm.trans h
          refine ww_aload 244 X dX3_putSignature_244 4 rfl ?_
          obtain ⟨_, f246, h⟩ := bO_some h
          obtain ⟨M246, e246, h⟩ := bO_some h
          refine ww_callVV0 246 X dX3_putSignature_246 mY_X0_clear mL_X3_179 (rcv_spec f246) ⟨_, _, rfl⟩ (by decide) (As := []) (rest := []) rfl rfl ⟨Nat.le_of_ble_eq_true rfl, Nat.le_of_ble_eq_true rfl⟩ (Nat.le_of_ble_eq_true rfl) (fun l D A => c_X0_clear l D A e246) ?_
          refine ww_aload_n 249 X dX3_putSignature_249 0 rfl rfl ?_
          obtain ⟨v250, e250, h⟩ := bO_some h
          refine ww_getR 250 X dX3_putSignature_250 fG_X3_24 e250 ?_
          refine ww_aload 253 X dX3_putSignature_253 5 rfl ?_
          refine ww_bipush 255 X (v := (32 : Int32)) dX3_putSignature_255 (by decide) ?_
          refine ww_aload 257 X dX3_putSignature_257 4 rfl ?_
          obtain ⟨_, f259, h⟩ := bO_some h
          obtain ⟨M259, e259, h⟩ := bO_some h
          refine ww_callVV0 259 X dX3_putSignature_259 mY_X6_give mL_X3_182 (rcv_spec f259) ⟨_, _, rfl⟩ (by decide) (As := [.ref v72, .int (32 : Int32), .ref l4]) (rest := []) rfl rfl ⟨Nat.le_of_ble_eq_true rfl, Nat.le_of_ble_eq_true rfl⟩ (Nat.le_of_ble_eq_true rfl) (fun l D A => c_X6_give l D A e259) ?_
          refine ww_aload_n 262 X dX3_putSignature_262 0 rfl rfl ?_
          obtain ⟨v263, e263, h⟩ := bO_some h
          refine ww_getR 263 X dX3_putSignature_263 fG_X3_24 e263 ?_
          refine ww_aload 266 X dX3_putSignature_266 6 rfl ?_
          refine ww_bipush 268 X (v := (32 : Int32)) dX3_putSignature_268 (by decide) ?_
          refine ww_aload 270 X dX3_putSignature_270 4 rfl ?_
          obtain ⟨_, f272, h⟩ := bO_some h
          obtain ⟨M272, e272, h⟩ := bO_some h
          refine ww_callVV0 272 X dX3_putSignature_272 mY_X6_give mL_X3_182 (rcv_spec f272) ⟨_, _, rfl⟩ (by decide) (As := [.ref v80, .int (32 : Int32), .ref l4]) (rest := []) rfl rfl ⟨Nat.le_of_ble_eq_true rfl, Nat.le_of_ble_eq_true rfl⟩ (Nat.le_of_ble_eq_true rfl) (fun l D A => c_X6_give l D A e272) ?_
          refine ww_iconst 275 X (v := (1 : Int32)) dX3_putSignature_275 (by decide) ?_
          exact ww_zretE 276 X hQ dX3_putSignature_276 h
        · replace h := (if_neg q).symm.trans h
          refine ww_iconst 242 X (v := (0 : Int32)) dX3_putSignature_242 (by decide) ?_
          exact ww_zretE 243 X hQ dX3_putSignature_243 h
    · replace h := (if_pos q).symm.trans h
      refine ww_iconst 18 X (v := (0 : Int32)) dX3_putSignature_18 (by decide) ?_
      exact ww_zretE 19 X hQ dX3_putSignature_19 h
theorem c_X3_putSignature {G : mG} {F sz : Nat} {r0 : Int32} {M0 : mM} (l : Launch) (D : mD) (A : Nat → Prop) {l0 : Nat} {l1 : Nat} {l2 : Nat} {l3 : Nat} {l4 : Nat} {M : mM} (h : P_X3_putSignature G F l0 l1 l2 l3 l4 M = some (r0, M0)) : mMetI l D G A yX3_putSignature cX3_putSignature 8 (some .boolean) 5 165 0 0 [.ref l0, .ref l1, .ref l2, .ref l3, .ref l4] M sz r0 M0 sz := mMetI_of l D G A (by decide) (Nat.le_of_ble_eq_true rfl) (fun x X hQ => wP_X3_putSignature X hQ h)
/-! SealedTokens$Curve.isSignatureRight(LSealedTokens$Bytes;LSealedTokens$Bytes;LSealedTokens$Bytes;)Z -/
theorem dX3_isSignatureRight_0 : decode cX3_isSignatureRight 0 = .ok (.aload_n 2, 1) := by decide +kernel
theorem dX3_isSignatureRight_1 : decode cX3_isSignatureRight 1 = .ok (.getfield 186, 3) := by decide +kernel
theorem dX3_isSignatureRight_4 : decode cX3_isSignatureRight 4 = .ok (.bipush 64, 2) := by decide +kernel
theorem dX3_isSignatureRight_6 : decode cX3_isSignatureRight 6 = .ok (.if_icmp .ne 30, 3) := by decide +kernel
theorem dX3_isSignatureRight_9 : decode cX3_isSignatureRight 9 = .ok (.aload_n 0, 1) := by decide +kernel
theorem dX3_isSignatureRight_10 : decode cX3_isSignatureRight 10 = .ok (.aload_n 2, 1) := by decide +kernel
theorem dX3_isSignatureRight_11 : decode cX3_isSignatureRight 11 = .ok (.iconst 0, 1) := by decide +kernel
theorem dX3_isSignatureRight_12 : decode cX3_isSignatureRight 12 = .ok (.invokevirtual 137, 3) := by decide +kernel
theorem dX3_isSignatureRight_15 : decode cX3_isSignatureRight 15 = .ok (.ifCond .eq 21, 3) := by decide +kernel
theorem dX3_isSignatureRight_18 : decode cX3_isSignatureRight 18 = .ok (.aload_n 0, 1) := by decide +kernel
theorem dX3_isSignatureRight_19 : decode cX3_isSignatureRight 19 = .ok (.aload_n 2, 1) := by decide +kernel
theorem dX3_isSignatureRight_20 : decode cX3_isSignatureRight 20 = .ok (.bipush 32, 2) := by decide +kernel
theorem dX3_isSignatureRight_22 : decode cX3_isSignatureRight 22 = .ok (.invokevirtual 137, 3) := by decide +kernel
theorem dX3_isSignatureRight_25 : decode cX3_isSignatureRight 25 = .ok (.ifCond .eq 11, 3) := by decide +kernel
theorem dX3_isSignatureRight_28 : decode cX3_isSignatureRight 28 = .ok (.aload_n 0, 1) := by decide +kernel
theorem dX3_isSignatureRight_29 : decode cX3_isSignatureRight 29 = .ok (.aload_n 3, 1) := by decide +kernel
theorem dX3_isSignatureRight_30 : decode cX3_isSignatureRight 30 = .ok (.invokevirtual 194, 3) := by decide +kernel
theorem dX3_isSignatureRight_33 : decode cX3_isSignatureRight 33 = .ok (.ifCond .ne 5, 3) := by decide +kernel
theorem dX3_isSignatureRight_36 : decode cX3_isSignatureRight 36 = .ok (.iconst 0, 1) := by decide +kernel
theorem dX3_isSignatureRight_37 : decode cX3_isSignatureRight 37 = .ok (.ireturn, 1) := by decide +kernel
theorem dX3_isSignatureRight_38 : decode cX3_isSignatureRight 38 = .ok (.aload_n 0, 1) := by decide +kernel
theorem dX3_isSignatureRight_39 : decode cX3_isSignatureRight 39 = .ok (.getfield 62, 3) := by decide +kernel
theorem dX3_isSignatureRight_42 : decode cX3_isSignatureRight 42 = .ok (.iconst 0, 1) := by decide +kernel
theorem dX3_isSignatureRight_43 : decode cX3_isSignatureRight 43 = .ok (.aaload, 1) := by decide +kernel
theorem dX3_isSignatureRight_44 : decode cX3_isSignatureRight 44 = .ok (.astore 4, 2) := by decide +kernel
theorem dX3_isSignatureRight_46 : decode cX3_isSignatureRight 46 = .ok (.aload_n 0, 1) := by decide +kernel
theorem dX3_isSignatureRight_47 : decode cX3_isSignatureRight 47 = .ok (.getfield 62, 3) := by decide +kernel
theorem dX3_isSignatureRight_50 : decode cX3_isSignatureRight 50 = .ok (.iconst 1, 1) := by decide +kernel
theorem dX3_isSignatureRight_51 : decode cX3_isSignatureRight 51 = .ok (.aaload, 1) := by decide +kernel
theorem dX3_isSignatureRight_52 : decode cX3_isSignatureRight 52 = .ok (.astore 5, 2) := by decide +kernel
theorem dX3_isSignatureRight_54 : decode cX3_isSignatureRight 54 = .ok (.aload_n 0, 1) := by decide +kernel
theorem dX3_isSignatureRight_55 : decode cX3_isSignatureRight 55 = .ok (.getfield 24, 3) := by decide +kernel
theorem dX3_isSignatureRight_58 : decode cX3_isSignatureRight 58 = .ok (.aload_n 2, 1) := by decide +kernel
theorem dX3_isSignatureRight_59 : decode cX3_isSignatureRight 59 = .ok (.bipush 32, 2) := by decide +kernel
theorem dX3_isSignatureRight_61 : decode cX3_isSignatureRight 61 = .ok (.bipush 32, 2) := by decide +kernel
theorem dX3_isSignatureRight_63 : decode cX3_isSignatureRight 63 = .ok (.aload 4, 2) := by decide +kernel
theorem dX3_isSignatureRight_65 : decode cX3_isSignatureRight 65 = .ok (.invokevirtual 88, 3) := by decide +kernel
theorem dX3_isSignatureRight_68 : decode cX3_isSignatureRight 68 = .ok (.aload_n 0, 1) := by decide +kernel
theorem dX3_isSignatureRight_69 : decode cX3_isSignatureRight 69 = .ok (.getfield 24, 3) := by decide +kernel
theorem dX3_isSignatureRight_72 : decode cX3_isSignatureRight 72 = .ok (.aload 4, 2) := by decide +kernel
theorem dX3_isSignatureRight_74 : decode cX3_isSignatureRight 74 = .ok (.aload_n 0, 1) := by decide +kernel
theorem dX3_isSignatureRight_75 : decode cX3_isSignatureRight 75 = .ok (.getfield 49, 3) := by decide +kernel
theorem dX3_isSignatureRight_78 : decode cX3_isSignatureRight 78 = .ok (.aload 4, 2) := by decide +kernel
theorem dX3_isSignatureRight_80 : decode cX3_isSignatureRight 80 = .ok (.invokevirtual 175, 3) := by decide +kernel
theorem dX3_isSignatureRight_83 : decode cX3_isSignatureRight 83 = .ok (.aload_n 0, 1) := by decide +kernel
theorem dX3_isSignatureRight_84 : decode cX3_isSignatureRight 84 = .ok (.getfield 24, 3) := by decide +kernel
theorem dX3_isSignatureRight_87 : decode cX3_isSignatureRight 87 = .ok (.aload 4, 2) := by decide +kernel
theorem dX3_isSignatureRight_89 : decode cX3_isSignatureRight 89 = .ok (.invokevirtual 96, 3) := by decide +kernel
theorem dX3_isSignatureRight_92 : decode cX3_isSignatureRight 92 = .ok (.aload_n 0, 1) := by decide +kernel
theorem dX3_isSignatureRight_93 : decode cX3_isSignatureRight 93 = .ok (.getfield 24, 3) := by decide +kernel
theorem dX3_isSignatureRight_96 : decode cX3_isSignatureRight 96 = .ok (.aload_n 1, 1) := by decide +kernel
theorem dX3_isSignatureRight_97 : decode cX3_isSignatureRight 97 = .ok (.iconst 0, 1) := by decide +kernel
theorem dX3_isSignatureRight_98 : decode cX3_isSignatureRight 98 = .ok (.bipush 32, 2) := by decide +kernel
theorem dX3_isSignatureRight_100 : decode cX3_isSignatureRight 100 = .ok (.aload 5, 2) := by decide +kernel
theorem dX3_isSignatureRight_102 : decode cX3_isSignatureRight 102 = .ok (.invokevirtual 88, 3) := by decide +kernel
theorem dX3_isSignatureRight_105 : decode cX3_isSignatureRight 105 = .ok (.aload_n 0, 1) := by decide +kernel
theorem dX3_isSignatureRight_106 : decode cX3_isSignatureRight 106 = .ok (.getfield 24, 3) := by decide +kernel
theorem dX3_isSignatureRight_109 : decode cX3_isSignatureRight 109 = .ok (.aload 5, 2) := by decide +kernel
theorem dX3_isSignatureRight_111 : decode cX3_isSignatureRight 111 = .ok (.aload 4, 2) := by decide +kernel
theorem dX3_isSignatureRight_113 : decode cX3_isSignatureRight 113 = .ok (.aload 5, 2) := by decide +kernel
theorem dX3_isSignatureRight_115 : decode cX3_isSignatureRight 115 = .ok (.invokevirtual 123, 3) := by decide +kernel
theorem dX3_isSignatureRight_118 : decode cX3_isSignatureRight 118 = .ok (.aload_n 0, 1) := by decide +kernel
theorem dX3_isSignatureRight_119 : decode cX3_isSignatureRight 119 = .ok (.getfield 73, 3) := by decide +kernel
theorem dX3_isSignatureRight_122 : decode cX3_isSignatureRight 122 = .ok (.invokevirtual 179, 3) := by decide +kernel
theorem dX3_isSignatureRight_125 : decode cX3_isSignatureRight 125 = .ok (.aload_n 0, 1) := by decide +kernel
theorem dX3_isSignatureRight_126 : decode cX3_isSignatureRight 126 = .ok (.getfield 24, 3) := by decide +kernel
theorem dX3_isSignatureRight_129 : decode cX3_isSignatureRight 129 = .ok (.aload 5, 2) := by decide +kernel
theorem dX3_isSignatureRight_131 : decode cX3_isSignatureRight 131 = .ok (.bipush 32, 2) := by decide +kernel
theorem dX3_isSignatureRight_133 : decode cX3_isSignatureRight 133 = .ok (.aload_n 0, 1) := by decide +kernel
theorem dX3_isSignatureRight_134 : decode cX3_isSignatureRight 134 = .ok (.getfield 73, 3) := by decide +kernel
theorem dX3_isSignatureRight_137 : decode cX3_isSignatureRight 137 = .ok (.invokevirtual 182, 3) := by decide +kernel
theorem dX3_isSignatureRight_140 : decode cX3_isSignatureRight 140 = .ok (.aload_n 0, 1) := by decide +kernel
theorem dX3_isSignatureRight_141 : decode cX3_isSignatureRight 141 = .ok (.getfield 24, 3) := by decide +kernel
theorem dX3_isSignatureRight_144 : decode cX3_isSignatureRight 144 = .ok (.aload_n 2, 1) := by decide +kernel
theorem dX3_isSignatureRight_145 : decode cX3_isSignatureRight 145 = .ok (.iconst 0, 1) := by decide +kernel
theorem dX3_isSignatureRight_146 : decode cX3_isSignatureRight 146 = .ok (.bipush 32, 2) := by decide +kernel
theorem dX3_isSignatureRight_148 : decode cX3_isSignatureRight 148 = .ok (.aload 5, 2) := by decide +kernel
theorem dX3_isSignatureRight_150 : decode cX3_isSignatureRight 150 = .ok (.invokevirtual 88, 3) := by decide +kernel
theorem dX3_isSignatureRight_153 : decode cX3_isSignatureRight 153 = .ok (.aload_n 0, 1) := by decide +kernel
theorem dX3_isSignatureRight_154 : decode cX3_isSignatureRight 154 = .ok (.getfield 24, 3) := by decide +kernel
theorem dX3_isSignatureRight_157 : decode cX3_isSignatureRight 157 = .ok (.aload 5, 2) := by decide +kernel
theorem dX3_isSignatureRight_159 : decode cX3_isSignatureRight 159 = .ok (.aload 4, 2) := by decide +kernel
theorem dX3_isSignatureRight_161 : decode cX3_isSignatureRight 161 = .ok (.aload 5, 2) := by decide +kernel
theorem dX3_isSignatureRight_163 : decode cX3_isSignatureRight 163 = .ok (.invokevirtual 123, 3) := by decide +kernel
theorem dX3_isSignatureRight_166 : decode cX3_isSignatureRight 166 = .ok (.aload_n 0, 1) := by decide +kernel
theorem dX3_isSignatureRight_167 : decode cX3_isSignatureRight 167 = .ok (.getfield 76, 3) := by decide +kernel
theorem dX3_isSignatureRight_170 : decode cX3_isSignatureRight 170 = .ok (.invokevirtual 179, 3) := by decide +kernel
theorem dX3_isSignatureRight_173 : decode cX3_isSignatureRight 173 = .ok (.aload_n 0, 1) := by decide +kernel
theorem dX3_isSignatureRight_174 : decode cX3_isSignatureRight 174 = .ok (.getfield 24, 3) := by decide +kernel
theorem dX3_isSignatureRight_177 : decode cX3_isSignatureRight 177 = .ok (.aload 5, 2) := by decide +kernel
theorem dX3_isSignatureRight_179 : decode cX3_isSignatureRight 179 = .ok (.bipush 32, 2) := by decide +kernel
theorem dX3_isSignatureRight_181 : decode cX3_isSignatureRight 181 = .ok (.aload_n 0, 1) := by decide +kernel
theorem dX3_isSignatureRight_182 : decode cX3_isSignatureRight 182 = .ok (.getfield 76, 3) := by decide +kernel
theorem dX3_isSignatureRight_185 : decode cX3_isSignatureRight 185 = .ok (.invokevirtual 182, 3) := by decide +kernel
theorem dX3_isSignatureRight_188 : decode cX3_isSignatureRight 188 = .ok (.aload_n 0, 1) := by decide +kernel
theorem dX3_isSignatureRight_189 : decode cX3_isSignatureRight 189 = .ok (.aload_n 0, 1) := by decide +kernel
theorem dX3_isSignatureRight_190 : decode cX3_isSignatureRight 190 = .ok (.getfield 73, 3) := by decide +kernel
theorem dX3_isSignatureRight_193 : decode cX3_isSignatureRight 193 = .ok (.aload_n 0, 1) := by decide +kernel
theorem dX3_isSignatureRight_194 : decode cX3_isSignatureRight 194 = .ok (.getfield 11, 3) := by decide +kernel
theorem dX3_isSignatureRight_197 : decode cX3_isSignatureRight 197 = .ok (.aload_n 0, 1) := by decide +kernel
theorem dX3_isSignatureRight_198 : decode cX3_isSignatureRight 198 = .ok (.getfield 76, 3) := by decide +kernel
theorem dX3_isSignatureRight_201 : decode cX3_isSignatureRight 201 = .ok (.aload_n 0, 1) := by decide +kernel
theorem dX3_isSignatureRight_202 : decode cX3_isSignatureRight 202 = .ok (.getfield 14, 3) := by decide +kernel
theorem dX3_isSignatureRight_205 : decode cX3_isSignatureRight 205 = .ok (.invokevirtual 141, 3) := by decide +kernel
theorem dX3_isSignatureRight_208 : decode cX3_isSignatureRight 208 = .ok (.aload_n 0, 1) := by decide +kernel
theorem dX3_isSignatureRight_209 : decode cX3_isSignatureRight 209 = .ok (.aload_n 0, 1) := by decide +kernel
theorem dX3_isSignatureRight_210 : decode cX3_isSignatureRight 210 = .ok (.getfield 70, 3) := by decide +kernel
theorem dX3_isSignatureRight_213 : decode cX3_isSignatureRight 213 = .ok (.invokevirtual 145, 3) := by decide +kernel
theorem dX3_isSignatureRight_216 : decode cX3_isSignatureRight 216 = .ok (.ifCond .ne 5, 3) := by decide +kernel
theorem dX3_isSignatureRight_219 : decode cX3_isSignatureRight 219 = .ok (.iconst 0, 1) := by decide +kernel
theorem dX3_isSignatureRight_220 : decode cX3_isSignatureRight 220 = .ok (.ireturn, 1) := by decide +kernel
theorem dX3_isSignatureRight_221 : decode cX3_isSignatureRight 221 = .ok (.aload_n 0, 1) := by decide +kernel
theorem dX3_isSignatureRight_222 : decode cX3_isSignatureRight 222 = .ok (.getfield 24, 3) := by decide +kernel
theorem dX3_isSignatureRight_225 : decode cX3_isSignatureRight 225 = .ok (.aload_n 0, 1) := by decide +kernel
theorem dX3_isSignatureRight_226 : decode cX3_isSignatureRight 226 = .ok (.getfield 70, 3) := by decide +kernel
theorem dX3_isSignatureRight_229 : decode cX3_isSignatureRight 229 = .ok (.iconst 0, 1) := by decide +kernel
theorem dX3_isSignatureRight_230 : decode cX3_isSignatureRight 230 = .ok (.bipush 32, 2) := by decide +kernel
theorem dX3_isSignatureRight_232 : decode cX3_isSignatureRight 232 = .ok (.aload_n 0, 1) := by decide +kernel
theorem dX3_isSignatureRight_233 : decode cX3_isSignatureRight 233 = .ok (.getfield 62, 3) := by decide +kernel
theorem dX3_isSignatureRight_236 : decode cX3_isSignatureRight 236 = .ok (.iconst 0, 1) := by decide +kernel
theorem dX3_isSignatureRight_237 : decode cX3_isSignatureRight 237 = .ok (.aaload, 1) := by decide +kernel
theorem dX3_isSignatureRight_238 : decode cX3_isSignatureRight 238 = .ok (.invokevirtual 88, 3) := by decide +kernel
theorem dX3_isSignatureRight_241 : decode cX3_isSignatureRight 241 = .ok (.aload_n 0, 1) := by decide +kernel
theorem dX3_isSignatureRight_242 : decode cX3_isSignatureRight 242 = .ok (.getfield 24, 3) := by decide +kernel
theorem dX3_isSignatureRight_245 : decode cX3_isSignatureRight 245 = .ok (.aload_n 2, 1) := by decide +kernel
theorem dX3_isSignatureRight_246 : decode cX3_isSignatureRight 246 = .ok (.iconst 0, 1) := by decide +kernel
theorem dX3_isSignatureRight_247 : decode cX3_isSignatureRight 247 = .ok (.bipush 32, 2) := by decide +kernel
theorem dX3_isSignatureRight_249 : decode cX3_isSignatureRight 249 = .ok (.aload_n 0, 1) := by decide +kernel
theorem dX3_isSignatureRight_250 : decode cX3_isSignatureRight 250 = .ok (.getfield 62, 3) := by decide +kernel
theorem dX3_isSignatureRight_253 : decode cX3_isSignatureRight 253 = .ok (.iconst 1, 1) := by decide +kernel
theorem dX3_isSignatureRight_254 : decode cX3_isSignatureRight 254 = .ok (.aaload, 1) := by decide +kernel
theorem dX3_isSignatureRight_255 : decode cX3_isSignatureRight 255 = .ok (.invokevirtual 88, 3) := by decide +kernel
theorem dX3_isSignatureRight_258 : decode cX3_isSignatureRight 258 = .ok (.aload_n 0, 1) := by decide +kernel
theorem dX3_isSignatureRight_259 : decode cX3_isSignatureRight 259 = .ok (.getfield 24, 3) := by decide +kernel
theorem dX3_isSignatureRight_262 : decode cX3_isSignatureRight 262 = .ok (.aload_n 0, 1) := by decide +kernel
theorem dX3_isSignatureRight_263 : decode cX3_isSignatureRight 263 = .ok (.getfield 62, 3) := by decide +kernel
theorem dX3_isSignatureRight_266 : decode cX3_isSignatureRight 266 = .ok (.iconst 0, 1) := by decide +kernel
theorem dX3_isSignatureRight_267 : decode cX3_isSignatureRight 267 = .ok (.aaload, 1) := by decide +kernel
theorem dX3_isSignatureRight_268 : decode cX3_isSignatureRight 268 = .ok (.aload_n 0, 1) := by decide +kernel
theorem dX3_isSignatureRight_269 : decode cX3_isSignatureRight 269 = .ok (.getfield 62, 3) := by decide +kernel
theorem dX3_isSignatureRight_272 : decode cX3_isSignatureRight 272 = .ok (.iconst 1, 1) := by decide +kernel
theorem dX3_isSignatureRight_273 : decode cX3_isSignatureRight 273 = .ok (.aaload, 1) := by decide +kernel
theorem dX3_isSignatureRight_274 : decode cX3_isSignatureRight 274 = .ok (.invokevirtual 133, 3) := by decide +kernel
theorem dX3_isSignatureRight_277 : decode cX3_isSignatureRight 277 = .ok (.ireturn, 1) := by decide +kernel
abbrev rmX3_isSignatureRight : Room := { frames := 5, cells := 0, slots := 0, locals := 167 }
set_option maxHeartbeats 4000000 in
set_option maxRecDepth 100000 in
theorem wP_X3_isSignatureRight {G : mG} {F : Nat} {x : mXT} {sz : Nat} {r0 : Int32} {M0 : mM} (X : mCX G RX3 cX3_isSignatureRight 6 (some .boolean) "isSignatureRight" rmX3_isSignatureRight x) (hQ : mQI x r0 M0 (sz, 0, 0)) {l0 : Nat} {l1 : Nat} {l2 : Nat} {l3 : Nat} {M : mM} (h : P_X3_isSignatureRight G F l0 l1 l2 l3 M = some (r0, M0)) : WW x (sz, 0, 0) M 0 [(0, .ref l0), (1, .ref l1), (2, .ref l2), (3, .ref l3)] [] := by
  unfold P_X3_isSignatureRight at h
  refine ww_aload_n 0 X dX3_isSignatureRight_0 2 rfl rfl ?_
  obtain ⟨v1, e1, h⟩ := bO_some h
  refine ww_getI 1 X dX3_isSignatureRight_1 fG_X3_186 e1 ?_
  refine ww_bipush 4 X (v := (64 : Int32)) dX3_isSignatureRight_4 (by decide) ?_
  refine ww_icmp_ne 6 36 X dX3_isSignatureRight_6 (by decide) (fun q => ?_) (fun q => ?_)
  · replace h := (if_neg q).symm.trans h
    refine ww_iconst 36 X (v := (0 : Int32)) dX3_isSignatureRight_36 (by decide) ?_
    exact ww_zretE 37 X hQ dX3_isSignatureRight_37 h
  · replace h := (if_pos q).symm.trans h
    refine ww_aload_n 9 X dX3_isSignatureRight_9 0 rfl rfl ?_
    refine ww_aload_n 10 X dX3_isSignatureRight_10 2 rfl rfl ?_
    refine ww_iconst 11 X (v := (0 : Int32)) dX3_isSignatureRight_11 (by decide) ?_
    obtain ⟨_, f12, h⟩ := bO_some h
    obtain ⟨v12, M12, e12, h⟩ := bP_some h
    refine ww_callVI0 12 X dX3_isSignatureRight_12 mY_X3_isSecret mL_X3_137 (rcv_spec f12) ⟨_, _, rfl⟩ (by decide) (As := [.ref l2, .int (0 : Int32)]) (rest := []) rfl rfl ⟨Nat.le_of_ble_eq_true rfl, Nat.le_of_ble_eq_true rfl⟩ (Nat.le_of_ble_eq_true rfl) (fun l D A => c_X3_isSecret l D A e12) ?_
    refine ww_if_eq 15 36 X dX3_isSignatureRight_15 (by decide) (fun q => ?_) (fun q => ?_)
    · replace h := (if_pos q).symm.trans h
      refine ww_iconst 36 X (v := (0 : Int32)) dX3_isSignatureRight_36 (by decide) ?_
      exact ww_zretE 37 X hQ dX3_isSignatureRight_37 h
    · replace h := (if_neg q).symm.trans h
      refine ww_aload_n 18 X dX3_isSignatureRight_18 0 rfl rfl ?_
      refine ww_aload_n 19 X dX3_isSignatureRight_19 2 rfl rfl ?_
      refine ww_bipush 20 X (v := (32 : Int32)) dX3_isSignatureRight_20 (by decide) ?_
      obtain ⟨_, f22, h⟩ := bO_some h
      obtain ⟨v22, M22, e22, h⟩ := bP_some h
      refine ww_callVI0 22 X dX3_isSignatureRight_22 mY_X3_isSecret mL_X3_137 (rcv_spec f22) ⟨_, _, rfl⟩ (by decide) (As := [.ref l2, .int (32 : Int32)]) (rest := []) rfl rfl ⟨Nat.le_of_ble_eq_true rfl, Nat.le_of_ble_eq_true rfl⟩ (Nat.le_of_ble_eq_true rfl) (fun l D A => c_X3_isSecret l D A e22) ?_
      refine ww_if_eq 25 36 X dX3_isSignatureRight_25 (by decide) (fun q => ?_) (fun q => ?_)
      · replace h := (if_pos q).symm.trans h
        refine ww_iconst 36 X (v := (0 : Int32)) dX3_isSignatureRight_36 (by decide) ?_
        exact ww_zretE 37 X hQ dX3_isSignatureRight_37 h
      · replace h := (if_neg q).symm.trans h
        refine ww_aload_n 28 X dX3_isSignatureRight_28 0 rfl rfl ?_
        refine ww_aload_n 29 X dX3_isSignatureRight_29 3 rfl rfl ?_
        obtain ⟨_, f30, h⟩ := bO_some h
        obtain ⟨v30, M30, e30, h⟩ := bP_some h
        refine ww_callVI0 30 X dX3_isSignatureRight_30 mY_X3_load mL_X3_194 (rcv_spec f30) ⟨_, _, rfl⟩ (by decide) (As := [.ref l3]) (rest := []) rfl rfl ⟨Nat.le_of_ble_eq_true rfl, Nat.le_of_ble_eq_true rfl⟩ (Nat.le_of_ble_eq_true rfl) (fun l D A => c_X3_load l D A e30) ?_
        refine ww_if_ne 33 38 X dX3_isSignatureRight_33 (by decide) (fun q => ?_) (fun q => ?_)
        · replace h := (if_neg q).symm.trans h
          refine ww_aload_n 38 X dX3_isSignatureRight_38 0 rfl rfl ?_
          obtain ⟨v39, e39, h⟩ := bO_some h
          refine ww_getR 39 X dX3_isSignatureRight_39 fG_X3_62 e39 ?_
          refine ww_iconst 42 X (v := (0 : Int32)) dX3_isSignatureRight_42 (by decide) ?_
          obtain ⟨v43, e43, h⟩ := bO_some h
          refine ww_aald6 43 X dX3_isSignatureRight_43 e43 ?_
          refine ww_astore 44 X dX3_isSignatureRight_44 (lv' := [(0, .ref l0), (1, .ref l1), (2, .ref l2), (3, .ref l3), (4, .ref v43)]) (by decide) [1, 2, 3, 4, 0] rfl ?_
          refine ww_aload_n 46 X dX3_isSignatureRight_46 0 rfl rfl ?_
          obtain ⟨v47, e47, h⟩ := bO_some h
          refine ww_getR 47 X dX3_isSignatureRight_47 fG_X3_62 e47 ?_
          refine ww_iconst 50 X (v := (1 : Int32)) dX3_isSignatureRight_50 (by decide) ?_
          obtain ⟨v51, e51, h⟩ := bO_some h
          refine ww_aald6 51 X dX3_isSignatureRight_51 e51 ?_
          refine ww_astore 52 X dX3_isSignatureRight_52 (lv' := [(0, .ref l0), (1, .ref l1), (2, .ref l2), (3, .ref l3), (4, .ref v43), (5, .ref v51)]) (by decide) [1, 2, 3, 4, 5, 0] rfl ?_
          refine ww_aload_n 54 X dX3_isSignatureRight_54 0 rfl rfl ?_
          obtain ⟨v55, e55, h⟩ := bO_some h
          refine ww_getR 55 X dX3_isSignatureRight_55 fG_X3_24 e55 ?_
          refine ww_aload_n 58 X dX3_isSignatureRight_58 2 rfl rfl ?_
          refine ww_bipush 59 X (v := (32 : Int32)) dX3_isSignatureRight_59 (by decide) ?_
          refine ww_bipush 61 X (v := (32 : Int32)) dX3_isSignatureRight_61 (by decide) ?_
          refine ww_aload 63 X dX3_isSignatureRight_63 4 rfl ?_
          obtain ⟨_, f65, h⟩ := bO_some h
          obtain ⟨M65, e65, h⟩ := bO_some h
          refine ww_callVV0 65 X dX3_isSignatureRight_65 mY_X6_take mL_X3_88 (rcv_spec f65) ⟨_, _, rfl⟩ (by decide) (As := [.ref l2, .int (32 : Int32), .int (32 : Int32), .ref v43]) (rest := []) rfl rfl ⟨Nat.le_of_ble_eq_true rfl, Nat.le_of_ble_eq_true rfl⟩ (Nat.le_of_ble_eq_true rfl) (fun l D A => c_X6_take l D A e65) ?_
          refine ww_aload_n 68 X dX3_isSignatureRight_68 0 rfl rfl ?_
          obtain ⟨v69, e69, h⟩ := bO_some h
          refine ww_getR 69 X dX3_isSignatureRight_69 fG_X3_24 e69 ?_
          refine ww_aload 72 X dX3_isSignatureRight_72 4 rfl ?_
          refine ww_aload_n 74 X dX3_isSignatureRight_74 0 rfl rfl ?_
          obtain ⟨v75, e75, h⟩ := bO_some h
          refine ww_getR 75 X dX3_isSignatureRight_75 fG_X3_49 e75 ?_
          refine ww_aload 78 X dX3_isSignatureRight_78 4 rfl ?_
          obtain ⟨_, f80, h⟩ := bO_some h
          obtain ⟨M80, e80, h⟩ := bO_some h
          refine ww_callVV0 80 X dX3_isSignatureRight_80 mY_X6_raise mL_X3_175 (rcv_spec f80) ⟨_, _, rfl⟩ (by decide) (As := [.ref v43, .ref v75, .ref v43]) (rest := []) rfl rfl ⟨Nat.le_of_ble_eq_true rfl, Nat.le_of_ble_eq_true rfl⟩ (Nat.le_of_ble_eq_true rfl) (fun l D A => c_X6_raise l D A e80) ?_
          refine ww_aload_n 83 X dX3_isSignatureRight_83 0 rfl rfl ?_
          obtain ⟨v84, e84, h⟩ := bO_some h
          refine ww_getR 84 X dX3_isSignatureRight_84 fG_X3_24 e84 ?_
          refine ww_aload 87 X dX3_isSignatureRight_87 4 rfl ?_
          obtain ⟨_, f89, h⟩ := bO_some h
          obtain ⟨M89, e89, h⟩ := bO_some h
          refine ww_callVV0 89 X dX3_isSignatureRight_89 mY_X6_lead mL_X3_96 (rcv_spec f89) ⟨_, _, rfl⟩ (by decide) (As := [.ref v43]) (rest := []) rfl rfl ⟨Nat.le_of_ble_eq_true rfl, Nat.le_of_ble_eq_true rfl⟩ (Nat.le_of_ble_eq_true rfl) (fun l D A => c_X6_lead l D A e89) ?_
          refine ww_aload_n 92 X dX3_isSignatureRight_92 0 rfl rfl ?_
          obtain ⟨v93, e93, h⟩ := bO_some h
          refine ww_getR 93 X dX3_isSignatureRight_93 fG_X3_24 e93 ?_
          refine ww_aload_n 96 X dX3_isSignatureRight_96 1 rfl rfl ?_
          refine ww_iconst 97 X (v := (0 : Int32)) dX3_isSignatureRight_97 (by decide) ?_
          refine ww_bipush 98 X (v := (32 : Int32)) dX3_isSignatureRight_98 (by decide) ?_
          refine ww_aload 100 X dX3_isSignatureRight_100 5 rfl ?_
          obtain ⟨_, f102, h⟩ := bO_some h
          obtain ⟨M102, e102, h⟩ := bO_some h
          refine ww_callVV0 102 X dX3_isSignatureRight_102 mY_X6_take mL_X3_88 (rcv_spec f102) ⟨_, _, rfl⟩ (by decide) (As := [.ref l1, .int (0 : Int32), .int (32 : Int32), .ref v51]) (rest := []) rfl rfl ⟨Nat.le_of_ble_eq_true rfl, Nat.le_of_ble_eq_true rfl⟩ (Nat.le_of_ble_eq_true rfl) (fun l D A => c_X6_take l D A e102) ?_
          refine ww_aload_n 105 X dX3_isSignatureRight_105 0 rfl rfl ?_
          obtain ⟨v106, e106, h⟩ := bO_some h
          refine ww_getR 106 X dX3_isSignatureRight_106 fG_X3_24 e106 ?_
          refine ww_aload 109 X dX3_isSignatureRight_109 5 rfl ?_
          refine ww_aload 111 X dX3_isSignatureRight_111 4 rfl ?_
          refine ww_aload 113 X dX3_isSignatureRight_113 5 rfl ?_
          obtain ⟨_, f115, h⟩ := bO_some h
          obtain ⟨M115, e115, h⟩ := bO_some h
          refine ww_callVV0 115 X dX3_isSignatureRight_115 mY_X6_times mL_X3_123 (rcv_spec f115) ⟨_, _, rfl⟩ (by decide) (As := [.ref v51, .ref v43, .ref v51]) (rest := []) rfl rfl ⟨Nat.le_of_ble_eq_true rfl, Nat.le_of_ble_eq_true rfl⟩ (Nat.le_of_ble_eq_true rfl) (fun l D A => c_X6_times l D A e115) ?_
          refine ww_aload_n 118 X dX3_isSignatureRight_118 0 rfl rfl ?_
          obtain ⟨v119, e119, h⟩ := bO_some h
          refine ww_getR 119 X dX3_isSignatureRight_119 fG_X3_73 e119 ?_
          obtain ⟨_, f122, h⟩ := bO_some h
          obtain ⟨M122, e122, h⟩ := bO_some h
          refine ww_callVV0 122 X dX3_isSignatureRight_122 mY_X0_clear mL_X3_179 (rcv_spec f122) ⟨_, _, rfl⟩ (by decide) (As := []) (rest := []) rfl rfl ⟨Nat.le_of_ble_eq_true rfl, Nat.le_of_ble_eq_true rfl⟩ (Nat.le_of_ble_eq_true rfl) (fun l D A => c_X0_clear l D A e122) ?_
          refine ww_aload_n 125 X dX3_isSignatureRight_125 0 rfl rfl ?_
          obtain ⟨v126, e126, h⟩ := bO_some h
          refine ww_getR 126 X dX3_isSignatureRight_126 fG_X3_24 e126 ?_
          refine ww_aload 129 X dX3_isSignatureRight_129 5 rfl ?_
          refine ww_bipush 131 X (v := (32 : Int32)) dX3_isSignatureRight_131 (by decide) ?_
          refine ww_aload_n 133 X dX3_isSignatureRight_133 0 rfl rfl ?_
          obtain ⟨v134, e134, h⟩ := bO_some h
          refine ww_getR 134 X dX3_isSignatureRight_134 fG_X3_73 e134 ?_
          obtain ⟨_, f137, h⟩ := bO_some h
          obtain ⟨M137, e137, h⟩ := bO_some h
          refine ww_callVV0 137 X dX3_isSignatureRight_137 mY_X6_give mL_X3_182 (rcv_spec f137) ⟨_, _, rfl⟩ (by decide) (As := [.ref v51, .int (32 : Int32), .ref v134]) (rest := []) rfl rfl ⟨Nat.le_of_ble_eq_true rfl, Nat.le_of_ble_eq_true rfl⟩ (Nat.le_of_ble_eq_true rfl) (fun l D A => c_X6_give l D A e137) ?_
          refine ww_aload_n 140 X dX3_isSignatureRight_140 0 rfl rfl ?_
          obtain ⟨v141, e141, h⟩ := bO_some h
          refine ww_getR 141 X dX3_isSignatureRight_141 fG_X3_24 e141 ?_
          refine ww_aload_n 144 X dX3_isSignatureRight_144 2 rfl rfl ?_
          refine ww_iconst 145 X (v := (0 : Int32)) dX3_isSignatureRight_145 (by decide) ?_
          refine ww_bipush 146 X (v := (32 : Int32)) dX3_isSignatureRight_146 (by decide) ?_
          refine ww_aload 148 X dX3_isSignatureRight_148 5 rfl ?_
          obtain ⟨_, f150, h⟩ := bO_some h
          obtain ⟨M150, e150, h⟩ := bO_some h
          refine ww_callVV0 150 X dX3_isSignatureRight_150 mY_X6_take mL_X3_88 (rcv_spec f150) ⟨_, _, rfl⟩ (by decide) (As := [.ref l2, .int (0 : Int32), .int (32 : Int32), .ref v51]) (rest := []) rfl rfl ⟨Nat.le_of_ble_eq_true rfl, Nat.le_of_ble_eq_true rfl⟩ (Nat.le_of_ble_eq_true rfl) (fun l D A => c_X6_take l D A e150) ?_
          refine ww_aload_n 153 X dX3_isSignatureRight_153 0 rfl rfl ?_
          obtain ⟨v154, e154, h⟩ := bO_some h
          refine ww_getR 154 X dX3_isSignatureRight_154 fG_X3_24 e154 ?_
          refine ww_aload 157 X dX3_isSignatureRight_157 5 rfl ?_
          refine ww_aload 159 X dX3_isSignatureRight_159 4 rfl ?_
          refine ww_aload 161 X dX3_isSignatureRight_161 5 rfl ?_
          obtain ⟨_, f163, h⟩ := bO_some h
          obtain ⟨M163, e163, h⟩ := bO_some h
          refine ww_callVV0 163 X dX3_isSignatureRight_163 mY_X6_times mL_X3_123 (rcv_spec f163) ⟨_, _, rfl⟩ (by decide) (As := [.ref v51, .ref v43, .ref v51]) (rest := []) rfl rfl ⟨Nat.le_of_ble_eq_true rfl, Nat.le_of_ble_eq_true rfl⟩ (Nat.le_of_ble_eq_true rfl) (fun l D A => c_X6_times l D A e163) ?_
          refine ww_aload_n 166 X dX3_isSignatureRight_166 0 rfl rfl ?_
          obtain ⟨v167, e167, h⟩ := bO_some h
          refine ww_getR 167 X dX3_isSignatureRight_167 fG_X3_76 e167 ?_
          obtain ⟨_, f170, h⟩ := bO_some h
          obtain ⟨M170, e170, h⟩ := bO_some h
          refine ww_callVV0 170 X dX3_isSignatureRight_170 mY_X0_clear mL_X3_179 (rcv_spec f170) ⟨_, _, rfl⟩ (by decide) (As := []) (rest := []) rfl rfl ⟨Nat.le_of_ble_eq_true rfl, Nat.le_of_ble_eq_true rfl⟩ (Nat.le_of_ble_eq_true rfl) (fun l D A => c_X0_clear l D A e170) ?_
          refine ww_aload_n 173 X dX3_isSignatureRight_173 0 rfl rfl ?_
          obtain ⟨v174, e174, h⟩ := bO_some h
          refine ww_getR 174 X dX3_isSignatureRight_174 fG_X3_24 e174 ?_
          refine ww_aload 177 X dX3_isSignatureRight_177 5 rfl ?_
          refine ww_bipush 179 X (v := (32 : Int32)) dX3_isSignatureRight_179 (by decide) ?_
          refine ww_aload_n 181 X dX3_isSignatureRight_181 0 rfl rfl ?_
          obtain ⟨v182, e182, h⟩ := bO_some h
          refine ww_getR 182 X dX3_isSignatureRight_182 fG_X3_76 e182 ?_
          obtain ⟨_, f185, h⟩ := bO_some h
          obtain ⟨M185, e185, h⟩ := bO_some h
          refine ww_callVV0 185 X dX3_isSignatureRight_185 mY_X6_give mL_X3_182 (rcv_spec f185) ⟨_, _, rfl⟩ (by decide) (As := [.ref v51, .int (32 : Int32), .ref v182]) (rest := []) rfl rfl ⟨Nat.le_of_ble_eq_true rfl, Nat.le_of_ble_eq_true rfl⟩ (Nat.le_of_ble_eq_true rfl) (fun l D A => c_X6_give l D A e185) ?_
          refine ww_aload_n 188 X dX3_isSignatureRight_188 0 rfl rfl ?_
          refine ww_aload_n 189 X dX3_isSignatureRight_189 0 rfl rfl ?_
          obtain ⟨v190, e190, h⟩ := bO_some h
          refine ww_getR 190 X dX3_isSignatureRight_190 fG_X3_73 e190 ?_
          refine ww_aload_n 193 X dX3_isSignatureRight_193 0 rfl rfl ?_
          obtain ⟨v194, e194, h⟩ := bO_some h
          refine ww_getR 194 X dX3_isSignatureRight_194 fG_X3_11 e194 ?_
          refine ww_aload_n 197 X dX3_isSignatureRight_197 0 rfl rfl ?_
          obtain ⟨v198, e198, h⟩ := bO_some h
          refine ww_getR 198 X dX3_isSignatureRight_198 fG_X3_76 e198 ?_
          refine ww_aload_n 201 X dX3_isSignatureRight_201 0 rfl rfl ?_
          obtain ⟨v202, e202, h⟩ := bO_some h
          refine ww_getR 202 X dX3_isSignatureRight_202 fG_X3_14 e202 ?_
          obtain ⟨_, f205, h⟩ := bO_some h
          obtain ⟨M205, e205, h⟩ := bO_some h
          refine ww_callVV0 205 X dX3_isSignatureRight_205 mY_X3_sumUp mL_X3_141 (rcv_spec f205) ⟨_, _, rfl⟩ (by decide) (As := [.ref v190, .ref v194, .ref v198, .ref v202]) (rest := []) rfl rfl ⟨Nat.le_of_ble_eq_true rfl, Nat.le_of_ble_eq_true rfl⟩ (Nat.le_of_ble_eq_true rfl) (fun l D A => c_X3_sumUp l D A e205) ?_
          refine ww_aload_n 208 X dX3_isSignatureRight_208 0 rfl rfl ?_
          refine ww_aload_n 209 X dX3_isSignatureRight_209 0 rfl rfl ?_
          obtain ⟨v210, e210, h⟩ := bO_some h
          refine ww_getR 210 X dX3_isSignatureRight_210 fG_X3_70 e210 ?_
          obtain ⟨_, f213, h⟩ := bO_some h
          obtain ⟨v213, M213, e213, h⟩ := bP_some h
          refine ww_callVI0 213 X dX3_isSignatureRight_213 mY_X3_putSum mL_X3_145 (rcv_spec f213) ⟨_, _, rfl⟩ (by decide) (As := [.ref v210]) (rest := []) rfl rfl ⟨Nat.le_of_ble_eq_true rfl, Nat.le_of_ble_eq_true rfl⟩ (Nat.le_of_ble_eq_true rfl) (fun l D A => c_X3_putSum l D A e213) ?_
          refine ww_if_ne 216 221 X dX3_isSignatureRight_216 (by decide) (fun q => ?_) (fun q => ?_)
          · replace h := (if_neg q).symm.trans h
            refine ww_aload_n 221 X dX3_isSignatureRight_221 0 rfl rfl ?_
            obtain ⟨v222, e222, h⟩ := bO_some h
            refine ww_getR 222 X dX3_isSignatureRight_222 fG_X3_24 e222 ?_
            refine ww_aload_n 225 X dX3_isSignatureRight_225 0 rfl rfl ?_
            obtain ⟨v226, e226, h⟩ := bO_some h
            refine ww_getR 226 X dX3_isSignatureRight_226 fG_X3_70 e226 ?_
            refine ww_iconst 229 X (v := (0 : Int32)) dX3_isSignatureRight_229 (by decide) ?_
            refine ww_bipush 230 X (v := (32 : Int32)) dX3_isSignatureRight_230 (by decide) ?_
            refine ww_aload_n 232 X dX3_isSignatureRight_232 0 rfl rfl ?_
            obtain ⟨v233, e233, h⟩ := bO_some h
            refine ww_getR 233 X dX3_isSignatureRight_233 fG_X3_62 e233 ?_
            refine ww_iconst 236 X (v := (0 : Int32)) dX3_isSignatureRight_236 (by decide) ?_
            obtain ⟨v237, e237, h⟩ := bO_some h
            refine ww_aald6 237 X dX3_isSignatureRight_237 e237 ?_
            obtain ⟨_, f238, h⟩ := bO_some h
            obtain ⟨M238, e238, h⟩ := bO_some h
            refine ww_callVV0 238 X dX3_isSignatureRight_238 mY_X6_take mL_X3_88 (rcv_spec f238) ⟨_, _, rfl⟩ (by decide) (As := [.ref v226, .int (0 : Int32), .int (32 : Int32), .ref v237]) (rest := []) rfl rfl ⟨Nat.le_of_ble_eq_true rfl, Nat.le_of_ble_eq_true rfl⟩ (Nat.le_of_ble_eq_true rfl) (fun l D A => c_X6_take l D A e238) ?_
            refine ww_aload_n 241 X dX3_isSignatureRight_241 0 rfl rfl ?_
            obtain ⟨v242, e242, h⟩ := bO_some h
            refine ww_getR 242 X dX3_isSignatureRight_242 fG_X3_24 e242 ?_
            refine ww_aload_n 245 X dX3_isSignatureRight_245 2 rfl rfl ?_
            refine ww_iconst 246 X (v := (0 : Int32)) dX3_isSignatureRight_246 (by decide) ?_
            refine ww_bipush 247 X (v := (32 : Int32)) dX3_isSignatureRight_247 (by decide) ?_
            refine ww_aload_n 249 X dX3_isSignatureRight_249 0 rfl rfl ?_
            obtain ⟨v250, e250, h⟩ := bO_some h
            refine ww_getR 250 X dX3_isSignatureRight_250 fG_X3_62 e250 ?_
            refine ww_iconst 253 X (v := (1 : Int32)) dX3_isSignatureRight_253 (by decide) ?_
            obtain ⟨v254, e254, h⟩ := bO_some h
            refine ww_aald6 254 X dX3_isSignatureRight_254 e254 ?_
            obtain ⟨_, f255, h⟩ := bO_some h
            obtain ⟨M255, e255, h⟩ := bO_some h
            refine ww_callVV0 255 X dX3_isSignatureRight_255 mY_X6_take mL_X3_88 (rcv_spec f255) ⟨_, _, rfl⟩ (by decide) (As := [.ref l2, .int (0 : Int32), .int (32 : Int32), .ref v254]) (rest := []) rfl rfl ⟨Nat.le_of_ble_eq_true rfl, Nat.le_of_ble_eq_true rfl⟩ (Nat.le_of_ble_eq_true rfl) (fun l D A => c_X6_take l D A e255) ?_
            refine ww_aload_n 258 X dX3_isSignatureRight_258 0 rfl rfl ?_
            obtain ⟨v259, e259, h⟩ := bO_some h
            refine ww_getR 259 X dX3_isSignatureRight_259 fG_X3_24 e259 ?_
            refine ww_aload_n 262 X dX3_isSignatureRight_262 0 rfl rfl ?_
            obtain ⟨v263, e263, h⟩ := bO_some h
            refine ww_getR 263 X dX3_isSignatureRight_263 fG_X3_62 e263 ?_
            refine ww_iconst 266 X (v := (0 : Int32)) dX3_isSignatureRight_266 (by decide) ?_
            obtain ⟨v267, e267, h⟩ := bO_some h
            refine ww_aald6 267 X dX3_isSignatureRight_267 e267 ?_
            refine ww_aload_n 268 X dX3_isSignatureRight_268 0 rfl rfl ?_
            obtain ⟨v269, e269, h⟩ := bO_some h
            refine ww_getR 269 X dX3_isSignatureRight_269 fG_X3_62 e269 ?_
            refine ww_iconst 272 X (v := (1 : Int32)) dX3_isSignatureRight_272 (by decide) ?_
            obtain ⟨v273, e273, h⟩ := bO_some h
            refine ww_aald6 273 X dX3_isSignatureRight_273 e273 ?_
            obtain ⟨_, f274, h⟩ := bO_some h
            obtain ⟨v274, M274, e274, h⟩ := bP_some h
            refine ww_callVI0 274 X dX3_isSignatureRight_274 mY_X6_areSame mL_X3_133 (rcv_spec f274) ⟨_, _, rfl⟩ (by decide) (As := [.ref v267, .ref v273]) (rest := []) rfl rfl ⟨Nat.le_of_ble_eq_true rfl, Nat.le_of_ble_eq_true rfl⟩ (Nat.le_of_ble_eq_true rfl) (fun l D A => c_X6_areSame l D A e274) ?_
            exact ww_zretE 277 X hQ dX3_isSignatureRight_277 h
          · replace h := (if_pos q).symm.trans h
            refine ww_iconst 219 X (v := (0 : Int32)) dX3_isSignatureRight_219 (by decide) ?_
            exact ww_zretE 220 X hQ dX3_isSignatureRight_220 h
        · replace h := (if_pos q).symm.trans h
          refine ww_iconst 36 X (v := (0 : Int32)) dX3_isSignatureRight_36 (by decide) ?_
          exact ww_zretE 37 X hQ dX3_isSignatureRight_37 h
theorem c_X3_isSignatureRight {G : mG} {F sz : Nat} {r0 : Int32} {M0 : mM} (l : Launch) (D : mD) (A : Nat → Prop) {l0 : Nat} {l1 : Nat} {l2 : Nat} {l3 : Nat} {M : mM} (h : P_X3_isSignatureRight G F l0 l1 l2 l3 M = some (r0, M0)) : mMetI l D G A yX3_isSignatureRight cX3_isSignatureRight 6 (some .boolean) 5 167 0 0 [.ref l0, .ref l1, .ref l2, .ref l3] M sz r0 M0 sz := mMetI_of l D G A (by decide) (Nat.le_of_ble_eq_true rfl) (fun x X hQ => wP_X3_isSignatureRight X hQ h)
/-! SealedTokens$Digest.<init>()V -/
theorem dX4_init_0 : decode cX4_init 0 = .ok (.aload_n 0, 1) := by decide +kernel
theorem dX4_init_1 : decode cX4_init 1 = .ok (.invokespecial 1, 3) := by decide +kernel
theorem dX4_init_4 : decode cX4_init 4 = .ok (.aload_n 0, 1) := by decide +kernel
theorem dX4_init_5 : decode cX4_init 5 = .ok (.bipush 64, 2) := by decide +kernel
theorem dX4_init_7 : decode cX4_init 7 = .ok (.putfield 7, 3) := by decide +kernel
theorem dX4_init_10 : decode cX4_init 10 = .ok (.aload_n 0, 1) := by decide +kernel
theorem dX4_init_11 : decode cX4_init 11 = .ok (.sipush 128, 3) := by decide +kernel
theorem dX4_init_14 : decode cX4_init 14 = .ok (.newarray .int, 2) := by decide +kernel
theorem dX4_init_16 : decode cX4_init 16 = .ok (.putfield 13, 3) := by decide +kernel
theorem dX4_init_19 : decode cX4_init 19 = .ok (.aload_n 0, 1) := by decide +kernel
theorem dX4_init_20 : decode cX4_init 20 = .ok (.bipush 8, 2) := by decide +kernel
theorem dX4_init_22 : decode cX4_init 22 = .ok (.newarray .int, 2) := by decide +kernel
theorem dX4_init_24 : decode cX4_init 24 = .ok (.putfield 17, 3) := by decide +kernel
theorem dX4_init_27 : decode cX4_init 27 = .ok (.aload_n 0, 1) := by decide +kernel
theorem dX4_init_28 : decode cX4_init 28 = .ok (.bipush 64, 2) := by decide +kernel
theorem dX4_init_30 : decode cX4_init 30 = .ok (.newarray .int, 2) := by decide +kernel
theorem dX4_init_32 : decode cX4_init 32 = .ok (.putfield 20, 3) := by decide +kernel
theorem dX4_init_35 : decode cX4_init 35 = .ok (.aload_n 0, 1) := by decide +kernel
theorem dX4_init_36 : decode cX4_init 36 = .ok (.bipush 8, 2) := by decide +kernel
theorem dX4_init_38 : decode cX4_init 38 = .ok (.newarray .long, 2) := by decide +kernel
theorem dX4_init_40 : decode cX4_init 40 = .ok (.putfield 23, 3) := by decide +kernel
theorem dX4_init_43 : decode cX4_init 43 = .ok (.aload_n 0, 1) := by decide +kernel
theorem dX4_init_44 : decode cX4_init 44 = .ok (.bipush 80, 2) := by decide +kernel
theorem dX4_init_46 : decode cX4_init 46 = .ok (.newarray .long, 2) := by decide +kernel
theorem dX4_init_48 : decode cX4_init 48 = .ok (.putfield 27, 3) := by decide +kernel
theorem dX4_init_51 : decode cX4_init 51 = .ok (.aload_n 0, 1) := by decide +kernel
theorem dX4_init_52 : decode cX4_init 52 = .ok (.sipush 128, 3) := by decide +kernel
theorem dX4_init_55 : decode cX4_init 55 = .ok (.newarray .int, 2) := by decide +kernel
theorem dX4_init_57 : decode cX4_init 57 = .ok (.putfield 30, 3) := by decide +kernel
theorem dX4_init_60 : decode cX4_init 60 = .ok (.aload_n 0, 1) := by decide +kernel
theorem dX4_init_61 : decode cX4_init 61 = .ok (.new 33, 3) := by decide +kernel
theorem dX4_init_64 : decode cX4_init 64 = .ok (.dup, 1) := by decide +kernel
theorem dX4_init_65 : decode cX4_init 65 = .ok (.bipush 64, 2) := by decide +kernel
theorem dX4_init_67 : decode cX4_init 67 = .ok (.invokespecial 35, 3) := by decide +kernel
theorem dX4_init_70 : decode cX4_init 70 = .ok (.putfield 38, 3) := by decide +kernel
theorem dX4_init_73 : decode cX4_init 73 = .ok (.return_, 1) := by decide +kernel
theorem mP_X4_init {G : mG} {F : Nat} {M0 : mM} {Z0 S0 : Nat} {l0 : Nat} {M : mM} {sz : Nat} {sl : Nat} (h : P_X4_init G F l0 M sz sl = some (M0, Z0, S0)) : sz ≤ Z0 ∧ sl ≤ S0 := by
  unfold P_X4_init at h
  obtain ⟨M7, e7, h⟩ := bO_some h
  obtain ⟨M14, e14, h⟩ := bO_some h
  obtain ⟨M16, e16, h⟩ := bO_some h
  obtain ⟨M22, e22, h⟩ := bO_some h
  obtain ⟨M24, e24, h⟩ := bO_some h
  obtain ⟨M30, e30, h⟩ := bO_some h
  obtain ⟨M32, e32, h⟩ := bO_some h
  obtain ⟨M38, e38, h⟩ := bO_some h
  obtain ⟨M40, e40, h⟩ := bO_some h
  obtain ⟨M46, e46, h⟩ := bO_some h
  obtain ⟨M48, e48, h⟩ := bO_some h
  obtain ⟨M55, e55, h⟩ := bO_some h
  obtain ⟨M57, e57, h⟩ := bO_some h
  obtain ⟨M61, ⟨⟩, h⟩ := bO_some h
  obtain ⟨M67, z67, k67, e67, h⟩ := bA_some h
  have g67 := mP_X0_init e67
  obtain ⟨M70, e70, h⟩ := bO_some h
  have q := retA_v h
  omega
set_option maxHeartbeats 4000000 in
set_option maxRecDepth 100000 in
theorem wP_X4_init {G : mG} {F : Nat} {x : mXT} {z0 s0 : Nat} {M0 : mM} {Z0 S0 : Nat} (X : mCX G RX4 cX4_init 1 none "<init>" { frames := 2, cells := Z0 - z0, slots := S0 - s0, locals := 42 } x) (hQ : mQV x M0 (Z0, Z0 - z0, S0 - s0)) {l0 : Nat} {M : mM} {sz : Nat} {sl : Nat} (hz0 : z0 ≤ sz) (hs0 : s0 ≤ sl) (h : P_X4_init G F l0 M sz sl = some (M0, Z0, S0)) : WW x (sz, sz - z0, sl - s0) M 0 [(0, .ref l0)] [] := by
  unfold P_X4_init at h
  obtain ⟨M7, e7, h⟩ := bO_some h
  obtain ⟨M14, e14, h⟩ := bO_some h
  obtain ⟨M16, e16, h⟩ := bO_some h
  obtain ⟨M22, e22, h⟩ := bO_some h
  obtain ⟨M24, e24, h⟩ := bO_some h
  obtain ⟨M30, e30, h⟩ := bO_some h
  obtain ⟨M32, e32, h⟩ := bO_some h
  obtain ⟨M38, e38, h⟩ := bO_some h
  obtain ⟨M40, e40, h⟩ := bO_some h
  obtain ⟨M46, e46, h⟩ := bO_some h
  obtain ⟨M48, e48, h⟩ := bO_some h
  obtain ⟨M55, e55, h⟩ := bO_some h
  obtain ⟨M57, e57, h⟩ := bO_some h
  obtain ⟨M61, ⟨⟩, h⟩ := bO_some h
  obtain ⟨M67, z67, k67, e67, h⟩ := bA_some h
  have g67 := mP_X0_init e67
  obtain ⟨M70, e70, h⟩ := bO_some h
  have q := retA_v h
  refine ww_aload_n 0 X dX4_init_0 0 rfl rfl ?_
  refine ww_objI 1 X (st := []) dX4_init_1 oL_X4_1 oI_i oI_c (Nat.le_of_ble_eq_true rfl) (Nat.le_of_ble_eq_true rfl) (Nat.le_of_ble_eq_true rfl) ?_
  refine ww_aload_n 4 X dX4_init_4 0 rfl rfl ?_
  refine ww_bipush 5 X (v := (64 : Int32)) dX4_init_5 (by decide) ?_
  refine ww_putI 7 X dX4_init_7 (fP_X4_7 _) e7 ?_
  refine ww_aload_n 10 X dX4_init_10 0 rfl rfl ?_
  refine ww_sipush 11 X (v := (128 : Int32)) dX4_init_11 (by decide) ?_
  refine ww_newA 14 X (sz := sz) (sl := sl) (z0 := z0) (s0 := s0) dX4_init_14 (k := 0) (by decide) rfl aC_0 e14 (by omega) (by omega) (by show _ ≤ Z0 - z0; omega) (by show _ ≤ S0 - s0; omega) ?_
  refine ww_putR 16 X dX4_init_16 (fP_X4_13 _ (Or.inr rfl)) e16 rfl rfl ?_
  refine ww_aload_n 19 X dX4_init_19 0 rfl rfl ?_
  refine ww_bipush 20 X (v := (8 : Int32)) dX4_init_20 (by decide) ?_
  refine ww_newA 22 X (sz := (sz + 1)) (sl := (sl + ((128 : Int32)).toNatClampNeg)) (z0 := z0) (s0 := s0) dX4_init_22 (k := 0) (by decide) rfl aC_0 e22 (by omega) (by omega) (by show _ ≤ Z0 - z0; omega) (by show _ ≤ S0 - s0; omega) ?_
  refine ww_putR 24 X dX4_init_24 (fP_X4_17 _ (Or.inr rfl)) e24 rfl rfl ?_
  refine ww_aload_n 27 X dX4_init_27 0 rfl rfl ?_
  refine ww_bipush 28 X (v := (64 : Int32)) dX4_init_28 (by decide) ?_
  refine ww_newA 30 X (sz := ((sz + 1) + 1)) (sl := ((sl + ((128 : Int32)).toNatClampNeg) + ((8 : Int32)).toNatClampNeg)) (z0 := z0) (s0 := s0) dX4_init_30 (k := 0) (by decide) rfl aC_0 e30 (by omega) (by omega) (by show _ ≤ Z0 - z0; omega) (by show _ ≤ S0 - s0; omega) ?_
  refine ww_putR 32 X dX4_init_32 (fP_X4_20 _ (Or.inr rfl)) e32 rfl rfl ?_
  refine ww_aload_n 35 X dX4_init_35 0 rfl rfl ?_
  refine ww_bipush 36 X (v := (8 : Int32)) dX4_init_36 (by decide) ?_
  refine ww_newA 38 X (sz := (((sz + 1) + 1) + 1)) (sl := (((sl + ((128 : Int32)).toNatClampNeg) + ((8 : Int32)).toNatClampNeg) + ((64 : Int32)).toNatClampNeg)) (z0 := z0) (s0 := s0) dX4_init_38 (k := 2) (by decide) rfl aC_2 e38 (by omega) (by omega) (by show _ ≤ Z0 - z0; omega) (by show _ ≤ S0 - s0; omega) ?_
  refine ww_putR 40 X dX4_init_40 (fP_X4_23 _ (Or.inr rfl)) e40 rfl rfl ?_
  refine ww_aload_n 43 X dX4_init_43 0 rfl rfl ?_
  refine ww_bipush 44 X (v := (80 : Int32)) dX4_init_44 (by decide) ?_
  refine ww_newA 46 X (sz := ((((sz + 1) + 1) + 1) + 1)) (sl := ((((sl + ((128 : Int32)).toNatClampNeg) + ((8 : Int32)).toNatClampNeg) + ((64 : Int32)).toNatClampNeg) + ((8 : Int32)).toNatClampNeg)) (z0 := z0) (s0 := s0) dX4_init_46 (k := 2) (by decide) rfl aC_2 e46 (by omega) (by omega) (by show _ ≤ Z0 - z0; omega) (by show _ ≤ S0 - s0; omega) ?_
  refine ww_putR 48 X dX4_init_48 (fP_X4_27 _ (Or.inr rfl)) e48 rfl rfl ?_
  refine ww_aload_n 51 X dX4_init_51 0 rfl rfl ?_
  refine ww_sipush 52 X (v := (128 : Int32)) dX4_init_52 (by decide) ?_
  refine ww_newA 55 X (sz := (((((sz + 1) + 1) + 1) + 1) + 1)) (sl := (((((sl + ((128 : Int32)).toNatClampNeg) + ((8 : Int32)).toNatClampNeg) + ((64 : Int32)).toNatClampNeg) + ((8 : Int32)).toNatClampNeg) + ((80 : Int32)).toNatClampNeg)) (z0 := z0) (s0 := s0) dX4_init_55 (k := 0) (by decide) rfl aC_0 e55 (by omega) (by omega) (by show _ ≤ Z0 - z0; omega) (by show _ ≤ S0 - s0; omega) ?_
  refine ww_putR 57 X dX4_init_57 (fP_X4_30 _ (Or.inr rfl)) e57 rfl rfl ?_
  refine ww_aload_n 60 X dX4_init_60 0 rfl rfl ?_
  refine ww_newO 61 X (sz := ((((((sz + 1) + 1) + 1) + 1) + 1) + 1)) (sl := ((((((sl + ((128 : Int32)).toNatClampNeg) + ((8 : Int32)).toNatClampNeg) + ((64 : Int32)).toNatClampNeg) + ((8 : Int32)).toNatClampNeg) + ((80 : Int32)).toNatClampNeg) + ((128 : Int32)).toNatClampNeg)) (z0 := z0) (s0 := s0) dX4_init_61 nW_X4_33 (by omega) (by omega) (by show _ ≤ Z0 - z0; omega) (by show _ ≤ S0 - s0; omega) ?_
  refine ww_dup 64 X dX4_init_64 rfl ?_
  refine ww_bipush 65 X (v := (64 : Int32)) dX4_init_65 (by decide) ?_
  refine ww_callIVa 67 X (sz := (((((((sz + 1) + 1) + 1) + 1) + 1) + 1) + 1)) (sl := (((((((sl + ((128 : Int32)).toNatClampNeg) + ((8 : Int32)).toNatClampNeg) + ((64 : Int32)).toNatClampNeg) + ((8 : Int32)).toNatClampNeg) + ((80 : Int32)).toNatClampNeg) + ((128 : Int32)).toNatClampNeg) + 3)) (z0 := z0) (s0 := s0) dX4_init_67 mY_X0_init mL_X4_35 (As := [.int (64 : Int32)]) (rest := [.ref ((((((sz + 1) + 1) + 1) + 1) + 1) + 1), .ref l0]) rfl rfl ⟨Nat.le_of_ble_eq_true rfl, Nat.le_of_ble_eq_true rfl⟩ (by omega) (by omega) (by omega) (by omega) (by show _ ≤ Z0 - z0; omega) (by show _ ≤ S0 - s0; omega) (Nat.le_of_ble_eq_true rfl) (fun l D A => c_X0_init l D A e67) ?_
  refine ww_putR 70 X dX4_init_70 (fP_X4_38 _ (Or.inr rfl)) e70 rfl rfl ?_
  exact ww_vretA 73 X hQ dX4_init_73 h
theorem c_X4_init {G : mG} {F : Nat} {M0 : mM} {Z0 S0 : Nat} (l : Launch) (D : mD) (A : Nat → Prop) {l0 : Nat} {M : mM} {sz : Nat} {sl : Nat} (h : P_X4_init G F l0 M sz sl = some (M0, Z0, S0)) : mMetV l D G A yX4_init cX4_init 1 none 2 42 (Z0 - sz) (S0 - sl) [.ref l0] M sz M0 Z0 := mMetV_of l D G A (by decide) (Nat.le_of_ble_eq_true rfl) (fun x X hQ => by have K := wP_X4_init X hQ (Nat.le_refl sz) (Nat.le_refl sl) h; rw [Nat.sub_self, Nat.sub_self] at K; exact K)
/-! SealedTokens$Digest.putDerived(LSealedTokens$Bytes;LSealedTokens$Bytes;LSealedTokens$Bytes;LSealedTokens$Bytes;ILSealedTokens$Bytes;)V -/
theorem dX4_putDerived_0 : decode cX4_putDerived 0 = .ok (.aload_n 0, 1) := by decide +kernel
theorem dX4_putDerived_1 : decode cX4_putDerived 1 = .ok (.getfield 38, 3) := by decide +kernel
theorem dX4_putDerived_4 : decode cX4_putDerived 4 = .ok (.invokevirtual 91, 3) := by decide +kernel
theorem dX4_putDerived_7 : decode cX4_putDerived 7 = .ok (.iconst 1, 1) := by decide +kernel
theorem dX4_putDerived_8 : decode cX4_putDerived 8 = .ok (.istore 7, 2) := by decide +kernel
theorem dX4_putDerived_10 : decode cX4_putDerived 10 = .ok (.iload 7, 2) := by decide +kernel
theorem dX4_putDerived_12 : decode cX4_putDerived 12 = .ok (.iconst 2, 1) := by decide +kernel
theorem dX4_putDerived_13 : decode cX4_putDerived 13 = .ok (.if_icmp .gt 118, 3) := by decide +kernel
theorem dX4_putDerived_16 : decode cX4_putDerived 16 = .ok (.aload_n 0, 1) := by decide +kernel
theorem dX4_putDerived_17 : decode cX4_putDerived 17 = .ok (.getfield 38, 3) := by decide +kernel
theorem dX4_putDerived_20 : decode cX4_putDerived 20 = .ok (.getfield 105, 3) := by decide +kernel
theorem dX4_putDerived_23 : decode cX4_putDerived 23 = .ok (.iload 5, 2) := by decide +kernel
theorem dX4_putDerived_25 : decode cX4_putDerived 25 = .ok (.if_icmp .ge 106, 3) := by decide +kernel
theorem dX4_putDerived_28 : decode cX4_putDerived 28 = .ok (.aload_n 0, 1) := by decide +kernel
theorem dX4_putDerived_29 : decode cX4_putDerived 29 = .ok (.sipush 256, 3) := by decide +kernel
theorem dX4_putDerived_32 : decode cX4_putDerived 32 = .ok (.invokevirtual 88, 3) := by decide +kernel
theorem dX4_putDerived_35 : decode cX4_putDerived 35 = .ok (.aload_n 0, 1) := by decide +kernel
theorem dX4_putDerived_36 : decode cX4_putDerived 36 = .ok (.iload 7, 2) := by decide +kernel
theorem dX4_putDerived_38 : decode cX4_putDerived 38 = .ok (.invokevirtual 108, 3) := by decide +kernel
theorem dX4_putDerived_41 : decode cX4_putDerived 41 = .ok (.aload_n 0, 1) := by decide +kernel
theorem dX4_putDerived_42 : decode cX4_putDerived 42 = .ok (.aload_n 1, 1) := by decide +kernel
theorem dX4_putDerived_43 : decode cX4_putDerived 43 = .ok (.iconst 0, 1) := by decide +kernel
theorem dX4_putDerived_44 : decode cX4_putDerived 44 = .ok (.aload_n 1, 1) := by decide +kernel
theorem dX4_putDerived_45 : decode cX4_putDerived 45 = .ok (.getfield 105, 3) := by decide +kernel
theorem dX4_putDerived_48 : decode cX4_putDerived 48 = .ok (.invokevirtual 94, 3) := by decide +kernel
theorem dX4_putDerived_51 : decode cX4_putDerived 51 = .ok (.aload_n 0, 1) := by decide +kernel
theorem dX4_putDerived_52 : decode cX4_putDerived 52 = .ok (.aload_n 2, 1) := by decide +kernel
theorem dX4_putDerived_53 : decode cX4_putDerived 53 = .ok (.getfield 105, 3) := by decide +kernel
theorem dX4_putDerived_56 : decode cX4_putDerived 56 = .ok (.invokevirtual 108, 3) := by decide +kernel
theorem dX4_putDerived_59 : decode cX4_putDerived 59 = .ok (.aload_n 0, 1) := by decide +kernel
theorem dX4_putDerived_60 : decode cX4_putDerived 60 = .ok (.aload_n 2, 1) := by decide +kernel
theorem dX4_putDerived_61 : decode cX4_putDerived 61 = .ok (.iconst 0, 1) := by decide +kernel
theorem dX4_putDerived_62 : decode cX4_putDerived 62 = .ok (.aload_n 2, 1) := by decide +kernel
theorem dX4_putDerived_63 : decode cX4_putDerived 63 = .ok (.getfield 105, 3) := by decide +kernel
theorem dX4_putDerived_66 : decode cX4_putDerived 66 = .ok (.invokevirtual 94, 3) := by decide +kernel
theorem dX4_putDerived_69 : decode cX4_putDerived 69 = .ok (.aload_n 0, 1) := by decide +kernel
theorem dX4_putDerived_70 : decode cX4_putDerived 70 = .ok (.aload_n 3, 1) := by decide +kernel
theorem dX4_putDerived_71 : decode cX4_putDerived 71 = .ok (.getfield 105, 3) := by decide +kernel
theorem dX4_putDerived_74 : decode cX4_putDerived 74 = .ok (.invokevirtual 108, 3) := by decide +kernel
theorem dX4_putDerived_77 : decode cX4_putDerived 77 = .ok (.aload_n 0, 1) := by decide +kernel
theorem dX4_putDerived_78 : decode cX4_putDerived 78 = .ok (.aload_n 3, 1) := by decide +kernel
theorem dX4_putDerived_79 : decode cX4_putDerived 79 = .ok (.iconst 0, 1) := by decide +kernel
theorem dX4_putDerived_80 : decode cX4_putDerived 80 = .ok (.aload_n 3, 1) := by decide +kernel
theorem dX4_putDerived_81 : decode cX4_putDerived 81 = .ok (.getfield 105, 3) := by decide +kernel
theorem dX4_putDerived_84 : decode cX4_putDerived 84 = .ok (.invokevirtual 94, 3) := by decide +kernel
theorem dX4_putDerived_87 : decode cX4_putDerived 87 = .ok (.aload_n 0, 1) := by decide +kernel
theorem dX4_putDerived_88 : decode cX4_putDerived 88 = .ok (.aload 4, 2) := by decide +kernel
theorem dX4_putDerived_90 : decode cX4_putDerived 90 = .ok (.getfield 105, 3) := by decide +kernel
theorem dX4_putDerived_93 : decode cX4_putDerived 93 = .ok (.invokevirtual 108, 3) := by decide +kernel
theorem dX4_putDerived_96 : decode cX4_putDerived 96 = .ok (.aload_n 0, 1) := by decide +kernel
theorem dX4_putDerived_97 : decode cX4_putDerived 97 = .ok (.aload 4, 2) := by decide +kernel
theorem dX4_putDerived_99 : decode cX4_putDerived 99 = .ok (.iconst 0, 1) := by decide +kernel
theorem dX4_putDerived_100 : decode cX4_putDerived 100 = .ok (.aload 4, 2) := by decide +kernel
theorem dX4_putDerived_102 : decode cX4_putDerived 102 = .ok (.getfield 105, 3) := by decide +kernel
theorem dX4_putDerived_105 : decode cX4_putDerived 105 = .ok (.invokevirtual 94, 3) := by decide +kernel
theorem dX4_putDerived_108 : decode cX4_putDerived 108 = .ok (.aload_n 0, 1) := by decide +kernel
theorem dX4_putDerived_109 : decode cX4_putDerived 109 = .ok (.bipush 8, 2) := by decide +kernel
theorem dX4_putDerived_111 : decode cX4_putDerived 111 = .ok (.iload 5, 2) := by decide +kernel
theorem dX4_putDerived_113 : decode cX4_putDerived 113 = .ok (.imul, 1) := by decide +kernel
theorem dX4_putDerived_114 : decode cX4_putDerived 114 = .ok (.invokevirtual 108, 3) := by decide +kernel
theorem dX4_putDerived_117 : decode cX4_putDerived 117 = .ok (.aload_n 0, 1) := by decide +kernel
theorem dX4_putDerived_118 : decode cX4_putDerived 118 = .ok (.aload_n 0, 1) := by decide +kernel
theorem dX4_putDerived_119 : decode cX4_putDerived 119 = .ok (.getfield 38, 3) := by decide +kernel
theorem dX4_putDerived_122 : decode cX4_putDerived 122 = .ok (.invokevirtual 98, 3) := by decide +kernel
theorem dX4_putDerived_125 : decode cX4_putDerived 125 = .ok (.iinc 7 1, 3) := by decide +kernel
theorem dX4_putDerived_128 : decode cX4_putDerived 128 = .ok (.goto (-118), 3) := by decide +kernel
theorem dX4_putDerived_131 : decode cX4_putDerived 131 = .ok (.aload_n 0, 1) := by decide +kernel
theorem dX4_putDerived_132 : decode cX4_putDerived 132 = .ok (.getfield 38, 3) := by decide +kernel
theorem dX4_putDerived_135 : decode cX4_putDerived 135 = .ok (.iload 5, 2) := by decide +kernel
theorem dX4_putDerived_137 : decode cX4_putDerived 137 = .ok (.invokevirtual 111, 3) := by decide +kernel
theorem dX4_putDerived_140 : decode cX4_putDerived 140 = .ok (.aload 6, 2) := by decide +kernel
theorem dX4_putDerived_142 : decode cX4_putDerived 142 = .ok (.aload_n 0, 1) := by decide +kernel
theorem dX4_putDerived_143 : decode cX4_putDerived 143 = .ok (.getfield 38, 3) := by decide +kernel
theorem dX4_putDerived_146 : decode cX4_putDerived 146 = .ok (.invokevirtual 114, 3) := by decide +kernel
theorem dX4_putDerived_149 : decode cX4_putDerived 149 = .ok (.return_, 1) := by decide +kernel
abbrev rmX4_putDerived : Room := { frames := 3, cells := 0, slots := 0, locals := 105 }
set_option maxHeartbeats 4000000 in
set_option maxRecDepth 100000 in
theorem wB_X4_putDerived_10 {G : mG} {F : Nat} {x : mXT} {sz : Nat} {M0 : mM} (X : mCX G RX4 cX4_putDerived 8 none "putDerived" rmX4_putDerived x) (hQ : mQV x M0 (sz, 0, 0)) : ∀ (n : Nat) (l0 : Nat) (l1 : Nat) (l2 : Nat) (l3 : Nat) (l4 : Nat) (l5 : Int32) (l6 : Nat) (l7 : Int32) (M : mM), B_X4_putDerived_10 G F n l0 l1 l2 l3 l4 l5 l6 l7 M = some M0 → WW x (sz, 0, 0) M 10 [(0, .ref l0), (1, .ref l1), (2, .ref l2), (3, .ref l3), (4, .ref l4), (5, .int l5), (6, .ref l6), (7, .int l7)] [] := by
  intro n
  induction n with
  | zero =>
    intro l0 l1 l2 l3 l4 l5 l6 l7 M h
    exact nomatch (show (none : Option mM) = some M0 from h)
  | succ n ih =>
    intro l0 l1 l2 l3 l4 l5 l6 l7 M h
    rw [B_X4_putDerived_10] at h
    refine ww_iload 10 X dX4_putDerived_10 7 rfl ?_
    refine ww_iconst 12 X (v := (2 : Int32)) dX4_putDerived_12 (by decide) ?_
    refine ww_icmp_gt 13 131 X dX4_putDerived_13 (by decide) (fun q => ?_) (fun q => ?_)
    · replace h := (if_pos q).symm.trans h
      refine ww_aload_n 131 X dX4_putDerived_131 0 rfl rfl ?_
      obtain ⟨v132, e132, h⟩ := bO_some h
      refine ww_getR 132 X dX4_putDerived_132 fG_X4_38 e132 ?_
      refine ww_iload 135 X dX4_putDerived_135 5 rfl ?_
      obtain ⟨_, f137, h⟩ := bO_some h
      obtain ⟨M137, e137, h⟩ := bO_some h
      refine ww_callVV0 137 X dX4_putDerived_137 mY_X0_cutTo mL_X4_111 (rcv_spec f137) ⟨_, _, rfl⟩ (by decide) (As := [.int l5]) (rest := []) rfl rfl ⟨Nat.le_of_ble_eq_true rfl, Nat.le_of_ble_eq_true rfl⟩ (Nat.le_of_ble_eq_true rfl) (fun l D A => c_X0_cutTo l D A e137) ?_
      refine ww_aload 140 X dX4_putDerived_140 6 rfl ?_
      refine ww_aload_n 142 X dX4_putDerived_142 0 rfl rfl ?_
      obtain ⟨v143, e143, h⟩ := bO_some h
      refine ww_getR 143 X dX4_putDerived_143 fG_X4_38 e143 ?_
      obtain ⟨_, f146, h⟩ := bO_some h
      obtain ⟨M146, e146, h⟩ := bO_some h
      refine ww_callVV0 146 X dX4_putDerived_146 mY_X0_become mL_X4_114 (rcv_spec f146) ⟨_, _, rfl⟩ (by decide) (As := [.ref v143]) (rest := []) rfl rfl ⟨Nat.le_of_ble_eq_true rfl, Nat.le_of_ble_eq_true rfl⟩ (Nat.le_of_ble_eq_true rfl) (fun l D A => c_X0_become l D A e146) ?_
      exact ww_vretE 149 X hQ dX4_putDerived_149 h
    · replace h := (if_neg q).symm.trans h
      refine ww_aload_n 16 X dX4_putDerived_16 0 rfl rfl ?_
      obtain ⟨v17, e17, h⟩ := bO_some h
      refine ww_getR 17 X dX4_putDerived_17 fG_X4_38 e17 ?_
      obtain ⟨v20, e20, h⟩ := bO_some h
      refine ww_getI 20 X dX4_putDerived_20 fG_X4_105 e20 ?_
      refine ww_iload 23 X dX4_putDerived_23 5 rfl ?_
      refine ww_icmp_ge 25 131 X dX4_putDerived_25 (by decide) (fun q => ?_) (fun q => ?_)
      · replace h := (if_pos q).symm.trans h
        refine ww_aload_n 131 X dX4_putDerived_131 0 rfl rfl ?_
        obtain ⟨v132, e132, h⟩ := bO_some h
        refine ww_getR 132 X dX4_putDerived_132 fG_X4_38 e132 ?_
        refine ww_iload 135 X dX4_putDerived_135 5 rfl ?_
        obtain ⟨_, f137, h⟩ := bO_some h
        obtain ⟨M137, e137, h⟩ := bO_some h
        refine ww_callVV0 137 X dX4_putDerived_137 mY_X0_cutTo mL_X4_111 (rcv_spec f137) ⟨_, _, rfl⟩ (by decide) (As := [.int l5]) (rest := []) rfl rfl ⟨Nat.le_of_ble_eq_true rfl, Nat.le_of_ble_eq_true rfl⟩ (Nat.le_of_ble_eq_true rfl) (fun l D A => c_X0_cutTo l D A e137) ?_
        refine ww_aload 140 X dX4_putDerived_140 6 rfl ?_
        refine ww_aload_n 142 X dX4_putDerived_142 0 rfl rfl ?_
        obtain ⟨v143, e143, h⟩ := bO_some h
        refine ww_getR 143 X dX4_putDerived_143 fG_X4_38 e143 ?_
        obtain ⟨_, f146, h⟩ := bO_some h
        obtain ⟨M146, e146, h⟩ := bO_some h
        refine ww_callVV0 146 X dX4_putDerived_146 mY_X0_become mL_X4_114 (rcv_spec f146) ⟨_, _, rfl⟩ (by decide) (As := [.ref v143]) (rest := []) rfl rfl ⟨Nat.le_of_ble_eq_true rfl, Nat.le_of_ble_eq_true rfl⟩ (Nat.le_of_ble_eq_true rfl) (fun l D A => c_X0_become l D A e146) ?_
        exact ww_vretE 149 X hQ dX4_putDerived_149 h
      · replace h := (if_neg q).symm.trans h
        refine ww_aload_n 28 X dX4_putDerived_28 0 rfl rfl ?_
        refine ww_sipush 29 X (v := (256 : Int32)) dX4_putDerived_29 (by decide) ?_
        obtain ⟨_, f32, h⟩ := bO_some h
        obtain ⟨M32, e32, h⟩ := bO_some h
        refine ww_callVV0 32 X dX4_putDerived_32 mY_X4_start mL_X4_88 (rcv_spec f32) ⟨_, _, rfl⟩ (by decide) (As := [.int (256 : Int32)]) (rest := []) rfl rfl ⟨Nat.le_of_ble_eq_true rfl, Nat.le_of_ble_eq_true rfl⟩ (Nat.le_of_ble_eq_true rfl) (fun l D A => c_X4_start l D A e32) ?_
        refine ww_aload_n 35 X dX4_putDerived_35 0 rfl rfl ?_
        refine ww_iload 36 X dX4_putDerived_36 7 rfl ?_
        obtain ⟨_, f38, h⟩ := bO_some h
        obtain ⟨M38, e38, h⟩ := bO_some h
        refine ww_callVV0 38 X dX4_putDerived_38 mY_X4_addWord mL_X4_108 (rcv_spec f38) ⟨_, _, rfl⟩ (by decide) (As := [.int l7]) (rest := []) rfl rfl ⟨Nat.le_of_ble_eq_true rfl, Nat.le_of_ble_eq_true rfl⟩ (Nat.le_of_ble_eq_true rfl) (fun l D A => c_X4_addWord l D A e38) ?_
        refine ww_aload_n 41 X dX4_putDerived_41 0 rfl rfl ?_
        refine ww_aload_n 42 X dX4_putDerived_42 1 rfl rfl ?_
        refine ww_iconst 43 X (v := (0 : Int32)) dX4_putDerived_43 (by decide) ?_
        refine ww_aload_n 44 X dX4_putDerived_44 1 rfl rfl ?_
        obtain ⟨v45, e45, h⟩ := bO_some h
        refine ww_getI 45 X dX4_putDerived_45 fG_X4_105 e45 ?_
        obtain ⟨_, f48, h⟩ := bO_some h
        obtain ⟨M48, e48, h⟩ := bO_some h
        refine ww_callVV0 48 X dX4_putDerived_48 mY_X4_add mL_X4_94 (rcv_spec f48) ⟨_, _, rfl⟩ (by decide) (As := [.ref l1, .int (0 : Int32), .int v45]) (rest := []) rfl rfl ⟨Nat.le_of_ble_eq_true rfl, Nat.le_of_ble_eq_true rfl⟩ (Nat.le_of_ble_eq_true rfl) (fun l D A => c_X4_add l D A e48) ?_
        refine ww_aload_n 51 X dX4_putDerived_51 0 rfl rfl ?_
        refine ww_aload_n 52 X dX4_putDerived_52 2 rfl rfl ?_
        obtain ⟨v53, e53, h⟩ := bO_some h
        refine ww_getI 53 X dX4_putDerived_53 fG_X4_105 e53 ?_
        obtain ⟨_, f56, h⟩ := bO_some h
        obtain ⟨M56, e56, h⟩ := bO_some h
        refine ww_callVV0 56 X dX4_putDerived_56 mY_X4_addWord mL_X4_108 (rcv_spec f56) ⟨_, _, rfl⟩ (by decide) (As := [.int v53]) (rest := []) rfl rfl ⟨Nat.le_of_ble_eq_true rfl, Nat.le_of_ble_eq_true rfl⟩ (Nat.le_of_ble_eq_true rfl) (fun l D A => c_X4_addWord l D A e56) ?_
        refine ww_aload_n 59 X dX4_putDerived_59 0 rfl rfl ?_
        refine ww_aload_n 60 X dX4_putDerived_60 2 rfl rfl ?_
        refine ww_iconst 61 X (v := (0 : Int32)) dX4_putDerived_61 (by decide) ?_
        refine ww_aload_n 62 X dX4_putDerived_62 2 rfl rfl ?_
        obtain ⟨v63, e63, h⟩ := bO_some h
        refine ww_getI 63 X dX4_putDerived_63 fG_X4_105 e63 ?_
        obtain ⟨_, f66, h⟩ := bO_some h
        obtain ⟨M66, e66, h⟩ := bO_some h
        refine ww_callVV0 66 X dX4_putDerived_66 mY_X4_add mL_X4_94 (rcv_spec f66) ⟨_, _, rfl⟩ (by decide) (As := [.ref l2, .int (0 : Int32), .int v63]) (rest := []) rfl rfl ⟨Nat.le_of_ble_eq_true rfl, Nat.le_of_ble_eq_true rfl⟩ (Nat.le_of_ble_eq_true rfl) (fun l D A => c_X4_add l D A e66) ?_
        refine ww_aload_n 69 X dX4_putDerived_69 0 rfl rfl ?_
        refine ww_aload_n 70 X dX4_putDerived_70 3 rfl rfl ?_
        obtain ⟨v71, e71, h⟩ := bO_some h
        refine ww_getI 71 X dX4_putDerived_71 fG_X4_105 e71 ?_
        obtain ⟨_, f74, h⟩ := bO_some h
        obtain ⟨M74, e74, h⟩ := bO_some h
        refine ww_callVV0 74 X dX4_putDerived_74 mY_X4_addWord mL_X4_108 (rcv_spec f74) ⟨_, _, rfl⟩ (by decide) (As := [.int v71]) (rest := []) rfl rfl ⟨Nat.le_of_ble_eq_true rfl, Nat.le_of_ble_eq_true rfl⟩ (Nat.le_of_ble_eq_true rfl) (fun l D A => c_X4_addWord l D A e74) ?_
        refine ww_aload_n 77 X dX4_putDerived_77 0 rfl rfl ?_
        refine ww_aload_n 78 X dX4_putDerived_78 3 rfl rfl ?_
        refine ww_iconst 79 X (v := (0 : Int32)) dX4_putDerived_79 (by decide) ?_
        refine ww_aload_n 80 X dX4_putDerived_80 3 rfl rfl ?_
        obtain ⟨v81, e81, h⟩ := bO_some h
        refine ww_getI 81 X dX4_putDerived_81 fG_X4_105 e81 ?_
        obtain ⟨_, f84, h⟩ := bO_some h
        obtain ⟨M84, e84, h⟩ := bO_some h
        refine ww_callVV0 84 X dX4_putDerived_84 mY_X4_add mL_X4_94 (rcv_spec f84) ⟨_, _, rfl⟩ (by decide) (As := [.ref l3, .int (0 : Int32), .int v81]) (rest := []) rfl rfl ⟨Nat.le_of_ble_eq_true rfl, Nat.le_of_ble_eq_true rfl⟩ (Nat.le_of_ble_eq_true rfl) (fun l D A => c_X4_add l D A e84) ?_
        refine ww_aload_n 87 X dX4_putDerived_87 0 rfl rfl ?_
        refine ww_aload 88 X dX4_putDerived_88 4 rfl ?_
        obtain ⟨v90, e90, h⟩ := bO_some h
        refine ww_getI 90 X dX4_putDerived_90 fG_X4_105 e90 ?_
        obtain ⟨_, f93, h⟩ := bO_some h
        obtain ⟨M93, e93, h⟩ := bO_some h
        refine ww_callVV0 93 X dX4_putDerived_93 mY_X4_addWord mL_X4_108 (rcv_spec f93) ⟨_, _, rfl⟩ (by decide) (As := [.int v90]) (rest := []) rfl rfl ⟨Nat.le_of_ble_eq_true rfl, Nat.le_of_ble_eq_true rfl⟩ (Nat.le_of_ble_eq_true rfl) (fun l D A => c_X4_addWord l D A e93) ?_
        refine ww_aload_n 96 X dX4_putDerived_96 0 rfl rfl ?_
        refine ww_aload 97 X dX4_putDerived_97 4 rfl ?_
        refine ww_iconst 99 X (v := (0 : Int32)) dX4_putDerived_99 (by decide) ?_
        refine ww_aload 100 X dX4_putDerived_100 4 rfl ?_
        obtain ⟨v102, e102, h⟩ := bO_some h
        refine ww_getI 102 X dX4_putDerived_102 fG_X4_105 e102 ?_
        obtain ⟨_, f105, h⟩ := bO_some h
        obtain ⟨M105, e105, h⟩ := bO_some h
        refine ww_callVV0 105 X dX4_putDerived_105 mY_X4_add mL_X4_94 (rcv_spec f105) ⟨_, _, rfl⟩ (by decide) (As := [.ref l4, .int (0 : Int32), .int v102]) (rest := []) rfl rfl ⟨Nat.le_of_ble_eq_true rfl, Nat.le_of_ble_eq_true rfl⟩ (Nat.le_of_ble_eq_true rfl) (fun l D A => c_X4_add l D A e105) ?_
        refine ww_aload_n 108 X dX4_putDerived_108 0 rfl rfl ?_
        refine ww_bipush 109 X (v := (8 : Int32)) dX4_putDerived_109 (by decide) ?_
        refine ww_iload 111 X dX4_putDerived_111 5 rfl ?_
        refine ww_imul 113 X dX4_putDerived_113 ?_
        obtain ⟨_, f114, h⟩ := bO_some h
        obtain ⟨M114, e114, h⟩ := bO_some h
        refine ww_callVV0 114 X dX4_putDerived_114 mY_X4_addWord mL_X4_108 (rcv_spec f114) ⟨_, _, rfl⟩ (by decide) (As := [.int ((8 : Int32) * l5)]) (rest := []) rfl rfl ⟨Nat.le_of_ble_eq_true rfl, Nat.le_of_ble_eq_true rfl⟩ (Nat.le_of_ble_eq_true rfl) (fun l D A => c_X4_addWord l D A e114) ?_
        refine ww_aload_n 117 X dX4_putDerived_117 0 rfl rfl ?_
        refine ww_aload_n 118 X dX4_putDerived_118 0 rfl rfl ?_
        obtain ⟨v119, e119, h⟩ := bO_some h
        refine ww_getR 119 X dX4_putDerived_119 fG_X4_38 e119 ?_
        obtain ⟨_, f122, h⟩ := bO_some h
        obtain ⟨M122, e122, h⟩ := bO_some h
        refine ww_callVV0 122 X dX4_putDerived_122 mY_X4_finish mL_X4_98 (rcv_spec f122) ⟨_, _, rfl⟩ (by decide) (As := [.ref v119]) (rest := []) rfl rfl ⟨Nat.le_of_ble_eq_true rfl, Nat.le_of_ble_eq_true rfl⟩ (Nat.le_of_ble_eq_true rfl) (fun l D A => c_X4_finish l D A e122) ?_
        refine ww_iinc 125 X dX4_putDerived_125 (lv' := [(0, .ref l0), (1, .ref l1), (2, .ref l2), (3, .ref l3), (4, .ref l4), (5, .int l5), (6, .ref l6), (7, .int (l7 + 1))]) 7 rfl rfl (by decide) [1, 2, 3, 4, 5, 6, 7, 0] rfl ?_
        refine ww_goto 128 10 X dX4_putDerived_128 (by decide) ?_
        exact (ih _ _ _ _ _ _ _ _ _ h)
set_option maxHeartbeats 4000000 in
set_option maxRecDepth 100000 in
theorem wP_X4_putDerived {G : mG} {F : Nat} {x : mXT} {sz : Nat} {M0 : mM} (X : mCX G RX4 cX4_putDerived 8 none "putDerived" rmX4_putDerived x) (hQ : mQV x M0 (sz, 0, 0)) {l0 : Nat} {l1 : Nat} {l2 : Nat} {l3 : Nat} {l4 : Nat} {l5 : Int32} {l6 : Nat} {M : mM} (h : P_X4_putDerived G F l0 l1 l2 l3 l4 l5 l6 M = some M0) : WW x (sz, 0, 0) M 0 [(0, .ref l0), (1, .ref l1), (2, .ref l2), (3, .ref l3), (4, .ref l4), (5, .int l5), (6, .ref l6)] [] := by
  unfold P_X4_putDerived at h
  refine ww_aload_n 0 X dX4_putDerived_0 0 rfl rfl ?_
  obtain ⟨v1, e1, h⟩ := bO_some h
  refine ww_getR 1 X dX4_putDerived_1 fG_X4_38 e1 ?_
  obtain ⟨_, f4, h⟩ := bO_some h
  obtain ⟨M4, e4, h⟩ := bO_some h
  refine ww_callVV0 4 X dX4_putDerived_4 mY_X0_clear mL_X4_91 (rcv_spec f4) ⟨_, _, rfl⟩ (by decide) (As := []) (rest := []) rfl rfl ⟨Nat.le_of_ble_eq_true rfl, Nat.le_of_ble_eq_true rfl⟩ (Nat.le_of_ble_eq_true rfl) (fun l D A => c_X0_clear l D A e4) ?_
  refine ww_iconst 7 X (v := (1 : Int32)) dX4_putDerived_7 (by decide) ?_
  refine ww_istore 8 X dX4_putDerived_8 (lv' := [(0, .ref l0), (1, .ref l1), (2, .ref l2), (3, .ref l3), (4, .ref l4), (5, .int l5), (6, .ref l6), (7, .int (1 : Int32))]) (by decide) [1, 2, 3, 4, 5, 6, 7, 0] rfl ?_
  exact (wB_X4_putDerived_10 X hQ F _ _ _ _ _ _ _ _ _ h)
theorem c_X4_putDerived {G : mG} {F sz : Nat} {M0 : mM} (l : Launch) (D : mD) (A : Nat → Prop) {l0 : Nat} {l1 : Nat} {l2 : Nat} {l3 : Nat} {l4 : Nat} {l5 : Int32} {l6 : Nat} {M : mM} (h : P_X4_putDerived G F l0 l1 l2 l3 l4 l5 l6 M = some M0) : mMetV l D G A yX4_putDerived cX4_putDerived 8 none 3 105 0 0 [.ref l0, .ref l1, .ref l2, .ref l3, .ref l4, .int l5, .ref l6] M sz M0 sz := mMetV_of l D G A (by decide) (Nat.le_of_ble_eq_true rfl) (fun x X hQ => wP_X4_putDerived X hQ h)
/-! SealedTokens$Key.<init>()V -/
theorem dX5_init_0 : decode cX5_init 0 = .ok (.aload_n 0, 1) := by decide +kernel
theorem dX5_init_1 : decode cX5_init 1 = .ok (.invokespecial 3, 3) := by decide +kernel
theorem dX5_init_4 : decode cX5_init 4 = .ok (.aload_n 0, 1) := by decide +kernel
theorem dX5_init_5 : decode cX5_init 5 = .ok (.iconst (-1), 1) := by decide +kernel
theorem dX5_init_6 : decode cX5_init 6 = .ok (.putfield 9, 3) := by decide +kernel
theorem dX5_init_9 : decode cX5_init 9 = .ok (.aload_n 0, 1) := by decide +kernel
theorem dX5_init_10 : decode cX5_init 10 = .ok (.new 15, 3) := by decide +kernel
theorem dX5_init_13 : decode cX5_init 13 = .ok (.dup, 1) := by decide +kernel
theorem dX5_init_14 : decode cX5_init 14 = .ok (.sipush 128, 3) := by decide +kernel
theorem dX5_init_17 : decode cX5_init 17 = .ok (.invokespecial 19, 3) := by decide +kernel
theorem dX5_init_20 : decode cX5_init 20 = .ok (.putfield 22, 3) := by decide +kernel
theorem dX5_init_23 : decode cX5_init 23 = .ok (.aload_n 0, 1) := by decide +kernel
theorem dX5_init_24 : decode cX5_init 24 = .ok (.new 15, 3) := by decide +kernel
theorem dX5_init_27 : decode cX5_init 27 = .ok (.dup, 1) := by decide +kernel
theorem dX5_init_28 : decode cX5_init 28 = .ok (.sipush 128, 3) := by decide +kernel
theorem dX5_init_31 : decode cX5_init 31 = .ok (.invokespecial 19, 3) := by decide +kernel
theorem dX5_init_34 : decode cX5_init 34 = .ok (.putfield 26, 3) := by decide +kernel
theorem dX5_init_37 : decode cX5_init 37 = .ok (.aload_n 0, 1) := by decide +kernel
theorem dX5_init_38 : decode cX5_init 38 = .ok (.new 15, 3) := by decide +kernel
theorem dX5_init_41 : decode cX5_init 41 = .ok (.dup, 1) := by decide +kernel
theorem dX5_init_42 : decode cX5_init 42 = .ok (.sipush 128, 3) := by decide +kernel
theorem dX5_init_45 : decode cX5_init 45 = .ok (.invokespecial 19, 3) := by decide +kernel
theorem dX5_init_48 : decode cX5_init 48 = .ok (.putfield 29, 3) := by decide +kernel
theorem dX5_init_51 : decode cX5_init 51 = .ok (.aload_n 0, 1) := by decide +kernel
theorem dX5_init_52 : decode cX5_init 52 = .ok (.new 15, 3) := by decide +kernel
theorem dX5_init_55 : decode cX5_init 55 = .ok (.dup, 1) := by decide +kernel
theorem dX5_init_56 : decode cX5_init 56 = .ok (.bipush 64, 2) := by decide +kernel
theorem dX5_init_58 : decode cX5_init 58 = .ok (.invokespecial 19, 3) := by decide +kernel
theorem dX5_init_61 : decode cX5_init 61 = .ok (.putfield 32, 3) := by decide +kernel
theorem dX5_init_64 : decode cX5_init 64 = .ok (.return_, 1) := by decide +kernel
theorem mP_X5_init {G : mG} {F : Nat} {M0 : mM} {Z0 S0 : Nat} {l0 : Nat} {M : mM} {sz : Nat} {sl : Nat} (h : P_X5_init G F l0 M sz sl = some (M0, Z0, S0)) : sz ≤ Z0 ∧ sl ≤ S0 := by
  unfold P_X5_init at h
  obtain ⟨M6, e6, h⟩ := bO_some h
  obtain ⟨M10, ⟨⟩, h⟩ := bO_some h
  obtain ⟨M17, z17, k17, e17, h⟩ := bA_some h
  have g17 := mP_X0_init e17
  obtain ⟨M20, e20, h⟩ := bO_some h
  obtain ⟨M24, ⟨⟩, h⟩ := bO_some h
  obtain ⟨M31, z31, k31, e31, h⟩ := bA_some h
  have g31 := mP_X0_init e31
  obtain ⟨M34, e34, h⟩ := bO_some h
  obtain ⟨M38, ⟨⟩, h⟩ := bO_some h
  obtain ⟨M45, z45, k45, e45, h⟩ := bA_some h
  have g45 := mP_X0_init e45
  obtain ⟨M48, e48, h⟩ := bO_some h
  obtain ⟨M52, ⟨⟩, h⟩ := bO_some h
  obtain ⟨M58, z58, k58, e58, h⟩ := bA_some h
  have g58 := mP_X0_init e58
  obtain ⟨M61, e61, h⟩ := bO_some h
  have q := retA_v h
  omega
set_option maxHeartbeats 4000000 in
set_option maxRecDepth 100000 in
theorem wP_X5_init {G : mG} {F : Nat} {x : mXT} {z0 s0 : Nat} {M0 : mM} {Z0 S0 : Nat} (X : mCX G RX5 cX5_init 1 none "<init>" { frames := 2, cells := Z0 - z0, slots := S0 - s0, locals := 42 } x) (hQ : mQV x M0 (Z0, Z0 - z0, S0 - s0)) {l0 : Nat} {M : mM} {sz : Nat} {sl : Nat} (hz0 : z0 ≤ sz) (hs0 : s0 ≤ sl) (h : P_X5_init G F l0 M sz sl = some (M0, Z0, S0)) : WW x (sz, sz - z0, sl - s0) M 0 [(0, .ref l0)] [] := by
  unfold P_X5_init at h
  obtain ⟨M6, e6, h⟩ := bO_some h
  obtain ⟨M10, ⟨⟩, h⟩ := bO_some h
  obtain ⟨M17, z17, k17, e17, h⟩ := bA_some h
  have g17 := mP_X0_init e17
  obtain ⟨M20, e20, h⟩ := bO_some h
  obtain ⟨M24, ⟨⟩, h⟩ := bO_some h
  obtain ⟨M31, z31, k31, e31, h⟩ := bA_some h
  have g31 := mP_X0_init e31
  obtain ⟨M34, e34, h⟩ := bO_some h
  obtain ⟨M38, ⟨⟩, h⟩ := bO_some h
  obtain ⟨M45, z45, k45, e45, h⟩ := bA_some h
  have g45 := mP_X0_init e45
  obtain ⟨M48, e48, h⟩ := bO_some h
  obtain ⟨M52, ⟨⟩, h⟩ := bO_some h
  obtain ⟨M58, z58, k58, e58, h⟩ := bA_some h
  have g58 := mP_X0_init e58
  obtain ⟨M61, e61, h⟩ := bO_some h
  have q := retA_v h
  refine ww_aload_n 0 X dX5_init_0 0 rfl rfl ?_
  refine ww_objI 1 X (st := []) dX5_init_1 oL_X5_3 oI_i oI_c (Nat.le_of_ble_eq_true rfl) (Nat.le_of_ble_eq_true rfl) (Nat.le_of_ble_eq_true rfl) ?_
  refine ww_aload_n 4 X dX5_init_4 0 rfl rfl ?_
  refine ww_iconst 5 X (v := (-1 : Int32)) dX5_init_5 (by decide) ?_
  refine ww_putI 6 X dX5_init_6 (fP_X5_9 _) e6 ?_
  refine ww_aload_n 9 X dX5_init_9 0 rfl rfl ?_
  refine ww_newO 10 X (sz := sz) (sl := sl) (z0 := z0) (s0 := s0) dX5_init_10 nW_X5_15 (by omega) (by omega) (by show _ ≤ Z0 - z0; omega) (by show _ ≤ S0 - s0; omega) ?_
  refine ww_dup 13 X dX5_init_13 rfl ?_
  refine ww_sipush 14 X (v := (128 : Int32)) dX5_init_14 (by decide) ?_
  refine ww_callIVa 17 X (sz := (sz + 1)) (sl := (sl + 3)) (z0 := z0) (s0 := s0) dX5_init_17 mY_X0_init mL_X5_19 (As := [.int (128 : Int32)]) (rest := [.ref sz, .ref l0]) rfl rfl ⟨Nat.le_of_ble_eq_true rfl, Nat.le_of_ble_eq_true rfl⟩ (by omega) (by omega) (by omega) (by omega) (by show _ ≤ Z0 - z0; omega) (by show _ ≤ S0 - s0; omega) (Nat.le_of_ble_eq_true rfl) (fun l D A => c_X0_init l D A e17) ?_
  refine ww_putR 20 X dX5_init_20 (fP_X5_22 _ (Or.inr rfl)) e20 rfl rfl ?_
  refine ww_aload_n 23 X dX5_init_23 0 rfl rfl ?_
  refine ww_newO 24 X (sz := z17) (sl := k17) (z0 := z0) (s0 := s0) dX5_init_24 nW_X5_15 (by omega) (by omega) (by show _ ≤ Z0 - z0; omega) (by show _ ≤ S0 - s0; omega) ?_
  refine ww_dup 27 X dX5_init_27 rfl ?_
  refine ww_sipush 28 X (v := (128 : Int32)) dX5_init_28 (by decide) ?_
  refine ww_callIVa 31 X (sz := (z17 + 1)) (sl := (k17 + 3)) (z0 := z0) (s0 := s0) dX5_init_31 mY_X0_init mL_X5_19 (As := [.int (128 : Int32)]) (rest := [.ref z17, .ref l0]) rfl rfl ⟨Nat.le_of_ble_eq_true rfl, Nat.le_of_ble_eq_true rfl⟩ (by omega) (by omega) (by omega) (by omega) (by show _ ≤ Z0 - z0; omega) (by show _ ≤ S0 - s0; omega) (Nat.le_of_ble_eq_true rfl) (fun l D A => c_X0_init l D A e31) ?_
  refine ww_putR 34 X dX5_init_34 (fP_X5_26 _ (Or.inr rfl)) e34 rfl rfl ?_
  refine ww_aload_n 37 X dX5_init_37 0 rfl rfl ?_
  refine ww_newO 38 X (sz := z31) (sl := k31) (z0 := z0) (s0 := s0) dX5_init_38 nW_X5_15 (by omega) (by omega) (by show _ ≤ Z0 - z0; omega) (by show _ ≤ S0 - s0; omega) ?_
  refine ww_dup 41 X dX5_init_41 rfl ?_
  refine ww_sipush 42 X (v := (128 : Int32)) dX5_init_42 (by decide) ?_
  refine ww_callIVa 45 X (sz := (z31 + 1)) (sl := (k31 + 3)) (z0 := z0) (s0 := s0) dX5_init_45 mY_X0_init mL_X5_19 (As := [.int (128 : Int32)]) (rest := [.ref z31, .ref l0]) rfl rfl ⟨Nat.le_of_ble_eq_true rfl, Nat.le_of_ble_eq_true rfl⟩ (by omega) (by omega) (by omega) (by omega) (by show _ ≤ Z0 - z0; omega) (by show _ ≤ S0 - s0; omega) (Nat.le_of_ble_eq_true rfl) (fun l D A => c_X0_init l D A e45) ?_
  refine ww_putR 48 X dX5_init_48 (fP_X5_29 _ (Or.inr rfl)) e48 rfl rfl ?_
  refine ww_aload_n 51 X dX5_init_51 0 rfl rfl ?_
  refine ww_newO 52 X (sz := z45) (sl := k45) (z0 := z0) (s0 := s0) dX5_init_52 nW_X5_15 (by omega) (by omega) (by show _ ≤ Z0 - z0; omega) (by show _ ≤ S0 - s0; omega) ?_
  refine ww_dup 55 X dX5_init_55 rfl ?_
  refine ww_bipush 56 X (v := (64 : Int32)) dX5_init_56 (by decide) ?_
  refine ww_callIVa 58 X (sz := (z45 + 1)) (sl := (k45 + 3)) (z0 := z0) (s0 := s0) dX5_init_58 mY_X0_init mL_X5_19 (As := [.int (64 : Int32)]) (rest := [.ref z45, .ref l0]) rfl rfl ⟨Nat.le_of_ble_eq_true rfl, Nat.le_of_ble_eq_true rfl⟩ (by omega) (by omega) (by omega) (by omega) (by show _ ≤ Z0 - z0; omega) (by show _ ≤ S0 - s0; omega) (Nat.le_of_ble_eq_true rfl) (fun l D A => c_X0_init l D A e58) ?_
  refine ww_putR 61 X dX5_init_61 (fP_X5_32 _) e61 rfl rfl ?_
  exact ww_vretA 64 X hQ dX5_init_64 h
theorem c_X5_init {G : mG} {F : Nat} {M0 : mM} {Z0 S0 : Nat} (l : Launch) (D : mD) (A : Nat → Prop) {l0 : Nat} {M : mM} {sz : Nat} {sl : Nat} (h : P_X5_init G F l0 M sz sl = some (M0, Z0, S0)) : mMetV l D G A yX5_init cX5_init 1 none 2 42 (Z0 - sz) (S0 - sl) [.ref l0] M sz M0 Z0 := mMetV_of l D G A (by decide) (Nat.le_of_ble_eq_true rfl) (fun x X hQ => by have K := wP_X5_init X hQ (Nat.le_refl sz) (Nat.le_refl sl) h; rw [Nat.sub_self, Nat.sub_self] at K; exact K)
/-! SealedTokens$Text.has(I)Z -/
theorem dX9_has_0 : decode cX9_has 0 = .ok (.iload_n 1, 1) := by decide +kernel
theorem dX9_has_1 : decode cX9_has 1 = .ok (.ifCond .lt 15, 3) := by decide +kernel
theorem dX9_has_4 : decode cX9_has 4 = .ok (.iload_n 1, 1) := by decide +kernel
theorem dX9_has_5 : decode cX9_has 5 = .ok (.aload_n 0, 1) := by decide +kernel
theorem dX9_has_6 : decode cX9_has 6 = .ok (.getfield 48, 3) := by decide +kernel
theorem dX9_has_9 : decode cX9_has 9 = .ok (.if_icmp .ge 7, 3) := by decide +kernel
theorem dX9_has_12 : decode cX9_has 12 = .ok (.iconst 1, 1) := by decide +kernel
theorem dX9_has_13 : decode cX9_has 13 = .ok (.goto 4, 3) := by decide +kernel
theorem dX9_has_16 : decode cX9_has 16 = .ok (.iconst 0, 1) := by decide +kernel
theorem dX9_has_17 : decode cX9_has 17 = .ok (.ireturn, 1) := by decide +kernel
abbrev rmX9_has : Room := { frames := 0, cells := 0, slots := 0, locals := 0 }
set_option maxHeartbeats 4000000 in
set_option maxRecDepth 100000 in
theorem wP_X9_has {G : mG} {F : Nat} {x : mXT} {sz : Nat} {r0 : Int32} {M0 : mM} (X : mCX G RX9 cX9_has 2 (some .boolean) "has" rmX9_has x) (hQ : mQI x r0 M0 (sz, 0, 0)) {l0 : Nat} {l1 : Int32} {M : mM} (h : P_X9_has G F l0 l1 M = some (r0, M0)) : WW x (sz, 0, 0) M 0 [(0, .ref l0), (1, .int l1)] [] := by
  unfold P_X9_has at h
  refine ww_iload_n 0 X dX9_has_0 1 rfl rfl ?_
  refine ww_if_lt 1 16 X dX9_has_1 (by decide) (fun q => ?_) (fun q => ?_)
  · replace h := (if_pos q).symm.trans h
    refine ww_iconst 16 X (v := (0 : Int32)) dX9_has_16 (by decide) ?_
    exact ww_zretE 17 X hQ dX9_has_17 h
  · replace h := (if_neg q).symm.trans h
    refine ww_iload_n 4 X dX9_has_4 1 rfl rfl ?_
    refine ww_aload_n 5 X dX9_has_5 0 rfl rfl ?_
    obtain ⟨v6, e6, h⟩ := bO_some h
    refine ww_getI 6 X dX9_has_6 fG_X9_48 e6 ?_
    refine ww_icmp_ge 9 16 X dX9_has_9 (by decide) (fun q => ?_) (fun q => ?_)
    · replace h := (if_pos q).symm.trans h
      refine ww_iconst 16 X (v := (0 : Int32)) dX9_has_16 (by decide) ?_
      exact ww_zretE 17 X hQ dX9_has_17 h
    · replace h := (if_neg q).symm.trans h
      refine ww_iconst 12 X (v := (1 : Int32)) dX9_has_12 (by decide) ?_
      refine ww_goto 13 17 X dX9_has_13 (by decide) ?_
      exact ww_zretE 17 X hQ dX9_has_17 h
theorem c_X9_has {G : mG} {F sz : Nat} {r0 : Int32} {M0 : mM} (l : Launch) (D : mD) (A : Nat → Prop) {l0 : Nat} {l1 : Int32} {M : mM} (h : P_X9_has G F l0 l1 M = some (r0, M0)) : mMetI l D G A yX9_has cX9_has 2 (some .boolean) 0 0 0 0 [.ref l0, .int l1] M sz r0 M0 sz := mMetI_of l D G A (by decide) (Nat.le_of_ble_eq_true rfl) (fun x X hQ => wP_X9_has X hQ h)
/-! SealedTokens$Text.isKind(II)Z -/
theorem dX9_isKind_0 : decode cX9_isKind 0 = .ok (.aload_n 0, 1) := by decide +kernel
theorem dX9_isKind_1 : decode cX9_isKind 1 = .ok (.iload_n 1, 1) := by decide +kernel
theorem dX9_isKind_2 : decode cX9_isKind 2 = .ok (.invokevirtual 55, 3) := by decide +kernel
theorem dX9_isKind_5 : decode cX9_isKind 5 = .ok (.ifCond .eq 17, 3) := by decide +kernel
theorem dX9_isKind_8 : decode cX9_isKind 8 = .ok (.aload_n 0, 1) := by decide +kernel
theorem dX9_isKind_9 : decode cX9_isKind 9 = .ok (.getfield 11, 3) := by decide +kernel
theorem dX9_isKind_12 : decode cX9_isKind 12 = .ok (.iload_n 1, 1) := by decide +kernel
theorem dX9_isKind_13 : decode cX9_isKind 13 = .ok (.iaload, 1) := by decide +kernel
theorem dX9_isKind_14 : decode cX9_isKind 14 = .ok (.iload_n 2, 1) := by decide +kernel
theorem dX9_isKind_15 : decode cX9_isKind 15 = .ok (.if_icmp .ne 7, 3) := by decide +kernel
theorem dX9_isKind_18 : decode cX9_isKind 18 = .ok (.iconst 1, 1) := by decide +kernel
theorem dX9_isKind_19 : decode cX9_isKind 19 = .ok (.goto 4, 3) := by decide +kernel
theorem dX9_isKind_22 : decode cX9_isKind 22 = .ok (.iconst 0, 1) := by decide +kernel
theorem dX9_isKind_23 : decode cX9_isKind 23 = .ok (.ireturn, 1) := by decide +kernel
abbrev rmX9_isKind : Room := { frames := 1, cells := 0, slots := 0, locals := 21 }
set_option maxHeartbeats 4000000 in
set_option maxRecDepth 100000 in
theorem wP_X9_isKind {G : mG} {F : Nat} {x : mXT} {sz : Nat} {r0 : Int32} {M0 : mM} (X : mCX G RX9 cX9_isKind 3 (some .boolean) "isKind" rmX9_isKind x) (hQ : mQI x r0 M0 (sz, 0, 0)) {l0 : Nat} {l1 : Int32} {l2 : Int32} {M : mM} (h : P_X9_isKind G F l0 l1 l2 M = some (r0, M0)) : WW x (sz, 0, 0) M 0 [(0, .ref l0), (1, .int l1), (2, .int l2)] [] := by
  unfold P_X9_isKind at h
  refine ww_aload_n 0 X dX9_isKind_0 0 rfl rfl ?_
  refine ww_iload_n 1 X dX9_isKind_1 1 rfl rfl ?_
  obtain ⟨_, f2, h⟩ := bO_some h
  obtain ⟨v2, M2, e2, h⟩ := bP_some h
  refine ww_callVI0 2 X dX9_isKind_2 mY_X9_has mL_X9_55 (rcv_spec f2) ⟨_, _, rfl⟩ (by decide) (As := [.int l1]) (rest := []) rfl rfl ⟨Nat.le_of_ble_eq_true rfl, Nat.le_of_ble_eq_true rfl⟩ (Nat.le_of_ble_eq_true rfl) (fun l D A => c_X9_has l D A e2) ?_
  refine ww_if_eq 5 22 X dX9_isKind_5 (by decide) (fun q => ?_) (fun q => ?_)
  · replace h := (if_pos q).symm.trans h
    refine ww_iconst 22 X (v := (0 : Int32)) dX9_isKind_22 (by decide) ?_
    exact ww_zretE 23 X hQ dX9_isKind_23 h
  · replace h := (if_neg q).symm.trans h
    refine ww_aload_n 8 X dX9_isKind_8 0 rfl rfl ?_
    obtain ⟨v9, e9, h⟩ := bO_some h
    refine ww_getR 9 X dX9_isKind_9 fG_X9_11 e9 ?_
    refine ww_iload_n 12 X dX9_isKind_12 1 rfl rfl ?_
    obtain ⟨v13, e13, h⟩ := bO_some h
    refine ww_iald 13 X dX9_isKind_13 e13 ?_
    refine ww_iload_n 14 X dX9_isKind_14 2 rfl rfl ?_
    refine ww_icmp_ne 15 22 X dX9_isKind_15 (by decide) (fun q => ?_) (fun q => ?_)
    · replace h := (if_neg q).symm.trans h
      refine ww_iconst 22 X (v := (0 : Int32)) dX9_isKind_22 (by decide) ?_
      exact ww_zretE 23 X hQ dX9_isKind_23 h
    · replace h := (if_pos q).symm.trans h
      refine ww_iconst 18 X (v := (1 : Int32)) dX9_isKind_18 (by decide) ?_
      refine ww_goto 19 23 X dX9_isKind_19 (by decide) ?_
      exact ww_zretE 23 X hQ dX9_isKind_23 h
theorem c_X9_isKind {G : mG} {F sz : Nat} {r0 : Int32} {M0 : mM} (l : Launch) (D : mD) (A : Nat → Prop) {l0 : Nat} {l1 : Int32} {l2 : Int32} {M : mM} (h : P_X9_isKind G F l0 l1 l2 M = some (r0, M0)) : mMetI l D G A yX9_isKind cX9_isKind 3 (some .boolean) 1 21 0 0 [.ref l0, .int l1, .int l2] M sz r0 M0 sz := mMetI_of l D G A (by decide) (Nat.le_of_ble_eq_true rfl) (fun x X hQ => wP_X9_isKind X hQ h)
/-! SealedTokens$Text.poolSpells(IILjava/lang/String;)Z -/
theorem dX9_poolSpells_0 : decode cX9_poolSpells 0 = .ok (.iload_n 2, 1) := by decide +kernel
theorem dX9_poolSpells_1 : decode cX9_poolSpells 1 = .ok (.aload_n 3, 1) := by decide +kernel
theorem dX9_poolSpells_2 : decode cX9_poolSpells 2 = .ok (.invokevirtual 74, 3) := by decide +kernel
theorem dX9_poolSpells_5 : decode cX9_poolSpells 5 = .ok (.if_icmp .eq 5, 3) := by decide +kernel
theorem dX9_poolSpells_8 : decode cX9_poolSpells 8 = .ok (.iconst 0, 1) := by decide +kernel
theorem dX9_poolSpells_9 : decode cX9_poolSpells 9 = .ok (.ireturn, 1) := by decide +kernel
theorem dX9_poolSpells_10 : decode cX9_poolSpells 10 = .ok (.iconst 0, 1) := by decide +kernel
theorem dX9_poolSpells_11 : decode cX9_poolSpells 11 = .ok (.istore 4, 2) := by decide +kernel
theorem dX9_poolSpells_13 : decode cX9_poolSpells 13 = .ok (.iload 4, 2) := by decide +kernel
theorem dX9_poolSpells_15 : decode cX9_poolSpells 15 = .ok (.iload_n 2, 1) := by decide +kernel
theorem dX9_poolSpells_16 : decode cX9_poolSpells 16 = .ok (.if_icmp .ge 31, 3) := by decide +kernel
theorem dX9_poolSpells_19 : decode cX9_poolSpells 19 = .ok (.aload_n 0, 1) := by decide +kernel
theorem dX9_poolSpells_20 : decode cX9_poolSpells 20 = .ok (.getfield 44, 3) := by decide +kernel
theorem dX9_poolSpells_23 : decode cX9_poolSpells 23 = .ok (.iload_n 1, 1) := by decide +kernel
theorem dX9_poolSpells_24 : decode cX9_poolSpells 24 = .ok (.iload 4, 2) := by decide +kernel
theorem dX9_poolSpells_26 : decode cX9_poolSpells 26 = .ok (.iadd, 1) := by decide +kernel
theorem dX9_poolSpells_27 : decode cX9_poolSpells 27 = .ok (.invokevirtual 80, 3) := by decide +kernel
theorem dX9_poolSpells_30 : decode cX9_poolSpells 30 = .ok (.aload_n 3, 1) := by decide +kernel
theorem dX9_poolSpells_31 : decode cX9_poolSpells 31 = .ok (.iload 4, 2) := by decide +kernel
theorem dX9_poolSpells_33 : decode cX9_poolSpells 33 = .ok (.invokevirtual 84, 3) := by decide +kernel
theorem dX9_poolSpells_36 : decode cX9_poolSpells 36 = .ok (.if_icmp .eq 5, 3) := by decide +kernel
theorem dX9_poolSpells_39 : decode cX9_poolSpells 39 = .ok (.iconst 0, 1) := by decide +kernel
theorem dX9_poolSpells_40 : decode cX9_poolSpells 40 = .ok (.ireturn, 1) := by decide +kernel
theorem dX9_poolSpells_41 : decode cX9_poolSpells 41 = .ok (.iinc 4 1, 3) := by decide +kernel
theorem dX9_poolSpells_44 : decode cX9_poolSpells 44 = .ok (.goto (-31), 3) := by decide +kernel
theorem dX9_poolSpells_47 : decode cX9_poolSpells 47 = .ok (.iconst 1, 1) := by decide +kernel
theorem dX9_poolSpells_48 : decode cX9_poolSpells 48 = .ok (.ireturn, 1) := by decide +kernel
abbrev rmX9_poolSpells : Room := { frames := 4, cells := 0, slots := 0, locals := 85 }
set_option maxHeartbeats 4000000 in
set_option maxRecDepth 100000 in
theorem wB_X9_poolSpells_13 {G : mG} {F : Nat} {x : mXT} {sz : Nat} {r0 : Int32} {M0 : mM} (X : mCX G RX9 cX9_poolSpells 5 (some .boolean) "poolSpells" rmX9_poolSpells x) (hQ : mQI x r0 M0 (sz, 0, 0)) : ∀ (n : Nat) (l0 : Nat) (l1 : Int32) (l2 : Int32) (l3 : Nat) (l4 : Int32) (M : mM), B_X9_poolSpells_13 G F n l0 l1 l2 l3 l4 M = some (r0, M0) → WW x (sz, 0, 0) M 13 [(0, .ref l0), (1, .int l1), (2, .int l2), (3, .ref l3), (4, .int l4)] [] := by
  intro n
  induction n with
  | zero =>
    intro l0 l1 l2 l3 l4 M h
    exact nomatch (show (none : Option (Int32 × mM)) = some (r0, M0) from h)
  | succ n ih =>
    intro l0 l1 l2 l3 l4 M h
    rw [B_X9_poolSpells_13] at h
    refine ww_iload 13 X dX9_poolSpells_13 4 rfl ?_
    refine ww_iload_n 15 X dX9_poolSpells_15 2 rfl rfl ?_
    refine ww_icmp_ge 16 47 X dX9_poolSpells_16 (by decide) (fun q => ?_) (fun q => ?_)
    · replace h := (if_pos q).symm.trans h
      refine ww_iconst 47 X (v := (1 : Int32)) dX9_poolSpells_47 (by decide) ?_
      exact ww_zretE 48 X hQ dX9_poolSpells_48 h
    · replace h := (if_neg q).symm.trans h
      refine ww_aload_n 19 X dX9_poolSpells_19 0 rfl rfl ?_
      obtain ⟨v20, e20, h⟩ := bO_some h
      refine ww_getR 20 X dX9_poolSpells_20 fG_X9_44 e20 ?_
      refine ww_iload_n 23 X dX9_poolSpells_23 1 rfl rfl ?_
      refine ww_iload 24 X dX9_poolSpells_24 4 rfl ?_
      refine ww_iadd 26 X dX9_poolSpells_26 ?_
      obtain ⟨_, f27, h⟩ := bO_some h
      obtain ⟨v27, M27, e27, h⟩ := bP_some h
      refine ww_callVI0 27 X dX9_poolSpells_27 mY_X0_get mL_X9_80 (rcv_spec f27) ⟨_, _, rfl⟩ (by decide) (As := [.int (l1 + l4)]) (rest := []) rfl rfl ⟨Nat.le_of_ble_eq_true rfl, Nat.le_of_ble_eq_true rfl⟩ (Nat.le_of_ble_eq_true rfl) (fun l D A => c_X0_get l D A e27) ?_
      refine ww_aload_n 30 X dX9_poolSpells_30 3 rfl rfl ?_
      refine ww_iload 31 X dX9_poolSpells_31 4 rfl ?_
      obtain ⟨_, f33, h⟩ := bO_some h
      obtain ⟨v33, M33, e33, h⟩ := bP_some h
      refine ww_callVIs 33 X dX9_poolSpells_33 mY_J0_charAt_5068e mL_X9_84 (rcs_spec f33) rfl (As := [.int l4]) (rest := [.int v27]) rfl rfl ⟨Nat.le_of_ble_eq_true rfl, Nat.le_of_ble_eq_true rfl⟩ (Nat.le_of_ble_eq_true rfl) (fun l D A => c_J0_charAt_5068e l D A e33) ?_
      refine ww_icmp_eq 36 41 X dX9_poolSpells_36 (by decide) (fun q => ?_) (fun q => ?_)
      · replace h := (if_pos q).symm.trans h
        refine ww_iinc 41 X dX9_poolSpells_41 (lv' := [(0, .ref l0), (1, .int l1), (2, .int l2), (3, .ref l3), (4, .int (l4 + 1))]) 4 rfl rfl (by decide) [1, 2, 3, 4, 0] rfl ?_
        refine ww_goto 44 13 X dX9_poolSpells_44 (by decide) ?_
        exact (ih _ _ _ _ _ _ h)
      · replace h := (if_neg q).symm.trans h
        refine ww_iconst 39 X (v := (0 : Int32)) dX9_poolSpells_39 (by decide) ?_
        exact ww_zretE 40 X hQ dX9_poolSpells_40 h
set_option maxHeartbeats 4000000 in
set_option maxRecDepth 100000 in
theorem wP_X9_poolSpells {G : mG} {F : Nat} {x : mXT} {sz : Nat} {r0 : Int32} {M0 : mM} (X : mCX G RX9 cX9_poolSpells 5 (some .boolean) "poolSpells" rmX9_poolSpells x) (hQ : mQI x r0 M0 (sz, 0, 0)) {l0 : Nat} {l1 : Int32} {l2 : Int32} {l3 : Nat} {M : mM} (h : P_X9_poolSpells G F l0 l1 l2 l3 M = some (r0, M0)) : WW x (sz, 0, 0) M 0 [(0, .ref l0), (1, .int l1), (2, .int l2), (3, .ref l3)] [] := by
  unfold P_X9_poolSpells at h
  refine ww_iload_n 0 X dX9_poolSpells_0 2 rfl rfl ?_
  refine ww_aload_n 1 X dX9_poolSpells_1 3 rfl rfl ?_
  obtain ⟨_, f2, h⟩ := bO_some h
  obtain ⟨v2, M2, e2, h⟩ := bP_some h
  refine ww_callVIs 2 X dX9_poolSpells_2 mY_J0_length_8abf5 mL_X9_74 (rcs_spec f2) rfl (As := []) (rest := [.int l2]) rfl rfl ⟨Nat.le_of_ble_eq_true rfl, Nat.le_of_ble_eq_true rfl⟩ (Nat.le_of_ble_eq_true rfl) (fun l D A => c_J0_length_8abf5 l D A e2) ?_
  refine ww_icmp_eq 5 10 X dX9_poolSpells_5 (by decide) (fun q => ?_) (fun q => ?_)
  · replace h := (if_pos q).symm.trans h
    refine ww_iconst 10 X (v := (0 : Int32)) dX9_poolSpells_10 (by decide) ?_
    refine ww_istore 11 X dX9_poolSpells_11 (lv' := [(0, .ref l0), (1, .int l1), (2, .int l2), (3, .ref l3), (4, .int (0 : Int32))]) (by decide) [1, 2, 3, 4, 0] rfl ?_
    exact (wB_X9_poolSpells_13 X hQ F _ _ _ _ _ _ h)
  · replace h := (if_neg q).symm.trans h
    refine ww_iconst 8 X (v := (0 : Int32)) dX9_poolSpells_8 (by decide) ?_
    exact ww_zretE 9 X hQ dX9_poolSpells_9 h
theorem c_X9_poolSpells {G : mG} {F sz : Nat} {r0 : Int32} {M0 : mM} (l : Launch) (D : mD) (A : Nat → Prop) {l0 : Nat} {l1 : Int32} {l2 : Int32} {l3 : Nat} {M : mM} (h : P_X9_poolSpells G F l0 l1 l2 l3 M = some (r0, M0)) : mMetI l D G A yX9_poolSpells cX9_poolSpells 5 (some .boolean) 4 85 0 0 [.ref l0, .int l1, .int l2, .ref l3] M sz r0 M0 sz := mMetI_of l D G A (by decide) (Nat.le_of_ble_eq_true rfl) (fun x X hQ => wP_X9_poolSpells X hQ h)
/-! SealedTokens$Text.find(ILjava/lang/String;)I -/
theorem dX9_find_0 : decode cX9_find 0 = .ok (.aload_n 0, 1) := by decide +kernel
theorem dX9_find_1 : decode cX9_find 1 = .ok (.iload_n 1, 1) := by decide +kernel
theorem dX9_find_2 : decode cX9_find 2 = .ok (.bipush 6, 2) := by decide +kernel
theorem dX9_find_4 : decode cX9_find 4 = .ok (.invokevirtual 66, 3) := by decide +kernel
theorem dX9_find_7 : decode cX9_find 7 = .ok (.ifCond .ne 5, 3) := by decide +kernel
theorem dX9_find_10 : decode cX9_find 10 = .ok (.iconst (-1), 1) := by decide +kernel
theorem dX9_find_11 : decode cX9_find 11 = .ok (.ireturn, 1) := by decide +kernel
theorem dX9_find_12 : decode cX9_find 12 = .ok (.iload_n 1, 1) := by decide +kernel
theorem dX9_find_13 : decode cX9_find 13 = .ok (.iconst 1, 1) := by decide +kernel
theorem dX9_find_14 : decode cX9_find 14 = .ok (.iadd, 1) := by decide +kernel
theorem dX9_find_15 : decode cX9_find 15 = .ok (.istore_n 3, 1) := by decide +kernel
theorem dX9_find_16 : decode cX9_find 16 = .ok (.iload_n 3, 1) := by decide +kernel
theorem dX9_find_17 : decode cX9_find 17 = .ok (.aload_n 0, 1) := by decide +kernel
theorem dX9_find_18 : decode cX9_find 18 = .ok (.getfield 48, 3) := by decide +kernel
theorem dX9_find_21 : decode cX9_find 21 = .ok (.if_icmp .ge 41, 3) := by decide +kernel
theorem dX9_find_24 : decode cX9_find 24 = .ok (.aload_n 0, 1) := by decide +kernel
theorem dX9_find_25 : decode cX9_find 25 = .ok (.getfield 15, 3) := by decide +kernel
theorem dX9_find_28 : decode cX9_find 28 = .ok (.iload_n 3, 1) := by decide +kernel
theorem dX9_find_29 : decode cX9_find 29 = .ok (.iaload, 1) := by decide +kernel
theorem dX9_find_30 : decode cX9_find 30 = .ok (.iload_n 1, 1) := by decide +kernel
theorem dX9_find_31 : decode cX9_find 31 = .ok (.if_icmp .ne 25, 3) := by decide +kernel
theorem dX9_find_34 : decode cX9_find 34 = .ok (.aload_n 0, 1) := by decide +kernel
theorem dX9_find_35 : decode cX9_find 35 = .ok (.aload_n 0, 1) := by decide +kernel
theorem dX9_find_36 : decode cX9_find 36 = .ok (.getfield 33, 3) := by decide +kernel
theorem dX9_find_39 : decode cX9_find 39 = .ok (.iload_n 3, 1) := by decide +kernel
theorem dX9_find_40 : decode cX9_find 40 = .ok (.iaload, 1) := by decide +kernel
theorem dX9_find_41 : decode cX9_find 41 = .ok (.aload_n 0, 1) := by decide +kernel
theorem dX9_find_42 : decode cX9_find 42 = .ok (.getfield 36, 3) := by decide +kernel
theorem dX9_find_45 : decode cX9_find 45 = .ok (.iload_n 3, 1) := by decide +kernel
theorem dX9_find_46 : decode cX9_find 46 = .ok (.iaload, 1) := by decide +kernel
theorem dX9_find_47 : decode cX9_find 47 = .ok (.aload_n 2, 1) := by decide +kernel
theorem dX9_find_48 : decode cX9_find 48 = .ok (.invokevirtual 88, 3) := by decide +kernel
theorem dX9_find_51 : decode cX9_find 51 = .ok (.ifCond .eq 5, 3) := by decide +kernel
theorem dX9_find_54 : decode cX9_find 54 = .ok (.iload_n 3, 1) := by decide +kernel
theorem dX9_find_55 : decode cX9_find 55 = .ok (.ireturn, 1) := by decide +kernel
theorem dX9_find_56 : decode cX9_find 56 = .ok (.iinc 3 1, 3) := by decide +kernel
theorem dX9_find_59 : decode cX9_find 59 = .ok (.goto (-43), 3) := by decide +kernel
theorem dX9_find_62 : decode cX9_find 62 = .ok (.iconst (-1), 1) := by decide +kernel
theorem dX9_find_63 : decode cX9_find 63 = .ok (.ireturn, 1) := by decide +kernel
abbrev rmX9_find : Room := { frames := 5, cells := 0, slots := 0, locals := 109 }
set_option maxHeartbeats 4000000 in
set_option maxRecDepth 100000 in
theorem wB_X9_find_16 {G : mG} {F : Nat} {x : mXT} {sz : Nat} {r0 : Int32} {M0 : mM} (X : mCX G RX9 cX9_find 4 (some .int) "find" rmX9_find x) (hQ : mQI x r0 M0 (sz, 0, 0)) : ∀ (n : Nat) (l0 : Nat) (l1 : Int32) (l2 : Nat) (l3 : Int32) (M : mM), B_X9_find_16 G F n l0 l1 l2 l3 M = some (r0, M0) → WW x (sz, 0, 0) M 16 [(0, .ref l0), (1, .int l1), (2, .ref l2), (3, .int l3)] [] := by
  intro n
  induction n with
  | zero =>
    intro l0 l1 l2 l3 M h
    exact nomatch (show (none : Option (Int32 × mM)) = some (r0, M0) from h)
  | succ n ih =>
    intro l0 l1 l2 l3 M h
    rw [B_X9_find_16] at h
    refine ww_iload_n 16 X dX9_find_16 3 rfl rfl ?_
    refine ww_aload_n 17 X dX9_find_17 0 rfl rfl ?_
    obtain ⟨v18, e18, h⟩ := bO_some h
    refine ww_getI 18 X dX9_find_18 fG_X9_48 e18 ?_
    refine ww_icmp_ge 21 62 X dX9_find_21 (by decide) (fun q => ?_) (fun q => ?_)
    · replace h := (if_pos q).symm.trans h
      refine ww_iconst 62 X (v := (-1 : Int32)) dX9_find_62 (by decide) ?_
      exact ww_iretE 63 X hQ dX9_find_63 h
    · replace h := (if_neg q).symm.trans h
      refine ww_aload_n 24 X dX9_find_24 0 rfl rfl ?_
      obtain ⟨v25, e25, h⟩ := bO_some h
      refine ww_getR 25 X dX9_find_25 fG_X9_15 e25 ?_
      refine ww_iload_n 28 X dX9_find_28 3 rfl rfl ?_
      obtain ⟨v29, e29, h⟩ := bO_some h
      refine ww_iald 29 X dX9_find_29 e29 ?_
      refine ww_iload_n 30 X dX9_find_30 1 rfl rfl ?_
      refine ww_icmp_ne 31 56 X dX9_find_31 (by decide) (fun q => ?_) (fun q => ?_)
      · replace h := (if_neg q).symm.trans h
        refine ww_iinc 56 X dX9_find_56 (lv' := [(0, .ref l0), (1, .int l1), (2, .ref l2), (3, .int (l3 + 1))]) 3 rfl rfl (by decide) [1, 2, 3, 0] rfl ?_
        refine ww_goto 59 16 X dX9_find_59 (by decide) ?_
        exact (ih _ _ _ _ _ h)
      · replace h := (if_pos q).symm.trans h
        refine ww_aload_n 34 X dX9_find_34 0 rfl rfl ?_
        refine ww_aload_n 35 X dX9_find_35 0 rfl rfl ?_
        obtain ⟨v36, e36, h⟩ := bO_some h
        refine ww_getR 36 X dX9_find_36 fG_X9_33 e36 ?_
        refine ww_iload_n 39 X dX9_find_39 3 rfl rfl ?_
        obtain ⟨v40, e40, h⟩ := bO_some h
        refine ww_iald 40 X dX9_find_40 e40 ?_
        refine ww_aload_n 41 X dX9_find_41 0 rfl rfl ?_
        obtain ⟨v42, e42, h⟩ := bO_some h
        refine ww_getR 42 X dX9_find_42 fG_X9_36 e42 ?_
        refine ww_iload_n 45 X dX9_find_45 3 rfl rfl ?_
        obtain ⟨v46, e46, h⟩ := bO_some h
        refine ww_iald 46 X dX9_find_46 e46 ?_
        refine ww_aload_n 47 X dX9_find_47 2 rfl rfl ?_
        obtain ⟨_, f48, h⟩ := bO_some h
        obtain ⟨v48, M48, e48, h⟩ := bP_some h
        refine ww_callVI0 48 X dX9_find_48 mY_X9_poolSpells mL_X9_88 (rcv_spec f48) ⟨_, _, rfl⟩ (by decide) (As := [.int v40, .int v46, .ref l2]) (rest := []) rfl rfl ⟨Nat.le_of_ble_eq_true rfl, Nat.le_of_ble_eq_true rfl⟩ (Nat.le_of_ble_eq_true rfl) (fun l D A => c_X9_poolSpells l D A e48) ?_
        refine ww_if_eq 51 56 X dX9_find_51 (by decide) (fun q => ?_) (fun q => ?_)
        · replace h := (if_pos q).symm.trans h
          refine ww_iinc 56 X dX9_find_56 (lv' := [(0, .ref l0), (1, .int l1), (2, .ref l2), (3, .int (l3 + 1))]) 3 rfl rfl (by decide) [1, 2, 3, 0] rfl ?_
          refine ww_goto 59 16 X dX9_find_59 (by decide) ?_
          exact (ih _ _ _ _ _ h)
        · replace h := (if_neg q).symm.trans h
          refine ww_iload_n 54 X dX9_find_54 3 rfl rfl ?_
          exact ww_iretE 55 X hQ dX9_find_55 h
set_option maxHeartbeats 4000000 in
set_option maxRecDepth 100000 in
theorem wP_X9_find {G : mG} {F : Nat} {x : mXT} {sz : Nat} {r0 : Int32} {M0 : mM} (X : mCX G RX9 cX9_find 4 (some .int) "find" rmX9_find x) (hQ : mQI x r0 M0 (sz, 0, 0)) {l0 : Nat} {l1 : Int32} {l2 : Nat} {M : mM} (h : P_X9_find G F l0 l1 l2 M = some (r0, M0)) : WW x (sz, 0, 0) M 0 [(0, .ref l0), (1, .int l1), (2, .ref l2)] [] := by
  unfold P_X9_find at h
  refine ww_aload_n 0 X dX9_find_0 0 rfl rfl ?_
  refine ww_iload_n 1 X dX9_find_1 1 rfl rfl ?_
  refine ww_bipush 2 X (v := (6 : Int32)) dX9_find_2 (by decide) ?_
  obtain ⟨_, f4, h⟩ := bO_some h
  obtain ⟨v4, M4, e4, h⟩ := bP_some h
  refine ww_callVI0 4 X dX9_find_4 mY_X9_isKind mL_X9_66 (rcv_spec f4) ⟨_, _, rfl⟩ (by decide) (As := [.int l1, .int (6 : Int32)]) (rest := []) rfl rfl ⟨Nat.le_of_ble_eq_true rfl, Nat.le_of_ble_eq_true rfl⟩ (Nat.le_of_ble_eq_true rfl) (fun l D A => c_X9_isKind l D A e4) ?_
  refine ww_if_ne 7 12 X dX9_find_7 (by decide) (fun q => ?_) (fun q => ?_)
  · replace h := (if_neg q).symm.trans h
    refine ww_iload_n 12 X dX9_find_12 1 rfl rfl ?_
    refine ww_iconst 13 X (v := (1 : Int32)) dX9_find_13 (by decide) ?_
    refine ww_iadd 14 X dX9_find_14 ?_
    refine ww_istore_n 15 X dX9_find_15 (lv' := [(0, .ref l0), (1, .int l1), (2, .ref l2), (3, .int (l1 + (1 : Int32)))]) rfl (by decide) [1, 2, 3, 0] rfl ?_
    exact (wB_X9_find_16 X hQ F _ _ _ _ _ h)
  · replace h := (if_pos q).symm.trans h
    refine ww_iconst 10 X (v := (-1 : Int32)) dX9_find_10 (by decide) ?_
    exact ww_iretE 11 X hQ dX9_find_11 h
theorem c_X9_find {G : mG} {F sz : Nat} {r0 : Int32} {M0 : mM} (l : Launch) (D : mD) (A : Nat → Prop) {l0 : Nat} {l1 : Int32} {l2 : Nat} {M : mM} (h : P_X9_find G F l0 l1 l2 M = some (r0, M0)) : mMetI l D G A yX9_find cX9_find 4 (some .int) 5 109 0 0 [.ref l0, .int l1, .ref l2] M sz r0 M0 sz := mMetI_of l D G A (by decide) (Nat.le_of_ble_eq_true rfl) (fun x X hQ => wP_X9_find X hQ h)
/-! SealedTokens$Text.says(ILjava/lang/String;)Z -/
theorem dX9_says_0 : decode cX9_says 0 = .ok (.aload_n 0, 1) := by decide +kernel
theorem dX9_says_1 : decode cX9_says 1 = .ok (.iload_n 1, 1) := by decide +kernel
theorem dX9_says_2 : decode cX9_says 2 = .ok (.iconst 4, 1) := by decide +kernel
theorem dX9_says_3 : decode cX9_says 3 = .ok (.invokevirtual 66, 3) := by decide +kernel
theorem dX9_says_6 : decode cX9_says 6 = .ok (.ifCond .eq 27, 3) := by decide +kernel
theorem dX9_says_9 : decode cX9_says 9 = .ok (.aload_n 0, 1) := by decide +kernel
theorem dX9_says_10 : decode cX9_says 10 = .ok (.aload_n 0, 1) := by decide +kernel
theorem dX9_says_11 : decode cX9_says 11 = .ok (.getfield 27, 3) := by decide +kernel
theorem dX9_says_14 : decode cX9_says 14 = .ok (.iload_n 1, 1) := by decide +kernel
theorem dX9_says_15 : decode cX9_says 15 = .ok (.iaload, 1) := by decide +kernel
theorem dX9_says_16 : decode cX9_says 16 = .ok (.aload_n 0, 1) := by decide +kernel
theorem dX9_says_17 : decode cX9_says 17 = .ok (.getfield 30, 3) := by decide +kernel
theorem dX9_says_20 : decode cX9_says 20 = .ok (.iload_n 1, 1) := by decide +kernel
theorem dX9_says_21 : decode cX9_says 21 = .ok (.iaload, 1) := by decide +kernel
theorem dX9_says_22 : decode cX9_says 22 = .ok (.aload_n 2, 1) := by decide +kernel
theorem dX9_says_23 : decode cX9_says 23 = .ok (.invokevirtual 88, 3) := by decide +kernel
theorem dX9_says_26 : decode cX9_says 26 = .ok (.ifCond .eq 7, 3) := by decide +kernel
theorem dX9_says_29 : decode cX9_says 29 = .ok (.iconst 1, 1) := by decide +kernel
theorem dX9_says_30 : decode cX9_says 30 = .ok (.goto 4, 3) := by decide +kernel
theorem dX9_says_33 : decode cX9_says 33 = .ok (.iconst 0, 1) := by decide +kernel
theorem dX9_says_34 : decode cX9_says 34 = .ok (.ireturn, 1) := by decide +kernel
abbrev rmX9_says : Room := { frames := 5, cells := 0, slots := 0, locals := 109 }
set_option maxHeartbeats 4000000 in
set_option maxRecDepth 100000 in
theorem wP_X9_says {G : mG} {F : Nat} {x : mXT} {sz : Nat} {r0 : Int32} {M0 : mM} (X : mCX G RX9 cX9_says 3 (some .boolean) "says" rmX9_says x) (hQ : mQI x r0 M0 (sz, 0, 0)) {l0 : Nat} {l1 : Int32} {l2 : Nat} {M : mM} (h : P_X9_says G F l0 l1 l2 M = some (r0, M0)) : WW x (sz, 0, 0) M 0 [(0, .ref l0), (1, .int l1), (2, .ref l2)] [] := by
  unfold P_X9_says at h
  refine ww_aload_n 0 X dX9_says_0 0 rfl rfl ?_
  refine ww_iload_n 1 X dX9_says_1 1 rfl rfl ?_
  refine ww_iconst 2 X (v := (4 : Int32)) dX9_says_2 (by decide) ?_
  obtain ⟨_, f3, h⟩ := bO_some h
  obtain ⟨v3, M3, e3, h⟩ := bP_some h
  refine ww_callVI0 3 X dX9_says_3 mY_X9_isKind mL_X9_66 (rcv_spec f3) ⟨_, _, rfl⟩ (by decide) (As := [.int l1, .int (4 : Int32)]) (rest := []) rfl rfl ⟨Nat.le_of_ble_eq_true rfl, Nat.le_of_ble_eq_true rfl⟩ (Nat.le_of_ble_eq_true rfl) (fun l D A => c_X9_isKind l D A e3) ?_
  refine ww_if_eq 6 33 X dX9_says_6 (by decide) (fun q => ?_) (fun q => ?_)
  · replace h := (if_pos q).symm.trans h
    refine ww_iconst 33 X (v := (0 : Int32)) dX9_says_33 (by decide) ?_
    exact ww_zretE 34 X hQ dX9_says_34 h
  · replace h := (if_neg q).symm.trans h
    refine ww_aload_n 9 X dX9_says_9 0 rfl rfl ?_
    refine ww_aload_n 10 X dX9_says_10 0 rfl rfl ?_
    obtain ⟨v11, e11, h⟩ := bO_some h
    refine ww_getR 11 X dX9_says_11 fG_X9_27 e11 ?_
    refine ww_iload_n 14 X dX9_says_14 1 rfl rfl ?_
    obtain ⟨v15, e15, h⟩ := bO_some h
    refine ww_iald 15 X dX9_says_15 e15 ?_
    refine ww_aload_n 16 X dX9_says_16 0 rfl rfl ?_
    obtain ⟨v17, e17, h⟩ := bO_some h
    refine ww_getR 17 X dX9_says_17 fG_X9_30 e17 ?_
    refine ww_iload_n 20 X dX9_says_20 1 rfl rfl ?_
    obtain ⟨v21, e21, h⟩ := bO_some h
    refine ww_iald 21 X dX9_says_21 e21 ?_
    refine ww_aload_n 22 X dX9_says_22 2 rfl rfl ?_
    obtain ⟨_, f23, h⟩ := bO_some h
    obtain ⟨v23, M23, e23, h⟩ := bP_some h
    refine ww_callVI0 23 X dX9_says_23 mY_X9_poolSpells mL_X9_88 (rcv_spec f23) ⟨_, _, rfl⟩ (by decide) (As := [.int v15, .int v21, .ref l2]) (rest := []) rfl rfl ⟨Nat.le_of_ble_eq_true rfl, Nat.le_of_ble_eq_true rfl⟩ (Nat.le_of_ble_eq_true rfl) (fun l D A => c_X9_poolSpells l D A e23) ?_
    refine ww_if_eq 26 33 X dX9_says_26 (by decide) (fun q => ?_) (fun q => ?_)
    · replace h := (if_pos q).symm.trans h
      refine ww_iconst 33 X (v := (0 : Int32)) dX9_says_33 (by decide) ?_
      exact ww_zretE 34 X hQ dX9_says_34 h
    · replace h := (if_neg q).symm.trans h
      refine ww_iconst 29 X (v := (1 : Int32)) dX9_says_29 (by decide) ?_
      refine ww_goto 30 34 X dX9_says_30 (by decide) ?_
      exact ww_zretE 34 X hQ dX9_says_34 h
theorem c_X9_says {G : mG} {F sz : Nat} {r0 : Int32} {M0 : mM} (l : Launch) (D : mD) (A : Nat → Prop) {l0 : Nat} {l1 : Int32} {l2 : Nat} {M : mM} (h : P_X9_says G F l0 l1 l2 M = some (r0, M0)) : mMetI l D G A yX9_says cX9_says 3 (some .boolean) 5 109 0 0 [.ref l0, .int l1, .ref l2] M sz r0 M0 sz := mMetI_of l D G A (by decide) (Nat.le_of_ble_eq_true rfl) (fun x X hQ => wP_X9_says X hQ h)
/-! SealedTokens$Text.isStringOrNone(I)Z -/
theorem dX9_isStringOrNone_0 : decode cX9_isStringOrNone 0 = .ok (.iload_n 1, 1) := by decide +kernel
theorem dX9_isStringOrNone_1 : decode cX9_isStringOrNone 1 = .ok (.iconst (-1), 1) := by decide +kernel
theorem dX9_isStringOrNone_2 : decode cX9_isStringOrNone 2 = .ok (.if_icmp .eq 12, 3) := by decide +kernel
theorem dX9_isStringOrNone_5 : decode cX9_isStringOrNone 5 = .ok (.aload_n 0, 1) := by decide +kernel
theorem dX9_isStringOrNone_6 : decode cX9_isStringOrNone 6 = .ok (.iload_n 1, 1) := by decide +kernel
theorem dX9_isStringOrNone_7 : decode cX9_isStringOrNone 7 = .ok (.iconst 4, 1) := by decide +kernel
theorem dX9_isStringOrNone_8 : decode cX9_isStringOrNone 8 = .ok (.invokevirtual 66, 3) := by decide +kernel
theorem dX9_isStringOrNone_11 : decode cX9_isStringOrNone 11 = .ok (.ifCond .eq 7, 3) := by decide +kernel
theorem dX9_isStringOrNone_14 : decode cX9_isStringOrNone 14 = .ok (.iconst 1, 1) := by decide +kernel
theorem dX9_isStringOrNone_15 : decode cX9_isStringOrNone 15 = .ok (.goto 4, 3) := by decide +kernel
theorem dX9_isStringOrNone_18 : decode cX9_isStringOrNone 18 = .ok (.iconst 0, 1) := by decide +kernel
theorem dX9_isStringOrNone_19 : decode cX9_isStringOrNone 19 = .ok (.ireturn, 1) := by decide +kernel
abbrev rmX9_isStringOrNone : Room := { frames := 2, cells := 0, slots := 0, locals := 43 }
set_option maxHeartbeats 4000000 in
set_option maxRecDepth 100000 in
theorem wP_X9_isStringOrNone {G : mG} {F : Nat} {x : mXT} {sz : Nat} {r0 : Int32} {M0 : mM} (X : mCX G RX9 cX9_isStringOrNone 2 (some .boolean) "isStringOrNone" rmX9_isStringOrNone x) (hQ : mQI x r0 M0 (sz, 0, 0)) {l0 : Nat} {l1 : Int32} {M : mM} (h : P_X9_isStringOrNone G F l0 l1 M = some (r0, M0)) : WW x (sz, 0, 0) M 0 [(0, .ref l0), (1, .int l1)] [] := by
  unfold P_X9_isStringOrNone at h
  refine ww_iload_n 0 X dX9_isStringOrNone_0 1 rfl rfl ?_
  refine ww_iconst 1 X (v := (-1 : Int32)) dX9_isStringOrNone_1 (by decide) ?_
  refine ww_icmp_eq 2 14 X dX9_isStringOrNone_2 (by decide) (fun q => ?_) (fun q => ?_)
  · replace h := (if_pos q).symm.trans h
    refine ww_iconst 14 X (v := (1 : Int32)) dX9_isStringOrNone_14 (by decide) ?_
    refine ww_goto 15 19 X dX9_isStringOrNone_15 (by decide) ?_
    exact ww_zretE 19 X hQ dX9_isStringOrNone_19 h
  · replace h := (if_neg q).symm.trans h
    refine ww_aload_n 5 X dX9_isStringOrNone_5 0 rfl rfl ?_
    refine ww_iload_n 6 X dX9_isStringOrNone_6 1 rfl rfl ?_
    refine ww_iconst 7 X (v := (4 : Int32)) dX9_isStringOrNone_7 (by decide) ?_
    obtain ⟨_, f8, h⟩ := bO_some h
    obtain ⟨v8, M8, e8, h⟩ := bP_some h
    refine ww_callVI0 8 X dX9_isStringOrNone_8 mY_X9_isKind mL_X9_66 (rcv_spec f8) ⟨_, _, rfl⟩ (by decide) (As := [.int l1, .int (4 : Int32)]) (rest := []) rfl rfl ⟨Nat.le_of_ble_eq_true rfl, Nat.le_of_ble_eq_true rfl⟩ (Nat.le_of_ble_eq_true rfl) (fun l D A => c_X9_isKind l D A e8) ?_
    refine ww_if_eq 11 18 X dX9_isStringOrNone_11 (by decide) (fun q => ?_) (fun q => ?_)
    · replace h := (if_pos q).symm.trans h
      refine ww_iconst 18 X (v := (0 : Int32)) dX9_isStringOrNone_18 (by decide) ?_
      exact ww_zretE 19 X hQ dX9_isStringOrNone_19 h
    · replace h := (if_neg q).symm.trans h
      refine ww_iconst 14 X (v := (1 : Int32)) dX9_isStringOrNone_14 (by decide) ?_
      refine ww_goto 15 19 X dX9_isStringOrNone_15 (by decide) ?_
      exact ww_zretE 19 X hQ dX9_isStringOrNone_19 h
theorem c_X9_isStringOrNone {G : mG} {F sz : Nat} {r0 : Int32} {M0 : mM} (l : Launch) (D : mD) (A : Nat → Prop) {l0 : Nat} {l1 : Int32} {M : mM} (h : P_X9_isStringOrNone G F l0 l1 M = some (r0, M0)) : mMetI l D G A yX9_isStringOrNone cX9_isStringOrNone 2 (some .boolean) 2 43 0 0 [.ref l0, .int l1] M sz r0 M0 sz := mMetI_of l D G A (by decide) (Nat.le_of_ble_eq_true rfl) (fun x X hQ => wP_X9_isStringOrNone X hQ h)
/-! SealedTokens$Text.areLetters(I)Z -/
theorem dX9_areLetters_0 : decode cX9_areLetters 0 = .ok (.aload_n 0, 1) := by decide +kernel
theorem dX9_areLetters_1 : decode cX9_areLetters 1 = .ok (.iload_n 1, 1) := by decide +kernel
theorem dX9_areLetters_2 : decode cX9_areLetters 2 = .ok (.iconst 4, 1) := by decide +kernel
theorem dX9_areLetters_3 : decode cX9_areLetters 3 = .ok (.invokevirtual 66, 3) := by decide +kernel
theorem dX9_areLetters_6 : decode cX9_areLetters 6 = .ok (.ifCond .eq 37, 3) := by decide +kernel
theorem dX9_areLetters_9 : decode cX9_areLetters 9 = .ok (.aload_n 0, 1) := by decide +kernel
theorem dX9_areLetters_10 : decode cX9_areLetters 10 = .ok (.getfield 44, 3) := by decide +kernel
theorem dX9_areLetters_13 : decode cX9_areLetters 13 = .ok (.aload_n 0, 1) := by decide +kernel
theorem dX9_areLetters_14 : decode cX9_areLetters 14 = .ok (.getfield 27, 3) := by decide +kernel
theorem dX9_areLetters_17 : decode cX9_areLetters 17 = .ok (.iload_n 1, 1) := by decide +kernel
theorem dX9_areLetters_18 : decode cX9_areLetters 18 = .ok (.iaload, 1) := by decide +kernel
theorem dX9_areLetters_19 : decode cX9_areLetters 19 = .ok (.aload_n 0, 1) := by decide +kernel
theorem dX9_areLetters_20 : decode cX9_areLetters 20 = .ok (.getfield 27, 3) := by decide +kernel
theorem dX9_areLetters_23 : decode cX9_areLetters 23 = .ok (.iload_n 1, 1) := by decide +kernel
theorem dX9_areLetters_24 : decode cX9_areLetters 24 = .ok (.iaload, 1) := by decide +kernel
theorem dX9_areLetters_25 : decode cX9_areLetters 25 = .ok (.aload_n 0, 1) := by decide +kernel
theorem dX9_areLetters_26 : decode cX9_areLetters 26 = .ok (.getfield 30, 3) := by decide +kernel
theorem dX9_areLetters_29 : decode cX9_areLetters 29 = .ok (.iload_n 1, 1) := by decide +kernel
theorem dX9_areLetters_30 : decode cX9_areLetters 30 = .ok (.iaload, 1) := by decide +kernel
theorem dX9_areLetters_31 : decode cX9_areLetters 31 = .ok (.iadd, 1) := by decide +kernel
theorem dX9_areLetters_32 : decode cX9_areLetters 32 = .ok (.invokestatic 92, 3) := by decide +kernel
theorem dX9_areLetters_35 : decode cX9_areLetters 35 = .ok (.iconst (-1), 1) := by decide +kernel
theorem dX9_areLetters_36 : decode cX9_areLetters 36 = .ok (.if_icmp .ne 7, 3) := by decide +kernel
theorem dX9_areLetters_39 : decode cX9_areLetters 39 = .ok (.iconst 1, 1) := by decide +kernel
theorem dX9_areLetters_40 : decode cX9_areLetters 40 = .ok (.goto 4, 3) := by decide +kernel
theorem dX9_areLetters_43 : decode cX9_areLetters 43 = .ok (.iconst 0, 1) := by decide +kernel
theorem dX9_areLetters_44 : decode cX9_areLetters 44 = .ok (.ireturn, 1) := by decide +kernel
abbrev rmX9_areLetters : Room := { frames := 2, cells := 0, slots := 0, locals := 47 }
set_option maxHeartbeats 4000000 in
set_option maxRecDepth 100000 in
theorem wP_X9_areLetters {G : mG} {F : Nat} {x : mXT} {sz : Nat} {r0 : Int32} {M0 : mM} (X : mCX G RX9 cX9_areLetters 2 (some .boolean) "areLetters" rmX9_areLetters x) (hQ : mQI x r0 M0 (sz, 0, 0)) {l0 : Nat} {l1 : Int32} {M : mM} (h : P_X9_areLetters G F l0 l1 M = some (r0, M0)) : WW x (sz, 0, 0) M 0 [(0, .ref l0), (1, .int l1)] [] := by
  unfold P_X9_areLetters at h
  refine ww_aload_n 0 X dX9_areLetters_0 0 rfl rfl ?_
  refine ww_iload_n 1 X dX9_areLetters_1 1 rfl rfl ?_
  refine ww_iconst 2 X (v := (4 : Int32)) dX9_areLetters_2 (by decide) ?_
  obtain ⟨_, f3, h⟩ := bO_some h
  obtain ⟨v3, M3, e3, h⟩ := bP_some h
  refine ww_callVI0 3 X dX9_areLetters_3 mY_X9_isKind mL_X9_66 (rcv_spec f3) ⟨_, _, rfl⟩ (by decide) (As := [.int l1, .int (4 : Int32)]) (rest := []) rfl rfl ⟨Nat.le_of_ble_eq_true rfl, Nat.le_of_ble_eq_true rfl⟩ (Nat.le_of_ble_eq_true rfl) (fun l D A => c_X9_isKind l D A e3) ?_
  refine ww_if_eq 6 43 X dX9_areLetters_6 (by decide) (fun q => ?_) (fun q => ?_)
  · replace h := (if_pos q).symm.trans h
    refine ww_iconst 43 X (v := (0 : Int32)) dX9_areLetters_43 (by decide) ?_
    exact ww_zretE 44 X hQ dX9_areLetters_44 h
  · replace h := (if_neg q).symm.trans h
    refine ww_aload_n 9 X dX9_areLetters_9 0 rfl rfl ?_
    obtain ⟨v10, e10, h⟩ := bO_some h
    refine ww_getR 10 X dX9_areLetters_10 fG_X9_44 e10 ?_
    refine ww_aload_n 13 X dX9_areLetters_13 0 rfl rfl ?_
    obtain ⟨v14, e14, h⟩ := bO_some h
    refine ww_getR 14 X dX9_areLetters_14 fG_X9_27 e14 ?_
    refine ww_iload_n 17 X dX9_areLetters_17 1 rfl rfl ?_
    obtain ⟨v18, e18, h⟩ := bO_some h
    refine ww_iald 18 X dX9_areLetters_18 e18 ?_
    refine ww_aload_n 19 X dX9_areLetters_19 0 rfl rfl ?_
    obtain ⟨v20, e20, h⟩ := bO_some h
    refine ww_getR 20 X dX9_areLetters_20 fG_X9_27 e20 ?_
    refine ww_iload_n 23 X dX9_areLetters_23 1 rfl rfl ?_
    obtain ⟨v24, e24, h⟩ := bO_some h
    refine ww_iald 24 X dX9_areLetters_24 e24 ?_
    refine ww_aload_n 25 X dX9_areLetters_25 0 rfl rfl ?_
    obtain ⟨v26, e26, h⟩ := bO_some h
    refine ww_getR 26 X dX9_areLetters_26 fG_X9_30 e26 ?_
    refine ww_iload_n 29 X dX9_areLetters_29 1 rfl rfl ?_
    obtain ⟨v30, e30, h⟩ := bO_some h
    refine ww_iald 30 X dX9_areLetters_30 e30 ?_
    refine ww_iadd 31 X dX9_areLetters_31 ?_
    obtain ⟨v32, M32, e32, h⟩ := bP_some h
    refine ww_callSI0 32 X dX9_areLetters_32 mY_X0_letterFault mL_X9_92 (As := [.ref v10, .int v18, .int (v24 + v30)]) (rest := []) rfl rfl ⟨Nat.le_of_ble_eq_true rfl, Nat.le_of_ble_eq_true rfl⟩ (Nat.le_of_ble_eq_true rfl) (fun l D A => c_X0_letterFault l D A e32) ?_
    refine ww_iconst 35 X (v := (-1 : Int32)) dX9_areLetters_35 (by decide) ?_
    refine ww_icmp_ne 36 43 X dX9_areLetters_36 (by decide) (fun q => ?_) (fun q => ?_)
    · replace h := (if_neg q).symm.trans h
      refine ww_iconst 43 X (v := (0 : Int32)) dX9_areLetters_43 (by decide) ?_
      exact ww_zretE 44 X hQ dX9_areLetters_44 h
    · replace h := (if_pos q).symm.trans h
      refine ww_iconst 39 X (v := (1 : Int32)) dX9_areLetters_39 (by decide) ?_
      refine ww_goto 40 44 X dX9_areLetters_40 (by decide) ?_
      exact ww_zretE 44 X hQ dX9_areLetters_44 h
theorem c_X9_areLetters {G : mG} {F sz : Nat} {r0 : Int32} {M0 : mM} (l : Launch) (D : mD) (A : Nat → Prop) {l0 : Nat} {l1 : Int32} {M : mM} (h : P_X9_areLetters G F l0 l1 M = some (r0, M0)) : mMetI l D G A yX9_areLetters cX9_areLetters 2 (some .boolean) 2 47 0 0 [.ref l0, .int l1] M sz r0 M0 sz := mMetI_of l D G A (by decide) (Nat.le_of_ble_eq_true rfl) (fun x X hQ => wP_X9_areLetters X hQ h)
/-! SealedTokens$Key.isPointThere(LSealedTokens$Text;I)Z -/
theorem dX5_isPointThere_0 : decode cX5_isPointThere 0 = .ok (.aload_n 0, 1) := by decide +kernel
theorem dX5_isPointThere_1 : decode cX5_isPointThere 1 = .ok (.aload_n 0, 1) := by decide +kernel
theorem dX5_isPointThere_2 : decode cX5_isPointThere 2 = .ok (.iload_n 1, 1) := by decide +kernel
theorem dX5_isPointThere_3 : decode cX5_isPointThere 3 = .ok (.ldc 112, 2) := by decide +kernel
theorem dX5_isPointThere_5 : decode cX5_isPointThere 5 = .ok (.invokevirtual 43, 3) := by decide +kernel
theorem dX5_isPointThere_8 : decode cX5_isPointThere 8 = .ok (.ldc 114, 2) := by decide +kernel
theorem dX5_isPointThere_10 : decode cX5_isPointThere 10 = .ok (.invokevirtual 49, 3) := by decide +kernel
theorem dX5_isPointThere_13 : decode cX5_isPointThere 13 = .ok (.ifCond .eq 35, 3) := by decide +kernel
theorem dX5_isPointThere_16 : decode cX5_isPointThere 16 = .ok (.aload_n 0, 1) := by decide +kernel
theorem dX5_isPointThere_17 : decode cX5_isPointThere 17 = .ok (.aload_n 0, 1) := by decide +kernel
theorem dX5_isPointThere_18 : decode cX5_isPointThere 18 = .ok (.iload_n 1, 1) := by decide +kernel
theorem dX5_isPointThere_19 : decode cX5_isPointThere 19 = .ok (.ldc 116, 2) := by decide +kernel
theorem dX5_isPointThere_21 : decode cX5_isPointThere 21 = .ok (.invokevirtual 43, 3) := by decide +kernel
theorem dX5_isPointThere_24 : decode cX5_isPointThere 24 = .ok (.invokevirtual 101, 3) := by decide +kernel
theorem dX5_isPointThere_27 : decode cX5_isPointThere 27 = .ok (.ifCond .eq 21, 3) := by decide +kernel
theorem dX5_isPointThere_30 : decode cX5_isPointThere 30 = .ok (.aload_n 0, 1) := by decide +kernel
theorem dX5_isPointThere_31 : decode cX5_isPointThere 31 = .ok (.aload_n 0, 1) := by decide +kernel
theorem dX5_isPointThere_32 : decode cX5_isPointThere 32 = .ok (.iload_n 1, 1) := by decide +kernel
theorem dX5_isPointThere_33 : decode cX5_isPointThere 33 = .ok (.ldc 118, 2) := by decide +kernel
theorem dX5_isPointThere_35 : decode cX5_isPointThere 35 = .ok (.invokevirtual 43, 3) := by decide +kernel
theorem dX5_isPointThere_38 : decode cX5_isPointThere 38 = .ok (.invokevirtual 101, 3) := by decide +kernel
theorem dX5_isPointThere_41 : decode cX5_isPointThere 41 = .ok (.ifCond .eq 7, 3) := by decide +kernel
theorem dX5_isPointThere_44 : decode cX5_isPointThere 44 = .ok (.iconst 1, 1) := by decide +kernel
theorem dX5_isPointThere_45 : decode cX5_isPointThere 45 = .ok (.goto 4, 3) := by decide +kernel
theorem dX5_isPointThere_48 : decode cX5_isPointThere 48 = .ok (.iconst 0, 1) := by decide +kernel
theorem dX5_isPointThere_49 : decode cX5_isPointThere 49 = .ok (.ireturn, 1) := by decide +kernel
abbrev rmX5_isPointThere : Room := { frames := 6, cells := 0, slots := 0, locals := 132 }
set_option maxHeartbeats 4000000 in
set_option maxRecDepth 100000 in
theorem wP_X5_isPointThere {G : mG} {F : Nat} {x : mXT} {sz : Nat} {r0 : Int32} {M0 : mM} (X : mCX G RX5 cX5_isPointThere 2 (some .boolean) "isPointThere" rmX5_isPointThere x) (hQ : mQI x r0 M0 (sz, 0, 0)) {l0 : Nat} {l1 : Int32} {M : mM} (h : P_X5_isPointThere G F l0 l1 M = some (r0, M0)) : WW x (sz, 0, 0) M 0 [(0, .ref l0), (1, .int l1)] [] := by
  unfold P_X5_isPointThere at h
  refine ww_aload_n 0 X dX5_isPointThere_0 0 rfl rfl ?_
  refine ww_aload_n 1 X dX5_isPointThere_1 0 rfl rfl ?_
  refine ww_iload_n 2 X dX5_isPointThere_2 1 rfl rfl ?_
  refine ww_lds 3 X (j := 27) dX5_isPointThere_3 rfl ?_
  obtain ⟨_, f5, h⟩ := bO_some h
  obtain ⟨v5, M5, e5, h⟩ := bP_some h
  refine ww_callVI0 5 X dX5_isPointThere_5 mY_X9_find mL_X5_43 (rcv_spec f5) ⟨_, _, rfl⟩ (by decide) (As := [.int l1, .ref (G.1 27)]) (rest := [.ref l0]) rfl rfl ⟨Nat.le_of_ble_eq_true rfl, Nat.le_of_ble_eq_true rfl⟩ (Nat.le_of_ble_eq_true rfl) (fun l D A => c_X9_find l D A e5) ?_
  refine ww_lds 8 X (j := 28) dX5_isPointThere_8 rfl ?_
  obtain ⟨_, f10, h⟩ := bO_some h
  obtain ⟨v10, M10, e10, h⟩ := bP_some h
  refine ww_callVI0 10 X dX5_isPointThere_10 mY_X9_says mL_X5_49 (rcv_spec f10) ⟨_, _, rfl⟩ (by decide) (As := [.int v5, .ref (G.1 28)]) (rest := []) rfl rfl ⟨Nat.le_of_ble_eq_true rfl, Nat.le_of_ble_eq_true rfl⟩ (Nat.le_of_ble_eq_true rfl) (fun l D A => c_X9_says l D A e10) ?_
  refine ww_if_eq 13 48 X dX5_isPointThere_13 (by decide) (fun q => ?_) (fun q => ?_)
  · replace h := (if_pos q).symm.trans h
    refine ww_iconst 48 X (v := (0 : Int32)) dX5_isPointThere_48 (by decide) ?_
    exact ww_zretE 49 X hQ dX5_isPointThere_49 h
  · replace h := (if_neg q).symm.trans h
    refine ww_aload_n 16 X dX5_isPointThere_16 0 rfl rfl ?_
    refine ww_aload_n 17 X dX5_isPointThere_17 0 rfl rfl ?_
    refine ww_iload_n 18 X dX5_isPointThere_18 1 rfl rfl ?_
    refine ww_lds 19 X (j := 29) dX5_isPointThere_19 rfl ?_
    obtain ⟨_, f21, h⟩ := bO_some h
    obtain ⟨v21, M21, e21, h⟩ := bP_some h
    refine ww_callVI0 21 X dX5_isPointThere_21 mY_X9_find mL_X5_43 (rcv_spec f21) ⟨_, _, rfl⟩ (by decide) (As := [.int l1, .ref (G.1 29)]) (rest := [.ref l0]) rfl rfl ⟨Nat.le_of_ble_eq_true rfl, Nat.le_of_ble_eq_true rfl⟩ (Nat.le_of_ble_eq_true rfl) (fun l D A => c_X9_find l D A e21) ?_
    obtain ⟨_, f24, h⟩ := bO_some h
    obtain ⟨v24, M24, e24, h⟩ := bP_some h
    refine ww_callVI0 24 X dX5_isPointThere_24 mY_X9_areLetters mL_X5_101 (rcv_spec f24) ⟨_, _, rfl⟩ (by decide) (As := [.int v21]) (rest := []) rfl rfl ⟨Nat.le_of_ble_eq_true rfl, Nat.le_of_ble_eq_true rfl⟩ (Nat.le_of_ble_eq_true rfl) (fun l D A => c_X9_areLetters l D A e24) ?_
    refine ww_if_eq 27 48 X dX5_isPointThere_27 (by decide) (fun q => ?_) (fun q => ?_)
    · replace h := (if_pos q).symm.trans h
      refine ww_iconst 48 X (v := (0 : Int32)) dX5_isPointThere_48 (by decide) ?_
      exact ww_zretE 49 X hQ dX5_isPointThere_49 h
    · replace h := (if_neg q).symm.trans h
      refine ww_aload_n 30 X dX5_isPointThere_30 0 rfl rfl ?_
      refine ww_aload_n 31 X dX5_isPointThere_31 0 rfl rfl ?_
      refine ww_iload_n 32 X dX5_isPointThere_32 1 rfl rfl ?_
      refine ww_lds 33 X (j := 30) dX5_isPointThere_33 rfl ?_
      obtain ⟨_, f35, h⟩ := bO_some h
      obtain ⟨v35, M35, e35, h⟩ := bP_some h
      refine ww_callVI0 35 X dX5_isPointThere_35 mY_X9_find mL_X5_43 (rcv_spec f35) ⟨_, _, rfl⟩ (by decide) (As := [.int l1, .ref (G.1 30)]) (rest := [.ref l0]) rfl rfl ⟨Nat.le_of_ble_eq_true rfl, Nat.le_of_ble_eq_true rfl⟩ (Nat.le_of_ble_eq_true rfl) (fun l D A => c_X9_find l D A e35) ?_
      obtain ⟨_, f38, h⟩ := bO_some h
      obtain ⟨v38, M38, e38, h⟩ := bP_some h
      refine ww_callVI0 38 X dX5_isPointThere_38 mY_X9_areLetters mL_X5_101 (rcv_spec f38) ⟨_, _, rfl⟩ (by decide) (As := [.int v35]) (rest := []) rfl rfl ⟨Nat.le_of_ble_eq_true rfl, Nat.le_of_ble_eq_true rfl⟩ (Nat.le_of_ble_eq_true rfl) (fun l D A => c_X9_areLetters l D A e38) ?_
      refine ww_if_eq 41 48 X dX5_isPointThere_41 (by decide) (fun q => ?_) (fun q => ?_)
      · replace h := (if_pos q).symm.trans h
        refine ww_iconst 48 X (v := (0 : Int32)) dX5_isPointThere_48 (by decide) ?_
        exact ww_zretE 49 X hQ dX5_isPointThere_49 h
      · replace h := (if_neg q).symm.trans h
        refine ww_iconst 44 X (v := (1 : Int32)) dX5_isPointThere_44 (by decide) ?_
        refine ww_goto 45 49 X dX5_isPointThere_45 (by decide) ?_
        exact ww_zretE 49 X hQ dX5_isPointThere_49 h
theorem c_X5_isPointThere {G : mG} {F sz : Nat} {r0 : Int32} {M0 : mM} (l : Launch) (D : mD) (A : Nat → Prop) {l0 : Nat} {l1 : Int32} {M : mM} (h : P_X5_isPointThere G F l0 l1 M = some (r0, M0)) : mMetI l D G A yX5_isPointThere cX5_isPointThere 2 (some .boolean) 6 132 0 0 [.ref l0, .int l1] M sz r0 M0 sz := mMetI_of l D G A (by decide) (Nat.le_of_ble_eq_true rfl) (fun x X hQ => wP_X5_isPointThere X hQ h)
/-! SealedTokens$Key.areLettersThere(LSealedTokens$Text;)Z -/
theorem dX5_areLettersThere_0 : decode cX5_areLettersThere 0 = .ok (.aload_n 0, 1) := by decide +kernel
theorem dX5_areLettersThere_1 : decode cX5_areLettersThere 1 = .ok (.getfield 57, 3) := by decide +kernel
theorem dX5_areLettersThere_4 : decode cX5_areLettersThere 4 = .ok (.ifCond .ne 15, 3) := by decide +kernel
theorem dX5_areLettersThere_7 : decode cX5_areLettersThere 7 = .ok (.aload_n 1, 1) := by decide +kernel
theorem dX5_areLettersThere_8 : decode cX5_areLettersThere 8 = .ok (.aload_n 1, 1) := by decide +kernel
theorem dX5_areLettersThere_9 : decode cX5_areLettersThere 9 = .ok (.iconst 0, 1) := by decide +kernel
theorem dX5_areLettersThere_10 : decode cX5_areLettersThere 10 = .ok (.ldc 81, 2) := by decide +kernel
theorem dX5_areLettersThere_12 : decode cX5_areLettersThere 12 = .ok (.invokevirtual 43, 3) := by decide +kernel
theorem dX5_areLettersThere_15 : decode cX5_areLettersThere 15 = .ok (.invokevirtual 101, 3) := by decide +kernel
theorem dX5_areLettersThere_18 : decode cX5_areLettersThere 18 = .ok (.ireturn, 1) := by decide +kernel
theorem dX5_areLettersThere_19 : decode cX5_areLettersThere 19 = .ok (.aload_n 0, 1) := by decide +kernel
theorem dX5_areLettersThere_20 : decode cX5_areLettersThere 20 = .ok (.getfield 57, 3) := by decide +kernel
theorem dX5_areLettersThere_23 : decode cX5_areLettersThere 23 = .ok (.iconst 1, 1) := by decide +kernel
theorem dX5_areLettersThere_24 : decode cX5_areLettersThere 24 = .ok (.if_icmp .ne 39, 3) := by decide +kernel
theorem dX5_areLettersThere_27 : decode cX5_areLettersThere 27 = .ok (.aload_n 1, 1) := by decide +kernel
theorem dX5_areLettersThere_28 : decode cX5_areLettersThere 28 = .ok (.aload_n 1, 1) := by decide +kernel
theorem dX5_areLettersThere_29 : decode cX5_areLettersThere 29 = .ok (.iconst 0, 1) := by decide +kernel
theorem dX5_areLettersThere_30 : decode cX5_areLettersThere 30 = .ok (.ldc 104, 2) := by decide +kernel
theorem dX5_areLettersThere_32 : decode cX5_areLettersThere 32 = .ok (.invokevirtual 43, 3) := by decide +kernel
theorem dX5_areLettersThere_35 : decode cX5_areLettersThere 35 = .ok (.invokevirtual 101, 3) := by decide +kernel
theorem dX5_areLettersThere_38 : decode cX5_areLettersThere 38 = .ok (.ifCond .eq 21, 3) := by decide +kernel
theorem dX5_areLettersThere_41 : decode cX5_areLettersThere 41 = .ok (.aload_n 1, 1) := by decide +kernel
theorem dX5_areLettersThere_42 : decode cX5_areLettersThere 42 = .ok (.aload_n 1, 1) := by decide +kernel
theorem dX5_areLettersThere_43 : decode cX5_areLettersThere 43 = .ok (.iconst 0, 1) := by decide +kernel
theorem dX5_areLettersThere_44 : decode cX5_areLettersThere 44 = .ok (.ldc 106, 2) := by decide +kernel
theorem dX5_areLettersThere_46 : decode cX5_areLettersThere 46 = .ok (.invokevirtual 43, 3) := by decide +kernel
theorem dX5_areLettersThere_49 : decode cX5_areLettersThere 49 = .ok (.invokevirtual 101, 3) := by decide +kernel
theorem dX5_areLettersThere_52 : decode cX5_areLettersThere 52 = .ok (.ifCond .eq 7, 3) := by decide +kernel
theorem dX5_areLettersThere_55 : decode cX5_areLettersThere 55 = .ok (.iconst 1, 1) := by decide +kernel
theorem dX5_areLettersThere_56 : decode cX5_areLettersThere 56 = .ok (.goto 12, 3) := by decide +kernel
theorem dX5_areLettersThere_59 : decode cX5_areLettersThere 59 = .ok (.iconst 0, 1) := by decide +kernel
theorem dX5_areLettersThere_60 : decode cX5_areLettersThere 60 = .ok (.goto 8, 3) := by decide +kernel
theorem dX5_areLettersThere_63 : decode cX5_areLettersThere 63 = .ok (.aload_n 1, 1) := by decide +kernel
theorem dX5_areLettersThere_64 : decode cX5_areLettersThere 64 = .ok (.iconst 0, 1) := by decide +kernel
theorem dX5_areLettersThere_65 : decode cX5_areLettersThere 65 = .ok (.invokestatic 108, 3) := by decide +kernel
theorem dX5_areLettersThere_68 : decode cX5_areLettersThere 68 = .ok (.istore_n 2, 1) := by decide +kernel
theorem dX5_areLettersThere_69 : decode cX5_areLettersThere 69 = .ok (.iload_n 2, 1) := by decide +kernel
theorem dX5_areLettersThere_70 : decode cX5_areLettersThere 70 = .ok (.ifCond .eq 28, 3) := by decide +kernel
theorem dX5_areLettersThere_73 : decode cX5_areLettersThere 73 = .ok (.aload_n 0, 1) := by decide +kernel
theorem dX5_areLettersThere_74 : decode cX5_areLettersThere 74 = .ok (.getfield 70, 3) := by decide +kernel
theorem dX5_areLettersThere_77 : decode cX5_areLettersThere 77 = .ok (.ifCond .eq 17, 3) := by decide +kernel
theorem dX5_areLettersThere_80 : decode cX5_areLettersThere 80 = .ok (.aload_n 1, 1) := by decide +kernel
theorem dX5_areLettersThere_81 : decode cX5_areLettersThere 81 = .ok (.aload_n 1, 1) := by decide +kernel
theorem dX5_areLettersThere_82 : decode cX5_areLettersThere 82 = .ok (.iconst 0, 1) := by decide +kernel
theorem dX5_areLettersThere_83 : decode cX5_areLettersThere 83 = .ok (.ldc 68, 2) := by decide +kernel
theorem dX5_areLettersThere_85 : decode cX5_areLettersThere 85 = .ok (.invokevirtual 43, 3) := by decide +kernel
theorem dX5_areLettersThere_88 : decode cX5_areLettersThere 88 = .ok (.invokevirtual 101, 3) := by decide +kernel
theorem dX5_areLettersThere_91 : decode cX5_areLettersThere 91 = .ok (.ifCond .eq 7, 3) := by decide +kernel
theorem dX5_areLettersThere_94 : decode cX5_areLettersThere 94 = .ok (.iconst 1, 1) := by decide +kernel
theorem dX5_areLettersThere_95 : decode cX5_areLettersThere 95 = .ok (.goto 4, 3) := by decide +kernel
theorem dX5_areLettersThere_98 : decode cX5_areLettersThere 98 = .ok (.iconst 0, 1) := by decide +kernel
theorem dX5_areLettersThere_99 : decode cX5_areLettersThere 99 = .ok (.ireturn, 1) := by decide +kernel
abbrev rmX5_areLettersThere : Room := { frames := 7, cells := 0, slots := 0, locals := 153 }
set_option maxHeartbeats 4000000 in
set_option maxRecDepth 100000 in
theorem wB_X5_areLettersThere_68 {G : mG} {F : Nat} {x : mXT} {sz : Nat} {r0 : Int32} {M0 : mM} (X : mCX G RX5 cX5_areLettersThere 3 (some .boolean) "areLettersThere" rmX5_areLettersThere x) (hQ : mQI x r0 M0 (sz, 0, 0)) {l0 : Nat} {l1 : Nat} {sk0 : Int32} {M : mM} (h : B_X5_areLettersThere_68 G F l0 l1 sk0 M = some (r0, M0)) : WW x (sz, 0, 0) M 68 [(0, .ref l0), (1, .ref l1)] [.int sk0] := by
  unfold B_X5_areLettersThere_68 at h
  refine ww_istore_n 68 X dX5_areLettersThere_68 (lv' := [(0, .ref l0), (1, .ref l1), (2, .int sk0)]) rfl (by decide) [1, 2, 0] rfl ?_
  refine ww_iload_n 69 X dX5_areLettersThere_69 2 rfl rfl ?_
  refine ww_if_eq 70 98 X dX5_areLettersThere_70 (by decide) (fun q => ?_) (fun q => ?_)
  · replace h := (if_pos q).symm.trans h
    refine ww_iconst 98 X (v := (0 : Int32)) dX5_areLettersThere_98 (by decide) ?_
    exact ww_zretE 99 X hQ dX5_areLettersThere_99 h
  · replace h := (if_neg q).symm.trans h
    refine ww_aload_n 73 X dX5_areLettersThere_73 0 rfl rfl ?_
    obtain ⟨v74, e74, h⟩ := bO_some h
    refine ww_getI 74 X dX5_areLettersThere_74 fG_X5_70 e74 ?_
    refine ww_if_eq 77 94 X dX5_areLettersThere_77 (by decide) (fun q => ?_) (fun q => ?_)
    · replace h := (if_pos q).symm.trans h
      refine ww_iconst 94 X (v := (1 : Int32)) dX5_areLettersThere_94 (by decide) ?_
      refine ww_goto 95 99 X dX5_areLettersThere_95 (by decide) ?_
      exact ww_zretE 99 X hQ dX5_areLettersThere_99 h
    · replace h := (if_neg q).symm.trans h
      refine ww_aload_n 80 X dX5_areLettersThere_80 1 rfl rfl ?_
      refine ww_aload_n 81 X dX5_areLettersThere_81 1 rfl rfl ?_
      refine ww_iconst 82 X (v := (0 : Int32)) dX5_areLettersThere_82 (by decide) ?_
      refine ww_lds 83 X (j := 23) dX5_areLettersThere_83 rfl ?_
      obtain ⟨_, f85, h⟩ := bO_some h
      obtain ⟨v85, M85, e85, h⟩ := bP_some h
      refine ww_callVI0 85 X dX5_areLettersThere_85 mY_X9_find mL_X5_43 (rcv_spec f85) ⟨_, _, rfl⟩ (by decide) (As := [.int (0 : Int32), .ref (G.1 23)]) (rest := [.ref l1]) rfl rfl ⟨Nat.le_of_ble_eq_true rfl, Nat.le_of_ble_eq_true rfl⟩ (Nat.le_of_ble_eq_true rfl) (fun l D A => c_X9_find l D A e85) ?_
      obtain ⟨_, f88, h⟩ := bO_some h
      obtain ⟨v88, M88, e88, h⟩ := bP_some h
      refine ww_callVI0 88 X dX5_areLettersThere_88 mY_X9_areLetters mL_X5_101 (rcv_spec f88) ⟨_, _, rfl⟩ (by decide) (As := [.int v85]) (rest := []) rfl rfl ⟨Nat.le_of_ble_eq_true rfl, Nat.le_of_ble_eq_true rfl⟩ (Nat.le_of_ble_eq_true rfl) (fun l D A => c_X9_areLetters l D A e88) ?_
      refine ww_if_eq 91 98 X dX5_areLettersThere_91 (by decide) (fun q => ?_) (fun q => ?_)
      · replace h := (if_pos q).symm.trans h
        refine ww_iconst 98 X (v := (0 : Int32)) dX5_areLettersThere_98 (by decide) ?_
        exact ww_zretE 99 X hQ dX5_areLettersThere_99 h
      · replace h := (if_neg q).symm.trans h
        refine ww_iconst 94 X (v := (1 : Int32)) dX5_areLettersThere_94 (by decide) ?_
        refine ww_goto 95 99 X dX5_areLettersThere_95 (by decide) ?_
        exact ww_zretE 99 X hQ dX5_areLettersThere_99 h
set_option maxHeartbeats 4000000 in
set_option maxRecDepth 100000 in
theorem wP_X5_areLettersThere {G : mG} {F : Nat} {x : mXT} {sz : Nat} {r0 : Int32} {M0 : mM} (X : mCX G RX5 cX5_areLettersThere 3 (some .boolean) "areLettersThere" rmX5_areLettersThere x) (hQ : mQI x r0 M0 (sz, 0, 0)) {l0 : Nat} {l1 : Nat} {M : mM} (h : P_X5_areLettersThere G F l0 l1 M = some (r0, M0)) : WW x (sz, 0, 0) M 0 [(0, .ref l0), (1, .ref l1)] [] := by
  unfold P_X5_areLettersThere at h
  refine ww_aload_n 0 X dX5_areLettersThere_0 0 rfl rfl ?_
  obtain ⟨v1, e1, h⟩ := bO_some h
  refine ww_getI 1 X dX5_areLettersThere_1 fG_X5_57 e1 ?_
  refine ww_if_ne 4 19 X dX5_areLettersThere_4 (by decide) (fun q => ?_) (fun q => ?_)
  · replace h := (if_neg q).symm.trans h
    refine ww_aload_n 19 X dX5_areLettersThere_19 0 rfl rfl ?_
    obtain ⟨v20, e20, h⟩ := bO_some h
    refine ww_getI 20 X dX5_areLettersThere_20 fG_X5_57 e20 ?_
    refine ww_iconst 23 X (v := (1 : Int32)) dX5_areLettersThere_23 (by decide) ?_
    refine ww_icmp_ne 24 63 X dX5_areLettersThere_24 (by decide) (fun q => ?_) (fun q => ?_)
    · replace h := (if_neg q).symm.trans h
      refine ww_aload_n 63 X dX5_areLettersThere_63 1 rfl rfl ?_
      refine ww_iconst 64 X (v := (0 : Int32)) dX5_areLettersThere_64 (by decide) ?_
      obtain ⟨v65, M65, e65, h⟩ := bP_some h
      refine ww_callSI0 65 X dX5_areLettersThere_65 mY_X5_isPointThere mL_X5_108 (As := [.ref l1, .int (0 : Int32)]) (rest := []) rfl rfl ⟨Nat.le_of_ble_eq_true rfl, Nat.le_of_ble_eq_true rfl⟩ (Nat.le_of_ble_eq_true rfl) (fun l D A => c_X5_isPointThere l D A e65) ?_
      exact (wB_X5_areLettersThere_68 X hQ h)
    · replace h := (if_pos q).symm.trans h
      refine ww_aload_n 27 X dX5_areLettersThere_27 1 rfl rfl ?_
      refine ww_aload_n 28 X dX5_areLettersThere_28 1 rfl rfl ?_
      refine ww_iconst 29 X (v := (0 : Int32)) dX5_areLettersThere_29 (by decide) ?_
      refine ww_lds 30 X (j := 25) dX5_areLettersThere_30 rfl ?_
      obtain ⟨_, f32, h⟩ := bO_some h
      obtain ⟨v32, M32, e32, h⟩ := bP_some h
      refine ww_callVI0 32 X dX5_areLettersThere_32 mY_X9_find mL_X5_43 (rcv_spec f32) ⟨_, _, rfl⟩ (by decide) (As := [.int (0 : Int32), .ref (G.1 25)]) (rest := [.ref l1]) rfl rfl ⟨Nat.le_of_ble_eq_true rfl, Nat.le_of_ble_eq_true rfl⟩ (Nat.le_of_ble_eq_true rfl) (fun l D A => c_X9_find l D A e32) ?_
      obtain ⟨_, f35, h⟩ := bO_some h
      obtain ⟨v35, M35, e35, h⟩ := bP_some h
      refine ww_callVI0 35 X dX5_areLettersThere_35 mY_X9_areLetters mL_X5_101 (rcv_spec f35) ⟨_, _, rfl⟩ (by decide) (As := [.int v32]) (rest := []) rfl rfl ⟨Nat.le_of_ble_eq_true rfl, Nat.le_of_ble_eq_true rfl⟩ (Nat.le_of_ble_eq_true rfl) (fun l D A => c_X9_areLetters l D A e35) ?_
      refine ww_if_eq 38 59 X dX5_areLettersThere_38 (by decide) (fun q => ?_) (fun q => ?_)
      · replace h := (if_pos q).symm.trans h
        refine ww_iconst 59 X (v := (0 : Int32)) dX5_areLettersThere_59 (by decide) ?_
        refine ww_goto 60 68 X dX5_areLettersThere_60 (by decide) ?_
        exact (wB_X5_areLettersThere_68 X hQ h)
      · replace h := (if_neg q).symm.trans h
        refine ww_aload_n 41 X dX5_areLettersThere_41 1 rfl rfl ?_
        refine ww_aload_n 42 X dX5_areLettersThere_42 1 rfl rfl ?_
        refine ww_iconst 43 X (v := (0 : Int32)) dX5_areLettersThere_43 (by decide) ?_
        refine ww_lds 44 X (j := 26) dX5_areLettersThere_44 rfl ?_
        obtain ⟨_, f46, h⟩ := bO_some h
        obtain ⟨v46, M46, e46, h⟩ := bP_some h
        refine ww_callVI0 46 X dX5_areLettersThere_46 mY_X9_find mL_X5_43 (rcv_spec f46) ⟨_, _, rfl⟩ (by decide) (As := [.int (0 : Int32), .ref (G.1 26)]) (rest := [.ref l1]) rfl rfl ⟨Nat.le_of_ble_eq_true rfl, Nat.le_of_ble_eq_true rfl⟩ (Nat.le_of_ble_eq_true rfl) (fun l D A => c_X9_find l D A e46) ?_
        obtain ⟨_, f49, h⟩ := bO_some h
        obtain ⟨v49, M49, e49, h⟩ := bP_some h
        refine ww_callVI0 49 X dX5_areLettersThere_49 mY_X9_areLetters mL_X5_101 (rcv_spec f49) ⟨_, _, rfl⟩ (by decide) (As := [.int v46]) (rest := []) rfl rfl ⟨Nat.le_of_ble_eq_true rfl, Nat.le_of_ble_eq_true rfl⟩ (Nat.le_of_ble_eq_true rfl) (fun l D A => c_X9_areLetters l D A e49) ?_
        refine ww_if_eq 52 59 X dX5_areLettersThere_52 (by decide) (fun q => ?_) (fun q => ?_)
        · replace h := (if_pos q).symm.trans h
          refine ww_iconst 59 X (v := (0 : Int32)) dX5_areLettersThere_59 (by decide) ?_
          refine ww_goto 60 68 X dX5_areLettersThere_60 (by decide) ?_
          exact (wB_X5_areLettersThere_68 X hQ h)
        · replace h := (if_neg q).symm.trans h
          refine ww_iconst 55 X (v := (1 : Int32)) dX5_areLettersThere_55 (by decide) ?_
          refine ww_goto 56 68 X dX5_areLettersThere_56 (by decide) ?_
          exact (wB_X5_areLettersThere_68 X hQ h)
  · replace h := (if_pos q).symm.trans h
    refine ww_aload_n 7 X dX5_areLettersThere_7 1 rfl rfl ?_
    refine ww_aload_n 8 X dX5_areLettersThere_8 1 rfl rfl ?_
    refine ww_iconst 9 X (v := (0 : Int32)) dX5_areLettersThere_9 (by decide) ?_
    refine ww_lds 10 X (j := 24) dX5_areLettersThere_10 rfl ?_
    obtain ⟨_, f12, h⟩ := bO_some h
    obtain ⟨v12, M12, e12, h⟩ := bP_some h
    refine ww_callVI0 12 X dX5_areLettersThere_12 mY_X9_find mL_X5_43 (rcv_spec f12) ⟨_, _, rfl⟩ (by decide) (As := [.int (0 : Int32), .ref (G.1 24)]) (rest := [.ref l1]) rfl rfl ⟨Nat.le_of_ble_eq_true rfl, Nat.le_of_ble_eq_true rfl⟩ (Nat.le_of_ble_eq_true rfl) (fun l D A => c_X9_find l D A e12) ?_
    obtain ⟨_, f15, h⟩ := bO_some h
    obtain ⟨v15, M15, e15, h⟩ := bP_some h
    refine ww_callVI0 15 X dX5_areLettersThere_15 mY_X9_areLetters mL_X5_101 (rcv_spec f15) ⟨_, _, rfl⟩ (by decide) (As := [.int v12]) (rest := []) rfl rfl ⟨Nat.le_of_ble_eq_true rfl, Nat.le_of_ble_eq_true rfl⟩ (Nat.le_of_ble_eq_true rfl) (fun l D A => c_X9_areLetters l D A e15) ?_
    exact ww_zretE 18 X hQ dX5_areLettersThere_18 h
theorem c_X5_areLettersThere {G : mG} {F sz : Nat} {r0 : Int32} {M0 : mM} (l : Launch) (D : mD) (A : Nat → Prop) {l0 : Nat} {l1 : Nat} {M : mM} (h : P_X5_areLettersThere G F l0 l1 M = some (r0, M0)) : mMetI l D G A yX5_areLettersThere cX5_areLettersThere 3 (some .boolean) 7 153 0 0 [.ref l0, .ref l1] M sz r0 M0 sz := mMetI_of l D G A (by decide) (Nat.le_of_ble_eq_true rfl) (fun x X hQ => wP_X5_areLettersThere X hQ h)
/-! SealedTokens$Text.putLettered(IIILSealedTokens$Bytes;)Z -/
theorem dX9_putLettered_0 : decode cX9_putLettered 0 = .ok (.aload_n 0, 1) := by decide +kernel
theorem dX9_putLettered_1 : decode cX9_putLettered 1 = .ok (.iload_n 1, 1) := by decide +kernel
theorem dX9_putLettered_2 : decode cX9_putLettered 2 = .ok (.invokevirtual 55, 3) := by decide +kernel
theorem dX9_putLettered_5 : decode cX9_putLettered 5 = .ok (.ifCond .ne 5, 3) := by decide +kernel
theorem dX9_putLettered_8 : decode cX9_putLettered 8 = .ok (.iconst 0, 1) := by decide +kernel
theorem dX9_putLettered_9 : decode cX9_putLettered 9 = .ok (.ireturn, 1) := by decide +kernel
theorem dX9_putLettered_10 : decode cX9_putLettered 10 = .ok (.aload_n 0, 1) := by decide +kernel
theorem dX9_putLettered_11 : decode cX9_putLettered 11 = .ok (.getfield 30, 3) := by decide +kernel
theorem dX9_putLettered_14 : decode cX9_putLettered 14 = .ok (.iload_n 1, 1) := by decide +kernel
theorem dX9_putLettered_15 : decode cX9_putLettered 15 = .ok (.iaload, 1) := by decide +kernel
theorem dX9_putLettered_16 : decode cX9_putLettered 16 = .ok (.invokestatic 96, 3) := by decide +kernel
theorem dX9_putLettered_19 : decode cX9_putLettered 19 = .ok (.istore 5, 2) := by decide +kernel
theorem dX9_putLettered_21 : decode cX9_putLettered 21 = .ok (.iload 5, 2) := by decide +kernel
theorem dX9_putLettered_23 : decode cX9_putLettered 23 = .ok (.iload_n 2, 1) := by decide +kernel
theorem dX9_putLettered_24 : decode cX9_putLettered 24 = .ok (.if_icmp .lt 9, 3) := by decide +kernel
theorem dX9_putLettered_27 : decode cX9_putLettered 27 = .ok (.iload 5, 2) := by decide +kernel
theorem dX9_putLettered_29 : decode cX9_putLettered 29 = .ok (.iload_n 3, 1) := by decide +kernel
theorem dX9_putLettered_30 : decode cX9_putLettered 30 = .ok (.if_icmp .le 5, 3) := by decide +kernel
theorem dX9_putLettered_33 : decode cX9_putLettered 33 = .ok (.iconst 0, 1) := by decide +kernel
theorem dX9_putLettered_34 : decode cX9_putLettered 34 = .ok (.ireturn, 1) := by decide +kernel
theorem dX9_putLettered_35 : decode cX9_putLettered 35 = .ok (.aload 4, 2) := by decide +kernel
theorem dX9_putLettered_37 : decode cX9_putLettered 37 = .ok (.aload_n 0, 1) := by decide +kernel
theorem dX9_putLettered_38 : decode cX9_putLettered 38 = .ok (.getfield 44, 3) := by decide +kernel
theorem dX9_putLettered_41 : decode cX9_putLettered 41 = .ok (.aload_n 0, 1) := by decide +kernel
theorem dX9_putLettered_42 : decode cX9_putLettered 42 = .ok (.getfield 27, 3) := by decide +kernel
theorem dX9_putLettered_45 : decode cX9_putLettered 45 = .ok (.iload_n 1, 1) := by decide +kernel
theorem dX9_putLettered_46 : decode cX9_putLettered 46 = .ok (.iaload, 1) := by decide +kernel
theorem dX9_putLettered_47 : decode cX9_putLettered 47 = .ok (.aload_n 0, 1) := by decide +kernel
theorem dX9_putLettered_48 : decode cX9_putLettered 48 = .ok (.getfield 27, 3) := by decide +kernel
theorem dX9_putLettered_51 : decode cX9_putLettered 51 = .ok (.iload_n 1, 1) := by decide +kernel
theorem dX9_putLettered_52 : decode cX9_putLettered 52 = .ok (.iaload, 1) := by decide +kernel
theorem dX9_putLettered_53 : decode cX9_putLettered 53 = .ok (.aload_n 0, 1) := by decide +kernel
theorem dX9_putLettered_54 : decode cX9_putLettered 54 = .ok (.getfield 30, 3) := by decide +kernel
theorem dX9_putLettered_57 : decode cX9_putLettered 57 = .ok (.iload_n 1, 1) := by decide +kernel
theorem dX9_putLettered_58 : decode cX9_putLettered 58 = .ok (.iaload, 1) := by decide +kernel
theorem dX9_putLettered_59 : decode cX9_putLettered 59 = .ok (.iadd, 1) := by decide +kernel
theorem dX9_putLettered_60 : decode cX9_putLettered 60 = .ok (.invokevirtual 99, 3) := by decide +kernel
theorem dX9_putLettered_63 : decode cX9_putLettered 63 = .ok (.iconst 1, 1) := by decide +kernel
theorem dX9_putLettered_64 : decode cX9_putLettered 64 = .ok (.ireturn, 1) := by decide +kernel
abbrev rmX9_putLettered : Room := { frames := 2, cells := 0, slots := 0, locals := 47 }
set_option maxHeartbeats 4000000 in
set_option maxRecDepth 100000 in
theorem wP_X9_putLettered {G : mG} {F : Nat} {x : mXT} {sz : Nat} {r0 : Int32} {M0 : mM} (X : mCX G RX9 cX9_putLettered 6 (some .boolean) "putLettered" rmX9_putLettered x) (hQ : mQI x r0 M0 (sz, 0, 0)) {l0 : Nat} {l1 : Int32} {l2 : Int32} {l3 : Int32} {l4 : Nat} {M : mM} (h : P_X9_putLettered G F l0 l1 l2 l3 l4 M = some (r0, M0)) : WW x (sz, 0, 0) M 0 [(0, .ref l0), (1, .int l1), (2, .int l2), (3, .int l3), (4, .ref l4)] [] := by
  unfold P_X9_putLettered at h
  refine ww_aload_n 0 X dX9_putLettered_0 0 rfl rfl ?_
  refine ww_iload_n 1 X dX9_putLettered_1 1 rfl rfl ?_
  obtain ⟨_, f2, h⟩ := bO_some h
  obtain ⟨v2, M2, e2, h⟩ := bP_some h
  refine ww_callVI0 2 X dX9_putLettered_2 mY_X9_has mL_X9_55 (rcv_spec f2) ⟨_, _, rfl⟩ (by decide) (As := [.int l1]) (rest := []) rfl rfl ⟨Nat.le_of_ble_eq_true rfl, Nat.le_of_ble_eq_true rfl⟩ (Nat.le_of_ble_eq_true rfl) (fun l D A => c_X9_has l D A e2) ?_
  refine ww_if_ne 5 10 X dX9_putLettered_5 (by decide) (fun q => ?_) (fun q => ?_)
  · replace h := (if_neg q).symm.trans h
    refine ww_aload_n 10 X dX9_putLettered_10 0 rfl rfl ?_
    obtain ⟨v11, e11, h⟩ := bO_some h
    refine ww_getR 11 X dX9_putLettered_11 fG_X9_30 e11 ?_
    refine ww_iload_n 14 X dX9_putLettered_14 1 rfl rfl ?_
    obtain ⟨v15, e15, h⟩ := bO_some h
    refine ww_iald 15 X dX9_putLettered_15 e15 ?_
    obtain ⟨v16, M16, e16, h⟩ := bP_some h
    refine ww_callSI0 16 X dX9_putLettered_16 mY_X0_bytesFor mL_X9_96 (As := [.int v15]) (rest := []) rfl rfl ⟨Nat.le_of_ble_eq_true rfl, Nat.le_of_ble_eq_true rfl⟩ (Nat.le_of_ble_eq_true rfl) (fun l D A => c_X0_bytesFor l D A e16) ?_
    refine ww_istore 19 X dX9_putLettered_19 (lv' := [(0, .ref l0), (1, .int l1), (2, .int l2), (3, .int l3), (4, .ref l4), (5, .int v16)]) (by decide) [1, 2, 3, 4, 5, 0] rfl ?_
    refine ww_iload 21 X dX9_putLettered_21 5 rfl ?_
    refine ww_iload_n 23 X dX9_putLettered_23 2 rfl rfl ?_
    refine ww_icmp_lt 24 33 X dX9_putLettered_24 (by decide) (fun q => ?_) (fun q => ?_)
    · replace h := (if_pos q).symm.trans h
      refine ww_iconst 33 X (v := (0 : Int32)) dX9_putLettered_33 (by decide) ?_
      exact ww_zretE 34 X hQ dX9_putLettered_34 h
    · replace h := (if_neg q).symm.trans h
      refine ww_iload 27 X dX9_putLettered_27 5 rfl ?_
      refine ww_iload_n 29 X dX9_putLettered_29 3 rfl rfl ?_
      refine ww_icmp_le 30 35 X dX9_putLettered_30 (by decide) (fun q => ?_) (fun q => ?_)
      · replace h := (if_pos q).symm.trans h
        refine ww_aload 35 X dX9_putLettered_35 4 rfl ?_
        refine ww_aload_n 37 X dX9_putLettered_37 0 rfl rfl ?_
        obtain ⟨v38, e38, h⟩ := bO_some h
        refine ww_getR 38 X dX9_putLettered_38 fG_X9_44 e38 ?_
        refine ww_aload_n 41 X dX9_putLettered_41 0 rfl rfl ?_
        obtain ⟨v42, e42, h⟩ := bO_some h
        refine ww_getR 42 X dX9_putLettered_42 fG_X9_27 e42 ?_
        refine ww_iload_n 45 X dX9_putLettered_45 1 rfl rfl ?_
        obtain ⟨v46, e46, h⟩ := bO_some h
        refine ww_iald 46 X dX9_putLettered_46 e46 ?_
        refine ww_aload_n 47 X dX9_putLettered_47 0 rfl rfl ?_
        obtain ⟨v48, e48, h⟩ := bO_some h
        refine ww_getR 48 X dX9_putLettered_48 fG_X9_27 e48 ?_
        refine ww_iload_n 51 X dX9_putLettered_51 1 rfl rfl ?_
        obtain ⟨v52, e52, h⟩ := bO_some h
        refine ww_iald 52 X dX9_putLettered_52 e52 ?_
        refine ww_aload_n 53 X dX9_putLettered_53 0 rfl rfl ?_
        obtain ⟨v54, e54, h⟩ := bO_some h
        refine ww_getR 54 X dX9_putLettered_54 fG_X9_30 e54 ?_
        refine ww_iload_n 57 X dX9_putLettered_57 1 rfl rfl ?_
        obtain ⟨v58, e58, h⟩ := bO_some h
        refine ww_iald 58 X dX9_putLettered_58 e58 ?_
        refine ww_iadd 59 X dX9_putLettered_59 ?_
        obtain ⟨_, f60, h⟩ := bO_some h
        obtain ⟨M60, e60, h⟩ := bO_some h
        refine ww_callVV0 60 X dX9_putLettered_60 mY_X0_putUnlettered mL_X9_99 (rcv_spec f60) ⟨_, _, rfl⟩ (by decide) (As := [.ref v38, .int v46, .int (v52 + v58)]) (rest := []) rfl rfl ⟨Nat.le_of_ble_eq_true rfl, Nat.le_of_ble_eq_true rfl⟩ (Nat.le_of_ble_eq_true rfl) (fun l D A => c_X0_putUnlettered l D A e60) ?_
        refine ww_iconst 63 X (v := (1 : Int32)) dX9_putLettered_63 (by decide) ?_
        exact ww_zretE 64 X hQ dX9_putLettered_64 h
      · replace h := (if_neg q).symm.trans h
        refine ww_iconst 33 X (v := (0 : Int32)) dX9_putLettered_33 (by decide) ?_
        exact ww_zretE 34 X hQ dX9_putLettered_34 h
  · replace h := (if_pos q).symm.trans h
    refine ww_iconst 8 X (v := (0 : Int32)) dX9_putLettered_8 (by decide) ?_
    exact ww_zretE 9 X hQ dX9_putLettered_9 h
theorem c_X9_putLettered {G : mG} {F sz : Nat} {r0 : Int32} {M0 : mM} (l : Launch) (D : mD) (A : Nat → Prop) {l0 : Nat} {l1 : Int32} {l2 : Int32} {l3 : Int32} {l4 : Nat} {M : mM} (h : P_X9_putLettered G F l0 l1 l2 l3 l4 M = some (r0, M0)) : mMetI l D G A yX9_putLettered cX9_putLettered 6 (some .boolean) 2 47 0 0 [.ref l0, .int l1, .int l2, .int l3, .ref l4] M sz r0 M0 sz := mMetI_of l D G A (by decide) (Nat.le_of_ble_eq_true rfl) (fun x X hQ => wP_X9_putLettered X hQ h)
/-! SealedTokens$Modulus.suits(LSealedTokens$Bytes;)Z -/
theorem dX6_suits_0 : decode cX6_suits 0 = .ok (.aload_n 0, 1) := by decide +kernel
theorem dX6_suits_1 : decode cX6_suits 1 = .ok (.getfield 32, 3) := by decide +kernel
theorem dX6_suits_4 : decode cX6_suits 4 = .ok (.iconst 1, 1) := by decide +kernel
theorem dX6_suits_5 : decode cX6_suits 5 = .ok (.if_icmp .lt 58, 3) := by decide +kernel
theorem dX6_suits_8 : decode cX6_suits 8 = .ok (.aload_n 0, 1) := by decide +kernel
theorem dX6_suits_9 : decode cX6_suits 9 = .ok (.getfield 32, 3) := by decide +kernel
theorem dX6_suits_12 : decode cX6_suits 12 = .ok (.sipush 128, 3) := by decide +kernel
theorem dX6_suits_15 : decode cX6_suits 15 = .ok (.if_icmp .gt 48, 3) := by decide +kernel
theorem dX6_suits_18 : decode cX6_suits 18 = .ok (.aload_n 0, 1) := by decide +kernel
theorem dX6_suits_19 : decode cX6_suits 19 = .ok (.iconst 0, 1) := by decide +kernel
theorem dX6_suits_20 : decode cX6_suits 20 = .ok (.invokevirtual 37, 3) := by decide +kernel
theorem dX6_suits_23 : decode cX6_suits 23 = .ok (.ifCond .eq 40, 3) := by decide +kernel
theorem dX6_suits_26 : decode cX6_suits 26 = .ok (.aload_n 0, 1) := by decide +kernel
theorem dX6_suits_27 : decode cX6_suits 27 = .ok (.aload_n 0, 1) := by decide +kernel
theorem dX6_suits_28 : decode cX6_suits 28 = .ok (.getfield 32, 3) := by decide +kernel
theorem dX6_suits_31 : decode cX6_suits 31 = .ok (.iconst 1, 1) := by decide +kernel
theorem dX6_suits_32 : decode cX6_suits 32 = .ok (.isub, 1) := by decide +kernel
theorem dX6_suits_33 : decode cX6_suits 33 = .ok (.invokevirtual 37, 3) := by decide +kernel
theorem dX6_suits_36 : decode cX6_suits 36 = .ok (.iconst 1, 1) := by decide +kernel
theorem dX6_suits_37 : decode cX6_suits 37 = .ok (.iand, 1) := by decide +kernel
theorem dX6_suits_38 : decode cX6_suits 38 = .ok (.iconst 1, 1) := by decide +kernel
theorem dX6_suits_39 : decode cX6_suits 39 = .ok (.if_icmp .ne 24, 3) := by decide +kernel
theorem dX6_suits_42 : decode cX6_suits 42 = .ok (.aload_n 0, 1) := by decide +kernel
theorem dX6_suits_43 : decode cX6_suits 43 = .ok (.getfield 32, 3) := by decide +kernel
theorem dX6_suits_46 : decode cX6_suits 46 = .ok (.iconst 1, 1) := by decide +kernel
theorem dX6_suits_47 : decode cX6_suits 47 = .ok (.if_icmp .gt 12, 3) := by decide +kernel
theorem dX6_suits_50 : decode cX6_suits 50 = .ok (.aload_n 0, 1) := by decide +kernel
theorem dX6_suits_51 : decode cX6_suits 51 = .ok (.iconst 0, 1) := by decide +kernel
theorem dX6_suits_52 : decode cX6_suits 52 = .ok (.invokevirtual 37, 3) := by decide +kernel
theorem dX6_suits_55 : decode cX6_suits 55 = .ok (.iconst 1, 1) := by decide +kernel
theorem dX6_suits_56 : decode cX6_suits 56 = .ok (.if_icmp .le 7, 3) := by decide +kernel
theorem dX6_suits_59 : decode cX6_suits 59 = .ok (.iconst 1, 1) := by decide +kernel
theorem dX6_suits_60 : decode cX6_suits 60 = .ok (.goto 4, 3) := by decide +kernel
theorem dX6_suits_63 : decode cX6_suits 63 = .ok (.iconst 0, 1) := by decide +kernel
theorem dX6_suits_64 : decode cX6_suits 64 = .ok (.ireturn, 1) := by decide +kernel
abbrev rmX6_suits : Room := { frames := 1, cells := 0, slots := 0, locals := 21 }
set_option maxHeartbeats 4000000 in
set_option maxRecDepth 100000 in
theorem wP_X6_suits {G : mG} {F : Nat} {x : mXT} {sz : Nat} {r0 : Int32} {M0 : mM} (X : mCX G RX6 cX6_suits 1 (some .boolean) "suits" rmX6_suits x) (hQ : mQI x r0 M0 (sz, 0, 0)) {l0 : Nat} {M : mM} (h : P_X6_suits G F l0 M = some (r0, M0)) : WW x (sz, 0, 0) M 0 [(0, .ref l0)] [] := by
  unfold P_X6_suits at h
  refine ww_aload_n 0 X dX6_suits_0 0 rfl rfl ?_
  obtain ⟨v1, e1, h⟩ := bO_some h
  refine ww_getI 1 X dX6_suits_1 fG_X6_32 e1 ?_
  refine ww_iconst 4 X (v := (1 : Int32)) dX6_suits_4 (by decide) ?_
  refine ww_icmp_lt 5 63 X dX6_suits_5 (by decide) (fun q => ?_) (fun q => ?_)
  · replace h := (if_pos q).symm.trans h
    refine ww_iconst 63 X (v := (0 : Int32)) dX6_suits_63 (by decide) ?_
    exact ww_zretE 64 X hQ dX6_suits_64 h
  · replace h := (if_neg q).symm.trans h
    refine ww_aload_n 8 X dX6_suits_8 0 rfl rfl ?_
    obtain ⟨v9, e9, h⟩ := bO_some h
    refine ww_getI 9 X dX6_suits_9 fG_X6_32 e9 ?_
    refine ww_sipush 12 X (v := (128 : Int32)) dX6_suits_12 (by decide) ?_
    refine ww_icmp_gt 15 63 X dX6_suits_15 (by decide) (fun q => ?_) (fun q => ?_)
    · replace h := (if_pos q).symm.trans h
      refine ww_iconst 63 X (v := (0 : Int32)) dX6_suits_63 (by decide) ?_
      exact ww_zretE 64 X hQ dX6_suits_64 h
    · replace h := (if_neg q).symm.trans h
      refine ww_aload_n 18 X dX6_suits_18 0 rfl rfl ?_
      refine ww_iconst 19 X (v := (0 : Int32)) dX6_suits_19 (by decide) ?_
      obtain ⟨_, f20, h⟩ := bO_some h
      obtain ⟨v20, M20, e20, h⟩ := bP_some h
      refine ww_callVI0 20 X dX6_suits_20 mY_X0_get mL_X6_37 (rcv_spec f20) ⟨_, _, rfl⟩ (by decide) (As := [.int (0 : Int32)]) (rest := []) rfl rfl ⟨Nat.le_of_ble_eq_true rfl, Nat.le_of_ble_eq_true rfl⟩ (Nat.le_of_ble_eq_true rfl) (fun l D A => c_X0_get l D A e20) ?_
      refine ww_if_eq 23 63 X dX6_suits_23 (by decide) (fun q => ?_) (fun q => ?_)
      · replace h := (if_pos q).symm.trans h
        refine ww_iconst 63 X (v := (0 : Int32)) dX6_suits_63 (by decide) ?_
        exact ww_zretE 64 X hQ dX6_suits_64 h
      · replace h := (if_neg q).symm.trans h
        refine ww_aload_n 26 X dX6_suits_26 0 rfl rfl ?_
        refine ww_aload_n 27 X dX6_suits_27 0 rfl rfl ?_
        obtain ⟨v28, e28, h⟩ := bO_some h
        refine ww_getI 28 X dX6_suits_28 fG_X6_32 e28 ?_
        refine ww_iconst 31 X (v := (1 : Int32)) dX6_suits_31 (by decide) ?_
        refine ww_isub 32 X dX6_suits_32 ?_
        obtain ⟨_, f33, h⟩ := bO_some h
        obtain ⟨v33, M33, e33, h⟩ := bP_some h
        refine ww_callVI0 33 X dX6_suits_33 mY_X0_get mL_X6_37 (rcv_spec f33) ⟨_, _, rfl⟩ (by decide) (As := [.int (v28 - (1 : Int32))]) (rest := []) rfl rfl ⟨Nat.le_of_ble_eq_true rfl, Nat.le_of_ble_eq_true rfl⟩ (Nat.le_of_ble_eq_true rfl) (fun l D A => c_X0_get l D A e33) ?_
        refine ww_iconst 36 X (v := (1 : Int32)) dX6_suits_36 (by decide) ?_
        refine ww_iand 37 X dX6_suits_37 ?_
        refine ww_iconst 38 X (v := (1 : Int32)) dX6_suits_38 (by decide) ?_
        refine ww_icmp_ne 39 63 X dX6_suits_39 (by decide) (fun q => ?_) (fun q => ?_)
        · replace h := (if_neg q).symm.trans h
          refine ww_iconst 63 X (v := (0 : Int32)) dX6_suits_63 (by decide) ?_
          exact ww_zretE 64 X hQ dX6_suits_64 h
        · replace h := (if_pos q).symm.trans h
          refine ww_aload_n 42 X dX6_suits_42 0 rfl rfl ?_
          obtain ⟨v43, e43, h⟩ := bO_some h
          refine ww_getI 43 X dX6_suits_43 fG_X6_32 e43 ?_
          refine ww_iconst 46 X (v := (1 : Int32)) dX6_suits_46 (by decide) ?_
          refine ww_icmp_gt 47 59 X dX6_suits_47 (by decide) (fun q => ?_) (fun q => ?_)
          · replace h := (if_pos q).symm.trans h
            refine ww_iconst 59 X (v := (1 : Int32)) dX6_suits_59 (by decide) ?_
            refine ww_goto 60 64 X dX6_suits_60 (by decide) ?_
            exact ww_zretE 64 X hQ dX6_suits_64 h
          · replace h := (if_neg q).symm.trans h
            refine ww_aload_n 50 X dX6_suits_50 0 rfl rfl ?_
            refine ww_iconst 51 X (v := (0 : Int32)) dX6_suits_51 (by decide) ?_
            obtain ⟨_, f52, h⟩ := bO_some h
            obtain ⟨v52, M52, e52, h⟩ := bP_some h
            refine ww_callVI0 52 X dX6_suits_52 mY_X0_get mL_X6_37 (rcv_spec f52) ⟨_, _, rfl⟩ (by decide) (As := [.int (0 : Int32)]) (rest := []) rfl rfl ⟨Nat.le_of_ble_eq_true rfl, Nat.le_of_ble_eq_true rfl⟩ (Nat.le_of_ble_eq_true rfl) (fun l D A => c_X0_get l D A e52) ?_
            refine ww_iconst 55 X (v := (1 : Int32)) dX6_suits_55 (by decide) ?_
            refine ww_icmp_le 56 63 X dX6_suits_56 (by decide) (fun q => ?_) (fun q => ?_)
            · replace h := (if_pos q).symm.trans h
              refine ww_iconst 63 X (v := (0 : Int32)) dX6_suits_63 (by decide) ?_
              exact ww_zretE 64 X hQ dX6_suits_64 h
            · replace h := (if_neg q).symm.trans h
              refine ww_iconst 59 X (v := (1 : Int32)) dX6_suits_59 (by decide) ?_
              refine ww_goto 60 64 X dX6_suits_60 (by decide) ?_
              exact ww_zretE 64 X hQ dX6_suits_64 h
theorem c_X6_suits {G : mG} {F sz : Nat} {r0 : Int32} {M0 : mM} (l : Launch) (D : mD) (A : Nat → Prop) {l0 : Nat} {M : mM} (h : P_X6_suits G F l0 M = some (r0, M0)) : mMetI l D G A yX6_suits cX6_suits 1 (some .boolean) 1 21 0 0 [.ref l0] M sz r0 M0 sz := mMetI_of l D G A (by decide) (Nat.le_of_ble_eq_true rfl) (fun x X hQ => wP_X6_suits X hQ h)
/-! SealedTokens$Key.takeRsa(LSealedTokens$Text;)Z -/
theorem dX5_takeRsa_0 : decode cX5_takeRsa 0 = .ok (.aload_n 1, 1) := by decide +kernel
theorem dX5_takeRsa_1 : decode cX5_takeRsa 1 = .ok (.aload_n 1, 1) := by decide +kernel
theorem dX5_takeRsa_2 : decode cX5_takeRsa 2 = .ok (.iconst 0, 1) := by decide +kernel
theorem dX5_takeRsa_3 : decode cX5_takeRsa 3 = .ok (.ldc 104, 2) := by decide +kernel
theorem dX5_takeRsa_5 : decode cX5_takeRsa 5 = .ok (.invokevirtual 43, 3) := by decide +kernel
theorem dX5_takeRsa_8 : decode cX5_takeRsa 8 = .ok (.bipush 64, 2) := by decide +kernel
theorem dX5_takeRsa_10 : decode cX5_takeRsa 10 = .ok (.sipush 128, 3) := by decide +kernel
theorem dX5_takeRsa_13 : decode cX5_takeRsa 13 = .ok (.aload_n 0, 1) := by decide +kernel
theorem dX5_takeRsa_14 : decode cX5_takeRsa 14 = .ok (.getfield 22, 3) := by decide +kernel
theorem dX5_takeRsa_17 : decode cX5_takeRsa 17 = .ok (.invokevirtual 83, 3) := by decide +kernel
theorem dX5_takeRsa_20 : decode cX5_takeRsa 20 = .ok (.ifCond .eq 13, 3) := by decide +kernel
theorem dX5_takeRsa_23 : decode cX5_takeRsa 23 = .ok (.aload_n 0, 1) := by decide +kernel
theorem dX5_takeRsa_24 : decode cX5_takeRsa 24 = .ok (.getfield 22, 3) := by decide +kernel
theorem dX5_takeRsa_27 : decode cX5_takeRsa 27 = .ok (.invokestatic 122, 3) := by decide +kernel
theorem dX5_takeRsa_30 : decode cX5_takeRsa 30 = .ok (.ifCond .ne 5, 3) := by decide +kernel
theorem dX5_takeRsa_33 : decode cX5_takeRsa 33 = .ok (.iconst 0, 1) := by decide +kernel
theorem dX5_takeRsa_34 : decode cX5_takeRsa 34 = .ok (.ireturn, 1) := by decide +kernel
theorem dX5_takeRsa_35 : decode cX5_takeRsa 35 = .ok (.aload_n 1, 1) := by decide +kernel
theorem dX5_takeRsa_36 : decode cX5_takeRsa 36 = .ok (.aload_n 1, 1) := by decide +kernel
theorem dX5_takeRsa_37 : decode cX5_takeRsa 37 = .ok (.iconst 0, 1) := by decide +kernel
theorem dX5_takeRsa_38 : decode cX5_takeRsa 38 = .ok (.ldc 106, 2) := by decide +kernel
theorem dX5_takeRsa_40 : decode cX5_takeRsa 40 = .ok (.invokevirtual 43, 3) := by decide +kernel
theorem dX5_takeRsa_43 : decode cX5_takeRsa 43 = .ok (.iconst 1, 1) := by decide +kernel
theorem dX5_takeRsa_44 : decode cX5_takeRsa 44 = .ok (.sipush 128, 3) := by decide +kernel
theorem dX5_takeRsa_47 : decode cX5_takeRsa 47 = .ok (.aload_n 0, 1) := by decide +kernel
theorem dX5_takeRsa_48 : decode cX5_takeRsa 48 = .ok (.getfield 26, 3) := by decide +kernel
theorem dX5_takeRsa_51 : decode cX5_takeRsa 51 = .ok (.invokevirtual 83, 3) := by decide +kernel
theorem dX5_takeRsa_54 : decode cX5_takeRsa 54 = .ok (.ifCond .eq 27, 3) := by decide +kernel
theorem dX5_takeRsa_57 : decode cX5_takeRsa 57 = .ok (.aload_n 0, 1) := by decide +kernel
theorem dX5_takeRsa_58 : decode cX5_takeRsa 58 = .ok (.getfield 26, 3) := by decide +kernel
theorem dX5_takeRsa_61 : decode cX5_takeRsa 61 = .ok (.invokestatic 122, 3) := by decide +kernel
theorem dX5_takeRsa_64 : decode cX5_takeRsa 64 = .ok (.ifCond .eq 17, 3) := by decide +kernel
theorem dX5_takeRsa_67 : decode cX5_takeRsa 67 = .ok (.aload_n 0, 1) := by decide +kernel
theorem dX5_takeRsa_68 : decode cX5_takeRsa 68 = .ok (.getfield 26, 3) := by decide +kernel
theorem dX5_takeRsa_71 : decode cX5_takeRsa 71 = .ok (.aload_n 0, 1) := by decide +kernel
theorem dX5_takeRsa_72 : decode cX5_takeRsa 72 = .ok (.getfield 22, 3) := by decide +kernel
theorem dX5_takeRsa_75 : decode cX5_takeRsa 75 = .ok (.invokestatic 126, 3) := by decide +kernel
theorem dX5_takeRsa_78 : decode cX5_takeRsa 78 = .ok (.ifCond .ne 5, 3) := by decide +kernel
theorem dX5_takeRsa_81 : decode cX5_takeRsa 81 = .ok (.iconst 0, 1) := by decide +kernel
theorem dX5_takeRsa_82 : decode cX5_takeRsa 82 = .ok (.ireturn, 1) := by decide +kernel
theorem dX5_takeRsa_83 : decode cX5_takeRsa 83 = .ok (.aload_n 0, 1) := by decide +kernel
theorem dX5_takeRsa_84 : decode cX5_takeRsa 84 = .ok (.getfield 70, 3) := by decide +kernel
theorem dX5_takeRsa_87 : decode cX5_takeRsa 87 = .ok (.ifCond .eq 50, 3) := by decide +kernel
theorem dX5_takeRsa_90 : decode cX5_takeRsa 90 = .ok (.aload_n 1, 1) := by decide +kernel
theorem dX5_takeRsa_91 : decode cX5_takeRsa 91 = .ok (.aload_n 1, 1) := by decide +kernel
theorem dX5_takeRsa_92 : decode cX5_takeRsa 92 = .ok (.iconst 0, 1) := by decide +kernel
theorem dX5_takeRsa_93 : decode cX5_takeRsa 93 = .ok (.ldc 68, 2) := by decide +kernel
theorem dX5_takeRsa_95 : decode cX5_takeRsa 95 = .ok (.invokevirtual 43, 3) := by decide +kernel
theorem dX5_takeRsa_98 : decode cX5_takeRsa 98 = .ok (.iconst 1, 1) := by decide +kernel
theorem dX5_takeRsa_99 : decode cX5_takeRsa 99 = .ok (.sipush 128, 3) := by decide +kernel
theorem dX5_takeRsa_102 : decode cX5_takeRsa 102 = .ok (.aload_n 0, 1) := by decide +kernel
theorem dX5_takeRsa_103 : decode cX5_takeRsa 103 = .ok (.getfield 29, 3) := by decide +kernel
theorem dX5_takeRsa_106 : decode cX5_takeRsa 106 = .ok (.invokevirtual 83, 3) := by decide +kernel
theorem dX5_takeRsa_109 : decode cX5_takeRsa 109 = .ok (.ifCond .eq 32, 3) := by decide +kernel
theorem dX5_takeRsa_112 : decode cX5_takeRsa 112 = .ok (.aload_n 0, 1) := by decide +kernel
theorem dX5_takeRsa_113 : decode cX5_takeRsa 113 = .ok (.getfield 29, 3) := by decide +kernel
theorem dX5_takeRsa_116 : decode cX5_takeRsa 116 = .ok (.iconst 0, 1) := by decide +kernel
theorem dX5_takeRsa_117 : decode cX5_takeRsa 117 = .ok (.invokevirtual 130, 3) := by decide +kernel
theorem dX5_takeRsa_120 : decode cX5_takeRsa 120 = .ok (.ifCond .eq 21, 3) := by decide +kernel
theorem dX5_takeRsa_123 : decode cX5_takeRsa 123 = .ok (.aload_n 0, 1) := by decide +kernel
theorem dX5_takeRsa_124 : decode cX5_takeRsa 124 = .ok (.getfield 29, 3) := by decide +kernel
theorem dX5_takeRsa_127 : decode cX5_takeRsa 127 = .ok (.aload_n 0, 1) := by decide +kernel
theorem dX5_takeRsa_128 : decode cX5_takeRsa 128 = .ok (.getfield 22, 3) := by decide +kernel
theorem dX5_takeRsa_131 : decode cX5_takeRsa 131 = .ok (.invokestatic 126, 3) := by decide +kernel
theorem dX5_takeRsa_134 : decode cX5_takeRsa 134 = .ok (.ifCond .eq 7, 3) := by decide +kernel
theorem dX5_takeRsa_137 : decode cX5_takeRsa 137 = .ok (.iconst 1, 1) := by decide +kernel
theorem dX5_takeRsa_138 : decode cX5_takeRsa 138 = .ok (.goto 4, 3) := by decide +kernel
theorem dX5_takeRsa_141 : decode cX5_takeRsa 141 = .ok (.iconst 0, 1) := by decide +kernel
theorem dX5_takeRsa_142 : decode cX5_takeRsa 142 = .ok (.ireturn, 1) := by decide +kernel
abbrev rmX5_takeRsa : Room := { frames := 6, cells := 0, slots := 0, locals := 132 }
set_option maxHeartbeats 4000000 in
set_option maxRecDepth 100000 in
theorem wP_X5_takeRsa {G : mG} {F : Nat} {x : mXT} {sz : Nat} {r0 : Int32} {M0 : mM} (X : mCX G RX5 cX5_takeRsa 2 (some .boolean) "takeRsa" rmX5_takeRsa x) (hQ : mQI x r0 M0 (sz, 0, 0)) {l0 : Nat} {l1 : Nat} {M : mM} (h : P_X5_takeRsa G F l0 l1 M = some (r0, M0)) : WW x (sz, 0, 0) M 0 [(0, .ref l0), (1, .ref l1)] [] := by
  unfold P_X5_takeRsa at h
  refine ww_aload_n 0 X dX5_takeRsa_0 1 rfl rfl ?_
  refine ww_aload_n 1 X dX5_takeRsa_1 1 rfl rfl ?_
  refine ww_iconst 2 X (v := (0 : Int32)) dX5_takeRsa_2 (by decide) ?_
  refine ww_lds 3 X (j := 25) dX5_takeRsa_3 rfl ?_
  obtain ⟨_, f5, h⟩ := bO_some h
  obtain ⟨v5, M5, e5, h⟩ := bP_some h
  refine ww_callVI0 5 X dX5_takeRsa_5 mY_X9_find mL_X5_43 (rcv_spec f5) ⟨_, _, rfl⟩ (by decide) (As := [.int (0 : Int32), .ref (G.1 25)]) (rest := [.ref l1]) rfl rfl ⟨Nat.le_of_ble_eq_true rfl, Nat.le_of_ble_eq_true rfl⟩ (Nat.le_of_ble_eq_true rfl) (fun l D A => c_X9_find l D A e5) ?_
  refine ww_bipush 8 X (v := (64 : Int32)) dX5_takeRsa_8 (by decide) ?_
  refine ww_sipush 10 X (v := (128 : Int32)) dX5_takeRsa_10 (by decide) ?_
  refine ww_aload_n 13 X dX5_takeRsa_13 0 rfl rfl ?_
  obtain ⟨v14, e14, h⟩ := bO_some h
  refine ww_getR 14 X dX5_takeRsa_14 fG_X5_22 e14 ?_
  obtain ⟨_, f17, h⟩ := bO_some h
  obtain ⟨v17, M17, e17, h⟩ := bP_some h
  refine ww_callVI0 17 X dX5_takeRsa_17 mY_X9_putLettered mL_X5_83 (rcv_spec f17) ⟨_, _, rfl⟩ (by decide) (As := [.int v5, .int (64 : Int32), .int (128 : Int32), .ref v14]) (rest := []) rfl rfl ⟨Nat.le_of_ble_eq_true rfl, Nat.le_of_ble_eq_true rfl⟩ (Nat.le_of_ble_eq_true rfl) (fun l D A => c_X9_putLettered l D A e17) ?_
  refine ww_if_eq 20 33 X dX5_takeRsa_20 (by decide) (fun q => ?_) (fun q => ?_)
  · replace h := (if_pos q).symm.trans h
    refine ww_iconst 33 X (v := (0 : Int32)) dX5_takeRsa_33 (by decide) ?_
    exact ww_zretE 34 X hQ dX5_takeRsa_34 h
  · replace h := (if_neg q).symm.trans h
    refine ww_aload_n 23 X dX5_takeRsa_23 0 rfl rfl ?_
    obtain ⟨v24, e24, h⟩ := bO_some h
    refine ww_getR 24 X dX5_takeRsa_24 fG_X5_22 e24 ?_
    obtain ⟨v27, M27, e27, h⟩ := bP_some h
    refine ww_callSI0 27 X dX5_takeRsa_27 mY_X6_suits mL_X5_122 (As := [.ref v24]) (rest := []) rfl rfl ⟨Nat.le_of_ble_eq_true rfl, Nat.le_of_ble_eq_true rfl⟩ (Nat.le_of_ble_eq_true rfl) (fun l D A => c_X6_suits l D A e27) ?_
    refine ww_if_ne 30 35 X dX5_takeRsa_30 (by decide) (fun q => ?_) (fun q => ?_)
    · replace h := (if_neg q).symm.trans h
      refine ww_aload_n 35 X dX5_takeRsa_35 1 rfl rfl ?_
      refine ww_aload_n 36 X dX5_takeRsa_36 1 rfl rfl ?_
      refine ww_iconst 37 X (v := (0 : Int32)) dX5_takeRsa_37 (by decide) ?_
      refine ww_lds 38 X (j := 26) dX5_takeRsa_38 rfl ?_
      obtain ⟨_, f40, h⟩ := bO_some h
      obtain ⟨v40, M40, e40, h⟩ := bP_some h
      refine ww_callVI0 40 X dX5_takeRsa_40 mY_X9_find mL_X5_43 (rcv_spec f40) ⟨_, _, rfl⟩ (by decide) (As := [.int (0 : Int32), .ref (G.1 26)]) (rest := [.ref l1]) rfl rfl ⟨Nat.le_of_ble_eq_true rfl, Nat.le_of_ble_eq_true rfl⟩ (Nat.le_of_ble_eq_true rfl) (fun l D A => c_X9_find l D A e40) ?_
      refine ww_iconst 43 X (v := (1 : Int32)) dX5_takeRsa_43 (by decide) ?_
      refine ww_sipush 44 X (v := (128 : Int32)) dX5_takeRsa_44 (by decide) ?_
      refine ww_aload_n 47 X dX5_takeRsa_47 0 rfl rfl ?_
      obtain ⟨v48, e48, h⟩ := bO_some h
      refine ww_getR 48 X dX5_takeRsa_48 fG_X5_26 e48 ?_
      obtain ⟨_, f51, h⟩ := bO_some h
      obtain ⟨v51, M51, e51, h⟩ := bP_some h
      refine ww_callVI0 51 X dX5_takeRsa_51 mY_X9_putLettered mL_X5_83 (rcv_spec f51) ⟨_, _, rfl⟩ (by decide) (As := [.int v40, .int (1 : Int32), .int (128 : Int32), .ref v48]) (rest := []) rfl rfl ⟨Nat.le_of_ble_eq_true rfl, Nat.le_of_ble_eq_true rfl⟩ (Nat.le_of_ble_eq_true rfl) (fun l D A => c_X9_putLettered l D A e51) ?_
      refine ww_if_eq 54 81 X dX5_takeRsa_54 (by decide) (fun q => ?_) (fun q => ?_)
      · replace h := (if_pos q).symm.trans h
        refine ww_iconst 81 X (v := (0 : Int32)) dX5_takeRsa_81 (by decide) ?_
        exact ww_zretE 82 X hQ dX5_takeRsa_82 h
      · replace h := (if_neg q).symm.trans h
        refine ww_aload_n 57 X dX5_takeRsa_57 0 rfl rfl ?_
        obtain ⟨v58, e58, h⟩ := bO_some h
        refine ww_getR 58 X dX5_takeRsa_58 fG_X5_26 e58 ?_
        obtain ⟨v61, M61, e61, h⟩ := bP_some h
        refine ww_callSI0 61 X dX5_takeRsa_61 mY_X6_suits mL_X5_122 (As := [.ref v58]) (rest := []) rfl rfl ⟨Nat.le_of_ble_eq_true rfl, Nat.le_of_ble_eq_true rfl⟩ (Nat.le_of_ble_eq_true rfl) (fun l D A => c_X6_suits l D A e61) ?_
        refine ww_if_eq 64 81 X dX5_takeRsa_64 (by decide) (fun q => ?_) (fun q => ?_)
        · replace h := (if_pos q).symm.trans h
          refine ww_iconst 81 X (v := (0 : Int32)) dX5_takeRsa_81 (by decide) ?_
          exact ww_zretE 82 X hQ dX5_takeRsa_82 h
        · replace h := (if_neg q).symm.trans h
          refine ww_aload_n 67 X dX5_takeRsa_67 0 rfl rfl ?_
          obtain ⟨v68, e68, h⟩ := bO_some h
          refine ww_getR 68 X dX5_takeRsa_68 fG_X5_26 e68 ?_
          refine ww_aload_n 71 X dX5_takeRsa_71 0 rfl rfl ?_
          obtain ⟨v72, e72, h⟩ := bO_some h
          refine ww_getR 72 X dX5_takeRsa_72 fG_X5_22 e72 ?_
          obtain ⟨v75, M75, e75, h⟩ := bP_some h
          refine ww_callSI0 75 X dX5_takeRsa_75 mY_X0_isBelow mL_X5_126 (As := [.ref v68, .ref v72]) (rest := []) rfl rfl ⟨Nat.le_of_ble_eq_true rfl, Nat.le_of_ble_eq_true rfl⟩ (Nat.le_of_ble_eq_true rfl) (fun l D A => c_X0_isBelow l D A e75) ?_
          refine ww_if_ne 78 83 X dX5_takeRsa_78 (by decide) (fun q => ?_) (fun q => ?_)
          · replace h := (if_neg q).symm.trans h
            refine ww_aload_n 83 X dX5_takeRsa_83 0 rfl rfl ?_
            obtain ⟨v84, e84, h⟩ := bO_some h
            refine ww_getI 84 X dX5_takeRsa_84 fG_X5_70 e84 ?_
            refine ww_if_eq 87 137 X dX5_takeRsa_87 (by decide) (fun q => ?_) (fun q => ?_)
            · replace h := (if_pos q).symm.trans h
              refine ww_iconst 137 X (v := (1 : Int32)) dX5_takeRsa_137 (by decide) ?_
              refine ww_goto 138 142 X dX5_takeRsa_138 (by decide) ?_
              exact ww_zretE 142 X hQ dX5_takeRsa_142 h
            · replace h := (if_neg q).symm.trans h
              refine ww_aload_n 90 X dX5_takeRsa_90 1 rfl rfl ?_
              refine ww_aload_n 91 X dX5_takeRsa_91 1 rfl rfl ?_
              refine ww_iconst 92 X (v := (0 : Int32)) dX5_takeRsa_92 (by decide) ?_
              refine ww_lds 93 X (j := 23) dX5_takeRsa_93 rfl ?_
              obtain ⟨_, f95, h⟩ := bO_some h
              obtain ⟨v95, M95, e95, h⟩ := bP_some h
              refine ww_callVI0 95 X dX5_takeRsa_95 mY_X9_find mL_X5_43 (rcv_spec f95) ⟨_, _, rfl⟩ (by decide) (As := [.int (0 : Int32), .ref (G.1 23)]) (rest := [.ref l1]) rfl rfl ⟨Nat.le_of_ble_eq_true rfl, Nat.le_of_ble_eq_true rfl⟩ (Nat.le_of_ble_eq_true rfl) (fun l D A => c_X9_find l D A e95) ?_
              refine ww_iconst 98 X (v := (1 : Int32)) dX5_takeRsa_98 (by decide) ?_
              refine ww_sipush 99 X (v := (128 : Int32)) dX5_takeRsa_99 (by decide) ?_
              refine ww_aload_n 102 X dX5_takeRsa_102 0 rfl rfl ?_
              obtain ⟨v103, e103, h⟩ := bO_some h
              refine ww_getR 103 X dX5_takeRsa_103 fG_X5_29 e103 ?_
              obtain ⟨_, f106, h⟩ := bO_some h
              obtain ⟨v106, M106, e106, h⟩ := bP_some h
              refine ww_callVI0 106 X dX5_takeRsa_106 mY_X9_putLettered mL_X5_83 (rcv_spec f106) ⟨_, _, rfl⟩ (by decide) (As := [.int v95, .int (1 : Int32), .int (128 : Int32), .ref v103]) (rest := []) rfl rfl ⟨Nat.le_of_ble_eq_true rfl, Nat.le_of_ble_eq_true rfl⟩ (Nat.le_of_ble_eq_true rfl) (fun l D A => c_X9_putLettered l D A e106) ?_
              refine ww_if_eq 109 141 X dX5_takeRsa_109 (by decide) (fun q => ?_) (fun q => ?_)
              · replace h := (if_pos q).symm.trans h
                refine ww_iconst 141 X (v := (0 : Int32)) dX5_takeRsa_141 (by decide) ?_
                exact ww_zretE 142 X hQ dX5_takeRsa_142 h
              · replace h := (if_neg q).symm.trans h
                refine ww_aload_n 112 X dX5_takeRsa_112 0 rfl rfl ?_
                obtain ⟨v113, e113, h⟩ := bO_some h
                refine ww_getR 113 X dX5_takeRsa_113 fG_X5_29 e113 ?_
                refine ww_iconst 116 X (v := (0 : Int32)) dX5_takeRsa_116 (by decide) ?_
                obtain ⟨_, f117, h⟩ := bO_some h
                obtain ⟨v117, M117, e117, h⟩ := bP_some h
                refine ww_callVI0 117 X dX5_takeRsa_117 mY_X0_get mL_X5_130 (rcv_spec f117) ⟨_, _, rfl⟩ (by decide) (As := [.int (0 : Int32)]) (rest := []) rfl rfl ⟨Nat.le_of_ble_eq_true rfl, Nat.le_of_ble_eq_true rfl⟩ (Nat.le_of_ble_eq_true rfl) (fun l D A => c_X0_get l D A e117) ?_
                refine ww_if_eq 120 141 X dX5_takeRsa_120 (by decide) (fun q => ?_) (fun q => ?_)
                · replace h := (if_pos q).symm.trans h
                  refine ww_iconst 141 X (v := (0 : Int32)) dX5_takeRsa_141 (by decide) ?_
                  exact ww_zretE 142 X hQ dX5_takeRsa_142 h
                · replace h := (if_neg q).symm.trans h
                  refine ww_aload_n 123 X dX5_takeRsa_123 0 rfl rfl ?_
                  obtain ⟨v124, e124, h⟩ := bO_some h
                  refine ww_getR 124 X dX5_takeRsa_124 fG_X5_29 e124 ?_
                  refine ww_aload_n 127 X dX5_takeRsa_127 0 rfl rfl ?_
                  obtain ⟨v128, e128, h⟩ := bO_some h
                  refine ww_getR 128 X dX5_takeRsa_128 fG_X5_22 e128 ?_
                  obtain ⟨v131, M131, e131, h⟩ := bP_some h
                  refine ww_callSI0 131 X dX5_takeRsa_131 mY_X0_isBelow mL_X5_126 (As := [.ref v124, .ref v128]) (rest := []) rfl rfl ⟨Nat.le_of_ble_eq_true rfl, Nat.le_of_ble_eq_true rfl⟩ (Nat.le_of_ble_eq_true rfl) (fun l D A => c_X0_isBelow l D A e131) ?_
                  refine ww_if_eq 134 141 X dX5_takeRsa_134 (by decide) (fun q => ?_) (fun q => ?_)
                  · replace h := (if_pos q).symm.trans h
                    refine ww_iconst 141 X (v := (0 : Int32)) dX5_takeRsa_141 (by decide) ?_
                    exact ww_zretE 142 X hQ dX5_takeRsa_142 h
                  · replace h := (if_neg q).symm.trans h
                    refine ww_iconst 137 X (v := (1 : Int32)) dX5_takeRsa_137 (by decide) ?_
                    refine ww_goto 138 142 X dX5_takeRsa_138 (by decide) ?_
                    exact ww_zretE 142 X hQ dX5_takeRsa_142 h
          · replace h := (if_pos q).symm.trans h
            refine ww_iconst 81 X (v := (0 : Int32)) dX5_takeRsa_81 (by decide) ?_
            exact ww_zretE 82 X hQ dX5_takeRsa_82 h
    · replace h := (if_pos q).symm.trans h
      refine ww_iconst 33 X (v := (0 : Int32)) dX5_takeRsa_33 (by decide) ?_
      exact ww_zretE 34 X hQ dX5_takeRsa_34 h
theorem c_X5_takeRsa {G : mG} {F sz : Nat} {r0 : Int32} {M0 : mM} (l : Launch) (D : mD) (A : Nat → Prop) {l0 : Nat} {l1 : Nat} {M : mM} (h : P_X5_takeRsa G F l0 l1 M = some (r0, M0)) : mMetI l D G A yX5_takeRsa cX5_takeRsa 2 (some .boolean) 6 132 0 0 [.ref l0, .ref l1] M sz r0 M0 sz := mMetI_of l D G A (by decide) (Nat.le_of_ble_eq_true rfl) (fun x X hQ => wP_X5_takeRsa X hQ h)
/-! SealedTokens$Key.takePoint(LSealedTokens$Text;ILSealedTokens$Bytes;)Z -/
theorem dX5_takePoint_0 : decode cX5_takePoint 0 = .ok (.aload_n 0, 1) := by decide +kernel
theorem dX5_takePoint_1 : decode cX5_takePoint 1 = .ok (.aload_n 0, 1) := by decide +kernel
theorem dX5_takePoint_2 : decode cX5_takePoint 2 = .ok (.iload_n 1, 1) := by decide +kernel
theorem dX5_takePoint_3 : decode cX5_takePoint 3 = .ok (.ldc 116, 2) := by decide +kernel
theorem dX5_takePoint_5 : decode cX5_takePoint 5 = .ok (.invokevirtual 43, 3) := by decide +kernel
theorem dX5_takePoint_8 : decode cX5_takePoint 8 = .ok (.bipush 32, 2) := by decide +kernel
theorem dX5_takePoint_10 : decode cX5_takePoint 10 = .ok (.bipush 32, 2) := by decide +kernel
theorem dX5_takePoint_12 : decode cX5_takePoint 12 = .ok (.aload_n 2, 1) := by decide +kernel
theorem dX5_takePoint_13 : decode cX5_takePoint 13 = .ok (.invokevirtual 83, 3) := by decide +kernel
theorem dX5_takePoint_16 : decode cX5_takePoint 16 = .ok (.ifCond .eq 26, 3) := by decide +kernel
theorem dX5_takePoint_19 : decode cX5_takePoint 19 = .ok (.aload_n 0, 1) := by decide +kernel
theorem dX5_takePoint_20 : decode cX5_takePoint 20 = .ok (.aload_n 0, 1) := by decide +kernel
theorem dX5_takePoint_21 : decode cX5_takePoint 21 = .ok (.iload_n 1, 1) := by decide +kernel
theorem dX5_takePoint_22 : decode cX5_takePoint 22 = .ok (.ldc 118, 2) := by decide +kernel
theorem dX5_takePoint_24 : decode cX5_takePoint 24 = .ok (.invokevirtual 43, 3) := by decide +kernel
theorem dX5_takePoint_27 : decode cX5_takePoint 27 = .ok (.bipush 32, 2) := by decide +kernel
theorem dX5_takePoint_29 : decode cX5_takePoint 29 = .ok (.bipush 32, 2) := by decide +kernel
theorem dX5_takePoint_31 : decode cX5_takePoint 31 = .ok (.aload_n 2, 1) := by decide +kernel
theorem dX5_takePoint_32 : decode cX5_takePoint 32 = .ok (.invokevirtual 83, 3) := by decide +kernel
theorem dX5_takePoint_35 : decode cX5_takePoint 35 = .ok (.ifCond .eq 7, 3) := by decide +kernel
theorem dX5_takePoint_38 : decode cX5_takePoint 38 = .ok (.iconst 1, 1) := by decide +kernel
theorem dX5_takePoint_39 : decode cX5_takePoint 39 = .ok (.goto 4, 3) := by decide +kernel
theorem dX5_takePoint_42 : decode cX5_takePoint 42 = .ok (.iconst 0, 1) := by decide +kernel
theorem dX5_takePoint_43 : decode cX5_takePoint 43 = .ok (.ireturn, 1) := by decide +kernel
abbrev rmX5_takePoint : Room := { frames := 6, cells := 0, slots := 0, locals := 132 }
set_option maxHeartbeats 4000000 in
set_option maxRecDepth 100000 in
theorem wP_X5_takePoint {G : mG} {F : Nat} {x : mXT} {sz : Nat} {r0 : Int32} {M0 : mM} (X : mCX G RX5 cX5_takePoint 3 (some .boolean) "takePoint" rmX5_takePoint x) (hQ : mQI x r0 M0 (sz, 0, 0)) {l0 : Nat} {l1 : Int32} {l2 : Nat} {M : mM} (h : P_X5_takePoint G F l0 l1 l2 M = some (r0, M0)) : WW x (sz, 0, 0) M 0 [(0, .ref l0), (1, .int l1), (2, .ref l2)] [] := by
  unfold P_X5_takePoint at h
  refine ww_aload_n 0 X dX5_takePoint_0 0 rfl rfl ?_
  refine ww_aload_n 1 X dX5_takePoint_1 0 rfl rfl ?_
  refine ww_iload_n 2 X dX5_takePoint_2 1 rfl rfl ?_
  refine ww_lds 3 X (j := 29) dX5_takePoint_3 rfl ?_
  obtain ⟨_, f5, h⟩ := bO_some h
  obtain ⟨v5, M5, e5, h⟩ := bP_some h
  refine ww_callVI0 5 X dX5_takePoint_5 mY_X9_find mL_X5_43 (rcv_spec f5) ⟨_, _, rfl⟩ (by decide) (As := [.int l1, .ref (G.1 29)]) (rest := [.ref l0]) rfl rfl ⟨Nat.le_of_ble_eq_true rfl, Nat.le_of_ble_eq_true rfl⟩ (Nat.le_of_ble_eq_true rfl) (fun l D A => c_X9_find l D A e5) ?_
  refine ww_bipush 8 X (v := (32 : Int32)) dX5_takePoint_8 (by decide) ?_
  refine ww_bipush 10 X (v := (32 : Int32)) dX5_takePoint_10 (by decide) ?_
  refine ww_aload_n 12 X dX5_takePoint_12 2 rfl rfl ?_
  obtain ⟨_, f13, h⟩ := bO_some h
  obtain ⟨v13, M13, e13, h⟩ := bP_some h
  refine ww_callVI0 13 X dX5_takePoint_13 mY_X9_putLettered mL_X5_83 (rcv_spec f13) ⟨_, _, rfl⟩ (by decide) (As := [.int v5, .int (32 : Int32), .int (32 : Int32), .ref l2]) (rest := []) rfl rfl ⟨Nat.le_of_ble_eq_true rfl, Nat.le_of_ble_eq_true rfl⟩ (Nat.le_of_ble_eq_true rfl) (fun l D A => c_X9_putLettered l D A e13) ?_
  refine ww_if_eq 16 42 X dX5_takePoint_16 (by decide) (fun q => ?_) (fun q => ?_)
  · replace h := (if_pos q).symm.trans h
    refine ww_iconst 42 X (v := (0 : Int32)) dX5_takePoint_42 (by decide) ?_
    exact ww_zretE 43 X hQ dX5_takePoint_43 h
  · replace h := (if_neg q).symm.trans h
    refine ww_aload_n 19 X dX5_takePoint_19 0 rfl rfl ?_
    refine ww_aload_n 20 X dX5_takePoint_20 0 rfl rfl ?_
    refine ww_iload_n 21 X dX5_takePoint_21 1 rfl rfl ?_
    refine ww_lds 22 X (j := 30) dX5_takePoint_22 rfl ?_
    obtain ⟨_, f24, h⟩ := bO_some h
    obtain ⟨v24, M24, e24, h⟩ := bP_some h
    refine ww_callVI0 24 X dX5_takePoint_24 mY_X9_find mL_X5_43 (rcv_spec f24) ⟨_, _, rfl⟩ (by decide) (As := [.int l1, .ref (G.1 30)]) (rest := [.ref l0]) rfl rfl ⟨Nat.le_of_ble_eq_true rfl, Nat.le_of_ble_eq_true rfl⟩ (Nat.le_of_ble_eq_true rfl) (fun l D A => c_X9_find l D A e24) ?_
    refine ww_bipush 27 X (v := (32 : Int32)) dX5_takePoint_27 (by decide) ?_
    refine ww_bipush 29 X (v := (32 : Int32)) dX5_takePoint_29 (by decide) ?_
    refine ww_aload_n 31 X dX5_takePoint_31 2 rfl rfl ?_
    obtain ⟨_, f32, h⟩ := bO_some h
    obtain ⟨v32, M32, e32, h⟩ := bP_some h
    refine ww_callVI0 32 X dX5_takePoint_32 mY_X9_putLettered mL_X5_83 (rcv_spec f32) ⟨_, _, rfl⟩ (by decide) (As := [.int v24, .int (32 : Int32), .int (32 : Int32), .ref l2]) (rest := []) rfl rfl ⟨Nat.le_of_ble_eq_true rfl, Nat.le_of_ble_eq_true rfl⟩ (Nat.le_of_ble_eq_true rfl) (fun l D A => c_X9_putLettered l D A e32) ?_
    refine ww_if_eq 35 42 X dX5_takePoint_35 (by decide) (fun q => ?_) (fun q => ?_)
    · replace h := (if_pos q).symm.trans h
      refine ww_iconst 42 X (v := (0 : Int32)) dX5_takePoint_42 (by decide) ?_
      exact ww_zretE 43 X hQ dX5_takePoint_43 h
    · replace h := (if_neg q).symm.trans h
      refine ww_iconst 38 X (v := (1 : Int32)) dX5_takePoint_38 (by decide) ?_
      refine ww_goto 39 43 X dX5_takePoint_39 (by decide) ?_
      exact ww_zretE 43 X hQ dX5_takePoint_43 h
theorem c_X5_takePoint {G : mG} {F sz : Nat} {r0 : Int32} {M0 : mM} (l : Launch) (D : mD) (A : Nat → Prop) {l0 : Nat} {l1 : Int32} {l2 : Nat} {M : mM} (h : P_X5_takePoint G F l0 l1 l2 M = some (r0, M0)) : mMetI l D G A yX5_takePoint cX5_takePoint 3 (some .boolean) 6 132 0 0 [.ref l0, .int l1, .ref l2] M sz r0 M0 sz := mMetI_of l D G A (by decide) (Nat.le_of_ble_eq_true rfl) (fun x X hQ => wP_X5_takePoint X hQ h)
/-! SealedTokens$Key.takeCurveSecret(LSealedTokens$Text;)Z -/
theorem dX5_takeCurveSecret_0 : decode cX5_takeCurveSecret 0 = .ok (.aload_n 0, 1) := by decide +kernel
theorem dX5_takeCurveSecret_1 : decode cX5_takeCurveSecret 1 = .ok (.getfield 70, 3) := by decide +kernel
theorem dX5_takeCurveSecret_4 : decode cX5_takeCurveSecret 4 = .ok (.ifCond .eq 25, 3) := by decide +kernel
theorem dX5_takeCurveSecret_7 : decode cX5_takeCurveSecret 7 = .ok (.aload_n 1, 1) := by decide +kernel
theorem dX5_takeCurveSecret_8 : decode cX5_takeCurveSecret 8 = .ok (.aload_n 1, 1) := by decide +kernel
theorem dX5_takeCurveSecret_9 : decode cX5_takeCurveSecret 9 = .ok (.iconst 0, 1) := by decide +kernel
theorem dX5_takeCurveSecret_10 : decode cX5_takeCurveSecret 10 = .ok (.ldc 68, 2) := by decide +kernel
theorem dX5_takeCurveSecret_12 : decode cX5_takeCurveSecret 12 = .ok (.invokevirtual 43, 3) := by decide +kernel
theorem dX5_takeCurveSecret_15 : decode cX5_takeCurveSecret 15 = .ok (.bipush 32, 2) := by decide +kernel
theorem dX5_takeCurveSecret_17 : decode cX5_takeCurveSecret 17 = .ok (.bipush 32, 2) := by decide +kernel
theorem dX5_takeCurveSecret_19 : decode cX5_takeCurveSecret 19 = .ok (.aload_n 0, 1) := by decide +kernel
theorem dX5_takeCurveSecret_20 : decode cX5_takeCurveSecret 20 = .ok (.getfield 29, 3) := by decide +kernel
theorem dX5_takeCurveSecret_23 : decode cX5_takeCurveSecret 23 = .ok (.invokevirtual 83, 3) := by decide +kernel
theorem dX5_takeCurveSecret_26 : decode cX5_takeCurveSecret 26 = .ok (.ifCond .eq 7, 3) := by decide +kernel
theorem dX5_takeCurveSecret_29 : decode cX5_takeCurveSecret 29 = .ok (.iconst 1, 1) := by decide +kernel
theorem dX5_takeCurveSecret_30 : decode cX5_takeCurveSecret 30 = .ok (.goto 4, 3) := by decide +kernel
theorem dX5_takeCurveSecret_33 : decode cX5_takeCurveSecret 33 = .ok (.iconst 0, 1) := by decide +kernel
theorem dX5_takeCurveSecret_34 : decode cX5_takeCurveSecret 34 = .ok (.ireturn, 1) := by decide +kernel
abbrev rmX5_takeCurveSecret : Room := { frames := 6, cells := 0, slots := 0, locals := 132 }
set_option maxHeartbeats 4000000 in
set_option maxRecDepth 100000 in
theorem wP_X5_takeCurveSecret {G : mG} {F : Nat} {x : mXT} {sz : Nat} {r0 : Int32} {M0 : mM} (X : mCX G RX5 cX5_takeCurveSecret 2 (some .boolean) "takeCurveSecret" rmX5_takeCurveSecret x) (hQ : mQI x r0 M0 (sz, 0, 0)) {l0 : Nat} {l1 : Nat} {M : mM} (h : P_X5_takeCurveSecret G F l0 l1 M = some (r0, M0)) : WW x (sz, 0, 0) M 0 [(0, .ref l0), (1, .ref l1)] [] := by
  unfold P_X5_takeCurveSecret at h
  refine ww_aload_n 0 X dX5_takeCurveSecret_0 0 rfl rfl ?_
  obtain ⟨v1, e1, h⟩ := bO_some h
  refine ww_getI 1 X dX5_takeCurveSecret_1 fG_X5_70 e1 ?_
  refine ww_if_eq 4 29 X dX5_takeCurveSecret_4 (by decide) (fun q => ?_) (fun q => ?_)
  · replace h := (if_pos q).symm.trans h
    refine ww_iconst 29 X (v := (1 : Int32)) dX5_takeCurveSecret_29 (by decide) ?_
    refine ww_goto 30 34 X dX5_takeCurveSecret_30 (by decide) ?_
    exact ww_zretE 34 X hQ dX5_takeCurveSecret_34 h
  · replace h := (if_neg q).symm.trans h
    refine ww_aload_n 7 X dX5_takeCurveSecret_7 1 rfl rfl ?_
    refine ww_aload_n 8 X dX5_takeCurveSecret_8 1 rfl rfl ?_
    refine ww_iconst 9 X (v := (0 : Int32)) dX5_takeCurveSecret_9 (by decide) ?_
    refine ww_lds 10 X (j := 23) dX5_takeCurveSecret_10 rfl ?_
    obtain ⟨_, f12, h⟩ := bO_some h
    obtain ⟨v12, M12, e12, h⟩ := bP_some h
    refine ww_callVI0 12 X dX5_takeCurveSecret_12 mY_X9_find mL_X5_43 (rcv_spec f12) ⟨_, _, rfl⟩ (by decide) (As := [.int (0 : Int32), .ref (G.1 23)]) (rest := [.ref l1]) rfl rfl ⟨Nat.le_of_ble_eq_true rfl, Nat.le_of_ble_eq_true rfl⟩ (Nat.le_of_ble_eq_true rfl) (fun l D A => c_X9_find l D A e12) ?_
    refine ww_bipush 15 X (v := (32 : Int32)) dX5_takeCurveSecret_15 (by decide) ?_
    refine ww_bipush 17 X (v := (32 : Int32)) dX5_takeCurveSecret_17 (by decide) ?_
    refine ww_aload_n 19 X dX5_takeCurveSecret_19 0 rfl rfl ?_
    obtain ⟨v20, e20, h⟩ := bO_some h
    refine ww_getR 20 X dX5_takeCurveSecret_20 fG_X5_29 e20 ?_
    obtain ⟨_, f23, h⟩ := bO_some h
    obtain ⟨v23, M23, e23, h⟩ := bP_some h
    refine ww_callVI0 23 X dX5_takeCurveSecret_23 mY_X9_putLettered mL_X5_83 (rcv_spec f23) ⟨_, _, rfl⟩ (by decide) (As := [.int v12, .int (32 : Int32), .int (32 : Int32), .ref v20]) (rest := []) rfl rfl ⟨Nat.le_of_ble_eq_true rfl, Nat.le_of_ble_eq_true rfl⟩ (Nat.le_of_ble_eq_true rfl) (fun l D A => c_X9_putLettered l D A e23) ?_
    refine ww_if_eq 26 33 X dX5_takeCurveSecret_26 (by decide) (fun q => ?_) (fun q => ?_)
    · replace h := (if_pos q).symm.trans h
      refine ww_iconst 33 X (v := (0 : Int32)) dX5_takeCurveSecret_33 (by decide) ?_
      exact ww_zretE 34 X hQ dX5_takeCurveSecret_34 h
    · replace h := (if_neg q).symm.trans h
      refine ww_iconst 29 X (v := (1 : Int32)) dX5_takeCurveSecret_29 (by decide) ?_
      refine ww_goto 30 34 X dX5_takeCurveSecret_30 (by decide) ?_
      exact ww_zretE 34 X hQ dX5_takeCurveSecret_34 h
theorem c_X5_takeCurveSecret {G : mG} {F sz : Nat} {r0 : Int32} {M0 : mM} (l : Launch) (D : mD) (A : Nat → Prop) {l0 : Nat} {l1 : Nat} {M : mM} (h : P_X5_takeCurveSecret G F l0 l1 M = some (r0, M0)) : mMetI l D G A yX5_takeCurveSecret cX5_takeCurveSecret 2 (some .boolean) 6 132 0 0 [.ref l0, .ref l1] M sz r0 M0 sz := mMetI_of l D G A (by decide) (Nat.le_of_ble_eq_true rfl) (fun x X hQ => wP_X5_takeCurveSecret X hQ h)
/-! SealedTokens.algName(I)Ljava/lang/String; -/
theorem dX11_algName_0 : decode cX11_algName 0 = .ok (.iload_n 0, 1) := by decide +kernel
theorem dX11_algName_1 : decode cX11_algName 1 = .ok (.tableswitch 95 0 9 #[55, 59, 63, 67, 71, 75, 79, 83, 87, 91], 55) := by decide +kernel
theorem dX11_algName_56 : decode cX11_algName 56 = .ok (.ldc_w 467, 3) := by decide +kernel
theorem dX11_algName_59 : decode cX11_algName 59 = .ok (.areturn, 1) := by decide +kernel
theorem dX11_algName_60 : decode cX11_algName 60 = .ok (.ldc_w 469, 3) := by decide +kernel
theorem dX11_algName_63 : decode cX11_algName 63 = .ok (.areturn, 1) := by decide +kernel
theorem dX11_algName_64 : decode cX11_algName 64 = .ok (.ldc_w 471, 3) := by decide +kernel
theorem dX11_algName_67 : decode cX11_algName 67 = .ok (.areturn, 1) := by decide +kernel
theorem dX11_algName_68 : decode cX11_algName 68 = .ok (.ldc_w 473, 3) := by decide +kernel
theorem dX11_algName_71 : decode cX11_algName 71 = .ok (.areturn, 1) := by decide +kernel
theorem dX11_algName_72 : decode cX11_algName 72 = .ok (.ldc_w 475, 3) := by decide +kernel
theorem dX11_algName_75 : decode cX11_algName 75 = .ok (.areturn, 1) := by decide +kernel
theorem dX11_algName_76 : decode cX11_algName 76 = .ok (.ldc_w 477, 3) := by decide +kernel
theorem dX11_algName_79 : decode cX11_algName 79 = .ok (.areturn, 1) := by decide +kernel
theorem dX11_algName_80 : decode cX11_algName 80 = .ok (.ldc_w 479, 3) := by decide +kernel
theorem dX11_algName_83 : decode cX11_algName 83 = .ok (.areturn, 1) := by decide +kernel
theorem dX11_algName_84 : decode cX11_algName 84 = .ok (.ldc_w 481, 3) := by decide +kernel
theorem dX11_algName_87 : decode cX11_algName 87 = .ok (.areturn, 1) := by decide +kernel
theorem dX11_algName_88 : decode cX11_algName 88 = .ok (.ldc_w 483, 3) := by decide +kernel
theorem dX11_algName_91 : decode cX11_algName 91 = .ok (.areturn, 1) := by decide +kernel
theorem dX11_algName_92 : decode cX11_algName 92 = .ok (.ldc_w 485, 3) := by decide +kernel
theorem dX11_algName_95 : decode cX11_algName 95 = .ok (.areturn, 1) := by decide +kernel
theorem dX11_algName_96 : decode cX11_algName 96 = .ok (.ldc_w 487, 3) := by decide +kernel
theorem dX11_algName_99 : decode cX11_algName 99 = .ok (.areturn, 1) := by decide +kernel
abbrev rmX11_algName : Room := { frames := 0, cells := 0, slots := 0, locals := 0 }
set_option maxHeartbeats 4000000 in
set_option maxRecDepth 100000 in
theorem wP_X11_algName {G : mG} {F : Nat} {x : mXT} {sz : Nat} {r0 : Nat} {M0 : mM} (X : mCX G RX11 cX11_algName 1 (some (.object "java/lang/String")) "algName" rmX11_algName x) (hQ : mQR x r0 M0 (sz, 0, 0)) {l0 : Int32} {M : mM} (h : P_X11_algName G F l0 M = some (r0, M0)) : WW x (sz, 0, 0) M 0 [(0, .int l0)] [] := by
  unfold P_X11_algName at h
  refine ww_iload_n 0 X dX11_algName_0 0 rfl rfl ?_
  by_cases q0 : l0 = (0 : Int32)
  · replace h := (if_pos q0).symm.trans h
    refine ww_tableIn 1 56 X dX11_algName_1 (off := 55) (by rw [q0]; decide) (by rw [q0]; decide) (by rw [q0]; decide) (by decide) ?_
    refine ww_ldsw 56 X (j := 33) dX11_algName_56 rfl ?_
    exact ww_aretE 59 X hQ dX11_algName_59 h
  · replace h := (if_neg q0).symm.trans h
    by_cases q1 : l0 = (1 : Int32)
    · replace h := (if_pos q1).symm.trans h
      refine ww_tableIn 1 60 X dX11_algName_1 (off := 59) (by rw [q1]; decide) (by rw [q1]; decide) (by rw [q1]; decide) (by decide) ?_
      refine ww_ldsw 60 X (j := 34) dX11_algName_60 rfl ?_
      exact ww_aretE 63 X hQ dX11_algName_63 h
    · replace h := (if_neg q1).symm.trans h
      by_cases q2 : l0 = (2 : Int32)
      · replace h := (if_pos q2).symm.trans h
        refine ww_tableIn 1 64 X dX11_algName_1 (off := 63) (by rw [q2]; decide) (by rw [q2]; decide) (by rw [q2]; decide) (by decide) ?_
        refine ww_ldsw 64 X (j := 35) dX11_algName_64 rfl ?_
        exact ww_aretE 67 X hQ dX11_algName_67 h
      · replace h := (if_neg q2).symm.trans h
        by_cases q3 : l0 = (3 : Int32)
        · replace h := (if_pos q3).symm.trans h
          refine ww_tableIn 1 68 X dX11_algName_1 (off := 67) (by rw [q3]; decide) (by rw [q3]; decide) (by rw [q3]; decide) (by decide) ?_
          refine ww_ldsw 68 X (j := 36) dX11_algName_68 rfl ?_
          exact ww_aretE 71 X hQ dX11_algName_71 h
        · replace h := (if_neg q3).symm.trans h
          by_cases q4 : l0 = (4 : Int32)
          · replace h := (if_pos q4).symm.trans h
            refine ww_tableIn 1 72 X dX11_algName_1 (off := 71) (by rw [q4]; decide) (by rw [q4]; decide) (by rw [q4]; decide) (by decide) ?_
            refine ww_ldsw 72 X (j := 37) dX11_algName_72 rfl ?_
            exact ww_aretE 75 X hQ dX11_algName_75 h
          · replace h := (if_neg q4).symm.trans h
            by_cases q5 : l0 = (5 : Int32)
            · replace h := (if_pos q5).symm.trans h
              refine ww_tableIn 1 76 X dX11_algName_1 (off := 75) (by rw [q5]; decide) (by rw [q5]; decide) (by rw [q5]; decide) (by decide) ?_
              refine ww_ldsw 76 X (j := 38) dX11_algName_76 rfl ?_
              exact ww_aretE 79 X hQ dX11_algName_79 h
            · replace h := (if_neg q5).symm.trans h
              by_cases q6 : l0 = (6 : Int32)
              · replace h := (if_pos q6).symm.trans h
                refine ww_tableIn 1 80 X dX11_algName_1 (off := 79) (by rw [q6]; decide) (by rw [q6]; decide) (by rw [q6]; decide) (by decide) ?_
                refine ww_ldsw 80 X (j := 39) dX11_algName_80 rfl ?_
                exact ww_aretE 83 X hQ dX11_algName_83 h
              · replace h := (if_neg q6).symm.trans h
                by_cases q7 : l0 = (7 : Int32)
                · replace h := (if_pos q7).symm.trans h
                  refine ww_tableIn 1 84 X dX11_algName_1 (off := 83) (by rw [q7]; decide) (by rw [q7]; decide) (by rw [q7]; decide) (by decide) ?_
                  refine ww_ldsw 84 X (j := 40) dX11_algName_84 rfl ?_
                  exact ww_aretE 87 X hQ dX11_algName_87 h
                · replace h := (if_neg q7).symm.trans h
                  by_cases q8 : l0 = (8 : Int32)
                  · replace h := (if_pos q8).symm.trans h
                    refine ww_tableIn 1 88 X dX11_algName_1 (off := 87) (by rw [q8]; decide) (by rw [q8]; decide) (by rw [q8]; decide) (by decide) ?_
                    refine ww_ldsw 88 X (j := 41) dX11_algName_88 rfl ?_
                    exact ww_aretE 91 X hQ dX11_algName_91 h
                  · replace h := (if_neg q8).symm.trans h
                    by_cases q9 : l0 = (9 : Int32)
                    · replace h := (if_pos q9).symm.trans h
                      refine ww_tableIn 1 92 X dX11_algName_1 (off := 91) (by rw [q9]; decide) (by rw [q9]; decide) (by rw [q9]; decide) (by decide) ?_
                      refine ww_ldsw 92 X (j := 42) dX11_algName_92 rfl ?_
                      exact ww_aretE 95 X hQ dX11_algName_95 h
                    · replace h := (if_neg q9).symm.trans h
                      have z0 := lv_neT q0 (show (0 : Int32).toInt = 0 by decide)
                      have z1 := lv_neT q1 (show (1 : Int32).toInt = 1 by decide)
                      have z2 := lv_neT q2 (show (2 : Int32).toInt = 2 by decide)
                      have z3 := lv_neT q3 (show (3 : Int32).toInt = 3 by decide)
                      have z4 := lv_neT q4 (show (4 : Int32).toInt = 4 by decide)
                      have z5 := lv_neT q5 (show (5 : Int32).toInt = 5 by decide)
                      have z6 := lv_neT q6 (show (6 : Int32).toInt = 6 by decide)
                      have z7 := lv_neT q7 (show (7 : Int32).toInt = 7 by decide)
                      have z8 := lv_neT q8 (show (8 : Int32).toInt = 8 by decide)
                      have z9 := lv_neT q9 (show (9 : Int32).toInt = 9 by decide)
                      refine ww_tableOut 1 96 X dX11_algName_1 (by omega) (by decide) ?_
                      refine ww_ldsw 96 X (j := 43) dX11_algName_96 rfl ?_
                      exact ww_aretE 99 X hQ dX11_algName_99 h
theorem c_X11_algName {G : mG} {F sz : Nat} {r0 : Nat} {M0 : mM} (l : Launch) (D : mD) (A : Nat → Prop) {l0 : Int32} {M : mM} (h : P_X11_algName G F l0 M = some (r0, M0)) : mMetR l D G A yX11_algName cX11_algName 1 (some (.object "java/lang/String")) 0 0 0 0 [.int l0] M sz r0 M0 sz := mMetR_of l D G A (by decide) (Nat.le_of_ble_eq_true rfl) (fun x X hQ => wP_X11_algName X hQ h)
/-! SealedTokens$Key.makeKidRoom(I)V -/
theorem dX5_makeKidRoom_0 : decode cX5_makeKidRoom 0 = .ok (.aload_n 0, 1) := by decide +kernel
theorem dX5_makeKidRoom_1 : decode cX5_makeKidRoom 1 = .ok (.getfield 32, 3) := by decide +kernel
theorem dX5_makeKidRoom_4 : decode cX5_makeKidRoom 4 = .ok (.getfield 164, 3) := by decide +kernel
theorem dX5_makeKidRoom_7 : decode cX5_makeKidRoom 7 = .ok (.arraylength, 1) := by decide +kernel
theorem dX5_makeKidRoom_8 : decode cX5_makeKidRoom 8 = .ok (.bipush 64, 2) := by decide +kernel
theorem dX5_makeKidRoom_10 : decode cX5_makeKidRoom 10 = .ok (.invokestatic 167, 3) := by decide +kernel
theorem dX5_makeKidRoom_13 : decode cX5_makeKidRoom 13 = .ok (.istore_n 2, 1) := by decide +kernel
theorem dX5_makeKidRoom_14 : decode cX5_makeKidRoom 14 = .ok (.iload_n 2, 1) := by decide +kernel
theorem dX5_makeKidRoom_15 : decode cX5_makeKidRoom 15 = .ok (.iload_n 1, 1) := by decide +kernel
theorem dX5_makeKidRoom_16 : decode cX5_makeKidRoom 16 = .ok (.if_icmp .ge 17, 3) := by decide +kernel
theorem dX5_makeKidRoom_19 : decode cX5_makeKidRoom 19 = .ok (.iload_n 2, 1) := by decide +kernel
theorem dX5_makeKidRoom_20 : decode cX5_makeKidRoom 20 = .ok (.sipush 8192, 3) := by decide +kernel
theorem dX5_makeKidRoom_23 : decode cX5_makeKidRoom 23 = .ok (.if_icmp .ge 10, 3) := by decide +kernel
theorem dX5_makeKidRoom_26 : decode cX5_makeKidRoom 26 = .ok (.iload_n 2, 1) := by decide +kernel
theorem dX5_makeKidRoom_27 : decode cX5_makeKidRoom 27 = .ok (.iconst 2, 1) := by decide +kernel
theorem dX5_makeKidRoom_28 : decode cX5_makeKidRoom 28 = .ok (.imul, 1) := by decide +kernel
theorem dX5_makeKidRoom_29 : decode cX5_makeKidRoom 29 = .ok (.istore_n 2, 1) := by decide +kernel
theorem dX5_makeKidRoom_30 : decode cX5_makeKidRoom 30 = .ok (.goto (-16), 3) := by decide +kernel
theorem dX5_makeKidRoom_33 : decode cX5_makeKidRoom 33 = .ok (.iload_n 2, 1) := by decide +kernel
theorem dX5_makeKidRoom_34 : decode cX5_makeKidRoom 34 = .ok (.aload_n 0, 1) := by decide +kernel
theorem dX5_makeKidRoom_35 : decode cX5_makeKidRoom 35 = .ok (.getfield 32, 3) := by decide +kernel
theorem dX5_makeKidRoom_38 : decode cX5_makeKidRoom 38 = .ok (.getfield 164, 3) := by decide +kernel
theorem dX5_makeKidRoom_41 : decode cX5_makeKidRoom 41 = .ok (.arraylength, 1) := by decide +kernel
theorem dX5_makeKidRoom_42 : decode cX5_makeKidRoom 42 = .ok (.if_icmp .le 15, 3) := by decide +kernel
theorem dX5_makeKidRoom_45 : decode cX5_makeKidRoom 45 = .ok (.aload_n 0, 1) := by decide +kernel
theorem dX5_makeKidRoom_46 : decode cX5_makeKidRoom 46 = .ok (.new 15, 3) := by decide +kernel
theorem dX5_makeKidRoom_49 : decode cX5_makeKidRoom 49 = .ok (.dup, 1) := by decide +kernel
theorem dX5_makeKidRoom_50 : decode cX5_makeKidRoom 50 = .ok (.iload_n 2, 1) := by decide +kernel
theorem dX5_makeKidRoom_51 : decode cX5_makeKidRoom 51 = .ok (.invokespecial 19, 3) := by decide +kernel
theorem dX5_makeKidRoom_54 : decode cX5_makeKidRoom 54 = .ok (.putfield 32, 3) := by decide +kernel
theorem dX5_makeKidRoom_57 : decode cX5_makeKidRoom 57 = .ok (.return_, 1) := by decide +kernel
theorem mB_X5_makeKidRoom_42 {G : mG} {F : Nat} {M0 : mM} {Z0 S0 : Nat} {l0 : Nat} {l2 : Int32} {sk0 : Int32} {sk1 : Int32} {M : mM} {sz : Nat} {sl : Nat} (h : B_X5_makeKidRoom_42 G F l0 l2 sk0 sk1 M sz sl = some (M0, Z0, S0)) : sz ≤ Z0 ∧ sl ≤ S0 := by
  unfold B_X5_makeKidRoom_42 at h
  by_cases q : sk0 ≤ sk1
  · replace h := (if_pos q).symm.trans h
    have q := retA_v h
    omega
  · replace h := (if_neg q).symm.trans h
    obtain ⟨M46, ⟨⟩, h⟩ := bO_some h
    obtain ⟨M51, z51, k51, e51, h⟩ := bA_some h
    have g51 := mP_X0_init e51
    obtain ⟨M54, e54, h⟩ := bO_some h
    have q := retA_v h
    omega
set_option maxHeartbeats 4000000 in
set_option maxRecDepth 100000 in
theorem wB_X5_makeKidRoom_42 {G : mG} {F : Nat} {x : mXT} {z0 s0 : Nat} {M0 : mM} {Z0 S0 : Nat} (X : mCX G RX5 cX5_makeKidRoom 3 none "makeKidRoom" { frames := 2, cells := Z0 - z0, slots := S0 - s0, locals := 42 } x) (hQ : mQV x M0 (Z0, Z0 - z0, S0 - s0)) {l0 : Nat} {l2 : Int32} {sk0 : Int32} {sk1 : Int32} {M : mM} {sz : Nat} {sl : Nat} (hz0 : z0 ≤ sz) (hs0 : s0 ≤ sl) (h : B_X5_makeKidRoom_42 G F l0 l2 sk0 sk1 M sz sl = some (M0, Z0, S0)) : WW x (sz, sz - z0, sl - s0) M 42 [(0, .ref l0), (2, .int l2)] [.int sk1, .int sk0] := by
  unfold B_X5_makeKidRoom_42 at h
  refine ww_icmp_le 42 57 X dX5_makeKidRoom_42 (by decide) (fun q => ?_) (fun q => ?_)
  · replace h := (if_pos q).symm.trans h
    have q := retA_v h
    exact ww_vretA 57 X hQ dX5_makeKidRoom_57 h
  · replace h := (if_neg q).symm.trans h
    obtain ⟨M46, ⟨⟩, h⟩ := bO_some h
    obtain ⟨M51, z51, k51, e51, h⟩ := bA_some h
    have g51 := mP_X0_init e51
    obtain ⟨M54, e54, h⟩ := bO_some h
    have q := retA_v h
    refine ww_aload_n 45 X dX5_makeKidRoom_45 0 rfl rfl ?_
    refine ww_newO 46 X (sz := sz) (sl := sl) (z0 := z0) (s0 := s0) dX5_makeKidRoom_46 nW_X5_15 (by omega) (by omega) (by show _ ≤ Z0 - z0; omega) (by show _ ≤ S0 - s0; omega) ?_
    refine ww_dup 49 X dX5_makeKidRoom_49 rfl ?_
    refine ww_iload_n 50 X dX5_makeKidRoom_50 1 rfl rfl ?_
    refine ww_callIVa 51 X (sz := (sz + 1)) (sl := (sl + 3)) (z0 := z0) (s0 := s0) dX5_makeKidRoom_51 mY_X0_init mL_X5_19 (As := [.int l2]) (rest := [.ref sz, .ref l0]) rfl rfl ⟨Nat.le_of_ble_eq_true rfl, Nat.le_of_ble_eq_true rfl⟩ (by omega) (by omega) (by omega) (by omega) (by show _ ≤ Z0 - z0; omega) (by show _ ≤ S0 - s0; omega) (Nat.le_of_ble_eq_true rfl) (fun l D A => c_X0_init l D A e51) ?_
    refine ww_putR 54 X dX5_makeKidRoom_54 (fP_X5_32 _) e54 rfl rfl ?_
    exact ww_vretA 57 X hQ dX5_makeKidRoom_57 h
theorem mB_X5_makeKidRoom_23 {G : mG} {F : Nat} {M0 : mM} {Z0 S0 : Nat} (r14 : Nat → Int32 → Int32 → mM → Nat → Nat → Option (mM × Nat × Nat)) (hm14 : ∀ (l0 : Nat) (l1 : Int32) (l2 : Int32) (M : mM) (sz : Nat) (sl : Nat), r14 l0 l1 l2 M sz sl = some (M0, Z0, S0) → sz ≤ Z0 ∧ sl ≤ S0) {l0 : Nat} {l1 : Int32} {l2 : Int32} {sk0 : Int32} {sk1 : Int32} {M : mM} {sz : Nat} {sl : Nat} (h : B_X5_makeKidRoom_23 G F r14 l0 l1 l2 sk0 sk1 M sz sl = some (M0, Z0, S0)) : sz ≤ Z0 ∧ sl ≤ S0 := by
  unfold B_X5_makeKidRoom_23 at h
  by_cases q : sk1 ≤ sk0
  · replace h := (if_pos q).symm.trans h
    obtain ⟨v35, e35, h⟩ := bO_some h
    obtain ⟨v38, e38, h⟩ := bO_some h
    obtain ⟨v41, e41, h⟩ := bO_some h
    have q := mB_X5_makeKidRoom_42 h
    omega
  · replace h := (if_neg q).symm.trans h
    have q := hm14 _ _ _ _ _ _ h
    omega
set_option maxHeartbeats 4000000 in
set_option maxRecDepth 100000 in
theorem wB_X5_makeKidRoom_23 {G : mG} {F : Nat} {x : mXT} {z0 s0 : Nat} {M0 : mM} {Z0 S0 : Nat} (X : mCX G RX5 cX5_makeKidRoom 3 none "makeKidRoom" { frames := 2, cells := Z0 - z0, slots := S0 - s0, locals := 42 } x) (hQ : mQV x M0 (Z0, Z0 - z0, S0 - s0)) (r14 : Nat → Int32 → Int32 → mM → Nat → Nat → Option (mM × Nat × Nat)) (hm14 : ∀ (l0 : Nat) (l1 : Int32) (l2 : Int32) (M : mM) (sz : Nat) (sl : Nat), r14 l0 l1 l2 M sz sl = some (M0, Z0, S0) → sz ≤ Z0 ∧ sl ≤ S0) (hr14 : ∀ (l0 : Nat) (l1 : Int32) (l2 : Int32) (M : mM) (sz : Nat) (sl : Nat), z0 ≤ sz → s0 ≤ sl → r14 l0 l1 l2 M sz sl = some (M0, Z0, S0) → WW x (sz, sz - z0, sl - s0) M 14 [(0, .ref l0), (1, .int l1), (2, .int l2)] []) {l0 : Nat} {l1 : Int32} {l2 : Int32} {sk0 : Int32} {sk1 : Int32} {M : mM} {sz : Nat} {sl : Nat} (hz0 : z0 ≤ sz) (hs0 : s0 ≤ sl) (h : B_X5_makeKidRoom_23 G F r14 l0 l1 l2 sk0 sk1 M sz sl = some (M0, Z0, S0)) : WW x (sz, sz - z0, sl - s0) M 23 [(0, .ref l0), (1, .int l1), (2, .int l2)] [.int sk1, .int sk0] := by
  unfold B_X5_makeKidRoom_23 at h
  refine ww_icmp_ge 23 33 X dX5_makeKidRoom_23 (by decide) (fun q => ?_) (fun q => ?_)
  · replace h := (if_pos q).symm.trans h
    obtain ⟨v35, e35, h⟩ := bO_some h
    obtain ⟨v38, e38, h⟩ := bO_some h
    obtain ⟨v41, e41, h⟩ := bO_some h
    have q := mB_X5_makeKidRoom_42 h
    refine ww_iload_n 33 X dX5_makeKidRoom_33 2 rfl rfl ?_
    refine ww_aload_n 34 X dX5_makeKidRoom_34 0 rfl rfl ?_
    refine ww_getR 35 X dX5_makeKidRoom_35 fG_X5_32 e35 ?_
    refine ww_getR 38 X dX5_makeKidRoom_38 fG_X5_164 e38 ?_
    refine ww_alen 41 X dX5_makeKidRoom_41 e41 ?_
    exact ww_sub [0, 2] rfl (wB_X5_makeKidRoom_42 X hQ (by omega) (by omega) h)
  · replace h := (if_neg q).symm.trans h
    have q := hm14 _ _ _ _ _ _ h
    refine ww_iload_n 26 X dX5_makeKidRoom_26 2 rfl rfl ?_
    refine ww_iconst 27 X (v := (2 : Int32)) dX5_makeKidRoom_27 (by decide) ?_
    refine ww_imul 28 X dX5_makeKidRoom_28 ?_
    refine ww_istore_n 29 X dX5_makeKidRoom_29 (lv' := [(0, .ref l0), (1, .int l1), (2, .int (l2 * (2 : Int32)))]) rfl (by decide) [1, 2, 0] rfl ?_
    refine ww_goto 30 14 X dX5_makeKidRoom_30 (by decide) ?_
    exact (hr14 _ _ _ _ _ _ (by omega) (by omega) h)
theorem mB_X5_makeKidRoom_16 {G : mG} {F : Nat} {M0 : mM} {Z0 S0 : Nat} (r14 : Nat → Int32 → Int32 → mM → Nat → Nat → Option (mM × Nat × Nat)) (hm14 : ∀ (l0 : Nat) (l1 : Int32) (l2 : Int32) (M : mM) (sz : Nat) (sl : Nat), r14 l0 l1 l2 M sz sl = some (M0, Z0, S0) → sz ≤ Z0 ∧ sl ≤ S0) {l0 : Nat} {l1 : Int32} {l2 : Int32} {sk0 : Int32} {sk1 : Int32} {M : mM} {sz : Nat} {sl : Nat} (h : B_X5_makeKidRoom_16 G F r14 l0 l1 l2 sk0 sk1 M sz sl = some (M0, Z0, S0)) : sz ≤ Z0 ∧ sl ≤ S0 := by
  unfold B_X5_makeKidRoom_16 at h
  by_cases q : sk1 ≤ sk0
  · replace h := (if_pos q).symm.trans h
    obtain ⟨v35, e35, h⟩ := bO_some h
    obtain ⟨v38, e38, h⟩ := bO_some h
    obtain ⟨v41, e41, h⟩ := bO_some h
    have q := mB_X5_makeKidRoom_42 h
    omega
  · replace h := (if_neg q).symm.trans h
    have q := mB_X5_makeKidRoom_23 _ hm14 h
    omega
set_option maxHeartbeats 4000000 in
set_option maxRecDepth 100000 in
theorem wB_X5_makeKidRoom_16 {G : mG} {F : Nat} {x : mXT} {z0 s0 : Nat} {M0 : mM} {Z0 S0 : Nat} (X : mCX G RX5 cX5_makeKidRoom 3 none "makeKidRoom" { frames := 2, cells := Z0 - z0, slots := S0 - s0, locals := 42 } x) (hQ : mQV x M0 (Z0, Z0 - z0, S0 - s0)) (r14 : Nat → Int32 → Int32 → mM → Nat → Nat → Option (mM × Nat × Nat)) (hm14 : ∀ (l0 : Nat) (l1 : Int32) (l2 : Int32) (M : mM) (sz : Nat) (sl : Nat), r14 l0 l1 l2 M sz sl = some (M0, Z0, S0) → sz ≤ Z0 ∧ sl ≤ S0) (hr14 : ∀ (l0 : Nat) (l1 : Int32) (l2 : Int32) (M : mM) (sz : Nat) (sl : Nat), z0 ≤ sz → s0 ≤ sl → r14 l0 l1 l2 M sz sl = some (M0, Z0, S0) → WW x (sz, sz - z0, sl - s0) M 14 [(0, .ref l0), (1, .int l1), (2, .int l2)] []) {l0 : Nat} {l1 : Int32} {l2 : Int32} {sk0 : Int32} {sk1 : Int32} {M : mM} {sz : Nat} {sl : Nat} (hz0 : z0 ≤ sz) (hs0 : s0 ≤ sl) (h : B_X5_makeKidRoom_16 G F r14 l0 l1 l2 sk0 sk1 M sz sl = some (M0, Z0, S0)) : WW x (sz, sz - z0, sl - s0) M 16 [(0, .ref l0), (1, .int l1), (2, .int l2)] [.int sk1, .int sk0] := by
  unfold B_X5_makeKidRoom_16 at h
  refine ww_icmp_ge 16 33 X dX5_makeKidRoom_16 (by decide) (fun q => ?_) (fun q => ?_)
  · replace h := (if_pos q).symm.trans h
    obtain ⟨v35, e35, h⟩ := bO_some h
    obtain ⟨v38, e38, h⟩ := bO_some h
    obtain ⟨v41, e41, h⟩ := bO_some h
    have q := mB_X5_makeKidRoom_42 h
    refine ww_iload_n 33 X dX5_makeKidRoom_33 2 rfl rfl ?_
    refine ww_aload_n 34 X dX5_makeKidRoom_34 0 rfl rfl ?_
    refine ww_getR 35 X dX5_makeKidRoom_35 fG_X5_32 e35 ?_
    refine ww_getR 38 X dX5_makeKidRoom_38 fG_X5_164 e38 ?_
    refine ww_alen 41 X dX5_makeKidRoom_41 e41 ?_
    exact ww_sub [0, 2] rfl (wB_X5_makeKidRoom_42 X hQ (by omega) (by omega) h)
  · replace h := (if_neg q).symm.trans h
    have q := mB_X5_makeKidRoom_23 _ hm14 h
    refine ww_iload_n 19 X dX5_makeKidRoom_19 2 rfl rfl ?_
    refine ww_sipush 20 X (v := (8192 : Int32)) dX5_makeKidRoom_20 (by decide) ?_
    exact (wB_X5_makeKidRoom_23 X hQ _ hm14 hr14 (by omega) (by omega) h)
theorem mB_X5_makeKidRoom_14 {G : mG} {F : Nat} {M0 : mM} {Z0 S0 : Nat} : ∀ (n : Nat) (l0 : Nat) (l1 : Int32) (l2 : Int32) (M : mM) (sz : Nat) (sl : Nat), B_X5_makeKidRoom_14 G F n l0 l1 l2 M sz sl = some (M0, Z0, S0) → sz ≤ Z0 ∧ sl ≤ S0 := by
  intro n
  induction n with
  | zero =>
    intro l0 l1 l2 M sz sl h
    exact nomatch (show (none : Option (mM × Nat × Nat)) = some (M0, Z0, S0) from h)
  | succ n ih =>
    intro l0 l1 l2 M sz sl h
    rw [B_X5_makeKidRoom_14] at h
    have q := mB_X5_makeKidRoom_16 _ ih h
    omega
set_option maxHeartbeats 4000000 in
set_option maxRecDepth 100000 in
theorem wB_X5_makeKidRoom_14 {G : mG} {F : Nat} {x : mXT} {z0 s0 : Nat} {M0 : mM} {Z0 S0 : Nat} (X : mCX G RX5 cX5_makeKidRoom 3 none "makeKidRoom" { frames := 2, cells := Z0 - z0, slots := S0 - s0, locals := 42 } x) (hQ : mQV x M0 (Z0, Z0 - z0, S0 - s0)) : ∀ (n : Nat) (l0 : Nat) (l1 : Int32) (l2 : Int32) (M : mM) (sz : Nat) (sl : Nat), z0 ≤ sz → s0 ≤ sl → B_X5_makeKidRoom_14 G F n l0 l1 l2 M sz sl = some (M0, Z0, S0) → WW x (sz, sz - z0, sl - s0) M 14 [(0, .ref l0), (1, .int l1), (2, .int l2)] [] := by
  intro n
  induction n with
  | zero =>
    intro l0 l1 l2 M sz sl hz0 hs0 h
    exact nomatch (show (none : Option (mM × Nat × Nat)) = some (M0, Z0, S0) from h)
  | succ n ih =>
    intro l0 l1 l2 M sz sl hz0 hs0 h
    rw [B_X5_makeKidRoom_14] at h
    have q := mB_X5_makeKidRoom_16 _ (mB_X5_makeKidRoom_14 n) h
    refine ww_iload_n 14 X dX5_makeKidRoom_14 2 rfl rfl ?_
    refine ww_iload_n 15 X dX5_makeKidRoom_15 1 rfl rfl ?_
    exact (wB_X5_makeKidRoom_16 X hQ _ (mB_X5_makeKidRoom_14 n) ih (by omega) (by omega) h)
theorem mP_X5_makeKidRoom {G : mG} {F : Nat} {M0 : mM} {Z0 S0 : Nat} {l0 : Nat} {l1 : Int32} {M : mM} {sz : Nat} {sl : Nat} (h : P_X5_makeKidRoom G F l0 l1 M sz sl = some (M0, Z0, S0)) : sz ≤ Z0 ∧ sl ≤ S0 := by
  unfold P_X5_makeKidRoom at h
  obtain ⟨v1, e1, h⟩ := bO_some h
  obtain ⟨v4, e4, h⟩ := bO_some h
  obtain ⟨v7, e7, h⟩ := bO_some h
  have q := mB_X5_makeKidRoom_14 F _ _ _ _ _ _ h
  omega
set_option maxHeartbeats 4000000 in
set_option maxRecDepth 100000 in
theorem wP_X5_makeKidRoom {G : mG} {F : Nat} {x : mXT} {z0 s0 : Nat} {M0 : mM} {Z0 S0 : Nat} (X : mCX G RX5 cX5_makeKidRoom 3 none "makeKidRoom" { frames := 2, cells := Z0 - z0, slots := S0 - s0, locals := 42 } x) (hQ : mQV x M0 (Z0, Z0 - z0, S0 - s0)) {l0 : Nat} {l1 : Int32} {M : mM} {sz : Nat} {sl : Nat} (hz0 : z0 ≤ sz) (hs0 : s0 ≤ sl) (h : P_X5_makeKidRoom G F l0 l1 M sz sl = some (M0, Z0, S0)) : WW x (sz, sz - z0, sl - s0) M 0 [(0, .ref l0), (1, .int l1)] [] := by
  unfold P_X5_makeKidRoom at h
  obtain ⟨v1, e1, h⟩ := bO_some h
  obtain ⟨v4, e4, h⟩ := bO_some h
  obtain ⟨v7, e7, h⟩ := bO_some h
  have q := mB_X5_makeKidRoom_14 F _ _ _ _ _ _ h
  refine ww_aload_n 0 X dX5_makeKidRoom_0 0 rfl rfl ?_
  refine ww_getR 1 X dX5_makeKidRoom_1 fG_X5_32 e1 ?_
  refine ww_getR 4 X dX5_makeKidRoom_4 fG_X5_164 e4 ?_
  refine ww_alen 7 X dX5_makeKidRoom_7 e7 ?_
  refine ww_bipush 8 X (v := (64 : Int32)) dX5_makeKidRoom_8 (by decide) ?_
  refine ww_mmax 10 X (st := []) dX5_makeKidRoom_10 mL_X5_167 (Nat.le_of_ble_eq_true rfl) (Nat.le_of_ble_eq_true rfl) (Nat.le_of_ble_eq_true rfl) ⟨by show _ ≤ Z0 - z0; dsimp only; omega, by show _ ≤ S0 - s0; dsimp only; omega⟩ ?_
  refine ww_istore_n 13 X dX5_makeKidRoom_13 (lv' := [(0, .ref l0), (1, .int l1), (2, .int (if v7 < (64 : Int32) then (64 : Int32) else v7))]) rfl (by decide) [1, 2, 0] rfl ?_
  exact (wB_X5_makeKidRoom_14 X hQ F _ _ _ _ _ _ (by omega) (by omega) h)
theorem c_X5_makeKidRoom {G : mG} {F : Nat} {M0 : mM} {Z0 S0 : Nat} (l : Launch) (D : mD) (A : Nat → Prop) {l0 : Nat} {l1 : Int32} {M : mM} {sz : Nat} {sl : Nat} (h : P_X5_makeKidRoom G F l0 l1 M sz sl = some (M0, Z0, S0)) : mMetV l D G A yX5_makeKidRoom cX5_makeKidRoom 3 none 2 42 (Z0 - sz) (S0 - sl) [.ref l0, .int l1] M sz M0 Z0 := mMetV_of l D G A (by decide) (Nat.le_of_ble_eq_true rfl) (fun x X hQ => by have K := wP_X5_makeKidRoom X hQ (Nat.le_refl sz) (Nat.le_refl sl) h; rw [Nat.sub_self, Nat.sub_self] at K; exact K)
/-! SealedTokens$Key.takeUse(LSealedTokens$Text;)V -/
theorem dX5_takeUse_0 : decode cX5_takeUse 0 = .ok (.aload_n 1, 1) := by decide +kernel
theorem dX5_takeUse_1 : decode cX5_takeUse 1 = .ok (.iconst 0, 1) := by decide +kernel
theorem dX5_takeUse_2 : decode cX5_takeUse 2 = .ok (.ldc 65, 2) := by decide +kernel
theorem dX5_takeUse_4 : decode cX5_takeUse 4 = .ok (.invokevirtual 43, 3) := by decide +kernel
theorem dX5_takeUse_7 : decode cX5_takeUse 7 = .ok (.istore_n 2, 1) := by decide +kernel
theorem dX5_takeUse_8 : decode cX5_takeUse 8 = .ok (.aload_n 0, 1) := by decide +kernel
theorem dX5_takeUse_9 : decode cX5_takeUse 9 = .ok (.iload_n 2, 1) := by decide +kernel
theorem dX5_takeUse_10 : decode cX5_takeUse 10 = .ok (.iconst (-1), 1) := by decide +kernel
theorem dX5_takeUse_11 : decode cX5_takeUse 11 = .ok (.if_icmp .ne 7, 3) := by decide +kernel
theorem dX5_takeUse_14 : decode cX5_takeUse 14 = .ok (.iconst 0, 1) := by decide +kernel
theorem dX5_takeUse_15 : decode cX5_takeUse 15 = .ok (.goto 32, 3) := by decide +kernel
theorem dX5_takeUse_18 : decode cX5_takeUse 18 = .ok (.aload_n 1, 1) := by decide +kernel
theorem dX5_takeUse_19 : decode cX5_takeUse 19 = .ok (.iload_n 2, 1) := by decide +kernel
theorem dX5_takeUse_20 : decode cX5_takeUse 20 = .ok (.ldc 134, 2) := by decide +kernel
theorem dX5_takeUse_22 : decode cX5_takeUse 22 = .ok (.invokevirtual 49, 3) := by decide +kernel
theorem dX5_takeUse_25 : decode cX5_takeUse 25 = .ok (.ifCond .eq 7, 3) := by decide +kernel
theorem dX5_takeUse_28 : decode cX5_takeUse 28 = .ok (.iconst 1, 1) := by decide +kernel
theorem dX5_takeUse_29 : decode cX5_takeUse 29 = .ok (.goto 18, 3) := by decide +kernel
theorem dX5_takeUse_32 : decode cX5_takeUse 32 = .ok (.aload_n 1, 1) := by decide +kernel
theorem dX5_takeUse_33 : decode cX5_takeUse 33 = .ok (.iload_n 2, 1) := by decide +kernel
theorem dX5_takeUse_34 : decode cX5_takeUse 34 = .ok (.ldc 136, 2) := by decide +kernel
theorem dX5_takeUse_36 : decode cX5_takeUse 36 = .ok (.invokevirtual 49, 3) := by decide +kernel
theorem dX5_takeUse_39 : decode cX5_takeUse 39 = .ok (.ifCond .eq 7, 3) := by decide +kernel
theorem dX5_takeUse_42 : decode cX5_takeUse 42 = .ok (.iconst 2, 1) := by decide +kernel
theorem dX5_takeUse_43 : decode cX5_takeUse 43 = .ok (.goto 4, 3) := by decide +kernel
theorem dX5_takeUse_46 : decode cX5_takeUse 46 = .ok (.iconst 3, 1) := by decide +kernel
theorem dX5_takeUse_47 : decode cX5_takeUse 47 = .ok (.putfield 138, 3) := by decide +kernel
theorem dX5_takeUse_50 : decode cX5_takeUse 50 = .ok (.aload_n 1, 1) := by decide +kernel
theorem dX5_takeUse_51 : decode cX5_takeUse 51 = .ok (.iconst 0, 1) := by decide +kernel
theorem dX5_takeUse_52 : decode cX5_takeUse 52 = .ok (.ldc 67, 2) := by decide +kernel
theorem dX5_takeUse_54 : decode cX5_takeUse 54 = .ok (.invokevirtual 43, 3) := by decide +kernel
theorem dX5_takeUse_57 : decode cX5_takeUse 57 = .ok (.istore_n 3, 1) := by decide +kernel
theorem dX5_takeUse_58 : decode cX5_takeUse 58 = .ok (.aload_n 0, 1) := by decide +kernel
theorem dX5_takeUse_59 : decode cX5_takeUse 59 = .ok (.iload_n 3, 1) := by decide +kernel
theorem dX5_takeUse_60 : decode cX5_takeUse 60 = .ok (.iconst (-1), 1) := by decide +kernel
theorem dX5_takeUse_61 : decode cX5_takeUse 61 = .ok (.if_icmp .ne 7, 3) := by decide +kernel
theorem dX5_takeUse_64 : decode cX5_takeUse 64 = .ok (.iconst (-1), 1) := by decide +kernel
theorem dX5_takeUse_65 : decode cX5_takeUse 65 = .ok (.goto 5, 3) := by decide +kernel
theorem dX5_takeUse_68 : decode cX5_takeUse 68 = .ok (.bipush 11, 2) := by decide +kernel
theorem dX5_takeUse_70 : decode cX5_takeUse 70 = .ok (.putfield 9, 3) := by decide +kernel
theorem dX5_takeUse_73 : decode cX5_takeUse 73 = .ok (.iconst 0, 1) := by decide +kernel
theorem dX5_takeUse_74 : decode cX5_takeUse 74 = .ok (.istore 4, 2) := by decide +kernel
theorem dX5_takeUse_76 : decode cX5_takeUse 76 = .ok (.iload 4, 2) := by decide +kernel
theorem dX5_takeUse_78 : decode cX5_takeUse 78 = .ok (.bipush 11, 2) := by decide +kernel
theorem dX5_takeUse_80 : decode cX5_takeUse 80 = .ok (.if_icmp .ge 28, 3) := by decide +kernel
theorem dX5_takeUse_83 : decode cX5_takeUse 83 = .ok (.aload_n 1, 1) := by decide +kernel
theorem dX5_takeUse_84 : decode cX5_takeUse 84 = .ok (.iload_n 3, 1) := by decide +kernel
theorem dX5_takeUse_85 : decode cX5_takeUse 85 = .ok (.iload 4, 2) := by decide +kernel
theorem dX5_takeUse_87 : decode cX5_takeUse 87 = .ok (.invokestatic 140, 3) := by decide +kernel
theorem dX5_takeUse_90 : decode cX5_takeUse 90 = .ok (.invokevirtual 49, 3) := by decide +kernel
theorem dX5_takeUse_93 : decode cX5_takeUse 93 = .ok (.ifCond .eq 9, 3) := by decide +kernel
theorem dX5_takeUse_96 : decode cX5_takeUse 96 = .ok (.aload_n 0, 1) := by decide +kernel
theorem dX5_takeUse_97 : decode cX5_takeUse 97 = .ok (.iload 4, 2) := by decide +kernel
theorem dX5_takeUse_99 : decode cX5_takeUse 99 = .ok (.putfield 9, 3) := by decide +kernel
theorem dX5_takeUse_102 : decode cX5_takeUse 102 = .ok (.iinc 4 1, 3) := by decide +kernel
theorem dX5_takeUse_105 : decode cX5_takeUse 105 = .ok (.goto (-29), 3) := by decide +kernel
theorem dX5_takeUse_108 : decode cX5_takeUse 108 = .ok (.aload_n 1, 1) := by decide +kernel
theorem dX5_takeUse_109 : decode cX5_takeUse 109 = .ok (.iconst 0, 1) := by decide +kernel
theorem dX5_takeUse_110 : decode cX5_takeUse 110 = .ok (.ldc 60, 2) := by decide +kernel
theorem dX5_takeUse_112 : decode cX5_takeUse 112 = .ok (.invokevirtual 43, 3) := by decide +kernel
theorem dX5_takeUse_115 : decode cX5_takeUse 115 = .ok (.istore 4, 2) := by decide +kernel
theorem dX5_takeUse_117 : decode cX5_takeUse 117 = .ok (.aload_n 0, 1) := by decide +kernel
theorem dX5_takeUse_118 : decode cX5_takeUse 118 = .ok (.iload 4, 2) := by decide +kernel
theorem dX5_takeUse_120 : decode cX5_takeUse 120 = .ok (.iconst (-1), 1) := by decide +kernel
theorem dX5_takeUse_121 : decode cX5_takeUse 121 = .ok (.if_icmp .eq 7, 3) := by decide +kernel
theorem dX5_takeUse_124 : decode cX5_takeUse 124 = .ok (.iconst 1, 1) := by decide +kernel
theorem dX5_takeUse_125 : decode cX5_takeUse 125 = .ok (.goto 4, 3) := by decide +kernel
theorem dX5_takeUse_128 : decode cX5_takeUse 128 = .ok (.iconst 0, 1) := by decide +kernel
theorem dX5_takeUse_129 : decode cX5_takeUse 129 = .ok (.putfield 144, 3) := by decide +kernel
theorem dX5_takeUse_132 : decode cX5_takeUse 132 = .ok (.aload_n 0, 1) := by decide +kernel
theorem dX5_takeUse_133 : decode cX5_takeUse 133 = .ok (.getfield 32, 3) := by decide +kernel
theorem dX5_takeUse_136 : decode cX5_takeUse 136 = .ok (.invokevirtual 78, 3) := by decide +kernel
theorem dX5_takeUse_139 : decode cX5_takeUse 139 = .ok (.aload_n 0, 1) := by decide +kernel
theorem dX5_takeUse_140 : decode cX5_takeUse 140 = .ok (.getfield 144, 3) := by decide +kernel
theorem dX5_takeUse_143 : decode cX5_takeUse 143 = .ok (.ifCond .eq 39, 3) := by decide +kernel
theorem dX5_takeUse_146 : decode cX5_takeUse 146 = .ok (.aload_n 0, 1) := by decide +kernel
theorem dX5_takeUse_147 : decode cX5_takeUse 147 = .ok (.aload_n 1, 1) := by decide +kernel
theorem dX5_takeUse_148 : decode cX5_takeUse 148 = .ok (.getfield 147, 3) := by decide +kernel
theorem dX5_takeUse_151 : decode cX5_takeUse 151 = .ok (.iload 4, 2) := by decide +kernel
theorem dX5_takeUse_153 : decode cX5_takeUse 153 = .ok (.iaload, 1) := by decide +kernel
theorem dX5_takeUse_154 : decode cX5_takeUse 154 = .ok (.invokevirtual 151, 3) := by decide +kernel
theorem dX5_takeUse_157 : decode cX5_takeUse 157 = .ok (.aload_n 0, 1) := by decide +kernel
theorem dX5_takeUse_158 : decode cX5_takeUse 158 = .ok (.getfield 32, 3) := by decide +kernel
theorem dX5_takeUse_161 : decode cX5_takeUse 161 = .ok (.aload_n 1, 1) := by decide +kernel
theorem dX5_takeUse_162 : decode cX5_takeUse 162 = .ok (.getfield 154, 3) := by decide +kernel
theorem dX5_takeUse_165 : decode cX5_takeUse 165 = .ok (.aload_n 1, 1) := by decide +kernel
theorem dX5_takeUse_166 : decode cX5_takeUse 166 = .ok (.getfield 157, 3) := by decide +kernel
theorem dX5_takeUse_169 : decode cX5_takeUse 169 = .ok (.iload 4, 2) := by decide +kernel
theorem dX5_takeUse_171 : decode cX5_takeUse 171 = .ok (.iaload, 1) := by decide +kernel
theorem dX5_takeUse_172 : decode cX5_takeUse 172 = .ok (.aload_n 1, 1) := by decide +kernel
theorem dX5_takeUse_173 : decode cX5_takeUse 173 = .ok (.getfield 147, 3) := by decide +kernel
theorem dX5_takeUse_176 : decode cX5_takeUse 176 = .ok (.iload 4, 2) := by decide +kernel
theorem dX5_takeUse_178 : decode cX5_takeUse 178 = .ok (.iaload, 1) := by decide +kernel
theorem dX5_takeUse_179 : decode cX5_takeUse 179 = .ok (.invokevirtual 160, 3) := by decide +kernel
theorem dX5_takeUse_182 : decode cX5_takeUse 182 = .ok (.return_, 1) := by decide +kernel
theorem mB_X5_takeUse_143 {G : mG} {F : Nat} {M0 : mM} {Z0 S0 : Nat} {l0 : Nat} {l1 : Nat} {l4 : Int32} {sk0 : Int32} {M : mM} {sz : Nat} {sl : Nat} (h : B_X5_takeUse_143 G F l0 l1 l4 sk0 M sz sl = some (M0, Z0, S0)) : sz ≤ Z0 ∧ sl ≤ S0 := by
  unfold B_X5_takeUse_143 at h
  by_cases q : sk0 = 0
  · replace h := (if_pos q).symm.trans h
    have q := retA_v h
    omega
  · replace h := (if_neg q).symm.trans h
    obtain ⟨v148, e148, h⟩ := bO_some h
    obtain ⟨v153, e153, h⟩ := bO_some h
    obtain ⟨_, f154, h⟩ := bO_some h
    obtain ⟨M154, z154, k154, e154, h⟩ := bA_some h
    have g154 := mP_X5_makeKidRoom e154
    obtain ⟨v158, e158, h⟩ := bO_some h
    obtain ⟨v162, e162, h⟩ := bO_some h
    obtain ⟨v166, e166, h⟩ := bO_some h
    obtain ⟨v171, e171, h⟩ := bO_some h
    obtain ⟨v173, e173, h⟩ := bO_some h
    obtain ⟨v178, e178, h⟩ := bO_some h
    obtain ⟨_, f179, h⟩ := bO_some h
    obtain ⟨M179, e179, h⟩ := bO_some h
    have q := retA_v h
    omega
set_option maxHeartbeats 4000000 in
set_option maxRecDepth 100000 in
theorem wB_X5_takeUse_143 {G : mG} {F : Nat} {x : mXT} {z0 s0 : Nat} {M0 : mM} {Z0 S0 : Nat} (X : mCX G RX5 cX5_takeUse 5 none "takeUse" { frames := 6, cells := Z0 - z0, slots := S0 - s0, locals := 132 } x) (hQ : mQV x M0 (Z0, Z0 - z0, S0 - s0)) {l0 : Nat} {l1 : Nat} {l4 : Int32} {sk0 : Int32} {M : mM} {sz : Nat} {sl : Nat} (hz0 : z0 ≤ sz) (hs0 : s0 ≤ sl) (h : B_X5_takeUse_143 G F l0 l1 l4 sk0 M sz sl = some (M0, Z0, S0)) : WW x (sz, sz - z0, sl - s0) M 143 [(0, .ref l0), (1, .ref l1), (4, .int l4)] [.int sk0] := by
  unfold B_X5_takeUse_143 at h
  refine ww_if_eq 143 182 X dX5_takeUse_143 (by decide) (fun q => ?_) (fun q => ?_)
  · replace h := (if_pos q).symm.trans h
    have q := retA_v h
    exact ww_vretA 182 X hQ dX5_takeUse_182 h
  · replace h := (if_neg q).symm.trans h
    obtain ⟨v148, e148, h⟩ := bO_some h
    obtain ⟨v153, e153, h⟩ := bO_some h
    obtain ⟨_, f154, h⟩ := bO_some h
    obtain ⟨M154, z154, k154, e154, h⟩ := bA_some h
    have g154 := mP_X5_makeKidRoom e154
    obtain ⟨v158, e158, h⟩ := bO_some h
    obtain ⟨v162, e162, h⟩ := bO_some h
    obtain ⟨v166, e166, h⟩ := bO_some h
    obtain ⟨v171, e171, h⟩ := bO_some h
    obtain ⟨v173, e173, h⟩ := bO_some h
    obtain ⟨v178, e178, h⟩ := bO_some h
    obtain ⟨_, f179, h⟩ := bO_some h
    obtain ⟨M179, e179, h⟩ := bO_some h
    have q := retA_v h
    refine ww_aload_n 146 X dX5_takeUse_146 0 rfl rfl ?_
    refine ww_aload_n 147 X dX5_takeUse_147 1 rfl rfl ?_
    refine ww_getR 148 X dX5_takeUse_148 fG_X5_147 e148 ?_
    refine ww_iload 151 X dX5_takeUse_151 2 rfl ?_
    refine ww_iald 153 X dX5_takeUse_153 e153 ?_
    refine ww_callVVa 154 X (sz := sz) (sl := sl) (z0 := z0) (s0 := s0) dX5_takeUse_154 mY_X5_makeKidRoom mL_X5_151 (rcv_spec f154) ⟨_, _, rfl⟩ (by decide) (As := [.int v153]) (rest := []) rfl rfl ⟨Nat.le_of_ble_eq_true rfl, Nat.le_of_ble_eq_true rfl⟩ (by omega) (by omega) (by omega) (by omega) (by show _ ≤ Z0 - z0; omega) (by show _ ≤ S0 - s0; omega) (Nat.le_of_ble_eq_true rfl) (fun l D A => c_X5_makeKidRoom l D A e154) ?_
    refine ww_aload_n 157 X dX5_takeUse_157 0 rfl rfl ?_
    refine ww_getR 158 X dX5_takeUse_158 fG_X5_32 e158 ?_
    refine ww_aload_n 161 X dX5_takeUse_161 1 rfl rfl ?_
    refine ww_getR 162 X dX5_takeUse_162 fG_X5_154 e162 ?_
    refine ww_aload_n 165 X dX5_takeUse_165 1 rfl rfl ?_
    refine ww_getR 166 X dX5_takeUse_166 fG_X5_157 e166 ?_
    refine ww_iload 169 X dX5_takeUse_169 2 rfl ?_
    refine ww_iald 171 X dX5_takeUse_171 e171 ?_
    refine ww_aload_n 172 X dX5_takeUse_172 1 rfl rfl ?_
    refine ww_getR 173 X dX5_takeUse_173 fG_X5_147 e173 ?_
    refine ww_iload 176 X dX5_takeUse_176 2 rfl ?_
    refine ww_iald 178 X dX5_takeUse_178 e178 ?_
    refine ww_callVVz 179 X (sz := z154) (sl := k154) (z0 := z0) (s0 := s0) dX5_takeUse_179 mY_X0_putPart mL_X5_160 (rcv_spec f179) ⟨_, _, rfl⟩ (by decide) (As := [.ref v162, .int v171, .int v178]) (rest := []) rfl rfl ⟨Nat.le_of_ble_eq_true rfl, Nat.le_of_ble_eq_true rfl⟩ (by show _ ≤ Z0 - z0; omega) (by show _ ≤ S0 - s0; omega) (Nat.le_of_ble_eq_true rfl) (fun l D A => c_X0_putPart l D A e179) ?_
    exact ww_vretA 182 X hQ dX5_takeUse_182 h
theorem mB_X5_takeUse_121 {G : mG} {F : Nat} {M0 : mM} {Z0 S0 : Nat} {l0 : Nat} {l1 : Nat} {l4 : Int32} {sk0 : Nat} {sk1 : Int32} {sk2 : Int32} {M : mM} {sz : Nat} {sl : Nat} (h : B_X5_takeUse_121 G F l0 l1 l4 sk0 sk1 sk2 M sz sl = some (M0, Z0, S0)) : sz ≤ Z0 ∧ sl ≤ S0 := by
  unfold B_X5_takeUse_121 at h
  by_cases q : sk1 = sk2
  · replace h := (if_pos q).symm.trans h
    obtain ⟨M129, e129, h⟩ := bO_some h
    obtain ⟨v133, e133, h⟩ := bO_some h
    obtain ⟨_, f136, h⟩ := bO_some h
    obtain ⟨M136, e136, h⟩ := bO_some h
    obtain ⟨v140, e140, h⟩ := bO_some h
    have q := mB_X5_takeUse_143 h
    omega
  · replace h := (if_neg q).symm.trans h
    obtain ⟨M129, e129, h⟩ := bO_some h
    obtain ⟨v133, e133, h⟩ := bO_some h
    obtain ⟨_, f136, h⟩ := bO_some h
    obtain ⟨M136, e136, h⟩ := bO_some h
    obtain ⟨v140, e140, h⟩ := bO_some h
    have q := mB_X5_takeUse_143 h
    omega
set_option maxHeartbeats 4000000 in
set_option maxRecDepth 100000 in
theorem wB_X5_takeUse_121 {G : mG} {F : Nat} {x : mXT} {z0 s0 : Nat} {M0 : mM} {Z0 S0 : Nat} (X : mCX G RX5 cX5_takeUse 5 none "takeUse" { frames := 6, cells := Z0 - z0, slots := S0 - s0, locals := 132 } x) (hQ : mQV x M0 (Z0, Z0 - z0, S0 - s0)) {l0 : Nat} {l1 : Nat} {l4 : Int32} {sk0 : Nat} {sk1 : Int32} {sk2 : Int32} {M : mM} {sz : Nat} {sl : Nat} (hz0 : z0 ≤ sz) (hs0 : s0 ≤ sl) (h : B_X5_takeUse_121 G F l0 l1 l4 sk0 sk1 sk2 M sz sl = some (M0, Z0, S0)) : WW x (sz, sz - z0, sl - s0) M 121 [(0, .ref l0), (1, .ref l1), (4, .int l4)] [.int sk2, .int sk1, .ref sk0] := by
  unfold B_X5_takeUse_121 at h
  refine ww_icmp_eq 121 128 X dX5_takeUse_121 (by decide) (fun q => ?_) (fun q => ?_)
  · replace h := (if_pos q).symm.trans h
    obtain ⟨M129, e129, h⟩ := bO_some h
    obtain ⟨v133, e133, h⟩ := bO_some h
    obtain ⟨_, f136, h⟩ := bO_some h
    obtain ⟨M136, e136, h⟩ := bO_some h
    obtain ⟨v140, e140, h⟩ := bO_some h
    have q := mB_X5_takeUse_143 h
    refine ww_iconst 128 X (v := (0 : Int32)) dX5_takeUse_128 (by decide) ?_
    refine ww_putZ 129 X dX5_takeUse_129 (fP_X5_144 _) e129 ?_
    refine ww_aload_n 132 X dX5_takeUse_132 0 rfl rfl ?_
    refine ww_getR 133 X dX5_takeUse_133 fG_X5_32 e133 ?_
    refine ww_callVVz 136 X (sz := sz) (sl := sl) (z0 := z0) (s0 := s0) dX5_takeUse_136 mY_X0_clear mL_X5_78 (rcv_spec f136) ⟨_, _, rfl⟩ (by decide) (As := []) (rest := []) rfl rfl ⟨Nat.le_of_ble_eq_true rfl, Nat.le_of_ble_eq_true rfl⟩ (by show _ ≤ Z0 - z0; omega) (by show _ ≤ S0 - s0; omega) (Nat.le_of_ble_eq_true rfl) (fun l D A => c_X0_clear l D A e136) ?_
    refine ww_aload_n 139 X dX5_takeUse_139 0 rfl rfl ?_
    refine ww_getI 140 X dX5_takeUse_140 fG_X5_144 e140 ?_
    exact (wB_X5_takeUse_143 X hQ (by omega) (by omega) h)
  · replace h := (if_neg q).symm.trans h
    obtain ⟨M129, e129, h⟩ := bO_some h
    obtain ⟨v133, e133, h⟩ := bO_some h
    obtain ⟨_, f136, h⟩ := bO_some h
    obtain ⟨M136, e136, h⟩ := bO_some h
    obtain ⟨v140, e140, h⟩ := bO_some h
    have q := mB_X5_takeUse_143 h
    refine ww_iconst 124 X (v := (1 : Int32)) dX5_takeUse_124 (by decide) ?_
    refine ww_goto 125 129 X dX5_takeUse_125 (by decide) ?_
    refine ww_putZ 129 X dX5_takeUse_129 (fP_X5_144 _) e129 ?_
    refine ww_aload_n 132 X dX5_takeUse_132 0 rfl rfl ?_
    refine ww_getR 133 X dX5_takeUse_133 fG_X5_32 e133 ?_
    refine ww_callVVz 136 X (sz := sz) (sl := sl) (z0 := z0) (s0 := s0) dX5_takeUse_136 mY_X0_clear mL_X5_78 (rcv_spec f136) ⟨_, _, rfl⟩ (by decide) (As := []) (rest := []) rfl rfl ⟨Nat.le_of_ble_eq_true rfl, Nat.le_of_ble_eq_true rfl⟩ (by show _ ≤ Z0 - z0; omega) (by show _ ≤ S0 - s0; omega) (Nat.le_of_ble_eq_true rfl) (fun l D A => c_X0_clear l D A e136) ?_
    refine ww_aload_n 139 X dX5_takeUse_139 0 rfl rfl ?_
    refine ww_getI 140 X dX5_takeUse_140 fG_X5_144 e140 ?_
    exact (wB_X5_takeUse_143 X hQ (by omega) (by omega) h)
theorem mB_X5_takeUse_93 {G : mG} {F : Nat} {M0 : mM} {Z0 S0 : Nat} (r76 : Nat → Nat → Int32 → Int32 → mM → Nat → Nat → Option (mM × Nat × Nat)) (hm76 : ∀ (l0 : Nat) (l1 : Nat) (l3 : Int32) (l4 : Int32) (M : mM) (sz : Nat) (sl : Nat), r76 l0 l1 l3 l4 M sz sl = some (M0, Z0, S0) → sz ≤ Z0 ∧ sl ≤ S0) {l0 : Nat} {l1 : Nat} {l3 : Int32} {l4 : Int32} {sk0 : Int32} {M : mM} {sz : Nat} {sl : Nat} (h : B_X5_takeUse_93 G F r76 l0 l1 l3 l4 sk0 M sz sl = some (M0, Z0, S0)) : sz ≤ Z0 ∧ sl ≤ S0 := by
  unfold B_X5_takeUse_93 at h
  by_cases q : sk0 = 0
  · replace h := (if_pos q).symm.trans h
    have q := hm76 _ _ _ _ _ _ _ h
    omega
  · replace h := (if_neg q).symm.trans h
    obtain ⟨M99, e99, h⟩ := bO_some h
    have q := hm76 _ _ _ _ _ _ _ h
    omega
set_option maxHeartbeats 4000000 in
set_option maxRecDepth 100000 in
theorem wB_X5_takeUse_93 {G : mG} {F : Nat} {x : mXT} {z0 s0 : Nat} {M0 : mM} {Z0 S0 : Nat} (X : mCX G RX5 cX5_takeUse 5 none "takeUse" { frames := 6, cells := Z0 - z0, slots := S0 - s0, locals := 132 } x) (hQ : mQV x M0 (Z0, Z0 - z0, S0 - s0)) (r76 : Nat → Nat → Int32 → Int32 → mM → Nat → Nat → Option (mM × Nat × Nat)) (hm76 : ∀ (l0 : Nat) (l1 : Nat) (l3 : Int32) (l4 : Int32) (M : mM) (sz : Nat) (sl : Nat), r76 l0 l1 l3 l4 M sz sl = some (M0, Z0, S0) → sz ≤ Z0 ∧ sl ≤ S0) (hr76 : ∀ (l0 : Nat) (l1 : Nat) (l3 : Int32) (l4 : Int32) (M : mM) (sz : Nat) (sl : Nat), z0 ≤ sz → s0 ≤ sl → r76 l0 l1 l3 l4 M sz sl = some (M0, Z0, S0) → WW x (sz, sz - z0, sl - s0) M 76 [(0, .ref l0), (1, .ref l1), (3, .int l3), (4, .int l4)] []) {l0 : Nat} {l1 : Nat} {l3 : Int32} {l4 : Int32} {sk0 : Int32} {M : mM} {sz : Nat} {sl : Nat} (hz0 : z0 ≤ sz) (hs0 : s0 ≤ sl) (h : B_X5_takeUse_93 G F r76 l0 l1 l3 l4 sk0 M sz sl = some (M0, Z0, S0)) : WW x (sz, sz - z0, sl - s0) M 93 [(0, .ref l0), (1, .ref l1), (3, .int l3), (4, .int l4)] [.int sk0] := by
  unfold B_X5_takeUse_93 at h
  refine ww_if_eq 93 102 X dX5_takeUse_93 (by decide) (fun q => ?_) (fun q => ?_)
  · replace h := (if_pos q).symm.trans h
    have q := hm76 _ _ _ _ _ _ _ h
    refine ww_iinc 102 X dX5_takeUse_102 (lv' := [(0, .ref l0), (1, .ref l1), (3, .int l3), (4, .int (l4 + 1))]) 3 rfl rfl (by decide) [1, 2, 3, 0] rfl ?_
    refine ww_goto 105 76 X dX5_takeUse_105 (by decide) ?_
    exact (hr76 _ _ _ _ _ _ _ (by omega) (by omega) h)
  · replace h := (if_neg q).symm.trans h
    obtain ⟨M99, e99, h⟩ := bO_some h
    have q := hm76 _ _ _ _ _ _ _ h
    refine ww_aload_n 96 X dX5_takeUse_96 0 rfl rfl ?_
    refine ww_iload 97 X dX5_takeUse_97 3 rfl ?_
    refine ww_putI 99 X dX5_takeUse_99 (fP_X5_9 _) e99 ?_
    refine ww_iinc 102 X dX5_takeUse_102 (lv' := [(0, .ref l0), (1, .ref l1), (3, .int l3), (4, .int (l4 + 1))]) 3 rfl rfl (by decide) [1, 2, 3, 0] rfl ?_
    refine ww_goto 105 76 X dX5_takeUse_105 (by decide) ?_
    exact (hr76 _ _ _ _ _ _ _ (by omega) (by omega) h)
theorem mB_X5_takeUse_80 {G : mG} {F : Nat} {M0 : mM} {Z0 S0 : Nat} (r76 : Nat → Nat → Int32 → Int32 → mM → Nat → Nat → Option (mM × Nat × Nat)) (hm76 : ∀ (l0 : Nat) (l1 : Nat) (l3 : Int32) (l4 : Int32) (M : mM) (sz : Nat) (sl : Nat), r76 l0 l1 l3 l4 M sz sl = some (M0, Z0, S0) → sz ≤ Z0 ∧ sl ≤ S0) {l0 : Nat} {l1 : Nat} {l3 : Int32} {l4 : Int32} {sk0 : Int32} {sk1 : Int32} {M : mM} {sz : Nat} {sl : Nat} (h : B_X5_takeUse_80 G F r76 l0 l1 l3 l4 sk0 sk1 M sz sl = some (M0, Z0, S0)) : sz ≤ Z0 ∧ sl ≤ S0 := by
  unfold B_X5_takeUse_80 at h
  by_cases q : sk1 ≤ sk0
  · replace h := (if_pos q).symm.trans h
    obtain ⟨_, f112, h⟩ := bO_some h
    obtain ⟨v112, M112, e112, h⟩ := bP_some h
    have q := mB_X5_takeUse_121 h
    omega
  · replace h := (if_neg q).symm.trans h
    obtain ⟨v87, M87, e87, h⟩ := bP_some h
    obtain ⟨_, f90, h⟩ := bO_some h
    obtain ⟨v90, M90, e90, h⟩ := bP_some h
    have q := mB_X5_takeUse_93 _ hm76 h
    omega
set_option maxHeartbeats 4000000 in
set_option maxRecDepth 100000 in
theorem wB_X5_takeUse_80 {G : mG} {F : Nat} {x : mXT} {z0 s0 : Nat} {M0 : mM} {Z0 S0 : Nat} (X : mCX G RX5 cX5_takeUse 5 none "takeUse" { frames := 6, cells := Z0 - z0, slots := S0 - s0, locals := 132 } x) (hQ : mQV x M0 (Z0, Z0 - z0, S0 - s0)) (r76 : Nat → Nat → Int32 → Int32 → mM → Nat → Nat → Option (mM × Nat × Nat)) (hm76 : ∀ (l0 : Nat) (l1 : Nat) (l3 : Int32) (l4 : Int32) (M : mM) (sz : Nat) (sl : Nat), r76 l0 l1 l3 l4 M sz sl = some (M0, Z0, S0) → sz ≤ Z0 ∧ sl ≤ S0) (hr76 : ∀ (l0 : Nat) (l1 : Nat) (l3 : Int32) (l4 : Int32) (M : mM) (sz : Nat) (sl : Nat), z0 ≤ sz → s0 ≤ sl → r76 l0 l1 l3 l4 M sz sl = some (M0, Z0, S0) → WW x (sz, sz - z0, sl - s0) M 76 [(0, .ref l0), (1, .ref l1), (3, .int l3), (4, .int l4)] []) {l0 : Nat} {l1 : Nat} {l3 : Int32} {l4 : Int32} {sk0 : Int32} {sk1 : Int32} {M : mM} {sz : Nat} {sl : Nat} (hz0 : z0 ≤ sz) (hs0 : s0 ≤ sl) (h : B_X5_takeUse_80 G F r76 l0 l1 l3 l4 sk0 sk1 M sz sl = some (M0, Z0, S0)) : WW x (sz, sz - z0, sl - s0) M 80 [(0, .ref l0), (1, .ref l1), (3, .int l3), (4, .int l4)] [.int sk1, .int sk0] := by
  unfold B_X5_takeUse_80 at h
  refine ww_icmp_ge 80 108 X dX5_takeUse_80 (by decide) (fun q => ?_) (fun q => ?_)
  · replace h := (if_pos q).symm.trans h
    obtain ⟨_, f112, h⟩ := bO_some h
    obtain ⟨v112, M112, e112, h⟩ := bP_some h
    have q := mB_X5_takeUse_121 h
    refine ww_aload_n 108 X dX5_takeUse_108 1 rfl rfl ?_
    refine ww_iconst 109 X (v := (0 : Int32)) dX5_takeUse_109 (by decide) ?_
    refine ww_lds 110 X (j := 20) dX5_takeUse_110 rfl ?_
    refine ww_callVIz 112 X (sz := sz) (sl := sl) (z0 := z0) (s0 := s0) dX5_takeUse_112 mY_X9_find mL_X5_43 (rcv_spec f112) ⟨_, _, rfl⟩ (by decide) (As := [.int (0 : Int32), .ref (G.1 20)]) (rest := []) rfl rfl ⟨Nat.le_of_ble_eq_true rfl, Nat.le_of_ble_eq_true rfl⟩ (by show _ ≤ Z0 - z0; omega) (by show _ ≤ S0 - s0; omega) (Nat.le_of_ble_eq_true rfl) (fun l D A => c_X9_find l D A e112) ?_
    refine ww_istore 115 X dX5_takeUse_115 (lv' := [(0, .ref l0), (1, .ref l1), (3, .int l3), (4, .int v112)]) (by decide) [1, 2, 3, 0] rfl ?_
    refine ww_aload_n 117 X dX5_takeUse_117 0 rfl rfl ?_
    refine ww_iload 118 X dX5_takeUse_118 3 rfl ?_
    refine ww_iconst 120 X (v := (-1 : Int32)) dX5_takeUse_120 (by decide) ?_
    exact ww_sub [0, 1, 3] rfl (wB_X5_takeUse_121 X hQ (by omega) (by omega) h)
  · replace h := (if_neg q).symm.trans h
    obtain ⟨v87, M87, e87, h⟩ := bP_some h
    obtain ⟨_, f90, h⟩ := bO_some h
    obtain ⟨v90, M90, e90, h⟩ := bP_some h
    have q := mB_X5_takeUse_93 _ hm76 h
    refine ww_aload_n 83 X dX5_takeUse_83 1 rfl rfl ?_
    refine ww_iload_n 84 X dX5_takeUse_84 2 rfl rfl ?_
    refine ww_iload 85 X dX5_takeUse_85 3 rfl ?_
    refine ww_callSRNz 87 X (sz := sz) (sl := sl) (z0 := z0) (s0 := s0) dX5_takeUse_87 mY_X11_algName mL_X5_140 (As := [.int l4]) (rest := [.int l3, .ref l1]) rfl rfl ⟨Nat.le_of_ble_eq_true rfl, Nat.le_of_ble_eq_true rfl⟩ (by show _ ≤ Z0 - z0; omega) (by show _ ≤ S0 - s0; omega) (Nat.le_of_ble_eq_true rfl) (fun l D A => c_X11_algName l D A e87) ?_
    refine ww_callVIz 90 X (sz := sz) (sl := sl) (z0 := z0) (s0 := s0) dX5_takeUse_90 mY_X9_says mL_X5_49 (rcv_spec f90) ⟨_, _, rfl⟩ (by decide) (As := [.int l3, .ref v87]) (rest := []) rfl rfl ⟨Nat.le_of_ble_eq_true rfl, Nat.le_of_ble_eq_true rfl⟩ (by show _ ≤ Z0 - z0; omega) (by show _ ≤ S0 - s0; omega) (Nat.le_of_ble_eq_true rfl) (fun l D A => c_X9_says l D A e90) ?_
    exact (wB_X5_takeUse_93 X hQ _ hm76 hr76 (by omega) (by omega) h)
theorem mB_X5_takeUse_76 {G : mG} {F : Nat} {M0 : mM} {Z0 S0 : Nat} : ∀ (n : Nat) (l0 : Nat) (l1 : Nat) (l3 : Int32) (l4 : Int32) (M : mM) (sz : Nat) (sl : Nat), B_X5_takeUse_76 G F n l0 l1 l3 l4 M sz sl = some (M0, Z0, S0) → sz ≤ Z0 ∧ sl ≤ S0 := by
  intro n
  induction n with
  | zero =>
    intro l0 l1 l3 l4 M sz sl h
    exact nomatch (show (none : Option (mM × Nat × Nat)) = some (M0, Z0, S0) from h)
  | succ n ih =>
    intro l0 l1 l3 l4 M sz sl h
    rw [B_X5_takeUse_76] at h
    have q := mB_X5_takeUse_80 _ ih h
    omega
set_option maxHeartbeats 4000000 in
set_option maxRecDepth 100000 in
theorem wB_X5_takeUse_76 {G : mG} {F : Nat} {x : mXT} {z0 s0 : Nat} {M0 : mM} {Z0 S0 : Nat} (X : mCX G RX5 cX5_takeUse 5 none "takeUse" { frames := 6, cells := Z0 - z0, slots := S0 - s0, locals := 132 } x) (hQ : mQV x M0 (Z0, Z0 - z0, S0 - s0)) : ∀ (n : Nat) (l0 : Nat) (l1 : Nat) (l3 : Int32) (l4 : Int32) (M : mM) (sz : Nat) (sl : Nat), z0 ≤ sz → s0 ≤ sl → B_X5_takeUse_76 G F n l0 l1 l3 l4 M sz sl = some (M0, Z0, S0) → WW x (sz, sz - z0, sl - s0) M 76 [(0, .ref l0), (1, .ref l1), (3, .int l3), (4, .int l4)] [] := by
  intro n
  induction n with
  | zero =>
    intro l0 l1 l3 l4 M sz sl hz0 hs0 h
    exact nomatch (show (none : Option (mM × Nat × Nat)) = some (M0, Z0, S0) from h)
  | succ n ih =>
    intro l0 l1 l3 l4 M sz sl hz0 hs0 h
    rw [B_X5_takeUse_76] at h
    have q := mB_X5_takeUse_80 _ (mB_X5_takeUse_76 n) h
    refine ww_iload 76 X dX5_takeUse_76 3 rfl ?_
    refine ww_bipush 78 X (v := (11 : Int32)) dX5_takeUse_78 (by decide) ?_
    exact (wB_X5_takeUse_80 X hQ _ (mB_X5_takeUse_76 n) ih (by omega) (by omega) h)
theorem mB_X5_takeUse_61 {G : mG} {F : Nat} {M0 : mM} {Z0 S0 : Nat} {l0 : Nat} {l1 : Nat} {l3 : Int32} {sk0 : Nat} {sk1 : Int32} {sk2 : Int32} {M : mM} {sz : Nat} {sl : Nat} (h : B_X5_takeUse_61 G F l0 l1 l3 sk0 sk1 sk2 M sz sl = some (M0, Z0, S0)) : sz ≤ Z0 ∧ sl ≤ S0 := by
  unfold B_X5_takeUse_61 at h
  by_cases q : sk1 = sk2
  · replace h := (if_pos q).symm.trans h
    obtain ⟨M70, e70, h⟩ := bO_some h
    have q := mB_X5_takeUse_76 F _ _ _ _ _ _ _ h
    omega
  · replace h := (if_neg q).symm.trans h
    obtain ⟨M70, e70, h⟩ := bO_some h
    have q := mB_X5_takeUse_76 F _ _ _ _ _ _ _ h
    omega
set_option maxHeartbeats 4000000 in
set_option maxRecDepth 100000 in
theorem wB_X5_takeUse_61 {G : mG} {F : Nat} {x : mXT} {z0 s0 : Nat} {M0 : mM} {Z0 S0 : Nat} (X : mCX G RX5 cX5_takeUse 5 none "takeUse" { frames := 6, cells := Z0 - z0, slots := S0 - s0, locals := 132 } x) (hQ : mQV x M0 (Z0, Z0 - z0, S0 - s0)) {l0 : Nat} {l1 : Nat} {l3 : Int32} {sk0 : Nat} {sk1 : Int32} {sk2 : Int32} {M : mM} {sz : Nat} {sl : Nat} (hz0 : z0 ≤ sz) (hs0 : s0 ≤ sl) (h : B_X5_takeUse_61 G F l0 l1 l3 sk0 sk1 sk2 M sz sl = some (M0, Z0, S0)) : WW x (sz, sz - z0, sl - s0) M 61 [(0, .ref l0), (1, .ref l1), (3, .int l3)] [.int sk2, .int sk1, .ref sk0] := by
  unfold B_X5_takeUse_61 at h
  refine ww_icmp_ne 61 68 X dX5_takeUse_61 (by decide) (fun q => ?_) (fun q => ?_)
  · replace h := (if_neg q).symm.trans h
    obtain ⟨M70, e70, h⟩ := bO_some h
    have q := mB_X5_takeUse_76 F _ _ _ _ _ _ _ h
    refine ww_bipush 68 X (v := (11 : Int32)) dX5_takeUse_68 (by decide) ?_
    refine ww_putI 70 X dX5_takeUse_70 (fP_X5_9 _) e70 ?_
    refine ww_iconst 73 X (v := (0 : Int32)) dX5_takeUse_73 (by decide) ?_
    refine ww_istore 74 X dX5_takeUse_74 (lv' := [(0, .ref l0), (1, .ref l1), (3, .int l3), (4, .int (0 : Int32))]) (by decide) [1, 2, 3, 0] rfl ?_
    exact (wB_X5_takeUse_76 X hQ F _ _ _ _ _ _ _ (by omega) (by omega) h)
  · replace h := (if_pos q).symm.trans h
    obtain ⟨M70, e70, h⟩ := bO_some h
    have q := mB_X5_takeUse_76 F _ _ _ _ _ _ _ h
    refine ww_iconst 64 X (v := (-1 : Int32)) dX5_takeUse_64 (by decide) ?_
    refine ww_goto 65 70 X dX5_takeUse_65 (by decide) ?_
    refine ww_putI 70 X dX5_takeUse_70 (fP_X5_9 _) e70 ?_
    refine ww_iconst 73 X (v := (0 : Int32)) dX5_takeUse_73 (by decide) ?_
    refine ww_istore 74 X dX5_takeUse_74 (lv' := [(0, .ref l0), (1, .ref l1), (3, .int l3), (4, .int (0 : Int32))]) (by decide) [1, 2, 3, 0] rfl ?_
    exact (wB_X5_takeUse_76 X hQ F _ _ _ _ _ _ _ (by omega) (by omega) h)
theorem mB_X5_takeUse_39 {G : mG} {F : Nat} {M0 : mM} {Z0 S0 : Nat} {l0 : Nat} {l1 : Nat} {sk0 : Nat} {sk1 : Int32} {M : mM} {sz : Nat} {sl : Nat} (h : B_X5_takeUse_39 G F l0 l1 sk0 sk1 M sz sl = some (M0, Z0, S0)) : sz ≤ Z0 ∧ sl ≤ S0 := by
  unfold B_X5_takeUse_39 at h
  by_cases q : sk1 = 0
  · replace h := (if_pos q).symm.trans h
    obtain ⟨M47, e47, h⟩ := bO_some h
    obtain ⟨_, f54, h⟩ := bO_some h
    obtain ⟨v54, M54, e54, h⟩ := bP_some h
    have q := mB_X5_takeUse_61 h
    omega
  · replace h := (if_neg q).symm.trans h
    obtain ⟨M47, e47, h⟩ := bO_some h
    obtain ⟨_, f54, h⟩ := bO_some h
    obtain ⟨v54, M54, e54, h⟩ := bP_some h
    have q := mB_X5_takeUse_61 h
    omega
set_option maxHeartbeats 4000000 in
set_option maxRecDepth 100000 in
theorem wB_X5_takeUse_39 {G : mG} {F : Nat} {x : mXT} {z0 s0 : Nat} {M0 : mM} {Z0 S0 : Nat} (X : mCX G RX5 cX5_takeUse 5 none "takeUse" { frames := 6, cells := Z0 - z0, slots := S0 - s0, locals := 132 } x) (hQ : mQV x M0 (Z0, Z0 - z0, S0 - s0)) {l0 : Nat} {l1 : Nat} {sk0 : Nat} {sk1 : Int32} {M : mM} {sz : Nat} {sl : Nat} (hz0 : z0 ≤ sz) (hs0 : s0 ≤ sl) (h : B_X5_takeUse_39 G F l0 l1 sk0 sk1 M sz sl = some (M0, Z0, S0)) : WW x (sz, sz - z0, sl - s0) M 39 [(0, .ref l0), (1, .ref l1)] [.int sk1, .ref sk0] := by
  unfold B_X5_takeUse_39 at h
  refine ww_if_eq 39 46 X dX5_takeUse_39 (by decide) (fun q => ?_) (fun q => ?_)
  · replace h := (if_pos q).symm.trans h
    obtain ⟨M47, e47, h⟩ := bO_some h
    obtain ⟨_, f54, h⟩ := bO_some h
    obtain ⟨v54, M54, e54, h⟩ := bP_some h
    have q := mB_X5_takeUse_61 h
    refine ww_iconst 46 X (v := (3 : Int32)) dX5_takeUse_46 (by decide) ?_
    refine ww_putI 47 X dX5_takeUse_47 (fP_X5_138 _) e47 ?_
    refine ww_aload_n 50 X dX5_takeUse_50 1 rfl rfl ?_
    refine ww_iconst 51 X (v := (0 : Int32)) dX5_takeUse_51 (by decide) ?_
    refine ww_lds 52 X (j := 22) dX5_takeUse_52 rfl ?_
    refine ww_callVIz 54 X (sz := sz) (sl := sl) (z0 := z0) (s0 := s0) dX5_takeUse_54 mY_X9_find mL_X5_43 (rcv_spec f54) ⟨_, _, rfl⟩ (by decide) (As := [.int (0 : Int32), .ref (G.1 22)]) (rest := []) rfl rfl ⟨Nat.le_of_ble_eq_true rfl, Nat.le_of_ble_eq_true rfl⟩ (by show _ ≤ Z0 - z0; omega) (by show _ ≤ S0 - s0; omega) (Nat.le_of_ble_eq_true rfl) (fun l D A => c_X9_find l D A e54) ?_
    refine ww_istore_n 57 X dX5_takeUse_57 (lv' := [(0, .ref l0), (1, .ref l1), (3, .int v54)]) rfl (by decide) [1, 2, 0] rfl ?_
    refine ww_aload_n 58 X dX5_takeUse_58 0 rfl rfl ?_
    refine ww_iload_n 59 X dX5_takeUse_59 2 rfl rfl ?_
    refine ww_iconst 60 X (v := (-1 : Int32)) dX5_takeUse_60 (by decide) ?_
    exact (wB_X5_takeUse_61 X hQ (by omega) (by omega) h)
  · replace h := (if_neg q).symm.trans h
    obtain ⟨M47, e47, h⟩ := bO_some h
    obtain ⟨_, f54, h⟩ := bO_some h
    obtain ⟨v54, M54, e54, h⟩ := bP_some h
    have q := mB_X5_takeUse_61 h
    refine ww_iconst 42 X (v := (2 : Int32)) dX5_takeUse_42 (by decide) ?_
    refine ww_goto 43 47 X dX5_takeUse_43 (by decide) ?_
    refine ww_putI 47 X dX5_takeUse_47 (fP_X5_138 _) e47 ?_
    refine ww_aload_n 50 X dX5_takeUse_50 1 rfl rfl ?_
    refine ww_iconst 51 X (v := (0 : Int32)) dX5_takeUse_51 (by decide) ?_
    refine ww_lds 52 X (j := 22) dX5_takeUse_52 rfl ?_
    refine ww_callVIz 54 X (sz := sz) (sl := sl) (z0 := z0) (s0 := s0) dX5_takeUse_54 mY_X9_find mL_X5_43 (rcv_spec f54) ⟨_, _, rfl⟩ (by decide) (As := [.int (0 : Int32), .ref (G.1 22)]) (rest := []) rfl rfl ⟨Nat.le_of_ble_eq_true rfl, Nat.le_of_ble_eq_true rfl⟩ (by show _ ≤ Z0 - z0; omega) (by show _ ≤ S0 - s0; omega) (Nat.le_of_ble_eq_true rfl) (fun l D A => c_X9_find l D A e54) ?_
    refine ww_istore_n 57 X dX5_takeUse_57 (lv' := [(0, .ref l0), (1, .ref l1), (3, .int v54)]) rfl (by decide) [1, 2, 0] rfl ?_
    refine ww_aload_n 58 X dX5_takeUse_58 0 rfl rfl ?_
    refine ww_iload_n 59 X dX5_takeUse_59 2 rfl rfl ?_
    refine ww_iconst 60 X (v := (-1 : Int32)) dX5_takeUse_60 (by decide) ?_
    exact (wB_X5_takeUse_61 X hQ (by omega) (by omega) h)
theorem mB_X5_takeUse_25 {G : mG} {F : Nat} {M0 : mM} {Z0 S0 : Nat} {l0 : Nat} {l1 : Nat} {l2 : Int32} {sk0 : Nat} {sk1 : Int32} {M : mM} {sz : Nat} {sl : Nat} (h : B_X5_takeUse_25 G F l0 l1 l2 sk0 sk1 M sz sl = some (M0, Z0, S0)) : sz ≤ Z0 ∧ sl ≤ S0 := by
  unfold B_X5_takeUse_25 at h
  by_cases q : sk1 = 0
  · replace h := (if_pos q).symm.trans h
    obtain ⟨_, f36, h⟩ := bO_some h
    obtain ⟨v36, M36, e36, h⟩ := bP_some h
    have q := mB_X5_takeUse_39 h
    omega
  · replace h := (if_neg q).symm.trans h
    obtain ⟨M47, e47, h⟩ := bO_some h
    obtain ⟨_, f54, h⟩ := bO_some h
    obtain ⟨v54, M54, e54, h⟩ := bP_some h
    have q := mB_X5_takeUse_61 h
    omega
set_option maxHeartbeats 4000000 in
set_option maxRecDepth 100000 in
theorem wB_X5_takeUse_25 {G : mG} {F : Nat} {x : mXT} {z0 s0 : Nat} {M0 : mM} {Z0 S0 : Nat} (X : mCX G RX5 cX5_takeUse 5 none "takeUse" { frames := 6, cells := Z0 - z0, slots := S0 - s0, locals := 132 } x) (hQ : mQV x M0 (Z0, Z0 - z0, S0 - s0)) {l0 : Nat} {l1 : Nat} {l2 : Int32} {sk0 : Nat} {sk1 : Int32} {M : mM} {sz : Nat} {sl : Nat} (hz0 : z0 ≤ sz) (hs0 : s0 ≤ sl) (h : B_X5_takeUse_25 G F l0 l1 l2 sk0 sk1 M sz sl = some (M0, Z0, S0)) : WW x (sz, sz - z0, sl - s0) M 25 [(0, .ref l0), (1, .ref l1), (2, .int l2)] [.int sk1, .ref sk0] := by
  unfold B_X5_takeUse_25 at h
  refine ww_if_eq 25 32 X dX5_takeUse_25 (by decide) (fun q => ?_) (fun q => ?_)
  · replace h := (if_pos q).symm.trans h
    obtain ⟨_, f36, h⟩ := bO_some h
    obtain ⟨v36, M36, e36, h⟩ := bP_some h
    have q := mB_X5_takeUse_39 h
    refine ww_aload_n 32 X dX5_takeUse_32 1 rfl rfl ?_
    refine ww_iload_n 33 X dX5_takeUse_33 2 rfl rfl ?_
    refine ww_lds 34 X (j := 32) dX5_takeUse_34 rfl ?_
    refine ww_callVIz 36 X (sz := sz) (sl := sl) (z0 := z0) (s0 := s0) dX5_takeUse_36 mY_X9_says mL_X5_49 (rcv_spec f36) ⟨_, _, rfl⟩ (by decide) (As := [.int l2, .ref (G.1 32)]) (rest := [.ref sk0]) rfl rfl ⟨Nat.le_of_ble_eq_true rfl, Nat.le_of_ble_eq_true rfl⟩ (by show _ ≤ Z0 - z0; omega) (by show _ ≤ S0 - s0; omega) (Nat.le_of_ble_eq_true rfl) (fun l D A => c_X9_says l D A e36) ?_
    exact ww_sub [0, 1] rfl (wB_X5_takeUse_39 X hQ (by omega) (by omega) h)
  · replace h := (if_neg q).symm.trans h
    obtain ⟨M47, e47, h⟩ := bO_some h
    obtain ⟨_, f54, h⟩ := bO_some h
    obtain ⟨v54, M54, e54, h⟩ := bP_some h
    have q := mB_X5_takeUse_61 h
    refine ww_iconst 28 X (v := (1 : Int32)) dX5_takeUse_28 (by decide) ?_
    refine ww_goto 29 47 X dX5_takeUse_29 (by decide) ?_
    refine ww_putI 47 X dX5_takeUse_47 (fP_X5_138 _) e47 ?_
    refine ww_aload_n 50 X dX5_takeUse_50 1 rfl rfl ?_
    refine ww_iconst 51 X (v := (0 : Int32)) dX5_takeUse_51 (by decide) ?_
    refine ww_lds 52 X (j := 22) dX5_takeUse_52 rfl ?_
    refine ww_callVIz 54 X (sz := sz) (sl := sl) (z0 := z0) (s0 := s0) dX5_takeUse_54 mY_X9_find mL_X5_43 (rcv_spec f54) ⟨_, _, rfl⟩ (by decide) (As := [.int (0 : Int32), .ref (G.1 22)]) (rest := []) rfl rfl ⟨Nat.le_of_ble_eq_true rfl, Nat.le_of_ble_eq_true rfl⟩ (by show _ ≤ Z0 - z0; omega) (by show _ ≤ S0 - s0; omega) (Nat.le_of_ble_eq_true rfl) (fun l D A => c_X9_find l D A e54) ?_
    refine ww_istore_n 57 X dX5_takeUse_57 (lv' := [(0, .ref l0), (1, .ref l1), (2, .int l2), (3, .int v54)]) rfl (by decide) [1, 2, 3, 0] rfl ?_
    refine ww_aload_n 58 X dX5_takeUse_58 0 rfl rfl ?_
    refine ww_iload_n 59 X dX5_takeUse_59 3 rfl rfl ?_
    refine ww_iconst 60 X (v := (-1 : Int32)) dX5_takeUse_60 (by decide) ?_
    exact ww_sub [0, 1, 3] rfl (wB_X5_takeUse_61 X hQ (by omega) (by omega) h)
theorem mB_X5_takeUse_11 {G : mG} {F : Nat} {M0 : mM} {Z0 S0 : Nat} {l0 : Nat} {l1 : Nat} {l2 : Int32} {sk0 : Nat} {sk1 : Int32} {sk2 : Int32} {M : mM} {sz : Nat} {sl : Nat} (h : B_X5_takeUse_11 G F l0 l1 l2 sk0 sk1 sk2 M sz sl = some (M0, Z0, S0)) : sz ≤ Z0 ∧ sl ≤ S0 := by
  unfold B_X5_takeUse_11 at h
  by_cases q : sk1 = sk2
  · replace h := (if_pos q).symm.trans h
    obtain ⟨M47, e47, h⟩ := bO_some h
    obtain ⟨_, f54, h⟩ := bO_some h
    obtain ⟨v54, M54, e54, h⟩ := bP_some h
    have q := mB_X5_takeUse_61 h
    omega
  · replace h := (if_neg q).symm.trans h
    obtain ⟨_, f22, h⟩ := bO_some h
    obtain ⟨v22, M22, e22, h⟩ := bP_some h
    have q := mB_X5_takeUse_25 h
    omega
set_option maxHeartbeats 4000000 in
set_option maxRecDepth 100000 in
theorem wB_X5_takeUse_11 {G : mG} {F : Nat} {x : mXT} {z0 s0 : Nat} {M0 : mM} {Z0 S0 : Nat} (X : mCX G RX5 cX5_takeUse 5 none "takeUse" { frames := 6, cells := Z0 - z0, slots := S0 - s0, locals := 132 } x) (hQ : mQV x M0 (Z0, Z0 - z0, S0 - s0)) {l0 : Nat} {l1 : Nat} {l2 : Int32} {sk0 : Nat} {sk1 : Int32} {sk2 : Int32} {M : mM} {sz : Nat} {sl : Nat} (hz0 : z0 ≤ sz) (hs0 : s0 ≤ sl) (h : B_X5_takeUse_11 G F l0 l1 l2 sk0 sk1 sk2 M sz sl = some (M0, Z0, S0)) : WW x (sz, sz - z0, sl - s0) M 11 [(0, .ref l0), (1, .ref l1), (2, .int l2)] [.int sk2, .int sk1, .ref sk0] := by
  unfold B_X5_takeUse_11 at h
  refine ww_icmp_ne 11 18 X dX5_takeUse_11 (by decide) (fun q => ?_) (fun q => ?_)
  · replace h := (if_neg q).symm.trans h
    obtain ⟨_, f22, h⟩ := bO_some h
    obtain ⟨v22, M22, e22, h⟩ := bP_some h
    have q := mB_X5_takeUse_25 h
    refine ww_aload_n 18 X dX5_takeUse_18 1 rfl rfl ?_
    refine ww_iload_n 19 X dX5_takeUse_19 2 rfl rfl ?_
    refine ww_lds 20 X (j := 31) dX5_takeUse_20 rfl ?_
    refine ww_callVIz 22 X (sz := sz) (sl := sl) (z0 := z0) (s0 := s0) dX5_takeUse_22 mY_X9_says mL_X5_49 (rcv_spec f22) ⟨_, _, rfl⟩ (by decide) (As := [.int l2, .ref (G.1 31)]) (rest := [.ref sk0]) rfl rfl ⟨Nat.le_of_ble_eq_true rfl, Nat.le_of_ble_eq_true rfl⟩ (by show _ ≤ Z0 - z0; omega) (by show _ ≤ S0 - s0; omega) (Nat.le_of_ble_eq_true rfl) (fun l D A => c_X9_says l D A e22) ?_
    exact (wB_X5_takeUse_25 X hQ (by omega) (by omega) h)
  · replace h := (if_pos q).symm.trans h
    obtain ⟨M47, e47, h⟩ := bO_some h
    obtain ⟨_, f54, h⟩ := bO_some h
    obtain ⟨v54, M54, e54, h⟩ := bP_some h
    have q := mB_X5_takeUse_61 h
    refine ww_iconst 14 X (v := (0 : Int32)) dX5_takeUse_14 (by decide) ?_
    refine ww_goto 15 47 X dX5_takeUse_15 (by decide) ?_
    refine ww_putI 47 X dX5_takeUse_47 (fP_X5_138 _) e47 ?_
    refine ww_aload_n 50 X dX5_takeUse_50 1 rfl rfl ?_
    refine ww_iconst 51 X (v := (0 : Int32)) dX5_takeUse_51 (by decide) ?_
    refine ww_lds 52 X (j := 22) dX5_takeUse_52 rfl ?_
    refine ww_callVIz 54 X (sz := sz) (sl := sl) (z0 := z0) (s0 := s0) dX5_takeUse_54 mY_X9_find mL_X5_43 (rcv_spec f54) ⟨_, _, rfl⟩ (by decide) (As := [.int (0 : Int32), .ref (G.1 22)]) (rest := []) rfl rfl ⟨Nat.le_of_ble_eq_true rfl, Nat.le_of_ble_eq_true rfl⟩ (by show _ ≤ Z0 - z0; omega) (by show _ ≤ S0 - s0; omega) (Nat.le_of_ble_eq_true rfl) (fun l D A => c_X9_find l D A e54) ?_
    refine ww_istore_n 57 X dX5_takeUse_57 (lv' := [(0, .ref l0), (1, .ref l1), (2, .int l2), (3, .int v54)]) rfl (by decide) [1, 2, 3, 0] rfl ?_
    refine ww_aload_n 58 X dX5_takeUse_58 0 rfl rfl ?_
    refine ww_iload_n 59 X dX5_takeUse_59 3 rfl rfl ?_
    refine ww_iconst 60 X (v := (-1 : Int32)) dX5_takeUse_60 (by decide) ?_
    exact ww_sub [0, 1, 3] rfl (wB_X5_takeUse_61 X hQ (by omega) (by omega) h)
theorem mP_X5_takeUse {G : mG} {F : Nat} {M0 : mM} {Z0 S0 : Nat} {l0 : Nat} {l1 : Nat} {M : mM} {sz : Nat} {sl : Nat} (h : P_X5_takeUse G F l0 l1 M sz sl = some (M0, Z0, S0)) : sz ≤ Z0 ∧ sl ≤ S0 := by
  unfold P_X5_takeUse at h
  obtain ⟨_, f4, h⟩ := bO_some h
  obtain ⟨v4, M4, e4, h⟩ := bP_some h
  have q := mB_X5_takeUse_11 h
  omega
set_option maxHeartbeats 4000000 in
set_option maxRecDepth 100000 in
theorem wP_X5_takeUse {G : mG} {F : Nat} {x : mXT} {z0 s0 : Nat} {M0 : mM} {Z0 S0 : Nat} (X : mCX G RX5 cX5_takeUse 5 none "takeUse" { frames := 6, cells := Z0 - z0, slots := S0 - s0, locals := 132 } x) (hQ : mQV x M0 (Z0, Z0 - z0, S0 - s0)) {l0 : Nat} {l1 : Nat} {M : mM} {sz : Nat} {sl : Nat} (hz0 : z0 ≤ sz) (hs0 : s0 ≤ sl) (h : P_X5_takeUse G F l0 l1 M sz sl = some (M0, Z0, S0)) : WW x (sz, sz - z0, sl - s0) M 0 [(0, .ref l0), (1, .ref l1)] [] := by
  unfold P_X5_takeUse at h
  obtain ⟨_, f4, h⟩ := bO_some h
  obtain ⟨v4, M4, e4, h⟩ := bP_some h
  have q := mB_X5_takeUse_11 h
  refine ww_aload_n 0 X dX5_takeUse_0 1 rfl rfl ?_
  refine ww_iconst 1 X (v := (0 : Int32)) dX5_takeUse_1 (by decide) ?_
  refine ww_lds 2 X (j := 21) dX5_takeUse_2 rfl ?_
  refine ww_callVIz 4 X (sz := sz) (sl := sl) (z0 := z0) (s0 := s0) dX5_takeUse_4 mY_X9_find mL_X5_43 (rcv_spec f4) ⟨_, _, rfl⟩ (by decide) (As := [.int (0 : Int32), .ref (G.1 21)]) (rest := []) rfl rfl ⟨Nat.le_of_ble_eq_true rfl, Nat.le_of_ble_eq_true rfl⟩ (by show _ ≤ Z0 - z0; omega) (by show _ ≤ S0 - s0; omega) (Nat.le_of_ble_eq_true rfl) (fun l D A => c_X9_find l D A e4) ?_
  refine ww_istore_n 7 X dX5_takeUse_7 (lv' := [(0, .ref l0), (1, .ref l1), (2, .int v4)]) rfl (by decide) [1, 2, 0] rfl ?_
  refine ww_aload_n 8 X dX5_takeUse_8 0 rfl rfl ?_
  refine ww_iload_n 9 X dX5_takeUse_9 2 rfl rfl ?_
  refine ww_iconst 10 X (v := (-1 : Int32)) dX5_takeUse_10 (by decide) ?_
  exact (wB_X5_takeUse_11 X hQ (by omega) (by omega) h)
theorem c_X5_takeUse {G : mG} {F : Nat} {M0 : mM} {Z0 S0 : Nat} (l : Launch) (D : mD) (A : Nat → Prop) {l0 : Nat} {l1 : Nat} {M : mM} {sz : Nat} {sl : Nat} (h : P_X5_takeUse G F l0 l1 M sz sl = some (M0, Z0, S0)) : mMetV l D G A yX5_takeUse cX5_takeUse 5 none 6 132 (Z0 - sz) (S0 - sl) [.ref l0, .ref l1] M sz M0 Z0 := mMetV_of l D G A (by decide) (Nat.le_of_ble_eq_true rfl) (fun x X hQ => by have K := wP_X5_takeUse X hQ (Nat.le_refl sz) (Nat.le_refl sl) h; rw [Nat.sub_self, Nat.sub_self] at K; exact K)
