/-! SealedTokensModel.digestOf(I)I -/
theorem dX13_digestOf_0 : decode cX13_digestOf 0 = .ok (.iload_n 1, 1) := by decide +kernel
theorem dX13_digestOf_1 : decode cX13_digestOf 1 = .ok (.sipush 512, 3) := by decide +kernel
theorem dX13_digestOf_4 : decode cX13_digestOf 4 = .ok (.if_icmp .ne 10, 3) := by decide +kernel
theorem dX13_digestOf_7 : decode cX13_digestOf 7 = .ok (.aload_n 0, 1) := by decide +kernel
theorem dX13_digestOf_8 : decode cX13_digestOf 8 = .ok (.invokevirtual 518, 3) := by decide +kernel
theorem dX13_digestOf_11 : decode cX13_digestOf 11 = .ok (.bipush 64, 2) := by decide +kernel
theorem dX13_digestOf_13 : decode cX13_digestOf 13 = .ok (.ireturn, 1) := by decide +kernel
theorem dX13_digestOf_14 : decode cX13_digestOf 14 = .ok (.aload_n 0, 1) := by decide +kernel
theorem dX13_digestOf_15 : decode cX13_digestOf 15 = .ok (.bipush 64, 2) := by decide +kernel
theorem dX13_digestOf_17 : decode cX13_digestOf 17 = .ok (.invokevirtual 521, 3) := by decide +kernel
theorem dX13_digestOf_20 : decode cX13_digestOf 20 = .ok (.iconst 0, 1) := by decide +kernel
theorem dX13_digestOf_21 : decode cX13_digestOf 21 = .ok (.istore_n 2, 1) := by decide +kernel
theorem dX13_digestOf_22 : decode cX13_digestOf 22 = .ok (.iload_n 2, 1) := by decide +kernel
theorem dX13_digestOf_23 : decode cX13_digestOf 23 = .ok (.bipush 8, 2) := by decide +kernel
theorem dX13_digestOf_25 : decode cX13_digestOf 25 = .ok (.if_icmp .ge 23, 3) := by decide +kernel
theorem dX13_digestOf_28 : decode cX13_digestOf 28 = .ok (.aload_n 0, 1) := by decide +kernel
theorem dX13_digestOf_29 : decode cX13_digestOf 29 = .ok (.getfield 66, 3) := by decide +kernel
theorem dX13_digestOf_32 : decode cX13_digestOf 32 = .ok (.iload_n 2, 1) := by decide +kernel
theorem dX13_digestOf_33 : decode cX13_digestOf 33 = .ok (.iload_n 2, 1) := by decide +kernel
theorem dX13_digestOf_34 : decode cX13_digestOf 34 = .ok (.invokestatic 524, 3) := by decide +kernel
theorem dX13_digestOf_37 : decode cX13_digestOf 37 = .ok (.bipush 32, 2) := by decide +kernel
theorem dX13_digestOf_39 : decode cX13_digestOf 39 = .ok (.lushr, 1) := by decide +kernel
theorem dX13_digestOf_40 : decode cX13_digestOf 40 = .ok (.l2i, 1) := by decide +kernel
theorem dX13_digestOf_41 : decode cX13_digestOf 41 = .ok (.iastore, 1) := by decide +kernel
theorem dX13_digestOf_42 : decode cX13_digestOf 42 = .ok (.iinc 2 1, 3) := by decide +kernel
theorem dX13_digestOf_45 : decode cX13_digestOf 45 = .ok (.goto (-23), 3) := by decide +kernel
theorem dX13_digestOf_48 : decode cX13_digestOf 48 = .ok (.iconst 0, 1) := by decide +kernel
theorem dX13_digestOf_49 : decode cX13_digestOf 49 = .ok (.istore_n 2, 1) := by decide +kernel
theorem dX13_digestOf_50 : decode cX13_digestOf 50 = .ok (.iload_n 2, 1) := by decide +kernel
theorem dX13_digestOf_51 : decode cX13_digestOf 51 = .ok (.aload_n 0, 1) := by decide +kernel
theorem dX13_digestOf_52 : decode cX13_digestOf 52 = .ok (.getfield 507, 3) := by decide +kernel
theorem dX13_digestOf_55 : decode cX13_digestOf 55 = .ok (.if_icmp .ge 47, 3) := by decide +kernel
theorem dX13_digestOf_58 : decode cX13_digestOf 58 = .ok (.iconst 0, 1) := by decide +kernel
theorem dX13_digestOf_59 : decode cX13_digestOf 59 = .ok (.istore_n 3, 1) := by decide +kernel
theorem dX13_digestOf_60 : decode cX13_digestOf 60 = .ok (.iload_n 3, 1) := by decide +kernel
theorem dX13_digestOf_61 : decode cX13_digestOf 61 = .ok (.bipush 16, 2) := by decide +kernel
theorem dX13_digestOf_63 : decode cX13_digestOf 63 = .ok (.if_icmp .ge 29, 3) := by decide +kernel
theorem dX13_digestOf_66 : decode cX13_digestOf 66 = .ok (.aload_n 0, 1) := by decide +kernel
theorem dX13_digestOf_67 : decode cX13_digestOf 67 = .ok (.getfield 63, 3) := by decide +kernel
theorem dX13_digestOf_70 : decode cX13_digestOf 70 = .ok (.iload_n 3, 1) := by decide +kernel
theorem dX13_digestOf_71 : decode cX13_digestOf 71 = .ok (.aload_n 0, 1) := by decide +kernel
theorem dX13_digestOf_72 : decode cX13_digestOf 72 = .ok (.getfield 80, 3) := by decide +kernel
theorem dX13_digestOf_75 : decode cX13_digestOf 75 = .ok (.iload_n 2, 1) := by decide +kernel
theorem dX13_digestOf_76 : decode cX13_digestOf 76 = .ok (.iconst 4, 1) := by decide +kernel
theorem dX13_digestOf_77 : decode cX13_digestOf 77 = .ok (.iload_n 3, 1) := by decide +kernel
theorem dX13_digestOf_78 : decode cX13_digestOf 78 = .ok (.imul, 1) := by decide +kernel
theorem dX13_digestOf_79 : decode cX13_digestOf 79 = .ok (.iadd, 1) := by decide +kernel
theorem dX13_digestOf_80 : decode cX13_digestOf 80 = .ok (.iconst 4, 1) := by decide +kernel
theorem dX13_digestOf_81 : decode cX13_digestOf 81 = .ok (.invokestatic 528, 3) := by decide +kernel
theorem dX13_digestOf_84 : decode cX13_digestOf 84 = .ok (.l2i, 1) := by decide +kernel
theorem dX13_digestOf_85 : decode cX13_digestOf 85 = .ok (.iastore, 1) := by decide +kernel
theorem dX13_digestOf_86 : decode cX13_digestOf 86 = .ok (.iinc 3 1, 3) := by decide +kernel
theorem dX13_digestOf_89 : decode cX13_digestOf 89 = .ok (.goto (-29), 3) := by decide +kernel
theorem dX13_digestOf_92 : decode cX13_digestOf 92 = .ok (.aload_n 0, 1) := by decide +kernel
theorem dX13_digestOf_93 : decode cX13_digestOf 93 = .ok (.invokevirtual 532, 3) := by decide +kernel
theorem dX13_digestOf_96 : decode cX13_digestOf 96 = .ok (.iinc 2 64, 3) := by decide +kernel
theorem dX13_digestOf_99 : decode cX13_digestOf 99 = .ok (.goto (-49), 3) := by decide +kernel
theorem dX13_digestOf_102 : decode cX13_digestOf 102 = .ok (.iconst 0, 1) := by decide +kernel
theorem dX13_digestOf_103 : decode cX13_digestOf 103 = .ok (.istore_n 2, 1) := by decide +kernel
theorem dX13_digestOf_104 : decode cX13_digestOf 104 = .ok (.iload_n 2, 1) := by decide +kernel
theorem dX13_digestOf_105 : decode cX13_digestOf 105 = .ok (.bipush 8, 2) := by decide +kernel
theorem dX13_digestOf_107 : decode cX13_digestOf 107 = .ok (.if_icmp .ge 27, 3) := by decide +kernel
theorem dX13_digestOf_110 : decode cX13_digestOf 110 = .ok (.aload_n 0, 1) := by decide +kernel
theorem dX13_digestOf_111 : decode cX13_digestOf 111 = .ok (.getfield 76, 3) := by decide +kernel
theorem dX13_digestOf_114 : decode cX13_digestOf 114 = .ok (.iconst 4, 1) := by decide +kernel
theorem dX13_digestOf_115 : decode cX13_digestOf 115 = .ok (.iload_n 2, 1) := by decide +kernel
theorem dX13_digestOf_116 : decode cX13_digestOf 116 = .ok (.imul, 1) := by decide +kernel
theorem dX13_digestOf_117 : decode cX13_digestOf 117 = .ok (.iconst 4, 1) := by decide +kernel
theorem dX13_digestOf_118 : decode cX13_digestOf 118 = .ok (.aload_n 0, 1) := by decide +kernel
theorem dX13_digestOf_119 : decode cX13_digestOf 119 = .ok (.getfield 66, 3) := by decide +kernel
theorem dX13_digestOf_122 : decode cX13_digestOf 122 = .ok (.iload_n 2, 1) := by decide +kernel
theorem dX13_digestOf_123 : decode cX13_digestOf 123 = .ok (.iaload, 1) := by decide +kernel
theorem dX13_digestOf_124 : decode cX13_digestOf 124 = .ok (.i2l, 1) := by decide +kernel
theorem dX13_digestOf_125 : decode cX13_digestOf 125 = .ok (.invokestatic 328, 3) := by decide +kernel
theorem dX13_digestOf_128 : decode cX13_digestOf 128 = .ok (.iinc 2 1, 3) := by decide +kernel
theorem dX13_digestOf_131 : decode cX13_digestOf 131 = .ok (.goto (-27), 3) := by decide +kernel
theorem dX13_digestOf_134 : decode cX13_digestOf 134 = .ok (.bipush 32, 2) := by decide +kernel
theorem dX13_digestOf_136 : decode cX13_digestOf 136 = .ok (.ireturn, 1) := by decide +kernel
abbrev rmX13_digestOf : Room := { frames := 4, cells := 0, slots := 0, locals := 93 }
set_option maxHeartbeats 4000000 in
set_option maxRecDepth 100000 in
theorem wB_X13_digestOf_104 {G : mG} {F : Nat} {x : mXT} {sz : Nat} {r0 : Int32} {M0 : mM} (X : mCX G RX13 cX13_digestOf 4 (some .int) "digestOf" rmX13_digestOf x) (hQ : mQI x r0 M0 (sz, 0, 0)) : ∀ (n : Nat) (l0 : Nat) (l2 : Int32) (M : mM), B_X13_digestOf_104 G F n l0 l2 M = some (r0, M0) → WW x (sz, 0, 0) M 104 [(0, .ref l0), (2, .int l2)] [] := by
  intro n
  induction n with
  | zero =>
    intro l0 l2 M h
    exact nomatch (show (none : Option (Int32 × mM)) = some (r0, M0) from h)
  | succ n ih =>
    intro l0 l2 M h
    rw [B_X13_digestOf_104] at h
    refine ww_iload_n 104 X dX13_digestOf_104 1 rfl rfl ?_
    refine ww_bipush 105 X (v := (8 : Int32)) dX13_digestOf_105 (by decide) ?_
    refine ww_icmp_ge 107 134 X dX13_digestOf_107 (by decide) (fun q => ?_) (fun q => ?_)
    · replace h := (if_pos q).symm.trans h
      refine ww_bipush 134 X (v := (32 : Int32)) dX13_digestOf_134 (by decide) ?_
      exact ww_iretE 136 X hQ dX13_digestOf_136 h
    · replace h := (if_neg q).symm.trans h
      refine ww_aload_n 110 X dX13_digestOf_110 0 rfl rfl ?_
      obtain ⟨v111, e111, h⟩ := bO_some h
      refine ww_getR 111 X dX13_digestOf_111 fG_X13_76 e111 ?_
      refine ww_iconst 114 X (v := (4 : Int32)) dX13_digestOf_114 (by decide) ?_
      refine ww_iload_n 115 X dX13_digestOf_115 1 rfl rfl ?_
      refine ww_imul 116 X dX13_digestOf_116 ?_
      refine ww_iconst 117 X (v := (4 : Int32)) dX13_digestOf_117 (by decide) ?_
      refine ww_aload_n 118 X dX13_digestOf_118 0 rfl rfl ?_
      obtain ⟨v119, e119, h⟩ := bO_some h
      refine ww_getR 119 X dX13_digestOf_119 fG_X13_66 e119 ?_
      refine ww_iload_n 122 X dX13_digestOf_122 1 rfl rfl ?_
      obtain ⟨v123, e123, h⟩ := bO_some h
      refine ww_iald 123 X dX13_digestOf_123 e123 ?_
      refine ww_i2l 124 X dX13_digestOf_124 ?_
      obtain ⟨M125, e125, h⟩ := bO_some h
      refine ww_callSV0 125 X dX13_digestOf_125 mY_X13_put mL_X13_328 (As := [.ref v111, .int ((4 : Int32) * l2), .int (4 : Int32), .long (v123.toInt64)]) (rest := []) rfl rfl ⟨Nat.le_of_ble_eq_true rfl, Nat.le_of_ble_eq_true rfl⟩ (Nat.le_of_ble_eq_true rfl) (fun l D A => c_X13_put l D A e125) ?_
      refine ww_iinc 128 X dX13_digestOf_128 (lv' := [(0, .ref l0), (2, .int (l2 + 1))]) 1 rfl rfl (by decide) [1, 0] rfl ?_
      refine ww_goto 131 104 X dX13_digestOf_131 (by decide) ?_
      exact (ih _ _ _ h)
set_option maxHeartbeats 4000000 in
set_option maxRecDepth 100000 in
theorem wB_X13_digestOf_60 {G : mG} {F : Nat} {x : mXT} {sz : Nat} {r0 : Int32} {M0 : mM} (X : mCX G RX13 cX13_digestOf 4 (some .int) "digestOf" rmX13_digestOf x) (hQ : mQI x r0 M0 (sz, 0, 0)) (r50 : Nat → Int32 → mM → Option (Int32 × mM)) (hr50 : ∀ (l0 : Nat) (l2 : Int32) (M : mM), r50 l0 l2 M = some (r0, M0) → WW x (sz, 0, 0) M 50 [(0, .ref l0), (2, .int l2)] []) : ∀ (n : Nat) (l0 : Nat) (l2 : Int32) (l3 : Int32) (M : mM), B_X13_digestOf_60 G F r50 n l0 l2 l3 M = some (r0, M0) → WW x (sz, 0, 0) M 60 [(0, .ref l0), (2, .int l2), (3, .int l3)] [] := by
  intro n
  induction n with
  | zero =>
    intro l0 l2 l3 M h
    exact nomatch (show (none : Option (Int32 × mM)) = some (r0, M0) from h)
  | succ n ih =>
    intro l0 l2 l3 M h
    rw [B_X13_digestOf_60] at h
    refine ww_iload_n 60 X dX13_digestOf_60 2 rfl rfl ?_
    refine ww_bipush 61 X (v := (16 : Int32)) dX13_digestOf_61 (by decide) ?_
    refine ww_icmp_ge 63 92 X dX13_digestOf_63 (by decide) (fun q => ?_) (fun q => ?_)
    · replace h := (if_pos q).symm.trans h
      refine ww_aload_n 92 X dX13_digestOf_92 0 rfl rfl ?_
      obtain ⟨_, f93, h⟩ := bO_some h
      obtain ⟨M93, e93, h⟩ := bO_some h
      refine ww_callVV0 93 X dX13_digestOf_93 mY_X13_turn32 mL_X13_532 (rcv_spec f93) ⟨_, _, rfl⟩ (by decide) (As := []) (rest := []) rfl rfl ⟨Nat.le_of_ble_eq_true rfl, Nat.le_of_ble_eq_true rfl⟩ (Nat.le_of_ble_eq_true rfl) (fun l D A => c_X13_turn32 l D A e93) ?_
      refine ww_iinc 96 X dX13_digestOf_96 (lv' := [(0, .ref l0), (2, .int (l2 + 64)), (3, .int l3)]) 1 rfl rfl (by decide) [1, 0, 2] rfl ?_
      refine ww_goto 99 50 X dX13_digestOf_99 (by decide) ?_
      exact ww_sub [0, 1] rfl (hr50 _ _ _ h)
    · replace h := (if_neg q).symm.trans h
      refine ww_aload_n 66 X dX13_digestOf_66 0 rfl rfl ?_
      obtain ⟨v67, e67, h⟩ := bO_some h
      refine ww_getR 67 X dX13_digestOf_67 fG_X13_63 e67 ?_
      refine ww_iload_n 70 X dX13_digestOf_70 2 rfl rfl ?_
      refine ww_aload_n 71 X dX13_digestOf_71 0 rfl rfl ?_
      obtain ⟨v72, e72, h⟩ := bO_some h
      refine ww_getR 72 X dX13_digestOf_72 fG_X13_80 e72 ?_
      refine ww_iload_n 75 X dX13_digestOf_75 1 rfl rfl ?_
      refine ww_iconst 76 X (v := (4 : Int32)) dX13_digestOf_76 (by decide) ?_
      refine ww_iload_n 77 X dX13_digestOf_77 2 rfl rfl ?_
      refine ww_imul 78 X dX13_digestOf_78 ?_
      refine ww_iadd 79 X dX13_digestOf_79 ?_
      refine ww_iconst 80 X (v := (4 : Int32)) dX13_digestOf_80 (by decide) ?_
      obtain ⟨v81, M81, e81, h⟩ := bP_some h
      refine ww_callSL0 81 X dX13_digestOf_81 mY_X13_longAt mL_X13_528 (As := [.ref v72, .int (l2 + ((4 : Int32) * l3)), .int (4 : Int32)]) (rest := [.int l3, .ref v67]) rfl rfl ⟨Nat.le_of_ble_eq_true rfl, Nat.le_of_ble_eq_true rfl⟩ (Nat.le_of_ble_eq_true rfl) (fun l D A => c_X13_longAt l D A e81) ?_
      refine ww_l2i 84 X dX13_digestOf_84 ?_
      obtain ⟨M85, e85, h⟩ := bO_some h
      refine ww_iast 85 X dX13_digestOf_85 e85 ?_
      refine ww_iinc 86 X dX13_digestOf_86 (lv' := [(0, .ref l0), (2, .int l2), (3, .int (l3 + 1))]) 2 rfl rfl (by decide) [1, 2, 0] rfl ?_
      refine ww_goto 89 60 X dX13_digestOf_89 (by decide) ?_
      exact (ih _ _ _ _ h)
set_option maxHeartbeats 4000000 in
set_option maxRecDepth 100000 in
theorem wB_X13_digestOf_50 {G : mG} {F : Nat} {x : mXT} {sz : Nat} {r0 : Int32} {M0 : mM} (X : mCX G RX13 cX13_digestOf 4 (some .int) "digestOf" rmX13_digestOf x) (hQ : mQI x r0 M0 (sz, 0, 0)) : ∀ (n : Nat) (l0 : Nat) (l2 : Int32) (M : mM), B_X13_digestOf_50 G F n l0 l2 M = some (r0, M0) → WW x (sz, 0, 0) M 50 [(0, .ref l0), (2, .int l2)] [] := by
  intro n
  induction n with
  | zero =>
    intro l0 l2 M h
    exact nomatch (show (none : Option (Int32 × mM)) = some (r0, M0) from h)
  | succ n ih =>
    intro l0 l2 M h
    rw [B_X13_digestOf_50] at h
    refine ww_iload_n 50 X dX13_digestOf_50 1 rfl rfl ?_
    refine ww_aload_n 51 X dX13_digestOf_51 0 rfl rfl ?_
    obtain ⟨v52, e52, h⟩ := bO_some h
    refine ww_getI 52 X dX13_digestOf_52 fG_X13_507 e52 ?_
    refine ww_icmp_ge 55 102 X dX13_digestOf_55 (by decide) (fun q => ?_) (fun q => ?_)
    · replace h := (if_pos q).symm.trans h
      refine ww_iconst 102 X (v := (0 : Int32)) dX13_digestOf_102 (by decide) ?_
      refine ww_istore_n 103 X dX13_digestOf_103 (lv' := [(0, .ref l0), (2, .int (0 : Int32))]) rfl (by decide) [1, 0] rfl ?_
      exact (wB_X13_digestOf_104 X hQ F _ _ _ h)
    · replace h := (if_neg q).symm.trans h
      refine ww_iconst 58 X (v := (0 : Int32)) dX13_digestOf_58 (by decide) ?_
      refine ww_istore_n 59 X dX13_digestOf_59 (lv' := [(0, .ref l0), (2, .int l2), (3, .int (0 : Int32))]) rfl (by decide) [1, 2, 0] rfl ?_
      exact (wB_X13_digestOf_60 X hQ _ ih F _ _ _ _ h)
set_option maxHeartbeats 4000000 in
set_option maxRecDepth 100000 in
theorem wB_X13_digestOf_22 {G : mG} {F : Nat} {x : mXT} {sz : Nat} {r0 : Int32} {M0 : mM} (X : mCX G RX13 cX13_digestOf 4 (some .int) "digestOf" rmX13_digestOf x) (hQ : mQI x r0 M0 (sz, 0, 0)) : ∀ (n : Nat) (l0 : Nat) (l2 : Int32) (M : mM), B_X13_digestOf_22 G F n l0 l2 M = some (r0, M0) → WW x (sz, 0, 0) M 22 [(0, .ref l0), (2, .int l2)] [] := by
  intro n
  induction n with
  | zero =>
    intro l0 l2 M h
    exact nomatch (show (none : Option (Int32 × mM)) = some (r0, M0) from h)
  | succ n ih =>
    intro l0 l2 M h
    rw [B_X13_digestOf_22] at h
    refine ww_iload_n 22 X dX13_digestOf_22 1 rfl rfl ?_
    refine ww_bipush 23 X (v := (8 : Int32)) dX13_digestOf_23 (by decide) ?_
    refine ww_icmp_ge 25 48 X dX13_digestOf_25 (by decide) (fun q => ?_) (fun q => ?_)
    · replace h := (if_pos q).symm.trans h
      refine ww_iconst 48 X (v := (0 : Int32)) dX13_digestOf_48 (by decide) ?_
      refine ww_istore_n 49 X dX13_digestOf_49 (lv' := [(0, .ref l0), (2, .int (0 : Int32))]) rfl (by decide) [1, 0] rfl ?_
      exact (wB_X13_digestOf_50 X hQ F _ _ _ h)
    · replace h := (if_neg q).symm.trans h
      refine ww_aload_n 28 X dX13_digestOf_28 0 rfl rfl ?_
      obtain ⟨v29, e29, h⟩ := bO_some h
      refine ww_getR 29 X dX13_digestOf_29 fG_X13_66 e29 ?_
      refine ww_iload_n 32 X dX13_digestOf_32 1 rfl rfl ?_
      refine ww_iload_n 33 X dX13_digestOf_33 1 rfl rfl ?_
      obtain ⟨v34, M34, e34, h⟩ := bP_some h
      refine ww_callSL0 34 X dX13_digestOf_34 mY_X13_firstOf mL_X13_524 (As := [.int l2]) (rest := [.int l2, .ref v29]) rfl rfl ⟨Nat.le_of_ble_eq_true rfl, Nat.le_of_ble_eq_true rfl⟩ (Nat.le_of_ble_eq_true rfl) (fun l D A => c_X13_firstOf l D A e34) ?_
      refine ww_bipush 37 X (v := (32 : Int32)) dX13_digestOf_37 (by decide) ?_
      refine ww_lushr 39 X dX13_digestOf_39 ?_
      refine ww_l2i 40 X dX13_digestOf_40 ?_
      obtain ⟨M41, e41, h⟩ := bO_some h
      refine ww_iast 41 X dX13_digestOf_41 e41 ?_
      refine ww_iinc 42 X dX13_digestOf_42 (lv' := [(0, .ref l0), (2, .int (l2 + 1))]) 1 rfl rfl (by decide) [1, 0] rfl ?_
      refine ww_goto 45 22 X dX13_digestOf_45 (by decide) ?_
      exact (ih _ _ _ h)
set_option maxHeartbeats 4000000 in
set_option maxRecDepth 100000 in
theorem wP_X13_digestOf {G : mG} {F : Nat} {x : mXT} {sz : Nat} {r0 : Int32} {M0 : mM} (X : mCX G RX13 cX13_digestOf 4 (some .int) "digestOf" rmX13_digestOf x) (hQ : mQI x r0 M0 (sz, 0, 0)) {l0 : Nat} {l1 : Int32} {M : mM} (h : P_X13_digestOf G F l0 l1 M = some (r0, M0)) : WW x (sz, 0, 0) M 0 [(0, .ref l0), (1, .int l1)] [] := by
  unfold P_X13_digestOf at h
  refine ww_iload_n 0 X dX13_digestOf_0 1 rfl rfl ?_
  refine ww_sipush 1 X (v := (512 : Int32)) dX13_digestOf_1 (by decide) ?_
  refine ww_icmp_ne 4 14 X dX13_digestOf_4 (by decide) (fun q => ?_) (fun q => ?_)
  · replace h := (if_neg q).symm.trans h
    refine ww_aload_n 14 X dX13_digestOf_14 0 rfl rfl ?_
    refine ww_bipush 15 X (v := (64 : Int32)) dX13_digestOf_15 (by decide) ?_
    obtain ⟨_, f17, h⟩ := bO_some h
    obtain ⟨M17, e17, h⟩ := bO_some h
    refine ww_callVV0 17 X dX13_digestOf_17 mY_X13_fill mL_X13_521 (rcv_spec f17) ⟨_, _, rfl⟩ (by decide) (As := [.int (64 : Int32)]) (rest := []) rfl rfl ⟨Nat.le_of_ble_eq_true rfl, Nat.le_of_ble_eq_true rfl⟩ (Nat.le_of_ble_eq_true rfl) (fun l D A => c_X13_fill l D A e17) ?_
    refine ww_iconst 20 X (v := (0 : Int32)) dX13_digestOf_20 (by decide) ?_
    refine ww_istore_n 21 X dX13_digestOf_21 (lv' := [(0, .ref l0), (1, .int l1), (2, .int (0 : Int32))]) rfl (by decide) [1, 2, 0] rfl ?_
    exact ww_sub [0, 2] rfl (wB_X13_digestOf_22 X hQ F _ _ _ h)
  · replace h := (if_pos q).symm.trans h
    refine ww_aload_n 7 X dX13_digestOf_7 0 rfl rfl ?_
    obtain ⟨_, f8, h⟩ := bO_some h
    obtain ⟨M8, e8, h⟩ := bO_some h
    refine ww_callVV0 8 X dX13_digestOf_8 mY_X13_digest64 mL_X13_518 (rcv_spec f8) ⟨_, _, rfl⟩ (by decide) (As := []) (rest := []) rfl rfl ⟨Nat.le_of_ble_eq_true rfl, Nat.le_of_ble_eq_true rfl⟩ (Nat.le_of_ble_eq_true rfl) (fun l D A => c_X13_digest64 l D A e8) ?_
    refine ww_bipush 11 X (v := (64 : Int32)) dX13_digestOf_11 (by decide) ?_
    exact ww_iretE 13 X hQ dX13_digestOf_13 h
theorem c_X13_digestOf {G : mG} {F sz : Nat} {r0 : Int32} {M0 : mM} (l : Launch) (D : mD) (A : Nat → Prop) {l0 : Nat} {l1 : Int32} {M : mM} (h : P_X13_digestOf G F l0 l1 M = some (r0, M0)) : mMetI l D G A yX13_digestOf cX13_digestOf 4 (some .int) 4 93 0 0 [.ref l0, .int l1] M sz r0 M0 sz := mMetI_of l D G A (by decide) (Nat.le_of_ble_eq_true rfl) (fun x X hQ => wP_X13_digestOf X hQ h)
/-! SealedTokensModel.hash(II)I -/
theorem dX13_hash_0 : decode cX13_hash 0 = .ok (.iload_n 1, 1) := by decide +kernel
theorem dX13_hash_1 : decode cX13_hash 1 = .ok (.sipush 256, 3) := by decide +kernel
theorem dX13_hash_4 : decode cX13_hash 4 = .ok (.if_icmp .eq 10, 3) := by decide +kernel
theorem dX13_hash_7 : decode cX13_hash 7 = .ok (.iload_n 1, 1) := by decide +kernel
theorem dX13_hash_8 : decode cX13_hash 8 = .ok (.sipush 512, 3) := by decide +kernel
theorem dX13_hash_11 : decode cX13_hash 11 = .ok (.if_icmp .ne 10, 3) := by decide +kernel
theorem dX13_hash_14 : decode cX13_hash 14 = .ok (.iload_n 2, 1) := by decide +kernel
theorem dX13_hash_15 : decode cX13_hash 15 = .ok (.invokestatic 332, 3) := by decide +kernel
theorem dX13_hash_18 : decode cX13_hash 18 = .ok (.ifCond .ne 6, 3) := by decide +kernel
theorem dX13_hash_21 : decode cX13_hash 21 = .ok (.bipush (-2), 2) := by decide +kernel
theorem dX13_hash_23 : decode cX13_hash 23 = .ok (.ireturn, 1) := by decide +kernel
theorem dX13_hash_24 : decode cX13_hash 24 = .ok (.aload_n 0, 1) := by decide +kernel
theorem dX13_hash_25 : decode cX13_hash 25 = .ok (.invokevirtual 570, 3) := by decide +kernel
theorem dX13_hash_28 : decode cX13_hash 28 = .ok (.aload_n 0, 1) := by decide +kernel
theorem dX13_hash_29 : decode cX13_hash 29 = .ok (.aload_n 0, 1) := by decide +kernel
theorem dX13_hash_30 : decode cX13_hash 30 = .ok (.getfield 14, 3) := by decide +kernel
theorem dX13_hash_33 : decode cX13_hash 33 = .ok (.sipush 8192, 3) := by decide +kernel
theorem dX13_hash_36 : decode cX13_hash 36 = .ok (.iload_n 2, 1) := by decide +kernel
theorem dX13_hash_37 : decode cX13_hash 37 = .ok (.imul, 1) := by decide +kernel
theorem dX13_hash_38 : decode cX13_hash 38 = .ok (.aload_n 0, 1) := by decide +kernel
theorem dX13_hash_39 : decode cX13_hash 39 = .ok (.getfield 17, 3) := by decide +kernel
theorem dX13_hash_42 : decode cX13_hash 42 = .ok (.iload_n 2, 1) := by decide +kernel
theorem dX13_hash_43 : decode cX13_hash 43 = .ok (.iaload, 1) := by decide +kernel
theorem dX13_hash_44 : decode cX13_hash 44 = .ok (.invokevirtual 573, 3) := by decide +kernel
theorem dX13_hash_47 : decode cX13_hash 47 = .ok (.aload_n 0, 1) := by decide +kernel
theorem dX13_hash_48 : decode cX13_hash 48 = .ok (.aload_n 0, 1) := by decide +kernel
theorem dX13_hash_49 : decode cX13_hash 49 = .ok (.getfield 76, 3) := by decide +kernel
theorem dX13_hash_52 : decode cX13_hash 52 = .ok (.iconst 0, 1) := by decide +kernel
theorem dX13_hash_53 : decode cX13_hash 53 = .ok (.aload_n 0, 1) := by decide +kernel
theorem dX13_hash_54 : decode cX13_hash 54 = .ok (.iload_n 1, 1) := by decide +kernel
theorem dX13_hash_55 : decode cX13_hash 55 = .ok (.invokevirtual 576, 3) := by decide +kernel
theorem dX13_hash_58 : decode cX13_hash 58 = .ok (.invokevirtual 463, 3) := by decide +kernel
theorem dX13_hash_61 : decode cX13_hash 61 = .ok (.ireturn, 1) := by decide +kernel
abbrev rmX13_hash : Room := { frames := 5, cells := 0, slots := 0, locals := 116 }
set_option maxHeartbeats 4000000 in
set_option maxRecDepth 100000 in
theorem wB_X13_hash_14 {G : mG} {F : Nat} {x : mXT} {sz : Nat} {r0 : Int32} {M0 : mM} (X : mCX G RX13 cX13_hash 3 (some .int) "hash" rmX13_hash x) (hQ : mQI x r0 M0 (sz, 0, 0)) {l0 : Nat} {l1 : Int32} {l2 : Int32} {M : mM} (h : B_X13_hash_14 G F l0 l1 l2 M = some (r0, M0)) : WW x (sz, 0, 0) M 14 [(0, .ref l0), (1, .int l1), (2, .int l2)] [] := by
  unfold B_X13_hash_14 at h
  refine ww_iload_n 14 X dX13_hash_14 2 rfl rfl ?_
  obtain ⟨v15, M15, e15, h⟩ := bP_some h
  refine ww_callSI0 15 X dX13_hash_15 mY_X13_isRow mL_X13_332 (As := [.int l2]) (rest := []) rfl rfl ⟨Nat.le_of_ble_eq_true rfl, Nat.le_of_ble_eq_true rfl⟩ (Nat.le_of_ble_eq_true rfl) (fun l D A => c_X13_isRow l D A e15) ?_
  refine ww_if_ne 18 24 X dX13_hash_18 (by decide) (fun q => ?_) (fun q => ?_)
  · replace h := (if_neg q).symm.trans h
    refine ww_aload_n 24 X dX13_hash_24 0 rfl rfl ?_
    obtain ⟨_, f25, h⟩ := bO_some h
    obtain ⟨M25, e25, h⟩ := bO_some h
    refine ww_callVV0 25 X dX13_hash_25 mY_X13_empty mL_X13_570 (rcv_spec f25) ⟨_, _, rfl⟩ (by decide) (As := []) (rest := []) rfl rfl ⟨Nat.le_of_ble_eq_true rfl, Nat.le_of_ble_eq_true rfl⟩ (Nat.le_of_ble_eq_true rfl) (fun l D A => c_X13_empty l D A e25) ?_
    refine ww_aload_n 28 X dX13_hash_28 0 rfl rfl ?_
    refine ww_aload_n 29 X dX13_hash_29 0 rfl rfl ?_
    obtain ⟨v30, e30, h⟩ := bO_some h
    refine ww_getR 30 X dX13_hash_30 fG_X13_14 e30 ?_
    refine ww_sipush 33 X (v := (8192 : Int32)) dX13_hash_33 (by decide) ?_
    refine ww_iload_n 36 X dX13_hash_36 2 rfl rfl ?_
    refine ww_imul 37 X dX13_hash_37 ?_
    refine ww_aload_n 38 X dX13_hash_38 0 rfl rfl ?_
    obtain ⟨v39, e39, h⟩ := bO_some h
    refine ww_getR 39 X dX13_hash_39 fG_X13_17 e39 ?_
    refine ww_iload_n 42 X dX13_hash_42 2 rfl rfl ?_
    obtain ⟨v43, e43, h⟩ := bO_some h
    refine ww_iald 43 X dX13_hash_43 e43 ?_
    obtain ⟨_, f44, h⟩ := bO_some h
    obtain ⟨M44, e44, h⟩ := bO_some h
    refine ww_callVV0 44 X dX13_hash_44 mY_X13_lay mL_X13_573 (rcv_spec f44) ⟨_, _, rfl⟩ (by decide) (As := [.ref v30, .int ((8192 : Int32) * l2), .int v43]) (rest := []) rfl rfl ⟨Nat.le_of_ble_eq_true rfl, Nat.le_of_ble_eq_true rfl⟩ (Nat.le_of_ble_eq_true rfl) (fun l D A => c_X13_lay l D A e44) ?_
    refine ww_aload_n 47 X dX13_hash_47 0 rfl rfl ?_
    refine ww_aload_n 48 X dX13_hash_48 0 rfl rfl ?_
    obtain ⟨v49, e49, h⟩ := bO_some h
    refine ww_getR 49 X dX13_hash_49 fG_X13_76 e49 ?_
    refine ww_iconst 52 X (v := (0 : Int32)) dX13_hash_52 (by decide) ?_
    refine ww_aload_n 53 X dX13_hash_53 0 rfl rfl ?_
    refine ww_iload_n 54 X dX13_hash_54 1 rfl rfl ?_
    obtain ⟨_, f55, h⟩ := bO_some h
    obtain ⟨v55, M55, e55, h⟩ := bP_some h
    refine ww_callVI0 55 X dX13_hash_55 mY_X13_digestOf mL_X13_576 (rcv_spec f55) ⟨_, _, rfl⟩ (by decide) (As := [.int l1]) (rest := [.int (0 : Int32), .ref v49, .ref l0]) rfl rfl ⟨Nat.le_of_ble_eq_true rfl, Nat.le_of_ble_eq_true rfl⟩ (Nat.le_of_ble_eq_true rfl) (fun l D A => c_X13_digestOf l D A e55) ?_
    obtain ⟨_, f58, h⟩ := bO_some h
    obtain ⟨v58, M58, e58, h⟩ := bP_some h
    refine ww_callVI0 58 X dX13_hash_58 mY_X13_tell mL_X13_463 (rcv_spec f58) ⟨_, _, rfl⟩ (by decide) (As := [.ref v49, .int (0 : Int32), .int v55]) (rest := []) rfl rfl ⟨Nat.le_of_ble_eq_true rfl, Nat.le_of_ble_eq_true rfl⟩ (Nat.le_of_ble_eq_true rfl) (fun l D A => c_X13_tell l D A e58) ?_
    exact ww_iretE 61 X hQ dX13_hash_61 h
  · replace h := (if_pos q).symm.trans h
    refine ww_bipush 21 X (v := (-2 : Int32)) dX13_hash_21 (by decide) ?_
    exact ww_iretE 23 X hQ dX13_hash_23 h
set_option maxHeartbeats 4000000 in
set_option maxRecDepth 100000 in
theorem wP_X13_hash {G : mG} {F : Nat} {x : mXT} {sz : Nat} {r0 : Int32} {M0 : mM} (X : mCX G RX13 cX13_hash 3 (some .int) "hash" rmX13_hash x) (hQ : mQI x r0 M0 (sz, 0, 0)) {l0 : Nat} {l1 : Int32} {l2 : Int32} {M : mM} (h : P_X13_hash G F l0 l1 l2 M = some (r0, M0)) : WW x (sz, 0, 0) M 0 [(0, .ref l0), (1, .int l1), (2, .int l2)] [] := by
  unfold P_X13_hash at h
  refine ww_iload_n 0 X dX13_hash_0 1 rfl rfl ?_
  refine ww_sipush 1 X (v := (256 : Int32)) dX13_hash_1 (by decide) ?_
  refine ww_icmp_eq 4 14 X dX13_hash_4 (by decide) (fun q => ?_) (fun q => ?_)
  · replace h := (if_pos q).symm.trans h
    exact (wB_X13_hash_14 X hQ h)
  · replace h := (if_neg q).symm.trans h
    refine ww_iload_n 7 X dX13_hash_7 1 rfl rfl ?_
    refine ww_sipush 8 X (v := (512 : Int32)) dX13_hash_8 (by decide) ?_
    refine ww_icmp_ne 11 21 X dX13_hash_11 (by decide) (fun q => ?_) (fun q => ?_)
    · replace h := (if_neg q).symm.trans h
      refine ww_bipush 21 X (v := (-2 : Int32)) dX13_hash_21 (by decide) ?_
      exact ww_iretE 23 X hQ dX13_hash_23 h
    · replace h := (if_pos q).symm.trans h
      exact (wB_X13_hash_14 X hQ h)
theorem c_X13_hash {G : mG} {F sz : Nat} {r0 : Int32} {M0 : mM} (l : Launch) (D : mD) (A : Nat → Prop) {l0 : Nat} {l1 : Int32} {l2 : Int32} {M : mM} (h : P_X13_hash G F l0 l1 l2 M = some (r0, M0)) : mMetI l D G A yX13_hash cX13_hash 3 (some .int) 5 116 0 0 [.ref l0, .int l1, .int l2] M sz r0 M0 sz := mMetI_of l D G A (by decide) (Nat.le_of_ble_eq_true rfl) (fun x X hQ => wP_X13_hash X hQ h)
/-! SealedTokensModel.codeOf(I[BII)I -/
theorem dX13_codeOf_0 : decode cX13_codeOf 0 = .ok (.iload_n 1, 1) := by decide +kernel
theorem dX13_codeOf_1 : decode cX13_codeOf 1 = .ok (.iconst 4, 1) := by decide +kernel
theorem dX13_codeOf_2 : decode cX13_codeOf 2 = .ok (.idiv, 1) := by decide +kernel
theorem dX13_codeOf_3 : decode cX13_codeOf 3 = .ok (.istore 5, 2) := by decide +kernel
theorem dX13_codeOf_5 : decode cX13_codeOf 5 = .ok (.iconst 0, 1) := by decide +kernel
theorem dX13_codeOf_6 : decode cX13_codeOf 6 = .ok (.istore 6, 2) := by decide +kernel
theorem dX13_codeOf_8 : decode cX13_codeOf 8 = .ok (.iload 6, 2) := by decide +kernel
theorem dX13_codeOf_10 : decode cX13_codeOf 10 = .ok (.iload 5, 2) := by decide +kernel
theorem dX13_codeOf_12 : decode cX13_codeOf 12 = .ok (.if_icmp .ge 17, 3) := by decide +kernel
theorem dX13_codeOf_15 : decode cX13_codeOf 15 = .ok (.aload_n 0, 1) := by decide +kernel
theorem dX13_codeOf_16 : decode cX13_codeOf 16 = .ok (.getfield 86, 3) := by decide +kernel
theorem dX13_codeOf_19 : decode cX13_codeOf 19 = .ok (.iload 6, 2) := by decide +kernel
theorem dX13_codeOf_21 : decode cX13_codeOf 21 = .ok (.iconst 0, 1) := by decide +kernel
theorem dX13_codeOf_22 : decode cX13_codeOf 22 = .ok (.bastore, 1) := by decide +kernel
theorem dX13_codeOf_23 : decode cX13_codeOf 23 = .ok (.iinc 6 1, 3) := by decide +kernel
theorem dX13_codeOf_26 : decode cX13_codeOf 26 = .ok (.goto (-18), 3) := by decide +kernel
theorem dX13_codeOf_29 : decode cX13_codeOf 29 = .ok (.iload 4, 2) := by decide +kernel
theorem dX13_codeOf_31 : decode cX13_codeOf 31 = .ok (.iload 5, 2) := by decide +kernel
theorem dX13_codeOf_33 : decode cX13_codeOf 33 = .ok (.if_icmp .le 53, 3) := by decide +kernel
theorem dX13_codeOf_36 : decode cX13_codeOf 36 = .ok (.aload_n 0, 1) := by decide +kernel
theorem dX13_codeOf_37 : decode cX13_codeOf 37 = .ok (.invokevirtual 570, 3) := by decide +kernel
theorem dX13_codeOf_40 : decode cX13_codeOf 40 = .ok (.aload_n 0, 1) := by decide +kernel
theorem dX13_codeOf_41 : decode cX13_codeOf 41 = .ok (.aload_n 2, 1) := by decide +kernel
theorem dX13_codeOf_42 : decode cX13_codeOf 42 = .ok (.iload_n 3, 1) := by decide +kernel
theorem dX13_codeOf_43 : decode cX13_codeOf 43 = .ok (.iload 4, 2) := by decide +kernel
theorem dX13_codeOf_45 : decode cX13_codeOf 45 = .ok (.invokevirtual 573, 3) := by decide +kernel
theorem dX13_codeOf_48 : decode cX13_codeOf 48 = .ok (.aload_n 0, 1) := by decide +kernel
theorem dX13_codeOf_49 : decode cX13_codeOf 49 = .ok (.getfield 76, 3) := by decide +kernel
theorem dX13_codeOf_52 : decode cX13_codeOf 52 = .ok (.iconst 0, 1) := by decide +kernel
theorem dX13_codeOf_53 : decode cX13_codeOf 53 = .ok (.aload_n 0, 1) := by decide +kernel
theorem dX13_codeOf_54 : decode cX13_codeOf 54 = .ok (.getfield 86, 3) := by decide +kernel
theorem dX13_codeOf_57 : decode cX13_codeOf 57 = .ok (.iconst 0, 1) := by decide +kernel
theorem dX13_codeOf_58 : decode cX13_codeOf 58 = .ok (.aload_n 0, 1) := by decide +kernel
theorem dX13_codeOf_59 : decode cX13_codeOf 59 = .ok (.iload_n 1, 1) := by decide +kernel
theorem dX13_codeOf_60 : decode cX13_codeOf 60 = .ok (.invokevirtual 576, 3) := by decide +kernel
theorem dX13_codeOf_63 : decode cX13_codeOf 63 = .ok (.invokestatic 317, 3) := by decide +kernel
theorem dX13_codeOf_66 : decode cX13_codeOf 66 = .ok (.aload_n 0, 1) := by decide +kernel
theorem dX13_codeOf_67 : decode cX13_codeOf 67 = .ok (.getfield 76, 3) := by decide +kernel
theorem dX13_codeOf_70 : decode cX13_codeOf 70 = .ok (.iconst 0, 1) := by decide +kernel
theorem dX13_codeOf_71 : decode cX13_codeOf 71 = .ok (.aload_n 0, 1) := by decide +kernel
theorem dX13_codeOf_72 : decode cX13_codeOf 72 = .ok (.getfield 86, 3) := by decide +kernel
theorem dX13_codeOf_75 : decode cX13_codeOf 75 = .ok (.iconst 0, 1) := by decide +kernel
theorem dX13_codeOf_76 : decode cX13_codeOf 76 = .ok (.iload_n 1, 1) := by decide +kernel
theorem dX13_codeOf_77 : decode cX13_codeOf 77 = .ok (.bipush 8, 2) := by decide +kernel
theorem dX13_codeOf_79 : decode cX13_codeOf 79 = .ok (.idiv, 1) := by decide +kernel
theorem dX13_codeOf_80 : decode cX13_codeOf 80 = .ok (.invokestatic 317, 3) := by decide +kernel
theorem dX13_codeOf_83 : decode cX13_codeOf 83 = .ok (.goto 15, 3) := by decide +kernel
theorem dX13_codeOf_86 : decode cX13_codeOf 86 = .ok (.aload_n 2, 1) := by decide +kernel
theorem dX13_codeOf_87 : decode cX13_codeOf 87 = .ok (.iload_n 3, 1) := by decide +kernel
theorem dX13_codeOf_88 : decode cX13_codeOf 88 = .ok (.aload_n 0, 1) := by decide +kernel
theorem dX13_codeOf_89 : decode cX13_codeOf 89 = .ok (.getfield 86, 3) := by decide +kernel
theorem dX13_codeOf_92 : decode cX13_codeOf 92 = .ok (.iconst 0, 1) := by decide +kernel
theorem dX13_codeOf_93 : decode cX13_codeOf 93 = .ok (.iload 4, 2) := by decide +kernel
theorem dX13_codeOf_95 : decode cX13_codeOf 95 = .ok (.invokestatic 317, 3) := by decide +kernel
theorem dX13_codeOf_98 : decode cX13_codeOf 98 = .ok (.aload_n 0, 1) := by decide +kernel
theorem dX13_codeOf_99 : decode cX13_codeOf 99 = .ok (.invokevirtual 570, 3) := by decide +kernel
theorem dX13_codeOf_102 : decode cX13_codeOf 102 = .ok (.iconst 0, 1) := by decide +kernel
theorem dX13_codeOf_103 : decode cX13_codeOf 103 = .ok (.istore 6, 2) := by decide +kernel
theorem dX13_codeOf_105 : decode cX13_codeOf 105 = .ok (.iload 6, 2) := by decide +kernel
theorem dX13_codeOf_107 : decode cX13_codeOf 107 = .ok (.iload 5, 2) := by decide +kernel
theorem dX13_codeOf_109 : decode cX13_codeOf 109 = .ok (.if_icmp .ge 25, 3) := by decide +kernel
theorem dX13_codeOf_112 : decode cX13_codeOf 112 = .ok (.aload_n 0, 1) := by decide +kernel
theorem dX13_codeOf_113 : decode cX13_codeOf 113 = .ok (.aload_n 0, 1) := by decide +kernel
theorem dX13_codeOf_114 : decode cX13_codeOf 114 = .ok (.getfield 86, 3) := by decide +kernel
theorem dX13_codeOf_117 : decode cX13_codeOf 117 = .ok (.iload 6, 2) := by decide +kernel
theorem dX13_codeOf_119 : decode cX13_codeOf 119 = .ok (.baload, 1) := by decide +kernel
theorem dX13_codeOf_120 : decode cX13_codeOf 120 = .ok (.bipush 54, 2) := by decide +kernel
theorem dX13_codeOf_122 : decode cX13_codeOf 122 = .ok (.ixor, 1) := by decide +kernel
theorem dX13_codeOf_123 : decode cX13_codeOf 123 = .ok (.i2l, 1) := by decide +kernel
theorem dX13_codeOf_124 : decode cX13_codeOf 124 = .ok (.iconst 1, 1) := by decide +kernel
theorem dX13_codeOf_125 : decode cX13_codeOf 125 = .ok (.invokevirtual 514, 3) := by decide +kernel
theorem dX13_codeOf_128 : decode cX13_codeOf 128 = .ok (.iinc 6 1, 3) := by decide +kernel
theorem dX13_codeOf_131 : decode cX13_codeOf 131 = .ok (.goto (-26), 3) := by decide +kernel
theorem dX13_codeOf_134 : decode cX13_codeOf 134 = .ok (.aload_n 0, 1) := by decide +kernel
theorem dX13_codeOf_135 : decode cX13_codeOf 135 = .ok (.aload_n 0, 1) := by decide +kernel
theorem dX13_codeOf_136 : decode cX13_codeOf 136 = .ok (.getfield 83, 3) := by decide +kernel
theorem dX13_codeOf_139 : decode cX13_codeOf 139 = .ok (.iconst 0, 1) := by decide +kernel
theorem dX13_codeOf_140 : decode cX13_codeOf 140 = .ok (.aload_n 0, 1) := by decide +kernel
theorem dX13_codeOf_141 : decode cX13_codeOf 141 = .ok (.getfield 579, 3) := by decide +kernel
theorem dX13_codeOf_144 : decode cX13_codeOf 144 = .ok (.invokevirtual 573, 3) := by decide +kernel
theorem dX13_codeOf_147 : decode cX13_codeOf 147 = .ok (.aload_n 0, 1) := by decide +kernel
theorem dX13_codeOf_148 : decode cX13_codeOf 148 = .ok (.iload_n 1, 1) := by decide +kernel
theorem dX13_codeOf_149 : decode cX13_codeOf 149 = .ok (.invokevirtual 576, 3) := by decide +kernel
theorem dX13_codeOf_152 : decode cX13_codeOf 152 = .ok (.istore 6, 2) := by decide +kernel
theorem dX13_codeOf_154 : decode cX13_codeOf 154 = .ok (.aload_n 0, 1) := by decide +kernel
theorem dX13_codeOf_155 : decode cX13_codeOf 155 = .ok (.invokevirtual 570, 3) := by decide +kernel
theorem dX13_codeOf_158 : decode cX13_codeOf 158 = .ok (.iconst 0, 1) := by decide +kernel
theorem dX13_codeOf_159 : decode cX13_codeOf 159 = .ok (.istore 7, 2) := by decide +kernel
theorem dX13_codeOf_161 : decode cX13_codeOf 161 = .ok (.iload 7, 2) := by decide +kernel
theorem dX13_codeOf_163 : decode cX13_codeOf 163 = .ok (.iload 5, 2) := by decide +kernel
theorem dX13_codeOf_165 : decode cX13_codeOf 165 = .ok (.if_icmp .ge 25, 3) := by decide +kernel
theorem dX13_codeOf_168 : decode cX13_codeOf 168 = .ok (.aload_n 0, 1) := by decide +kernel
theorem dX13_codeOf_169 : decode cX13_codeOf 169 = .ok (.aload_n 0, 1) := by decide +kernel
theorem dX13_codeOf_170 : decode cX13_codeOf 170 = .ok (.getfield 86, 3) := by decide +kernel
theorem dX13_codeOf_173 : decode cX13_codeOf 173 = .ok (.iload 7, 2) := by decide +kernel
theorem dX13_codeOf_175 : decode cX13_codeOf 175 = .ok (.baload, 1) := by decide +kernel
theorem dX13_codeOf_176 : decode cX13_codeOf 176 = .ok (.bipush 92, 2) := by decide +kernel
theorem dX13_codeOf_178 : decode cX13_codeOf 178 = .ok (.ixor, 1) := by decide +kernel
theorem dX13_codeOf_179 : decode cX13_codeOf 179 = .ok (.i2l, 1) := by decide +kernel
theorem dX13_codeOf_180 : decode cX13_codeOf 180 = .ok (.iconst 1, 1) := by decide +kernel
theorem dX13_codeOf_181 : decode cX13_codeOf 181 = .ok (.invokevirtual 514, 3) := by decide +kernel
theorem dX13_codeOf_184 : decode cX13_codeOf 184 = .ok (.iinc 7 1, 3) := by decide +kernel
theorem dX13_codeOf_187 : decode cX13_codeOf 187 = .ok (.goto (-26), 3) := by decide +kernel
theorem dX13_codeOf_190 : decode cX13_codeOf 190 = .ok (.aload_n 0, 1) := by decide +kernel
theorem dX13_codeOf_191 : decode cX13_codeOf 191 = .ok (.aload_n 0, 1) := by decide +kernel
theorem dX13_codeOf_192 : decode cX13_codeOf 192 = .ok (.getfield 76, 3) := by decide +kernel
theorem dX13_codeOf_195 : decode cX13_codeOf 195 = .ok (.iconst 0, 1) := by decide +kernel
theorem dX13_codeOf_196 : decode cX13_codeOf 196 = .ok (.iload 6, 2) := by decide +kernel
theorem dX13_codeOf_198 : decode cX13_codeOf 198 = .ok (.invokevirtual 573, 3) := by decide +kernel
theorem dX13_codeOf_201 : decode cX13_codeOf 201 = .ok (.aload_n 0, 1) := by decide +kernel
theorem dX13_codeOf_202 : decode cX13_codeOf 202 = .ok (.iload_n 1, 1) := by decide +kernel
theorem dX13_codeOf_203 : decode cX13_codeOf 203 = .ok (.invokevirtual 576, 3) := by decide +kernel
theorem dX13_codeOf_206 : decode cX13_codeOf 206 = .ok (.ireturn, 1) := by decide +kernel
abbrev rmX13_codeOf : Room := { frames := 5, cells := 0, slots := 0, locals := 116 }
set_option maxHeartbeats 4000000 in
set_option maxRecDepth 100000 in
theorem wB_X13_codeOf_161 {G : mG} {F : Nat} {x : mXT} {sz : Nat} {r0 : Int32} {M0 : mM} (X : mCX G RX13 cX13_codeOf 8 (some .int) "codeOf" rmX13_codeOf x) (hQ : mQI x r0 M0 (sz, 0, 0)) : ∀ (n : Nat) (l0 : Nat) (l1 : Int32) (l5 : Int32) (l6 : Int32) (l7 : Int32) (M : mM), B_X13_codeOf_161 G F n l0 l1 l5 l6 l7 M = some (r0, M0) → WW x (sz, 0, 0) M 161 [(0, .ref l0), (1, .int l1), (5, .int l5), (6, .int l6), (7, .int l7)] [] := by
  intro n
  induction n with
  | zero =>
    intro l0 l1 l5 l6 l7 M h
    exact nomatch (show (none : Option (Int32 × mM)) = some (r0, M0) from h)
  | succ n ih =>
    intro l0 l1 l5 l6 l7 M h
    rw [B_X13_codeOf_161] at h
    refine ww_iload 161 X dX13_codeOf_161 4 rfl ?_
    refine ww_iload 163 X dX13_codeOf_163 2 rfl ?_
    refine ww_icmp_ge 165 190 X dX13_codeOf_165 (by decide) (fun q => ?_) (fun q => ?_)
    · replace h := (if_pos q).symm.trans h
      refine ww_aload_n 190 X dX13_codeOf_190 0 rfl rfl ?_
      refine ww_aload_n 191 X dX13_codeOf_191 0 rfl rfl ?_
      obtain ⟨v192, e192, h⟩ := bO_some h
      refine ww_getR 192 X dX13_codeOf_192 fG_X13_76 e192 ?_
      refine ww_iconst 195 X (v := (0 : Int32)) dX13_codeOf_195 (by decide) ?_
      refine ww_iload 196 X dX13_codeOf_196 3 rfl ?_
      obtain ⟨_, f198, h⟩ := bO_some h
      obtain ⟨M198, e198, h⟩ := bO_some h
      refine ww_callVV0 198 X dX13_codeOf_198 mY_X13_lay mL_X13_573 (rcv_spec f198) ⟨_, _, rfl⟩ (by decide) (As := [.ref v192, .int (0 : Int32), .int l6]) (rest := []) rfl rfl ⟨Nat.le_of_ble_eq_true rfl, Nat.le_of_ble_eq_true rfl⟩ (Nat.le_of_ble_eq_true rfl) (fun l D A => c_X13_lay l D A e198) ?_
      refine ww_aload_n 201 X dX13_codeOf_201 0 rfl rfl ?_
      refine ww_iload_n 202 X dX13_codeOf_202 1 rfl rfl ?_
      obtain ⟨_, f203, h⟩ := bO_some h
      obtain ⟨v203, M203, e203, h⟩ := bP_some h
      refine ww_callVI0 203 X dX13_codeOf_203 mY_X13_digestOf mL_X13_576 (rcv_spec f203) ⟨_, _, rfl⟩ (by decide) (As := [.int l1]) (rest := []) rfl rfl ⟨Nat.le_of_ble_eq_true rfl, Nat.le_of_ble_eq_true rfl⟩ (Nat.le_of_ble_eq_true rfl) (fun l D A => c_X13_digestOf l D A e203) ?_
      exact ww_iretE 206 X hQ dX13_codeOf_206 h
    · replace h := (if_neg q).symm.trans h
      refine ww_aload_n 168 X dX13_codeOf_168 0 rfl rfl ?_
      refine ww_aload_n 169 X dX13_codeOf_169 0 rfl rfl ?_
      obtain ⟨v170, e170, h⟩ := bO_some h
      refine ww_getR 170 X dX13_codeOf_170 fG_X13_86 e170 ?_
      refine ww_iload 173 X dX13_codeOf_173 4 rfl ?_
      obtain ⟨v175, e175, h⟩ := bO_some h
      refine ww_bald 175 X dX13_codeOf_175 e175 ?_
      refine ww_bipush 176 X (v := (92 : Int32)) dX13_codeOf_176 (by decide) ?_
      refine ww_ixor 178 X dX13_codeOf_178 ?_
      refine ww_i2l 179 X dX13_codeOf_179 ?_
      refine ww_iconst 180 X (v := (1 : Int32)) dX13_codeOf_180 (by decide) ?_
      obtain ⟨_, f181, h⟩ := bO_some h
      obtain ⟨M181, e181, h⟩ := bO_some h
      refine ww_callVV0 181 X dX13_codeOf_181 mY_X13_layNumber mL_X13_514 (rcv_spec f181) ⟨_, _, rfl⟩ (by decide) (As := [.long ((v175 ^^^ (92 : Int32)).toInt64), .int (1 : Int32)]) (rest := []) rfl rfl ⟨Nat.le_of_ble_eq_true rfl, Nat.le_of_ble_eq_true rfl⟩ (Nat.le_of_ble_eq_true rfl) (fun l D A => c_X13_layNumber l D A e181) ?_
      refine ww_iinc 184 X dX13_codeOf_184 (lv' := [(0, .ref l0), (1, .int l1), (5, .int l5), (6, .int l6), (7, .int (l7 + 1))]) 4 rfl rfl (by decide) [1, 2, 3, 4, 0] rfl ?_
      refine ww_goto 187 161 X dX13_codeOf_187 (by decide) ?_
      exact (ih _ _ _ _ _ _ h)
set_option maxHeartbeats 4000000 in
set_option maxRecDepth 100000 in
theorem wB_X13_codeOf_105 {G : mG} {F : Nat} {x : mXT} {sz : Nat} {r0 : Int32} {M0 : mM} (X : mCX G RX13 cX13_codeOf 8 (some .int) "codeOf" rmX13_codeOf x) (hQ : mQI x r0 M0 (sz, 0, 0)) : ∀ (n : Nat) (l0 : Nat) (l1 : Int32) (l5 : Int32) (l6 : Int32) (M : mM), B_X13_codeOf_105 G F n l0 l1 l5 l6 M = some (r0, M0) → WW x (sz, 0, 0) M 105 [(0, .ref l0), (1, .int l1), (5, .int l5), (6, .int l6)] [] := by
  intro n
  induction n with
  | zero =>
    intro l0 l1 l5 l6 M h
    exact nomatch (show (none : Option (Int32 × mM)) = some (r0, M0) from h)
  | succ n ih =>
    intro l0 l1 l5 l6 M h
    rw [B_X13_codeOf_105] at h
    refine ww_iload 105 X dX13_codeOf_105 3 rfl ?_
    refine ww_iload 107 X dX13_codeOf_107 2 rfl ?_
    refine ww_icmp_ge 109 134 X dX13_codeOf_109 (by decide) (fun q => ?_) (fun q => ?_)
    · replace h := (if_pos q).symm.trans h
      refine ww_aload_n 134 X dX13_codeOf_134 0 rfl rfl ?_
      refine ww_aload_n 135 X dX13_codeOf_135 0 rfl rfl ?_
      obtain ⟨v136, e136, h⟩ := bO_some h
      refine ww_getR 136 X dX13_codeOf_136 fG_X13_83 e136 ?_
      refine ww_iconst 139 X (v := (0 : Int32)) dX13_codeOf_139 (by decide) ?_
      refine ww_aload_n 140 X dX13_codeOf_140 0 rfl rfl ?_
      obtain ⟨v141, e141, h⟩ := bO_some h
      refine ww_getI 141 X dX13_codeOf_141 fG_X13_579 e141 ?_
      obtain ⟨_, f144, h⟩ := bO_some h
      obtain ⟨M144, e144, h⟩ := bO_some h
      refine ww_callVV0 144 X dX13_codeOf_144 mY_X13_lay mL_X13_573 (rcv_spec f144) ⟨_, _, rfl⟩ (by decide) (As := [.ref v136, .int (0 : Int32), .int v141]) (rest := []) rfl rfl ⟨Nat.le_of_ble_eq_true rfl, Nat.le_of_ble_eq_true rfl⟩ (Nat.le_of_ble_eq_true rfl) (fun l D A => c_X13_lay l D A e144) ?_
      refine ww_aload_n 147 X dX13_codeOf_147 0 rfl rfl ?_
      refine ww_iload_n 148 X dX13_codeOf_148 1 rfl rfl ?_
      obtain ⟨_, f149, h⟩ := bO_some h
      obtain ⟨v149, M149, e149, h⟩ := bP_some h
      refine ww_callVI0 149 X dX13_codeOf_149 mY_X13_digestOf mL_X13_576 (rcv_spec f149) ⟨_, _, rfl⟩ (by decide) (As := [.int l1]) (rest := []) rfl rfl ⟨Nat.le_of_ble_eq_true rfl, Nat.le_of_ble_eq_true rfl⟩ (Nat.le_of_ble_eq_true rfl) (fun l D A => c_X13_digestOf l D A e149) ?_
      refine ww_istore 152 X dX13_codeOf_152 (lv' := [(0, .ref l0), (1, .int l1), (5, .int l5), (6, .int v149)]) (by decide) [1, 2, 3, 0] rfl ?_
      refine ww_aload_n 154 X dX13_codeOf_154 0 rfl rfl ?_
      obtain ⟨_, f155, h⟩ := bO_some h
      obtain ⟨M155, e155, h⟩ := bO_some h
      refine ww_callVV0 155 X dX13_codeOf_155 mY_X13_empty mL_X13_570 (rcv_spec f155) ⟨_, _, rfl⟩ (by decide) (As := []) (rest := []) rfl rfl ⟨Nat.le_of_ble_eq_true rfl, Nat.le_of_ble_eq_true rfl⟩ (Nat.le_of_ble_eq_true rfl) (fun l D A => c_X13_empty l D A e155) ?_
      refine ww_iconst 158 X (v := (0 : Int32)) dX13_codeOf_158 (by decide) ?_
      refine ww_istore 159 X dX13_codeOf_159 (lv' := [(0, .ref l0), (1, .int l1), (5, .int l5), (6, .int v149), (7, .int (0 : Int32))]) (by decide) [1, 2, 3, 4, 0] rfl ?_
      exact (wB_X13_codeOf_161 X hQ F _ _ _ _ _ _ h)
    · replace h := (if_neg q).symm.trans h
      refine ww_aload_n 112 X dX13_codeOf_112 0 rfl rfl ?_
      refine ww_aload_n 113 X dX13_codeOf_113 0 rfl rfl ?_
      obtain ⟨v114, e114, h⟩ := bO_some h
      refine ww_getR 114 X dX13_codeOf_114 fG_X13_86 e114 ?_
      refine ww_iload 117 X dX13_codeOf_117 3 rfl ?_
      obtain ⟨v119, e119, h⟩ := bO_some h
      refine ww_bald 119 X dX13_codeOf_119 e119 ?_
      refine ww_bipush 120 X (v := (54 : Int32)) dX13_codeOf_120 (by decide) ?_
      refine ww_ixor 122 X dX13_codeOf_122 ?_
      refine ww_i2l 123 X dX13_codeOf_123 ?_
      refine ww_iconst 124 X (v := (1 : Int32)) dX13_codeOf_124 (by decide) ?_
      obtain ⟨_, f125, h⟩ := bO_some h
      obtain ⟨M125, e125, h⟩ := bO_some h
      refine ww_callVV0 125 X dX13_codeOf_125 mY_X13_layNumber mL_X13_514 (rcv_spec f125) ⟨_, _, rfl⟩ (by decide) (As := [.long ((v119 ^^^ (54 : Int32)).toInt64), .int (1 : Int32)]) (rest := []) rfl rfl ⟨Nat.le_of_ble_eq_true rfl, Nat.le_of_ble_eq_true rfl⟩ (Nat.le_of_ble_eq_true rfl) (fun l D A => c_X13_layNumber l D A e125) ?_
      refine ww_iinc 128 X dX13_codeOf_128 (lv' := [(0, .ref l0), (1, .int l1), (5, .int l5), (6, .int (l6 + 1))]) 3 rfl rfl (by decide) [1, 2, 3, 0] rfl ?_
      refine ww_goto 131 105 X dX13_codeOf_131 (by decide) ?_
      exact (ih _ _ _ _ _ h)
set_option maxHeartbeats 4000000 in
set_option maxRecDepth 100000 in
theorem wB_X13_codeOf_8 {G : mG} {F : Nat} {x : mXT} {sz : Nat} {r0 : Int32} {M0 : mM} (X : mCX G RX13 cX13_codeOf 8 (some .int) "codeOf" rmX13_codeOf x) (hQ : mQI x r0 M0 (sz, 0, 0)) : ∀ (n : Nat) (l0 : Nat) (l1 : Int32) (l2 : Nat) (l3 : Int32) (l4 : Int32) (l5 : Int32) (l6 : Int32) (M : mM), B_X13_codeOf_8 G F n l0 l1 l2 l3 l4 l5 l6 M = some (r0, M0) → WW x (sz, 0, 0) M 8 [(0, .ref l0), (1, .int l1), (2, .ref l2), (3, .int l3), (4, .int l4), (5, .int l5), (6, .int l6)] [] := by
  intro n
  induction n with
  | zero =>
    intro l0 l1 l2 l3 l4 l5 l6 M h
    exact nomatch (show (none : Option (Int32 × mM)) = some (r0, M0) from h)
  | succ n ih =>
    intro l0 l1 l2 l3 l4 l5 l6 M h
    rw [B_X13_codeOf_8] at h
    refine ww_iload 8 X dX13_codeOf_8 6 rfl ?_
    refine ww_iload 10 X dX13_codeOf_10 5 rfl ?_
    refine ww_icmp_ge 12 29 X dX13_codeOf_12 (by decide) (fun q => ?_) (fun q => ?_)
    · replace h := (if_pos q).symm.trans h
      refine ww_iload 29 X dX13_codeOf_29 4 rfl ?_
      refine ww_iload 31 X dX13_codeOf_31 5 rfl ?_
      refine ww_icmp_le 33 86 X dX13_codeOf_33 (by decide) (fun q => ?_) (fun q => ?_)
      · replace h := (if_pos q).symm.trans h
        refine ww_aload_n 86 X dX13_codeOf_86 2 rfl rfl ?_
        refine ww_iload_n 87 X dX13_codeOf_87 3 rfl rfl ?_
        refine ww_aload_n 88 X dX13_codeOf_88 0 rfl rfl ?_
        obtain ⟨v89, e89, h⟩ := bO_some h
        refine ww_getR 89 X dX13_codeOf_89 fG_X13_86 e89 ?_
        refine ww_iconst 92 X (v := (0 : Int32)) dX13_codeOf_92 (by decide) ?_
        refine ww_iload 93 X dX13_codeOf_93 4 rfl ?_
        obtain ⟨M95, e95, h⟩ := bO_some h
        refine ww_callSV0 95 X dX13_codeOf_95 mY_X13_move mL_X13_317 (As := [.ref l2, .int l3, .ref v89, .int (0 : Int32), .int l4]) (rest := []) rfl rfl ⟨Nat.le_of_ble_eq_true rfl, Nat.le_of_ble_eq_true rfl⟩ (Nat.le_of_ble_eq_true rfl) (fun l D A => c_X13_move l D A e95) ?_
        refine ww_aload_n 98 X dX13_codeOf_98 0 rfl rfl ?_
        obtain ⟨_, f99, h⟩ := bO_some h
        obtain ⟨M99, e99, h⟩ := bO_some h
        refine ww_callVV0 99 X dX13_codeOf_99 mY_X13_empty mL_X13_570 (rcv_spec f99) ⟨_, _, rfl⟩ (by decide) (As := []) (rest := []) rfl rfl ⟨Nat.le_of_ble_eq_true rfl, Nat.le_of_ble_eq_true rfl⟩ (Nat.le_of_ble_eq_true rfl) (fun l D A => c_X13_empty l D A e99) ?_
        refine ww_iconst 102 X (v := (0 : Int32)) dX13_codeOf_102 (by decide) ?_
        refine ww_istore 103 X dX13_codeOf_103 (lv' := [(0, .ref l0), (1, .int l1), (2, .ref l2), (3, .int l3), (4, .int l4), (5, .int l5), (6, .int (0 : Int32))]) (by decide) [1, 2, 3, 4, 5, 6, 0] rfl ?_
        exact ww_sub [0, 1, 5, 6] rfl (wB_X13_codeOf_105 X hQ F _ _ _ _ _ h)
      · replace h := (if_neg q).symm.trans h
        refine ww_aload_n 36 X dX13_codeOf_36 0 rfl rfl ?_
        obtain ⟨_, f37, h⟩ := bO_some h
        obtain ⟨M37, e37, h⟩ := bO_some h
        refine ww_callVV0 37 X dX13_codeOf_37 mY_X13_empty mL_X13_570 (rcv_spec f37) ⟨_, _, rfl⟩ (by decide) (As := []) (rest := []) rfl rfl ⟨Nat.le_of_ble_eq_true rfl, Nat.le_of_ble_eq_true rfl⟩ (Nat.le_of_ble_eq_true rfl) (fun l D A => c_X13_empty l D A e37) ?_
        refine ww_aload_n 40 X dX13_codeOf_40 0 rfl rfl ?_
        refine ww_aload_n 41 X dX13_codeOf_41 2 rfl rfl ?_
        refine ww_iload_n 42 X dX13_codeOf_42 3 rfl rfl ?_
        refine ww_iload 43 X dX13_codeOf_43 4 rfl ?_
        obtain ⟨_, f45, h⟩ := bO_some h
        obtain ⟨M45, e45, h⟩ := bO_some h
        refine ww_callVV0 45 X dX13_codeOf_45 mY_X13_lay mL_X13_573 (rcv_spec f45) ⟨_, _, rfl⟩ (by decide) (As := [.ref l2, .int l3, .int l4]) (rest := []) rfl rfl ⟨Nat.le_of_ble_eq_true rfl, Nat.le_of_ble_eq_true rfl⟩ (Nat.le_of_ble_eq_true rfl) (fun l D A => c_X13_lay l D A e45) ?_
        refine ww_aload_n 48 X dX13_codeOf_48 0 rfl rfl ?_
        obtain ⟨v49, e49, h⟩ := bO_some h
        refine ww_getR 49 X dX13_codeOf_49 fG_X13_76 e49 ?_
        refine ww_iconst 52 X (v := (0 : Int32)) dX13_codeOf_52 (by decide) ?_
        refine ww_aload_n 53 X dX13_codeOf_53 0 rfl rfl ?_
        obtain ⟨v54, e54, h⟩ := bO_some h
        refine ww_getR 54 X dX13_codeOf_54 fG_X13_86 e54 ?_
        refine ww_iconst 57 X (v := (0 : Int32)) dX13_codeOf_57 (by decide) ?_
        refine ww_aload_n 58 X dX13_codeOf_58 0 rfl rfl ?_
        refine ww_iload_n 59 X dX13_codeOf_59 1 rfl rfl ?_
        obtain ⟨_, f60, h⟩ := bO_some h
        obtain ⟨v60, M60, e60, h⟩ := bP_some h
        refine ww_callVI0 60 X dX13_codeOf_60 mY_X13_digestOf mL_X13_576 (rcv_spec f60) ⟨_, _, rfl⟩ (by decide) (As := [.int l1]) (rest := [.int (0 : Int32), .ref v54, .int (0 : Int32), .ref v49]) rfl rfl ⟨Nat.le_of_ble_eq_true rfl, Nat.le_of_ble_eq_true rfl⟩ (Nat.le_of_ble_eq_true rfl) (fun l D A => c_X13_digestOf l D A e60) ?_
        obtain ⟨M63, e63, h⟩ := bO_some h
        refine ww_callSV0 63 X dX13_codeOf_63 mY_X13_move mL_X13_317 (As := [.ref v49, .int (0 : Int32), .ref v54, .int (0 : Int32), .int v60]) (rest := []) rfl rfl ⟨Nat.le_of_ble_eq_true rfl, Nat.le_of_ble_eq_true rfl⟩ (Nat.le_of_ble_eq_true rfl) (fun l D A => c_X13_move l D A e63) ?_
        refine ww_aload_n 66 X dX13_codeOf_66 0 rfl rfl ?_
        obtain ⟨v67, e67, h⟩ := bO_some h
        refine ww_getR 67 X dX13_codeOf_67 fG_X13_76 e67 ?_
        refine ww_iconst 70 X (v := (0 : Int32)) dX13_codeOf_70 (by decide) ?_
        refine ww_aload_n 71 X dX13_codeOf_71 0 rfl rfl ?_
        obtain ⟨v72, e72, h⟩ := bO_some h
        refine ww_getR 72 X dX13_codeOf_72 fG_X13_86 e72 ?_
        refine ww_iconst 75 X (v := (0 : Int32)) dX13_codeOf_75 (by decide) ?_
        refine ww_iload_n 76 X dX13_codeOf_76 1 rfl rfl ?_
        refine ww_bipush 77 X (v := (8 : Int32)) dX13_codeOf_77 (by decide) ?_
        refine ww_idiv 79 X (v := (l1 / (8 : Int32))) dX13_codeOf_79 rfl ?_
        obtain ⟨M80, e80, h⟩ := bO_some h
        refine ww_callSV0 80 X dX13_codeOf_80 mY_X13_move mL_X13_317 (As := [.ref v67, .int (0 : Int32), .ref v72, .int (0 : Int32), .int (l1 / (8 : Int32))]) (rest := []) rfl rfl ⟨Nat.le_of_ble_eq_true rfl, Nat.le_of_ble_eq_true rfl⟩ (Nat.le_of_ble_eq_true rfl) (fun l D A => c_X13_move l D A e80) ?_
        refine ww_goto 83 98 X dX13_codeOf_83 (by decide) ?_
        refine ww_aload_n 98 X dX13_codeOf_98 0 rfl rfl ?_
        obtain ⟨_, f99, h⟩ := bO_some h
        obtain ⟨M99, e99, h⟩ := bO_some h
        refine ww_callVV0 99 X dX13_codeOf_99 mY_X13_empty mL_X13_570 (rcv_spec f99) ⟨_, _, rfl⟩ (by decide) (As := []) (rest := []) rfl rfl ⟨Nat.le_of_ble_eq_true rfl, Nat.le_of_ble_eq_true rfl⟩ (Nat.le_of_ble_eq_true rfl) (fun l D A => c_X13_empty l D A e99) ?_
        refine ww_iconst 102 X (v := (0 : Int32)) dX13_codeOf_102 (by decide) ?_
        refine ww_istore 103 X dX13_codeOf_103 (lv' := [(0, .ref l0), (1, .int l1), (2, .ref l2), (3, .int l3), (4, .int l4), (5, .int l5), (6, .int (0 : Int32))]) (by decide) [1, 2, 3, 4, 5, 6, 0] rfl ?_
        exact ww_sub [0, 1, 5, 6] rfl (wB_X13_codeOf_105 X hQ F _ _ _ _ _ h)
    · replace h := (if_neg q).symm.trans h
      refine ww_aload_n 15 X dX13_codeOf_15 0 rfl rfl ?_
      obtain ⟨v16, e16, h⟩ := bO_some h
      refine ww_getR 16 X dX13_codeOf_16 fG_X13_86 e16 ?_
      refine ww_iload 19 X dX13_codeOf_19 6 rfl ?_
      refine ww_iconst 21 X (v := (0 : Int32)) dX13_codeOf_21 (by decide) ?_
      obtain ⟨M22, e22, h⟩ := bO_some h
      refine ww_bast 22 X dX13_codeOf_22 e22 ?_
      refine ww_iinc 23 X dX13_codeOf_23 (lv' := [(0, .ref l0), (1, .int l1), (2, .ref l2), (3, .int l3), (4, .int l4), (5, .int l5), (6, .int (l6 + 1))]) 6 rfl rfl (by decide) [1, 2, 3, 4, 5, 6, 0] rfl ?_
      refine ww_goto 26 8 X dX13_codeOf_26 (by decide) ?_
      exact (ih _ _ _ _ _ _ _ _ h)
set_option maxHeartbeats 4000000 in
set_option maxRecDepth 100000 in
theorem wP_X13_codeOf {G : mG} {F : Nat} {x : mXT} {sz : Nat} {r0 : Int32} {M0 : mM} (X : mCX G RX13 cX13_codeOf 8 (some .int) "codeOf" rmX13_codeOf x) (hQ : mQI x r0 M0 (sz, 0, 0)) {l0 : Nat} {l1 : Int32} {l2 : Nat} {l3 : Int32} {l4 : Int32} {M : mM} (h : P_X13_codeOf G F l0 l1 l2 l3 l4 M = some (r0, M0)) : WW x (sz, 0, 0) M 0 [(0, .ref l0), (1, .int l1), (2, .ref l2), (3, .int l3), (4, .int l4)] [] := by
  unfold P_X13_codeOf at h
  refine ww_iload_n 0 X dX13_codeOf_0 1 rfl rfl ?_
  refine ww_iconst 1 X (v := (4 : Int32)) dX13_codeOf_1 (by decide) ?_
  refine ww_idiv 2 X (v := (l1 / (4 : Int32))) dX13_codeOf_2 rfl ?_
  refine ww_istore 3 X dX13_codeOf_3 (lv' := [(0, .ref l0), (1, .int l1), (2, .ref l2), (3, .int l3), (4, .int l4), (5, .int (l1 / (4 : Int32)))]) (by decide) [1, 2, 3, 4, 5, 0] rfl ?_
  refine ww_iconst 5 X (v := (0 : Int32)) dX13_codeOf_5 (by decide) ?_
  refine ww_istore 6 X dX13_codeOf_6 (lv' := [(0, .ref l0), (1, .int l1), (2, .ref l2), (3, .int l3), (4, .int l4), (5, .int (l1 / (4 : Int32))), (6, .int (0 : Int32))]) (by decide) [1, 2, 3, 4, 5, 6, 0] rfl ?_
  exact (wB_X13_codeOf_8 X hQ F _ _ _ _ _ _ _ _ h)
theorem c_X13_codeOf {G : mG} {F sz : Nat} {r0 : Int32} {M0 : mM} (l : Launch) (D : mD) (A : Nat → Prop) {l0 : Nat} {l1 : Int32} {l2 : Nat} {l3 : Int32} {l4 : Int32} {M : mM} (h : P_X13_codeOf G F l0 l1 l2 l3 l4 M = some (r0, M0)) : mMetI l D G A yX13_codeOf cX13_codeOf 8 (some .int) 5 116 0 0 [.ref l0, .int l1, .ref l2, .int l3, .int l4] M sz r0 M0 sz := mMetI_of l D G A (by decide) (Nat.le_of_ble_eq_true rfl) (fun x X hQ => wP_X13_codeOf X hQ h)
/-! SealedTokensModel.tellMessage([BII)V -/
theorem dX13_tellMessage_0 : decode cX13_tellMessage 0 = .ok (.aload_n 1, 1) := by decide +kernel
theorem dX13_tellMessage_1 : decode cX13_tellMessage 1 = .ok (.iload_n 2, 1) := by decide +kernel
theorem dX13_tellMessage_2 : decode cX13_tellMessage 2 = .ok (.aload_n 0, 1) := by decide +kernel
theorem dX13_tellMessage_3 : decode cX13_tellMessage 3 = .ok (.getfield 83, 3) := by decide +kernel
theorem dX13_tellMessage_6 : decode cX13_tellMessage 6 = .ok (.aload_n 0, 1) := by decide +kernel
theorem dX13_tellMessage_7 : decode cX13_tellMessage 7 = .ok (.getfield 579, 3) := by decide +kernel
theorem dX13_tellMessage_10 : decode cX13_tellMessage 10 = .ok (.iload_n 3, 1) := by decide +kernel
theorem dX13_tellMessage_11 : decode cX13_tellMessage 11 = .ok (.invokestatic 317, 3) := by decide +kernel
theorem dX13_tellMessage_14 : decode cX13_tellMessage 14 = .ok (.aload_n 0, 1) := by decide +kernel
theorem dX13_tellMessage_15 : decode cX13_tellMessage 15 = .ok (.dup, 1) := by decide +kernel
theorem dX13_tellMessage_16 : decode cX13_tellMessage 16 = .ok (.getfield 579, 3) := by decide +kernel
theorem dX13_tellMessage_19 : decode cX13_tellMessage 19 = .ok (.iload_n 3, 1) := by decide +kernel
theorem dX13_tellMessage_20 : decode cX13_tellMessage 20 = .ok (.iadd, 1) := by decide +kernel
theorem dX13_tellMessage_21 : decode cX13_tellMessage 21 = .ok (.putfield 579, 3) := by decide +kernel
theorem dX13_tellMessage_24 : decode cX13_tellMessage 24 = .ok (.return_, 1) := by decide +kernel
abbrev rmX13_tellMessage : Room := { frames := 1, cells := 0, slots := 0, locals := 25 }
set_option maxHeartbeats 4000000 in
set_option maxRecDepth 100000 in
theorem wP_X13_tellMessage {G : mG} {F : Nat} {x : mXT} {sz : Nat} {M0 : mM} (X : mCX G RX13 cX13_tellMessage 4 none "tellMessage" rmX13_tellMessage x) (hQ : mQV x M0 (sz, 0, 0)) {l0 : Nat} {l1 : Nat} {l2 : Int32} {l3 : Int32} {M : mM} (h : P_X13_tellMessage G F l0 l1 l2 l3 M = some M0) : WW x (sz, 0, 0) M 0 [(0, .ref l0), (1, .ref l1), (2, .int l2), (3, .int l3)] [] := by
  unfold P_X13_tellMessage at h
  refine ww_aload_n 0 X dX13_tellMessage_0 1 rfl rfl ?_
  refine ww_iload_n 1 X dX13_tellMessage_1 2 rfl rfl ?_
  refine ww_aload_n 2 X dX13_tellMessage_2 0 rfl rfl ?_
  obtain ⟨v3, e3, h⟩ := bO_some h
  refine ww_getR 3 X dX13_tellMessage_3 fG_X13_83 e3 ?_
  refine ww_aload_n 6 X dX13_tellMessage_6 0 rfl rfl ?_
  obtain ⟨v7, e7, h⟩ := bO_some h
  refine ww_getI 7 X dX13_tellMessage_7 fG_X13_579 e7 ?_
  refine ww_iload_n 10 X dX13_tellMessage_10 3 rfl rfl ?_
  obtain ⟨M11, e11, h⟩ := bO_some h
  refine ww_callSV0 11 X dX13_tellMessage_11 mY_X13_move mL_X13_317 (As := [.ref l1, .int l2, .ref v3, .int v7, .int l3]) (rest := []) rfl rfl ⟨Nat.le_of_ble_eq_true rfl, Nat.le_of_ble_eq_true rfl⟩ (Nat.le_of_ble_eq_true rfl) (fun l D A => c_X13_move l D A e11) ?_
  refine ww_aload_n 14 X dX13_tellMessage_14 0 rfl rfl ?_
  refine ww_dup 15 X dX13_tellMessage_15 rfl ?_
  obtain ⟨v16, e16, h⟩ := bO_some h
  refine ww_getI 16 X dX13_tellMessage_16 fG_X13_579 e16 ?_
  refine ww_iload_n 19 X dX13_tellMessage_19 3 rfl rfl ?_
  refine ww_iadd 20 X dX13_tellMessage_20 ?_
  obtain ⟨M21, e21, h⟩ := bO_some h
  refine ww_putI 21 X dX13_tellMessage_21 (fP_X13_579 _) e21 ?_
  exact ww_vretE 24 X hQ dX13_tellMessage_24 h
theorem c_X13_tellMessage {G : mG} {F sz : Nat} {M0 : mM} (l : Launch) (D : mD) (A : Nat → Prop) {l0 : Nat} {l1 : Nat} {l2 : Int32} {l3 : Int32} {M : mM} (h : P_X13_tellMessage G F l0 l1 l2 l3 M = some M0) : mMetV l D G A yX13_tellMessage cX13_tellMessage 4 none 1 25 0 0 [.ref l0, .ref l1, .int l2, .int l3] M sz M0 sz := mMetV_of l D G A (by decide) (Nat.le_of_ble_eq_true rfl) (fun x X hQ => wP_X13_tellMessage X hQ h)
/-! SealedTokensModel.code(III)I -/
theorem dX13_code_0 : decode cX13_code 0 = .ok (.iload_n 1, 1) := by decide +kernel
theorem dX13_code_1 : decode cX13_code 1 = .ok (.sipush 256, 3) := by decide +kernel
theorem dX13_code_4 : decode cX13_code 4 = .ok (.if_icmp .eq 10, 3) := by decide +kernel
theorem dX13_code_7 : decode cX13_code 7 = .ok (.iload_n 1, 1) := by decide +kernel
theorem dX13_code_8 : decode cX13_code 8 = .ok (.sipush 512, 3) := by decide +kernel
theorem dX13_code_11 : decode cX13_code 11 = .ok (.if_icmp .ne 17, 3) := by decide +kernel
theorem dX13_code_14 : decode cX13_code 14 = .ok (.iload_n 2, 1) := by decide +kernel
theorem dX13_code_15 : decode cX13_code 15 = .ok (.invokestatic 332, 3) := by decide +kernel
theorem dX13_code_18 : decode cX13_code 18 = .ok (.ifCond .eq 10, 3) := by decide +kernel
theorem dX13_code_21 : decode cX13_code 21 = .ok (.iload_n 3, 1) := by decide +kernel
theorem dX13_code_22 : decode cX13_code 22 = .ok (.invokestatic 332, 3) := by decide +kernel
theorem dX13_code_25 : decode cX13_code 25 = .ok (.ifCond .ne 6, 3) := by decide +kernel
theorem dX13_code_28 : decode cX13_code 28 = .ok (.bipush (-2), 2) := by decide +kernel
theorem dX13_code_30 : decode cX13_code 30 = .ok (.ireturn, 1) := by decide +kernel
theorem dX13_code_31 : decode cX13_code 31 = .ok (.aload_n 0, 1) := by decide +kernel
theorem dX13_code_32 : decode cX13_code 32 = .ok (.iconst 0, 1) := by decide +kernel
theorem dX13_code_33 : decode cX13_code 33 = .ok (.putfield 579, 3) := by decide +kernel
theorem dX13_code_36 : decode cX13_code 36 = .ok (.aload_n 0, 1) := by decide +kernel
theorem dX13_code_37 : decode cX13_code 37 = .ok (.aload_n 0, 1) := by decide +kernel
theorem dX13_code_38 : decode cX13_code 38 = .ok (.getfield 14, 3) := by decide +kernel
theorem dX13_code_41 : decode cX13_code 41 = .ok (.sipush 8192, 3) := by decide +kernel
theorem dX13_code_44 : decode cX13_code 44 = .ok (.iload_n 3, 1) := by decide +kernel
theorem dX13_code_45 : decode cX13_code 45 = .ok (.imul, 1) := by decide +kernel
theorem dX13_code_46 : decode cX13_code 46 = .ok (.aload_n 0, 1) := by decide +kernel
theorem dX13_code_47 : decode cX13_code 47 = .ok (.getfield 17, 3) := by decide +kernel
theorem dX13_code_50 : decode cX13_code 50 = .ok (.iload_n 3, 1) := by decide +kernel
theorem dX13_code_51 : decode cX13_code 51 = .ok (.iaload, 1) := by decide +kernel
theorem dX13_code_52 : decode cX13_code 52 = .ok (.invokevirtual 582, 3) := by decide +kernel
theorem dX13_code_55 : decode cX13_code 55 = .ok (.aload_n 0, 1) := by decide +kernel
theorem dX13_code_56 : decode cX13_code 56 = .ok (.aload_n 0, 1) := by decide +kernel
theorem dX13_code_57 : decode cX13_code 57 = .ok (.getfield 76, 3) := by decide +kernel
theorem dX13_code_60 : decode cX13_code 60 = .ok (.iconst 0, 1) := by decide +kernel
theorem dX13_code_61 : decode cX13_code 61 = .ok (.aload_n 0, 1) := by decide +kernel
theorem dX13_code_62 : decode cX13_code 62 = .ok (.iload_n 1, 1) := by decide +kernel
theorem dX13_code_63 : decode cX13_code 63 = .ok (.aload_n 0, 1) := by decide +kernel
theorem dX13_code_64 : decode cX13_code 64 = .ok (.getfield 14, 3) := by decide +kernel
theorem dX13_code_67 : decode cX13_code 67 = .ok (.sipush 8192, 3) := by decide +kernel
theorem dX13_code_70 : decode cX13_code 70 = .ok (.iload_n 2, 1) := by decide +kernel
theorem dX13_code_71 : decode cX13_code 71 = .ok (.imul, 1) := by decide +kernel
theorem dX13_code_72 : decode cX13_code 72 = .ok (.aload_n 0, 1) := by decide +kernel
theorem dX13_code_73 : decode cX13_code 73 = .ok (.getfield 17, 3) := by decide +kernel
theorem dX13_code_76 : decode cX13_code 76 = .ok (.iload_n 2, 1) := by decide +kernel
theorem dX13_code_77 : decode cX13_code 77 = .ok (.iaload, 1) := by decide +kernel
theorem dX13_code_78 : decode cX13_code 78 = .ok (.invokevirtual 585, 3) := by decide +kernel
theorem dX13_code_81 : decode cX13_code 81 = .ok (.invokevirtual 463, 3) := by decide +kernel
theorem dX13_code_84 : decode cX13_code 84 = .ok (.ireturn, 1) := by decide +kernel
abbrev rmX13_code : Room := { frames := 6, cells := 0, slots := 0, locals := 143 }
set_option maxHeartbeats 4000000 in
set_option maxRecDepth 100000 in
theorem wB_X13_code_14 {G : mG} {F : Nat} {x : mXT} {sz : Nat} {r0 : Int32} {M0 : mM} (X : mCX G RX13 cX13_code 4 (some .int) "code" rmX13_code x) (hQ : mQI x r0 M0 (sz, 0, 0)) {l0 : Nat} {l1 : Int32} {l2 : Int32} {l3 : Int32} {M : mM} (h : B_X13_code_14 G F l0 l1 l2 l3 M = some (r0, M0)) : WW x (sz, 0, 0) M 14 [(0, .ref l0), (1, .int l1), (2, .int l2), (3, .int l3)] [] := by
  unfold B_X13_code_14 at h
  refine ww_iload_n 14 X dX13_code_14 2 rfl rfl ?_
  obtain ⟨v15, M15, e15, h⟩ := bP_some h
  refine ww_callSI0 15 X dX13_code_15 mY_X13_isRow mL_X13_332 (As := [.int l2]) (rest := []) rfl rfl ⟨Nat.le_of_ble_eq_true rfl, Nat.le_of_ble_eq_true rfl⟩ (Nat.le_of_ble_eq_true rfl) (fun l D A => c_X13_isRow l D A e15) ?_
  refine ww_if_eq 18 28 X dX13_code_18 (by decide) (fun q => ?_) (fun q => ?_)
  · replace h := (if_pos q).symm.trans h
    refine ww_bipush 28 X (v := (-2 : Int32)) dX13_code_28 (by decide) ?_
    exact ww_iretE 30 X hQ dX13_code_30 h
  · replace h := (if_neg q).symm.trans h
    refine ww_iload_n 21 X dX13_code_21 3 rfl rfl ?_
    obtain ⟨v22, M22, e22, h⟩ := bP_some h
    refine ww_callSI0 22 X dX13_code_22 mY_X13_isRow mL_X13_332 (As := [.int l3]) (rest := []) rfl rfl ⟨Nat.le_of_ble_eq_true rfl, Nat.le_of_ble_eq_true rfl⟩ (Nat.le_of_ble_eq_true rfl) (fun l D A => c_X13_isRow l D A e22) ?_
    refine ww_if_ne 25 31 X dX13_code_25 (by decide) (fun q => ?_) (fun q => ?_)
    · replace h := (if_neg q).symm.trans h
      refine ww_aload_n 31 X dX13_code_31 0 rfl rfl ?_
      refine ww_iconst 32 X (v := (0 : Int32)) dX13_code_32 (by decide) ?_
      obtain ⟨M33, e33, h⟩ := bO_some h
      refine ww_putI 33 X dX13_code_33 (fP_X13_579 _) e33 ?_
      refine ww_aload_n 36 X dX13_code_36 0 rfl rfl ?_
      refine ww_aload_n 37 X dX13_code_37 0 rfl rfl ?_
      obtain ⟨v38, e38, h⟩ := bO_some h
      refine ww_getR 38 X dX13_code_38 fG_X13_14 e38 ?_
      refine ww_sipush 41 X (v := (8192 : Int32)) dX13_code_41 (by decide) ?_
      refine ww_iload_n 44 X dX13_code_44 3 rfl rfl ?_
      refine ww_imul 45 X dX13_code_45 ?_
      refine ww_aload_n 46 X dX13_code_46 0 rfl rfl ?_
      obtain ⟨v47, e47, h⟩ := bO_some h
      refine ww_getR 47 X dX13_code_47 fG_X13_17 e47 ?_
      refine ww_iload_n 50 X dX13_code_50 3 rfl rfl ?_
      obtain ⟨v51, e51, h⟩ := bO_some h
      refine ww_iald 51 X dX13_code_51 e51 ?_
      obtain ⟨_, f52, h⟩ := bO_some h
      obtain ⟨M52, e52, h⟩ := bO_some h
      refine ww_callVV0 52 X dX13_code_52 mY_X13_tellMessage mL_X13_582 (rcv_spec f52) ⟨_, _, rfl⟩ (by decide) (As := [.ref v38, .int ((8192 : Int32) * l3), .int v51]) (rest := []) rfl rfl ⟨Nat.le_of_ble_eq_true rfl, Nat.le_of_ble_eq_true rfl⟩ (Nat.le_of_ble_eq_true rfl) (fun l D A => c_X13_tellMessage l D A e52) ?_
      refine ww_aload_n 55 X dX13_code_55 0 rfl rfl ?_
      refine ww_aload_n 56 X dX13_code_56 0 rfl rfl ?_
      obtain ⟨v57, e57, h⟩ := bO_some h
      refine ww_getR 57 X dX13_code_57 fG_X13_76 e57 ?_
      refine ww_iconst 60 X (v := (0 : Int32)) dX13_code_60 (by decide) ?_
      refine ww_aload_n 61 X dX13_code_61 0 rfl rfl ?_
      refine ww_iload_n 62 X dX13_code_62 1 rfl rfl ?_
      refine ww_aload_n 63 X dX13_code_63 0 rfl rfl ?_
      obtain ⟨v64, e64, h⟩ := bO_some h
      refine ww_getR 64 X dX13_code_64 fG_X13_14 e64 ?_
      refine ww_sipush 67 X (v := (8192 : Int32)) dX13_code_67 (by decide) ?_
      refine ww_iload_n 70 X dX13_code_70 2 rfl rfl ?_
      refine ww_imul 71 X dX13_code_71 ?_
      refine ww_aload_n 72 X dX13_code_72 0 rfl rfl ?_
      obtain ⟨v73, e73, h⟩ := bO_some h
      refine ww_getR 73 X dX13_code_73 fG_X13_17 e73 ?_
      refine ww_iload_n 76 X dX13_code_76 2 rfl rfl ?_
      obtain ⟨v77, e77, h⟩ := bO_some h
      refine ww_iald 77 X dX13_code_77 e77 ?_
      obtain ⟨_, f78, h⟩ := bO_some h
      obtain ⟨v78, M78, e78, h⟩ := bP_some h
      refine ww_callVI0 78 X dX13_code_78 mY_X13_codeOf mL_X13_585 (rcv_spec f78) ⟨_, _, rfl⟩ (by decide) (As := [.int l1, .ref v64, .int ((8192 : Int32) * l2), .int v77]) (rest := [.int (0 : Int32), .ref v57, .ref l0]) rfl rfl ⟨Nat.le_of_ble_eq_true rfl, Nat.le_of_ble_eq_true rfl⟩ (Nat.le_of_ble_eq_true rfl) (fun l D A => c_X13_codeOf l D A e78) ?_
      obtain ⟨_, f81, h⟩ := bO_some h
      obtain ⟨v81, M81, e81, h⟩ := bP_some h
      refine ww_callVI0 81 X dX13_code_81 mY_X13_tell mL_X13_463 (rcv_spec f81) ⟨_, _, rfl⟩ (by decide) (As := [.ref v57, .int (0 : Int32), .int v78]) (rest := []) rfl rfl ⟨Nat.le_of_ble_eq_true rfl, Nat.le_of_ble_eq_true rfl⟩ (Nat.le_of_ble_eq_true rfl) (fun l D A => c_X13_tell l D A e81) ?_
      exact ww_iretE 84 X hQ dX13_code_84 h
    · replace h := (if_pos q).symm.trans h
      refine ww_bipush 28 X (v := (-2 : Int32)) dX13_code_28 (by decide) ?_
      exact ww_iretE 30 X hQ dX13_code_30 h
set_option maxHeartbeats 4000000 in
set_option maxRecDepth 100000 in
theorem wP_X13_code {G : mG} {F : Nat} {x : mXT} {sz : Nat} {r0 : Int32} {M0 : mM} (X : mCX G RX13 cX13_code 4 (some .int) "code" rmX13_code x) (hQ : mQI x r0 M0 (sz, 0, 0)) {l0 : Nat} {l1 : Int32} {l2 : Int32} {l3 : Int32} {M : mM} (h : P_X13_code G F l0 l1 l2 l3 M = some (r0, M0)) : WW x (sz, 0, 0) M 0 [(0, .ref l0), (1, .int l1), (2, .int l2), (3, .int l3)] [] := by
  unfold P_X13_code at h
  refine ww_iload_n 0 X dX13_code_0 1 rfl rfl ?_
  refine ww_sipush 1 X (v := (256 : Int32)) dX13_code_1 (by decide) ?_
  refine ww_icmp_eq 4 14 X dX13_code_4 (by decide) (fun q => ?_) (fun q => ?_)
  · replace h := (if_pos q).symm.trans h
    exact (wB_X13_code_14 X hQ h)
  · replace h := (if_neg q).symm.trans h
    refine ww_iload_n 7 X dX13_code_7 1 rfl rfl ?_
    refine ww_sipush 8 X (v := (512 : Int32)) dX13_code_8 (by decide) ?_
    refine ww_icmp_ne 11 28 X dX13_code_11 (by decide) (fun q => ?_) (fun q => ?_)
    · replace h := (if_neg q).symm.trans h
      refine ww_bipush 28 X (v := (-2 : Int32)) dX13_code_28 (by decide) ?_
      exact ww_iretE 30 X hQ dX13_code_30 h
    · replace h := (if_pos q).symm.trans h
      exact (wB_X13_code_14 X hQ h)
theorem c_X13_code {G : mG} {F sz : Nat} {r0 : Int32} {M0 : mM} (l : Launch) (D : mD) (A : Nat → Prop) {l0 : Nat} {l1 : Int32} {l2 : Int32} {l3 : Int32} {M : mM} (h : P_X13_code G F l0 l1 l2 l3 M = some (r0, M0)) : mMetI l D G A yX13_code cX13_code 4 (some .int) 6 143 0 0 [.ref l0, .int l1, .int l2, .int l3] M sz r0 M0 sz := mMetI_of l D G A (by decide) (Nat.le_of_ble_eq_true rfl) (fun x X hQ => wP_X13_code X hQ h)
/-! SealedTokensModel.setKey([BII)V -/
theorem dX13_setKey_0 : decode cX13_setKey 0 = .ok (.aload_n 0, 1) := by decide +kernel
theorem dX13_setKey_1 : decode cX13_setKey 1 = .ok (.iload_n 3, 1) := by decide +kernel
theorem dX13_setKey_2 : decode cX13_setKey 2 = .ok (.iconst 4, 1) := by decide +kernel
theorem dX13_setKey_3 : decode cX13_setKey 3 = .ok (.idiv, 1) := by decide +kernel
theorem dX13_setKey_4 : decode cX13_setKey 4 = .ok (.bipush 6, 2) := by decide +kernel
theorem dX13_setKey_6 : decode cX13_setKey 6 = .ok (.iadd, 1) := by decide +kernel
theorem dX13_setKey_7 : decode cX13_setKey 7 = .ok (.putfield 595, 3) := by decide +kernel
theorem dX13_setKey_10 : decode cX13_setKey 10 = .ok (.iconst 0, 1) := by decide +kernel
theorem dX13_setKey_11 : decode cX13_setKey 11 = .ok (.istore 4, 2) := by decide +kernel
theorem dX13_setKey_13 : decode cX13_setKey 13 = .ok (.iload 4, 2) := by decide +kernel
theorem dX13_setKey_15 : decode cX13_setKey 15 = .ok (.iload_n 3, 1) := by decide +kernel
theorem dX13_setKey_16 : decode cX13_setKey 16 = .ok (.if_icmp .ge 26, 3) := by decide +kernel
theorem dX13_setKey_19 : decode cX13_setKey 19 = .ok (.aload_n 0, 1) := by decide +kernel
theorem dX13_setKey_20 : decode cX13_setKey 20 = .ok (.getfield 95, 3) := by decide +kernel
theorem dX13_setKey_23 : decode cX13_setKey 23 = .ok (.iload 4, 2) := by decide +kernel
theorem dX13_setKey_25 : decode cX13_setKey 25 = .ok (.aload_n 1, 1) := by decide +kernel
theorem dX13_setKey_26 : decode cX13_setKey 26 = .ok (.iload_n 2, 1) := by decide +kernel
theorem dX13_setKey_27 : decode cX13_setKey 27 = .ok (.iload 4, 2) := by decide +kernel
theorem dX13_setKey_29 : decode cX13_setKey 29 = .ok (.iadd, 1) := by decide +kernel
theorem dX13_setKey_30 : decode cX13_setKey 30 = .ok (.baload, 1) := by decide +kernel
theorem dX13_setKey_31 : decode cX13_setKey 31 = .ok (.sipush 255, 3) := by decide +kernel
theorem dX13_setKey_34 : decode cX13_setKey 34 = .ok (.iand, 1) := by decide +kernel
theorem dX13_setKey_35 : decode cX13_setKey 35 = .ok (.iastore, 1) := by decide +kernel
theorem dX13_setKey_36 : decode cX13_setKey 36 = .ok (.iinc 4 1, 3) := by decide +kernel
theorem dX13_setKey_39 : decode cX13_setKey 39 = .ok (.goto (-26), 3) := by decide +kernel
theorem dX13_setKey_42 : decode cX13_setKey 42 = .ok (.iconst 1, 1) := by decide +kernel
theorem dX13_setKey_43 : decode cX13_setKey 43 = .ok (.istore 4, 2) := by decide +kernel
theorem dX13_setKey_45 : decode cX13_setKey 45 = .ok (.iload_n 3, 1) := by decide +kernel
theorem dX13_setKey_46 : decode cX13_setKey 46 = .ok (.istore 5, 2) := by decide +kernel
theorem dX13_setKey_48 : decode cX13_setKey 48 = .ok (.iload 5, 2) := by decide +kernel
theorem dX13_setKey_50 : decode cX13_setKey 50 = .ok (.bipush 16, 2) := by decide +kernel
theorem dX13_setKey_52 : decode cX13_setKey 52 = .ok (.aload_n 0, 1) := by decide +kernel
theorem dX13_setKey_53 : decode cX13_setKey 53 = .ok (.getfield 595, 3) := by decide +kernel
theorem dX13_setKey_56 : decode cX13_setKey 56 = .ok (.iconst 1, 1) := by decide +kernel
theorem dX13_setKey_57 : decode cX13_setKey 57 = .ok (.iadd, 1) := by decide +kernel
theorem dX13_setKey_58 : decode cX13_setKey 58 = .ok (.imul, 1) := by decide +kernel
theorem dX13_setKey_59 : decode cX13_setKey 59 = .ok (.if_icmp .ge 171, 3) := by decide +kernel
theorem dX13_setKey_62 : decode cX13_setKey 62 = .ok (.iload 5, 2) := by decide +kernel
theorem dX13_setKey_64 : decode cX13_setKey 64 = .ok (.iload_n 3, 1) := by decide +kernel
theorem dX13_setKey_65 : decode cX13_setKey 65 = .ok (.irem, 1) := by decide +kernel
theorem dX13_setKey_66 : decode cX13_setKey 66 = .ok (.ifCond .ne 7, 3) := by decide +kernel
theorem dX13_setKey_69 : decode cX13_setKey 69 = .ok (.iconst 1, 1) := by decide +kernel
theorem dX13_setKey_70 : decode cX13_setKey 70 = .ok (.goto 4, 3) := by decide +kernel
theorem dX13_setKey_73 : decode cX13_setKey 73 = .ok (.iconst 0, 1) := by decide +kernel
theorem dX13_setKey_74 : decode cX13_setKey 74 = .ok (.istore 6, 2) := by decide +kernel
theorem dX13_setKey_76 : decode cX13_setKey 76 = .ok (.iload_n 3, 1) := by decide +kernel
theorem dX13_setKey_77 : decode cX13_setKey 77 = .ok (.bipush 32, 2) := by decide +kernel
theorem dX13_setKey_79 : decode cX13_setKey 79 = .ok (.if_icmp .ne 16, 3) := by decide +kernel
theorem dX13_setKey_82 : decode cX13_setKey 82 = .ok (.iload 5, 2) := by decide +kernel
theorem dX13_setKey_84 : decode cX13_setKey 84 = .ok (.iload_n 3, 1) := by decide +kernel
theorem dX13_setKey_85 : decode cX13_setKey 85 = .ok (.irem, 1) := by decide +kernel
theorem dX13_setKey_86 : decode cX13_setKey 86 = .ok (.bipush 16, 2) := by decide +kernel
theorem dX13_setKey_88 : decode cX13_setKey 88 = .ok (.if_icmp .ne 7, 3) := by decide +kernel
theorem dX13_setKey_91 : decode cX13_setKey 91 = .ok (.iconst 1, 1) := by decide +kernel
theorem dX13_setKey_92 : decode cX13_setKey 92 = .ok (.goto 4, 3) := by decide +kernel
theorem dX13_setKey_95 : decode cX13_setKey 95 = .ok (.iconst 0, 1) := by decide +kernel
theorem dX13_setKey_96 : decode cX13_setKey 96 = .ok (.istore 7, 2) := by decide +kernel
theorem dX13_setKey_98 : decode cX13_setKey 98 = .ok (.iconst 0, 1) := by decide +kernel
theorem dX13_setKey_99 : decode cX13_setKey 99 = .ok (.istore 8, 2) := by decide +kernel
theorem dX13_setKey_101 : decode cX13_setKey 101 = .ok (.iload 8, 2) := by decide +kernel
theorem dX13_setKey_103 : decode cX13_setKey 103 = .ok (.iconst 4, 1) := by decide +kernel
theorem dX13_setKey_104 : decode cX13_setKey 104 = .ok (.if_icmp .ge 103, 3) := by decide +kernel
theorem dX13_setKey_107 : decode cX13_setKey 107 = .ok (.aload_n 0, 1) := by decide +kernel
theorem dX13_setKey_108 : decode cX13_setKey 108 = .ok (.getfield 95, 3) := by decide +kernel
theorem dX13_setKey_111 : decode cX13_setKey 111 = .ok (.iload 5, 2) := by decide +kernel
theorem dX13_setKey_113 : decode cX13_setKey 113 = .ok (.iconst 4, 1) := by decide +kernel
theorem dX13_setKey_114 : decode cX13_setKey 114 = .ok (.isub, 1) := by decide +kernel
theorem dX13_setKey_115 : decode cX13_setKey 115 = .ok (.iload 6, 2) := by decide +kernel
theorem dX13_setKey_117 : decode cX13_setKey 117 = .ok (.ifCond .eq 12, 3) := by decide +kernel
theorem dX13_setKey_120 : decode cX13_setKey 120 = .ok (.iload 8, 2) := by decide +kernel
theorem dX13_setKey_122 : decode cX13_setKey 122 = .ok (.iconst 1, 1) := by decide +kernel
theorem dX13_setKey_123 : decode cX13_setKey 123 = .ok (.iadd, 1) := by decide +kernel
theorem dX13_setKey_124 : decode cX13_setKey 124 = .ok (.iconst 4, 1) := by decide +kernel
theorem dX13_setKey_125 : decode cX13_setKey 125 = .ok (.irem, 1) := by decide +kernel
theorem dX13_setKey_126 : decode cX13_setKey 126 = .ok (.goto 5, 3) := by decide +kernel
theorem dX13_setKey_129 : decode cX13_setKey 129 = .ok (.iload 8, 2) := by decide +kernel
theorem dX13_setKey_131 : decode cX13_setKey 131 = .ok (.iadd, 1) := by decide +kernel
theorem dX13_setKey_132 : decode cX13_setKey 132 = .ok (.iaload, 1) := by decide +kernel
theorem dX13_setKey_133 : decode cX13_setKey 133 = .ok (.istore 9, 2) := by decide +kernel
theorem dX13_setKey_135 : decode cX13_setKey 135 = .ok (.iload 6, 2) := by decide +kernel
theorem dX13_setKey_137 : decode cX13_setKey 137 = .ok (.ifCond .ne 8, 3) := by decide +kernel
theorem dX13_setKey_140 : decode cX13_setKey 140 = .ok (.iload 7, 2) := by decide +kernel
theorem dX13_setKey_142 : decode cX13_setKey 142 = .ok (.ifCond .eq 13, 3) := by decide +kernel
theorem dX13_setKey_145 : decode cX13_setKey 145 = .ok (.aload_n 0, 1) := by decide +kernel
theorem dX13_setKey_146 : decode cX13_setKey 146 = .ok (.getfield 89, 3) := by decide +kernel
theorem dX13_setKey_149 : decode cX13_setKey 149 = .ok (.iload 9, 2) := by decide +kernel
theorem dX13_setKey_151 : decode cX13_setKey 151 = .ok (.iaload, 1) := by decide +kernel
theorem dX13_setKey_152 : decode cX13_setKey 152 = .ok (.goto 5, 3) := by decide +kernel
theorem dX13_setKey_155 : decode cX13_setKey 155 = .ok (.iload 9, 2) := by decide +kernel
theorem dX13_setKey_157 : decode cX13_setKey 157 = .ok (.istore 9, 2) := by decide +kernel
theorem dX13_setKey_159 : decode cX13_setKey 159 = .ok (.aload_n 0, 1) := by decide +kernel
theorem dX13_setKey_160 : decode cX13_setKey 160 = .ok (.getfield 95, 3) := by decide +kernel
theorem dX13_setKey_163 : decode cX13_setKey 163 = .ok (.iload 5, 2) := by decide +kernel
theorem dX13_setKey_165 : decode cX13_setKey 165 = .ok (.iload 8, 2) := by decide +kernel
theorem dX13_setKey_167 : decode cX13_setKey 167 = .ok (.iadd, 1) := by decide +kernel
theorem dX13_setKey_168 : decode cX13_setKey 168 = .ok (.aload_n 0, 1) := by decide +kernel
theorem dX13_setKey_169 : decode cX13_setKey 169 = .ok (.getfield 95, 3) := by decide +kernel
theorem dX13_setKey_172 : decode cX13_setKey 172 = .ok (.iload 5, 2) := by decide +kernel
theorem dX13_setKey_174 : decode cX13_setKey 174 = .ok (.iload_n 3, 1) := by decide +kernel
theorem dX13_setKey_175 : decode cX13_setKey 175 = .ok (.isub, 1) := by decide +kernel
theorem dX13_setKey_176 : decode cX13_setKey 176 = .ok (.iload 8, 2) := by decide +kernel
theorem dX13_setKey_178 : decode cX13_setKey 178 = .ok (.iadd, 1) := by decide +kernel
theorem dX13_setKey_179 : decode cX13_setKey 179 = .ok (.iaload, 1) := by decide +kernel
theorem dX13_setKey_180 : decode cX13_setKey 180 = .ok (.iload 9, 2) := by decide +kernel
theorem dX13_setKey_182 : decode cX13_setKey 182 = .ok (.ixor, 1) := by decide +kernel
theorem dX13_setKey_183 : decode cX13_setKey 183 = .ok (.iload 6, 2) := by decide +kernel
theorem dX13_setKey_185 : decode cX13_setKey 185 = .ok (.ifCond .eq 13, 3) := by decide +kernel
theorem dX13_setKey_188 : decode cX13_setKey 188 = .ok (.iload 8, 2) := by decide +kernel
theorem dX13_setKey_190 : decode cX13_setKey 190 = .ok (.ifCond .ne 8, 3) := by decide +kernel
theorem dX13_setKey_193 : decode cX13_setKey 193 = .ok (.iload 4, 2) := by decide +kernel
theorem dX13_setKey_195 : decode cX13_setKey 195 = .ok (.goto 4, 3) := by decide +kernel
theorem dX13_setKey_198 : decode cX13_setKey 198 = .ok (.iconst 0, 1) := by decide +kernel
theorem dX13_setKey_199 : decode cX13_setKey 199 = .ok (.ixor, 1) := by decide +kernel
theorem dX13_setKey_200 : decode cX13_setKey 200 = .ok (.iastore, 1) := by decide +kernel
theorem dX13_setKey_201 : decode cX13_setKey 201 = .ok (.iinc 8 1, 3) := by decide +kernel
theorem dX13_setKey_204 : decode cX13_setKey 204 = .ok (.goto (-103), 3) := by decide +kernel
theorem dX13_setKey_207 : decode cX13_setKey 207 = .ok (.iload 6, 2) := by decide +kernel
theorem dX13_setKey_209 : decode cX13_setKey 209 = .ok (.ifCond .eq 11, 3) := by decide +kernel
theorem dX13_setKey_212 : decode cX13_setKey 212 = .ok (.iload 4, 2) := by decide +kernel
theorem dX13_setKey_214 : decode cX13_setKey 214 = .ok (.invokestatic 589, 3) := by decide +kernel
theorem dX13_setKey_217 : decode cX13_setKey 217 = .ok (.goto 5, 3) := by decide +kernel
theorem dX13_setKey_220 : decode cX13_setKey 220 = .ok (.iload 4, 2) := by decide +kernel
theorem dX13_setKey_222 : decode cX13_setKey 222 = .ok (.istore 4, 2) := by decide +kernel
theorem dX13_setKey_224 : decode cX13_setKey 224 = .ok (.iinc 5 4, 3) := by decide +kernel
theorem dX13_setKey_227 : decode cX13_setKey 227 = .ok (.goto (-179), 3) := by decide +kernel
theorem dX13_setKey_230 : decode cX13_setKey 230 = .ok (.return_, 1) := by decide +kernel
abbrev rmX13_setKey : Room := { frames := 1, cells := 0, slots := 0, locals := 20 }
set_option maxHeartbeats 4000000 in
set_option maxRecDepth 100000 in
theorem wB_X13_setKey_157 {G : mG} {F : Nat} {x : mXT} {sz : Nat} {M0 : mM} (X : mCX G RX13 cX13_setKey 10 none "setKey" rmX13_setKey x) (hQ : mQV x M0 (sz, 0, 0)) (r48 : Nat → Int32 → Int32 → Int32 → mM → Option mM) (hr48 : ∀ (l0 : Nat) (l3 : Int32) (l4 : Int32) (l5 : Int32) (M : mM), r48 l0 l3 l4 l5 M = some M0 → WW x (sz, 0, 0) M 48 [(0, .ref l0), (3, .int l3), (4, .int l4), (5, .int l5)] []) (r101 : Nat → Int32 → Int32 → Int32 → Int32 → Int32 → Int32 → mM → Option mM) (hr101 : ∀ (l0 : Nat) (l3 : Int32) (l4 : Int32) (l5 : Int32) (l6 : Int32) (l7 : Int32) (l8 : Int32) (M : mM), r101 l0 l3 l4 l5 l6 l7 l8 M = some M0 → WW x (sz, 0, 0) M 101 [(0, .ref l0), (3, .int l3), (4, .int l4), (5, .int l5), (6, .int l6), (7, .int l7), (8, .int l8)] []) {l0 : Nat} {l3 : Int32} {l4 : Int32} {l5 : Int32} {l6 : Int32} {l7 : Int32} {l8 : Int32} {sk0 : Int32} {M : mM} (h : B_X13_setKey_157 G F r48 r101 l0 l3 l4 l5 l6 l7 l8 sk0 M = some M0) : WW x (sz, 0, 0) M 157 [(0, .ref l0), (3, .int l3), (4, .int l4), (5, .int l5), (6, .int l6), (7, .int l7), (8, .int l8)] [.int sk0] := by
  unfold B_X13_setKey_157 at h
  refine ww_istore 157 X dX13_setKey_157 (lv' := [(0, .ref l0), (3, .int l3), (4, .int l4), (5, .int l5), (6, .int l6), (7, .int l7), (8, .int l8), (9, .int sk0)]) (by decide) [1, 2, 3, 4, 5, 6, 7, 0] rfl ?_
  refine ww_aload_n 159 X dX13_setKey_159 0 rfl rfl ?_
  obtain ⟨v160, e160, h⟩ := bO_some h
  refine ww_getR 160 X dX13_setKey_160 fG_X13_95 e160 ?_
  refine ww_iload 163 X dX13_setKey_163 3 rfl ?_
  refine ww_iload 165 X dX13_setKey_165 6 rfl ?_
  refine ww_iadd 167 X dX13_setKey_167 ?_
  refine ww_aload_n 168 X dX13_setKey_168 0 rfl rfl ?_
  obtain ⟨v169, e169, h⟩ := bO_some h
  refine ww_getR 169 X dX13_setKey_169 fG_X13_95 e169 ?_
  refine ww_iload 172 X dX13_setKey_172 3 rfl ?_
  refine ww_iload_n 174 X dX13_setKey_174 1 rfl rfl ?_
  refine ww_isub 175 X dX13_setKey_175 ?_
  refine ww_iload 176 X dX13_setKey_176 6 rfl ?_
  refine ww_iadd 178 X dX13_setKey_178 ?_
  obtain ⟨v179, e179, h⟩ := bO_some h
  refine ww_iald 179 X dX13_setKey_179 e179 ?_
  refine ww_iload 180 X dX13_setKey_180 7 rfl ?_
  refine ww_ixor 182 X dX13_setKey_182 ?_
  refine ww_iload 183 X dX13_setKey_183 4 rfl ?_
  refine ww_if_eq 185 198 X dX13_setKey_185 (by decide) (fun q => ?_) (fun q => ?_)
  · replace h := (if_pos q).symm.trans h
    refine ww_iconst 198 X (v := (0 : Int32)) dX13_setKey_198 (by decide) ?_
    refine ww_ixor 199 X dX13_setKey_199 ?_
    obtain ⟨M200, e200, h⟩ := bO_some h
    refine ww_iast 200 X dX13_setKey_200 e200 ?_
    refine ww_iinc 201 X dX13_setKey_201 (lv' := [(0, .ref l0), (3, .int l3), (4, .int l4), (5, .int l5), (6, .int l6), (7, .int l7), (8, .int (l8 + 1)), (9, .int sk0)]) 6 rfl rfl (by decide) [1, 2, 3, 4, 5, 6, 0, 7] rfl ?_
    refine ww_goto 204 101 X dX13_setKey_204 (by decide) ?_
    exact ww_sub [0, 1, 2, 3, 4, 5, 6] rfl (hr101 _ _ _ _ _ _ _ _ h)
  · replace h := (if_neg q).symm.trans h
    refine ww_iload 188 X dX13_setKey_188 6 rfl ?_
    refine ww_if_ne 190 198 X dX13_setKey_190 (by decide) (fun q => ?_) (fun q => ?_)
    · replace h := (if_neg q).symm.trans h
      refine ww_iconst 198 X (v := (0 : Int32)) dX13_setKey_198 (by decide) ?_
      refine ww_ixor 199 X dX13_setKey_199 ?_
      obtain ⟨M200, e200, h⟩ := bO_some h
      refine ww_iast 200 X dX13_setKey_200 e200 ?_
      refine ww_iinc 201 X dX13_setKey_201 (lv' := [(0, .ref l0), (3, .int l3), (4, .int l4), (5, .int l5), (6, .int l6), (7, .int l7), (8, .int (l8 + 1)), (9, .int sk0)]) 6 rfl rfl (by decide) [1, 2, 3, 4, 5, 6, 0, 7] rfl ?_
      refine ww_goto 204 101 X dX13_setKey_204 (by decide) ?_
      exact ww_sub [0, 1, 2, 3, 4, 5, 6] rfl (hr101 _ _ _ _ _ _ _ _ h)
    · replace h := (if_pos q).symm.trans h
      refine ww_iload 193 X dX13_setKey_193 2 rfl ?_
      refine ww_goto 195 199 X dX13_setKey_195 (by decide) ?_
      refine ww_ixor 199 X dX13_setKey_199 ?_
      obtain ⟨M200, e200, h⟩ := bO_some h
      refine ww_iast 200 X dX13_setKey_200 e200 ?_
      refine ww_iinc 201 X dX13_setKey_201 (lv' := [(0, .ref l0), (3, .int l3), (4, .int l4), (5, .int l5), (6, .int l6), (7, .int l7), (8, .int (l8 + 1)), (9, .int sk0)]) 6 rfl rfl (by decide) [1, 2, 3, 4, 5, 6, 0, 7] rfl ?_
      refine ww_goto 204 101 X dX13_setKey_204 (by decide) ?_
      exact ww_sub [0, 1, 2, 3, 4, 5, 6] rfl (hr101 _ _ _ _ _ _ _ _ h)
set_option maxHeartbeats 4000000 in
set_option maxRecDepth 100000 in
theorem wB_X13_setKey_131 {G : mG} {F : Nat} {x : mXT} {sz : Nat} {M0 : mM} (X : mCX G RX13 cX13_setKey 10 none "setKey" rmX13_setKey x) (hQ : mQV x M0 (sz, 0, 0)) (r48 : Nat → Int32 → Int32 → Int32 → mM → Option mM) (hr48 : ∀ (l0 : Nat) (l3 : Int32) (l4 : Int32) (l5 : Int32) (M : mM), r48 l0 l3 l4 l5 M = some M0 → WW x (sz, 0, 0) M 48 [(0, .ref l0), (3, .int l3), (4, .int l4), (5, .int l5)] []) (r101 : Nat → Int32 → Int32 → Int32 → Int32 → Int32 → Int32 → mM → Option mM) (hr101 : ∀ (l0 : Nat) (l3 : Int32) (l4 : Int32) (l5 : Int32) (l6 : Int32) (l7 : Int32) (l8 : Int32) (M : mM), r101 l0 l3 l4 l5 l6 l7 l8 M = some M0 → WW x (sz, 0, 0) M 101 [(0, .ref l0), (3, .int l3), (4, .int l4), (5, .int l5), (6, .int l6), (7, .int l7), (8, .int l8)] []) {l0 : Nat} {l3 : Int32} {l4 : Int32} {l5 : Int32} {l6 : Int32} {l7 : Int32} {l8 : Int32} {sk0 : Nat} {sk1 : Int32} {sk2 : Int32} {M : mM} (h : B_X13_setKey_131 G F r48 r101 l0 l3 l4 l5 l6 l7 l8 sk0 sk1 sk2 M = some M0) : WW x (sz, 0, 0) M 131 [(0, .ref l0), (3, .int l3), (4, .int l4), (5, .int l5), (6, .int l6), (7, .int l7), (8, .int l8)] [.int sk2, .int sk1, .ref sk0] := by
  unfold B_X13_setKey_131 at h
  refine ww_iadd 131 X dX13_setKey_131 ?_
  obtain ⟨v132, e132, h⟩ := bO_some h
  refine ww_iald 132 X dX13_setKey_132 e132 ?_
  refine ww_istore 133 X dX13_setKey_133 (lv' := [(0, .ref l0), (3, .int l3), (4, .int l4), (5, .int l5), (6, .int l6), (7, .int l7), (8, .int l8), (9, .int v132)]) (by decide) [1, 2, 3, 4, 5, 6, 7, 0] rfl ?_
  refine ww_iload 135 X dX13_setKey_135 4 rfl ?_
  refine ww_if_ne 137 145 X dX13_setKey_137 (by decide) (fun q => ?_) (fun q => ?_)
  · replace h := (if_neg q).symm.trans h
    refine ww_aload_n 145 X dX13_setKey_145 0 rfl rfl ?_
    obtain ⟨v146, e146, h⟩ := bO_some h
    refine ww_getR 146 X dX13_setKey_146 fG_X13_89 e146 ?_
    refine ww_iload 149 X dX13_setKey_149 7 rfl ?_
    obtain ⟨v151, e151, h⟩ := bO_some h
    refine ww_iald 151 X dX13_setKey_151 e151 ?_
    refine ww_goto 152 157 X dX13_setKey_152 (by decide) ?_
    exact ww_sub [0, 1, 2, 3, 4, 5, 6] rfl (wB_X13_setKey_157 X hQ _ hr48 _ hr101 h)
  · replace h := (if_pos q).symm.trans h
    refine ww_iload 140 X dX13_setKey_140 5 rfl ?_
    refine ww_if_eq 142 155 X dX13_setKey_142 (by decide) (fun q => ?_) (fun q => ?_)
    · replace h := (if_pos q).symm.trans h
      refine ww_iload 155 X dX13_setKey_155 7 rfl ?_
      exact ww_sub [0, 1, 2, 3, 4, 5, 6] rfl (wB_X13_setKey_157 X hQ _ hr48 _ hr101 h)
    · replace h := (if_neg q).symm.trans h
      refine ww_aload_n 145 X dX13_setKey_145 0 rfl rfl ?_
      obtain ⟨v146, e146, h⟩ := bO_some h
      refine ww_getR 146 X dX13_setKey_146 fG_X13_89 e146 ?_
      refine ww_iload 149 X dX13_setKey_149 7 rfl ?_
      obtain ⟨v151, e151, h⟩ := bO_some h
      refine ww_iald 151 X dX13_setKey_151 e151 ?_
      refine ww_goto 152 157 X dX13_setKey_152 (by decide) ?_
      exact ww_sub [0, 1, 2, 3, 4, 5, 6] rfl (wB_X13_setKey_157 X hQ _ hr48 _ hr101 h)
set_option maxHeartbeats 4000000 in
set_option maxRecDepth 100000 in
theorem wB_X13_setKey_101 {G : mG} {F : Nat} {x : mXT} {sz : Nat} {M0 : mM} (X : mCX G RX13 cX13_setKey 10 none "setKey" rmX13_setKey x) (hQ : mQV x M0 (sz, 0, 0)) (r48 : Nat → Int32 → Int32 → Int32 → mM → Option mM) (hr48 : ∀ (l0 : Nat) (l3 : Int32) (l4 : Int32) (l5 : Int32) (M : mM), r48 l0 l3 l4 l5 M = some M0 → WW x (sz, 0, 0) M 48 [(0, .ref l0), (3, .int l3), (4, .int l4), (5, .int l5)] []) : ∀ (n : Nat) (l0 : Nat) (l3 : Int32) (l4 : Int32) (l5 : Int32) (l6 : Int32) (l7 : Int32) (l8 : Int32) (M : mM), B_X13_setKey_101 G F r48 n l0 l3 l4 l5 l6 l7 l8 M = some M0 → WW x (sz, 0, 0) M 101 [(0, .ref l0), (3, .int l3), (4, .int l4), (5, .int l5), (6, .int l6), (7, .int l7), (8, .int l8)] [] := by
  intro n
  induction n with
  | zero =>
    intro l0 l3 l4 l5 l6 l7 l8 M h
    exact nomatch (show (none : Option mM) = some M0 from h)
  | succ n ih =>
    intro l0 l3 l4 l5 l6 l7 l8 M h
    rw [B_X13_setKey_101] at h
    refine ww_iload 101 X dX13_setKey_101 6 rfl ?_
    refine ww_iconst 103 X (v := (4 : Int32)) dX13_setKey_103 (by decide) ?_
    refine ww_icmp_ge 104 207 X dX13_setKey_104 (by decide) (fun q => ?_) (fun q => ?_)
    · replace h := (if_pos q).symm.trans h
      refine ww_iload 207 X dX13_setKey_207 4 rfl ?_
      refine ww_if_eq 209 220 X dX13_setKey_209 (by decide) (fun q => ?_) (fun q => ?_)
      · replace h := (if_pos q).symm.trans h
        refine ww_iload 220 X dX13_setKey_220 2 rfl ?_
        refine ww_istore 222 X dX13_setKey_222 (lv' := [(0, .ref l0), (3, .int l3), (4, .int l4), (5, .int l5), (6, .int l6), (7, .int l7), (8, .int l8)]) (by decide) [1, 2, 0, 3, 4, 5, 6] rfl ?_
        refine ww_iinc 224 X dX13_setKey_224 (lv' := [(0, .ref l0), (3, .int l3), (4, .int l4), (5, .int (l5 + 4)), (6, .int l6), (7, .int l7), (8, .int l8)]) 3 rfl rfl (by decide) [1, 2, 3, 0, 4, 5, 6] rfl ?_
        refine ww_goto 227 48 X dX13_setKey_227 (by decide) ?_
        exact ww_sub [0, 1, 2, 3] rfl (hr48 _ _ _ _ _ h)
      · replace h := (if_neg q).symm.trans h
        refine ww_iload 212 X dX13_setKey_212 2 rfl ?_
        obtain ⟨v214, M214, e214, h⟩ := bP_some h
        refine ww_callSI0 214 X dX13_setKey_214 mY_X13_twice mL_X13_589 (As := [.int l4]) (rest := []) rfl rfl ⟨Nat.le_of_ble_eq_true rfl, Nat.le_of_ble_eq_true rfl⟩ (Nat.le_of_ble_eq_true rfl) (fun l D A => c_X13_twice l D A e214) ?_
        refine ww_goto 217 222 X dX13_setKey_217 (by decide) ?_
        refine ww_istore 222 X dX13_setKey_222 (lv' := [(0, .ref l0), (3, .int l3), (4, .int v214), (5, .int l5), (6, .int l6), (7, .int l7), (8, .int l8)]) (by decide) [1, 2, 0, 3, 4, 5, 6] rfl ?_
        refine ww_iinc 224 X dX13_setKey_224 (lv' := [(0, .ref l0), (3, .int l3), (4, .int v214), (5, .int (l5 + 4)), (6, .int l6), (7, .int l7), (8, .int l8)]) 3 rfl rfl (by decide) [1, 2, 3, 0, 4, 5, 6] rfl ?_
        refine ww_goto 227 48 X dX13_setKey_227 (by decide) ?_
        exact ww_sub [0, 1, 2, 3] rfl (hr48 _ _ _ _ _ h)
    · replace h := (if_neg q).symm.trans h
      refine ww_aload_n 107 X dX13_setKey_107 0 rfl rfl ?_
      obtain ⟨v108, e108, h⟩ := bO_some h
      refine ww_getR 108 X dX13_setKey_108 fG_X13_95 e108 ?_
      refine ww_iload 111 X dX13_setKey_111 3 rfl ?_
      refine ww_iconst 113 X (v := (4 : Int32)) dX13_setKey_113 (by decide) ?_
      refine ww_isub 114 X dX13_setKey_114 ?_
      refine ww_iload 115 X dX13_setKey_115 4 rfl ?_
      refine ww_if_eq 117 129 X dX13_setKey_117 (by decide) (fun q => ?_) (fun q => ?_)
      · replace h := (if_pos q).symm.trans h
        refine ww_iload 129 X dX13_setKey_129 6 rfl ?_
        exact (wB_X13_setKey_131 X hQ _ hr48 _ ih h)
      · replace h := (if_neg q).symm.trans h
        refine ww_iload 120 X dX13_setKey_120 6 rfl ?_
        refine ww_iconst 122 X (v := (1 : Int32)) dX13_setKey_122 (by decide) ?_
        refine ww_iadd 123 X dX13_setKey_123 ?_
        refine ww_iconst 124 X (v := (4 : Int32)) dX13_setKey_124 (by decide) ?_
        refine ww_irem 125 X (v := ((l8 + (1 : Int32)) - (l8 + (1 : Int32)) / (4 : Int32) * (4 : Int32))) dX13_setKey_125 rfl ?_
        refine ww_goto 126 131 X dX13_setKey_126 (by decide) ?_
        exact (wB_X13_setKey_131 X hQ _ hr48 _ ih h)
set_option maxHeartbeats 4000000 in
set_option maxRecDepth 100000 in
theorem wB_X13_setKey_74 {G : mG} {F : Nat} {x : mXT} {sz : Nat} {M0 : mM} (X : mCX G RX13 cX13_setKey 10 none "setKey" rmX13_setKey x) (hQ : mQV x M0 (sz, 0, 0)) (r48 : Nat → Int32 → Int32 → Int32 → mM → Option mM) (hr48 : ∀ (l0 : Nat) (l3 : Int32) (l4 : Int32) (l5 : Int32) (M : mM), r48 l0 l3 l4 l5 M = some M0 → WW x (sz, 0, 0) M 48 [(0, .ref l0), (3, .int l3), (4, .int l4), (5, .int l5)] []) {l0 : Nat} {l3 : Int32} {l4 : Int32} {l5 : Int32} {sk0 : Int32} {M : mM} (h : B_X13_setKey_74 G F r48 l0 l3 l4 l5 sk0 M = some M0) : WW x (sz, 0, 0) M 74 [(0, .ref l0), (3, .int l3), (4, .int l4), (5, .int l5)] [.int sk0] := by
  unfold B_X13_setKey_74 at h
  refine ww_istore 74 X dX13_setKey_74 (lv' := [(0, .ref l0), (3, .int l3), (4, .int l4), (5, .int l5), (6, .int sk0)]) (by decide) [1, 2, 3, 4, 0] rfl ?_
  refine ww_iload_n 76 X dX13_setKey_76 1 rfl rfl ?_
  refine ww_bipush 77 X (v := (32 : Int32)) dX13_setKey_77 (by decide) ?_
  refine ww_icmp_ne 79 95 X dX13_setKey_79 (by decide) (fun q => ?_) (fun q => ?_)
  · replace h := (if_neg q).symm.trans h
    refine ww_iconst 95 X (v := (0 : Int32)) dX13_setKey_95 (by decide) ?_
    refine ww_istore 96 X dX13_setKey_96 (lv' := [(0, .ref l0), (3, .int l3), (4, .int l4), (5, .int l5), (6, .int sk0), (7, .int (0 : Int32))]) (by decide) [1, 2, 3, 4, 5, 0] rfl ?_
    refine ww_iconst 98 X (v := (0 : Int32)) dX13_setKey_98 (by decide) ?_
    refine ww_istore 99 X dX13_setKey_99 (lv' := [(0, .ref l0), (3, .int l3), (4, .int l4), (5, .int l5), (6, .int sk0), (7, .int (0 : Int32)), (8, .int (0 : Int32))]) (by decide) [1, 2, 3, 4, 5, 6, 0] rfl ?_
    exact (wB_X13_setKey_101 X hQ _ hr48 F _ _ _ _ _ _ _ _ h)
  · replace h := (if_pos q).symm.trans h
    refine ww_iload 82 X dX13_setKey_82 3 rfl ?_
    refine ww_iload_n 84 X dX13_setKey_84 1 rfl rfl ?_
    obtain ⟨v85, e85, h⟩ := bO_some h
    refine ww_irem 85 X dX13_setKey_85 e85 ?_
    refine ww_bipush 86 X (v := (16 : Int32)) dX13_setKey_86 (by decide) ?_
    refine ww_icmp_ne 88 95 X dX13_setKey_88 (by decide) (fun q => ?_) (fun q => ?_)
    · replace h := (if_neg q).symm.trans h
      refine ww_iconst 95 X (v := (0 : Int32)) dX13_setKey_95 (by decide) ?_
      refine ww_istore 96 X dX13_setKey_96 (lv' := [(0, .ref l0), (3, .int l3), (4, .int l4), (5, .int l5), (6, .int sk0), (7, .int (0 : Int32))]) (by decide) [1, 2, 3, 4, 5, 0] rfl ?_
      refine ww_iconst 98 X (v := (0 : Int32)) dX13_setKey_98 (by decide) ?_
      refine ww_istore 99 X dX13_setKey_99 (lv' := [(0, .ref l0), (3, .int l3), (4, .int l4), (5, .int l5), (6, .int sk0), (7, .int (0 : Int32)), (8, .int (0 : Int32))]) (by decide) [1, 2, 3, 4, 5, 6, 0] rfl ?_
      exact (wB_X13_setKey_101 X hQ _ hr48 F _ _ _ _ _ _ _ _ h)
    · replace h := (if_pos q).symm.trans h
      refine ww_iconst 91 X (v := (1 : Int32)) dX13_setKey_91 (by decide) ?_
      refine ww_goto 92 96 X dX13_setKey_92 (by decide) ?_
      refine ww_istore 96 X dX13_setKey_96 (lv' := [(0, .ref l0), (3, .int l3), (4, .int l4), (5, .int l5), (6, .int sk0), (7, .int (1 : Int32))]) (by decide) [1, 2, 3, 4, 5, 0] rfl ?_
      refine ww_iconst 98 X (v := (0 : Int32)) dX13_setKey_98 (by decide) ?_
      refine ww_istore 99 X dX13_setKey_99 (lv' := [(0, .ref l0), (3, .int l3), (4, .int l4), (5, .int l5), (6, .int sk0), (7, .int (1 : Int32)), (8, .int (0 : Int32))]) (by decide) [1, 2, 3, 4, 5, 6, 0] rfl ?_
      exact (wB_X13_setKey_101 X hQ _ hr48 F _ _ _ _ _ _ _ _ h)
set_option maxHeartbeats 4000000 in
set_option maxRecDepth 100000 in
theorem wB_X13_setKey_48 {G : mG} {F : Nat} {x : mXT} {sz : Nat} {M0 : mM} (X : mCX G RX13 cX13_setKey 10 none "setKey" rmX13_setKey x) (hQ : mQV x M0 (sz, 0, 0)) : ∀ (n : Nat) (l0 : Nat) (l3 : Int32) (l4 : Int32) (l5 : Int32) (M : mM), B_X13_setKey_48 G F n l0 l3 l4 l5 M = some M0 → WW x (sz, 0, 0) M 48 [(0, .ref l0), (3, .int l3), (4, .int l4), (5, .int l5)] [] := by
  intro n
  induction n with
  | zero =>
    intro l0 l3 l4 l5 M h
    exact nomatch (show (none : Option mM) = some M0 from h)
  | succ n ih =>
    intro l0 l3 l4 l5 M h
    rw [B_X13_setKey_48] at h
    refine ww_iload 48 X dX13_setKey_48 3 rfl ?_
    refine ww_bipush 50 X (v := (16 : Int32)) dX13_setKey_50 (by decide) ?_
    refine ww_aload_n 52 X dX13_setKey_52 0 rfl rfl ?_
    obtain ⟨v53, e53, h⟩ := bO_some h
    refine ww_getI 53 X dX13_setKey_53 fG_X13_595 e53 ?_
    refine ww_iconst 56 X (v := (1 : Int32)) dX13_setKey_56 (by decide) ?_
    refine ww_iadd 57 X dX13_setKey_57 ?_
    refine ww_imul 58 X dX13_setKey_58 ?_
    refine ww_icmp_ge 59 230 X dX13_setKey_59 (by decide) (fun q => ?_) (fun q => ?_)
    · replace h := (if_pos q).symm.trans h
      exact ww_vretE 230 X hQ dX13_setKey_230 h
    · replace h := (if_neg q).symm.trans h
      refine ww_iload 62 X dX13_setKey_62 3 rfl ?_
      refine ww_iload_n 64 X dX13_setKey_64 1 rfl rfl ?_
      obtain ⟨v65, e65, h⟩ := bO_some h
      refine ww_irem 65 X dX13_setKey_65 e65 ?_
      refine ww_if_ne 66 73 X dX13_setKey_66 (by decide) (fun q => ?_) (fun q => ?_)
      · replace h := (if_neg q).symm.trans h
        refine ww_iconst 73 X (v := (0 : Int32)) dX13_setKey_73 (by decide) ?_
        exact (wB_X13_setKey_74 X hQ _ ih h)
      · replace h := (if_pos q).symm.trans h
        refine ww_iconst 69 X (v := (1 : Int32)) dX13_setKey_69 (by decide) ?_
        refine ww_goto 70 74 X dX13_setKey_70 (by decide) ?_
        exact (wB_X13_setKey_74 X hQ _ ih h)
set_option maxHeartbeats 4000000 in
set_option maxRecDepth 100000 in
theorem wB_X13_setKey_13 {G : mG} {F : Nat} {x : mXT} {sz : Nat} {M0 : mM} (X : mCX G RX13 cX13_setKey 10 none "setKey" rmX13_setKey x) (hQ : mQV x M0 (sz, 0, 0)) : ∀ (n : Nat) (l0 : Nat) (l1 : Nat) (l2 : Int32) (l3 : Int32) (l4 : Int32) (M : mM), B_X13_setKey_13 G F n l0 l1 l2 l3 l4 M = some M0 → WW x (sz, 0, 0) M 13 [(0, .ref l0), (1, .ref l1), (2, .int l2), (3, .int l3), (4, .int l4)] [] := by
  intro n
  induction n with
  | zero =>
    intro l0 l1 l2 l3 l4 M h
    exact nomatch (show (none : Option mM) = some M0 from h)
  | succ n ih =>
    intro l0 l1 l2 l3 l4 M h
    rw [B_X13_setKey_13] at h
    refine ww_iload 13 X dX13_setKey_13 4 rfl ?_
    refine ww_iload_n 15 X dX13_setKey_15 3 rfl rfl ?_
    refine ww_icmp_ge 16 42 X dX13_setKey_16 (by decide) (fun q => ?_) (fun q => ?_)
    · replace h := (if_pos q).symm.trans h
      refine ww_iconst 42 X (v := (1 : Int32)) dX13_setKey_42 (by decide) ?_
      refine ww_istore 43 X dX13_setKey_43 (lv' := [(0, .ref l0), (1, .ref l1), (2, .int l2), (3, .int l3), (4, .int (1 : Int32))]) (by decide) [1, 2, 3, 4, 0] rfl ?_
      refine ww_iload_n 45 X dX13_setKey_45 3 rfl rfl ?_
      refine ww_istore 46 X dX13_setKey_46 (lv' := [(0, .ref l0), (1, .ref l1), (2, .int l2), (3, .int l3), (4, .int (1 : Int32)), (5, .int l3)]) (by decide) [1, 2, 3, 4, 5, 0] rfl ?_
      exact ww_sub [0, 3, 4, 5] rfl (wB_X13_setKey_48 X hQ F _ _ _ _ _ h)
    · replace h := (if_neg q).symm.trans h
      refine ww_aload_n 19 X dX13_setKey_19 0 rfl rfl ?_
      obtain ⟨v20, e20, h⟩ := bO_some h
      refine ww_getR 20 X dX13_setKey_20 fG_X13_95 e20 ?_
      refine ww_iload 23 X dX13_setKey_23 4 rfl ?_
      refine ww_aload_n 25 X dX13_setKey_25 1 rfl rfl ?_
      refine ww_iload_n 26 X dX13_setKey_26 2 rfl rfl ?_
      refine ww_iload 27 X dX13_setKey_27 4 rfl ?_
      refine ww_iadd 29 X dX13_setKey_29 ?_
      obtain ⟨v30, e30, h⟩ := bO_some h
      refine ww_bald 30 X dX13_setKey_30 e30 ?_
      refine ww_sipush 31 X (v := (255 : Int32)) dX13_setKey_31 (by decide) ?_
      refine ww_iand 34 X dX13_setKey_34 ?_
      obtain ⟨M35, e35, h⟩ := bO_some h
      refine ww_iast 35 X dX13_setKey_35 e35 ?_
      refine ww_iinc 36 X dX13_setKey_36 (lv' := [(0, .ref l0), (1, .ref l1), (2, .int l2), (3, .int l3), (4, .int (l4 + 1))]) 4 rfl rfl (by decide) [1, 2, 3, 4, 0] rfl ?_
      refine ww_goto 39 13 X dX13_setKey_39 (by decide) ?_
      exact (ih _ _ _ _ _ _ h)
set_option maxHeartbeats 4000000 in
set_option maxRecDepth 100000 in
theorem wP_X13_setKey {G : mG} {F : Nat} {x : mXT} {sz : Nat} {M0 : mM} (X : mCX G RX13 cX13_setKey 10 none "setKey" rmX13_setKey x) (hQ : mQV x M0 (sz, 0, 0)) {l0 : Nat} {l1 : Nat} {l2 : Int32} {l3 : Int32} {M : mM} (h : P_X13_setKey G F l0 l1 l2 l3 M = some M0) : WW x (sz, 0, 0) M 0 [(0, .ref l0), (1, .ref l1), (2, .int l2), (3, .int l3)] [] := by
  unfold P_X13_setKey at h
  refine ww_aload_n 0 X dX13_setKey_0 0 rfl rfl ?_
  refine ww_iload_n 1 X dX13_setKey_1 3 rfl rfl ?_
  refine ww_iconst 2 X (v := (4 : Int32)) dX13_setKey_2 (by decide) ?_
  refine ww_idiv 3 X (v := (l3 / (4 : Int32))) dX13_setKey_3 rfl ?_
  refine ww_bipush 4 X (v := (6 : Int32)) dX13_setKey_4 (by decide) ?_
  refine ww_iadd 6 X dX13_setKey_6 ?_
  obtain ⟨M7, e7, h⟩ := bO_some h
  refine ww_putI 7 X dX13_setKey_7 (fP_X13_595 _) e7 ?_
  refine ww_iconst 10 X (v := (0 : Int32)) dX13_setKey_10 (by decide) ?_
  refine ww_istore 11 X dX13_setKey_11 (lv' := [(0, .ref l0), (1, .ref l1), (2, .int l2), (3, .int l3), (4, .int (0 : Int32))]) (by decide) [1, 2, 3, 4, 0] rfl ?_
  exact (wB_X13_setKey_13 X hQ F _ _ _ _ _ _ h)
theorem c_X13_setKey {G : mG} {F sz : Nat} {M0 : mM} (l : Launch) (D : mD) (A : Nat → Prop) {l0 : Nat} {l1 : Nat} {l2 : Int32} {l3 : Int32} {M : mM} (h : P_X13_setKey G F l0 l1 l2 l3 M = some M0) : mMetV l D G A yX13_setKey cX13_setKey 10 none 1 20 0 0 [.ref l0, .ref l1, .int l2, .int l3] M sz M0 sz := mMetV_of l D G A (by decide) (Nat.le_of_ble_eq_true rfl) (fun x X hQ => wP_X13_setKey X hQ h)
/-! SealedTokensModel.withKey(I)V -/
theorem dX13_withKey_0 : decode cX13_withKey 0 = .ok (.iconst 0, 1) := by decide +kernel
theorem dX13_withKey_1 : decode cX13_withKey 1 = .ok (.istore_n 2, 1) := by decide +kernel
theorem dX13_withKey_2 : decode cX13_withKey 2 = .ok (.iload_n 2, 1) := by decide +kernel
theorem dX13_withKey_3 : decode cX13_withKey 3 = .ok (.bipush 16, 2) := by decide +kernel
theorem dX13_withKey_5 : decode cX13_withKey 5 = .ok (.if_icmp .ge 29, 3) := by decide +kernel
theorem dX13_withKey_8 : decode cX13_withKey 8 = .ok (.aload_n 0, 1) := by decide +kernel
theorem dX13_withKey_9 : decode cX13_withKey 9 = .ok (.getfield 98, 3) := by decide +kernel
theorem dX13_withKey_12 : decode cX13_withKey 12 = .ok (.iload_n 2, 1) := by decide +kernel
theorem dX13_withKey_13 : decode cX13_withKey 13 = .ok (.dup2, 1) := by decide +kernel
theorem dX13_withKey_14 : decode cX13_withKey 14 = .ok (.iaload, 1) := by decide +kernel
theorem dX13_withKey_15 : decode cX13_withKey 15 = .ok (.aload_n 0, 1) := by decide +kernel
theorem dX13_withKey_16 : decode cX13_withKey 16 = .ok (.getfield 95, 3) := by decide +kernel
theorem dX13_withKey_19 : decode cX13_withKey 19 = .ok (.bipush 16, 2) := by decide +kernel
theorem dX13_withKey_21 : decode cX13_withKey 21 = .ok (.iload_n 1, 1) := by decide +kernel
theorem dX13_withKey_22 : decode cX13_withKey 22 = .ok (.imul, 1) := by decide +kernel
theorem dX13_withKey_23 : decode cX13_withKey 23 = .ok (.iload_n 2, 1) := by decide +kernel
theorem dX13_withKey_24 : decode cX13_withKey 24 = .ok (.iadd, 1) := by decide +kernel
theorem dX13_withKey_25 : decode cX13_withKey 25 = .ok (.iaload, 1) := by decide +kernel
theorem dX13_withKey_26 : decode cX13_withKey 26 = .ok (.ixor, 1) := by decide +kernel
theorem dX13_withKey_27 : decode cX13_withKey 27 = .ok (.iastore, 1) := by decide +kernel
theorem dX13_withKey_28 : decode cX13_withKey 28 = .ok (.iinc 2 1, 3) := by decide +kernel
theorem dX13_withKey_31 : decode cX13_withKey 31 = .ok (.goto (-29), 3) := by decide +kernel
theorem dX13_withKey_34 : decode cX13_withKey 34 = .ok (.return_, 1) := by decide +kernel
abbrev rmX13_withKey : Room := { frames := 0, cells := 0, slots := 0, locals := 0 }
set_option maxHeartbeats 4000000 in
set_option maxRecDepth 100000 in
theorem wB_X13_withKey_2 {G : mG} {F : Nat} {x : mXT} {sz : Nat} {M0 : mM} (X : mCX G RX13 cX13_withKey 3 none "withKey" rmX13_withKey x) (hQ : mQV x M0 (sz, 0, 0)) : ∀ (n : Nat) (l0 : Nat) (l1 : Int32) (l2 : Int32) (M : mM), B_X13_withKey_2 G F n l0 l1 l2 M = some M0 → WW x (sz, 0, 0) M 2 [(0, .ref l0), (1, .int l1), (2, .int l2)] [] := by
  intro n
  induction n with
  | zero =>
    intro l0 l1 l2 M h
    exact nomatch (show (none : Option mM) = some M0 from h)
  | succ n ih =>
    intro l0 l1 l2 M h
    rw [B_X13_withKey_2] at h
    refine ww_iload_n 2 X dX13_withKey_2 2 rfl rfl ?_
    refine ww_bipush 3 X (v := (16 : Int32)) dX13_withKey_3 (by decide) ?_
    refine ww_icmp_ge 5 34 X dX13_withKey_5 (by decide) (fun q => ?_) (fun q => ?_)
    · replace h := (if_pos q).symm.trans h
      exact ww_vretE 34 X hQ dX13_withKey_34 h
    · replace h := (if_neg q).symm.trans h
      refine ww_aload_n 8 X dX13_withKey_8 0 rfl rfl ?_
      obtain ⟨v9, e9, h⟩ := bO_some h
      refine ww_getR 9 X dX13_withKey_9 fG_X13_98 e9 ?_
      refine ww_iload_n 12 X dX13_withKey_12 2 rfl rfl ?_
      refine ww_dup2_11 13 X dX13_withKey_13 rfl rfl ?_
      obtain ⟨v14, e14, h⟩ := bO_some h
      refine ww_iald 14 X dX13_withKey_14 e14 ?_
      refine ww_aload_n 15 X dX13_withKey_15 0 rfl rfl ?_
      obtain ⟨v16, e16, h⟩ := bO_some h
      refine ww_getR 16 X dX13_withKey_16 fG_X13_95 e16 ?_
      refine ww_bipush 19 X (v := (16 : Int32)) dX13_withKey_19 (by decide) ?_
      refine ww_iload_n 21 X dX13_withKey_21 1 rfl rfl ?_
      refine ww_imul 22 X dX13_withKey_22 ?_
      refine ww_iload_n 23 X dX13_withKey_23 2 rfl rfl ?_
      refine ww_iadd 24 X dX13_withKey_24 ?_
      obtain ⟨v25, e25, h⟩ := bO_some h
      refine ww_iald 25 X dX13_withKey_25 e25 ?_
      refine ww_ixor 26 X dX13_withKey_26 ?_
      obtain ⟨M27, e27, h⟩ := bO_some h
      refine ww_iast 27 X dX13_withKey_27 e27 ?_
      refine ww_iinc 28 X dX13_withKey_28 (lv' := [(0, .ref l0), (1, .int l1), (2, .int (l2 + 1))]) 2 rfl rfl (by decide) [1, 2, 0] rfl ?_
      refine ww_goto 31 2 X dX13_withKey_31 (by decide) ?_
      exact (ih _ _ _ _ h)
set_option maxHeartbeats 4000000 in
set_option maxRecDepth 100000 in
theorem wP_X13_withKey {G : mG} {F : Nat} {x : mXT} {sz : Nat} {M0 : mM} (X : mCX G RX13 cX13_withKey 3 none "withKey" rmX13_withKey x) (hQ : mQV x M0 (sz, 0, 0)) {l0 : Nat} {l1 : Int32} {M : mM} (h : P_X13_withKey G F l0 l1 M = some M0) : WW x (sz, 0, 0) M 0 [(0, .ref l0), (1, .int l1)] [] := by
  unfold P_X13_withKey at h
  refine ww_iconst 0 X (v := (0 : Int32)) dX13_withKey_0 (by decide) ?_
  refine ww_istore_n 1 X dX13_withKey_1 (lv' := [(0, .ref l0), (1, .int l1), (2, .int (0 : Int32))]) rfl (by decide) [1, 2, 0] rfl ?_
  exact (wB_X13_withKey_2 X hQ F _ _ _ _ h)
theorem c_X13_withKey {G : mG} {F sz : Nat} {M0 : mM} (l : Launch) (D : mD) (A : Nat → Prop) {l0 : Nat} {l1 : Int32} {M : mM} (h : P_X13_withKey G F l0 l1 M = some M0) : mMetV l D G A yX13_withKey cX13_withKey 3 none 0 0 0 0 [.ref l0, .int l1] M sz M0 sz := mMetV_of l D G A (by decide) (Nat.le_of_ble_eq_true rfl) (fun x X hQ => wP_X13_withKey X hQ h)
/-! SealedTokensModel.forth()V -/
theorem dX13_forth_0 : decode cX13_forth 0 = .ok (.aload_n 0, 1) := by decide +kernel
theorem dX13_forth_1 : decode cX13_forth 1 = .ok (.iconst 0, 1) := by decide +kernel
theorem dX13_forth_2 : decode cX13_forth 2 = .ok (.invokevirtual 598, 3) := by decide +kernel
theorem dX13_forth_5 : decode cX13_forth 5 = .ok (.iconst 1, 1) := by decide +kernel
theorem dX13_forth_6 : decode cX13_forth 6 = .ok (.istore_n 1, 1) := by decide +kernel
theorem dX13_forth_7 : decode cX13_forth 7 = .ok (.iload_n 1, 1) := by decide +kernel
theorem dX13_forth_8 : decode cX13_forth 8 = .ok (.aload_n 0, 1) := by decide +kernel
theorem dX13_forth_9 : decode cX13_forth 9 = .ok (.getfield 595, 3) := by decide +kernel
theorem dX13_forth_12 : decode cX13_forth 12 = .ok (.if_icmp .gt 159, 3) := by decide +kernel
theorem dX13_forth_15 : decode cX13_forth 15 = .ok (.iconst 0, 1) := by decide +kernel
theorem dX13_forth_16 : decode cX13_forth 16 = .ok (.istore_n 2, 1) := by decide +kernel
theorem dX13_forth_17 : decode cX13_forth 17 = .ok (.iload_n 2, 1) := by decide +kernel
theorem dX13_forth_18 : decode cX13_forth 18 = .ok (.bipush 16, 2) := by decide +kernel
theorem dX13_forth_20 : decode cX13_forth 20 = .ok (.if_icmp .ge 35, 3) := by decide +kernel
theorem dX13_forth_23 : decode cX13_forth 23 = .ok (.aload_n 0, 1) := by decide +kernel
theorem dX13_forth_24 : decode cX13_forth 24 = .ok (.getfield 101, 3) := by decide +kernel
theorem dX13_forth_27 : decode cX13_forth 27 = .ok (.iload_n 2, 1) := by decide +kernel
theorem dX13_forth_28 : decode cX13_forth 28 = .ok (.aload_n 0, 1) := by decide +kernel
theorem dX13_forth_29 : decode cX13_forth 29 = .ok (.getfield 89, 3) := by decide +kernel
theorem dX13_forth_32 : decode cX13_forth 32 = .ok (.aload_n 0, 1) := by decide +kernel
theorem dX13_forth_33 : decode cX13_forth 33 = .ok (.getfield 98, 3) := by decide +kernel
theorem dX13_forth_36 : decode cX13_forth 36 = .ok (.iload_n 2, 1) := by decide +kernel
theorem dX13_forth_37 : decode cX13_forth 37 = .ok (.iconst 4, 1) := by decide +kernel
theorem dX13_forth_38 : decode cX13_forth 38 = .ok (.iload_n 2, 1) := by decide +kernel
theorem dX13_forth_39 : decode cX13_forth 39 = .ok (.iconst 4, 1) := by decide +kernel
theorem dX13_forth_40 : decode cX13_forth 40 = .ok (.irem, 1) := by decide +kernel
theorem dX13_forth_41 : decode cX13_forth 41 = .ok (.imul, 1) := by decide +kernel
theorem dX13_forth_42 : decode cX13_forth 42 = .ok (.iadd, 1) := by decide +kernel
theorem dX13_forth_43 : decode cX13_forth 43 = .ok (.bipush 16, 2) := by decide +kernel
theorem dX13_forth_45 : decode cX13_forth 45 = .ok (.irem, 1) := by decide +kernel
theorem dX13_forth_46 : decode cX13_forth 46 = .ok (.iaload, 1) := by decide +kernel
theorem dX13_forth_47 : decode cX13_forth 47 = .ok (.iaload, 1) := by decide +kernel
theorem dX13_forth_48 : decode cX13_forth 48 = .ok (.iastore, 1) := by decide +kernel
theorem dX13_forth_49 : decode cX13_forth 49 = .ok (.iinc 2 1, 3) := by decide +kernel
theorem dX13_forth_52 : decode cX13_forth 52 = .ok (.goto (-35), 3) := by decide +kernel
theorem dX13_forth_55 : decode cX13_forth 55 = .ok (.iconst 0, 1) := by decide +kernel
theorem dX13_forth_56 : decode cX13_forth 56 = .ok (.istore_n 2, 1) := by decide +kernel
theorem dX13_forth_57 : decode cX13_forth 57 = .ok (.iload_n 2, 1) := by decide +kernel
theorem dX13_forth_58 : decode cX13_forth 58 = .ok (.bipush 16, 2) := by decide +kernel
theorem dX13_forth_60 : decode cX13_forth 60 = .ok (.if_icmp .ge 100, 3) := by decide +kernel
theorem dX13_forth_63 : decode cX13_forth 63 = .ok (.iload_n 2, 1) := by decide +kernel
theorem dX13_forth_64 : decode cX13_forth 64 = .ok (.iconst 4, 1) := by decide +kernel
theorem dX13_forth_65 : decode cX13_forth 65 = .ok (.idiv, 1) := by decide +kernel
theorem dX13_forth_66 : decode cX13_forth 66 = .ok (.iconst 4, 1) := by decide +kernel
theorem dX13_forth_67 : decode cX13_forth 67 = .ok (.imul, 1) := by decide +kernel
theorem dX13_forth_68 : decode cX13_forth 68 = .ok (.istore_n 3, 1) := by decide +kernel
theorem dX13_forth_69 : decode cX13_forth 69 = .ok (.aload_n 0, 1) := by decide +kernel
theorem dX13_forth_70 : decode cX13_forth 70 = .ok (.getfield 101, 3) := by decide +kernel
theorem dX13_forth_73 : decode cX13_forth 73 = .ok (.iload_n 2, 1) := by decide +kernel
theorem dX13_forth_74 : decode cX13_forth 74 = .ok (.iaload, 1) := by decide +kernel
theorem dX13_forth_75 : decode cX13_forth 75 = .ok (.istore 4, 2) := by decide +kernel
theorem dX13_forth_77 : decode cX13_forth 77 = .ok (.aload_n 0, 1) := by decide +kernel
theorem dX13_forth_78 : decode cX13_forth 78 = .ok (.getfield 101, 3) := by decide +kernel
theorem dX13_forth_81 : decode cX13_forth 81 = .ok (.iload_n 3, 1) := by decide +kernel
theorem dX13_forth_82 : decode cX13_forth 82 = .ok (.iload_n 2, 1) := by decide +kernel
theorem dX13_forth_83 : decode cX13_forth 83 = .ok (.iconst 1, 1) := by decide +kernel
theorem dX13_forth_84 : decode cX13_forth 84 = .ok (.iadd, 1) := by decide +kernel
theorem dX13_forth_85 : decode cX13_forth 85 = .ok (.iconst 4, 1) := by decide +kernel
theorem dX13_forth_86 : decode cX13_forth 86 = .ok (.irem, 1) := by decide +kernel
theorem dX13_forth_87 : decode cX13_forth 87 = .ok (.iadd, 1) := by decide +kernel
theorem dX13_forth_88 : decode cX13_forth 88 = .ok (.iaload, 1) := by decide +kernel
theorem dX13_forth_89 : decode cX13_forth 89 = .ok (.istore 5, 2) := by decide +kernel
theorem dX13_forth_91 : decode cX13_forth 91 = .ok (.iload 4, 2) := by decide +kernel
theorem dX13_forth_93 : decode cX13_forth 93 = .ok (.invokestatic 589, 3) := by decide +kernel
theorem dX13_forth_96 : decode cX13_forth 96 = .ok (.iload 5, 2) := by decide +kernel
theorem dX13_forth_98 : decode cX13_forth 98 = .ok (.invokestatic 589, 3) := by decide +kernel
theorem dX13_forth_101 : decode cX13_forth 101 = .ok (.ixor, 1) := by decide +kernel
theorem dX13_forth_102 : decode cX13_forth 102 = .ok (.iload 5, 2) := by decide +kernel
theorem dX13_forth_104 : decode cX13_forth 104 = .ok (.ixor, 1) := by decide +kernel
theorem dX13_forth_105 : decode cX13_forth 105 = .ok (.aload_n 0, 1) := by decide +kernel
theorem dX13_forth_106 : decode cX13_forth 106 = .ok (.getfield 101, 3) := by decide +kernel
theorem dX13_forth_109 : decode cX13_forth 109 = .ok (.iload_n 3, 1) := by decide +kernel
theorem dX13_forth_110 : decode cX13_forth 110 = .ok (.iload_n 2, 1) := by decide +kernel
theorem dX13_forth_111 : decode cX13_forth 111 = .ok (.iconst 2, 1) := by decide +kernel
theorem dX13_forth_112 : decode cX13_forth 112 = .ok (.iadd, 1) := by decide +kernel
theorem dX13_forth_113 : decode cX13_forth 113 = .ok (.iconst 4, 1) := by decide +kernel
theorem dX13_forth_114 : decode cX13_forth 114 = .ok (.irem, 1) := by decide +kernel
theorem dX13_forth_115 : decode cX13_forth 115 = .ok (.iadd, 1) := by decide +kernel
theorem dX13_forth_116 : decode cX13_forth 116 = .ok (.iaload, 1) := by decide +kernel
theorem dX13_forth_117 : decode cX13_forth 117 = .ok (.ixor, 1) := by decide +kernel
theorem dX13_forth_118 : decode cX13_forth 118 = .ok (.aload_n 0, 1) := by decide +kernel
theorem dX13_forth_119 : decode cX13_forth 119 = .ok (.getfield 101, 3) := by decide +kernel
theorem dX13_forth_122 : decode cX13_forth 122 = .ok (.iload_n 3, 1) := by decide +kernel
theorem dX13_forth_123 : decode cX13_forth 123 = .ok (.iload_n 2, 1) := by decide +kernel
theorem dX13_forth_124 : decode cX13_forth 124 = .ok (.iconst 3, 1) := by decide +kernel
theorem dX13_forth_125 : decode cX13_forth 125 = .ok (.iadd, 1) := by decide +kernel
theorem dX13_forth_126 : decode cX13_forth 126 = .ok (.iconst 4, 1) := by decide +kernel
theorem dX13_forth_127 : decode cX13_forth 127 = .ok (.irem, 1) := by decide +kernel
theorem dX13_forth_128 : decode cX13_forth 128 = .ok (.iadd, 1) := by decide +kernel
theorem dX13_forth_129 : decode cX13_forth 129 = .ok (.iaload, 1) := by decide +kernel
theorem dX13_forth_130 : decode cX13_forth 130 = .ok (.ixor, 1) := by decide +kernel
theorem dX13_forth_131 : decode cX13_forth 131 = .ok (.istore 6, 2) := by decide +kernel
theorem dX13_forth_133 : decode cX13_forth 133 = .ok (.aload_n 0, 1) := by decide +kernel
theorem dX13_forth_134 : decode cX13_forth 134 = .ok (.getfield 98, 3) := by decide +kernel
theorem dX13_forth_137 : decode cX13_forth 137 = .ok (.iload_n 2, 1) := by decide +kernel
theorem dX13_forth_138 : decode cX13_forth 138 = .ok (.iload_n 1, 1) := by decide +kernel
theorem dX13_forth_139 : decode cX13_forth 139 = .ok (.aload_n 0, 1) := by decide +kernel
theorem dX13_forth_140 : decode cX13_forth 140 = .ok (.getfield 595, 3) := by decide +kernel
theorem dX13_forth_143 : decode cX13_forth 143 = .ok (.if_icmp .ge 8, 3) := by decide +kernel
theorem dX13_forth_146 : decode cX13_forth 146 = .ok (.iload 6, 2) := by decide +kernel
theorem dX13_forth_148 : decode cX13_forth 148 = .ok (.goto 5, 3) := by decide +kernel
theorem dX13_forth_151 : decode cX13_forth 151 = .ok (.iload 4, 2) := by decide +kernel
theorem dX13_forth_153 : decode cX13_forth 153 = .ok (.iastore, 1) := by decide +kernel
theorem dX13_forth_154 : decode cX13_forth 154 = .ok (.iinc 2 1, 3) := by decide +kernel
theorem dX13_forth_157 : decode cX13_forth 157 = .ok (.goto (-100), 3) := by decide +kernel
theorem dX13_forth_160 : decode cX13_forth 160 = .ok (.aload_n 0, 1) := by decide +kernel
theorem dX13_forth_161 : decode cX13_forth 161 = .ok (.iload_n 1, 1) := by decide +kernel
theorem dX13_forth_162 : decode cX13_forth 162 = .ok (.invokevirtual 598, 3) := by decide +kernel
theorem dX13_forth_165 : decode cX13_forth 165 = .ok (.iinc 1 1, 3) := by decide +kernel
theorem dX13_forth_168 : decode cX13_forth 168 = .ok (.goto (-161), 3) := by decide +kernel
theorem dX13_forth_171 : decode cX13_forth 171 = .ok (.return_, 1) := by decide +kernel
abbrev rmX13_forth : Room := { frames := 1, cells := 0, slots := 0, locals := 22 }
set_option maxHeartbeats 4000000 in
set_option maxRecDepth 100000 in
theorem wB_X13_forth_57 {G : mG} {F : Nat} {x : mXT} {sz : Nat} {M0 : mM} (X : mCX G RX13 cX13_forth 7 none "forth" rmX13_forth x) (hQ : mQV x M0 (sz, 0, 0)) (r7 : Nat → Int32 → mM → Option mM) (hr7 : ∀ (l0 : Nat) (l1 : Int32) (M : mM), r7 l0 l1 M = some M0 → WW x (sz, 0, 0) M 7 [(0, .ref l0), (1, .int l1)] []) : ∀ (n : Nat) (l0 : Nat) (l1 : Int32) (l2 : Int32) (M : mM), B_X13_forth_57 G F r7 n l0 l1 l2 M = some M0 → WW x (sz, 0, 0) M 57 [(0, .ref l0), (1, .int l1), (2, .int l2)] [] := by
  intro n
  induction n with
  | zero =>
    intro l0 l1 l2 M h
    exact nomatch (show (none : Option mM) = some M0 from h)
  | succ n ih =>
    intro l0 l1 l2 M h
    rw [B_X13_forth_57] at h
    refine ww_iload_n 57 X dX13_forth_57 2 rfl rfl ?_
    refine ww_bipush 58 X (v := (16 : Int32)) dX13_forth_58 (by decide) ?_
    refine ww_icmp_ge 60 160 X dX13_forth_60 (by decide) (fun q => ?_) (fun q => ?_)
    · replace h := (if_pos q).symm.trans h
      refine ww_aload_n 160 X dX13_forth_160 0 rfl rfl ?_
      refine ww_iload_n 161 X dX13_forth_161 1 rfl rfl ?_
      obtain ⟨_, f162, h⟩ := bO_some h
      obtain ⟨M162, e162, h⟩ := bO_some h
      refine ww_callVV0 162 X dX13_forth_162 mY_X13_withKey mL_X13_598 (rcv_spec f162) ⟨_, _, rfl⟩ (by decide) (As := [.int l1]) (rest := []) rfl rfl ⟨Nat.le_of_ble_eq_true rfl, Nat.le_of_ble_eq_true rfl⟩ (Nat.le_of_ble_eq_true rfl) (fun l D A => c_X13_withKey l D A e162) ?_
      refine ww_iinc 165 X dX13_forth_165 (lv' := [(0, .ref l0), (1, .int (l1 + 1)), (2, .int l2)]) 1 rfl rfl (by decide) [1, 0, 2] rfl ?_
      refine ww_goto 168 7 X dX13_forth_168 (by decide) ?_
      exact ww_sub [0, 1] rfl (hr7 _ _ _ h)
    · replace h := (if_neg q).symm.trans h
      refine ww_iload_n 63 X dX13_forth_63 2 rfl rfl ?_
      refine ww_iconst 64 X (v := (4 : Int32)) dX13_forth_64 (by decide) ?_
      refine ww_idiv 65 X (v := (l2 / (4 : Int32))) dX13_forth_65 rfl ?_
      refine ww_iconst 66 X (v := (4 : Int32)) dX13_forth_66 (by decide) ?_
      refine ww_imul 67 X dX13_forth_67 ?_
      refine ww_istore_n 68 X dX13_forth_68 (lv' := [(0, .ref l0), (1, .int l1), (2, .int l2), (3, .int ((l2 / (4 : Int32)) * (4 : Int32)))]) rfl (by decide) [1, 2, 3, 0] rfl ?_
      refine ww_aload_n 69 X dX13_forth_69 0 rfl rfl ?_
      obtain ⟨v70, e70, h⟩ := bO_some h
      refine ww_getR 70 X dX13_forth_70 fG_X13_101 e70 ?_
      refine ww_iload_n 73 X dX13_forth_73 2 rfl rfl ?_
      obtain ⟨v74, e74, h⟩ := bO_some h
      refine ww_iald 74 X dX13_forth_74 e74 ?_
      refine ww_istore 75 X dX13_forth_75 (lv' := [(0, .ref l0), (1, .int l1), (2, .int l2), (3, .int ((l2 / (4 : Int32)) * (4 : Int32))), (4, .int v74)]) (by decide) [1, 2, 3, 4, 0] rfl ?_
      refine ww_aload_n 77 X dX13_forth_77 0 rfl rfl ?_
      obtain ⟨v78, e78, h⟩ := bO_some h
      refine ww_getR 78 X dX13_forth_78 fG_X13_101 e78 ?_
      refine ww_iload_n 81 X dX13_forth_81 3 rfl rfl ?_
      refine ww_iload_n 82 X dX13_forth_82 2 rfl rfl ?_
      refine ww_iconst 83 X (v := (1 : Int32)) dX13_forth_83 (by decide) ?_
      refine ww_iadd 84 X dX13_forth_84 ?_
      refine ww_iconst 85 X (v := (4 : Int32)) dX13_forth_85 (by decide) ?_
      refine ww_irem 86 X (v := ((l2 + (1 : Int32)) - (l2 + (1 : Int32)) / (4 : Int32) * (4 : Int32))) dX13_forth_86 rfl ?_
      refine ww_iadd 87 X dX13_forth_87 ?_
      obtain ⟨v88, e88, h⟩ := bO_some h
      refine ww_iald 88 X dX13_forth_88 e88 ?_
      refine ww_istore 89 X dX13_forth_89 (lv' := [(0, .ref l0), (1, .int l1), (2, .int l2), (3, .int ((l2 / (4 : Int32)) * (4 : Int32))), (4, .int v74), (5, .int v88)]) (by decide) [1, 2, 3, 4, 5, 0] rfl ?_
      refine ww_iload 91 X dX13_forth_91 4 rfl ?_
      obtain ⟨v93, M93, e93, h⟩ := bP_some h
      refine ww_callSI0 93 X dX13_forth_93 mY_X13_twice mL_X13_589 (As := [.int v74]) (rest := []) rfl rfl ⟨Nat.le_of_ble_eq_true rfl, Nat.le_of_ble_eq_true rfl⟩ (Nat.le_of_ble_eq_true rfl) (fun l D A => c_X13_twice l D A e93) ?_
      refine ww_iload 96 X dX13_forth_96 5 rfl ?_
      obtain ⟨v98, M98, e98, h⟩ := bP_some h
      refine ww_callSI0 98 X dX13_forth_98 mY_X13_twice mL_X13_589 (As := [.int v88]) (rest := [.int v93]) rfl rfl ⟨Nat.le_of_ble_eq_true rfl, Nat.le_of_ble_eq_true rfl⟩ (Nat.le_of_ble_eq_true rfl) (fun l D A => c_X13_twice l D A e98) ?_
      refine ww_ixor 101 X dX13_forth_101 ?_
      refine ww_iload 102 X dX13_forth_102 5 rfl ?_
      refine ww_ixor 104 X dX13_forth_104 ?_
      refine ww_aload_n 105 X dX13_forth_105 0 rfl rfl ?_
      obtain ⟨v106, e106, h⟩ := bO_some h
      refine ww_getR 106 X dX13_forth_106 fG_X13_101 e106 ?_
      refine ww_iload_n 109 X dX13_forth_109 3 rfl rfl ?_
      refine ww_iload_n 110 X dX13_forth_110 2 rfl rfl ?_
      refine ww_iconst 111 X (v := (2 : Int32)) dX13_forth_111 (by decide) ?_
      refine ww_iadd 112 X dX13_forth_112 ?_
      refine ww_iconst 113 X (v := (4 : Int32)) dX13_forth_113 (by decide) ?_
      refine ww_irem 114 X (v := ((l2 + (2 : Int32)) - (l2 + (2 : Int32)) / (4 : Int32) * (4 : Int32))) dX13_forth_114 rfl ?_
      refine ww_iadd 115 X dX13_forth_115 ?_
      obtain ⟨v116, e116, h⟩ := bO_some h
      refine ww_iald 116 X dX13_forth_116 e116 ?_
      refine ww_ixor 117 X dX13_forth_117 ?_
      refine ww_aload_n 118 X dX13_forth_118 0 rfl rfl ?_
      obtain ⟨v119, e119, h⟩ := bO_some h
      refine ww_getR 119 X dX13_forth_119 fG_X13_101 e119 ?_
      refine ww_iload_n 122 X dX13_forth_122 3 rfl rfl ?_
      refine ww_iload_n 123 X dX13_forth_123 2 rfl rfl ?_
      refine ww_iconst 124 X (v := (3 : Int32)) dX13_forth_124 (by decide) ?_
      refine ww_iadd 125 X dX13_forth_125 ?_
      refine ww_iconst 126 X (v := (4 : Int32)) dX13_forth_126 (by decide) ?_
      refine ww_irem 127 X (v := ((l2 + (3 : Int32)) - (l2 + (3 : Int32)) / (4 : Int32) * (4 : Int32))) dX13_forth_127 rfl ?_
      refine ww_iadd 128 X dX13_forth_128 ?_
      obtain ⟨v129, e129, h⟩ := bO_some h
      refine ww_iald 129 X dX13_forth_129 e129 ?_
      refine ww_ixor 130 X dX13_forth_130 ?_
      refine ww_istore 131 X dX13_forth_131 (lv' := [(0, .ref l0), (1, .int l1), (2, .int l2), (3, .int ((l2 / (4 : Int32)) * (4 : Int32))), (4, .int v74), (5, .int v88), (6, .int ((((v93 ^^^ v98) ^^^ v88) ^^^ v116) ^^^ v129))]) (by decide) [1, 2, 3, 4, 5, 6, 0] rfl ?_
      refine ww_aload_n 133 X dX13_forth_133 0 rfl rfl ?_
      obtain ⟨v134, e134, h⟩ := bO_some h
      refine ww_getR 134 X dX13_forth_134 fG_X13_98 e134 ?_
      refine ww_iload_n 137 X dX13_forth_137 2 rfl rfl ?_
      refine ww_iload_n 138 X dX13_forth_138 1 rfl rfl ?_
      refine ww_aload_n 139 X dX13_forth_139 0 rfl rfl ?_
      obtain ⟨v140, e140, h⟩ := bO_some h
      refine ww_getI 140 X dX13_forth_140 fG_X13_595 e140 ?_
      refine ww_icmp_ge 143 151 X dX13_forth_143 (by decide) (fun q => ?_) (fun q => ?_)
      · replace h := (if_pos q).symm.trans h
        refine ww_iload 151 X dX13_forth_151 4 rfl ?_
        obtain ⟨M153, e153, h⟩ := bO_some h
        refine ww_iast 153 X dX13_forth_153 e153 ?_
        refine ww_iinc 154 X dX13_forth_154 (lv' := [(0, .ref l0), (1, .int l1), (2, .int (l2 + 1)), (3, .int ((l2 / (4 : Int32)) * (4 : Int32))), (4, .int v74), (5, .int v88), (6, .int ((((v93 ^^^ v98) ^^^ v88) ^^^ v116) ^^^ v129))]) 2 rfl rfl (by decide) [1, 2, 0, 3, 4, 5, 6] rfl ?_
        refine ww_goto 157 57 X dX13_forth_157 (by decide) ?_
        exact ww_sub [0, 1, 2] rfl (ih _ _ _ _ h)
      · replace h := (if_neg q).symm.trans h
        refine ww_iload 146 X dX13_forth_146 6 rfl ?_
        refine ww_goto 148 153 X dX13_forth_148 (by decide) ?_
        obtain ⟨M153, e153, h⟩ := bO_some h
        refine ww_iast 153 X dX13_forth_153 e153 ?_
        refine ww_iinc 154 X dX13_forth_154 (lv' := [(0, .ref l0), (1, .int l1), (2, .int (l2 + 1)), (3, .int ((l2 / (4 : Int32)) * (4 : Int32))), (4, .int v74), (5, .int v88), (6, .int ((((v93 ^^^ v98) ^^^ v88) ^^^ v116) ^^^ v129))]) 2 rfl rfl (by decide) [1, 2, 0, 3, 4, 5, 6] rfl ?_
        refine ww_goto 157 57 X dX13_forth_157 (by decide) ?_
        exact ww_sub [0, 1, 2] rfl (ih _ _ _ _ h)
set_option maxHeartbeats 4000000 in
set_option maxRecDepth 100000 in
theorem wB_X13_forth_17 {G : mG} {F : Nat} {x : mXT} {sz : Nat} {M0 : mM} (X : mCX G RX13 cX13_forth 7 none "forth" rmX13_forth x) (hQ : mQV x M0 (sz, 0, 0)) (r7 : Nat → Int32 → mM → Option mM) (hr7 : ∀ (l0 : Nat) (l1 : Int32) (M : mM), r7 l0 l1 M = some M0 → WW x (sz, 0, 0) M 7 [(0, .ref l0), (1, .int l1)] []) : ∀ (n : Nat) (l0 : Nat) (l1 : Int32) (l2 : Int32) (M : mM), B_X13_forth_17 G F r7 n l0 l1 l2 M = some M0 → WW x (sz, 0, 0) M 17 [(0, .ref l0), (1, .int l1), (2, .int l2)] [] := by
  intro n
  induction n with
  | zero =>
    intro l0 l1 l2 M h
    exact nomatch (show (none : Option mM) = some M0 from h)
  | succ n ih =>
    intro l0 l1 l2 M h
    rw [B_X13_forth_17] at h
    refine ww_iload_n 17 X dX13_forth_17 2 rfl rfl ?_
    refine ww_bipush 18 X (v := (16 : Int32)) dX13_forth_18 (by decide) ?_
    refine ww_icmp_ge 20 55 X dX13_forth_20 (by decide) (fun q => ?_) (fun q => ?_)
    · replace h := (if_pos q).symm.trans h
      refine ww_iconst 55 X (v := (0 : Int32)) dX13_forth_55 (by decide) ?_
      refine ww_istore_n 56 X dX13_forth_56 (lv' := [(0, .ref l0), (1, .int l1), (2, .int (0 : Int32))]) rfl (by decide) [1, 2, 0] rfl ?_
      exact (wB_X13_forth_57 X hQ _ hr7 F _ _ _ _ h)
    · replace h := (if_neg q).symm.trans h
      refine ww_aload_n 23 X dX13_forth_23 0 rfl rfl ?_
      obtain ⟨v24, e24, h⟩ := bO_some h
      refine ww_getR 24 X dX13_forth_24 fG_X13_101 e24 ?_
      refine ww_iload_n 27 X dX13_forth_27 2 rfl rfl ?_
      refine ww_aload_n 28 X dX13_forth_28 0 rfl rfl ?_
      obtain ⟨v29, e29, h⟩ := bO_some h
      refine ww_getR 29 X dX13_forth_29 fG_X13_89 e29 ?_
      refine ww_aload_n 32 X dX13_forth_32 0 rfl rfl ?_
      obtain ⟨v33, e33, h⟩ := bO_some h
      refine ww_getR 33 X dX13_forth_33 fG_X13_98 e33 ?_
      refine ww_iload_n 36 X dX13_forth_36 2 rfl rfl ?_
      refine ww_iconst 37 X (v := (4 : Int32)) dX13_forth_37 (by decide) ?_
      refine ww_iload_n 38 X dX13_forth_38 2 rfl rfl ?_
      refine ww_iconst 39 X (v := (4 : Int32)) dX13_forth_39 (by decide) ?_
      refine ww_irem 40 X (v := (l2 - l2 / (4 : Int32) * (4 : Int32))) dX13_forth_40 rfl ?_
      refine ww_imul 41 X dX13_forth_41 ?_
      refine ww_iadd 42 X dX13_forth_42 ?_
      refine ww_bipush 43 X (v := (16 : Int32)) dX13_forth_43 (by decide) ?_
      refine ww_irem 45 X (v := ((l2 + ((4 : Int32) * (l2 - l2 / (4 : Int32) * (4 : Int32)))) - (l2 + ((4 : Int32) * (l2 - l2 / (4 : Int32) * (4 : Int32)))) / (16 : Int32) * (16 : Int32))) dX13_forth_45 rfl ?_
      obtain ⟨v46, e46, h⟩ := bO_some h
      refine ww_iald 46 X dX13_forth_46 e46 ?_
      obtain ⟨v47, e47, h⟩ := bO_some h
      refine ww_iald 47 X dX13_forth_47 e47 ?_
      obtain ⟨M48, e48, h⟩ := bO_some h
      refine ww_iast 48 X dX13_forth_48 e48 ?_
      refine ww_iinc 49 X dX13_forth_49 (lv' := [(0, .ref l0), (1, .int l1), (2, .int (l2 + 1))]) 2 rfl rfl (by decide) [1, 2, 0] rfl ?_
      refine ww_goto 52 17 X dX13_forth_52 (by decide) ?_
      exact (ih _ _ _ _ h)
set_option maxHeartbeats 4000000 in
set_option maxRecDepth 100000 in
theorem wB_X13_forth_7 {G : mG} {F : Nat} {x : mXT} {sz : Nat} {M0 : mM} (X : mCX G RX13 cX13_forth 7 none "forth" rmX13_forth x) (hQ : mQV x M0 (sz, 0, 0)) : ∀ (n : Nat) (l0 : Nat) (l1 : Int32) (M : mM), B_X13_forth_7 G F n l0 l1 M = some M0 → WW x (sz, 0, 0) M 7 [(0, .ref l0), (1, .int l1)] [] := by
  intro n
  induction n with
  | zero =>
    intro l0 l1 M h
    exact nomatch (show (none : Option mM) = some M0 from h)
  | succ n ih =>
    intro l0 l1 M h
    rw [B_X13_forth_7] at h
    refine ww_iload_n 7 X dX13_forth_7 1 rfl rfl ?_
    refine ww_aload_n 8 X dX13_forth_8 0 rfl rfl ?_
    obtain ⟨v9, e9, h⟩ := bO_some h
    refine ww_getI 9 X dX13_forth_9 fG_X13_595 e9 ?_
    refine ww_icmp_gt 12 171 X dX13_forth_12 (by decide) (fun q => ?_) (fun q => ?_)
    · replace h := (if_pos q).symm.trans h
      exact ww_vretE 171 X hQ dX13_forth_171 h
    · replace h := (if_neg q).symm.trans h
      refine ww_iconst 15 X (v := (0 : Int32)) dX13_forth_15 (by decide) ?_
      refine ww_istore_n 16 X dX13_forth_16 (lv' := [(0, .ref l0), (1, .int l1), (2, .int (0 : Int32))]) rfl (by decide) [1, 2, 0] rfl ?_
      exact (wB_X13_forth_17 X hQ _ ih F _ _ _ _ h)
set_option maxHeartbeats 4000000 in
set_option maxRecDepth 100000 in
theorem wP_X13_forth {G : mG} {F : Nat} {x : mXT} {sz : Nat} {M0 : mM} (X : mCX G RX13 cX13_forth 7 none "forth" rmX13_forth x) (hQ : mQV x M0 (sz, 0, 0)) {l0 : Nat} {M : mM} (h : P_X13_forth G F l0 M = some M0) : WW x (sz, 0, 0) M 0 [(0, .ref l0)] [] := by
  unfold P_X13_forth at h
  refine ww_aload_n 0 X dX13_forth_0 0 rfl rfl ?_
  refine ww_iconst 1 X (v := (0 : Int32)) dX13_forth_1 (by decide) ?_
  obtain ⟨_, f2, h⟩ := bO_some h
  obtain ⟨M2, e2, h⟩ := bO_some h
  refine ww_callVV0 2 X dX13_forth_2 mY_X13_withKey mL_X13_598 (rcv_spec f2) ⟨_, _, rfl⟩ (by decide) (As := [.int (0 : Int32)]) (rest := []) rfl rfl ⟨Nat.le_of_ble_eq_true rfl, Nat.le_of_ble_eq_true rfl⟩ (Nat.le_of_ble_eq_true rfl) (fun l D A => c_X13_withKey l D A e2) ?_
  refine ww_iconst 5 X (v := (1 : Int32)) dX13_forth_5 (by decide) ?_
  refine ww_istore_n 6 X dX13_forth_6 (lv' := [(0, .ref l0), (1, .int (1 : Int32))]) rfl (by decide) [1, 0] rfl ?_
  exact (wB_X13_forth_7 X hQ F _ _ _ h)
theorem c_X13_forth {G : mG} {F sz : Nat} {M0 : mM} (l : Launch) (D : mD) (A : Nat → Prop) {l0 : Nat} {M : mM} (h : P_X13_forth G F l0 M = some M0) : mMetV l D G A yX13_forth cX13_forth 7 none 1 22 0 0 [.ref l0] M sz M0 sz := mMetV_of l D G A (by decide) (Nat.le_of_ble_eq_true rfl) (fun x X hQ => wP_X13_forth X hQ h)
/-! SealedTokensModel.back()V -/
theorem dX13_back_0 : decode cX13_back 0 = .ok (.aload_n 0, 1) := by decide +kernel
theorem dX13_back_1 : decode cX13_back 1 = .ok (.aload_n 0, 1) := by decide +kernel
theorem dX13_back_2 : decode cX13_back 2 = .ok (.getfield 595, 3) := by decide +kernel
theorem dX13_back_5 : decode cX13_back 5 = .ok (.invokevirtual 598, 3) := by decide +kernel
theorem dX13_back_8 : decode cX13_back 8 = .ok (.aload_n 0, 1) := by decide +kernel
theorem dX13_back_9 : decode cX13_back 9 = .ok (.getfield 595, 3) := by decide +kernel
theorem dX13_back_12 : decode cX13_back 12 = .ok (.iconst 1, 1) := by decide +kernel
theorem dX13_back_13 : decode cX13_back 13 = .ok (.isub, 1) := by decide +kernel
theorem dX13_back_14 : decode cX13_back 14 = .ok (.istore_n 1, 1) := by decide +kernel
theorem dX13_back_15 : decode cX13_back 15 = .ok (.iload_n 1, 1) := by decide +kernel
theorem dX13_back_16 : decode cX13_back 16 = .ok (.ifCond .lt 205, 3) := by decide +kernel
theorem dX13_back_19 : decode cX13_back 19 = .ok (.iconst 0, 1) := by decide +kernel
theorem dX13_back_20 : decode cX13_back 20 = .ok (.istore_n 2, 1) := by decide +kernel
theorem dX13_back_21 : decode cX13_back 21 = .ok (.iload_n 2, 1) := by decide +kernel
theorem dX13_back_22 : decode cX13_back 22 = .ok (.bipush 16, 2) := by decide +kernel
theorem dX13_back_24 : decode cX13_back 24 = .ok (.if_icmp .ge 35, 3) := by decide +kernel
theorem dX13_back_27 : decode cX13_back 27 = .ok (.aload_n 0, 1) := by decide +kernel
theorem dX13_back_28 : decode cX13_back 28 = .ok (.getfield 101, 3) := by decide +kernel
theorem dX13_back_31 : decode cX13_back 31 = .ok (.iload_n 2, 1) := by decide +kernel
theorem dX13_back_32 : decode cX13_back 32 = .ok (.iconst 4, 1) := by decide +kernel
theorem dX13_back_33 : decode cX13_back 33 = .ok (.iload_n 2, 1) := by decide +kernel
theorem dX13_back_34 : decode cX13_back 34 = .ok (.iconst 4, 1) := by decide +kernel
theorem dX13_back_35 : decode cX13_back 35 = .ok (.irem, 1) := by decide +kernel
theorem dX13_back_36 : decode cX13_back 36 = .ok (.imul, 1) := by decide +kernel
theorem dX13_back_37 : decode cX13_back 37 = .ok (.iadd, 1) := by decide +kernel
theorem dX13_back_38 : decode cX13_back 38 = .ok (.bipush 16, 2) := by decide +kernel
theorem dX13_back_40 : decode cX13_back 40 = .ok (.irem, 1) := by decide +kernel
theorem dX13_back_41 : decode cX13_back 41 = .ok (.aload_n 0, 1) := by decide +kernel
theorem dX13_back_42 : decode cX13_back 42 = .ok (.getfield 92, 3) := by decide +kernel
theorem dX13_back_45 : decode cX13_back 45 = .ok (.aload_n 0, 1) := by decide +kernel
theorem dX13_back_46 : decode cX13_back 46 = .ok (.getfield 98, 3) := by decide +kernel
theorem dX13_back_49 : decode cX13_back 49 = .ok (.iload_n 2, 1) := by decide +kernel
theorem dX13_back_50 : decode cX13_back 50 = .ok (.iaload, 1) := by decide +kernel
theorem dX13_back_51 : decode cX13_back 51 = .ok (.iaload, 1) := by decide +kernel
theorem dX13_back_52 : decode cX13_back 52 = .ok (.iastore, 1) := by decide +kernel
theorem dX13_back_53 : decode cX13_back 53 = .ok (.iinc 2 1, 3) := by decide +kernel
theorem dX13_back_56 : decode cX13_back 56 = .ok (.goto (-35), 3) := by decide +kernel
theorem dX13_back_59 : decode cX13_back 59 = .ok (.iconst 0, 1) := by decide +kernel
theorem dX13_back_60 : decode cX13_back 60 = .ok (.istore_n 2, 1) := by decide +kernel
theorem dX13_back_61 : decode cX13_back 61 = .ok (.iload_n 2, 1) := by decide +kernel
theorem dX13_back_62 : decode cX13_back 62 = .ok (.bipush 16, 2) := by decide +kernel
theorem dX13_back_64 : decode cX13_back 64 = .ok (.if_icmp .ge 21, 3) := by decide +kernel
theorem dX13_back_67 : decode cX13_back 67 = .ok (.aload_n 0, 1) := by decide +kernel
theorem dX13_back_68 : decode cX13_back 68 = .ok (.getfield 98, 3) := by decide +kernel
theorem dX13_back_71 : decode cX13_back 71 = .ok (.iload_n 2, 1) := by decide +kernel
theorem dX13_back_72 : decode cX13_back 72 = .ok (.aload_n 0, 1) := by decide +kernel
theorem dX13_back_73 : decode cX13_back 73 = .ok (.getfield 101, 3) := by decide +kernel
theorem dX13_back_76 : decode cX13_back 76 = .ok (.iload_n 2, 1) := by decide +kernel
theorem dX13_back_77 : decode cX13_back 77 = .ok (.iaload, 1) := by decide +kernel
theorem dX13_back_78 : decode cX13_back 78 = .ok (.iastore, 1) := by decide +kernel
theorem dX13_back_79 : decode cX13_back 79 = .ok (.iinc 2 1, 3) := by decide +kernel
theorem dX13_back_82 : decode cX13_back 82 = .ok (.goto (-21), 3) := by decide +kernel
theorem dX13_back_85 : decode cX13_back 85 = .ok (.aload_n 0, 1) := by decide +kernel
theorem dX13_back_86 : decode cX13_back 86 = .ok (.iload_n 1, 1) := by decide +kernel
theorem dX13_back_87 : decode cX13_back 87 = .ok (.invokevirtual 598, 3) := by decide +kernel
theorem dX13_back_90 : decode cX13_back 90 = .ok (.iconst 0, 1) := by decide +kernel
theorem dX13_back_91 : decode cX13_back 91 = .ok (.istore_n 2, 1) := by decide +kernel
theorem dX13_back_92 : decode cX13_back 92 = .ok (.iload_n 2, 1) := by decide +kernel
theorem dX13_back_93 : decode cX13_back 93 = .ok (.bipush 16, 2) := by decide +kernel
theorem dX13_back_95 : decode cX13_back 95 = .ok (.if_icmp .ge 25, 3) := by decide +kernel
theorem dX13_back_98 : decode cX13_back 98 = .ok (.iload_n 1, 1) := by decide +kernel
theorem dX13_back_99 : decode cX13_back 99 = .ok (.ifCond .le 21, 3) := by decide +kernel
theorem dX13_back_102 : decode cX13_back 102 = .ok (.aload_n 0, 1) := by decide +kernel
theorem dX13_back_103 : decode cX13_back 103 = .ok (.getfield 101, 3) := by decide +kernel
theorem dX13_back_106 : decode cX13_back 106 = .ok (.iload_n 2, 1) := by decide +kernel
theorem dX13_back_107 : decode cX13_back 107 = .ok (.aload_n 0, 1) := by decide +kernel
theorem dX13_back_108 : decode cX13_back 108 = .ok (.getfield 98, 3) := by decide +kernel
theorem dX13_back_111 : decode cX13_back 111 = .ok (.iload_n 2, 1) := by decide +kernel
theorem dX13_back_112 : decode cX13_back 112 = .ok (.iaload, 1) := by decide +kernel
theorem dX13_back_113 : decode cX13_back 113 = .ok (.iastore, 1) := by decide +kernel
theorem dX13_back_114 : decode cX13_back 114 = .ok (.iinc 2 1, 3) := by decide +kernel
theorem dX13_back_117 : decode cX13_back 117 = .ok (.goto (-25), 3) := by decide +kernel
theorem dX13_back_120 : decode cX13_back 120 = .ok (.iconst 0, 1) := by decide +kernel
theorem dX13_back_121 : decode cX13_back 121 = .ok (.istore_n 2, 1) := by decide +kernel
theorem dX13_back_122 : decode cX13_back 122 = .ok (.iload_n 2, 1) := by decide +kernel
theorem dX13_back_123 : decode cX13_back 123 = .ok (.bipush 16, 2) := by decide +kernel
theorem dX13_back_125 : decode cX13_back 125 = .ok (.if_icmp .ge 90, 3) := by decide +kernel
theorem dX13_back_128 : decode cX13_back 128 = .ok (.iload_n 1, 1) := by decide +kernel
theorem dX13_back_129 : decode cX13_back 129 = .ok (.ifCond .le 86, 3) := by decide +kernel
theorem dX13_back_132 : decode cX13_back 132 = .ok (.iload_n 2, 1) := by decide +kernel
theorem dX13_back_133 : decode cX13_back 133 = .ok (.iconst 4, 1) := by decide +kernel
theorem dX13_back_134 : decode cX13_back 134 = .ok (.idiv, 1) := by decide +kernel
theorem dX13_back_135 : decode cX13_back 135 = .ok (.iconst 4, 1) := by decide +kernel
theorem dX13_back_136 : decode cX13_back 136 = .ok (.imul, 1) := by decide +kernel
theorem dX13_back_137 : decode cX13_back 137 = .ok (.istore_n 3, 1) := by decide +kernel
theorem dX13_back_138 : decode cX13_back 138 = .ok (.aload_n 0, 1) := by decide +kernel
theorem dX13_back_139 : decode cX13_back 139 = .ok (.getfield 98, 3) := by decide +kernel
theorem dX13_back_142 : decode cX13_back 142 = .ok (.iload_n 2, 1) := by decide +kernel
theorem dX13_back_143 : decode cX13_back 143 = .ok (.aload_n 0, 1) := by decide +kernel
theorem dX13_back_144 : decode cX13_back 144 = .ok (.getfield 101, 3) := by decide +kernel
theorem dX13_back_147 : decode cX13_back 147 = .ok (.iload_n 2, 1) := by decide +kernel
theorem dX13_back_148 : decode cX13_back 148 = .ok (.iaload, 1) := by decide +kernel
theorem dX13_back_149 : decode cX13_back 149 = .ok (.bipush 14, 2) := by decide +kernel
theorem dX13_back_151 : decode cX13_back 151 = .ok (.invokestatic 592, 3) := by decide +kernel
theorem dX13_back_154 : decode cX13_back 154 = .ok (.aload_n 0, 1) := by decide +kernel
theorem dX13_back_155 : decode cX13_back 155 = .ok (.getfield 101, 3) := by decide +kernel
theorem dX13_back_158 : decode cX13_back 158 = .ok (.iload_n 3, 1) := by decide +kernel
theorem dX13_back_159 : decode cX13_back 159 = .ok (.iload_n 2, 1) := by decide +kernel
theorem dX13_back_160 : decode cX13_back 160 = .ok (.iconst 1, 1) := by decide +kernel
theorem dX13_back_161 : decode cX13_back 161 = .ok (.iadd, 1) := by decide +kernel
theorem dX13_back_162 : decode cX13_back 162 = .ok (.iconst 4, 1) := by decide +kernel
theorem dX13_back_163 : decode cX13_back 163 = .ok (.irem, 1) := by decide +kernel
theorem dX13_back_164 : decode cX13_back 164 = .ok (.iadd, 1) := by decide +kernel
theorem dX13_back_165 : decode cX13_back 165 = .ok (.iaload, 1) := by decide +kernel
theorem dX13_back_166 : decode cX13_back 166 = .ok (.bipush 11, 2) := by decide +kernel
theorem dX13_back_168 : decode cX13_back 168 = .ok (.invokestatic 592, 3) := by decide +kernel
theorem dX13_back_171 : decode cX13_back 171 = .ok (.ixor, 1) := by decide +kernel
theorem dX13_back_172 : decode cX13_back 172 = .ok (.aload_n 0, 1) := by decide +kernel
theorem dX13_back_173 : decode cX13_back 173 = .ok (.getfield 101, 3) := by decide +kernel
theorem dX13_back_176 : decode cX13_back 176 = .ok (.iload_n 3, 1) := by decide +kernel
theorem dX13_back_177 : decode cX13_back 177 = .ok (.iload_n 2, 1) := by decide +kernel
theorem dX13_back_178 : decode cX13_back 178 = .ok (.iconst 2, 1) := by decide +kernel
theorem dX13_back_179 : decode cX13_back 179 = .ok (.iadd, 1) := by decide +kernel
theorem dX13_back_180 : decode cX13_back 180 = .ok (.iconst 4, 1) := by decide +kernel
theorem dX13_back_181 : decode cX13_back 181 = .ok (.irem, 1) := by decide +kernel
theorem dX13_back_182 : decode cX13_back 182 = .ok (.iadd, 1) := by decide +kernel
theorem dX13_back_183 : decode cX13_back 183 = .ok (.iaload, 1) := by decide +kernel
theorem dX13_back_184 : decode cX13_back 184 = .ok (.bipush 13, 2) := by decide +kernel
theorem dX13_back_186 : decode cX13_back 186 = .ok (.invokestatic 592, 3) := by decide +kernel
theorem dX13_back_189 : decode cX13_back 189 = .ok (.ixor, 1) := by decide +kernel
theorem dX13_back_190 : decode cX13_back 190 = .ok (.aload_n 0, 1) := by decide +kernel
theorem dX13_back_191 : decode cX13_back 191 = .ok (.getfield 101, 3) := by decide +kernel
theorem dX13_back_194 : decode cX13_back 194 = .ok (.iload_n 3, 1) := by decide +kernel
theorem dX13_back_195 : decode cX13_back 195 = .ok (.iload_n 2, 1) := by decide +kernel
theorem dX13_back_196 : decode cX13_back 196 = .ok (.iconst 3, 1) := by decide +kernel
theorem dX13_back_197 : decode cX13_back 197 = .ok (.iadd, 1) := by decide +kernel
theorem dX13_back_198 : decode cX13_back 198 = .ok (.iconst 4, 1) := by decide +kernel
theorem dX13_back_199 : decode cX13_back 199 = .ok (.irem, 1) := by decide +kernel
theorem dX13_back_200 : decode cX13_back 200 = .ok (.iadd, 1) := by decide +kernel
theorem dX13_back_201 : decode cX13_back 201 = .ok (.iaload, 1) := by decide +kernel
theorem dX13_back_202 : decode cX13_back 202 = .ok (.bipush 9, 2) := by decide +kernel
theorem dX13_back_204 : decode cX13_back 204 = .ok (.invokestatic 592, 3) := by decide +kernel
theorem dX13_back_207 : decode cX13_back 207 = .ok (.ixor, 1) := by decide +kernel
theorem dX13_back_208 : decode cX13_back 208 = .ok (.iastore, 1) := by decide +kernel
theorem dX13_back_209 : decode cX13_back 209 = .ok (.iinc 2 1, 3) := by decide +kernel
theorem dX13_back_212 : decode cX13_back 212 = .ok (.goto (-90), 3) := by decide +kernel
theorem dX13_back_215 : decode cX13_back 215 = .ok (.iinc 1 (-1), 3) := by decide +kernel
theorem dX13_back_218 : decode cX13_back 218 = .ok (.goto (-203), 3) := by decide +kernel
theorem dX13_back_221 : decode cX13_back 221 = .ok (.return_, 1) := by decide +kernel
abbrev rmX13_back : Room := { frames := 2, cells := 0, slots := 0, locals := 44 }
set_option maxHeartbeats 4000000 in
set_option maxRecDepth 100000 in
theorem wB_X13_back_122 {G : mG} {F : Nat} {x : mXT} {sz : Nat} {M0 : mM} (X : mCX G RX13 cX13_back 4 none "back" rmX13_back x) (hQ : mQV x M0 (sz, 0, 0)) (r15 : Nat → Int32 → mM → Option mM) (hr15 : ∀ (l0 : Nat) (l1 : Int32) (M : mM), r15 l0 l1 M = some M0 → WW x (sz, 0, 0) M 15 [(0, .ref l0), (1, .int l1)] []) : ∀ (n : Nat) (l0 : Nat) (l1 : Int32) (l2 : Int32) (M : mM), B_X13_back_122 G F r15 n l0 l1 l2 M = some M0 → WW x (sz, 0, 0) M 122 [(0, .ref l0), (1, .int l1), (2, .int l2)] [] := by
  intro n
  induction n with
  | zero =>
    intro l0 l1 l2 M h
    exact nomatch (show (none : Option mM) = some M0 from h)
  | succ n ih =>
    intro l0 l1 l2 M h
    rw [B_X13_back_122] at h
    refine ww_iload_n 122 X dX13_back_122 2 rfl rfl ?_
    refine ww_bipush 123 X (v := (16 : Int32)) dX13_back_123 (by decide) ?_
    refine ww_icmp_ge 125 215 X dX13_back_125 (by decide) (fun q => ?_) (fun q => ?_)
    · replace h := (if_pos q).symm.trans h
      refine ww_iinc 215 X dX13_back_215 (lv' := [(0, .ref l0), (1, .int (l1 + (-1))), (2, .int l2)]) 1 rfl rfl (by decide) [1, 0, 2] rfl ?_
      refine ww_goto 218 15 X dX13_back_218 (by decide) ?_
      exact ww_sub [0, 1] rfl (hr15 _ _ _ h)
    · replace h := (if_neg q).symm.trans h
      refine ww_iload_n 128 X dX13_back_128 1 rfl rfl ?_
      refine ww_if_le 129 215 X dX13_back_129 (by decide) (fun q => ?_) (fun q => ?_)
      · replace h := (if_pos q).symm.trans h
        refine ww_iinc 215 X dX13_back_215 (lv' := [(0, .ref l0), (1, .int (l1 + (-1))), (2, .int l2)]) 1 rfl rfl (by decide) [1, 0, 2] rfl ?_
        refine ww_goto 218 15 X dX13_back_218 (by decide) ?_
        exact ww_sub [0, 1] rfl (hr15 _ _ _ h)
      · replace h := (if_neg q).symm.trans h
        refine ww_iload_n 132 X dX13_back_132 2 rfl rfl ?_
        refine ww_iconst 133 X (v := (4 : Int32)) dX13_back_133 (by decide) ?_
        refine ww_idiv 134 X (v := (l2 / (4 : Int32))) dX13_back_134 rfl ?_
        refine ww_iconst 135 X (v := (4 : Int32)) dX13_back_135 (by decide) ?_
        refine ww_imul 136 X dX13_back_136 ?_
        refine ww_istore_n 137 X dX13_back_137 (lv' := [(0, .ref l0), (1, .int l1), (2, .int l2), (3, .int ((l2 / (4 : Int32)) * (4 : Int32)))]) rfl (by decide) [1, 2, 3, 0] rfl ?_
        refine ww_aload_n 138 X dX13_back_138 0 rfl rfl ?_
        obtain ⟨v139, e139, h⟩ := bO_some h
        refine ww_getR 139 X dX13_back_139 fG_X13_98 e139 ?_
        refine ww_iload_n 142 X dX13_back_142 2 rfl rfl ?_
        refine ww_aload_n 143 X dX13_back_143 0 rfl rfl ?_
        obtain ⟨v144, e144, h⟩ := bO_some h
        refine ww_getR 144 X dX13_back_144 fG_X13_101 e144 ?_
        refine ww_iload_n 147 X dX13_back_147 2 rfl rfl ?_
        obtain ⟨v148, e148, h⟩ := bO_some h
        refine ww_iald 148 X dX13_back_148 e148 ?_
        refine ww_bipush 149 X (v := (14 : Int32)) dX13_back_149 (by decide) ?_
        obtain ⟨v151, M151, e151, h⟩ := bP_some h
        refine ww_callSI0 151 X dX13_back_151 mY_X13_times mL_X13_592 (As := [.int v148, .int (14 : Int32)]) (rest := [.int l2, .ref v139]) rfl rfl ⟨Nat.le_of_ble_eq_true rfl, Nat.le_of_ble_eq_true rfl⟩ (Nat.le_of_ble_eq_true rfl) (fun l D A => c_X13_times l D A e151) ?_
        refine ww_aload_n 154 X dX13_back_154 0 rfl rfl ?_
        obtain ⟨v155, e155, h⟩ := bO_some h
        refine ww_getR 155 X dX13_back_155 fG_X13_101 e155 ?_
        refine ww_iload_n 158 X dX13_back_158 3 rfl rfl ?_
        refine ww_iload_n 159 X dX13_back_159 2 rfl rfl ?_
        refine ww_iconst 160 X (v := (1 : Int32)) dX13_back_160 (by decide) ?_
        refine ww_iadd 161 X dX13_back_161 ?_
        refine ww_iconst 162 X (v := (4 : Int32)) dX13_back_162 (by decide) ?_
        refine ww_irem 163 X (v := ((l2 + (1 : Int32)) - (l2 + (1 : Int32)) / (4 : Int32) * (4 : Int32))) dX13_back_163 rfl ?_
        refine ww_iadd 164 X dX13_back_164 ?_
        obtain ⟨v165, e165, h⟩ := bO_some h
        refine ww_iald 165 X dX13_back_165 e165 ?_
        refine ww_bipush 166 X (v := (11 : Int32)) dX13_back_166 (by decide) ?_
        obtain ⟨v168, M168, e168, h⟩ := bP_some h
        refine ww_callSI0 168 X dX13_back_168 mY_X13_times mL_X13_592 (As := [.int v165, .int (11 : Int32)]) (rest := [.int v151, .int l2, .ref v139]) rfl rfl ⟨Nat.le_of_ble_eq_true rfl, Nat.le_of_ble_eq_true rfl⟩ (Nat.le_of_ble_eq_true rfl) (fun l D A => c_X13_times l D A e168) ?_
        refine ww_ixor 171 X dX13_back_171 ?_
        refine ww_aload_n 172 X dX13_back_172 0 rfl rfl ?_
        obtain ⟨v173, e173, h⟩ := bO_some h
        refine ww_getR 173 X dX13_back_173 fG_X13_101 e173 ?_
        refine ww_iload_n 176 X dX13_back_176 3 rfl rfl ?_
        refine ww_iload_n 177 X dX13_back_177 2 rfl rfl ?_
        refine ww_iconst 178 X (v := (2 : Int32)) dX13_back_178 (by decide) ?_
        refine ww_iadd 179 X dX13_back_179 ?_
        refine ww_iconst 180 X (v := (4 : Int32)) dX13_back_180 (by decide) ?_
        refine ww_irem 181 X (v := ((l2 + (2 : Int32)) - (l2 + (2 : Int32)) / (4 : Int32) * (4 : Int32))) dX13_back_181 rfl ?_
        refine ww_iadd 182 X dX13_back_182 ?_
        obtain ⟨v183, e183, h⟩ := bO_some h
        refine ww_iald 183 X dX13_back_183 e183 ?_
        refine ww_bipush 184 X (v := (13 : Int32)) dX13_back_184 (by decide) ?_
        obtain ⟨v186, M186, e186, h⟩ := bP_some h
        refine ww_callSI0 186 X dX13_back_186 mY_X13_times mL_X13_592 (As := [.int v183, .int (13 : Int32)]) (rest := [.int (v151 ^^^ v168), .int l2, .ref v139]) rfl rfl ⟨Nat.le_of_ble_eq_true rfl, Nat.le_of_ble_eq_true rfl⟩ (Nat.le_of_ble_eq_true rfl) (fun l D A => c_X13_times l D A e186) ?_
        refine ww_ixor 189 X dX13_back_189 ?_
        refine ww_aload_n 190 X dX13_back_190 0 rfl rfl ?_
        obtain ⟨v191, e191, h⟩ := bO_some h
        refine ww_getR 191 X dX13_back_191 fG_X13_101 e191 ?_
        refine ww_iload_n 194 X dX13_back_194 3 rfl rfl ?_
        refine ww_iload_n 195 X dX13_back_195 2 rfl rfl ?_
        refine ww_iconst 196 X (v := (3 : Int32)) dX13_back_196 (by decide) ?_
        refine ww_iadd 197 X dX13_back_197 ?_
        refine ww_iconst 198 X (v := (4 : Int32)) dX13_back_198 (by decide) ?_
        refine ww_irem 199 X (v := ((l2 + (3 : Int32)) - (l2 + (3 : Int32)) / (4 : Int32) * (4 : Int32))) dX13_back_199 rfl ?_
        refine ww_iadd 200 X dX13_back_200 ?_
        obtain ⟨v201, e201, h⟩ := bO_some h
        refine ww_iald 201 X dX13_back_201 e201 ?_
        refine ww_bipush 202 X (v := (9 : Int32)) dX13_back_202 (by decide) ?_
        obtain ⟨v204, M204, e204, h⟩ := bP_some h
        refine ww_callSI0 204 X dX13_back_204 mY_X13_times mL_X13_592 (As := [.int v201, .int (9 : Int32)]) (rest := [.int ((v151 ^^^ v168) ^^^ v186), .int l2, .ref v139]) rfl rfl ⟨Nat.le_of_ble_eq_true rfl, Nat.le_of_ble_eq_true rfl⟩ (Nat.le_of_ble_eq_true rfl) (fun l D A => c_X13_times l D A e204) ?_
        refine ww_ixor 207 X dX13_back_207 ?_
        obtain ⟨M208, e208, h⟩ := bO_some h
        refine ww_iast 208 X dX13_back_208 e208 ?_
        refine ww_iinc 209 X dX13_back_209 (lv' := [(0, .ref l0), (1, .int l1), (2, .int (l2 + 1)), (3, .int ((l2 / (4 : Int32)) * (4 : Int32)))]) 2 rfl rfl (by decide) [1, 2, 0, 3] rfl ?_
        refine ww_goto 212 122 X dX13_back_212 (by decide) ?_
        exact ww_sub [0, 1, 2] rfl (ih _ _ _ _ h)
set_option maxHeartbeats 4000000 in
set_option maxRecDepth 100000 in
theorem wB_X13_back_92 {G : mG} {F : Nat} {x : mXT} {sz : Nat} {M0 : mM} (X : mCX G RX13 cX13_back 4 none "back" rmX13_back x) (hQ : mQV x M0 (sz, 0, 0)) (r15 : Nat → Int32 → mM → Option mM) (hr15 : ∀ (l0 : Nat) (l1 : Int32) (M : mM), r15 l0 l1 M = some M0 → WW x (sz, 0, 0) M 15 [(0, .ref l0), (1, .int l1)] []) : ∀ (n : Nat) (l0 : Nat) (l1 : Int32) (l2 : Int32) (M : mM), B_X13_back_92 G F r15 n l0 l1 l2 M = some M0 → WW x (sz, 0, 0) M 92 [(0, .ref l0), (1, .int l1), (2, .int l2)] [] := by
  intro n
  induction n with
  | zero =>
    intro l0 l1 l2 M h
    exact nomatch (show (none : Option mM) = some M0 from h)
  | succ n ih =>
    intro l0 l1 l2 M h
    rw [B_X13_back_92] at h
    refine ww_iload_n 92 X dX13_back_92 2 rfl rfl ?_
    refine ww_bipush 93 X (v := (16 : Int32)) dX13_back_93 (by decide) ?_
    refine ww_icmp_ge 95 120 X dX13_back_95 (by decide) (fun q => ?_) (fun q => ?_)
    · replace h := (if_pos q).symm.trans h
      refine ww_iconst 120 X (v := (0 : Int32)) dX13_back_120 (by decide) ?_
      refine ww_istore_n 121 X dX13_back_121 (lv' := [(0, .ref l0), (1, .int l1), (2, .int (0 : Int32))]) rfl (by decide) [1, 2, 0] rfl ?_
      exact (wB_X13_back_122 X hQ _ hr15 F _ _ _ _ h)
    · replace h := (if_neg q).symm.trans h
      refine ww_iload_n 98 X dX13_back_98 1 rfl rfl ?_
      refine ww_if_le 99 120 X dX13_back_99 (by decide) (fun q => ?_) (fun q => ?_)
      · replace h := (if_pos q).symm.trans h
        refine ww_iconst 120 X (v := (0 : Int32)) dX13_back_120 (by decide) ?_
        refine ww_istore_n 121 X dX13_back_121 (lv' := [(0, .ref l0), (1, .int l1), (2, .int (0 : Int32))]) rfl (by decide) [1, 2, 0] rfl ?_
        exact (wB_X13_back_122 X hQ _ hr15 F _ _ _ _ h)
      · replace h := (if_neg q).symm.trans h
        refine ww_aload_n 102 X dX13_back_102 0 rfl rfl ?_
        obtain ⟨v103, e103, h⟩ := bO_some h
        refine ww_getR 103 X dX13_back_103 fG_X13_101 e103 ?_
        refine ww_iload_n 106 X dX13_back_106 2 rfl rfl ?_
        refine ww_aload_n 107 X dX13_back_107 0 rfl rfl ?_
        obtain ⟨v108, e108, h⟩ := bO_some h
        refine ww_getR 108 X dX13_back_108 fG_X13_98 e108 ?_
        refine ww_iload_n 111 X dX13_back_111 2 rfl rfl ?_
        obtain ⟨v112, e112, h⟩ := bO_some h
        refine ww_iald 112 X dX13_back_112 e112 ?_
        obtain ⟨M113, e113, h⟩ := bO_some h
        refine ww_iast 113 X dX13_back_113 e113 ?_
        refine ww_iinc 114 X dX13_back_114 (lv' := [(0, .ref l0), (1, .int l1), (2, .int (l2 + 1))]) 2 rfl rfl (by decide) [1, 2, 0] rfl ?_
        refine ww_goto 117 92 X dX13_back_117 (by decide) ?_
        exact (ih _ _ _ _ h)
set_option maxHeartbeats 4000000 in
set_option maxRecDepth 100000 in
theorem wB_X13_back_61 {G : mG} {F : Nat} {x : mXT} {sz : Nat} {M0 : mM} (X : mCX G RX13 cX13_back 4 none "back" rmX13_back x) (hQ : mQV x M0 (sz, 0, 0)) (r15 : Nat → Int32 → mM → Option mM) (hr15 : ∀ (l0 : Nat) (l1 : Int32) (M : mM), r15 l0 l1 M = some M0 → WW x (sz, 0, 0) M 15 [(0, .ref l0), (1, .int l1)] []) : ∀ (n : Nat) (l0 : Nat) (l1 : Int32) (l2 : Int32) (M : mM), B_X13_back_61 G F r15 n l0 l1 l2 M = some M0 → WW x (sz, 0, 0) M 61 [(0, .ref l0), (1, .int l1), (2, .int l2)] [] := by
  intro n
  induction n with
  | zero =>
    intro l0 l1 l2 M h
    exact nomatch (show (none : Option mM) = some M0 from h)
  | succ n ih =>
    intro l0 l1 l2 M h
    rw [B_X13_back_61] at h
    refine ww_iload_n 61 X dX13_back_61 2 rfl rfl ?_
    refine ww_bipush 62 X (v := (16 : Int32)) dX13_back_62 (by decide) ?_
    refine ww_icmp_ge 64 85 X dX13_back_64 (by decide) (fun q => ?_) (fun q => ?_)
    · replace h := (if_pos q).symm.trans h
      refine ww_aload_n 85 X dX13_back_85 0 rfl rfl ?_
      refine ww_iload_n 86 X dX13_back_86 1 rfl rfl ?_
      obtain ⟨_, f87, h⟩ := bO_some h
      obtain ⟨M87, e87, h⟩ := bO_some h
      refine ww_callVV0 87 X dX13_back_87 mY_X13_withKey mL_X13_598 (rcv_spec f87) ⟨_, _, rfl⟩ (by decide) (As := [.int l1]) (rest := []) rfl rfl ⟨Nat.le_of_ble_eq_true rfl, Nat.le_of_ble_eq_true rfl⟩ (Nat.le_of_ble_eq_true rfl) (fun l D A => c_X13_withKey l D A e87) ?_
      refine ww_iconst 90 X (v := (0 : Int32)) dX13_back_90 (by decide) ?_
      refine ww_istore_n 91 X dX13_back_91 (lv' := [(0, .ref l0), (1, .int l1), (2, .int (0 : Int32))]) rfl (by decide) [1, 2, 0] rfl ?_
      exact (wB_X13_back_92 X hQ _ hr15 F _ _ _ _ h)
    · replace h := (if_neg q).symm.trans h
      refine ww_aload_n 67 X dX13_back_67 0 rfl rfl ?_
      obtain ⟨v68, e68, h⟩ := bO_some h
      refine ww_getR 68 X dX13_back_68 fG_X13_98 e68 ?_
      refine ww_iload_n 71 X dX13_back_71 2 rfl rfl ?_
      refine ww_aload_n 72 X dX13_back_72 0 rfl rfl ?_
      obtain ⟨v73, e73, h⟩ := bO_some h
      refine ww_getR 73 X dX13_back_73 fG_X13_101 e73 ?_
      refine ww_iload_n 76 X dX13_back_76 2 rfl rfl ?_
      obtain ⟨v77, e77, h⟩ := bO_some h
      refine ww_iald 77 X dX13_back_77 e77 ?_
      obtain ⟨M78, e78, h⟩ := bO_some h
      refine ww_iast 78 X dX13_back_78 e78 ?_
      refine ww_iinc 79 X dX13_back_79 (lv' := [(0, .ref l0), (1, .int l1), (2, .int (l2 + 1))]) 2 rfl rfl (by decide) [1, 2, 0] rfl ?_
      refine ww_goto 82 61 X dX13_back_82 (by decide) ?_
      exact (ih _ _ _ _ h)
set_option maxHeartbeats 4000000 in
set_option maxRecDepth 100000 in
theorem wB_X13_back_21 {G : mG} {F : Nat} {x : mXT} {sz : Nat} {M0 : mM} (X : mCX G RX13 cX13_back 4 none "back" rmX13_back x) (hQ : mQV x M0 (sz, 0, 0)) (r15 : Nat → Int32 → mM → Option mM) (hr15 : ∀ (l0 : Nat) (l1 : Int32) (M : mM), r15 l0 l1 M = some M0 → WW x (sz, 0, 0) M 15 [(0, .ref l0), (1, .int l1)] []) : ∀ (n : Nat) (l0 : Nat) (l1 : Int32) (l2 : Int32) (M : mM), B_X13_back_21 G F r15 n l0 l1 l2 M = some M0 → WW x (sz, 0, 0) M 21 [(0, .ref l0), (1, .int l1), (2, .int l2)] [] := by
  intro n
  induction n with
  | zero =>
    intro l0 l1 l2 M h
    exact nomatch (show (none : Option mM) = some M0 from h)
  | succ n ih =>
    intro l0 l1 l2 M h
    rw [B_X13_back_21] at h
    refine ww_iload_n 21 X dX13_back_21 2 rfl rfl ?_
    refine ww_bipush 22 X (v := (16 : Int32)) dX13_back_22 (by decide) ?_
    refine ww_icmp_ge 24 59 X dX13_back_24 (by decide) (fun q => ?_) (fun q => ?_)
    · replace h := (if_pos q).symm.trans h
      refine ww_iconst 59 X (v := (0 : Int32)) dX13_back_59 (by decide) ?_
      refine ww_istore_n 60 X dX13_back_60 (lv' := [(0, .ref l0), (1, .int l1), (2, .int (0 : Int32))]) rfl (by decide) [1, 2, 0] rfl ?_
      exact (wB_X13_back_61 X hQ _ hr15 F _ _ _ _ h)
    · replace h := (if_neg q).symm.trans h
      refine ww_aload_n 27 X dX13_back_27 0 rfl rfl ?_
      obtain ⟨v28, e28, h⟩ := bO_some h
      refine ww_getR 28 X dX13_back_28 fG_X13_101 e28 ?_
      refine ww_iload_n 31 X dX13_back_31 2 rfl rfl ?_
      refine ww_iconst 32 X (v := (4 : Int32)) dX13_back_32 (by decide) ?_
      refine ww_iload_n 33 X dX13_back_33 2 rfl rfl ?_
      refine ww_iconst 34 X (v := (4 : Int32)) dX13_back_34 (by decide) ?_
      refine ww_irem 35 X (v := (l2 - l2 / (4 : Int32) * (4 : Int32))) dX13_back_35 rfl ?_
      refine ww_imul 36 X dX13_back_36 ?_
      refine ww_iadd 37 X dX13_back_37 ?_
      refine ww_bipush 38 X (v := (16 : Int32)) dX13_back_38 (by decide) ?_
      refine ww_irem 40 X (v := ((l2 + ((4 : Int32) * (l2 - l2 / (4 : Int32) * (4 : Int32)))) - (l2 + ((4 : Int32) * (l2 - l2 / (4 : Int32) * (4 : Int32)))) / (16 : Int32) * (16 : Int32))) dX13_back_40 rfl ?_
      refine ww_aload_n 41 X dX13_back_41 0 rfl rfl ?_
      obtain ⟨v42, e42, h⟩ := bO_some h
      refine ww_getR 42 X dX13_back_42 fG_X13_92 e42 ?_
      refine ww_aload_n 45 X dX13_back_45 0 rfl rfl ?_
      obtain ⟨v46, e46, h⟩ := bO_some h
      refine ww_getR 46 X dX13_back_46 fG_X13_98 e46 ?_
      refine ww_iload_n 49 X dX13_back_49 2 rfl rfl ?_
      obtain ⟨v50, e50, h⟩ := bO_some h
      refine ww_iald 50 X dX13_back_50 e50 ?_
      obtain ⟨v51, e51, h⟩ := bO_some h
      refine ww_iald 51 X dX13_back_51 e51 ?_
      obtain ⟨M52, e52, h⟩ := bO_some h
      refine ww_iast 52 X dX13_back_52 e52 ?_
      refine ww_iinc 53 X dX13_back_53 (lv' := [(0, .ref l0), (1, .int l1), (2, .int (l2 + 1))]) 2 rfl rfl (by decide) [1, 2, 0] rfl ?_
      refine ww_goto 56 21 X dX13_back_56 (by decide) ?_
      exact (ih _ _ _ _ h)
set_option maxHeartbeats 4000000 in
set_option maxRecDepth 100000 in
theorem wB_X13_back_15 {G : mG} {F : Nat} {x : mXT} {sz : Nat} {M0 : mM} (X : mCX G RX13 cX13_back 4 none "back" rmX13_back x) (hQ : mQV x M0 (sz, 0, 0)) : ∀ (n : Nat) (l0 : Nat) (l1 : Int32) (M : mM), B_X13_back_15 G F n l0 l1 M = some M0 → WW x (sz, 0, 0) M 15 [(0, .ref l0), (1, .int l1)] [] := by
  intro n
  induction n with
  | zero =>
    intro l0 l1 M h
    exact nomatch (show (none : Option mM) = some M0 from h)
  | succ n ih =>
    intro l0 l1 M h
    rw [B_X13_back_15] at h
    refine ww_iload_n 15 X dX13_back_15 1 rfl rfl ?_
    refine ww_if_lt 16 221 X dX13_back_16 (by decide) (fun q => ?_) (fun q => ?_)
    · replace h := (if_pos q).symm.trans h
      exact ww_vretE 221 X hQ dX13_back_221 h
    · replace h := (if_neg q).symm.trans h
      refine ww_iconst 19 X (v := (0 : Int32)) dX13_back_19 (by decide) ?_
      refine ww_istore_n 20 X dX13_back_20 (lv' := [(0, .ref l0), (1, .int l1), (2, .int (0 : Int32))]) rfl (by decide) [1, 2, 0] rfl ?_
      exact (wB_X13_back_21 X hQ _ ih F _ _ _ _ h)
set_option maxHeartbeats 4000000 in
set_option maxRecDepth 100000 in
theorem wP_X13_back {G : mG} {F : Nat} {x : mXT} {sz : Nat} {M0 : mM} (X : mCX G RX13 cX13_back 4 none "back" rmX13_back x) (hQ : mQV x M0 (sz, 0, 0)) {l0 : Nat} {M : mM} (h : P_X13_back G F l0 M = some M0) : WW x (sz, 0, 0) M 0 [(0, .ref l0)] [] := by
  unfold P_X13_back at h
  refine ww_aload_n 0 X dX13_back_0 0 rfl rfl ?_
  refine ww_aload_n 1 X dX13_back_1 0 rfl rfl ?_
  obtain ⟨v2, e2, h⟩ := bO_some h
  refine ww_getI 2 X dX13_back_2 fG_X13_595 e2 ?_
  obtain ⟨_, f5, h⟩ := bO_some h
  obtain ⟨M5, e5, h⟩ := bO_some h
  refine ww_callVV0 5 X dX13_back_5 mY_X13_withKey mL_X13_598 (rcv_spec f5) ⟨_, _, rfl⟩ (by decide) (As := [.int v2]) (rest := []) rfl rfl ⟨Nat.le_of_ble_eq_true rfl, Nat.le_of_ble_eq_true rfl⟩ (Nat.le_of_ble_eq_true rfl) (fun l D A => c_X13_withKey l D A e5) ?_
  refine ww_aload_n 8 X dX13_back_8 0 rfl rfl ?_
  obtain ⟨v9, e9, h⟩ := bO_some h
  refine ww_getI 9 X dX13_back_9 fG_X13_595 e9 ?_
  refine ww_iconst 12 X (v := (1 : Int32)) dX13_back_12 (by decide) ?_
  refine ww_isub 13 X dX13_back_13 ?_
  refine ww_istore_n 14 X dX13_back_14 (lv' := [(0, .ref l0), (1, .int (v9 - (1 : Int32)))]) rfl (by decide) [1, 0] rfl ?_
  exact (wB_X13_back_15 X hQ F _ _ _ h)
theorem c_X13_back {G : mG} {F sz : Nat} {M0 : mM} (l : Launch) (D : mD) (A : Nat → Prop) {l0 : Nat} {M : mM} (h : P_X13_back G F l0 M = some M0) : mMetV l D G A yX13_back cX13_back 4 none 2 44 0 0 [.ref l0] M sz M0 sz := mMetV_of l D G A (by decide) (Nat.le_of_ble_eq_true rfl) (fun x X hQ => wP_X13_back X hQ h)
/-! SealedTokensModel.setCells([BI)V -/
theorem dX13_setCells_0 : decode cX13_setCells 0 = .ok (.iconst 0, 1) := by decide +kernel
theorem dX13_setCells_1 : decode cX13_setCells 1 = .ok (.istore_n 3, 1) := by decide +kernel
theorem dX13_setCells_2 : decode cX13_setCells 2 = .ok (.iload_n 3, 1) := by decide +kernel
theorem dX13_setCells_3 : decode cX13_setCells 3 = .ok (.bipush 16, 2) := by decide +kernel
theorem dX13_setCells_5 : decode cX13_setCells 5 = .ok (.if_icmp .ge 24, 3) := by decide +kernel
theorem dX13_setCells_8 : decode cX13_setCells 8 = .ok (.aload_n 0, 1) := by decide +kernel
theorem dX13_setCells_9 : decode cX13_setCells 9 = .ok (.getfield 98, 3) := by decide +kernel
theorem dX13_setCells_12 : decode cX13_setCells 12 = .ok (.iload_n 3, 1) := by decide +kernel
theorem dX13_setCells_13 : decode cX13_setCells 13 = .ok (.aload_n 1, 1) := by decide +kernel
theorem dX13_setCells_14 : decode cX13_setCells 14 = .ok (.iload_n 2, 1) := by decide +kernel
theorem dX13_setCells_15 : decode cX13_setCells 15 = .ok (.iload_n 3, 1) := by decide +kernel
theorem dX13_setCells_16 : decode cX13_setCells 16 = .ok (.iadd, 1) := by decide +kernel
theorem dX13_setCells_17 : decode cX13_setCells 17 = .ok (.baload, 1) := by decide +kernel
theorem dX13_setCells_18 : decode cX13_setCells 18 = .ok (.sipush 255, 3) := by decide +kernel
theorem dX13_setCells_21 : decode cX13_setCells 21 = .ok (.iand, 1) := by decide +kernel
theorem dX13_setCells_22 : decode cX13_setCells 22 = .ok (.iastore, 1) := by decide +kernel
theorem dX13_setCells_23 : decode cX13_setCells 23 = .ok (.iinc 3 1, 3) := by decide +kernel
theorem dX13_setCells_26 : decode cX13_setCells 26 = .ok (.goto (-24), 3) := by decide +kernel
theorem dX13_setCells_29 : decode cX13_setCells 29 = .ok (.return_, 1) := by decide +kernel
abbrev rmX13_setCells : Room := { frames := 0, cells := 0, slots := 0, locals := 0 }
set_option maxHeartbeats 4000000 in
set_option maxRecDepth 100000 in
theorem wB_X13_setCells_2 {G : mG} {F : Nat} {x : mXT} {sz : Nat} {M0 : mM} (X : mCX G RX13 cX13_setCells 4 none "setCells" rmX13_setCells x) (hQ : mQV x M0 (sz, 0, 0)) : ∀ (n : Nat) (l0 : Nat) (l1 : Nat) (l2 : Int32) (l3 : Int32) (M : mM), B_X13_setCells_2 G F n l0 l1 l2 l3 M = some M0 → WW x (sz, 0, 0) M 2 [(0, .ref l0), (1, .ref l1), (2, .int l2), (3, .int l3)] [] := by
  intro n
  induction n with
  | zero =>
    intro l0 l1 l2 l3 M h
    exact nomatch (show (none : Option mM) = some M0 from h)
  | succ n ih =>
    intro l0 l1 l2 l3 M h
    rw [B_X13_setCells_2] at h
    refine ww_iload_n 2 X dX13_setCells_2 3 rfl rfl ?_
    refine ww_bipush 3 X (v := (16 : Int32)) dX13_setCells_3 (by decide) ?_
    refine ww_icmp_ge 5 29 X dX13_setCells_5 (by decide) (fun q => ?_) (fun q => ?_)
    · replace h := (if_pos q).symm.trans h
      exact ww_vretE 29 X hQ dX13_setCells_29 h
    · replace h := (if_neg q).symm.trans h
      refine ww_aload_n 8 X dX13_setCells_8 0 rfl rfl ?_
      obtain ⟨v9, e9, h⟩ := bO_some h
      refine ww_getR 9 X dX13_setCells_9 fG_X13_98 e9 ?_
      refine ww_iload_n 12 X dX13_setCells_12 3 rfl rfl ?_
      refine ww_aload_n 13 X dX13_setCells_13 1 rfl rfl ?_
      refine ww_iload_n 14 X dX13_setCells_14 2 rfl rfl ?_
      refine ww_iload_n 15 X dX13_setCells_15 3 rfl rfl ?_
      refine ww_iadd 16 X dX13_setCells_16 ?_
      obtain ⟨v17, e17, h⟩ := bO_some h
      refine ww_bald 17 X dX13_setCells_17 e17 ?_
      refine ww_sipush 18 X (v := (255 : Int32)) dX13_setCells_18 (by decide) ?_
      refine ww_iand 21 X dX13_setCells_21 ?_
      obtain ⟨M22, e22, h⟩ := bO_some h
      refine ww_iast 22 X dX13_setCells_22 e22 ?_
      refine ww_iinc 23 X dX13_setCells_23 (lv' := [(0, .ref l0), (1, .ref l1), (2, .int l2), (3, .int (l3 + 1))]) 3 rfl rfl (by decide) [1, 2, 3, 0] rfl ?_
      refine ww_goto 26 2 X dX13_setCells_26 (by decide) ?_
      exact (ih _ _ _ _ _ h)
set_option maxHeartbeats 4000000 in
set_option maxRecDepth 100000 in
theorem wP_X13_setCells {G : mG} {F : Nat} {x : mXT} {sz : Nat} {M0 : mM} (X : mCX G RX13 cX13_setCells 4 none "setCells" rmX13_setCells x) (hQ : mQV x M0 (sz, 0, 0)) {l0 : Nat} {l1 : Nat} {l2 : Int32} {M : mM} (h : P_X13_setCells G F l0 l1 l2 M = some M0) : WW x (sz, 0, 0) M 0 [(0, .ref l0), (1, .ref l1), (2, .int l2)] [] := by
  unfold P_X13_setCells at h
  refine ww_iconst 0 X (v := (0 : Int32)) dX13_setCells_0 (by decide) ?_
  refine ww_istore_n 1 X dX13_setCells_1 (lv' := [(0, .ref l0), (1, .ref l1), (2, .int l2), (3, .int (0 : Int32))]) rfl (by decide) [1, 2, 3, 0] rfl ?_
  exact (wB_X13_setCells_2 X hQ F _ _ _ _ _ h)
theorem c_X13_setCells {G : mG} {F sz : Nat} {M0 : mM} (l : Launch) (D : mD) (A : Nat → Prop) {l0 : Nat} {l1 : Nat} {l2 : Int32} {M : mM} (h : P_X13_setCells G F l0 l1 l2 M = some M0) : mMetV l D G A yX13_setCells cX13_setCells 4 none 0 0 0 0 [.ref l0, .ref l1, .int l2] M sz M0 sz := mMetV_of l D G A (by decide) (Nat.le_of_ble_eq_true rfl) (fun x X hQ => wP_X13_setCells X hQ h)
/-! SealedTokensModel.getCells([BI)V -/
theorem dX13_getCells_0 : decode cX13_getCells 0 = .ok (.iconst 0, 1) := by decide +kernel
theorem dX13_getCells_1 : decode cX13_getCells 1 = .ok (.istore_n 3, 1) := by decide +kernel
theorem dX13_getCells_2 : decode cX13_getCells 2 = .ok (.iload_n 3, 1) := by decide +kernel
theorem dX13_getCells_3 : decode cX13_getCells 3 = .ok (.bipush 16, 2) := by decide +kernel
theorem dX13_getCells_5 : decode cX13_getCells 5 = .ok (.if_icmp .ge 21, 3) := by decide +kernel
theorem dX13_getCells_8 : decode cX13_getCells 8 = .ok (.aload_n 1, 1) := by decide +kernel
theorem dX13_getCells_9 : decode cX13_getCells 9 = .ok (.iload_n 2, 1) := by decide +kernel
theorem dX13_getCells_10 : decode cX13_getCells 10 = .ok (.iload_n 3, 1) := by decide +kernel
theorem dX13_getCells_11 : decode cX13_getCells 11 = .ok (.iadd, 1) := by decide +kernel
theorem dX13_getCells_12 : decode cX13_getCells 12 = .ok (.aload_n 0, 1) := by decide +kernel
theorem dX13_getCells_13 : decode cX13_getCells 13 = .ok (.getfield 98, 3) := by decide +kernel
theorem dX13_getCells_16 : decode cX13_getCells 16 = .ok (.iload_n 3, 1) := by decide +kernel
theorem dX13_getCells_17 : decode cX13_getCells 17 = .ok (.iaload, 1) := by decide +kernel
theorem dX13_getCells_18 : decode cX13_getCells 18 = .ok (.i2b, 1) := by decide +kernel
theorem dX13_getCells_19 : decode cX13_getCells 19 = .ok (.bastore, 1) := by decide +kernel
theorem dX13_getCells_20 : decode cX13_getCells 20 = .ok (.iinc 3 1, 3) := by decide +kernel
theorem dX13_getCells_23 : decode cX13_getCells 23 = .ok (.goto (-21), 3) := by decide +kernel
theorem dX13_getCells_26 : decode cX13_getCells 26 = .ok (.return_, 1) := by decide +kernel
abbrev rmX13_getCells : Room := { frames := 0, cells := 0, slots := 0, locals := 0 }
set_option maxHeartbeats 4000000 in
set_option maxRecDepth 100000 in
theorem wB_X13_getCells_2 {G : mG} {F : Nat} {x : mXT} {sz : Nat} {M0 : mM} (X : mCX G RX13 cX13_getCells 4 none "getCells" rmX13_getCells x) (hQ : mQV x M0 (sz, 0, 0)) : ∀ (n : Nat) (l0 : Nat) (l1 : Nat) (l2 : Int32) (l3 : Int32) (M : mM), B_X13_getCells_2 G F n l0 l1 l2 l3 M = some M0 → WW x (sz, 0, 0) M 2 [(0, .ref l0), (1, .ref l1), (2, .int l2), (3, .int l3)] [] := by
  intro n
  induction n with
  | zero =>
    intro l0 l1 l2 l3 M h
    exact nomatch (show (none : Option mM) = some M0 from h)
  | succ n ih =>
    intro l0 l1 l2 l3 M h
    rw [B_X13_getCells_2] at h
    refine ww_iload_n 2 X dX13_getCells_2 3 rfl rfl ?_
    refine ww_bipush 3 X (v := (16 : Int32)) dX13_getCells_3 (by decide) ?_
    refine ww_icmp_ge 5 26 X dX13_getCells_5 (by decide) (fun q => ?_) (fun q => ?_)
    · replace h := (if_pos q).symm.trans h
      exact ww_vretE 26 X hQ dX13_getCells_26 h
    · replace h := (if_neg q).symm.trans h
      refine ww_aload_n 8 X dX13_getCells_8 1 rfl rfl ?_
      refine ww_iload_n 9 X dX13_getCells_9 2 rfl rfl ?_
      refine ww_iload_n 10 X dX13_getCells_10 3 rfl rfl ?_
      refine ww_iadd 11 X dX13_getCells_11 ?_
      refine ww_aload_n 12 X dX13_getCells_12 0 rfl rfl ?_
      obtain ⟨v13, e13, h⟩ := bO_some h
      refine ww_getR 13 X dX13_getCells_13 fG_X13_98 e13 ?_
      refine ww_iload_n 16 X dX13_getCells_16 3 rfl rfl ?_
      obtain ⟨v17, e17, h⟩ := bO_some h
      refine ww_iald 17 X dX13_getCells_17 e17 ?_
      refine ww_i2b 18 X dX13_getCells_18 ?_
      obtain ⟨M19, e19, h⟩ := bO_some h
      refine ww_bast 19 X dX13_getCells_19 e19 ?_
      refine ww_iinc 20 X dX13_getCells_20 (lv' := [(0, .ref l0), (1, .ref l1), (2, .int l2), (3, .int (l3 + 1))]) 3 rfl rfl (by decide) [1, 2, 3, 0] rfl ?_
      refine ww_goto 23 2 X dX13_getCells_23 (by decide) ?_
      exact (ih _ _ _ _ _ h)
set_option maxHeartbeats 4000000 in
set_option maxRecDepth 100000 in
theorem wP_X13_getCells {G : mG} {F : Nat} {x : mXT} {sz : Nat} {M0 : mM} (X : mCX G RX13 cX13_getCells 4 none "getCells" rmX13_getCells x) (hQ : mQV x M0 (sz, 0, 0)) {l0 : Nat} {l1 : Nat} {l2 : Int32} {M : mM} (h : P_X13_getCells G F l0 l1 l2 M = some M0) : WW x (sz, 0, 0) M 0 [(0, .ref l0), (1, .ref l1), (2, .int l2)] [] := by
  unfold P_X13_getCells at h
  refine ww_iconst 0 X (v := (0 : Int32)) dX13_getCells_0 (by decide) ?_
  refine ww_istore_n 1 X dX13_getCells_1 (lv' := [(0, .ref l0), (1, .ref l1), (2, .int l2), (3, .int (0 : Int32))]) rfl (by decide) [1, 2, 3, 0] rfl ?_
  exact (wB_X13_getCells_2 X hQ F _ _ _ _ _ h)
theorem c_X13_getCells {G : mG} {F sz : Nat} {M0 : mM} (l : Launch) (D : mD) (A : Nat → Prop) {l0 : Nat} {l1 : Nat} {l2 : Int32} {M : mM} (h : P_X13_getCells G F l0 l1 l2 M = some M0) : mMetV l D G A yX13_getCells cX13_getCells 4 none 0 0 0 0 [.ref l0, .ref l1, .int l2] M sz M0 sz := mMetV_of l D G A (by decide) (Nat.le_of_ble_eq_true rfl) (fun x X hQ => wP_X13_getCells X hQ h)
/-! SealedTokensModel.block(IIZ)I -/
theorem dX13_block_0 : decode cX13_block 0 = .ok (.iload_n 1, 1) := by decide +kernel
theorem dX13_block_1 : decode cX13_block 1 = .ok (.invokestatic 332, 3) := by decide +kernel
theorem dX13_block_4 : decode cX13_block 4 = .ok (.ifCond .eq 43, 3) := by decide +kernel
theorem dX13_block_7 : decode cX13_block 7 = .ok (.iload_n 2, 1) := by decide +kernel
theorem dX13_block_8 : decode cX13_block 8 = .ok (.invokestatic 332, 3) := by decide +kernel
theorem dX13_block_11 : decode cX13_block 11 = .ok (.ifCond .eq 36, 3) := by decide +kernel
theorem dX13_block_14 : decode cX13_block 14 = .ok (.aload_n 0, 1) := by decide +kernel
theorem dX13_block_15 : decode cX13_block 15 = .ok (.getfield 17, 3) := by decide +kernel
theorem dX13_block_18 : decode cX13_block 18 = .ok (.iload_n 1, 1) := by decide +kernel
theorem dX13_block_19 : decode cX13_block 19 = .ok (.iaload, 1) := by decide +kernel
theorem dX13_block_20 : decode cX13_block 20 = .ok (.bipush 16, 2) := by decide +kernel
theorem dX13_block_22 : decode cX13_block 22 = .ok (.if_icmp .eq 14, 3) := by decide +kernel
theorem dX13_block_25 : decode cX13_block 25 = .ok (.aload_n 0, 1) := by decide +kernel
theorem dX13_block_26 : decode cX13_block 26 = .ok (.getfield 17, 3) := by decide +kernel
theorem dX13_block_29 : decode cX13_block 29 = .ok (.iload_n 1, 1) := by decide +kernel
theorem dX13_block_30 : decode cX13_block 30 = .ok (.iaload, 1) := by decide +kernel
theorem dX13_block_31 : decode cX13_block 31 = .ok (.bipush 32, 2) := by decide +kernel
theorem dX13_block_33 : decode cX13_block 33 = .ok (.if_icmp .ne 14, 3) := by decide +kernel
theorem dX13_block_36 : decode cX13_block 36 = .ok (.aload_n 0, 1) := by decide +kernel
theorem dX13_block_37 : decode cX13_block 37 = .ok (.getfield 17, 3) := by decide +kernel
theorem dX13_block_40 : decode cX13_block 40 = .ok (.iload_n 2, 1) := by decide +kernel
theorem dX13_block_41 : decode cX13_block 41 = .ok (.iaload, 1) := by decide +kernel
theorem dX13_block_42 : decode cX13_block 42 = .ok (.bipush 16, 2) := by decide +kernel
theorem dX13_block_44 : decode cX13_block 44 = .ok (.if_icmp .eq 6, 3) := by decide +kernel
theorem dX13_block_47 : decode cX13_block 47 = .ok (.bipush (-2), 2) := by decide +kernel
theorem dX13_block_49 : decode cX13_block 49 = .ok (.ireturn, 1) := by decide +kernel
theorem dX13_block_50 : decode cX13_block 50 = .ok (.aload_n 0, 1) := by decide +kernel
theorem dX13_block_51 : decode cX13_block 51 = .ok (.aload_n 0, 1) := by decide +kernel
theorem dX13_block_52 : decode cX13_block 52 = .ok (.getfield 14, 3) := by decide +kernel
theorem dX13_block_55 : decode cX13_block 55 = .ok (.sipush 8192, 3) := by decide +kernel
theorem dX13_block_58 : decode cX13_block 58 = .ok (.iload_n 1, 1) := by decide +kernel
theorem dX13_block_59 : decode cX13_block 59 = .ok (.imul, 1) := by decide +kernel
theorem dX13_block_60 : decode cX13_block 60 = .ok (.aload_n 0, 1) := by decide +kernel
theorem dX13_block_61 : decode cX13_block 61 = .ok (.getfield 17, 3) := by decide +kernel
theorem dX13_block_64 : decode cX13_block 64 = .ok (.iload_n 1, 1) := by decide +kernel
theorem dX13_block_65 : decode cX13_block 65 = .ok (.iaload, 1) := by decide +kernel
theorem dX13_block_66 : decode cX13_block 66 = .ok (.invokevirtual 601, 3) := by decide +kernel
theorem dX13_block_69 : decode cX13_block 69 = .ok (.aload_n 0, 1) := by decide +kernel
theorem dX13_block_70 : decode cX13_block 70 = .ok (.aload_n 0, 1) := by decide +kernel
theorem dX13_block_71 : decode cX13_block 71 = .ok (.getfield 14, 3) := by decide +kernel
theorem dX13_block_74 : decode cX13_block 74 = .ok (.sipush 8192, 3) := by decide +kernel
theorem dX13_block_77 : decode cX13_block 77 = .ok (.iload_n 2, 1) := by decide +kernel
theorem dX13_block_78 : decode cX13_block 78 = .ok (.imul, 1) := by decide +kernel
theorem dX13_block_79 : decode cX13_block 79 = .ok (.invokevirtual 604, 3) := by decide +kernel
theorem dX13_block_82 : decode cX13_block 82 = .ok (.iload_n 3, 1) := by decide +kernel
theorem dX13_block_83 : decode cX13_block 83 = .ok (.ifCond .eq 10, 3) := by decide +kernel
theorem dX13_block_86 : decode cX13_block 86 = .ok (.aload_n 0, 1) := by decide +kernel
theorem dX13_block_87 : decode cX13_block 87 = .ok (.invokevirtual 608, 3) := by decide +kernel
theorem dX13_block_90 : decode cX13_block 90 = .ok (.goto 7, 3) := by decide +kernel
theorem dX13_block_93 : decode cX13_block 93 = .ok (.aload_n 0, 1) := by decide +kernel
theorem dX13_block_94 : decode cX13_block 94 = .ok (.invokevirtual 611, 3) := by decide +kernel
theorem dX13_block_97 : decode cX13_block 97 = .ok (.aload_n 0, 1) := by decide +kernel
theorem dX13_block_98 : decode cX13_block 98 = .ok (.aload_n 0, 1) := by decide +kernel
theorem dX13_block_99 : decode cX13_block 99 = .ok (.getfield 104, 3) := by decide +kernel
theorem dX13_block_102 : decode cX13_block 102 = .ok (.iconst 0, 1) := by decide +kernel
theorem dX13_block_103 : decode cX13_block 103 = .ok (.invokevirtual 614, 3) := by decide +kernel
theorem dX13_block_106 : decode cX13_block 106 = .ok (.aload_n 0, 1) := by decide +kernel
theorem dX13_block_107 : decode cX13_block 107 = .ok (.aload_n 0, 1) := by decide +kernel
theorem dX13_block_108 : decode cX13_block 108 = .ok (.getfield 104, 3) := by decide +kernel
theorem dX13_block_111 : decode cX13_block 111 = .ok (.iconst 0, 1) := by decide +kernel
theorem dX13_block_112 : decode cX13_block 112 = .ok (.bipush 16, 2) := by decide +kernel
theorem dX13_block_114 : decode cX13_block 114 = .ok (.invokevirtual 463, 3) := by decide +kernel
theorem dX13_block_117 : decode cX13_block 117 = .ok (.ireturn, 1) := by decide +kernel
abbrev rmX13_block : Room := { frames := 3, cells := 0, slots := 0, locals := 67 }
set_option maxHeartbeats 4000000 in
set_option maxRecDepth 100000 in
theorem wB_X13_block_36 {G : mG} {F : Nat} {x : mXT} {sz : Nat} {r0 : Int32} {M0 : mM} (X : mCX G RX13 cX13_block 4 (some .int) "block" rmX13_block x) (hQ : mQI x r0 M0 (sz, 0, 0)) {l0 : Nat} {l1 : Int32} {l2 : Int32} {l3 : Int32} {M : mM} (h : B_X13_block_36 G F l0 l1 l2 l3 M = some (r0, M0)) : WW x (sz, 0, 0) M 36 [(0, .ref l0), (1, .int l1), (2, .int l2), (3, .int l3)] [] := by
  unfold B_X13_block_36 at h
  refine ww_aload_n 36 X dX13_block_36 0 rfl rfl ?_
  obtain ⟨v37, e37, h⟩ := bO_some h
  refine ww_getR 37 X dX13_block_37 fG_X13_17 e37 ?_
  refine ww_iload_n 40 X dX13_block_40 2 rfl rfl ?_
  obtain ⟨v41, e41, h⟩ := bO_some h
  refine ww_iald 41 X dX13_block_41 e41 ?_
  refine ww_bipush 42 X (v := (16 : Int32)) dX13_block_42 (by decide) ?_
  refine ww_icmp_eq 44 50 X dX13_block_44 (by decide) (fun q => ?_) (fun q => ?_)
  · replace h := (if_pos q).symm.trans h
    refine ww_aload_n 50 X dX13_block_50 0 rfl rfl ?_
    refine ww_aload_n 51 X dX13_block_51 0 rfl rfl ?_
    obtain ⟨v52, e52, h⟩ := bO_some h
    refine ww_getR 52 X dX13_block_52 fG_X13_14 e52 ?_
    refine ww_sipush 55 X (v := (8192 : Int32)) dX13_block_55 (by decide) ?_
    refine ww_iload_n 58 X dX13_block_58 1 rfl rfl ?_
    refine ww_imul 59 X dX13_block_59 ?_
    refine ww_aload_n 60 X dX13_block_60 0 rfl rfl ?_
    obtain ⟨v61, e61, h⟩ := bO_some h
    refine ww_getR 61 X dX13_block_61 fG_X13_17 e61 ?_
    refine ww_iload_n 64 X dX13_block_64 1 rfl rfl ?_
    obtain ⟨v65, e65, h⟩ := bO_some h
    refine ww_iald 65 X dX13_block_65 e65 ?_
    obtain ⟨_, f66, h⟩ := bO_some h
    obtain ⟨M66, e66, h⟩ := bO_some h
    refine ww_callVV0 66 X dX13_block_66 mY_X13_setKey mL_X13_601 (rcv_spec f66) ⟨_, _, rfl⟩ (by decide) (As := [.ref v52, .int ((8192 : Int32) * l1), .int v65]) (rest := []) rfl rfl ⟨Nat.le_of_ble_eq_true rfl, Nat.le_of_ble_eq_true rfl⟩ (Nat.le_of_ble_eq_true rfl) (fun l D A => c_X13_setKey l D A e66) ?_
    refine ww_aload_n 69 X dX13_block_69 0 rfl rfl ?_
    refine ww_aload_n 70 X dX13_block_70 0 rfl rfl ?_
    obtain ⟨v71, e71, h⟩ := bO_some h
    refine ww_getR 71 X dX13_block_71 fG_X13_14 e71 ?_
    refine ww_sipush 74 X (v := (8192 : Int32)) dX13_block_74 (by decide) ?_
    refine ww_iload_n 77 X dX13_block_77 2 rfl rfl ?_
    refine ww_imul 78 X dX13_block_78 ?_
    obtain ⟨_, f79, h⟩ := bO_some h
    obtain ⟨M79, e79, h⟩ := bO_some h
    refine ww_callVV0 79 X dX13_block_79 mY_X13_setCells mL_X13_604 (rcv_spec f79) ⟨_, _, rfl⟩ (by decide) (As := [.ref v71, .int ((8192 : Int32) * l2)]) (rest := []) rfl rfl ⟨Nat.le_of_ble_eq_true rfl, Nat.le_of_ble_eq_true rfl⟩ (Nat.le_of_ble_eq_true rfl) (fun l D A => c_X13_setCells l D A e79) ?_
    refine ww_iload_n 82 X dX13_block_82 3 rfl rfl ?_
    refine ww_if_eq 83 93 X dX13_block_83 (by decide) (fun q => ?_) (fun q => ?_)
    · replace h := (if_pos q).symm.trans h
      refine ww_aload_n 93 X dX13_block_93 0 rfl rfl ?_
      obtain ⟨_, f94, h⟩ := bO_some h
      obtain ⟨M94, e94, h⟩ := bO_some h
      refine ww_callVV0 94 X dX13_block_94 mY_X13_forth mL_X13_611 (rcv_spec f94) ⟨_, _, rfl⟩ (by decide) (As := []) (rest := []) rfl rfl ⟨Nat.le_of_ble_eq_true rfl, Nat.le_of_ble_eq_true rfl⟩ (Nat.le_of_ble_eq_true rfl) (fun l D A => c_X13_forth l D A e94) ?_
      refine ww_aload_n 97 X dX13_block_97 0 rfl rfl ?_
      refine ww_aload_n 98 X dX13_block_98 0 rfl rfl ?_
      obtain ⟨v99, e99, h⟩ := bO_some h
      refine ww_getR 99 X dX13_block_99 fG_X13_104 e99 ?_
      refine ww_iconst 102 X (v := (0 : Int32)) dX13_block_102 (by decide) ?_
      obtain ⟨_, f103, h⟩ := bO_some h
      obtain ⟨M103, e103, h⟩ := bO_some h
      refine ww_callVV0 103 X dX13_block_103 mY_X13_getCells mL_X13_614 (rcv_spec f103) ⟨_, _, rfl⟩ (by decide) (As := [.ref v99, .int (0 : Int32)]) (rest := []) rfl rfl ⟨Nat.le_of_ble_eq_true rfl, Nat.le_of_ble_eq_true rfl⟩ (Nat.le_of_ble_eq_true rfl) (fun l D A => c_X13_getCells l D A e103) ?_
      refine ww_aload_n 106 X dX13_block_106 0 rfl rfl ?_
      refine ww_aload_n 107 X dX13_block_107 0 rfl rfl ?_
      obtain ⟨v108, e108, h⟩ := bO_some h
      refine ww_getR 108 X dX13_block_108 fG_X13_104 e108 ?_
      refine ww_iconst 111 X (v := (0 : Int32)) dX13_block_111 (by decide) ?_
      refine ww_bipush 112 X (v := (16 : Int32)) dX13_block_112 (by decide) ?_
      obtain ⟨_, f114, h⟩ := bO_some h
      obtain ⟨v114, M114, e114, h⟩ := bP_some h
      refine ww_callVI0 114 X dX13_block_114 mY_X13_tell mL_X13_463 (rcv_spec f114) ⟨_, _, rfl⟩ (by decide) (As := [.ref v108, .int (0 : Int32), .int (16 : Int32)]) (rest := []) rfl rfl ⟨Nat.le_of_ble_eq_true rfl, Nat.le_of_ble_eq_true rfl⟩ (Nat.le_of_ble_eq_true rfl) (fun l D A => c_X13_tell l D A e114) ?_
      exact ww_iretE 117 X hQ dX13_block_117 h
    · replace h := (if_neg q).symm.trans h
      refine ww_aload_n 86 X dX13_block_86 0 rfl rfl ?_
      obtain ⟨_, f87, h⟩ := bO_some h
      obtain ⟨M87, e87, h⟩ := bO_some h
      refine ww_callVV0 87 X dX13_block_87 mY_X13_back mL_X13_608 (rcv_spec f87) ⟨_, _, rfl⟩ (by decide) (As := []) (rest := []) rfl rfl ⟨Nat.le_of_ble_eq_true rfl, Nat.le_of_ble_eq_true rfl⟩ (Nat.le_of_ble_eq_true rfl) (fun l D A => c_X13_back l D A e87) ?_
      refine ww_goto 90 97 X dX13_block_90 (by decide) ?_
      refine ww_aload_n 97 X dX13_block_97 0 rfl rfl ?_
      refine ww_aload_n 98 X dX13_block_98 0 rfl rfl ?_
      obtain ⟨v99, e99, h⟩ := bO_some h
      refine ww_getR 99 X dX13_block_99 fG_X13_104 e99 ?_
      refine ww_iconst 102 X (v := (0 : Int32)) dX13_block_102 (by decide) ?_
      obtain ⟨_, f103, h⟩ := bO_some h
      obtain ⟨M103, e103, h⟩ := bO_some h
      refine ww_callVV0 103 X dX13_block_103 mY_X13_getCells mL_X13_614 (rcv_spec f103) ⟨_, _, rfl⟩ (by decide) (As := [.ref v99, .int (0 : Int32)]) (rest := []) rfl rfl ⟨Nat.le_of_ble_eq_true rfl, Nat.le_of_ble_eq_true rfl⟩ (Nat.le_of_ble_eq_true rfl) (fun l D A => c_X13_getCells l D A e103) ?_
      refine ww_aload_n 106 X dX13_block_106 0 rfl rfl ?_
      refine ww_aload_n 107 X dX13_block_107 0 rfl rfl ?_
      obtain ⟨v108, e108, h⟩ := bO_some h
      refine ww_getR 108 X dX13_block_108 fG_X13_104 e108 ?_
      refine ww_iconst 111 X (v := (0 : Int32)) dX13_block_111 (by decide) ?_
      refine ww_bipush 112 X (v := (16 : Int32)) dX13_block_112 (by decide) ?_
      obtain ⟨_, f114, h⟩ := bO_some h
      obtain ⟨v114, M114, e114, h⟩ := bP_some h
      refine ww_callVI0 114 X dX13_block_114 mY_X13_tell mL_X13_463 (rcv_spec f114) ⟨_, _, rfl⟩ (by decide) (As := [.ref v108, .int (0 : Int32), .int (16 : Int32)]) (rest := []) rfl rfl ⟨Nat.le_of_ble_eq_true rfl, Nat.le_of_ble_eq_true rfl⟩ (Nat.le_of_ble_eq_true rfl) (fun l D A => c_X13_tell l D A e114) ?_
      exact ww_iretE 117 X hQ dX13_block_117 h
  · replace h := (if_neg q).symm.trans h
    refine ww_bipush 47 X (v := (-2 : Int32)) dX13_block_47 (by decide) ?_
    exact ww_iretE 49 X hQ dX13_block_49 h
set_option maxHeartbeats 4000000 in
set_option maxRecDepth 100000 in
theorem wP_X13_block {G : mG} {F : Nat} {x : mXT} {sz : Nat} {r0 : Int32} {M0 : mM} (X : mCX G RX13 cX13_block 4 (some .int) "block" rmX13_block x) (hQ : mQI x r0 M0 (sz, 0, 0)) {l0 : Nat} {l1 : Int32} {l2 : Int32} {l3 : Int32} {M : mM} (h : P_X13_block G F l0 l1 l2 l3 M = some (r0, M0)) : WW x (sz, 0, 0) M 0 [(0, .ref l0), (1, .int l1), (2, .int l2), (3, .int l3)] [] := by
  unfold P_X13_block at h
  refine ww_iload_n 0 X dX13_block_0 1 rfl rfl ?_
  obtain ⟨v1, M1, e1, h⟩ := bP_some h
  refine ww_callSI0 1 X dX13_block_1 mY_X13_isRow mL_X13_332 (As := [.int l1]) (rest := []) rfl rfl ⟨Nat.le_of_ble_eq_true rfl, Nat.le_of_ble_eq_true rfl⟩ (Nat.le_of_ble_eq_true rfl) (fun l D A => c_X13_isRow l D A e1) ?_
  refine ww_if_eq 4 47 X dX13_block_4 (by decide) (fun q => ?_) (fun q => ?_)
  · replace h := (if_pos q).symm.trans h
    refine ww_bipush 47 X (v := (-2 : Int32)) dX13_block_47 (by decide) ?_
    exact ww_iretE 49 X hQ dX13_block_49 h
  · replace h := (if_neg q).symm.trans h
    refine ww_iload_n 7 X dX13_block_7 2 rfl rfl ?_
    obtain ⟨v8, M8, e8, h⟩ := bP_some h
    refine ww_callSI0 8 X dX13_block_8 mY_X13_isRow mL_X13_332 (As := [.int l2]) (rest := []) rfl rfl ⟨Nat.le_of_ble_eq_true rfl, Nat.le_of_ble_eq_true rfl⟩ (Nat.le_of_ble_eq_true rfl) (fun l D A => c_X13_isRow l D A e8) ?_
    refine ww_if_eq 11 47 X dX13_block_11 (by decide) (fun q => ?_) (fun q => ?_)
    · replace h := (if_pos q).symm.trans h
      refine ww_bipush 47 X (v := (-2 : Int32)) dX13_block_47 (by decide) ?_
      exact ww_iretE 49 X hQ dX13_block_49 h
    · replace h := (if_neg q).symm.trans h
      refine ww_aload_n 14 X dX13_block_14 0 rfl rfl ?_
      obtain ⟨v15, e15, h⟩ := bO_some h
      refine ww_getR 15 X dX13_block_15 fG_X13_17 e15 ?_
      refine ww_iload_n 18 X dX13_block_18 1 rfl rfl ?_
      obtain ⟨v19, e19, h⟩ := bO_some h
      refine ww_iald 19 X dX13_block_19 e19 ?_
      refine ww_bipush 20 X (v := (16 : Int32)) dX13_block_20 (by decide) ?_
      refine ww_icmp_eq 22 36 X dX13_block_22 (by decide) (fun q => ?_) (fun q => ?_)
      · replace h := (if_pos q).symm.trans h
        exact (wB_X13_block_36 X hQ h)
      · replace h := (if_neg q).symm.trans h
        refine ww_aload_n 25 X dX13_block_25 0 rfl rfl ?_
        obtain ⟨v26, e26, h⟩ := bO_some h
        refine ww_getR 26 X dX13_block_26 fG_X13_17 e26 ?_
        refine ww_iload_n 29 X dX13_block_29 1 rfl rfl ?_
        obtain ⟨v30, e30, h⟩ := bO_some h
        refine ww_iald 30 X dX13_block_30 e30 ?_
        refine ww_bipush 31 X (v := (32 : Int32)) dX13_block_31 (by decide) ?_
        refine ww_icmp_ne 33 47 X dX13_block_33 (by decide) (fun q => ?_) (fun q => ?_)
        · replace h := (if_neg q).symm.trans h
          refine ww_bipush 47 X (v := (-2 : Int32)) dX13_block_47 (by decide) ?_
          exact ww_iretE 49 X hQ dX13_block_49 h
        · replace h := (if_pos q).symm.trans h
          exact (wB_X13_block_36 X hQ h)
theorem c_X13_block {G : mG} {F sz : Nat} {r0 : Int32} {M0 : mM} (l : Launch) (D : mD) (A : Nat → Prop) {l0 : Nat} {l1 : Int32} {l2 : Int32} {l3 : Int32} {M : mM} (h : P_X13_block G F l0 l1 l2 l3 M = some (r0, M0)) : mMetI l D G A yX13_block cX13_block 4 (some .int) 3 67 0 0 [.ref l0, .int l1, .int l2, .int l3] M sz r0 M0 sz := mMetI_of l D G A (by decide) (Nat.le_of_ble_eq_true rfl) (fun x X hQ => wP_X13_block X hQ h)
/-! SealedTokensModel.wrapUp([BII)I -/
theorem dX13_wrapUp_0 : decode cX13_wrapUp 0 = .ok (.iconst 0, 1) := by decide +kernel
theorem dX13_wrapUp_1 : decode cX13_wrapUp 1 = .ok (.istore 4, 2) := by decide +kernel
theorem dX13_wrapUp_3 : decode cX13_wrapUp 3 = .ok (.iload 4, 2) := by decide +kernel
theorem dX13_wrapUp_5 : decode cX13_wrapUp 5 = .ok (.bipush 8, 2) := by decide +kernel
theorem dX13_wrapUp_7 : decode cX13_wrapUp 7 = .ok (.if_icmp .ge 18, 3) := by decide +kernel
theorem dX13_wrapUp_10 : decode cX13_wrapUp 10 = .ok (.aload_n 0, 1) := by decide +kernel
theorem dX13_wrapUp_11 : decode cX13_wrapUp 11 = .ok (.getfield 107, 3) := by decide +kernel
theorem dX13_wrapUp_14 : decode cX13_wrapUp 14 = .ok (.iload 4, 2) := by decide +kernel
theorem dX13_wrapUp_16 : decode cX13_wrapUp 16 = .ok (.bipush (-90), 2) := by decide +kernel
theorem dX13_wrapUp_18 : decode cX13_wrapUp 18 = .ok (.bastore, 1) := by decide +kernel
theorem dX13_wrapUp_19 : decode cX13_wrapUp 19 = .ok (.iinc 4 1, 3) := by decide +kernel
theorem dX13_wrapUp_22 : decode cX13_wrapUp 22 = .ok (.goto (-19), 3) := by decide +kernel
theorem dX13_wrapUp_25 : decode cX13_wrapUp 25 = .ok (.aload_n 1, 1) := by decide +kernel
theorem dX13_wrapUp_26 : decode cX13_wrapUp 26 = .ok (.iload_n 2, 1) := by decide +kernel
theorem dX13_wrapUp_27 : decode cX13_wrapUp 27 = .ok (.aload_n 0, 1) := by decide +kernel
theorem dX13_wrapUp_28 : decode cX13_wrapUp 28 = .ok (.getfield 107, 3) := by decide +kernel
theorem dX13_wrapUp_31 : decode cX13_wrapUp 31 = .ok (.bipush 8, 2) := by decide +kernel
theorem dX13_wrapUp_33 : decode cX13_wrapUp 33 = .ok (.iload_n 3, 1) := by decide +kernel
theorem dX13_wrapUp_34 : decode cX13_wrapUp 34 = .ok (.invokestatic 317, 3) := by decide +kernel
theorem dX13_wrapUp_37 : decode cX13_wrapUp 37 = .ok (.iconst 0, 1) := by decide +kernel
theorem dX13_wrapUp_38 : decode cX13_wrapUp 38 = .ok (.istore 4, 2) := by decide +kernel
theorem dX13_wrapUp_40 : decode cX13_wrapUp 40 = .ok (.iconst 0, 1) := by decide +kernel
theorem dX13_wrapUp_41 : decode cX13_wrapUp 41 = .ok (.istore 5, 2) := by decide +kernel
theorem dX13_wrapUp_43 : decode cX13_wrapUp 43 = .ok (.iload 5, 2) := by decide +kernel
theorem dX13_wrapUp_45 : decode cX13_wrapUp 45 = .ok (.bipush 6, 2) := by decide +kernel
theorem dX13_wrapUp_47 : decode cX13_wrapUp 47 = .ok (.if_icmp .ge 123, 3) := by decide +kernel
theorem dX13_wrapUp_50 : decode cX13_wrapUp 50 = .ok (.bipush 8, 2) := by decide +kernel
theorem dX13_wrapUp_52 : decode cX13_wrapUp 52 = .ok (.istore 6, 2) := by decide +kernel
theorem dX13_wrapUp_54 : decode cX13_wrapUp 54 = .ok (.iload 6, 2) := by decide +kernel
theorem dX13_wrapUp_56 : decode cX13_wrapUp 56 = .ok (.iload_n 3, 1) := by decide +kernel
theorem dX13_wrapUp_57 : decode cX13_wrapUp 57 = .ok (.if_icmp .gt 107, 3) := by decide +kernel
theorem dX13_wrapUp_60 : decode cX13_wrapUp 60 = .ok (.iinc 4 1, 3) := by decide +kernel
theorem dX13_wrapUp_63 : decode cX13_wrapUp 63 = .ok (.aload_n 0, 1) := by decide +kernel
theorem dX13_wrapUp_64 : decode cX13_wrapUp 64 = .ok (.getfield 107, 3) := by decide +kernel
theorem dX13_wrapUp_67 : decode cX13_wrapUp 67 = .ok (.iconst 0, 1) := by decide +kernel
theorem dX13_wrapUp_68 : decode cX13_wrapUp 68 = .ok (.aload_n 0, 1) := by decide +kernel
theorem dX13_wrapUp_69 : decode cX13_wrapUp 69 = .ok (.getfield 104, 3) := by decide +kernel
theorem dX13_wrapUp_72 : decode cX13_wrapUp 72 = .ok (.iconst 0, 1) := by decide +kernel
theorem dX13_wrapUp_73 : decode cX13_wrapUp 73 = .ok (.bipush 8, 2) := by decide +kernel
theorem dX13_wrapUp_75 : decode cX13_wrapUp 75 = .ok (.invokestatic 317, 3) := by decide +kernel
theorem dX13_wrapUp_78 : decode cX13_wrapUp 78 = .ok (.aload_n 0, 1) := by decide +kernel
theorem dX13_wrapUp_79 : decode cX13_wrapUp 79 = .ok (.getfield 107, 3) := by decide +kernel
theorem dX13_wrapUp_82 : decode cX13_wrapUp 82 = .ok (.iload 6, 2) := by decide +kernel
theorem dX13_wrapUp_84 : decode cX13_wrapUp 84 = .ok (.aload_n 0, 1) := by decide +kernel
theorem dX13_wrapUp_85 : decode cX13_wrapUp 85 = .ok (.getfield 104, 3) := by decide +kernel
theorem dX13_wrapUp_88 : decode cX13_wrapUp 88 = .ok (.bipush 8, 2) := by decide +kernel
theorem dX13_wrapUp_90 : decode cX13_wrapUp 90 = .ok (.bipush 8, 2) := by decide +kernel
theorem dX13_wrapUp_92 : decode cX13_wrapUp 92 = .ok (.invokestatic 317, 3) := by decide +kernel
theorem dX13_wrapUp_95 : decode cX13_wrapUp 95 = .ok (.aload_n 0, 1) := by decide +kernel
theorem dX13_wrapUp_96 : decode cX13_wrapUp 96 = .ok (.aload_n 0, 1) := by decide +kernel
theorem dX13_wrapUp_97 : decode cX13_wrapUp 97 = .ok (.getfield 104, 3) := by decide +kernel
theorem dX13_wrapUp_100 : decode cX13_wrapUp 100 = .ok (.iconst 0, 1) := by decide +kernel
theorem dX13_wrapUp_101 : decode cX13_wrapUp 101 = .ok (.invokevirtual 604, 3) := by decide +kernel
theorem dX13_wrapUp_104 : decode cX13_wrapUp 104 = .ok (.aload_n 0, 1) := by decide +kernel
theorem dX13_wrapUp_105 : decode cX13_wrapUp 105 = .ok (.invokevirtual 611, 3) := by decide +kernel
theorem dX13_wrapUp_108 : decode cX13_wrapUp 108 = .ok (.aload_n 0, 1) := by decide +kernel
theorem dX13_wrapUp_109 : decode cX13_wrapUp 109 = .ok (.aload_n 0, 1) := by decide +kernel
theorem dX13_wrapUp_110 : decode cX13_wrapUp 110 = .ok (.getfield 104, 3) := by decide +kernel
theorem dX13_wrapUp_113 : decode cX13_wrapUp 113 = .ok (.iconst 0, 1) := by decide +kernel
theorem dX13_wrapUp_114 : decode cX13_wrapUp 114 = .ok (.invokevirtual 614, 3) := by decide +kernel
theorem dX13_wrapUp_117 : decode cX13_wrapUp 117 = .ok (.aload_n 0, 1) := by decide +kernel
theorem dX13_wrapUp_118 : decode cX13_wrapUp 118 = .ok (.getfield 107, 3) := by decide +kernel
theorem dX13_wrapUp_121 : decode cX13_wrapUp 121 = .ok (.iconst 0, 1) := by decide +kernel
theorem dX13_wrapUp_122 : decode cX13_wrapUp 122 = .ok (.bipush 8, 2) := by decide +kernel
theorem dX13_wrapUp_124 : decode cX13_wrapUp 124 = .ok (.aload_n 0, 1) := by decide +kernel
theorem dX13_wrapUp_125 : decode cX13_wrapUp 125 = .ok (.getfield 104, 3) := by decide +kernel
theorem dX13_wrapUp_128 : decode cX13_wrapUp 128 = .ok (.iconst 0, 1) := by decide +kernel
theorem dX13_wrapUp_129 : decode cX13_wrapUp 129 = .ok (.bipush 8, 2) := by decide +kernel
theorem dX13_wrapUp_131 : decode cX13_wrapUp 131 = .ok (.invokestatic 528, 3) := by decide +kernel
theorem dX13_wrapUp_134 : decode cX13_wrapUp 134 = .ok (.iload 4, 2) := by decide +kernel
theorem dX13_wrapUp_136 : decode cX13_wrapUp 136 = .ok (.i2l, 1) := by decide +kernel
theorem dX13_wrapUp_137 : decode cX13_wrapUp 137 = .ok (.lxor, 1) := by decide +kernel
theorem dX13_wrapUp_138 : decode cX13_wrapUp 138 = .ok (.invokestatic 328, 3) := by decide +kernel
theorem dX13_wrapUp_141 : decode cX13_wrapUp 141 = .ok (.aload_n 0, 1) := by decide +kernel
theorem dX13_wrapUp_142 : decode cX13_wrapUp 142 = .ok (.getfield 104, 3) := by decide +kernel
theorem dX13_wrapUp_145 : decode cX13_wrapUp 145 = .ok (.bipush 8, 2) := by decide +kernel
theorem dX13_wrapUp_147 : decode cX13_wrapUp 147 = .ok (.aload_n 0, 1) := by decide +kernel
theorem dX13_wrapUp_148 : decode cX13_wrapUp 148 = .ok (.getfield 107, 3) := by decide +kernel
theorem dX13_wrapUp_151 : decode cX13_wrapUp 151 = .ok (.iload 6, 2) := by decide +kernel
theorem dX13_wrapUp_153 : decode cX13_wrapUp 153 = .ok (.bipush 8, 2) := by decide +kernel
theorem dX13_wrapUp_155 : decode cX13_wrapUp 155 = .ok (.invokestatic 317, 3) := by decide +kernel
theorem dX13_wrapUp_158 : decode cX13_wrapUp 158 = .ok (.iinc 6 8, 3) := by decide +kernel
theorem dX13_wrapUp_161 : decode cX13_wrapUp 161 = .ok (.goto (-107), 3) := by decide +kernel
theorem dX13_wrapUp_164 : decode cX13_wrapUp 164 = .ok (.iinc 5 1, 3) := by decide +kernel
theorem dX13_wrapUp_167 : decode cX13_wrapUp 167 = .ok (.goto (-124), 3) := by decide +kernel
theorem dX13_wrapUp_170 : decode cX13_wrapUp 170 = .ok (.iload_n 3, 1) := by decide +kernel
theorem dX13_wrapUp_171 : decode cX13_wrapUp 171 = .ok (.bipush 8, 2) := by decide +kernel
theorem dX13_wrapUp_173 : decode cX13_wrapUp 173 = .ok (.iadd, 1) := by decide +kernel
theorem dX13_wrapUp_174 : decode cX13_wrapUp 174 = .ok (.ireturn, 1) := by decide +kernel
abbrev rmX13_wrapUp : Room := { frames := 2, cells := 0, slots := 0, locals := 48 }
set_option maxHeartbeats 4000000 in
set_option maxRecDepth 100000 in
theorem wB_X13_wrapUp_54 {G : mG} {F : Nat} {x : mXT} {sz : Nat} {r0 : Int32} {M0 : mM} (X : mCX G RX13 cX13_wrapUp 7 (some .int) "wrapUp" rmX13_wrapUp x) (hQ : mQI x r0 M0 (sz, 0, 0)) (r43 : Nat → Int32 → Int32 → Int32 → mM → Option (Int32 × mM)) (hr43 : ∀ (l0 : Nat) (l3 : Int32) (l4 : Int32) (l5 : Int32) (M : mM), r43 l0 l3 l4 l5 M = some (r0, M0) → WW x (sz, 0, 0) M 43 [(0, .ref l0), (3, .int l3), (4, .int l4), (5, .int l5)] []) : ∀ (n : Nat) (l0 : Nat) (l3 : Int32) (l4 : Int32) (l5 : Int32) (l6 : Int32) (M : mM), B_X13_wrapUp_54 G F r43 n l0 l3 l4 l5 l6 M = some (r0, M0) → WW x (sz, 0, 0) M 54 [(0, .ref l0), (3, .int l3), (4, .int l4), (5, .int l5), (6, .int l6)] [] := by
  intro n
  induction n with
  | zero =>
    intro l0 l3 l4 l5 l6 M h
    exact nomatch (show (none : Option (Int32 × mM)) = some (r0, M0) from h)
  | succ n ih =>
    intro l0 l3 l4 l5 l6 M h
    rw [B_X13_wrapUp_54] at h
    refine ww_iload 54 X dX13_wrapUp_54 4 rfl ?_
    refine ww_iload_n 56 X dX13_wrapUp_56 1 rfl rfl ?_
    refine ww_icmp_gt 57 164 X dX13_wrapUp_57 (by decide) (fun q => ?_) (fun q => ?_)
    · replace h := (if_pos q).symm.trans h
      refine ww_iinc 164 X dX13_wrapUp_164 (lv' := [(0, .ref l0), (3, .int l3), (4, .int l4), (5, .int (l5 + 1)), (6, .int l6)]) 3 rfl rfl (by decide) [1, 2, 3, 0, 4] rfl ?_
      refine ww_goto 167 43 X dX13_wrapUp_167 (by decide) ?_
      exact ww_sub [0, 1, 2, 3] rfl (hr43 _ _ _ _ _ h)
    · replace h := (if_neg q).symm.trans h
      refine ww_iinc 60 X dX13_wrapUp_60 (lv' := [(0, .ref l0), (3, .int l3), (4, .int (l4 + 1)), (5, .int l5), (6, .int l6)]) 2 rfl rfl (by decide) [1, 2, 0, 3, 4] rfl ?_
      refine ww_aload_n 63 X dX13_wrapUp_63 0 rfl rfl ?_
      obtain ⟨v64, e64, h⟩ := bO_some h
      refine ww_getR 64 X dX13_wrapUp_64 fG_X13_107 e64 ?_
      refine ww_iconst 67 X (v := (0 : Int32)) dX13_wrapUp_67 (by decide) ?_
      refine ww_aload_n 68 X dX13_wrapUp_68 0 rfl rfl ?_
      obtain ⟨v69, e69, h⟩ := bO_some h
      refine ww_getR 69 X dX13_wrapUp_69 fG_X13_104 e69 ?_
      refine ww_iconst 72 X (v := (0 : Int32)) dX13_wrapUp_72 (by decide) ?_
      refine ww_bipush 73 X (v := (8 : Int32)) dX13_wrapUp_73 (by decide) ?_
      obtain ⟨M75, e75, h⟩ := bO_some h
      refine ww_callSV0 75 X dX13_wrapUp_75 mY_X13_move mL_X13_317 (As := [.ref v64, .int (0 : Int32), .ref v69, .int (0 : Int32), .int (8 : Int32)]) (rest := []) rfl rfl ⟨Nat.le_of_ble_eq_true rfl, Nat.le_of_ble_eq_true rfl⟩ (Nat.le_of_ble_eq_true rfl) (fun l D A => c_X13_move l D A e75) ?_
      refine ww_aload_n 78 X dX13_wrapUp_78 0 rfl rfl ?_
      obtain ⟨v79, e79, h⟩ := bO_some h
      refine ww_getR 79 X dX13_wrapUp_79 fG_X13_107 e79 ?_
      refine ww_iload 82 X dX13_wrapUp_82 4 rfl ?_
      refine ww_aload_n 84 X dX13_wrapUp_84 0 rfl rfl ?_
      obtain ⟨v85, e85, h⟩ := bO_some h
      refine ww_getR 85 X dX13_wrapUp_85 fG_X13_104 e85 ?_
      refine ww_bipush 88 X (v := (8 : Int32)) dX13_wrapUp_88 (by decide) ?_
      refine ww_bipush 90 X (v := (8 : Int32)) dX13_wrapUp_90 (by decide) ?_
      obtain ⟨M92, e92, h⟩ := bO_some h
      refine ww_callSV0 92 X dX13_wrapUp_92 mY_X13_move mL_X13_317 (As := [.ref v79, .int l6, .ref v85, .int (8 : Int32), .int (8 : Int32)]) (rest := []) rfl rfl ⟨Nat.le_of_ble_eq_true rfl, Nat.le_of_ble_eq_true rfl⟩ (Nat.le_of_ble_eq_true rfl) (fun l D A => c_X13_move l D A e92) ?_
      refine ww_aload_n 95 X dX13_wrapUp_95 0 rfl rfl ?_
      refine ww_aload_n 96 X dX13_wrapUp_96 0 rfl rfl ?_
      obtain ⟨v97, e97, h⟩ := bO_some h
      refine ww_getR 97 X dX13_wrapUp_97 fG_X13_104 e97 ?_
      refine ww_iconst 100 X (v := (0 : Int32)) dX13_wrapUp_100 (by decide) ?_
      obtain ⟨_, f101, h⟩ := bO_some h
      obtain ⟨M101, e101, h⟩ := bO_some h
      refine ww_callVV0 101 X dX13_wrapUp_101 mY_X13_setCells mL_X13_604 (rcv_spec f101) ⟨_, _, rfl⟩ (by decide) (As := [.ref v97, .int (0 : Int32)]) (rest := []) rfl rfl ⟨Nat.le_of_ble_eq_true rfl, Nat.le_of_ble_eq_true rfl⟩ (Nat.le_of_ble_eq_true rfl) (fun l D A => c_X13_setCells l D A e101) ?_
      refine ww_aload_n 104 X dX13_wrapUp_104 0 rfl rfl ?_
      obtain ⟨_, f105, h⟩ := bO_some h
      obtain ⟨M105, e105, h⟩ := bO_some h
      refine ww_callVV0 105 X dX13_wrapUp_105 mY_X13_forth mL_X13_611 (rcv_spec f105) ⟨_, _, rfl⟩ (by decide) (As := []) (rest := []) rfl rfl ⟨Nat.le_of_ble_eq_true rfl, Nat.le_of_ble_eq_true rfl⟩ (Nat.le_of_ble_eq_true rfl) (fun l D A => c_X13_forth l D A e105) ?_
      refine ww_aload_n 108 X dX13_wrapUp_108 0 rfl rfl ?_
      refine ww_aload_n 109 X dX13_wrapUp_109 0 rfl rfl ?_
      obtain ⟨v110, e110, h⟩ := bO_some h
      refine ww_getR 110 X dX13_wrapUp_110 fG_X13_104 e110 ?_
      refine ww_iconst 113 X (v := (0 : Int32)) dX13_wrapUp_113 (by decide) ?_
      obtain ⟨_, f114, h⟩ := bO_some h
      obtain ⟨M114, e114, h⟩ := bO_some h
      refine ww_callVV0 114 X dX13_wrapUp_114 mY_X13_getCells mL_X13_614 (rcv_spec f114) ⟨_, _, rfl⟩ (by decide) (As := [.ref v110, .int (0 : Int32)]) (rest := []) rfl rfl ⟨Nat.le_of_ble_eq_true rfl, Nat.le_of_ble_eq_true rfl⟩ (Nat.le_of_ble_eq_true rfl) (fun l D A => c_X13_getCells l D A e114) ?_
      refine ww_aload_n 117 X dX13_wrapUp_117 0 rfl rfl ?_
      obtain ⟨v118, e118, h⟩ := bO_some h
      refine ww_getR 118 X dX13_wrapUp_118 fG_X13_107 e118 ?_
      refine ww_iconst 121 X (v := (0 : Int32)) dX13_wrapUp_121 (by decide) ?_
      refine ww_bipush 122 X (v := (8 : Int32)) dX13_wrapUp_122 (by decide) ?_
      refine ww_aload_n 124 X dX13_wrapUp_124 0 rfl rfl ?_
      obtain ⟨v125, e125, h⟩ := bO_some h
      refine ww_getR 125 X dX13_wrapUp_125 fG_X13_104 e125 ?_
      refine ww_iconst 128 X (v := (0 : Int32)) dX13_wrapUp_128 (by decide) ?_
      refine ww_bipush 129 X (v := (8 : Int32)) dX13_wrapUp_129 (by decide) ?_
      obtain ⟨v131, M131, e131, h⟩ := bP_some h
      refine ww_callSL0 131 X dX13_wrapUp_131 mY_X13_longAt mL_X13_528 (As := [.ref v125, .int (0 : Int32), .int (8 : Int32)]) (rest := [.int (8 : Int32), .int (0 : Int32), .ref v118]) rfl rfl ⟨Nat.le_of_ble_eq_true rfl, Nat.le_of_ble_eq_true rfl⟩ (Nat.le_of_ble_eq_true rfl) (fun l D A => c_X13_longAt l D A e131) ?_
      refine ww_iload 134 X dX13_wrapUp_134 2 rfl ?_
      refine ww_i2l 136 X dX13_wrapUp_136 ?_
      refine ww_lxor 137 X dX13_wrapUp_137 ?_
      obtain ⟨M138, e138, h⟩ := bO_some h
      refine ww_callSV0 138 X dX13_wrapUp_138 mY_X13_put mL_X13_328 (As := [.ref v118, .int (0 : Int32), .int (8 : Int32), .long (v131 ^^^ ((l4 + 1).toInt64))]) (rest := []) rfl rfl ⟨Nat.le_of_ble_eq_true rfl, Nat.le_of_ble_eq_true rfl⟩ (Nat.le_of_ble_eq_true rfl) (fun l D A => c_X13_put l D A e138) ?_
      refine ww_aload_n 141 X dX13_wrapUp_141 0 rfl rfl ?_
      obtain ⟨v142, e142, h⟩ := bO_some h
      refine ww_getR 142 X dX13_wrapUp_142 fG_X13_104 e142 ?_
      refine ww_bipush 145 X (v := (8 : Int32)) dX13_wrapUp_145 (by decide) ?_
      refine ww_aload_n 147 X dX13_wrapUp_147 0 rfl rfl ?_
      obtain ⟨v148, e148, h⟩ := bO_some h
      refine ww_getR 148 X dX13_wrapUp_148 fG_X13_107 e148 ?_
      refine ww_iload 151 X dX13_wrapUp_151 4 rfl ?_
      refine ww_bipush 153 X (v := (8 : Int32)) dX13_wrapUp_153 (by decide) ?_
      obtain ⟨M155, e155, h⟩ := bO_some h
      refine ww_callSV0 155 X dX13_wrapUp_155 mY_X13_move mL_X13_317 (As := [.ref v142, .int (8 : Int32), .ref v148, .int l6, .int (8 : Int32)]) (rest := []) rfl rfl ⟨Nat.le_of_ble_eq_true rfl, Nat.le_of_ble_eq_true rfl⟩ (Nat.le_of_ble_eq_true rfl) (fun l D A => c_X13_move l D A e155) ?_
      refine ww_iinc 158 X dX13_wrapUp_158 (lv' := [(0, .ref l0), (3, .int l3), (4, .int (l4 + 1)), (5, .int l5), (6, .int (l6 + 8))]) 4 rfl rfl (by decide) [1, 2, 3, 4, 0] rfl ?_
      refine ww_goto 161 54 X dX13_wrapUp_161 (by decide) ?_
      exact (ih _ _ _ _ _ _ h)
set_option maxHeartbeats 4000000 in
set_option maxRecDepth 100000 in
theorem wB_X13_wrapUp_43 {G : mG} {F : Nat} {x : mXT} {sz : Nat} {r0 : Int32} {M0 : mM} (X : mCX G RX13 cX13_wrapUp 7 (some .int) "wrapUp" rmX13_wrapUp x) (hQ : mQI x r0 M0 (sz, 0, 0)) : ∀ (n : Nat) (l0 : Nat) (l3 : Int32) (l4 : Int32) (l5 : Int32) (M : mM), B_X13_wrapUp_43 G F n l0 l3 l4 l5 M = some (r0, M0) → WW x (sz, 0, 0) M 43 [(0, .ref l0), (3, .int l3), (4, .int l4), (5, .int l5)] [] := by
  intro n
  induction n with
  | zero =>
    intro l0 l3 l4 l5 M h
    exact nomatch (show (none : Option (Int32 × mM)) = some (r0, M0) from h)
  | succ n ih =>
    intro l0 l3 l4 l5 M h
    rw [B_X13_wrapUp_43] at h
    refine ww_iload 43 X dX13_wrapUp_43 3 rfl ?_
    refine ww_bipush 45 X (v := (6 : Int32)) dX13_wrapUp_45 (by decide) ?_
    refine ww_icmp_ge 47 170 X dX13_wrapUp_47 (by decide) (fun q => ?_) (fun q => ?_)
    · replace h := (if_pos q).symm.trans h
      refine ww_iload_n 170 X dX13_wrapUp_170 1 rfl rfl ?_
      refine ww_bipush 171 X (v := (8 : Int32)) dX13_wrapUp_171 (by decide) ?_
      refine ww_iadd 173 X dX13_wrapUp_173 ?_
      exact ww_iretE 174 X hQ dX13_wrapUp_174 h
    · replace h := (if_neg q).symm.trans h
      refine ww_bipush 50 X (v := (8 : Int32)) dX13_wrapUp_50 (by decide) ?_
      refine ww_istore 52 X dX13_wrapUp_52 (lv' := [(0, .ref l0), (3, .int l3), (4, .int l4), (5, .int l5), (6, .int (8 : Int32))]) (by decide) [1, 2, 3, 4, 0] rfl ?_
      exact (wB_X13_wrapUp_54 X hQ _ ih F _ _ _ _ _ _ h)
set_option maxHeartbeats 4000000 in
set_option maxRecDepth 100000 in
theorem wB_X13_wrapUp_3 {G : mG} {F : Nat} {x : mXT} {sz : Nat} {r0 : Int32} {M0 : mM} (X : mCX G RX13 cX13_wrapUp 7 (some .int) "wrapUp" rmX13_wrapUp x) (hQ : mQI x r0 M0 (sz, 0, 0)) : ∀ (n : Nat) (l0 : Nat) (l1 : Nat) (l2 : Int32) (l3 : Int32) (l4 : Int32) (M : mM), B_X13_wrapUp_3 G F n l0 l1 l2 l3 l4 M = some (r0, M0) → WW x (sz, 0, 0) M 3 [(0, .ref l0), (1, .ref l1), (2, .int l2), (3, .int l3), (4, .int l4)] [] := by
  intro n
  induction n with
  | zero =>
    intro l0 l1 l2 l3 l4 M h
    exact nomatch (show (none : Option (Int32 × mM)) = some (r0, M0) from h)
  | succ n ih =>
    intro l0 l1 l2 l3 l4 M h
    rw [B_X13_wrapUp_3] at h
    refine ww_iload 3 X dX13_wrapUp_3 4 rfl ?_
    refine ww_bipush 5 X (v := (8 : Int32)) dX13_wrapUp_5 (by decide) ?_
    refine ww_icmp_ge 7 25 X dX13_wrapUp_7 (by decide) (fun q => ?_) (fun q => ?_)
    · replace h := (if_pos q).symm.trans h
      refine ww_aload_n 25 X dX13_wrapUp_25 1 rfl rfl ?_
      refine ww_iload_n 26 X dX13_wrapUp_26 2 rfl rfl ?_
      refine ww_aload_n 27 X dX13_wrapUp_27 0 rfl rfl ?_
      obtain ⟨v28, e28, h⟩ := bO_some h
      refine ww_getR 28 X dX13_wrapUp_28 fG_X13_107 e28 ?_
      refine ww_bipush 31 X (v := (8 : Int32)) dX13_wrapUp_31 (by decide) ?_
      refine ww_iload_n 33 X dX13_wrapUp_33 3 rfl rfl ?_
      obtain ⟨M34, e34, h⟩ := bO_some h
      refine ww_callSV0 34 X dX13_wrapUp_34 mY_X13_move mL_X13_317 (As := [.ref l1, .int l2, .ref v28, .int (8 : Int32), .int l3]) (rest := []) rfl rfl ⟨Nat.le_of_ble_eq_true rfl, Nat.le_of_ble_eq_true rfl⟩ (Nat.le_of_ble_eq_true rfl) (fun l D A => c_X13_move l D A e34) ?_
      refine ww_iconst 37 X (v := (0 : Int32)) dX13_wrapUp_37 (by decide) ?_
      refine ww_istore 38 X dX13_wrapUp_38 (lv' := [(0, .ref l0), (1, .ref l1), (2, .int l2), (3, .int l3), (4, .int (0 : Int32))]) (by decide) [1, 2, 3, 4, 0] rfl ?_
      refine ww_iconst 40 X (v := (0 : Int32)) dX13_wrapUp_40 (by decide) ?_
      refine ww_istore 41 X dX13_wrapUp_41 (lv' := [(0, .ref l0), (1, .ref l1), (2, .int l2), (3, .int l3), (4, .int (0 : Int32)), (5, .int (0 : Int32))]) (by decide) [1, 2, 3, 4, 5, 0] rfl ?_
      exact ww_sub [0, 3, 4, 5] rfl (wB_X13_wrapUp_43 X hQ F _ _ _ _ _ h)
    · replace h := (if_neg q).symm.trans h
      refine ww_aload_n 10 X dX13_wrapUp_10 0 rfl rfl ?_
      obtain ⟨v11, e11, h⟩ := bO_some h
      refine ww_getR 11 X dX13_wrapUp_11 fG_X13_107 e11 ?_
      refine ww_iload 14 X dX13_wrapUp_14 4 rfl ?_
      refine ww_bipush 16 X (v := (-90 : Int32)) dX13_wrapUp_16 (by decide) ?_
      obtain ⟨M18, e18, h⟩ := bO_some h
      refine ww_bast 18 X dX13_wrapUp_18 e18 ?_
      refine ww_iinc 19 X dX13_wrapUp_19 (lv' := [(0, .ref l0), (1, .ref l1), (2, .int l2), (3, .int l3), (4, .int (l4 + 1))]) 4 rfl rfl (by decide) [1, 2, 3, 4, 0] rfl ?_
      refine ww_goto 22 3 X dX13_wrapUp_22 (by decide) ?_
      exact (ih _ _ _ _ _ _ h)
set_option maxHeartbeats 4000000 in
set_option maxRecDepth 100000 in
theorem wP_X13_wrapUp {G : mG} {F : Nat} {x : mXT} {sz : Nat} {r0 : Int32} {M0 : mM} (X : mCX G RX13 cX13_wrapUp 7 (some .int) "wrapUp" rmX13_wrapUp x) (hQ : mQI x r0 M0 (sz, 0, 0)) {l0 : Nat} {l1 : Nat} {l2 : Int32} {l3 : Int32} {M : mM} (h : P_X13_wrapUp G F l0 l1 l2 l3 M = some (r0, M0)) : WW x (sz, 0, 0) M 0 [(0, .ref l0), (1, .ref l1), (2, .int l2), (3, .int l3)] [] := by
  unfold P_X13_wrapUp at h
  refine ww_iconst 0 X (v := (0 : Int32)) dX13_wrapUp_0 (by decide) ?_
  refine ww_istore 1 X dX13_wrapUp_1 (lv' := [(0, .ref l0), (1, .ref l1), (2, .int l2), (3, .int l3), (4, .int (0 : Int32))]) (by decide) [1, 2, 3, 4, 0] rfl ?_
  exact (wB_X13_wrapUp_3 X hQ F _ _ _ _ _ _ h)
theorem c_X13_wrapUp {G : mG} {F sz : Nat} {r0 : Int32} {M0 : mM} (l : Launch) (D : mD) (A : Nat → Prop) {l0 : Nat} {l1 : Nat} {l2 : Int32} {l3 : Int32} {M : mM} (h : P_X13_wrapUp G F l0 l1 l2 l3 M = some (r0, M0)) : mMetI l D G A yX13_wrapUp cX13_wrapUp 7 (some .int) 2 48 0 0 [.ref l0, .ref l1, .int l2, .int l3] M sz r0 M0 sz := mMetI_of l D G A (by decide) (Nat.le_of_ble_eq_true rfl) (fun x X hQ => wP_X13_wrapUp X hQ h)
/-! SealedTokensModel.unwrapIt([BII)Z -/
theorem dX13_unwrapIt_0 : decode cX13_unwrapIt 0 = .ok (.aload_n 1, 1) := by decide +kernel
theorem dX13_unwrapIt_1 : decode cX13_unwrapIt 1 = .ok (.iload_n 2, 1) := by decide +kernel
theorem dX13_unwrapIt_2 : decode cX13_unwrapIt 2 = .ok (.aload_n 0, 1) := by decide +kernel
theorem dX13_unwrapIt_3 : decode cX13_unwrapIt 3 = .ok (.getfield 107, 3) := by decide +kernel
theorem dX13_unwrapIt_6 : decode cX13_unwrapIt 6 = .ok (.iconst 0, 1) := by decide +kernel
theorem dX13_unwrapIt_7 : decode cX13_unwrapIt 7 = .ok (.iload_n 3, 1) := by decide +kernel
theorem dX13_unwrapIt_8 : decode cX13_unwrapIt 8 = .ok (.invokestatic 317, 3) := by decide +kernel
theorem dX13_unwrapIt_11 : decode cX13_unwrapIt 11 = .ok (.bipush 6, 2) := by decide +kernel
theorem dX13_unwrapIt_13 : decode cX13_unwrapIt 13 = .ok (.iload_n 3, 1) := by decide +kernel
theorem dX13_unwrapIt_14 : decode cX13_unwrapIt 14 = .ok (.bipush 8, 2) := by decide +kernel
theorem dX13_unwrapIt_16 : decode cX13_unwrapIt 16 = .ok (.idiv, 1) := by decide +kernel
theorem dX13_unwrapIt_17 : decode cX13_unwrapIt 17 = .ok (.iconst 1, 1) := by decide +kernel
theorem dX13_unwrapIt_18 : decode cX13_unwrapIt 18 = .ok (.isub, 1) := by decide +kernel
theorem dX13_unwrapIt_19 : decode cX13_unwrapIt 19 = .ok (.imul, 1) := by decide +kernel
theorem dX13_unwrapIt_20 : decode cX13_unwrapIt 20 = .ok (.istore 4, 2) := by decide +kernel
theorem dX13_unwrapIt_22 : decode cX13_unwrapIt 22 = .ok (.iconst 0, 1) := by decide +kernel
theorem dX13_unwrapIt_23 : decode cX13_unwrapIt 23 = .ok (.istore 5, 2) := by decide +kernel
theorem dX13_unwrapIt_25 : decode cX13_unwrapIt 25 = .ok (.iload 5, 2) := by decide +kernel
theorem dX13_unwrapIt_27 : decode cX13_unwrapIt 27 = .ok (.bipush 6, 2) := by decide +kernel
theorem dX13_unwrapIt_29 : decode cX13_unwrapIt 29 = .ok (.if_icmp .ge 126, 3) := by decide +kernel
theorem dX13_unwrapIt_32 : decode cX13_unwrapIt 32 = .ok (.iload_n 3, 1) := by decide +kernel
theorem dX13_unwrapIt_33 : decode cX13_unwrapIt 33 = .ok (.bipush 8, 2) := by decide +kernel
theorem dX13_unwrapIt_35 : decode cX13_unwrapIt 35 = .ok (.isub, 1) := by decide +kernel
theorem dX13_unwrapIt_36 : decode cX13_unwrapIt 36 = .ok (.istore 6, 2) := by decide +kernel
theorem dX13_unwrapIt_38 : decode cX13_unwrapIt 38 = .ok (.iload 6, 2) := by decide +kernel
theorem dX13_unwrapIt_40 : decode cX13_unwrapIt 40 = .ok (.bipush 8, 2) := by decide +kernel
theorem dX13_unwrapIt_42 : decode cX13_unwrapIt 42 = .ok (.if_icmp .lt 107, 3) := by decide +kernel
theorem dX13_unwrapIt_45 : decode cX13_unwrapIt 45 = .ok (.aload_n 0, 1) := by decide +kernel
theorem dX13_unwrapIt_46 : decode cX13_unwrapIt 46 = .ok (.getfield 104, 3) := by decide +kernel
theorem dX13_unwrapIt_49 : decode cX13_unwrapIt 49 = .ok (.iconst 0, 1) := by decide +kernel
theorem dX13_unwrapIt_50 : decode cX13_unwrapIt 50 = .ok (.bipush 8, 2) := by decide +kernel
theorem dX13_unwrapIt_52 : decode cX13_unwrapIt 52 = .ok (.aload_n 0, 1) := by decide +kernel
theorem dX13_unwrapIt_53 : decode cX13_unwrapIt 53 = .ok (.getfield 107, 3) := by decide +kernel
theorem dX13_unwrapIt_56 : decode cX13_unwrapIt 56 = .ok (.iconst 0, 1) := by decide +kernel
theorem dX13_unwrapIt_57 : decode cX13_unwrapIt 57 = .ok (.bipush 8, 2) := by decide +kernel
theorem dX13_unwrapIt_59 : decode cX13_unwrapIt 59 = .ok (.invokestatic 528, 3) := by decide +kernel
theorem dX13_unwrapIt_62 : decode cX13_unwrapIt 62 = .ok (.iload 4, 2) := by decide +kernel
theorem dX13_unwrapIt_64 : decode cX13_unwrapIt 64 = .ok (.i2l, 1) := by decide +kernel
theorem dX13_unwrapIt_65 : decode cX13_unwrapIt 65 = .ok (.lxor, 1) := by decide +kernel
theorem dX13_unwrapIt_66 : decode cX13_unwrapIt 66 = .ok (.invokestatic 328, 3) := by decide +kernel
theorem dX13_unwrapIt_69 : decode cX13_unwrapIt 69 = .ok (.aload_n 0, 1) := by decide +kernel
theorem dX13_unwrapIt_70 : decode cX13_unwrapIt 70 = .ok (.getfield 107, 3) := by decide +kernel
theorem dX13_unwrapIt_73 : decode cX13_unwrapIt 73 = .ok (.iload 6, 2) := by decide +kernel
theorem dX13_unwrapIt_75 : decode cX13_unwrapIt 75 = .ok (.aload_n 0, 1) := by decide +kernel
theorem dX13_unwrapIt_76 : decode cX13_unwrapIt 76 = .ok (.getfield 104, 3) := by decide +kernel
theorem dX13_unwrapIt_79 : decode cX13_unwrapIt 79 = .ok (.bipush 8, 2) := by decide +kernel
theorem dX13_unwrapIt_81 : decode cX13_unwrapIt 81 = .ok (.bipush 8, 2) := by decide +kernel
theorem dX13_unwrapIt_83 : decode cX13_unwrapIt 83 = .ok (.invokestatic 317, 3) := by decide +kernel
theorem dX13_unwrapIt_86 : decode cX13_unwrapIt 86 = .ok (.aload_n 0, 1) := by decide +kernel
theorem dX13_unwrapIt_87 : decode cX13_unwrapIt 87 = .ok (.aload_n 0, 1) := by decide +kernel
theorem dX13_unwrapIt_88 : decode cX13_unwrapIt 88 = .ok (.getfield 104, 3) := by decide +kernel
theorem dX13_unwrapIt_91 : decode cX13_unwrapIt 91 = .ok (.iconst 0, 1) := by decide +kernel
theorem dX13_unwrapIt_92 : decode cX13_unwrapIt 92 = .ok (.invokevirtual 604, 3) := by decide +kernel
theorem dX13_unwrapIt_95 : decode cX13_unwrapIt 95 = .ok (.aload_n 0, 1) := by decide +kernel
theorem dX13_unwrapIt_96 : decode cX13_unwrapIt 96 = .ok (.invokevirtual 608, 3) := by decide +kernel
theorem dX13_unwrapIt_99 : decode cX13_unwrapIt 99 = .ok (.aload_n 0, 1) := by decide +kernel
theorem dX13_unwrapIt_100 : decode cX13_unwrapIt 100 = .ok (.aload_n 0, 1) := by decide +kernel
theorem dX13_unwrapIt_101 : decode cX13_unwrapIt 101 = .ok (.getfield 104, 3) := by decide +kernel
theorem dX13_unwrapIt_104 : decode cX13_unwrapIt 104 = .ok (.iconst 0, 1) := by decide +kernel
theorem dX13_unwrapIt_105 : decode cX13_unwrapIt 105 = .ok (.invokevirtual 614, 3) := by decide +kernel
theorem dX13_unwrapIt_108 : decode cX13_unwrapIt 108 = .ok (.aload_n 0, 1) := by decide +kernel
theorem dX13_unwrapIt_109 : decode cX13_unwrapIt 109 = .ok (.getfield 104, 3) := by decide +kernel
theorem dX13_unwrapIt_112 : decode cX13_unwrapIt 112 = .ok (.iconst 0, 1) := by decide +kernel
theorem dX13_unwrapIt_113 : decode cX13_unwrapIt 113 = .ok (.aload_n 0, 1) := by decide +kernel
theorem dX13_unwrapIt_114 : decode cX13_unwrapIt 114 = .ok (.getfield 107, 3) := by decide +kernel
theorem dX13_unwrapIt_117 : decode cX13_unwrapIt 117 = .ok (.iconst 0, 1) := by decide +kernel
theorem dX13_unwrapIt_118 : decode cX13_unwrapIt 118 = .ok (.bipush 8, 2) := by decide +kernel
theorem dX13_unwrapIt_120 : decode cX13_unwrapIt 120 = .ok (.invokestatic 317, 3) := by decide +kernel
theorem dX13_unwrapIt_123 : decode cX13_unwrapIt 123 = .ok (.aload_n 0, 1) := by decide +kernel
theorem dX13_unwrapIt_124 : decode cX13_unwrapIt 124 = .ok (.getfield 104, 3) := by decide +kernel
theorem dX13_unwrapIt_127 : decode cX13_unwrapIt 127 = .ok (.bipush 8, 2) := by decide +kernel
theorem dX13_unwrapIt_129 : decode cX13_unwrapIt 129 = .ok (.aload_n 0, 1) := by decide +kernel
theorem dX13_unwrapIt_130 : decode cX13_unwrapIt 130 = .ok (.getfield 107, 3) := by decide +kernel
theorem dX13_unwrapIt_133 : decode cX13_unwrapIt 133 = .ok (.iload 6, 2) := by decide +kernel
theorem dX13_unwrapIt_135 : decode cX13_unwrapIt 135 = .ok (.bipush 8, 2) := by decide +kernel
theorem dX13_unwrapIt_137 : decode cX13_unwrapIt 137 = .ok (.invokestatic 317, 3) := by decide +kernel
theorem dX13_unwrapIt_140 : decode cX13_unwrapIt 140 = .ok (.iinc 4 (-1), 3) := by decide +kernel
theorem dX13_unwrapIt_143 : decode cX13_unwrapIt 143 = .ok (.iinc 6 (-8), 3) := by decide +kernel
theorem dX13_unwrapIt_146 : decode cX13_unwrapIt 146 = .ok (.goto (-108), 3) := by decide +kernel
theorem dX13_unwrapIt_149 : decode cX13_unwrapIt 149 = .ok (.iinc 5 1, 3) := by decide +kernel
theorem dX13_unwrapIt_152 : decode cX13_unwrapIt 152 = .ok (.goto (-127), 3) := by decide +kernel
theorem dX13_unwrapIt_155 : decode cX13_unwrapIt 155 = .ok (.aload_n 0, 1) := by decide +kernel
theorem dX13_unwrapIt_156 : decode cX13_unwrapIt 156 = .ok (.getfield 107, 3) := by decide +kernel
theorem dX13_unwrapIt_159 : decode cX13_unwrapIt 159 = .ok (.iconst 0, 1) := by decide +kernel
theorem dX13_unwrapIt_160 : decode cX13_unwrapIt 160 = .ok (.bipush 8, 2) := by decide +kernel
theorem dX13_unwrapIt_162 : decode cX13_unwrapIt 162 = .ok (.invokestatic 528, 3) := by decide +kernel
theorem dX13_unwrapIt_165 : decode cX13_unwrapIt 165 = .ok (.ldc2_w 617, 3) := by decide +kernel
theorem dX13_unwrapIt_168 : decode cX13_unwrapIt 168 = .ok (.lcmp, 1) := by decide +kernel
theorem dX13_unwrapIt_169 : decode cX13_unwrapIt 169 = .ok (.ifCond .ne 7, 3) := by decide +kernel
theorem dX13_unwrapIt_172 : decode cX13_unwrapIt 172 = .ok (.iconst 1, 1) := by decide +kernel
theorem dX13_unwrapIt_173 : decode cX13_unwrapIt 173 = .ok (.goto 4, 3) := by decide +kernel
theorem dX13_unwrapIt_176 : decode cX13_unwrapIt 176 = .ok (.iconst 0, 1) := by decide +kernel
theorem dX13_unwrapIt_177 : decode cX13_unwrapIt 177 = .ok (.ireturn, 1) := by decide +kernel
abbrev rmX13_unwrapIt : Room := { frames := 3, cells := 0, slots := 0, locals := 67 }
set_option maxHeartbeats 4000000 in
set_option maxRecDepth 100000 in
theorem wB_X13_unwrapIt_38 {G : mG} {F : Nat} {x : mXT} {sz : Nat} {r0 : Int32} {M0 : mM} (X : mCX G RX13 cX13_unwrapIt 7 (some .boolean) "unwrapIt" rmX13_unwrapIt x) (hQ : mQI x r0 M0 (sz, 0, 0)) (r25 : Nat → Int32 → Int32 → Int32 → mM → Option (Int32 × mM)) (hr25 : ∀ (l0 : Nat) (l3 : Int32) (l4 : Int32) (l5 : Int32) (M : mM), r25 l0 l3 l4 l5 M = some (r0, M0) → WW x (sz, 0, 0) M 25 [(0, .ref l0), (3, .int l3), (4, .int l4), (5, .int l5)] []) : ∀ (n : Nat) (l0 : Nat) (l3 : Int32) (l4 : Int32) (l5 : Int32) (l6 : Int32) (M : mM), B_X13_unwrapIt_38 G F r25 n l0 l3 l4 l5 l6 M = some (r0, M0) → WW x (sz, 0, 0) M 38 [(0, .ref l0), (3, .int l3), (4, .int l4), (5, .int l5), (6, .int l6)] [] := by
  intro n
  induction n with
  | zero =>
    intro l0 l3 l4 l5 l6 M h
    exact nomatch (show (none : Option (Int32 × mM)) = some (r0, M0) from h)
  | succ n ih =>
    intro l0 l3 l4 l5 l6 M h
    rw [B_X13_unwrapIt_38] at h
    refine ww_iload 38 X dX13_unwrapIt_38 4 rfl ?_
    refine ww_bipush 40 X (v := (8 : Int32)) dX13_unwrapIt_40 (by decide) ?_
    refine ww_icmp_lt 42 149 X dX13_unwrapIt_42 (by decide) (fun q => ?_) (fun q => ?_)
    · replace h := (if_pos q).symm.trans h
      refine ww_iinc 149 X dX13_unwrapIt_149 (lv' := [(0, .ref l0), (3, .int l3), (4, .int l4), (5, .int (l5 + 1)), (6, .int l6)]) 3 rfl rfl (by decide) [1, 2, 3, 0, 4] rfl ?_
      refine ww_goto 152 25 X dX13_unwrapIt_152 (by decide) ?_
      exact ww_sub [0, 1, 2, 3] rfl (hr25 _ _ _ _ _ h)
    · replace h := (if_neg q).symm.trans h
      refine ww_aload_n 45 X dX13_unwrapIt_45 0 rfl rfl ?_
      obtain ⟨v46, e46, h⟩ := bO_some h
      refine ww_getR 46 X dX13_unwrapIt_46 fG_X13_104 e46 ?_
      refine ww_iconst 49 X (v := (0 : Int32)) dX13_unwrapIt_49 (by decide) ?_
      refine ww_bipush 50 X (v := (8 : Int32)) dX13_unwrapIt_50 (by decide) ?_
      refine ww_aload_n 52 X dX13_unwrapIt_52 0 rfl rfl ?_
      obtain ⟨v53, e53, h⟩ := bO_some h
      refine ww_getR 53 X dX13_unwrapIt_53 fG_X13_107 e53 ?_
      refine ww_iconst 56 X (v := (0 : Int32)) dX13_unwrapIt_56 (by decide) ?_
      refine ww_bipush 57 X (v := (8 : Int32)) dX13_unwrapIt_57 (by decide) ?_
      obtain ⟨v59, M59, e59, h⟩ := bP_some h
      refine ww_callSL0 59 X dX13_unwrapIt_59 mY_X13_longAt mL_X13_528 (As := [.ref v53, .int (0 : Int32), .int (8 : Int32)]) (rest := [.int (8 : Int32), .int (0 : Int32), .ref v46]) rfl rfl ⟨Nat.le_of_ble_eq_true rfl, Nat.le_of_ble_eq_true rfl⟩ (Nat.le_of_ble_eq_true rfl) (fun l D A => c_X13_longAt l D A e59) ?_
      refine ww_iload 62 X dX13_unwrapIt_62 2 rfl ?_
      refine ww_i2l 64 X dX13_unwrapIt_64 ?_
      refine ww_lxor 65 X dX13_unwrapIt_65 ?_
      obtain ⟨M66, e66, h⟩ := bO_some h
      refine ww_callSV0 66 X dX13_unwrapIt_66 mY_X13_put mL_X13_328 (As := [.ref v46, .int (0 : Int32), .int (8 : Int32), .long (v59 ^^^ (l4.toInt64))]) (rest := []) rfl rfl ⟨Nat.le_of_ble_eq_true rfl, Nat.le_of_ble_eq_true rfl⟩ (Nat.le_of_ble_eq_true rfl) (fun l D A => c_X13_put l D A e66) ?_
      refine ww_aload_n 69 X dX13_unwrapIt_69 0 rfl rfl ?_
      obtain ⟨v70, e70, h⟩ := bO_some h
      refine ww_getR 70 X dX13_unwrapIt_70 fG_X13_107 e70 ?_
      refine ww_iload 73 X dX13_unwrapIt_73 4 rfl ?_
      refine ww_aload_n 75 X dX13_unwrapIt_75 0 rfl rfl ?_
      obtain ⟨v76, e76, h⟩ := bO_some h
      refine ww_getR 76 X dX13_unwrapIt_76 fG_X13_104 e76 ?_
      refine ww_bipush 79 X (v := (8 : Int32)) dX13_unwrapIt_79 (by decide) ?_
      refine ww_bipush 81 X (v := (8 : Int32)) dX13_unwrapIt_81 (by decide) ?_
      obtain ⟨M83, e83, h⟩ := bO_some h
      refine ww_callSV0 83 X dX13_unwrapIt_83 mY_X13_move mL_X13_317 (As := [.ref v70, .int l6, .ref v76, .int (8 : Int32), .int (8 : Int32)]) (rest := []) rfl rfl ⟨Nat.le_of_ble_eq_true rfl, Nat.le_of_ble_eq_true rfl⟩ (Nat.le_of_ble_eq_true rfl) (fun l D A => c_X13_move l D A e83) ?_
      refine ww_aload_n 86 X dX13_unwrapIt_86 0 rfl rfl ?_
      refine ww_aload_n 87 X dX13_unwrapIt_87 0 rfl rfl ?_
      obtain ⟨v88, e88, h⟩ := bO_some h
      refine ww_getR 88 X dX13_unwrapIt_88 fG_X13_104 e88 ?_
      refine ww_iconst 91 X (v := (0 : Int32)) dX13_unwrapIt_91 (by decide) ?_
      obtain ⟨_, f92, h⟩ := bO_some h
      obtain ⟨M92, e92, h⟩ := bO_some h
      refine ww_callVV0 92 X dX13_unwrapIt_92 mY_X13_setCells mL_X13_604 (rcv_spec f92) ⟨_, _, rfl⟩ (by decide) (As := [.ref v88, .int (0 : Int32)]) (rest := []) rfl rfl ⟨Nat.le_of_ble_eq_true rfl, Nat.le_of_ble_eq_true rfl⟩ (Nat.le_of_ble_eq_true rfl) (fun l D A => c_X13_setCells l D A e92) ?_
      refine ww_aload_n 95 X dX13_unwrapIt_95 0 rfl rfl ?_
      obtain ⟨_, f96, h⟩ := bO_some h
      obtain ⟨M96, e96, h⟩ := bO_some h
      refine ww_callVV0 96 X dX13_unwrapIt_96 mY_X13_back mL_X13_608 (rcv_spec f96) ⟨_, _, rfl⟩ (by decide) (As := []) (rest := []) rfl rfl ⟨Nat.le_of_ble_eq_true rfl, Nat.le_of_ble_eq_true rfl⟩ (Nat.le_of_ble_eq_true rfl) (fun l D A => c_X13_back l D A e96) ?_
      refine ww_aload_n 99 X dX13_unwrapIt_99 0 rfl rfl ?_
      refine ww_aload_n 100 X dX13_unwrapIt_100 0 rfl rfl ?_
      obtain ⟨v101, e101, h⟩ := bO_some h
      refine ww_getR 101 X dX13_unwrapIt_101 fG_X13_104 e101 ?_
      refine ww_iconst 104 X (v := (0 : Int32)) dX13_unwrapIt_104 (by decide) ?_
      obtain ⟨_, f105, h⟩ := bO_some h
      obtain ⟨M105, e105, h⟩ := bO_some h
      refine ww_callVV0 105 X dX13_unwrapIt_105 mY_X13_getCells mL_X13_614 (rcv_spec f105) ⟨_, _, rfl⟩ (by decide) (As := [.ref v101, .int (0 : Int32)]) (rest := []) rfl rfl ⟨Nat.le_of_ble_eq_true rfl, Nat.le_of_ble_eq_true rfl⟩ (Nat.le_of_ble_eq_true rfl) (fun l D A => c_X13_getCells l D A e105) ?_
      refine ww_aload_n 108 X dX13_unwrapIt_108 0 rfl rfl ?_
      obtain ⟨v109, e109, h⟩ := bO_some h
      refine ww_getR 109 X dX13_unwrapIt_109 fG_X13_104 e109 ?_
      refine ww_iconst 112 X (v := (0 : Int32)) dX13_unwrapIt_112 (by decide) ?_
      refine ww_aload_n 113 X dX13_unwrapIt_113 0 rfl rfl ?_
      obtain ⟨v114, e114, h⟩ := bO_some h
      refine ww_getR 114 X dX13_unwrapIt_114 fG_X13_107 e114 ?_
      refine ww_iconst 117 X (v := (0 : Int32)) dX13_unwrapIt_117 (by decide) ?_
      refine ww_bipush 118 X (v := (8 : Int32)) dX13_unwrapIt_118 (by decide) ?_
      obtain ⟨M120, e120, h⟩ := bO_some h
      refine ww_callSV0 120 X dX13_unwrapIt_120 mY_X13_move mL_X13_317 (As := [.ref v109, .int (0 : Int32), .ref v114, .int (0 : Int32), .int (8 : Int32)]) (rest := []) rfl rfl ⟨Nat.le_of_ble_eq_true rfl, Nat.le_of_ble_eq_true rfl⟩ (Nat.le_of_ble_eq_true rfl) (fun l D A => c_X13_move l D A e120) ?_
      refine ww_aload_n 123 X dX13_unwrapIt_123 0 rfl rfl ?_
      obtain ⟨v124, e124, h⟩ := bO_some h
      refine ww_getR 124 X dX13_unwrapIt_124 fG_X13_104 e124 ?_
      refine ww_bipush 127 X (v := (8 : Int32)) dX13_unwrapIt_127 (by decide) ?_
      refine ww_aload_n 129 X dX13_unwrapIt_129 0 rfl rfl ?_
      obtain ⟨v130, e130, h⟩ := bO_some h
      refine ww_getR 130 X dX13_unwrapIt_130 fG_X13_107 e130 ?_
      refine ww_iload 133 X dX13_unwrapIt_133 4 rfl ?_
      refine ww_bipush 135 X (v := (8 : Int32)) dX13_unwrapIt_135 (by decide) ?_
      obtain ⟨M137, e137, h⟩ := bO_some h
      refine ww_callSV0 137 X dX13_unwrapIt_137 mY_X13_move mL_X13_317 (As := [.ref v124, .int (8 : Int32), .ref v130, .int l6, .int (8 : Int32)]) (rest := []) rfl rfl ⟨Nat.le_of_ble_eq_true rfl, Nat.le_of_ble_eq_true rfl⟩ (Nat.le_of_ble_eq_true rfl) (fun l D A => c_X13_move l D A e137) ?_
      refine ww_iinc 140 X dX13_unwrapIt_140 (lv' := [(0, .ref l0), (3, .int l3), (4, .int (l4 + (-1))), (5, .int l5), (6, .int l6)]) 2 rfl rfl (by decide) [1, 2, 0, 3, 4] rfl ?_
      refine ww_iinc 143 X dX13_unwrapIt_143 (lv' := [(0, .ref l0), (3, .int l3), (4, .int (l4 + (-1))), (5, .int l5), (6, .int (l6 + (-8)))]) 4 rfl rfl (by decide) [1, 2, 3, 4, 0] rfl ?_
      refine ww_goto 146 38 X dX13_unwrapIt_146 (by decide) ?_
      exact (ih _ _ _ _ _ _ h)
set_option maxHeartbeats 4000000 in
set_option maxRecDepth 100000 in
theorem wB_X13_unwrapIt_25 {G : mG} {F : Nat} {x : mXT} {sz : Nat} {r0 : Int32} {M0 : mM} (X : mCX G RX13 cX13_unwrapIt 7 (some .boolean) "unwrapIt" rmX13_unwrapIt x) (hQ : mQI x r0 M0 (sz, 0, 0)) : ∀ (n : Nat) (l0 : Nat) (l3 : Int32) (l4 : Int32) (l5 : Int32) (M : mM), B_X13_unwrapIt_25 G F n l0 l3 l4 l5 M = some (r0, M0) → WW x (sz, 0, 0) M 25 [(0, .ref l0), (3, .int l3), (4, .int l4), (5, .int l5)] [] := by
  intro n
  induction n with
  | zero =>
    intro l0 l3 l4 l5 M h
    exact nomatch (show (none : Option (Int32 × mM)) = some (r0, M0) from h)
  | succ n ih =>
    intro l0 l3 l4 l5 M h
    rw [B_X13_unwrapIt_25] at h
    refine ww_iload 25 X dX13_unwrapIt_25 3 rfl ?_
    refine ww_bipush 27 X (v := (6 : Int32)) dX13_unwrapIt_27 (by decide) ?_
    refine ww_icmp_ge 29 155 X dX13_unwrapIt_29 (by decide) (fun q => ?_) (fun q => ?_)
    · replace h := (if_pos q).symm.trans h
      refine ww_aload_n 155 X dX13_unwrapIt_155 0 rfl rfl ?_
      obtain ⟨v156, e156, h⟩ := bO_some h
      refine ww_getR 156 X dX13_unwrapIt_156 fG_X13_107 e156 ?_
      refine ww_iconst 159 X (v := (0 : Int32)) dX13_unwrapIt_159 (by decide) ?_
      refine ww_bipush 160 X (v := (8 : Int32)) dX13_unwrapIt_160 (by decide) ?_
      obtain ⟨v162, M162, e162, h⟩ := bP_some h
      refine ww_callSL0 162 X dX13_unwrapIt_162 mY_X13_longAt mL_X13_528 (As := [.ref v156, .int (0 : Int32), .int (8 : Int32)]) (rest := []) rfl rfl ⟨Nat.le_of_ble_eq_true rfl, Nat.le_of_ble_eq_true rfl⟩ (Nat.le_of_ble_eq_true rfl) (fun l D A => c_X13_longAt l D A e162) ?_
      refine ww_ldc2 165 X (v := (-6438275382588823898 : Int64)) dX13_unwrapIt_165 kL_X13_617 ?_
      refine ww_lcmp 168 X dX13_unwrapIt_168 ?_
      refine ww_if_ne 169 176 X dX13_unwrapIt_169 (by decide) (fun q => ?_) (fun q => ?_)
      · replace h := (if_neg q).symm.trans h
        refine ww_iconst 176 X (v := (0 : Int32)) dX13_unwrapIt_176 (by decide) ?_
        exact ww_zretE 177 X hQ dX13_unwrapIt_177 h
      · replace h := (if_pos q).symm.trans h
        refine ww_iconst 172 X (v := (1 : Int32)) dX13_unwrapIt_172 (by decide) ?_
        refine ww_goto 173 177 X dX13_unwrapIt_173 (by decide) ?_
        exact ww_zretE 177 X hQ dX13_unwrapIt_177 h
    · replace h := (if_neg q).symm.trans h
      refine ww_iload_n 32 X dX13_unwrapIt_32 1 rfl rfl ?_
      refine ww_bipush 33 X (v := (8 : Int32)) dX13_unwrapIt_33 (by decide) ?_
      refine ww_isub 35 X dX13_unwrapIt_35 ?_
      refine ww_istore 36 X dX13_unwrapIt_36 (lv' := [(0, .ref l0), (3, .int l3), (4, .int l4), (5, .int l5), (6, .int (l3 - (8 : Int32)))]) (by decide) [1, 2, 3, 4, 0] rfl ?_
      exact (wB_X13_unwrapIt_38 X hQ _ ih F _ _ _ _ _ _ h)
set_option maxHeartbeats 4000000 in
set_option maxRecDepth 100000 in
theorem wP_X13_unwrapIt {G : mG} {F : Nat} {x : mXT} {sz : Nat} {r0 : Int32} {M0 : mM} (X : mCX G RX13 cX13_unwrapIt 7 (some .boolean) "unwrapIt" rmX13_unwrapIt x) (hQ : mQI x r0 M0 (sz, 0, 0)) {l0 : Nat} {l1 : Nat} {l2 : Int32} {l3 : Int32} {M : mM} (h : P_X13_unwrapIt G F l0 l1 l2 l3 M = some (r0, M0)) : WW x (sz, 0, 0) M 0 [(0, .ref l0), (1, .ref l1), (2, .int l2), (3, .int l3)] [] := by
  unfold P_X13_unwrapIt at h
  refine ww_aload_n 0 X dX13_unwrapIt_0 1 rfl rfl ?_
  refine ww_iload_n 1 X dX13_unwrapIt_1 2 rfl rfl ?_
  refine ww_aload_n 2 X dX13_unwrapIt_2 0 rfl rfl ?_
  obtain ⟨v3, e3, h⟩ := bO_some h
  refine ww_getR 3 X dX13_unwrapIt_3 fG_X13_107 e3 ?_
  refine ww_iconst 6 X (v := (0 : Int32)) dX13_unwrapIt_6 (by decide) ?_
  refine ww_iload_n 7 X dX13_unwrapIt_7 3 rfl rfl ?_
  obtain ⟨M8, e8, h⟩ := bO_some h
  refine ww_callSV0 8 X dX13_unwrapIt_8 mY_X13_move mL_X13_317 (As := [.ref l1, .int l2, .ref v3, .int (0 : Int32), .int l3]) (rest := []) rfl rfl ⟨Nat.le_of_ble_eq_true rfl, Nat.le_of_ble_eq_true rfl⟩ (Nat.le_of_ble_eq_true rfl) (fun l D A => c_X13_move l D A e8) ?_
  refine ww_bipush 11 X (v := (6 : Int32)) dX13_unwrapIt_11 (by decide) ?_
  refine ww_iload_n 13 X dX13_unwrapIt_13 3 rfl rfl ?_
  refine ww_bipush 14 X (v := (8 : Int32)) dX13_unwrapIt_14 (by decide) ?_
  refine ww_idiv 16 X (v := (l3 / (8 : Int32))) dX13_unwrapIt_16 rfl ?_
  refine ww_iconst 17 X (v := (1 : Int32)) dX13_unwrapIt_17 (by decide) ?_
  refine ww_isub 18 X dX13_unwrapIt_18 ?_
  refine ww_imul 19 X dX13_unwrapIt_19 ?_
  refine ww_istore 20 X dX13_unwrapIt_20 (lv' := [(0, .ref l0), (1, .ref l1), (2, .int l2), (3, .int l3), (4, .int ((6 : Int32) * ((l3 / (8 : Int32)) - (1 : Int32))))]) (by decide) [1, 2, 3, 4, 0] rfl ?_
  refine ww_iconst 22 X (v := (0 : Int32)) dX13_unwrapIt_22 (by decide) ?_
  refine ww_istore 23 X dX13_unwrapIt_23 (lv' := [(0, .ref l0), (1, .ref l1), (2, .int l2), (3, .int l3), (4, .int ((6 : Int32) * ((l3 / (8 : Int32)) - (1 : Int32)))), (5, .int (0 : Int32))]) (by decide) [1, 2, 3, 4, 5, 0] rfl ?_
  exact ww_sub [0, 3, 4, 5] rfl (wB_X13_unwrapIt_25 X hQ F _ _ _ _ _ h)
theorem c_X13_unwrapIt {G : mG} {F sz : Nat} {r0 : Int32} {M0 : mM} (l : Launch) (D : mD) (A : Nat → Prop) {l0 : Nat} {l1 : Nat} {l2 : Int32} {l3 : Int32} {M : mM} (h : P_X13_unwrapIt G F l0 l1 l2 l3 M = some (r0, M0)) : mMetI l D G A yX13_unwrapIt cX13_unwrapIt 7 (some .boolean) 3 67 0 0 [.ref l0, .ref l1, .int l2, .int l3] M sz r0 M0 sz := mMetI_of l D G A (by decide) (Nat.le_of_ble_eq_true rfl) (fun x X hQ => wP_X13_unwrapIt X hQ h)
/-! SealedTokensModel.isCipherKey(I)Z -/
theorem dX13_isCipherKey_0 : decode cX13_isCipherKey 0 = .ok (.iload_n 1, 1) := by decide +kernel
theorem dX13_isCipherKey_1 : decode cX13_isCipherKey 1 = .ok (.invokestatic 332, 3) := by decide +kernel
theorem dX13_isCipherKey_4 : decode cX13_isCipherKey 4 = .ok (.ifCond .eq 29, 3) := by decide +kernel
theorem dX13_isCipherKey_7 : decode cX13_isCipherKey 7 = .ok (.aload_n 0, 1) := by decide +kernel
theorem dX13_isCipherKey_8 : decode cX13_isCipherKey 8 = .ok (.getfield 17, 3) := by decide +kernel
theorem dX13_isCipherKey_11 : decode cX13_isCipherKey 11 = .ok (.iload_n 1, 1) := by decide +kernel
theorem dX13_isCipherKey_12 : decode cX13_isCipherKey 12 = .ok (.iaload, 1) := by decide +kernel
theorem dX13_isCipherKey_13 : decode cX13_isCipherKey 13 = .ok (.bipush 16, 2) := by decide +kernel
theorem dX13_isCipherKey_15 : decode cX13_isCipherKey 15 = .ok (.if_icmp .eq 14, 3) := by decide +kernel
theorem dX13_isCipherKey_18 : decode cX13_isCipherKey 18 = .ok (.aload_n 0, 1) := by decide +kernel
theorem dX13_isCipherKey_19 : decode cX13_isCipherKey 19 = .ok (.getfield 17, 3) := by decide +kernel
theorem dX13_isCipherKey_22 : decode cX13_isCipherKey 22 = .ok (.iload_n 1, 1) := by decide +kernel
theorem dX13_isCipherKey_23 : decode cX13_isCipherKey 23 = .ok (.iaload, 1) := by decide +kernel
theorem dX13_isCipherKey_24 : decode cX13_isCipherKey 24 = .ok (.bipush 32, 2) := by decide +kernel
theorem dX13_isCipherKey_26 : decode cX13_isCipherKey 26 = .ok (.if_icmp .ne 7, 3) := by decide +kernel
theorem dX13_isCipherKey_29 : decode cX13_isCipherKey 29 = .ok (.iconst 1, 1) := by decide +kernel
theorem dX13_isCipherKey_30 : decode cX13_isCipherKey 30 = .ok (.goto 4, 3) := by decide +kernel
theorem dX13_isCipherKey_33 : decode cX13_isCipherKey 33 = .ok (.iconst 0, 1) := by decide +kernel
theorem dX13_isCipherKey_34 : decode cX13_isCipherKey 34 = .ok (.ireturn, 1) := by decide +kernel
abbrev rmX13_isCipherKey : Room := { frames := 1, cells := 0, slots := 0, locals := 20 }
set_option maxHeartbeats 4000000 in
set_option maxRecDepth 100000 in
theorem wP_X13_isCipherKey {G : mG} {F : Nat} {x : mXT} {sz : Nat} {r0 : Int32} {M0 : mM} (X : mCX G RX13 cX13_isCipherKey 2 (some .boolean) "isCipherKey" rmX13_isCipherKey x) (hQ : mQI x r0 M0 (sz, 0, 0)) {l0 : Nat} {l1 : Int32} {M : mM} (h : P_X13_isCipherKey G F l0 l1 M = some (r0, M0)) : WW x (sz, 0, 0) M 0 [(0, .ref l0), (1, .int l1)] [] := by
  unfold P_X13_isCipherKey at h
  refine ww_iload_n 0 X dX13_isCipherKey_0 1 rfl rfl ?_
  obtain ⟨v1, M1, e1, h⟩ := bP_some h
  refine ww_callSI0 1 X dX13_isCipherKey_1 mY_X13_isRow mL_X13_332 (As := [.int l1]) (rest := []) rfl rfl ⟨Nat.le_of_ble_eq_true rfl, Nat.le_of_ble_eq_true rfl⟩ (Nat.le_of_ble_eq_true rfl) (fun l D A => c_X13_isRow l D A e1) ?_
  refine ww_if_eq 4 33 X dX13_isCipherKey_4 (by decide) (fun q => ?_) (fun q => ?_)
  · replace h := (if_pos q).symm.trans h
    refine ww_iconst 33 X (v := (0 : Int32)) dX13_isCipherKey_33 (by decide) ?_
    exact ww_zretE 34 X hQ dX13_isCipherKey_34 h
  · replace h := (if_neg q).symm.trans h
    refine ww_aload_n 7 X dX13_isCipherKey_7 0 rfl rfl ?_
    obtain ⟨v8, e8, h⟩ := bO_some h
    refine ww_getR 8 X dX13_isCipherKey_8 fG_X13_17 e8 ?_
    refine ww_iload_n 11 X dX13_isCipherKey_11 1 rfl rfl ?_
    obtain ⟨v12, e12, h⟩ := bO_some h
    refine ww_iald 12 X dX13_isCipherKey_12 e12 ?_
    refine ww_bipush 13 X (v := (16 : Int32)) dX13_isCipherKey_13 (by decide) ?_
    refine ww_icmp_eq 15 29 X dX13_isCipherKey_15 (by decide) (fun q => ?_) (fun q => ?_)
    · replace h := (if_pos q).symm.trans h
      refine ww_iconst 29 X (v := (1 : Int32)) dX13_isCipherKey_29 (by decide) ?_
      refine ww_goto 30 34 X dX13_isCipherKey_30 (by decide) ?_
      exact ww_zretE 34 X hQ dX13_isCipherKey_34 h
    · replace h := (if_neg q).symm.trans h
      refine ww_aload_n 18 X dX13_isCipherKey_18 0 rfl rfl ?_
      obtain ⟨v19, e19, h⟩ := bO_some h
      refine ww_getR 19 X dX13_isCipherKey_19 fG_X13_17 e19 ?_
      refine ww_iload_n 22 X dX13_isCipherKey_22 1 rfl rfl ?_
      obtain ⟨v23, e23, h⟩ := bO_some h
      refine ww_iald 23 X dX13_isCipherKey_23 e23 ?_
      refine ww_bipush 24 X (v := (32 : Int32)) dX13_isCipherKey_24 (by decide) ?_
      refine ww_icmp_ne 26 33 X dX13_isCipherKey_26 (by decide) (fun q => ?_) (fun q => ?_)
      · replace h := (if_neg q).symm.trans h
        refine ww_iconst 33 X (v := (0 : Int32)) dX13_isCipherKey_33 (by decide) ?_
        exact ww_zretE 34 X hQ dX13_isCipherKey_34 h
      · replace h := (if_pos q).symm.trans h
        refine ww_iconst 29 X (v := (1 : Int32)) dX13_isCipherKey_29 (by decide) ?_
        refine ww_goto 30 34 X dX13_isCipherKey_30 (by decide) ?_
        exact ww_zretE 34 X hQ dX13_isCipherKey_34 h
theorem c_X13_isCipherKey {G : mG} {F sz : Nat} {r0 : Int32} {M0 : mM} (l : Launch) (D : mD) (A : Nat → Prop) {l0 : Nat} {l1 : Int32} {M : mM} (h : P_X13_isCipherKey G F l0 l1 M = some (r0, M0)) : mMetI l D G A yX13_isCipherKey cX13_isCipherKey 2 (some .boolean) 1 20 0 0 [.ref l0, .int l1] M sz r0 M0 sz := mMetI_of l D G A (by decide) (Nat.le_of_ble_eq_true rfl) (fun x X hQ => wP_X13_isCipherKey X hQ h)
/-! SealedTokensModel.wrap(II)I -/
theorem dX13_wrap_0 : decode cX13_wrap 0 = .ok (.aload_n 0, 1) := by decide +kernel
theorem dX13_wrap_1 : decode cX13_wrap 1 = .ok (.iload_n 1, 1) := by decide +kernel
theorem dX13_wrap_2 : decode cX13_wrap 2 = .ok (.invokevirtual 619, 3) := by decide +kernel
theorem dX13_wrap_5 : decode cX13_wrap 5 = .ok (.ifCond .eq 44, 3) := by decide +kernel
theorem dX13_wrap_8 : decode cX13_wrap 8 = .ok (.iload_n 2, 1) := by decide +kernel
theorem dX13_wrap_9 : decode cX13_wrap 9 = .ok (.invokestatic 332, 3) := by decide +kernel
theorem dX13_wrap_12 : decode cX13_wrap 12 = .ok (.ifCond .eq 37, 3) := by decide +kernel
theorem dX13_wrap_15 : decode cX13_wrap 15 = .ok (.aload_n 0, 1) := by decide +kernel
theorem dX13_wrap_16 : decode cX13_wrap 16 = .ok (.getfield 17, 3) := by decide +kernel
theorem dX13_wrap_19 : decode cX13_wrap 19 = .ok (.iload_n 2, 1) := by decide +kernel
theorem dX13_wrap_20 : decode cX13_wrap 20 = .ok (.iaload, 1) := by decide +kernel
theorem dX13_wrap_21 : decode cX13_wrap 21 = .ok (.bipush 16, 2) := by decide +kernel
theorem dX13_wrap_23 : decode cX13_wrap 23 = .ok (.if_icmp .lt 26, 3) := by decide +kernel
theorem dX13_wrap_26 : decode cX13_wrap 26 = .ok (.aload_n 0, 1) := by decide +kernel
theorem dX13_wrap_27 : decode cX13_wrap 27 = .ok (.getfield 17, 3) := by decide +kernel
theorem dX13_wrap_30 : decode cX13_wrap 30 = .ok (.iload_n 2, 1) := by decide +kernel
theorem dX13_wrap_31 : decode cX13_wrap 31 = .ok (.iaload, 1) := by decide +kernel
theorem dX13_wrap_32 : decode cX13_wrap 32 = .ok (.bipush 64, 2) := by decide +kernel
theorem dX13_wrap_34 : decode cX13_wrap 34 = .ok (.if_icmp .gt 15, 3) := by decide +kernel
theorem dX13_wrap_37 : decode cX13_wrap 37 = .ok (.aload_n 0, 1) := by decide +kernel
theorem dX13_wrap_38 : decode cX13_wrap 38 = .ok (.getfield 17, 3) := by decide +kernel
theorem dX13_wrap_41 : decode cX13_wrap 41 = .ok (.iload_n 2, 1) := by decide +kernel
theorem dX13_wrap_42 : decode cX13_wrap 42 = .ok (.iaload, 1) := by decide +kernel
theorem dX13_wrap_43 : decode cX13_wrap 43 = .ok (.bipush 8, 2) := by decide +kernel
theorem dX13_wrap_45 : decode cX13_wrap 45 = .ok (.irem, 1) := by decide +kernel
theorem dX13_wrap_46 : decode cX13_wrap 46 = .ok (.ifCond .eq 6, 3) := by decide +kernel
theorem dX13_wrap_49 : decode cX13_wrap 49 = .ok (.bipush (-2), 2) := by decide +kernel
theorem dX13_wrap_51 : decode cX13_wrap 51 = .ok (.ireturn, 1) := by decide +kernel
theorem dX13_wrap_52 : decode cX13_wrap 52 = .ok (.aload_n 0, 1) := by decide +kernel
theorem dX13_wrap_53 : decode cX13_wrap 53 = .ok (.aload_n 0, 1) := by decide +kernel
theorem dX13_wrap_54 : decode cX13_wrap 54 = .ok (.getfield 14, 3) := by decide +kernel
theorem dX13_wrap_57 : decode cX13_wrap 57 = .ok (.sipush 8192, 3) := by decide +kernel
theorem dX13_wrap_60 : decode cX13_wrap 60 = .ok (.iload_n 1, 1) := by decide +kernel
theorem dX13_wrap_61 : decode cX13_wrap 61 = .ok (.imul, 1) := by decide +kernel
theorem dX13_wrap_62 : decode cX13_wrap 62 = .ok (.aload_n 0, 1) := by decide +kernel
theorem dX13_wrap_63 : decode cX13_wrap 63 = .ok (.getfield 17, 3) := by decide +kernel
theorem dX13_wrap_66 : decode cX13_wrap 66 = .ok (.iload_n 1, 1) := by decide +kernel
theorem dX13_wrap_67 : decode cX13_wrap 67 = .ok (.iaload, 1) := by decide +kernel
theorem dX13_wrap_68 : decode cX13_wrap 68 = .ok (.invokevirtual 601, 3) := by decide +kernel
theorem dX13_wrap_71 : decode cX13_wrap 71 = .ok (.aload_n 0, 1) := by decide +kernel
theorem dX13_wrap_72 : decode cX13_wrap 72 = .ok (.aload_n 0, 1) := by decide +kernel
theorem dX13_wrap_73 : decode cX13_wrap 73 = .ok (.getfield 107, 3) := by decide +kernel
theorem dX13_wrap_76 : decode cX13_wrap 76 = .ok (.iconst 0, 1) := by decide +kernel
theorem dX13_wrap_77 : decode cX13_wrap 77 = .ok (.aload_n 0, 1) := by decide +kernel
theorem dX13_wrap_78 : decode cX13_wrap 78 = .ok (.aload_n 0, 1) := by decide +kernel
theorem dX13_wrap_79 : decode cX13_wrap 79 = .ok (.getfield 14, 3) := by decide +kernel
theorem dX13_wrap_82 : decode cX13_wrap 82 = .ok (.sipush 8192, 3) := by decide +kernel
theorem dX13_wrap_85 : decode cX13_wrap 85 = .ok (.iload_n 2, 1) := by decide +kernel
theorem dX13_wrap_86 : decode cX13_wrap 86 = .ok (.imul, 1) := by decide +kernel
theorem dX13_wrap_87 : decode cX13_wrap 87 = .ok (.aload_n 0, 1) := by decide +kernel
theorem dX13_wrap_88 : decode cX13_wrap 88 = .ok (.getfield 17, 3) := by decide +kernel
theorem dX13_wrap_91 : decode cX13_wrap 91 = .ok (.iload_n 2, 1) := by decide +kernel
theorem dX13_wrap_92 : decode cX13_wrap 92 = .ok (.iaload, 1) := by decide +kernel
theorem dX13_wrap_93 : decode cX13_wrap 93 = .ok (.invokevirtual 622, 3) := by decide +kernel
theorem dX13_wrap_96 : decode cX13_wrap 96 = .ok (.invokevirtual 463, 3) := by decide +kernel
theorem dX13_wrap_99 : decode cX13_wrap 99 = .ok (.ireturn, 1) := by decide +kernel
abbrev rmX13_wrap : Room := { frames := 3, cells := 0, slots := 0, locals := 74 }
set_option maxHeartbeats 4000000 in
set_option maxRecDepth 100000 in
theorem wP_X13_wrap {G : mG} {F : Nat} {x : mXT} {sz : Nat} {r0 : Int32} {M0 : mM} (X : mCX G RX13 cX13_wrap 3 (some .int) "wrap" rmX13_wrap x) (hQ : mQI x r0 M0 (sz, 0, 0)) {l0 : Nat} {l1 : Int32} {l2 : Int32} {M : mM} (h : P_X13_wrap G F l0 l1 l2 M = some (r0, M0)) : WW x (sz, 0, 0) M 0 [(0, .ref l0), (1, .int l1), (2, .int l2)] [] := by
  unfold P_X13_wrap at h
  refine ww_aload_n 0 X dX13_wrap_0 0 rfl rfl ?_
  refine ww_iload_n 1 X dX13_wrap_1 1 rfl rfl ?_
  obtain ⟨_, f2, h⟩ := bO_some h
  obtain ⟨v2, M2, e2, h⟩ := bP_some h
  refine ww_callVI0 2 X dX13_wrap_2 mY_X13_isCipherKey mL_X13_619 (rcv_spec f2) ⟨_, _, rfl⟩ (by decide) (As := [.int l1]) (rest := []) rfl rfl ⟨Nat.le_of_ble_eq_true rfl, Nat.le_of_ble_eq_true rfl⟩ (Nat.le_of_ble_eq_true rfl) (fun l D A => c_X13_isCipherKey l D A e2) ?_
  refine ww_if_eq 5 49 X dX13_wrap_5 (by decide) (fun q => ?_) (fun q => ?_)
  · replace h := (if_pos q).symm.trans h
    refine ww_bipush 49 X (v := (-2 : Int32)) dX13_wrap_49 (by decide) ?_
    exact ww_iretE 51 X hQ dX13_wrap_51 h
  · replace h := (if_neg q).symm.trans h
    refine ww_iload_n 8 X dX13_wrap_8 2 rfl rfl ?_
    obtain ⟨v9, M9, e9, h⟩ := bP_some h
    refine ww_callSI0 9 X dX13_wrap_9 mY_X13_isRow mL_X13_332 (As := [.int l2]) (rest := []) rfl rfl ⟨Nat.le_of_ble_eq_true rfl, Nat.le_of_ble_eq_true rfl⟩ (Nat.le_of_ble_eq_true rfl) (fun l D A => c_X13_isRow l D A e9) ?_
    refine ww_if_eq 12 49 X dX13_wrap_12 (by decide) (fun q => ?_) (fun q => ?_)
    · replace h := (if_pos q).symm.trans h
      refine ww_bipush 49 X (v := (-2 : Int32)) dX13_wrap_49 (by decide) ?_
      exact ww_iretE 51 X hQ dX13_wrap_51 h
    · replace h := (if_neg q).symm.trans h
      refine ww_aload_n 15 X dX13_wrap_15 0 rfl rfl ?_
      obtain ⟨v16, e16, h⟩ := bO_some h
      refine ww_getR 16 X dX13_wrap_16 fG_X13_17 e16 ?_
      refine ww_iload_n 19 X dX13_wrap_19 2 rfl rfl ?_
      obtain ⟨v20, e20, h⟩ := bO_some h
      refine ww_iald 20 X dX13_wrap_20 e20 ?_
      refine ww_bipush 21 X (v := (16 : Int32)) dX13_wrap_21 (by decide) ?_
      refine ww_icmp_lt 23 49 X dX13_wrap_23 (by decide) (fun q => ?_) (fun q => ?_)
      · replace h := (if_pos q).symm.trans h
        refine ww_bipush 49 X (v := (-2 : Int32)) dX13_wrap_49 (by decide) ?_
        exact ww_iretE 51 X hQ dX13_wrap_51 h
      · replace h := (if_neg q).symm.trans h
        refine ww_aload_n 26 X dX13_wrap_26 0 rfl rfl ?_
        obtain ⟨v27, e27, h⟩ := bO_some h
        refine ww_getR 27 X dX13_wrap_27 fG_X13_17 e27 ?_
        refine ww_iload_n 30 X dX13_wrap_30 2 rfl rfl ?_
        obtain ⟨v31, e31, h⟩ := bO_some h
        refine ww_iald 31 X dX13_wrap_31 e31 ?_
        refine ww_bipush 32 X (v := (64 : Int32)) dX13_wrap_32 (by decide) ?_
        refine ww_icmp_gt 34 49 X dX13_wrap_34 (by decide) (fun q => ?_) (fun q => ?_)
        · replace h := (if_pos q).symm.trans h
          refine ww_bipush 49 X (v := (-2 : Int32)) dX13_wrap_49 (by decide) ?_
          exact ww_iretE 51 X hQ dX13_wrap_51 h
        · replace h := (if_neg q).symm.trans h
          refine ww_aload_n 37 X dX13_wrap_37 0 rfl rfl ?_
          obtain ⟨v38, e38, h⟩ := bO_some h
          refine ww_getR 38 X dX13_wrap_38 fG_X13_17 e38 ?_
          refine ww_iload_n 41 X dX13_wrap_41 2 rfl rfl ?_
          obtain ⟨v42, e42, h⟩ := bO_some h
          refine ww_iald 42 X dX13_wrap_42 e42 ?_
          refine ww_bipush 43 X (v := (8 : Int32)) dX13_wrap_43 (by decide) ?_
          refine ww_irem 45 X (v := (v42 - v42 / (8 : Int32) * (8 : Int32))) dX13_wrap_45 rfl ?_
          refine ww_if_eq 46 52 X dX13_wrap_46 (by decide) (fun q => ?_) (fun q => ?_)
          · replace h := (if_pos q).symm.trans h
            refine ww_aload_n 52 X dX13_wrap_52 0 rfl rfl ?_
            refine ww_aload_n 53 X dX13_wrap_53 0 rfl rfl ?_
            obtain ⟨v54, e54, h⟩ := bO_some h
            refine ww_getR 54 X dX13_wrap_54 fG_X13_14 e54 ?_
            refine ww_sipush 57 X (v := (8192 : Int32)) dX13_wrap_57 (by decide) ?_
            refine ww_iload_n 60 X dX13_wrap_60 1 rfl rfl ?_
            refine ww_imul 61 X dX13_wrap_61 ?_
            refine ww_aload_n 62 X dX13_wrap_62 0 rfl rfl ?_
            obtain ⟨v63, e63, h⟩ := bO_some h
            refine ww_getR 63 X dX13_wrap_63 fG_X13_17 e63 ?_
            refine ww_iload_n 66 X dX13_wrap_66 1 rfl rfl ?_
            obtain ⟨v67, e67, h⟩ := bO_some h
            refine ww_iald 67 X dX13_wrap_67 e67 ?_
            obtain ⟨_, f68, h⟩ := bO_some h
            obtain ⟨M68, e68, h⟩ := bO_some h
            refine ww_callVV0 68 X dX13_wrap_68 mY_X13_setKey mL_X13_601 (rcv_spec f68) ⟨_, _, rfl⟩ (by decide) (As := [.ref v54, .int ((8192 : Int32) * l1), .int v67]) (rest := []) rfl rfl ⟨Nat.le_of_ble_eq_true rfl, Nat.le_of_ble_eq_true rfl⟩ (Nat.le_of_ble_eq_true rfl) (fun l D A => c_X13_setKey l D A e68) ?_
            refine ww_aload_n 71 X dX13_wrap_71 0 rfl rfl ?_
            refine ww_aload_n 72 X dX13_wrap_72 0 rfl rfl ?_
            obtain ⟨v73, e73, h⟩ := bO_some h
            refine ww_getR 73 X dX13_wrap_73 fG_X13_107 e73 ?_
            refine ww_iconst 76 X (v := (0 : Int32)) dX13_wrap_76 (by decide) ?_
            refine ww_aload_n 77 X dX13_wrap_77 0 rfl rfl ?_
            refine ww_aload_n 78 X dX13_wrap_78 0 rfl rfl ?_
            obtain ⟨v79, e79, h⟩ := bO_some h
            refine ww_getR 79 X dX13_wrap_79 fG_X13_14 e79 ?_
            refine ww_sipush 82 X (v := (8192 : Int32)) dX13_wrap_82 (by decide) ?_
            refine ww_iload_n 85 X dX13_wrap_85 2 rfl rfl ?_
            refine ww_imul 86 X dX13_wrap_86 ?_
            refine ww_aload_n 87 X dX13_wrap_87 0 rfl rfl ?_
            obtain ⟨v88, e88, h⟩ := bO_some h
            refine ww_getR 88 X dX13_wrap_88 fG_X13_17 e88 ?_
            refine ww_iload_n 91 X dX13_wrap_91 2 rfl rfl ?_
            obtain ⟨v92, e92, h⟩ := bO_some h
            refine ww_iald 92 X dX13_wrap_92 e92 ?_
            obtain ⟨_, f93, h⟩ := bO_some h
            obtain ⟨v93, M93, e93, h⟩ := bP_some h
            refine ww_callVI0 93 X dX13_wrap_93 mY_X13_wrapUp mL_X13_622 (rcv_spec f93) ⟨_, _, rfl⟩ (by decide) (As := [.ref v79, .int ((8192 : Int32) * l2), .int v92]) (rest := [.int (0 : Int32), .ref v73, .ref l0]) rfl rfl ⟨Nat.le_of_ble_eq_true rfl, Nat.le_of_ble_eq_true rfl⟩ (Nat.le_of_ble_eq_true rfl) (fun l D A => c_X13_wrapUp l D A e93) ?_
            obtain ⟨_, f96, h⟩ := bO_some h
            obtain ⟨v96, M96, e96, h⟩ := bP_some h
            refine ww_callVI0 96 X dX13_wrap_96 mY_X13_tell mL_X13_463 (rcv_spec f96) ⟨_, _, rfl⟩ (by decide) (As := [.ref v73, .int (0 : Int32), .int v93]) (rest := []) rfl rfl ⟨Nat.le_of_ble_eq_true rfl, Nat.le_of_ble_eq_true rfl⟩ (Nat.le_of_ble_eq_true rfl) (fun l D A => c_X13_tell l D A e96) ?_
            exact ww_iretE 99 X hQ dX13_wrap_99 h
          · replace h := (if_neg q).symm.trans h
            refine ww_bipush 49 X (v := (-2 : Int32)) dX13_wrap_49 (by decide) ?_
            exact ww_iretE 51 X hQ dX13_wrap_51 h
theorem c_X13_wrap {G : mG} {F sz : Nat} {r0 : Int32} {M0 : mM} (l : Launch) (D : mD) (A : Nat → Prop) {l0 : Nat} {l1 : Int32} {l2 : Int32} {M : mM} (h : P_X13_wrap G F l0 l1 l2 M = some (r0, M0)) : mMetI l D G A yX13_wrap cX13_wrap 3 (some .int) 3 74 0 0 [.ref l0, .int l1, .int l2] M sz r0 M0 sz := mMetI_of l D G A (by decide) (Nat.le_of_ble_eq_true rfl) (fun x X hQ => wP_X13_wrap X hQ h)
/-! SealedTokensModel.unwrap(II)I -/
theorem dX13_unwrap_0 : decode cX13_unwrap 0 = .ok (.aload_n 0, 1) := by decide +kernel
theorem dX13_unwrap_1 : decode cX13_unwrap 1 = .ok (.iload_n 1, 1) := by decide +kernel
theorem dX13_unwrap_2 : decode cX13_unwrap 2 = .ok (.invokevirtual 619, 3) := by decide +kernel
theorem dX13_unwrap_5 : decode cX13_unwrap 5 = .ok (.ifCond .eq 44, 3) := by decide +kernel
theorem dX13_unwrap_8 : decode cX13_unwrap 8 = .ok (.iload_n 2, 1) := by decide +kernel
theorem dX13_unwrap_9 : decode cX13_unwrap 9 = .ok (.invokestatic 332, 3) := by decide +kernel
theorem dX13_unwrap_12 : decode cX13_unwrap 12 = .ok (.ifCond .eq 37, 3) := by decide +kernel
theorem dX13_unwrap_15 : decode cX13_unwrap 15 = .ok (.aload_n 0, 1) := by decide +kernel
theorem dX13_unwrap_16 : decode cX13_unwrap 16 = .ok (.getfield 17, 3) := by decide +kernel
theorem dX13_unwrap_19 : decode cX13_unwrap 19 = .ok (.iload_n 2, 1) := by decide +kernel
theorem dX13_unwrap_20 : decode cX13_unwrap 20 = .ok (.iaload, 1) := by decide +kernel
theorem dX13_unwrap_21 : decode cX13_unwrap 21 = .ok (.bipush 24, 2) := by decide +kernel
theorem dX13_unwrap_23 : decode cX13_unwrap 23 = .ok (.if_icmp .lt 26, 3) := by decide +kernel
theorem dX13_unwrap_26 : decode cX13_unwrap 26 = .ok (.aload_n 0, 1) := by decide +kernel
theorem dX13_unwrap_27 : decode cX13_unwrap 27 = .ok (.getfield 17, 3) := by decide +kernel
theorem dX13_unwrap_30 : decode cX13_unwrap 30 = .ok (.iload_n 2, 1) := by decide +kernel
theorem dX13_unwrap_31 : decode cX13_unwrap 31 = .ok (.iaload, 1) := by decide +kernel
theorem dX13_unwrap_32 : decode cX13_unwrap 32 = .ok (.bipush 72, 2) := by decide +kernel
theorem dX13_unwrap_34 : decode cX13_unwrap 34 = .ok (.if_icmp .gt 15, 3) := by decide +kernel
theorem dX13_unwrap_37 : decode cX13_unwrap 37 = .ok (.aload_n 0, 1) := by decide +kernel
theorem dX13_unwrap_38 : decode cX13_unwrap 38 = .ok (.getfield 17, 3) := by decide +kernel
theorem dX13_unwrap_41 : decode cX13_unwrap 41 = .ok (.iload_n 2, 1) := by decide +kernel
theorem dX13_unwrap_42 : decode cX13_unwrap 42 = .ok (.iaload, 1) := by decide +kernel
theorem dX13_unwrap_43 : decode cX13_unwrap 43 = .ok (.bipush 8, 2) := by decide +kernel
theorem dX13_unwrap_45 : decode cX13_unwrap 45 = .ok (.irem, 1) := by decide +kernel
theorem dX13_unwrap_46 : decode cX13_unwrap 46 = .ok (.ifCond .eq 6, 3) := by decide +kernel
theorem dX13_unwrap_49 : decode cX13_unwrap 49 = .ok (.bipush (-2), 2) := by decide +kernel
theorem dX13_unwrap_51 : decode cX13_unwrap 51 = .ok (.ireturn, 1) := by decide +kernel
theorem dX13_unwrap_52 : decode cX13_unwrap 52 = .ok (.aload_n 0, 1) := by decide +kernel
theorem dX13_unwrap_53 : decode cX13_unwrap 53 = .ok (.aload_n 0, 1) := by decide +kernel
theorem dX13_unwrap_54 : decode cX13_unwrap 54 = .ok (.getfield 14, 3) := by decide +kernel
theorem dX13_unwrap_57 : decode cX13_unwrap 57 = .ok (.sipush 8192, 3) := by decide +kernel
theorem dX13_unwrap_60 : decode cX13_unwrap 60 = .ok (.iload_n 1, 1) := by decide +kernel
theorem dX13_unwrap_61 : decode cX13_unwrap 61 = .ok (.imul, 1) := by decide +kernel
theorem dX13_unwrap_62 : decode cX13_unwrap 62 = .ok (.aload_n 0, 1) := by decide +kernel
theorem dX13_unwrap_63 : decode cX13_unwrap 63 = .ok (.getfield 17, 3) := by decide +kernel
theorem dX13_unwrap_66 : decode cX13_unwrap 66 = .ok (.iload_n 1, 1) := by decide +kernel
theorem dX13_unwrap_67 : decode cX13_unwrap 67 = .ok (.iaload, 1) := by decide +kernel
theorem dX13_unwrap_68 : decode cX13_unwrap 68 = .ok (.invokevirtual 601, 3) := by decide +kernel
theorem dX13_unwrap_71 : decode cX13_unwrap 71 = .ok (.aload_n 0, 1) := by decide +kernel
theorem dX13_unwrap_72 : decode cX13_unwrap 72 = .ok (.aload_n 0, 1) := by decide +kernel
theorem dX13_unwrap_73 : decode cX13_unwrap 73 = .ok (.getfield 14, 3) := by decide +kernel
theorem dX13_unwrap_76 : decode cX13_unwrap 76 = .ok (.sipush 8192, 3) := by decide +kernel
theorem dX13_unwrap_79 : decode cX13_unwrap 79 = .ok (.iload_n 2, 1) := by decide +kernel
theorem dX13_unwrap_80 : decode cX13_unwrap 80 = .ok (.imul, 1) := by decide +kernel
theorem dX13_unwrap_81 : decode cX13_unwrap 81 = .ok (.aload_n 0, 1) := by decide +kernel
theorem dX13_unwrap_82 : decode cX13_unwrap 82 = .ok (.getfield 17, 3) := by decide +kernel
theorem dX13_unwrap_85 : decode cX13_unwrap 85 = .ok (.iload_n 2, 1) := by decide +kernel
theorem dX13_unwrap_86 : decode cX13_unwrap 86 = .ok (.iaload, 1) := by decide +kernel
theorem dX13_unwrap_87 : decode cX13_unwrap 87 = .ok (.invokevirtual 625, 3) := by decide +kernel
theorem dX13_unwrap_90 : decode cX13_unwrap 90 = .ok (.ifCond .eq 25, 3) := by decide +kernel
theorem dX13_unwrap_93 : decode cX13_unwrap 93 = .ok (.aload_n 0, 1) := by decide +kernel
theorem dX13_unwrap_94 : decode cX13_unwrap 94 = .ok (.aload_n 0, 1) := by decide +kernel
theorem dX13_unwrap_95 : decode cX13_unwrap 95 = .ok (.getfield 107, 3) := by decide +kernel
theorem dX13_unwrap_98 : decode cX13_unwrap 98 = .ok (.bipush 8, 2) := by decide +kernel
theorem dX13_unwrap_100 : decode cX13_unwrap 100 = .ok (.aload_n 0, 1) := by decide +kernel
theorem dX13_unwrap_101 : decode cX13_unwrap 101 = .ok (.getfield 17, 3) := by decide +kernel
theorem dX13_unwrap_104 : decode cX13_unwrap 104 = .ok (.iload_n 2, 1) := by decide +kernel
theorem dX13_unwrap_105 : decode cX13_unwrap 105 = .ok (.iaload, 1) := by decide +kernel
theorem dX13_unwrap_106 : decode cX13_unwrap 106 = .ok (.bipush 8, 2) := by decide +kernel
theorem dX13_unwrap_108 : decode cX13_unwrap 108 = .ok (.isub, 1) := by decide +kernel
theorem dX13_unwrap_109 : decode cX13_unwrap 109 = .ok (.invokevirtual 463, 3) := by decide +kernel
theorem dX13_unwrap_112 : decode cX13_unwrap 112 = .ok (.goto 4, 3) := by decide +kernel
theorem dX13_unwrap_115 : decode cX13_unwrap 115 = .ok (.iconst (-1), 1) := by decide +kernel
theorem dX13_unwrap_116 : decode cX13_unwrap 116 = .ok (.ireturn, 1) := by decide +kernel
abbrev rmX13_unwrap : Room := { frames := 4, cells := 0, slots := 0, locals := 93 }
set_option maxHeartbeats 4000000 in
set_option maxRecDepth 100000 in
theorem wP_X13_unwrap {G : mG} {F : Nat} {x : mXT} {sz : Nat} {r0 : Int32} {M0 : mM} (X : mCX G RX13 cX13_unwrap 3 (some .int) "unwrap" rmX13_unwrap x) (hQ : mQI x r0 M0 (sz, 0, 0)) {l0 : Nat} {l1 : Int32} {l2 : Int32} {M : mM} (h : P_X13_unwrap G F l0 l1 l2 M = some (r0, M0)) : WW x (sz, 0, 0) M 0 [(0, .ref l0), (1, .int l1), (2, .int l2)] [] := by
  unfold P_X13_unwrap at h
  refine ww_aload_n 0 X dX13_unwrap_0 0 rfl rfl ?_
  refine ww_iload_n 1 X dX13_unwrap_1 1 rfl rfl ?_
  obtain ⟨_, f2, h⟩ := bO_some h
  obtain ⟨v2, M2, e2, h⟩ := bP_some h
  refine ww_callVI0 2 X dX13_unwrap_2 mY_X13_isCipherKey mL_X13_619 (rcv_spec f2) ⟨_, _, rfl⟩ (by decide) (As := [.int l1]) (rest := []) rfl rfl ⟨Nat.le_of_ble_eq_true rfl, Nat.le_of_ble_eq_true rfl⟩ (Nat.le_of_ble_eq_true rfl) (fun l D A => c_X13_isCipherKey l D A e2) ?_
  refine ww_if_eq 5 49 X dX13_unwrap_5 (by decide) (fun q => ?_) (fun q => ?_)
  · replace h := (if_pos q).symm.trans h
    refine ww_bipush 49 X (v := (-2 : Int32)) dX13_unwrap_49 (by decide) ?_
    exact ww_iretE 51 X hQ dX13_unwrap_51 h
  · replace h := (if_neg q).symm.trans h
    refine ww_iload_n 8 X dX13_unwrap_8 2 rfl rfl ?_
    obtain ⟨v9, M9, e9, h⟩ := bP_some h
    refine ww_callSI0 9 X dX13_unwrap_9 mY_X13_isRow mL_X13_332 (As := [.int l2]) (rest := []) rfl rfl ⟨Nat.le_of_ble_eq_true rfl, Nat.le_of_ble_eq_true rfl⟩ (Nat.le_of_ble_eq_true rfl) (fun l D A => c_X13_isRow l D A e9) ?_
    refine ww_if_eq 12 49 X dX13_unwrap_12 (by decide) (fun q => ?_) (fun q => ?_)
    · replace h := (if_pos q).symm.trans h
      refine ww_bipush 49 X (v := (-2 : Int32)) dX13_unwrap_49 (by decide) ?_
      exact ww_iretE 51 X hQ dX13_unwrap_51 h
    · replace h := (if_neg q).symm.trans h
      refine ww_aload_n 15 X dX13_unwrap_15 0 rfl rfl ?_
      obtain ⟨v16, e16, h⟩ := bO_some h
      refine ww_getR 16 X dX13_unwrap_16 fG_X13_17 e16 ?_
      refine ww_iload_n 19 X dX13_unwrap_19 2 rfl rfl ?_
      obtain ⟨v20, e20, h⟩ := bO_some h
      refine ww_iald 20 X dX13_unwrap_20 e20 ?_
      refine ww_bipush 21 X (v := (24 : Int32)) dX13_unwrap_21 (by decide) ?_
      refine ww_icmp_lt 23 49 X dX13_unwrap_23 (by decide) (fun q => ?_) (fun q => ?_)
      · replace h := (if_pos q).symm.trans h
        refine ww_bipush 49 X (v := (-2 : Int32)) dX13_unwrap_49 (by decide) ?_
        exact ww_iretE 51 X hQ dX13_unwrap_51 h
      · replace h := (if_neg q).symm.trans h
        refine ww_aload_n 26 X dX13_unwrap_26 0 rfl rfl ?_
        obtain ⟨v27, e27, h⟩ := bO_some h
        refine ww_getR 27 X dX13_unwrap_27 fG_X13_17 e27 ?_
        refine ww_iload_n 30 X dX13_unwrap_30 2 rfl rfl ?_
        obtain ⟨v31, e31, h⟩ := bO_some h
        refine ww_iald 31 X dX13_unwrap_31 e31 ?_
        refine ww_bipush 32 X (v := (72 : Int32)) dX13_unwrap_32 (by decide) ?_
        refine ww_icmp_gt 34 49 X dX13_unwrap_34 (by decide) (fun q => ?_) (fun q => ?_)
        · replace h := (if_pos q).symm.trans h
          refine ww_bipush 49 X (v := (-2 : Int32)) dX13_unwrap_49 (by decide) ?_
          exact ww_iretE 51 X hQ dX13_unwrap_51 h
        · replace h := (if_neg q).symm.trans h
          refine ww_aload_n 37 X dX13_unwrap_37 0 rfl rfl ?_
          obtain ⟨v38, e38, h⟩ := bO_some h
          refine ww_getR 38 X dX13_unwrap_38 fG_X13_17 e38 ?_
          refine ww_iload_n 41 X dX13_unwrap_41 2 rfl rfl ?_
          obtain ⟨v42, e42, h⟩ := bO_some h
          refine ww_iald 42 X dX13_unwrap_42 e42 ?_
          refine ww_bipush 43 X (v := (8 : Int32)) dX13_unwrap_43 (by decide) ?_
          refine ww_irem 45 X (v := (v42 - v42 / (8 : Int32) * (8 : Int32))) dX13_unwrap_45 rfl ?_
          refine ww_if_eq 46 52 X dX13_unwrap_46 (by decide) (fun q => ?_) (fun q => ?_)
          · replace h := (if_pos q).symm.trans h
            refine ww_aload_n 52 X dX13_unwrap_52 0 rfl rfl ?_
            refine ww_aload_n 53 X dX13_unwrap_53 0 rfl rfl ?_
            obtain ⟨v54, e54, h⟩ := bO_some h
            refine ww_getR 54 X dX13_unwrap_54 fG_X13_14 e54 ?_
            refine ww_sipush 57 X (v := (8192 : Int32)) dX13_unwrap_57 (by decide) ?_
            refine ww_iload_n 60 X dX13_unwrap_60 1 rfl rfl ?_
            refine ww_imul 61 X dX13_unwrap_61 ?_
            refine ww_aload_n 62 X dX13_unwrap_62 0 rfl rfl ?_
            obtain ⟨v63, e63, h⟩ := bO_some h
            refine ww_getR 63 X dX13_unwrap_63 fG_X13_17 e63 ?_
            refine ww_iload_n 66 X dX13_unwrap_66 1 rfl rfl ?_
            obtain ⟨v67, e67, h⟩ := bO_some h
            refine ww_iald 67 X dX13_unwrap_67 e67 ?_
            obtain ⟨_, f68, h⟩ := bO_some h
            obtain ⟨M68, e68, h⟩ := bO_some h
            refine ww_callVV0 68 X dX13_unwrap_68 mY_X13_setKey mL_X13_601 (rcv_spec f68) ⟨_, _, rfl⟩ (by decide) (As := [.ref v54, .int ((8192 : Int32) * l1), .int v67]) (rest := []) rfl rfl ⟨Nat.le_of_ble_eq_true rfl, Nat.le_of_ble_eq_true rfl⟩ (Nat.le_of_ble_eq_true rfl) (fun l D A => c_X13_setKey l D A e68) ?_
            refine ww_aload_n 71 X dX13_unwrap_71 0 rfl rfl ?_
            refine ww_aload_n 72 X dX13_unwrap_72 0 rfl rfl ?_
            obtain ⟨v73, e73, h⟩ := bO_some h
            refine ww_getR 73 X dX13_unwrap_73 fG_X13_14 e73 ?_
            refine ww_sipush 76 X (v := (8192 : Int32)) dX13_unwrap_76 (by decide) ?_
            refine ww_iload_n 79 X dX13_unwrap_79 2 rfl rfl ?_
            refine ww_imul 80 X dX13_unwrap_80 ?_
            refine ww_aload_n 81 X dX13_unwrap_81 0 rfl rfl ?_
            obtain ⟨v82, e82, h⟩ := bO_some h
            refine ww_getR 82 X dX13_unwrap_82 fG_X13_17 e82 ?_
            refine ww_iload_n 85 X dX13_unwrap_85 2 rfl rfl ?_
            obtain ⟨v86, e86, h⟩ := bO_some h
            refine ww_iald 86 X dX13_unwrap_86 e86 ?_
            obtain ⟨_, f87, h⟩ := bO_some h
            obtain ⟨v87, M87, e87, h⟩ := bP_some h
            refine ww_callVI0 87 X dX13_unwrap_87 mY_X13_unwrapIt mL_X13_625 (rcv_spec f87) ⟨_, _, rfl⟩ (by decide) (As := [.ref v73, .int ((8192 : Int32) * l2), .int v86]) (rest := []) rfl rfl ⟨Nat.le_of_ble_eq_true rfl, Nat.le_of_ble_eq_true rfl⟩ (Nat.le_of_ble_eq_true rfl) (fun l D A => c_X13_unwrapIt l D A e87) ?_
            refine ww_if_eq 90 115 X dX13_unwrap_90 (by decide) (fun q => ?_) (fun q => ?_)
            · replace h := (if_pos q).symm.trans h
              refine ww_iconst 115 X (v := (-1 : Int32)) dX13_unwrap_115 (by decide) ?_
              exact ww_iretE 116 X hQ dX13_unwrap_116 h
            · replace h := (if_neg q).symm.trans h
              refine ww_aload_n 93 X dX13_unwrap_93 0 rfl rfl ?_
              refine ww_aload_n 94 X dX13_unwrap_94 0 rfl rfl ?_
              obtain ⟨v95, e95, h⟩ := bO_some h
              refine ww_getR 95 X dX13_unwrap_95 fG_X13_107 e95 ?_
              refine ww_bipush 98 X (v := (8 : Int32)) dX13_unwrap_98 (by decide) ?_
              refine ww_aload_n 100 X dX13_unwrap_100 0 rfl rfl ?_
              obtain ⟨v101, e101, h⟩ := bO_some h
              refine ww_getR 101 X dX13_unwrap_101 fG_X13_17 e101 ?_
              refine ww_iload_n 104 X dX13_unwrap_104 2 rfl rfl ?_
              obtain ⟨v105, e105, h⟩ := bO_some h
              refine ww_iald 105 X dX13_unwrap_105 e105 ?_
              refine ww_bipush 106 X (v := (8 : Int32)) dX13_unwrap_106 (by decide) ?_
              refine ww_isub 108 X dX13_unwrap_108 ?_
              obtain ⟨_, f109, h⟩ := bO_some h
              obtain ⟨v109, M109, e109, h⟩ := bP_some h
              refine ww_callVI0 109 X dX13_unwrap_109 mY_X13_tell mL_X13_463 (rcv_spec f109) ⟨_, _, rfl⟩ (by decide) (As := [.ref v95, .int (8 : Int32), .int (v105 - (8 : Int32))]) (rest := []) rfl rfl ⟨Nat.le_of_ble_eq_true rfl, Nat.le_of_ble_eq_true rfl⟩ (Nat.le_of_ble_eq_true rfl) (fun l D A => c_X13_tell l D A e109) ?_
              refine ww_goto 112 116 X dX13_unwrap_112 (by decide) ?_
              exact ww_iretE 116 X hQ dX13_unwrap_116 h
          · replace h := (if_neg q).symm.trans h
            refine ww_bipush 49 X (v := (-2 : Int32)) dX13_unwrap_49 (by decide) ?_
            exact ww_iretE 51 X hQ dX13_unwrap_51 h
theorem c_X13_unwrap {G : mG} {F sz : Nat} {r0 : Int32} {M0 : mM} (l : Launch) (D : mD) (A : Nat → Prop) {l0 : Nat} {l1 : Int32} {l2 : Int32} {M : mM} (h : P_X13_unwrap G F l0 l1 l2 M = some (r0, M0)) : mMetI l D G A yX13_unwrap cX13_unwrap 3 (some .int) 4 93 0 0 [.ref l0, .int l1, .int l2] M sz r0 M0 sz := mMetI_of l D G A (by decide) (Nat.le_of_ble_eq_true rfl) (fun x X hQ => wP_X13_unwrap X hQ h)
/-! SealedTokensModel.keyOf(I)I -/
theorem dX13_keyOf_0 : decode cX13_keyOf 0 = .ok (.iload_n 0, 1) := by decide +kernel
theorem dX13_keyOf_1 : decode cX13_keyOf 1 = .ok (.ifCond .ne 8, 3) := by decide +kernel
theorem dX13_keyOf_4 : decode cX13_keyOf 4 = .ok (.bipush 32, 2) := by decide +kernel
theorem dX13_keyOf_6 : decode cX13_keyOf 6 = .ok (.goto 25, 3) := by decide +kernel
theorem dX13_keyOf_9 : decode cX13_keyOf 9 = .ok (.iload_n 0, 1) := by decide +kernel
theorem dX13_keyOf_10 : decode cX13_keyOf 10 = .ok (.iconst 1, 1) := by decide +kernel
theorem dX13_keyOf_11 : decode cX13_keyOf 11 = .ok (.if_icmp .ne 8, 3) := by decide +kernel
theorem dX13_keyOf_14 : decode cX13_keyOf 14 = .ok (.bipush 64, 2) := by decide +kernel
theorem dX13_keyOf_16 : decode cX13_keyOf 16 = .ok (.goto 15, 3) := by decide +kernel
theorem dX13_keyOf_19 : decode cX13_keyOf 19 = .ok (.iload_n 0, 1) := by decide +kernel
theorem dX13_keyOf_20 : decode cX13_keyOf 20 = .ok (.iconst 2, 1) := by decide +kernel
theorem dX13_keyOf_21 : decode cX13_keyOf 21 = .ok (.if_icmp .ne 8, 3) := by decide +kernel
theorem dX13_keyOf_24 : decode cX13_keyOf 24 = .ok (.bipush 16, 2) := by decide +kernel
theorem dX13_keyOf_26 : decode cX13_keyOf 26 = .ok (.goto 5, 3) := by decide +kernel
theorem dX13_keyOf_29 : decode cX13_keyOf 29 = .ok (.bipush 32, 2) := by decide +kernel
theorem dX13_keyOf_31 : decode cX13_keyOf 31 = .ok (.ireturn, 1) := by decide +kernel
abbrev rmX13_keyOf : Room := { frames := 0, cells := 0, slots := 0, locals := 0 }
set_option maxHeartbeats 4000000 in
set_option maxRecDepth 100000 in
theorem wP_X13_keyOf {G : mG} {F : Nat} {x : mXT} {sz : Nat} {r0 : Int32} {M0 : mM} (X : mCX G RX13 cX13_keyOf 1 (some .int) "keyOf" rmX13_keyOf x) (hQ : mQI x r0 M0 (sz, 0, 0)) {l0 : Int32} {M : mM} (h : P_X13_keyOf G F l0 M = some (r0, M0)) : WW x (sz, 0, 0) M 0 [(0, .int l0)] [] := by
  unfold P_X13_keyOf at h
  refine ww_iload_n 0 X dX13_keyOf_0 0 rfl rfl ?_
  refine ww_if_ne 1 9 X dX13_keyOf_1 (by decide) (fun q => ?_) (fun q => ?_)
  · replace h := (if_neg q).symm.trans h
    refine ww_iload_n 9 X dX13_keyOf_9 0 rfl rfl ?_
    refine ww_iconst 10 X (v := (1 : Int32)) dX13_keyOf_10 (by decide) ?_
    refine ww_icmp_ne 11 19 X dX13_keyOf_11 (by decide) (fun q => ?_) (fun q => ?_)
    · replace h := (if_neg q).symm.trans h
      refine ww_iload_n 19 X dX13_keyOf_19 0 rfl rfl ?_
      refine ww_iconst 20 X (v := (2 : Int32)) dX13_keyOf_20 (by decide) ?_
      refine ww_icmp_ne 21 29 X dX13_keyOf_21 (by decide) (fun q => ?_) (fun q => ?_)
      · replace h := (if_neg q).symm.trans h
        refine ww_bipush 29 X (v := (32 : Int32)) dX13_keyOf_29 (by decide) ?_
        exact ww_iretE 31 X hQ dX13_keyOf_31 h
      · replace h := (if_pos q).symm.trans h
        refine ww_bipush 24 X (v := (16 : Int32)) dX13_keyOf_24 (by decide) ?_
        refine ww_goto 26 31 X dX13_keyOf_26 (by decide) ?_
        exact ww_iretE 31 X hQ dX13_keyOf_31 h
    · replace h := (if_pos q).symm.trans h
      refine ww_bipush 14 X (v := (64 : Int32)) dX13_keyOf_14 (by decide) ?_
      refine ww_goto 16 31 X dX13_keyOf_16 (by decide) ?_
      exact ww_iretE 31 X hQ dX13_keyOf_31 h
  · replace h := (if_pos q).symm.trans h
    refine ww_bipush 4 X (v := (32 : Int32)) dX13_keyOf_4 (by decide) ?_
    refine ww_goto 6 31 X dX13_keyOf_6 (by decide) ?_
    exact ww_iretE 31 X hQ dX13_keyOf_31 h
theorem c_X13_keyOf {G : mG} {F sz : Nat} {r0 : Int32} {M0 : mM} (l : Launch) (D : mD) (A : Nat → Prop) {l0 : Int32} {M : mM} (h : P_X13_keyOf G F l0 M = some (r0, M0)) : mMetI l D G A yX13_keyOf cX13_keyOf 1 (some .int) 0 0 0 0 [.int l0] M sz r0 M0 sz := mMetI_of l D G A (by decide) (Nat.le_of_ble_eq_true rfl) (fun x X hQ => wP_X13_keyOf X hQ h)
/-! SealedTokensModel.beginningOf(I)I -/
theorem dX13_beginningOf_0 : decode cX13_beginningOf 0 = .ok (.iload_n 0, 1) := by decide +kernel
theorem dX13_beginningOf_1 : decode cX13_beginningOf 1 = .ok (.iconst 2, 1) := by decide +kernel
theorem dX13_beginningOf_2 : decode cX13_beginningOf 2 = .ok (.if_icmp .ge 8, 3) := by decide +kernel
theorem dX13_beginningOf_5 : decode cX13_beginningOf 5 = .ok (.bipush 16, 2) := by decide +kernel
theorem dX13_beginningOf_7 : decode cX13_beginningOf 7 = .ok (.goto 5, 3) := by decide +kernel
theorem dX13_beginningOf_10 : decode cX13_beginningOf 10 = .ok (.bipush 12, 2) := by decide +kernel
theorem dX13_beginningOf_12 : decode cX13_beginningOf 12 = .ok (.ireturn, 1) := by decide +kernel
abbrev rmX13_beginningOf : Room := { frames := 0, cells := 0, slots := 0, locals := 0 }
set_option maxHeartbeats 4000000 in
set_option maxRecDepth 100000 in
theorem wP_X13_beginningOf {G : mG} {F : Nat} {x : mXT} {sz : Nat} {r0 : Int32} {M0 : mM} (X : mCX G RX13 cX13_beginningOf 1 (some .int) "beginningOf" rmX13_beginningOf x) (hQ : mQI x r0 M0 (sz, 0, 0)) {l0 : Int32} {M : mM} (h : P_X13_beginningOf G F l0 M = some (r0, M0)) : WW x (sz, 0, 0) M 0 [(0, .int l0)] [] := by
  unfold P_X13_beginningOf at h
  refine ww_iload_n 0 X dX13_beginningOf_0 0 rfl rfl ?_
  refine ww_iconst 1 X (v := (2 : Int32)) dX13_beginningOf_1 (by decide) ?_
  refine ww_icmp_ge 2 10 X dX13_beginningOf_2 (by decide) (fun q => ?_) (fun q => ?_)
  · replace h := (if_pos q).symm.trans h
    refine ww_bipush 10 X (v := (12 : Int32)) dX13_beginningOf_10 (by decide) ?_
    exact ww_iretE 12 X hQ dX13_beginningOf_12 h
  · replace h := (if_neg q).symm.trans h
    refine ww_bipush 5 X (v := (16 : Int32)) dX13_beginningOf_5 (by decide) ?_
    refine ww_goto 7 12 X dX13_beginningOf_7 (by decide) ?_
    exact ww_iretE 12 X hQ dX13_beginningOf_12 h
theorem c_X13_beginningOf {G : mG} {F sz : Nat} {r0 : Int32} {M0 : mM} (l : Launch) (D : mD) (A : Nat → Prop) {l0 : Int32} {M : mM} (h : P_X13_beginningOf G F l0 M = some (r0, M0)) : mMetI l D G A yX13_beginningOf cX13_beginningOf 1 (some .int) 0 0 0 0 [.int l0] M sz r0 M0 sz := mMetI_of l D G A (by decide) (Nat.le_of_ble_eq_true rfl) (fun x X hQ => wP_X13_beginningOf X hQ h)
/-! SealedTokensModel.markOf(I)I -/
theorem dX13_markOf_0 : decode cX13_markOf 0 = .ok (.iload_n 0, 1) := by decide +kernel
theorem dX13_markOf_1 : decode cX13_markOf 1 = .ok (.iconst 1, 1) := by decide +kernel
theorem dX13_markOf_2 : decode cX13_markOf 2 = .ok (.if_icmp .ne 8, 3) := by decide +kernel
theorem dX13_markOf_5 : decode cX13_markOf 5 = .ok (.bipush 32, 2) := by decide +kernel
theorem dX13_markOf_7 : decode cX13_markOf 7 = .ok (.goto 5, 3) := by decide +kernel
theorem dX13_markOf_10 : decode cX13_markOf 10 = .ok (.bipush 16, 2) := by decide +kernel
theorem dX13_markOf_12 : decode cX13_markOf 12 = .ok (.ireturn, 1) := by decide +kernel
abbrev rmX13_markOf : Room := { frames := 0, cells := 0, slots := 0, locals := 0 }
set_option maxHeartbeats 4000000 in
set_option maxRecDepth 100000 in
theorem wP_X13_markOf {G : mG} {F : Nat} {x : mXT} {sz : Nat} {r0 : Int32} {M0 : mM} (X : mCX G RX13 cX13_markOf 1 (some .int) "markOf" rmX13_markOf x) (hQ : mQI x r0 M0 (sz, 0, 0)) {l0 : Int32} {M : mM} (h : P_X13_markOf G F l0 M = some (r0, M0)) : WW x (sz, 0, 0) M 0 [(0, .int l0)] [] := by
  unfold P_X13_markOf at h
  refine ww_iload_n 0 X dX13_markOf_0 0 rfl rfl ?_
  refine ww_iconst 1 X (v := (1 : Int32)) dX13_markOf_1 (by decide) ?_
  refine ww_icmp_ne 2 10 X dX13_markOf_2 (by decide) (fun q => ?_) (fun q => ?_)
  · replace h := (if_neg q).symm.trans h
    refine ww_bipush 10 X (v := (16 : Int32)) dX13_markOf_10 (by decide) ?_
    exact ww_iretE 12 X hQ dX13_markOf_12 h
  · replace h := (if_pos q).symm.trans h
    refine ww_bipush 5 X (v := (32 : Int32)) dX13_markOf_5 (by decide) ?_
    refine ww_goto 7 12 X dX13_markOf_7 (by decide) ?_
    exact ww_iretE 12 X hQ dX13_markOf_12 h
theorem c_X13_markOf {G : mG} {F sz : Nat} {r0 : Int32} {M0 : mM} (l : Launch) (D : mD) (A : Nat → Prop) {l0 : Int32} {M : mM} (h : P_X13_markOf G F l0 M = some (r0, M0)) : mMetI l D G A yX13_markOf cX13_markOf 1 (some .int) 0 0 0 0 [.int l0] M sz r0 M0 sz := mMetI_of l D G A (by decide) (Nat.le_of_ble_eq_true rfl) (fun x X hQ => wP_X13_markOf X hQ h)
/-! SealedTokensModel.codeMark(I[BI[BI[BII[BII)V -/
theorem dX13_codeMark_0 : decode cX13_codeMark 0 = .ok (.aload_n 0, 1) := by decide +kernel
theorem dX13_codeMark_1 : decode cX13_codeMark 1 = .ok (.iconst 0, 1) := by decide +kernel
theorem dX13_codeMark_2 : decode cX13_codeMark 2 = .ok (.putfield 579, 3) := by decide +kernel
theorem dX13_codeMark_5 : decode cX13_codeMark 5 = .ok (.aload_n 0, 1) := by decide +kernel
theorem dX13_codeMark_6 : decode cX13_codeMark 6 = .ok (.aload 6, 2) := by decide +kernel
theorem dX13_codeMark_8 : decode cX13_codeMark 8 = .ok (.iload 7, 2) := by decide +kernel
theorem dX13_codeMark_10 : decode cX13_codeMark 10 = .ok (.iload 8, 2) := by decide +kernel
theorem dX13_codeMark_12 : decode cX13_codeMark 12 = .ok (.invokevirtual 582, 3) := by decide +kernel
theorem dX13_codeMark_15 : decode cX13_codeMark 15 = .ok (.aload_n 0, 1) := by decide +kernel
theorem dX13_codeMark_16 : decode cX13_codeMark 16 = .ok (.aload 4, 2) := by decide +kernel
theorem dX13_codeMark_18 : decode cX13_codeMark 18 = .ok (.iload 5, 2) := by decide +kernel
theorem dX13_codeMark_20 : decode cX13_codeMark 20 = .ok (.bipush 16, 2) := by decide +kernel
theorem dX13_codeMark_22 : decode cX13_codeMark 22 = .ok (.invokevirtual 582, 3) := by decide +kernel
theorem dX13_codeMark_25 : decode cX13_codeMark 25 = .ok (.aload_n 0, 1) := by decide +kernel
theorem dX13_codeMark_26 : decode cX13_codeMark 26 = .ok (.aload 9, 2) := by decide +kernel
theorem dX13_codeMark_28 : decode cX13_codeMark 28 = .ok (.iload 10, 2) := by decide +kernel
theorem dX13_codeMark_30 : decode cX13_codeMark 30 = .ok (.iload 11, 2) := by decide +kernel
theorem dX13_codeMark_32 : decode cX13_codeMark 32 = .ok (.invokevirtual 582, 3) := by decide +kernel
theorem dX13_codeMark_35 : decode cX13_codeMark 35 = .ok (.aload_n 0, 1) := by decide +kernel
theorem dX13_codeMark_36 : decode cX13_codeMark 36 = .ok (.getfield 83, 3) := by decide +kernel
theorem dX13_codeMark_39 : decode cX13_codeMark 39 = .ok (.aload_n 0, 1) := by decide +kernel
theorem dX13_codeMark_40 : decode cX13_codeMark 40 = .ok (.getfield 579, 3) := by decide +kernel
theorem dX13_codeMark_43 : decode cX13_codeMark 43 = .ok (.bipush 8, 2) := by decide +kernel
theorem dX13_codeMark_45 : decode cX13_codeMark 45 = .ok (.ldc2_w 510, 3) := by decide +kernel
theorem dX13_codeMark_48 : decode cX13_codeMark 48 = .ok (.iload 8, 2) := by decide +kernel
theorem dX13_codeMark_50 : decode cX13_codeMark 50 = .ok (.i2l, 1) := by decide +kernel
theorem dX13_codeMark_51 : decode cX13_codeMark 51 = .ok (.lmul, 1) := by decide +kernel
theorem dX13_codeMark_52 : decode cX13_codeMark 52 = .ok (.invokestatic 328, 3) := by decide +kernel
theorem dX13_codeMark_55 : decode cX13_codeMark 55 = .ok (.aload_n 0, 1) := by decide +kernel
theorem dX13_codeMark_56 : decode cX13_codeMark 56 = .ok (.dup, 1) := by decide +kernel
theorem dX13_codeMark_57 : decode cX13_codeMark 57 = .ok (.getfield 579, 3) := by decide +kernel
theorem dX13_codeMark_60 : decode cX13_codeMark 60 = .ok (.bipush 8, 2) := by decide +kernel
theorem dX13_codeMark_62 : decode cX13_codeMark 62 = .ok (.iadd, 1) := by decide +kernel
theorem dX13_codeMark_63 : decode cX13_codeMark 63 = .ok (.putfield 579, 3) := by decide +kernel
theorem dX13_codeMark_66 : decode cX13_codeMark 66 = .ok (.aload_n 0, 1) := by decide +kernel
theorem dX13_codeMark_67 : decode cX13_codeMark 67 = .ok (.iload_n 1, 1) := by decide +kernel
theorem dX13_codeMark_68 : decode cX13_codeMark 68 = .ok (.ifCond .ne 9, 3) := by decide +kernel
theorem dX13_codeMark_71 : decode cX13_codeMark 71 = .ok (.sipush 256, 3) := by decide +kernel
theorem dX13_codeMark_74 : decode cX13_codeMark 74 = .ok (.goto 6, 3) := by decide +kernel
theorem dX13_codeMark_77 : decode cX13_codeMark 77 = .ok (.sipush 512, 3) := by decide +kernel
theorem dX13_codeMark_80 : decode cX13_codeMark 80 = .ok (.aload_n 2, 1) := by decide +kernel
theorem dX13_codeMark_81 : decode cX13_codeMark 81 = .ok (.iload_n 3, 1) := by decide +kernel
theorem dX13_codeMark_82 : decode cX13_codeMark 82 = .ok (.iload_n 1, 1) := by decide +kernel
theorem dX13_codeMark_83 : decode cX13_codeMark 83 = .ok (.invokestatic 629, 3) := by decide +kernel
theorem dX13_codeMark_86 : decode cX13_codeMark 86 = .ok (.iconst 2, 1) := by decide +kernel
theorem dX13_codeMark_87 : decode cX13_codeMark 87 = .ok (.idiv, 1) := by decide +kernel
theorem dX13_codeMark_88 : decode cX13_codeMark 88 = .ok (.invokevirtual 585, 3) := by decide +kernel
theorem dX13_codeMark_91 : decode cX13_codeMark 91 = .ok (.istore 12, 2) := by decide +kernel
theorem dX13_codeMark_93 : decode cX13_codeMark 93 = .ok (.aload_n 0, 1) := by decide +kernel
theorem dX13_codeMark_94 : decode cX13_codeMark 94 = .ok (.getfield 76, 3) := by decide +kernel
theorem dX13_codeMark_97 : decode cX13_codeMark 97 = .ok (.iconst 0, 1) := by decide +kernel
theorem dX13_codeMark_98 : decode cX13_codeMark 98 = .ok (.aload_n 0, 1) := by decide +kernel
theorem dX13_codeMark_99 : decode cX13_codeMark 99 = .ok (.getfield 113, 3) := by decide +kernel
theorem dX13_codeMark_102 : decode cX13_codeMark 102 = .ok (.iconst 0, 1) := by decide +kernel
theorem dX13_codeMark_103 : decode cX13_codeMark 103 = .ok (.iload_n 1, 1) := by decide +kernel
theorem dX13_codeMark_104 : decode cX13_codeMark 104 = .ok (.invokestatic 632, 3) := by decide +kernel
theorem dX13_codeMark_107 : decode cX13_codeMark 107 = .ok (.invokestatic 317, 3) := by decide +kernel
theorem dX13_codeMark_110 : decode cX13_codeMark 110 = .ok (.return_, 1) := by decide +kernel
abbrev rmX13_codeMark : Room := { frames := 6, cells := 0, slots := 0, locals := 143 }
set_option maxHeartbeats 4000000 in
set_option maxRecDepth 100000 in
theorem wB_X13_codeMark_80 {G : mG} {F : Nat} {x : mXT} {sz : Nat} {M0 : mM} (X : mCX G RX13 cX13_codeMark 13 none "codeMark" rmX13_codeMark x) (hQ : mQV x M0 (sz, 0, 0)) {l0 : Nat} {l1 : Int32} {l2 : Nat} {l3 : Int32} {sk0 : Nat} {sk1 : Int32} {M : mM} (h : B_X13_codeMark_80 G F l0 l1 l2 l3 sk0 sk1 M = some M0) : WW x (sz, 0, 0) M 80 [(0, .ref l0), (1, .int l1), (2, .ref l2), (3, .int l3)] [.int sk1, .ref sk0] := by
  unfold B_X13_codeMark_80 at h
  refine ww_aload_n 80 X dX13_codeMark_80 2 rfl rfl ?_
  refine ww_iload_n 81 X dX13_codeMark_81 3 rfl rfl ?_
  refine ww_iload_n 82 X dX13_codeMark_82 1 rfl rfl ?_
  obtain ⟨v83, M83, e83, h⟩ := bP_some h
  refine ww_callSI0 83 X dX13_codeMark_83 mY_X13_keyOf mL_X13_629 (As := [.int l1]) (rest := [.int l3, .ref l2, .int sk1, .ref sk0]) rfl rfl ⟨Nat.le_of_ble_eq_true rfl, Nat.le_of_ble_eq_true rfl⟩ (Nat.le_of_ble_eq_true rfl) (fun l D A => c_X13_keyOf l D A e83) ?_
  refine ww_iconst 86 X (v := (2 : Int32)) dX13_codeMark_86 (by decide) ?_
  refine ww_idiv 87 X (v := (v83 / (2 : Int32))) dX13_codeMark_87 rfl ?_
  obtain ⟨_, f88, h⟩ := bO_some h
  obtain ⟨v88, M88, e88, h⟩ := bP_some h
  refine ww_callVI0 88 X dX13_codeMark_88 mY_X13_codeOf mL_X13_585 (rcv_spec f88) ⟨_, _, rfl⟩ (by decide) (As := [.int sk1, .ref l2, .int l3, .int (v83 / (2 : Int32))]) (rest := []) rfl rfl ⟨Nat.le_of_ble_eq_true rfl, Nat.le_of_ble_eq_true rfl⟩ (Nat.le_of_ble_eq_true rfl) (fun l D A => c_X13_codeOf l D A e88) ?_
  refine ww_istore 91 X dX13_codeMark_91 (lv' := [(0, .ref l0), (1, .int l1), (2, .ref l2), (3, .int l3), (12, .int v88)]) (by decide) [1, 2, 3, 4, 0] rfl ?_
  refine ww_aload_n 93 X dX13_codeMark_93 0 rfl rfl ?_
  obtain ⟨v94, e94, h⟩ := bO_some h
  refine ww_getR 94 X dX13_codeMark_94 fG_X13_76 e94 ?_
  refine ww_iconst 97 X (v := (0 : Int32)) dX13_codeMark_97 (by decide) ?_
  refine ww_aload_n 98 X dX13_codeMark_98 0 rfl rfl ?_
  obtain ⟨v99, e99, h⟩ := bO_some h
  refine ww_getR 99 X dX13_codeMark_99 fG_X13_113 e99 ?_
  refine ww_iconst 102 X (v := (0 : Int32)) dX13_codeMark_102 (by decide) ?_
  refine ww_iload_n 103 X dX13_codeMark_103 1 rfl rfl ?_
  obtain ⟨v104, M104, e104, h⟩ := bP_some h
  refine ww_callSI0 104 X dX13_codeMark_104 mY_X13_markOf mL_X13_632 (As := [.int l1]) (rest := [.int (0 : Int32), .ref v99, .int (0 : Int32), .ref v94]) rfl rfl ⟨Nat.le_of_ble_eq_true rfl, Nat.le_of_ble_eq_true rfl⟩ (Nat.le_of_ble_eq_true rfl) (fun l D A => c_X13_markOf l D A e104) ?_
  obtain ⟨M107, e107, h⟩ := bO_some h
  refine ww_callSV0 107 X dX13_codeMark_107 mY_X13_move mL_X13_317 (As := [.ref v94, .int (0 : Int32), .ref v99, .int (0 : Int32), .int v104]) (rest := []) rfl rfl ⟨Nat.le_of_ble_eq_true rfl, Nat.le_of_ble_eq_true rfl⟩ (Nat.le_of_ble_eq_true rfl) (fun l D A => c_X13_move l D A e107) ?_
  exact ww_vretE 110 X hQ dX13_codeMark_110 h
set_option maxHeartbeats 4000000 in
set_option maxRecDepth 100000 in
theorem wP_X13_codeMark {G : mG} {F : Nat} {x : mXT} {sz : Nat} {M0 : mM} (X : mCX G RX13 cX13_codeMark 13 none "codeMark" rmX13_codeMark x) (hQ : mQV x M0 (sz, 0, 0)) {l0 : Nat} {l1 : Int32} {l2 : Nat} {l3 : Int32} {l4 : Nat} {l5 : Int32} {l6 : Nat} {l7 : Int32} {l8 : Int32} {l9 : Nat} {l10 : Int32} {l11 : Int32} {M : mM} (h : P_X13_codeMark G F l0 l1 l2 l3 l4 l5 l6 l7 l8 l9 l10 l11 M = some M0) : WW x (sz, 0, 0) M 0 [(0, .ref l0), (1, .int l1), (2, .ref l2), (3, .int l3), (4, .ref l4), (5, .int l5), (6, .ref l6), (7, .int l7), (8, .int l8), (9, .ref l9), (10, .int l10), (11, .int l11)] [] := by
  unfold P_X13_codeMark at h
  refine ww_aload_n 0 X dX13_codeMark_0 0 rfl rfl ?_
  refine ww_iconst 1 X (v := (0 : Int32)) dX13_codeMark_1 (by decide) ?_
  obtain ⟨M2, e2, h⟩ := bO_some h
  refine ww_putI 2 X dX13_codeMark_2 (fP_X13_579 _) e2 ?_
  refine ww_aload_n 5 X dX13_codeMark_5 0 rfl rfl ?_
  refine ww_aload 6 X dX13_codeMark_6 6 rfl ?_
  refine ww_iload 8 X dX13_codeMark_8 7 rfl ?_
  refine ww_iload 10 X dX13_codeMark_10 8 rfl ?_
  obtain ⟨_, f12, h⟩ := bO_some h
  obtain ⟨M12, e12, h⟩ := bO_some h
  refine ww_callVV0 12 X dX13_codeMark_12 mY_X13_tellMessage mL_X13_582 (rcv_spec f12) ⟨_, _, rfl⟩ (by decide) (As := [.ref l6, .int l7, .int l8]) (rest := []) rfl rfl ⟨Nat.le_of_ble_eq_true rfl, Nat.le_of_ble_eq_true rfl⟩ (Nat.le_of_ble_eq_true rfl) (fun l D A => c_X13_tellMessage l D A e12) ?_
  refine ww_aload_n 15 X dX13_codeMark_15 0 rfl rfl ?_
  refine ww_aload 16 X dX13_codeMark_16 4 rfl ?_
  refine ww_iload 18 X dX13_codeMark_18 5 rfl ?_
  refine ww_bipush 20 X (v := (16 : Int32)) dX13_codeMark_20 (by decide) ?_
  obtain ⟨_, f22, h⟩ := bO_some h
  obtain ⟨M22, e22, h⟩ := bO_some h
  refine ww_callVV0 22 X dX13_codeMark_22 mY_X13_tellMessage mL_X13_582 (rcv_spec f22) ⟨_, _, rfl⟩ (by decide) (As := [.ref l4, .int l5, .int (16 : Int32)]) (rest := []) rfl rfl ⟨Nat.le_of_ble_eq_true rfl, Nat.le_of_ble_eq_true rfl⟩ (Nat.le_of_ble_eq_true rfl) (fun l D A => c_X13_tellMessage l D A e22) ?_
  refine ww_aload_n 25 X dX13_codeMark_25 0 rfl rfl ?_
  refine ww_aload 26 X dX13_codeMark_26 9 rfl ?_
  refine ww_iload 28 X dX13_codeMark_28 10 rfl ?_
  refine ww_iload 30 X dX13_codeMark_30 11 rfl ?_
  obtain ⟨_, f32, h⟩ := bO_some h
  obtain ⟨M32, e32, h⟩ := bO_some h
  refine ww_callVV0 32 X dX13_codeMark_32 mY_X13_tellMessage mL_X13_582 (rcv_spec f32) ⟨_, _, rfl⟩ (by decide) (As := [.ref l9, .int l10, .int l11]) (rest := []) rfl rfl ⟨Nat.le_of_ble_eq_true rfl, Nat.le_of_ble_eq_true rfl⟩ (Nat.le_of_ble_eq_true rfl) (fun l D A => c_X13_tellMessage l D A e32) ?_
  refine ww_aload_n 35 X dX13_codeMark_35 0 rfl rfl ?_
  obtain ⟨v36, e36, h⟩ := bO_some h
  refine ww_getR 36 X dX13_codeMark_36 fG_X13_83 e36 ?_
  refine ww_aload_n 39 X dX13_codeMark_39 0 rfl rfl ?_
  obtain ⟨v40, e40, h⟩ := bO_some h
  refine ww_getI 40 X dX13_codeMark_40 fG_X13_579 e40 ?_
  refine ww_bipush 43 X (v := (8 : Int32)) dX13_codeMark_43 (by decide) ?_
  refine ww_ldc2 45 X (v := (8 : Int64)) dX13_codeMark_45 kL_X13_510 ?_
  refine ww_iload 48 X dX13_codeMark_48 8 rfl ?_
  refine ww_i2l 50 X dX13_codeMark_50 ?_
  refine ww_lmul 51 X dX13_codeMark_51 ?_
  obtain ⟨M52, e52, h⟩ := bO_some h
  refine ww_callSV0 52 X dX13_codeMark_52 mY_X13_put mL_X13_328 (As := [.ref v36, .int v40, .int (8 : Int32), .long ((8 : Int64) * (l8.toInt64))]) (rest := []) rfl rfl ⟨Nat.le_of_ble_eq_true rfl, Nat.le_of_ble_eq_true rfl⟩ (Nat.le_of_ble_eq_true rfl) (fun l D A => c_X13_put l D A e52) ?_
  refine ww_aload_n 55 X dX13_codeMark_55 0 rfl rfl ?_
  refine ww_dup 56 X dX13_codeMark_56 rfl ?_
  obtain ⟨v57, e57, h⟩ := bO_some h
  refine ww_getI 57 X dX13_codeMark_57 fG_X13_579 e57 ?_
  refine ww_bipush 60 X (v := (8 : Int32)) dX13_codeMark_60 (by decide) ?_
  refine ww_iadd 62 X dX13_codeMark_62 ?_
  obtain ⟨M63, e63, h⟩ := bO_some h
  refine ww_putI 63 X dX13_codeMark_63 (fP_X13_579 _) e63 ?_
  refine ww_aload_n 66 X dX13_codeMark_66 0 rfl rfl ?_
  refine ww_iload_n 67 X dX13_codeMark_67 1 rfl rfl ?_
  refine ww_if_ne 68 77 X dX13_codeMark_68 (by decide) (fun q => ?_) (fun q => ?_)
  · replace h := (if_neg q).symm.trans h
    refine ww_sipush 77 X (v := (512 : Int32)) dX13_codeMark_77 (by decide) ?_
    exact ww_sub [0, 1, 2, 3] rfl (wB_X13_codeMark_80 X hQ h)
  · replace h := (if_pos q).symm.trans h
    refine ww_sipush 71 X (v := (256 : Int32)) dX13_codeMark_71 (by decide) ?_
    refine ww_goto 74 80 X dX13_codeMark_74 (by decide) ?_
    exact ww_sub [0, 1, 2, 3] rfl (wB_X13_codeMark_80 X hQ h)
theorem c_X13_codeMark {G : mG} {F sz : Nat} {M0 : mM} (l : Launch) (D : mD) (A : Nat → Prop) {l0 : Nat} {l1 : Int32} {l2 : Nat} {l3 : Int32} {l4 : Nat} {l5 : Int32} {l6 : Nat} {l7 : Int32} {l8 : Int32} {l9 : Nat} {l10 : Int32} {l11 : Int32} {M : mM} (h : P_X13_codeMark G F l0 l1 l2 l3 l4 l5 l6 l7 l8 l9 l10 l11 M = some M0) : mMetV l D G A yX13_codeMark cX13_codeMark 13 none 6 143 0 0 [.ref l0, .int l1, .ref l2, .int l3, .ref l4, .int l5, .ref l6, .int l7, .int l8, .ref l9, .int l10, .int l11] M sz M0 sz := mMetV_of l D G A (by decide) (Nat.le_of_ble_eq_true rfl) (fun x X hQ => wP_X13_codeMark X hQ h)
/-! SealedTokensModel.gather([BII)V -/
theorem dX13_gather_0 : decode cX13_gather 0 = .ok (.aload_n 0, 1) := by decide +kernel
theorem dX13_gather_1 : decode cX13_gather 1 = .ok (.getfield 635, 3) := by decide +kernel
theorem dX13_gather_4 : decode cX13_gather 4 = .ok (.lstore 4, 2) := by decide +kernel
theorem dX13_gather_6 : decode cX13_gather 6 = .ok (.aload_n 0, 1) := by decide +kernel
theorem dX13_gather_7 : decode cX13_gather 7 = .ok (.getfield 639, 3) := by decide +kernel
theorem dX13_gather_10 : decode cX13_gather 10 = .ok (.lstore 6, 2) := by decide +kernel
theorem dX13_gather_12 : decode cX13_gather 12 = .ok (.iconst 0, 1) := by decide +kernel
theorem dX13_gather_13 : decode cX13_gather 13 = .ok (.istore 8, 2) := by decide +kernel
theorem dX13_gather_15 : decode cX13_gather 15 = .ok (.iload 8, 2) := by decide +kernel
theorem dX13_gather_17 : decode cX13_gather 17 = .ok (.iload_n 3, 1) := by decide +kernel
theorem dX13_gather_18 : decode cX13_gather 18 = .ok (.if_icmp .ge 64, 3) := by decide +kernel
theorem dX13_gather_21 : decode cX13_gather 21 = .ok (.aload_n 1, 1) := by decide +kernel
theorem dX13_gather_22 : decode cX13_gather 22 = .ok (.iload_n 2, 1) := by decide +kernel
theorem dX13_gather_23 : decode cX13_gather 23 = .ok (.iload 8, 2) := by decide +kernel
theorem dX13_gather_25 : decode cX13_gather 25 = .ok (.iadd, 1) := by decide +kernel
theorem dX13_gather_26 : decode cX13_gather 26 = .ok (.baload, 1) := by decide +kernel
theorem dX13_gather_27 : decode cX13_gather 27 = .ok (.i2l, 1) := by decide +kernel
theorem dX13_gather_28 : decode cX13_gather 28 = .ok (.ldc2_w 315, 3) := by decide +kernel
theorem dX13_gather_31 : decode cX13_gather 31 = .ok (.land, 1) := by decide +kernel
theorem dX13_gather_32 : decode cX13_gather 32 = .ok (.lstore 9, 2) := by decide +kernel
theorem dX13_gather_34 : decode cX13_gather 34 = .ok (.iload 8, 2) := by decide +kernel
theorem dX13_gather_36 : decode cX13_gather 36 = .ok (.bipush 8, 2) := by decide +kernel
theorem dX13_gather_38 : decode cX13_gather 38 = .ok (.if_icmp .ge 22, 3) := by decide +kernel
theorem dX13_gather_41 : decode cX13_gather 41 = .ok (.lload 4, 2) := by decide +kernel
theorem dX13_gather_43 : decode cX13_gather 43 = .ok (.lload 9, 2) := by decide +kernel
theorem dX13_gather_45 : decode cX13_gather 45 = .ok (.bipush 56, 2) := by decide +kernel
theorem dX13_gather_47 : decode cX13_gather 47 = .ok (.bipush 8, 2) := by decide +kernel
theorem dX13_gather_49 : decode cX13_gather 49 = .ok (.iload 8, 2) := by decide +kernel
theorem dX13_gather_51 : decode cX13_gather 51 = .ok (.imul, 1) := by decide +kernel
theorem dX13_gather_52 : decode cX13_gather 52 = .ok (.isub, 1) := by decide +kernel
theorem dX13_gather_53 : decode cX13_gather 53 = .ok (.lshl, 1) := by decide +kernel
theorem dX13_gather_54 : decode cX13_gather 54 = .ok (.lxor, 1) := by decide +kernel
theorem dX13_gather_55 : decode cX13_gather 55 = .ok (.lstore 4, 2) := by decide +kernel
theorem dX13_gather_57 : decode cX13_gather 57 = .ok (.goto 19, 3) := by decide +kernel
theorem dX13_gather_60 : decode cX13_gather 60 = .ok (.lload 6, 2) := by decide +kernel
theorem dX13_gather_62 : decode cX13_gather 62 = .ok (.lload 9, 2) := by decide +kernel
theorem dX13_gather_64 : decode cX13_gather 64 = .ok (.bipush 120, 2) := by decide +kernel
theorem dX13_gather_66 : decode cX13_gather 66 = .ok (.bipush 8, 2) := by decide +kernel
theorem dX13_gather_68 : decode cX13_gather 68 = .ok (.iload 8, 2) := by decide +kernel
theorem dX13_gather_70 : decode cX13_gather 70 = .ok (.imul, 1) := by decide +kernel
theorem dX13_gather_71 : decode cX13_gather 71 = .ok (.isub, 1) := by decide +kernel
theorem dX13_gather_72 : decode cX13_gather 72 = .ok (.lshl, 1) := by decide +kernel
theorem dX13_gather_73 : decode cX13_gather 73 = .ok (.lxor, 1) := by decide +kernel
theorem dX13_gather_74 : decode cX13_gather 74 = .ok (.lstore 6, 2) := by decide +kernel
theorem dX13_gather_76 : decode cX13_gather 76 = .ok (.iinc 8 1, 3) := by decide +kernel
theorem dX13_gather_79 : decode cX13_gather 79 = .ok (.goto (-64), 3) := by decide +kernel
theorem dX13_gather_82 : decode cX13_gather 82 = .ok (.lconst 0, 1) := by decide +kernel
theorem dX13_gather_83 : decode cX13_gather 83 = .ok (.lstore 8, 2) := by decide +kernel
theorem dX13_gather_85 : decode cX13_gather 85 = .ok (.lconst 0, 1) := by decide +kernel
theorem dX13_gather_86 : decode cX13_gather 86 = .ok (.lstore 10, 2) := by decide +kernel
theorem dX13_gather_88 : decode cX13_gather 88 = .ok (.aload_n 0, 1) := by decide +kernel
theorem dX13_gather_89 : decode cX13_gather 89 = .ok (.getfield 642, 3) := by decide +kernel
theorem dX13_gather_92 : decode cX13_gather 92 = .ok (.lstore 12, 2) := by decide +kernel
theorem dX13_gather_94 : decode cX13_gather 94 = .ok (.aload_n 0, 1) := by decide +kernel
theorem dX13_gather_95 : decode cX13_gather 95 = .ok (.getfield 645, 3) := by decide +kernel
theorem dX13_gather_98 : decode cX13_gather 98 = .ok (.lstore 14, 2) := by decide +kernel
theorem dX13_gather_100 : decode cX13_gather 100 = .ok (.iconst 0, 1) := by decide +kernel
theorem dX13_gather_101 : decode cX13_gather 101 = .ok (.istore 16, 2) := by decide +kernel
theorem dX13_gather_103 : decode cX13_gather 103 = .ok (.iload 16, 2) := by decide +kernel
theorem dX13_gather_105 : decode cX13_gather 105 = .ok (.sipush 128, 3) := by decide +kernel
theorem dX13_gather_108 : decode cX13_gather 108 = .ok (.if_icmp .ge 130, 3) := by decide +kernel
theorem dX13_gather_111 : decode cX13_gather 111 = .ok (.iload 16, 2) := by decide +kernel
theorem dX13_gather_113 : decode cX13_gather 113 = .ok (.bipush 64, 2) := by decide +kernel
theorem dX13_gather_115 : decode cX13_gather 115 = .ok (.if_icmp .ge 14, 3) := by decide +kernel
theorem dX13_gather_118 : decode cX13_gather 118 = .ok (.lload 4, 2) := by decide +kernel
theorem dX13_gather_120 : decode cX13_gather 120 = .ok (.bipush 63, 2) := by decide +kernel
theorem dX13_gather_122 : decode cX13_gather 122 = .ok (.iload 16, 2) := by decide +kernel
theorem dX13_gather_124 : decode cX13_gather 124 = .ok (.isub, 1) := by decide +kernel
theorem dX13_gather_125 : decode cX13_gather 125 = .ok (.lushr, 1) := by decide +kernel
theorem dX13_gather_126 : decode cX13_gather 126 = .ok (.goto 11, 3) := by decide +kernel
theorem dX13_gather_129 : decode cX13_gather 129 = .ok (.lload 6, 2) := by decide +kernel
theorem dX13_gather_131 : decode cX13_gather 131 = .ok (.bipush 127, 2) := by decide +kernel
theorem dX13_gather_133 : decode cX13_gather 133 = .ok (.iload 16, 2) := by decide +kernel
theorem dX13_gather_135 : decode cX13_gather 135 = .ok (.isub, 1) := by decide +kernel
theorem dX13_gather_136 : decode cX13_gather 136 = .ok (.lushr, 1) := by decide +kernel
theorem dX13_gather_137 : decode cX13_gather 137 = .ok (.lconst 1, 1) := by decide +kernel
theorem dX13_gather_138 : decode cX13_gather 138 = .ok (.land, 1) := by decide +kernel
theorem dX13_gather_139 : decode cX13_gather 139 = .ok (.lconst 1, 1) := by decide +kernel
theorem dX13_gather_140 : decode cX13_gather 140 = .ok (.lcmp, 1) := by decide +kernel
theorem dX13_gather_141 : decode cX13_gather 141 = .ok (.ifCond .ne 7, 3) := by decide +kernel
theorem dX13_gather_144 : decode cX13_gather 144 = .ok (.iconst 1, 1) := by decide +kernel
theorem dX13_gather_145 : decode cX13_gather 145 = .ok (.goto 4, 3) := by decide +kernel
theorem dX13_gather_148 : decode cX13_gather 148 = .ok (.iconst 0, 1) := by decide +kernel
theorem dX13_gather_149 : decode cX13_gather 149 = .ok (.istore 17, 2) := by decide +kernel
theorem dX13_gather_151 : decode cX13_gather 151 = .ok (.iload 17, 2) := by decide +kernel
theorem dX13_gather_153 : decode cX13_gather 153 = .ok (.ifCond .eq 11, 3) := by decide +kernel
theorem dX13_gather_156 : decode cX13_gather 156 = .ok (.lload 8, 2) := by decide +kernel
theorem dX13_gather_158 : decode cX13_gather 158 = .ok (.lload 12, 2) := by decide +kernel
theorem dX13_gather_160 : decode cX13_gather 160 = .ok (.lxor, 1) := by decide +kernel
theorem dX13_gather_161 : decode cX13_gather 161 = .ok (.goto 5, 3) := by decide +kernel
theorem dX13_gather_164 : decode cX13_gather 164 = .ok (.lload 8, 2) := by decide +kernel
theorem dX13_gather_166 : decode cX13_gather 166 = .ok (.lstore 8, 2) := by decide +kernel
theorem dX13_gather_168 : decode cX13_gather 168 = .ok (.iload 17, 2) := by decide +kernel
theorem dX13_gather_170 : decode cX13_gather 170 = .ok (.ifCond .eq 11, 3) := by decide +kernel
theorem dX13_gather_173 : decode cX13_gather 173 = .ok (.lload 10, 2) := by decide +kernel
theorem dX13_gather_175 : decode cX13_gather 175 = .ok (.lload 14, 2) := by decide +kernel
theorem dX13_gather_177 : decode cX13_gather 177 = .ok (.lxor, 1) := by decide +kernel
theorem dX13_gather_178 : decode cX13_gather 178 = .ok (.goto 5, 3) := by decide +kernel
theorem dX13_gather_181 : decode cX13_gather 181 = .ok (.lload 10, 2) := by decide +kernel
theorem dX13_gather_183 : decode cX13_gather 183 = .ok (.lstore 10, 2) := by decide +kernel
theorem dX13_gather_185 : decode cX13_gather 185 = .ok (.lload 14, 2) := by decide +kernel
theorem dX13_gather_187 : decode cX13_gather 187 = .ok (.lconst 1, 1) := by decide +kernel
theorem dX13_gather_188 : decode cX13_gather 188 = .ok (.land, 1) := by decide +kernel
theorem dX13_gather_189 : decode cX13_gather 189 = .ok (.lconst 1, 1) := by decide +kernel
theorem dX13_gather_190 : decode cX13_gather 190 = .ok (.lcmp, 1) := by decide +kernel
theorem dX13_gather_191 : decode cX13_gather 191 = .ok (.ifCond .ne 7, 3) := by decide +kernel
theorem dX13_gather_194 : decode cX13_gather 194 = .ok (.iconst 1, 1) := by decide +kernel
theorem dX13_gather_195 : decode cX13_gather 195 = .ok (.goto 4, 3) := by decide +kernel
theorem dX13_gather_198 : decode cX13_gather 198 = .ok (.iconst 0, 1) := by decide +kernel
theorem dX13_gather_199 : decode cX13_gather 199 = .ok (.istore 18, 2) := by decide +kernel
theorem dX13_gather_201 : decode cX13_gather 201 = .ok (.lload 14, 2) := by decide +kernel
theorem dX13_gather_203 : decode cX13_gather 203 = .ok (.iconst 1, 1) := by decide +kernel
theorem dX13_gather_204 : decode cX13_gather 204 = .ok (.lushr, 1) := by decide +kernel
theorem dX13_gather_205 : decode cX13_gather 205 = .ok (.lload 12, 2) := by decide +kernel
theorem dX13_gather_207 : decode cX13_gather 207 = .ok (.bipush 63, 2) := by decide +kernel
theorem dX13_gather_209 : decode cX13_gather 209 = .ok (.lshl, 1) := by decide +kernel
theorem dX13_gather_210 : decode cX13_gather 210 = .ok (.lor, 1) := by decide +kernel
theorem dX13_gather_211 : decode cX13_gather 211 = .ok (.lstore 14, 2) := by decide +kernel
theorem dX13_gather_213 : decode cX13_gather 213 = .ok (.lload 12, 2) := by decide +kernel
theorem dX13_gather_215 : decode cX13_gather 215 = .ok (.iconst 1, 1) := by decide +kernel
theorem dX13_gather_216 : decode cX13_gather 216 = .ok (.lushr, 1) := by decide +kernel
theorem dX13_gather_217 : decode cX13_gather 217 = .ok (.iload 18, 2) := by decide +kernel
theorem dX13_gather_219 : decode cX13_gather 219 = .ok (.ifCond .eq 9, 3) := by decide +kernel
theorem dX13_gather_222 : decode cX13_gather 222 = .ok (.ldc2_w 648, 3) := by decide +kernel
theorem dX13_gather_225 : decode cX13_gather 225 = .ok (.goto 4, 3) := by decide +kernel
theorem dX13_gather_228 : decode cX13_gather 228 = .ok (.lconst 0, 1) := by decide +kernel
theorem dX13_gather_229 : decode cX13_gather 229 = .ok (.lxor, 1) := by decide +kernel
theorem dX13_gather_230 : decode cX13_gather 230 = .ok (.lstore 12, 2) := by decide +kernel
theorem dX13_gather_232 : decode cX13_gather 232 = .ok (.iinc 16 1, 3) := by decide +kernel
theorem dX13_gather_235 : decode cX13_gather 235 = .ok (.goto (-132), 3) := by decide +kernel
theorem dX13_gather_238 : decode cX13_gather 238 = .ok (.aload_n 0, 1) := by decide +kernel
theorem dX13_gather_239 : decode cX13_gather 239 = .ok (.lload 8, 2) := by decide +kernel
theorem dX13_gather_241 : decode cX13_gather 241 = .ok (.putfield 635, 3) := by decide +kernel
theorem dX13_gather_244 : decode cX13_gather 244 = .ok (.aload_n 0, 1) := by decide +kernel
theorem dX13_gather_245 : decode cX13_gather 245 = .ok (.lload 10, 2) := by decide +kernel
theorem dX13_gather_247 : decode cX13_gather 247 = .ok (.putfield 639, 3) := by decide +kernel
theorem dX13_gather_250 : decode cX13_gather 250 = .ok (.return_, 1) := by decide +kernel
abbrev rmX13_gather : Room := { frames := 0, cells := 0, slots := 0, locals := 0 }
set_option maxHeartbeats 4000000 in
set_option maxRecDepth 100000 in
theorem wB_X13_gather_199 {G : mG} {F : Nat} {x : mXT} {sz : Nat} {M0 : mM} (X : mCX G RX13 cX13_gather 19 none "gather" rmX13_gather x) (hQ : mQV x M0 (sz, 0, 0)) (r103 : Nat → Int64 → Int64 → Int64 → Int64 → Int64 → Int64 → Int32 → mM → Option mM) (hr103 : ∀ (l0 : Nat) (l4 : Int64) (l6 : Int64) (l8 : Int64) (l10 : Int64) (l12 : Int64) (l14 : Int64) (l16 : Int32) (M : mM), r103 l0 l4 l6 l8 l10 l12 l14 l16 M = some M0 → WW x (sz, 0, 0) M 103 [(0, .ref l0), (4, .long l4), (6, .long l6), (8, .long l8), (10, .long l10), (12, .long l12), (14, .long l14), (16, .int l16)] []) {l0 : Nat} {l4 : Int64} {l6 : Int64} {l8 : Int64} {l10 : Int64} {l12 : Int64} {l14 : Int64} {l16 : Int32} {sk0 : Int32} {M : mM} (h : B_X13_gather_199 G F r103 l0 l4 l6 l8 l10 l12 l14 l16 sk0 M = some M0) : WW x (sz, 0, 0) M 199 [(0, .ref l0), (4, .long l4), (6, .long l6), (8, .long l8), (10, .long l10), (12, .long l12), (14, .long l14), (16, .int l16)] [.int sk0] := by
  unfold B_X13_gather_199 at h
  refine ww_istore 199 X dX13_gather_199 (lv' := [(0, .ref l0), (4, .long l4), (6, .long l6), (8, .long l8), (10, .long l10), (12, .long l12), (14, .long l14), (16, .int l16), (18, .int sk0)]) (by decide) [1, 2, 3, 4, 5, 6, 7, 8, 0] rfl ?_
  refine ww_lload 201 X dX13_gather_201 6 rfl ?_
  refine ww_iconst 203 X (v := (1 : Int32)) dX13_gather_203 (by decide) ?_
  refine ww_lushr 204 X dX13_gather_204 ?_
  refine ww_lload 205 X dX13_gather_205 5 rfl ?_
  refine ww_bipush 207 X (v := (63 : Int32)) dX13_gather_207 (by decide) ?_
  refine ww_lshl 209 X dX13_gather_209 ?_
  refine ww_lor 210 X dX13_gather_210 ?_
  refine ww_lstore 211 X dX13_gather_211 (lv' := [(0, .ref l0), (4, .long l4), (6, .long l6), (8, .long l8), (10, .long l10), (12, .long l12), (14, .long ((ushL l14 (1 : Int32)) ||| (shlL l12 (63 : Int32)))), (16, .int l16), (18, .int sk0)]) (by decide) [1, 2, 3, 4, 5, 6, 0, 7, 8] rfl ?_
  refine ww_lload 213 X dX13_gather_213 5 rfl ?_
  refine ww_iconst 215 X (v := (1 : Int32)) dX13_gather_215 (by decide) ?_
  refine ww_lushr 216 X dX13_gather_216 ?_
  refine ww_iload 217 X dX13_gather_217 8 rfl ?_
  refine ww_if_eq 219 228 X dX13_gather_219 (by decide) (fun q => ?_) (fun q => ?_)
  · replace h := (if_pos q).symm.trans h
    refine ww_lconst 228 X (v := (0 : Int64)) dX13_gather_228 (by decide) ?_
    refine ww_lxor 229 X dX13_gather_229 ?_
    refine ww_lstore 230 X dX13_gather_230 (lv' := [(0, .ref l0), (4, .long l4), (6, .long l6), (8, .long l8), (10, .long l10), (12, .long ((ushL l12 (1 : Int32)) ^^^ (0 : Int64))), (14, .long ((ushL l14 (1 : Int32)) ||| (shlL l12 (63 : Int32)))), (16, .int l16), (18, .int sk0)]) (by decide) [1, 2, 3, 4, 5, 0, 6, 7, 8] rfl ?_
    refine ww_iinc 232 X dX13_gather_232 (lv' := [(0, .ref l0), (4, .long l4), (6, .long l6), (8, .long l8), (10, .long l10), (12, .long ((ushL l12 (1 : Int32)) ^^^ (0 : Int64))), (14, .long ((ushL l14 (1 : Int32)) ||| (shlL l12 (63 : Int32)))), (16, .int (l16 + 1)), (18, .int sk0)]) 7 rfl rfl (by decide) [1, 2, 3, 4, 5, 6, 7, 0, 8] rfl ?_
    refine ww_goto 235 103 X dX13_gather_235 (by decide) ?_
    exact ww_sub [0, 1, 2, 3, 4, 5, 6, 7] rfl (hr103 _ _ _ _ _ _ _ _ _ h)
  · replace h := (if_neg q).symm.trans h
    refine ww_ldc2 222 X (v := (-2233785415175766016 : Int64)) dX13_gather_222 kL_X13_648 ?_
    refine ww_goto 225 229 X dX13_gather_225 (by decide) ?_
    refine ww_lxor 229 X dX13_gather_229 ?_
    refine ww_lstore 230 X dX13_gather_230 (lv' := [(0, .ref l0), (4, .long l4), (6, .long l6), (8, .long l8), (10, .long l10), (12, .long ((ushL l12 (1 : Int32)) ^^^ (-2233785415175766016 : Int64))), (14, .long ((ushL l14 (1 : Int32)) ||| (shlL l12 (63 : Int32)))), (16, .int l16), (18, .int sk0)]) (by decide) [1, 2, 3, 4, 5, 0, 6, 7, 8] rfl ?_
    refine ww_iinc 232 X dX13_gather_232 (lv' := [(0, .ref l0), (4, .long l4), (6, .long l6), (8, .long l8), (10, .long l10), (12, .long ((ushL l12 (1 : Int32)) ^^^ (-2233785415175766016 : Int64))), (14, .long ((ushL l14 (1 : Int32)) ||| (shlL l12 (63 : Int32)))), (16, .int (l16 + 1)), (18, .int sk0)]) 7 rfl rfl (by decide) [1, 2, 3, 4, 5, 6, 7, 0, 8] rfl ?_
    refine ww_goto 235 103 X dX13_gather_235 (by decide) ?_
    exact ww_sub [0, 1, 2, 3, 4, 5, 6, 7] rfl (hr103 _ _ _ _ _ _ _ _ _ h)
set_option maxHeartbeats 4000000 in
set_option maxRecDepth 100000 in
theorem wB_X13_gather_166 {G : mG} {F : Nat} {x : mXT} {sz : Nat} {M0 : mM} (X : mCX G RX13 cX13_gather 19 none "gather" rmX13_gather x) (hQ : mQV x M0 (sz, 0, 0)) (r103 : Nat → Int64 → Int64 → Int64 → Int64 → Int64 → Int64 → Int32 → mM → Option mM) (hr103 : ∀ (l0 : Nat) (l4 : Int64) (l6 : Int64) (l8 : Int64) (l10 : Int64) (l12 : Int64) (l14 : Int64) (l16 : Int32) (M : mM), r103 l0 l4 l6 l8 l10 l12 l14 l16 M = some M0 → WW x (sz, 0, 0) M 103 [(0, .ref l0), (4, .long l4), (6, .long l6), (8, .long l8), (10, .long l10), (12, .long l12), (14, .long l14), (16, .int l16)] []) {l0 : Nat} {l4 : Int64} {l6 : Int64} {l10 : Int64} {l12 : Int64} {l14 : Int64} {l16 : Int32} {l17 : Int32} {sk0 : Int64} {M : mM} (h : B_X13_gather_166 G F r103 l0 l4 l6 l10 l12 l14 l16 l17 sk0 M = some M0) : WW x (sz, 0, 0) M 166 [(0, .ref l0), (4, .long l4), (6, .long l6), (10, .long l10), (12, .long l12), (14, .long l14), (16, .int l16), (17, .int l17)] [.long sk0] := by
  unfold B_X13_gather_166 at h
  refine ww_lstore 166 X dX13_gather_166 (lv' := [(0, .ref l0), (4, .long l4), (6, .long l6), (8, .long sk0), (10, .long l10), (12, .long l12), (14, .long l14), (16, .int l16), (17, .int l17)]) (by decide) [1, 2, 3, 0, 4, 5, 6, 7, 8] rfl ?_
  refine ww_iload 168 X dX13_gather_168 8 rfl ?_
  refine ww_if_eq 170 181 X dX13_gather_170 (by decide) (fun q => ?_) (fun q => ?_)
  · replace h := (if_pos q).symm.trans h
    refine ww_lload 181 X dX13_gather_181 4 rfl ?_
    refine ww_lstore 183 X dX13_gather_183 (lv' := [(0, .ref l0), (4, .long l4), (6, .long l6), (8, .long sk0), (10, .long l10), (12, .long l12), (14, .long l14), (16, .int l16), (17, .int l17)]) (by decide) [1, 2, 3, 4, 0, 5, 6, 7, 8] rfl ?_
    refine ww_lload 185 X dX13_gather_185 6 rfl ?_
    refine ww_lconst 187 X (v := (1 : Int64)) dX13_gather_187 (by decide) ?_
    refine ww_land 188 X dX13_gather_188 ?_
    refine ww_lconst 189 X (v := (1 : Int64)) dX13_gather_189 (by decide) ?_
    refine ww_lcmp 190 X dX13_gather_190 ?_
    refine ww_if_ne 191 198 X dX13_gather_191 (by decide) (fun q => ?_) (fun q => ?_)
    · replace h := (if_neg q).symm.trans h
      refine ww_iconst 198 X (v := (0 : Int32)) dX13_gather_198 (by decide) ?_
      exact ww_sub [0, 1, 2, 3, 4, 5, 6, 7] rfl (wB_X13_gather_199 X hQ _ hr103 h)
    · replace h := (if_pos q).symm.trans h
      refine ww_iconst 194 X (v := (1 : Int32)) dX13_gather_194 (by decide) ?_
      refine ww_goto 195 199 X dX13_gather_195 (by decide) ?_
      exact ww_sub [0, 1, 2, 3, 4, 5, 6, 7] rfl (wB_X13_gather_199 X hQ _ hr103 h)
  · replace h := (if_neg q).symm.trans h
    refine ww_lload 173 X dX13_gather_173 4 rfl ?_
    refine ww_lload 175 X dX13_gather_175 6 rfl ?_
    refine ww_lxor 177 X dX13_gather_177 ?_
    refine ww_goto 178 183 X dX13_gather_178 (by decide) ?_
    refine ww_lstore 183 X dX13_gather_183 (lv' := [(0, .ref l0), (4, .long l4), (6, .long l6), (8, .long sk0), (10, .long (l10 ^^^ l14)), (12, .long l12), (14, .long l14), (16, .int l16), (17, .int l17)]) (by decide) [1, 2, 3, 4, 0, 5, 6, 7, 8] rfl ?_
    refine ww_lload 185 X dX13_gather_185 6 rfl ?_
    refine ww_lconst 187 X (v := (1 : Int64)) dX13_gather_187 (by decide) ?_
    refine ww_land 188 X dX13_gather_188 ?_
    refine ww_lconst 189 X (v := (1 : Int64)) dX13_gather_189 (by decide) ?_
    refine ww_lcmp 190 X dX13_gather_190 ?_
    refine ww_if_ne 191 198 X dX13_gather_191 (by decide) (fun q => ?_) (fun q => ?_)
    · replace h := (if_neg q).symm.trans h
      refine ww_iconst 198 X (v := (0 : Int32)) dX13_gather_198 (by decide) ?_
      exact ww_sub [0, 1, 2, 3, 4, 5, 6, 7] rfl (wB_X13_gather_199 X hQ _ hr103 h)
    · replace h := (if_pos q).symm.trans h
      refine ww_iconst 194 X (v := (1 : Int32)) dX13_gather_194 (by decide) ?_
      refine ww_goto 195 199 X dX13_gather_195 (by decide) ?_
      exact ww_sub [0, 1, 2, 3, 4, 5, 6, 7] rfl (wB_X13_gather_199 X hQ _ hr103 h)
set_option maxHeartbeats 4000000 in
set_option maxRecDepth 100000 in
theorem wB_X13_gather_137 {G : mG} {F : Nat} {x : mXT} {sz : Nat} {M0 : mM} (X : mCX G RX13 cX13_gather 19 none "gather" rmX13_gather x) (hQ : mQV x M0 (sz, 0, 0)) (r103 : Nat → Int64 → Int64 → Int64 → Int64 → Int64 → Int64 → Int32 → mM → Option mM) (hr103 : ∀ (l0 : Nat) (l4 : Int64) (l6 : Int64) (l8 : Int64) (l10 : Int64) (l12 : Int64) (l14 : Int64) (l16 : Int32) (M : mM), r103 l0 l4 l6 l8 l10 l12 l14 l16 M = some M0 → WW x (sz, 0, 0) M 103 [(0, .ref l0), (4, .long l4), (6, .long l6), (8, .long l8), (10, .long l10), (12, .long l12), (14, .long l14), (16, .int l16)] []) {l0 : Nat} {l4 : Int64} {l6 : Int64} {l8 : Int64} {l10 : Int64} {l12 : Int64} {l14 : Int64} {l16 : Int32} {sk0 : Int64} {M : mM} (h : B_X13_gather_137 G F r103 l0 l4 l6 l8 l10 l12 l14 l16 sk0 M = some M0) : WW x (sz, 0, 0) M 137 [(0, .ref l0), (4, .long l4), (6, .long l6), (8, .long l8), (10, .long l10), (12, .long l12), (14, .long l14), (16, .int l16)] [.long sk0] := by
  unfold B_X13_gather_137 at h
  refine ww_lconst 137 X (v := (1 : Int64)) dX13_gather_137 (by decide) ?_
  refine ww_land 138 X dX13_gather_138 ?_
  refine ww_lconst 139 X (v := (1 : Int64)) dX13_gather_139 (by decide) ?_
  refine ww_lcmp 140 X dX13_gather_140 ?_
  refine ww_if_ne 141 148 X dX13_gather_141 (by decide) (fun q => ?_) (fun q => ?_)
  · replace h := (if_neg q).symm.trans h
    refine ww_iconst 148 X (v := (0 : Int32)) dX13_gather_148 (by decide) ?_
    refine ww_istore 149 X dX13_gather_149 (lv' := [(0, .ref l0), (4, .long l4), (6, .long l6), (8, .long l8), (10, .long l10), (12, .long l12), (14, .long l14), (16, .int l16), (17, .int (0 : Int32))]) (by decide) [1, 2, 3, 4, 5, 6, 7, 8, 0] rfl ?_
    refine ww_iload 151 X dX13_gather_151 8 rfl ?_
    refine ww_if_eq 153 164 X dX13_gather_153 (by decide) (fun q => ?_) (fun q => ?_)
    · replace h := (if_pos q).symm.trans h
      refine ww_lload 164 X dX13_gather_164 3 rfl ?_
      exact ww_sub [0, 1, 2, 4, 5, 6, 7, 8] rfl (wB_X13_gather_166 X hQ _ hr103 h)
    · replace h := (if_neg q).symm.trans h
      refine ww_lload 156 X dX13_gather_156 3 rfl ?_
      refine ww_lload 158 X dX13_gather_158 5 rfl ?_
      refine ww_lxor 160 X dX13_gather_160 ?_
      refine ww_goto 161 166 X dX13_gather_161 (by decide) ?_
      exact ww_sub [0, 1, 2, 4, 5, 6, 7, 8] rfl (wB_X13_gather_166 X hQ _ hr103 h)
  · replace h := (if_pos q).symm.trans h
    refine ww_iconst 144 X (v := (1 : Int32)) dX13_gather_144 (by decide) ?_
    refine ww_goto 145 149 X dX13_gather_145 (by decide) ?_
    refine ww_istore 149 X dX13_gather_149 (lv' := [(0, .ref l0), (4, .long l4), (6, .long l6), (8, .long l8), (10, .long l10), (12, .long l12), (14, .long l14), (16, .int l16), (17, .int (1 : Int32))]) (by decide) [1, 2, 3, 4, 5, 6, 7, 8, 0] rfl ?_
    refine ww_iload 151 X dX13_gather_151 8 rfl ?_
    refine ww_if_eq 153 164 X dX13_gather_153 (by decide) (fun q => ?_) (fun q => ?_)
    · replace h := (if_pos q).symm.trans h
      refine ww_lload 164 X dX13_gather_164 3 rfl ?_
      exact ww_sub [0, 1, 2, 4, 5, 6, 7, 8] rfl (wB_X13_gather_166 X hQ _ hr103 h)
    · replace h := (if_neg q).symm.trans h
      refine ww_lload 156 X dX13_gather_156 3 rfl ?_
      refine ww_lload 158 X dX13_gather_158 5 rfl ?_
      refine ww_lxor 160 X dX13_gather_160 ?_
      refine ww_goto 161 166 X dX13_gather_161 (by decide) ?_
      exact ww_sub [0, 1, 2, 4, 5, 6, 7, 8] rfl (wB_X13_gather_166 X hQ _ hr103 h)
set_option maxHeartbeats 4000000 in
set_option maxRecDepth 100000 in
theorem wB_X13_gather_103 {G : mG} {F : Nat} {x : mXT} {sz : Nat} {M0 : mM} (X : mCX G RX13 cX13_gather 19 none "gather" rmX13_gather x) (hQ : mQV x M0 (sz, 0, 0)) : ∀ (n : Nat) (l0 : Nat) (l4 : Int64) (l6 : Int64) (l8 : Int64) (l10 : Int64) (l12 : Int64) (l14 : Int64) (l16 : Int32) (M : mM), B_X13_gather_103 G F n l0 l4 l6 l8 l10 l12 l14 l16 M = some M0 → WW x (sz, 0, 0) M 103 [(0, .ref l0), (4, .long l4), (6, .long l6), (8, .long l8), (10, .long l10), (12, .long l12), (14, .long l14), (16, .int l16)] [] := by
  intro n
  induction n with
  | zero =>
    intro l0 l4 l6 l8 l10 l12 l14 l16 M h
    exact nomatch (show (none : Option mM) = some M0 from h)
  | succ n ih =>
    intro l0 l4 l6 l8 l10 l12 l14 l16 M h
    rw [B_X13_gather_103] at h
    refine ww_iload 103 X dX13_gather_103 7 rfl ?_
    refine ww_sipush 105 X (v := (128 : Int32)) dX13_gather_105 (by decide) ?_
    refine ww_icmp_ge 108 238 X dX13_gather_108 (by decide) (fun q => ?_) (fun q => ?_)
    · replace h := (if_pos q).symm.trans h
      refine ww_aload_n 238 X dX13_gather_238 0 rfl rfl ?_
      refine ww_lload 239 X dX13_gather_239 3 rfl ?_
      obtain ⟨M241, e241, h⟩ := bO_some h
      refine ww_putL 241 X dX13_gather_241 (fP_X13_635 _) e241 ?_
      refine ww_aload_n 244 X dX13_gather_244 0 rfl rfl ?_
      refine ww_lload 245 X dX13_gather_245 4 rfl ?_
      obtain ⟨M247, e247, h⟩ := bO_some h
      refine ww_putL 247 X dX13_gather_247 (fP_X13_639 _) e247 ?_
      exact ww_vretE 250 X hQ dX13_gather_250 h
    · replace h := (if_neg q).symm.trans h
      refine ww_iload 111 X dX13_gather_111 7 rfl ?_
      refine ww_bipush 113 X (v := (64 : Int32)) dX13_gather_113 (by decide) ?_
      refine ww_icmp_ge 115 129 X dX13_gather_115 (by decide) (fun q => ?_) (fun q => ?_)
      · replace h := (if_pos q).symm.trans h
        refine ww_lload 129 X dX13_gather_129 2 rfl ?_
        refine ww_bipush 131 X (v := (127 : Int32)) dX13_gather_131 (by decide) ?_
        refine ww_iload 133 X dX13_gather_133 7 rfl ?_
        refine ww_isub 135 X dX13_gather_135 ?_
        refine ww_lushr 136 X dX13_gather_136 ?_
        exact (wB_X13_gather_137 X hQ _ ih h)
      · replace h := (if_neg q).symm.trans h
        refine ww_lload 118 X dX13_gather_118 1 rfl ?_
        refine ww_bipush 120 X (v := (63 : Int32)) dX13_gather_120 (by decide) ?_
        refine ww_iload 122 X dX13_gather_122 7 rfl ?_
        refine ww_isub 124 X dX13_gather_124 ?_
        refine ww_lushr 125 X dX13_gather_125 ?_
        refine ww_goto 126 137 X dX13_gather_126 (by decide) ?_
        exact (wB_X13_gather_137 X hQ _ ih h)
set_option maxHeartbeats 4000000 in
set_option maxRecDepth 100000 in
theorem wB_X13_gather_15 {G : mG} {F : Nat} {x : mXT} {sz : Nat} {M0 : mM} (X : mCX G RX13 cX13_gather 19 none "gather" rmX13_gather x) (hQ : mQV x M0 (sz, 0, 0)) : ∀ (n : Nat) (l0 : Nat) (l1 : Nat) (l2 : Int32) (l3 : Int32) (l4 : Int64) (l6 : Int64) (l8 : Int32) (M : mM), B_X13_gather_15 G F n l0 l1 l2 l3 l4 l6 l8 M = some M0 → WW x (sz, 0, 0) M 15 [(0, .ref l0), (1, .ref l1), (2, .int l2), (3, .int l3), (4, .long l4), (6, .long l6), (8, .int l8)] [] := by
  intro n
  induction n with
  | zero =>
    intro l0 l1 l2 l3 l4 l6 l8 M h
    exact nomatch (show (none : Option mM) = some M0 from h)
  | succ n ih =>
    intro l0 l1 l2 l3 l4 l6 l8 M h
    rw [B_X13_gather_15] at h
    refine ww_iload 15 X dX13_gather_15 6 rfl ?_
    refine ww_iload_n 17 X dX13_gather_17 3 rfl rfl ?_
    refine ww_icmp_ge 18 82 X dX13_gather_18 (by decide) (fun q => ?_) (fun q => ?_)
    · replace h := (if_pos q).symm.trans h
      refine ww_lconst 82 X (v := (0 : Int64)) dX13_gather_82 (by decide) ?_
      refine ww_lstore 83 X dX13_gather_83 (lv' := [(0, .ref l0), (1, .ref l1), (2, .int l2), (3, .int l3), (4, .long l4), (6, .long l6), (8, .long (0 : Int64))]) (by decide) [1, 2, 3, 4, 5, 6, 0] rfl ?_
      refine ww_lconst 85 X (v := (0 : Int64)) dX13_gather_85 (by decide) ?_
      refine ww_lstore 86 X dX13_gather_86 (lv' := [(0, .ref l0), (1, .ref l1), (2, .int l2), (3, .int l3), (4, .long l4), (6, .long l6), (8, .long (0 : Int64)), (10, .long (0 : Int64))]) (by decide) [1, 2, 3, 4, 5, 6, 7, 0] rfl ?_
      refine ww_aload_n 88 X dX13_gather_88 0 rfl rfl ?_
      obtain ⟨v89, e89, h⟩ := bO_some h
      refine ww_getL 89 X dX13_gather_89 fG_X13_642 e89 ?_
      refine ww_lstore 92 X dX13_gather_92 (lv' := [(0, .ref l0), (1, .ref l1), (2, .int l2), (3, .int l3), (4, .long l4), (6, .long l6), (8, .long (0 : Int64)), (10, .long (0 : Int64)), (12, .long v89)]) (by decide) [1, 2, 3, 4, 5, 6, 7, 8, 0] rfl ?_
      refine ww_aload_n 94 X dX13_gather_94 0 rfl rfl ?_
      obtain ⟨v95, e95, h⟩ := bO_some h
      refine ww_getL 95 X dX13_gather_95 fG_X13_645 e95 ?_
      refine ww_lstore 98 X dX13_gather_98 (lv' := [(0, .ref l0), (1, .ref l1), (2, .int l2), (3, .int l3), (4, .long l4), (6, .long l6), (8, .long (0 : Int64)), (10, .long (0 : Int64)), (12, .long v89), (14, .long v95)]) (by decide) [1, 2, 3, 4, 5, 6, 7, 8, 9, 0] rfl ?_
      refine ww_iconst 100 X (v := (0 : Int32)) dX13_gather_100 (by decide) ?_
      refine ww_istore 101 X dX13_gather_101 (lv' := [(0, .ref l0), (1, .ref l1), (2, .int l2), (3, .int l3), (4, .long l4), (6, .long l6), (8, .long (0 : Int64)), (10, .long (0 : Int64)), (12, .long v89), (14, .long v95), (16, .int (0 : Int32))]) (by decide) [1, 2, 3, 4, 5, 6, 7, 8, 9, 10, 0] rfl ?_
      exact ww_sub [0, 4, 5, 6, 7, 8, 9, 10] rfl (wB_X13_gather_103 X hQ F _ _ _ _ _ _ _ _ _ h)
    · replace h := (if_neg q).symm.trans h
      refine ww_aload_n 21 X dX13_gather_21 1 rfl rfl ?_
      refine ww_iload_n 22 X dX13_gather_22 2 rfl rfl ?_
      refine ww_iload 23 X dX13_gather_23 6 rfl ?_
      refine ww_iadd 25 X dX13_gather_25 ?_
      obtain ⟨v26, e26, h⟩ := bO_some h
      refine ww_bald 26 X dX13_gather_26 e26 ?_
      refine ww_i2l 27 X dX13_gather_27 ?_
      refine ww_ldc2 28 X (v := (255 : Int64)) dX13_gather_28 kL_X13_315 ?_
      refine ww_land 31 X dX13_gather_31 ?_
      refine ww_lstore 32 X dX13_gather_32 (lv' := [(0, .ref l0), (1, .ref l1), (2, .int l2), (3, .int l3), (4, .long l4), (6, .long l6), (8, .int l8), (9, .long ((v26.toInt64) &&& (255 : Int64)))]) (by decide) [1, 2, 3, 4, 5, 6, 7, 0] rfl ?_
      refine ww_iload 34 X dX13_gather_34 6 rfl ?_
      refine ww_bipush 36 X (v := (8 : Int32)) dX13_gather_36 (by decide) ?_
      refine ww_icmp_ge 38 60 X dX13_gather_38 (by decide) (fun q => ?_) (fun q => ?_)
      · replace h := (if_pos q).symm.trans h
        refine ww_lload 60 X dX13_gather_60 5 rfl ?_
        refine ww_lload 62 X dX13_gather_62 7 rfl ?_
        refine ww_bipush 64 X (v := (120 : Int32)) dX13_gather_64 (by decide) ?_
        refine ww_bipush 66 X (v := (8 : Int32)) dX13_gather_66 (by decide) ?_
        refine ww_iload 68 X dX13_gather_68 6 rfl ?_
        refine ww_imul 70 X dX13_gather_70 ?_
        refine ww_isub 71 X dX13_gather_71 ?_
        refine ww_lshl 72 X dX13_gather_72 ?_
        refine ww_lxor 73 X dX13_gather_73 ?_
        refine ww_lstore 74 X dX13_gather_74 (lv' := [(0, .ref l0), (1, .ref l1), (2, .int l2), (3, .int l3), (4, .long l4), (6, .long (l6 ^^^ (shlL ((v26.toInt64) &&& (255 : Int64)) ((120 : Int32) - ((8 : Int32) * l8))))), (8, .int l8), (9, .long ((v26.toInt64) &&& (255 : Int64)))]) (by decide) [1, 2, 3, 4, 5, 0, 6, 7] rfl ?_
        refine ww_iinc 76 X dX13_gather_76 (lv' := [(0, .ref l0), (1, .ref l1), (2, .int l2), (3, .int l3), (4, .long l4), (6, .long (l6 ^^^ (shlL ((v26.toInt64) &&& (255 : Int64)) ((120 : Int32) - ((8 : Int32) * l8))))), (8, .int (l8 + 1)), (9, .long ((v26.toInt64) &&& (255 : Int64)))]) 6 rfl rfl (by decide) [1, 2, 3, 4, 5, 6, 0, 7] rfl ?_
        refine ww_goto 79 15 X dX13_gather_79 (by decide) ?_
        exact ww_sub [0, 1, 2, 3, 4, 5, 6] rfl (ih _ _ _ _ _ _ _ _ h)
      · replace h := (if_neg q).symm.trans h
        refine ww_lload 41 X dX13_gather_41 4 rfl ?_
        refine ww_lload 43 X dX13_gather_43 7 rfl ?_
        refine ww_bipush 45 X (v := (56 : Int32)) dX13_gather_45 (by decide) ?_
        refine ww_bipush 47 X (v := (8 : Int32)) dX13_gather_47 (by decide) ?_
        refine ww_iload 49 X dX13_gather_49 6 rfl ?_
        refine ww_imul 51 X dX13_gather_51 ?_
        refine ww_isub 52 X dX13_gather_52 ?_
        refine ww_lshl 53 X dX13_gather_53 ?_
        refine ww_lxor 54 X dX13_gather_54 ?_
        refine ww_lstore 55 X dX13_gather_55 (lv' := [(0, .ref l0), (1, .ref l1), (2, .int l2), (3, .int l3), (4, .long (l4 ^^^ (shlL ((v26.toInt64) &&& (255 : Int64)) ((56 : Int32) - ((8 : Int32) * l8))))), (6, .long l6), (8, .int l8), (9, .long ((v26.toInt64) &&& (255 : Int64)))]) (by decide) [1, 2, 3, 4, 0, 5, 6, 7] rfl ?_
        refine ww_goto 57 76 X dX13_gather_57 (by decide) ?_
        refine ww_iinc 76 X dX13_gather_76 (lv' := [(0, .ref l0), (1, .ref l1), (2, .int l2), (3, .int l3), (4, .long (l4 ^^^ (shlL ((v26.toInt64) &&& (255 : Int64)) ((56 : Int32) - ((8 : Int32) * l8))))), (6, .long l6), (8, .int (l8 + 1)), (9, .long ((v26.toInt64) &&& (255 : Int64)))]) 6 rfl rfl (by decide) [1, 2, 3, 4, 5, 6, 0, 7] rfl ?_
        refine ww_goto 79 15 X dX13_gather_79 (by decide) ?_
        exact ww_sub [0, 1, 2, 3, 4, 5, 6] rfl (ih _ _ _ _ _ _ _ _ h)
set_option maxHeartbeats 4000000 in
set_option maxRecDepth 100000 in
theorem wP_X13_gather {G : mG} {F : Nat} {x : mXT} {sz : Nat} {M0 : mM} (X : mCX G RX13 cX13_gather 19 none "gather" rmX13_gather x) (hQ : mQV x M0 (sz, 0, 0)) {l0 : Nat} {l1 : Nat} {l2 : Int32} {l3 : Int32} {M : mM} (h : P_X13_gather G F l0 l1 l2 l3 M = some M0) : WW x (sz, 0, 0) M 0 [(0, .ref l0), (1, .ref l1), (2, .int l2), (3, .int l3)] [] := by
  unfold P_X13_gather at h
  refine ww_aload_n 0 X dX13_gather_0 0 rfl rfl ?_
  obtain ⟨v1, e1, h⟩ := bO_some h
  refine ww_getL 1 X dX13_gather_1 fG_X13_635 e1 ?_
  refine ww_lstore 4 X dX13_gather_4 (lv' := [(0, .ref l0), (1, .ref l1), (2, .int l2), (3, .int l3), (4, .long v1)]) (by decide) [1, 2, 3, 4, 0] rfl ?_
  refine ww_aload_n 6 X dX13_gather_6 0 rfl rfl ?_
  obtain ⟨v7, e7, h⟩ := bO_some h
  refine ww_getL 7 X dX13_gather_7 fG_X13_639 e7 ?_
  refine ww_lstore 10 X dX13_gather_10 (lv' := [(0, .ref l0), (1, .ref l1), (2, .int l2), (3, .int l3), (4, .long v1), (6, .long v7)]) (by decide) [1, 2, 3, 4, 5, 0] rfl ?_
  refine ww_iconst 12 X (v := (0 : Int32)) dX13_gather_12 (by decide) ?_
  refine ww_istore 13 X dX13_gather_13 (lv' := [(0, .ref l0), (1, .ref l1), (2, .int l2), (3, .int l3), (4, .long v1), (6, .long v7), (8, .int (0 : Int32))]) (by decide) [1, 2, 3, 4, 5, 6, 0] rfl ?_
  exact (wB_X13_gather_15 X hQ F _ _ _ _ _ _ _ _ h)
theorem c_X13_gather {G : mG} {F sz : Nat} {M0 : mM} (l : Launch) (D : mD) (A : Nat → Prop) {l0 : Nat} {l1 : Nat} {l2 : Int32} {l3 : Int32} {M : mM} (h : P_X13_gather G F l0 l1 l2 l3 M = some M0) : mMetV l D G A yX13_gather cX13_gather 19 none 0 0 0 0 [.ref l0, .ref l1, .int l2, .int l3] M sz M0 sz := mMetV_of l D G A (by decide) (Nat.le_of_ble_eq_true rfl) (fun x X hQ => wP_X13_gather X hQ h)
/-! SealedTokensModel.gatherAll([BII)V -/
theorem dX13_gatherAll_0 : decode cX13_gatherAll 0 = .ok (.iconst 0, 1) := by decide +kernel
theorem dX13_gatherAll_1 : decode cX13_gatherAll 1 = .ok (.istore 4, 2) := by decide +kernel
theorem dX13_gatherAll_3 : decode cX13_gatherAll 3 = .ok (.iload 4, 2) := by decide +kernel
theorem dX13_gatherAll_5 : decode cX13_gatherAll 5 = .ok (.iload_n 3, 1) := by decide +kernel
theorem dX13_gatherAll_6 : decode cX13_gatherAll 6 = .ok (.if_icmp .ge 36, 3) := by decide +kernel
theorem dX13_gatherAll_9 : decode cX13_gatherAll 9 = .ok (.aload_n 0, 1) := by decide +kernel
theorem dX13_gatherAll_10 : decode cX13_gatherAll 10 = .ok (.aload_n 1, 1) := by decide +kernel
theorem dX13_gatherAll_11 : decode cX13_gatherAll 11 = .ok (.iload_n 2, 1) := by decide +kernel
theorem dX13_gatherAll_12 : decode cX13_gatherAll 12 = .ok (.iload 4, 2) := by decide +kernel
theorem dX13_gatherAll_14 : decode cX13_gatherAll 14 = .ok (.iadd, 1) := by decide +kernel
theorem dX13_gatherAll_15 : decode cX13_gatherAll 15 = .ok (.iload_n 3, 1) := by decide +kernel
theorem dX13_gatherAll_16 : decode cX13_gatherAll 16 = .ok (.iload 4, 2) := by decide +kernel
theorem dX13_gatherAll_18 : decode cX13_gatherAll 18 = .ok (.isub, 1) := by decide +kernel
theorem dX13_gatherAll_19 : decode cX13_gatherAll 19 = .ok (.bipush 16, 2) := by decide +kernel
theorem dX13_gatherAll_21 : decode cX13_gatherAll 21 = .ok (.if_icmp .ge 10, 3) := by decide +kernel
theorem dX13_gatherAll_24 : decode cX13_gatherAll 24 = .ok (.iload_n 3, 1) := by decide +kernel
theorem dX13_gatherAll_25 : decode cX13_gatherAll 25 = .ok (.iload 4, 2) := by decide +kernel
theorem dX13_gatherAll_27 : decode cX13_gatherAll 27 = .ok (.isub, 1) := by decide +kernel
theorem dX13_gatherAll_28 : decode cX13_gatherAll 28 = .ok (.goto 5, 3) := by decide +kernel
theorem dX13_gatherAll_31 : decode cX13_gatherAll 31 = .ok (.bipush 16, 2) := by decide +kernel
theorem dX13_gatherAll_33 : decode cX13_gatherAll 33 = .ok (.invokevirtual 650, 3) := by decide +kernel
theorem dX13_gatherAll_36 : decode cX13_gatherAll 36 = .ok (.iinc 4 16, 3) := by decide +kernel
theorem dX13_gatherAll_39 : decode cX13_gatherAll 39 = .ok (.goto (-36), 3) := by decide +kernel
theorem dX13_gatherAll_42 : decode cX13_gatherAll 42 = .ok (.return_, 1) := by decide +kernel
abbrev rmX13_gatherAll : Room := { frames := 1, cells := 0, slots := 0, locals := 38 }
set_option maxHeartbeats 4000000 in
set_option maxRecDepth 100000 in
theorem wB_X13_gatherAll_3 {G : mG} {F : Nat} {x : mXT} {sz : Nat} {M0 : mM} (X : mCX G RX13 cX13_gatherAll 5 none "gatherAll" rmX13_gatherAll x) (hQ : mQV x M0 (sz, 0, 0)) : ∀ (n : Nat) (l0 : Nat) (l1 : Nat) (l2 : Int32) (l3 : Int32) (l4 : Int32) (M : mM), B_X13_gatherAll_3 G F n l0 l1 l2 l3 l4 M = some M0 → WW x (sz, 0, 0) M 3 [(0, .ref l0), (1, .ref l1), (2, .int l2), (3, .int l3), (4, .int l4)] [] := by
  intro n
  induction n with
  | zero =>
    intro l0 l1 l2 l3 l4 M h
    exact nomatch (show (none : Option mM) = some M0 from h)
  | succ n ih =>
    intro l0 l1 l2 l3 l4 M h
    rw [B_X13_gatherAll_3] at h
    refine ww_iload 3 X dX13_gatherAll_3 4 rfl ?_
    refine ww_iload_n 5 X dX13_gatherAll_5 3 rfl rfl ?_
    refine ww_icmp_ge 6 42 X dX13_gatherAll_6 (by decide) (fun q => ?_) (fun q => ?_)
    · replace h := (if_pos q).symm.trans h
      exact ww_vretE 42 X hQ dX13_gatherAll_42 h
    · replace h := (if_neg q).symm.trans h
      refine ww_aload_n 9 X dX13_gatherAll_9 0 rfl rfl ?_
      refine ww_aload_n 10 X dX13_gatherAll_10 1 rfl rfl ?_
      refine ww_iload_n 11 X dX13_gatherAll_11 2 rfl rfl ?_
      refine ww_iload 12 X dX13_gatherAll_12 4 rfl ?_
      refine ww_iadd 14 X dX13_gatherAll_14 ?_
      refine ww_iload_n 15 X dX13_gatherAll_15 3 rfl rfl ?_
      refine ww_iload 16 X dX13_gatherAll_16 4 rfl ?_
      refine ww_isub 18 X dX13_gatherAll_18 ?_
      refine ww_bipush 19 X (v := (16 : Int32)) dX13_gatherAll_19 (by decide) ?_
      refine ww_icmp_ge 21 31 X dX13_gatherAll_21 (by decide) (fun q => ?_) (fun q => ?_)
      · replace h := (if_pos q).symm.trans h
        refine ww_bipush 31 X (v := (16 : Int32)) dX13_gatherAll_31 (by decide) ?_
        obtain ⟨_, f33, h⟩ := bO_some h
        obtain ⟨M33, e33, h⟩ := bO_some h
        refine ww_callVV0 33 X dX13_gatherAll_33 mY_X13_gather mL_X13_650 (rcv_spec f33) ⟨_, _, rfl⟩ (by decide) (As := [.ref l1, .int (l2 + l4), .int (16 : Int32)]) (rest := []) rfl rfl ⟨Nat.le_of_ble_eq_true rfl, Nat.le_of_ble_eq_true rfl⟩ (Nat.le_of_ble_eq_true rfl) (fun l D A => c_X13_gather l D A e33) ?_
        refine ww_iinc 36 X dX13_gatherAll_36 (lv' := [(0, .ref l0), (1, .ref l1), (2, .int l2), (3, .int l3), (4, .int (l4 + 16))]) 4 rfl rfl (by decide) [1, 2, 3, 4, 0] rfl ?_
        refine ww_goto 39 3 X dX13_gatherAll_39 (by decide) ?_
        exact (ih _ _ _ _ _ _ h)
      · replace h := (if_neg q).symm.trans h
        refine ww_iload_n 24 X dX13_gatherAll_24 3 rfl rfl ?_
        refine ww_iload 25 X dX13_gatherAll_25 4 rfl ?_
        refine ww_isub 27 X dX13_gatherAll_27 ?_
        refine ww_goto 28 33 X dX13_gatherAll_28 (by decide) ?_
        obtain ⟨_, f33, h⟩ := bO_some h
        obtain ⟨M33, e33, h⟩ := bO_some h
        refine ww_callVV0 33 X dX13_gatherAll_33 mY_X13_gather mL_X13_650 (rcv_spec f33) ⟨_, _, rfl⟩ (by decide) (As := [.ref l1, .int (l2 + l4), .int (l3 - l4)]) (rest := []) rfl rfl ⟨Nat.le_of_ble_eq_true rfl, Nat.le_of_ble_eq_true rfl⟩ (Nat.le_of_ble_eq_true rfl) (fun l D A => c_X13_gather l D A e33) ?_
        refine ww_iinc 36 X dX13_gatherAll_36 (lv' := [(0, .ref l0), (1, .ref l1), (2, .int l2), (3, .int l3), (4, .int (l4 + 16))]) 4 rfl rfl (by decide) [1, 2, 3, 4, 0] rfl ?_
        refine ww_goto 39 3 X dX13_gatherAll_39 (by decide) ?_
        exact (ih _ _ _ _ _ _ h)
set_option maxHeartbeats 4000000 in
set_option maxRecDepth 100000 in
theorem wP_X13_gatherAll {G : mG} {F : Nat} {x : mXT} {sz : Nat} {M0 : mM} (X : mCX G RX13 cX13_gatherAll 5 none "gatherAll" rmX13_gatherAll x) (hQ : mQV x M0 (sz, 0, 0)) {l0 : Nat} {l1 : Nat} {l2 : Int32} {l3 : Int32} {M : mM} (h : P_X13_gatherAll G F l0 l1 l2 l3 M = some M0) : WW x (sz, 0, 0) M 0 [(0, .ref l0), (1, .ref l1), (2, .int l2), (3, .int l3)] [] := by
  unfold P_X13_gatherAll at h
  refine ww_iconst 0 X (v := (0 : Int32)) dX13_gatherAll_0 (by decide) ?_
  refine ww_istore 1 X dX13_gatherAll_1 (lv' := [(0, .ref l0), (1, .ref l1), (2, .int l2), (3, .int l3), (4, .int (0 : Int32))]) (by decide) [1, 2, 3, 4, 0] rfl ?_
  exact (wB_X13_gatherAll_3 X hQ F _ _ _ _ _ _ h)
theorem c_X13_gatherAll {G : mG} {F sz : Nat} {M0 : mM} (l : Launch) (D : mD) (A : Nat → Prop) {l0 : Nat} {l1 : Nat} {l2 : Int32} {l3 : Int32} {M : mM} (h : P_X13_gatherAll G F l0 l1 l2 l3 M = some M0) : mMetV l D G A yX13_gatherAll cX13_gatherAll 5 none 1 38 0 0 [.ref l0, .ref l1, .int l2, .int l3] M sz M0 sz := mMetV_of l D G A (by decide) (Nat.le_of_ble_eq_true rfl) (fun x X hQ => wP_X13_gatherAll X hQ h)
/-! SealedTokensModel.setCounter([BII)V -/
theorem dX13_setCounter_0 : decode cX13_setCounter 0 = .ok (.aload_n 1, 1) := by decide +kernel
theorem dX13_setCounter_1 : decode cX13_setCounter 1 = .ok (.iload_n 2, 1) := by decide +kernel
theorem dX13_setCounter_2 : decode cX13_setCounter 2 = .ok (.aload_n 0, 1) := by decide +kernel
theorem dX13_setCounter_3 : decode cX13_setCounter 3 = .ok (.getfield 116, 3) := by decide +kernel
theorem dX13_setCounter_6 : decode cX13_setCounter 6 = .ok (.iconst 0, 1) := by decide +kernel
theorem dX13_setCounter_7 : decode cX13_setCounter 7 = .ok (.bipush 12, 2) := by decide +kernel
theorem dX13_setCounter_9 : decode cX13_setCounter 9 = .ok (.invokestatic 317, 3) := by decide +kernel
theorem dX13_setCounter_12 : decode cX13_setCounter 12 = .ok (.aload_n 0, 1) := by decide +kernel
theorem dX13_setCounter_13 : decode cX13_setCounter 13 = .ok (.getfield 116, 3) := by decide +kernel
theorem dX13_setCounter_16 : decode cX13_setCounter 16 = .ok (.bipush 12, 2) := by decide +kernel
theorem dX13_setCounter_18 : decode cX13_setCounter 18 = .ok (.iconst 4, 1) := by decide +kernel
theorem dX13_setCounter_19 : decode cX13_setCounter 19 = .ok (.iload_n 3, 1) := by decide +kernel
theorem dX13_setCounter_20 : decode cX13_setCounter 20 = .ok (.i2l, 1) := by decide +kernel
theorem dX13_setCounter_21 : decode cX13_setCounter 21 = .ok (.invokestatic 328, 3) := by decide +kernel
theorem dX13_setCounter_24 : decode cX13_setCounter 24 = .ok (.return_, 1) := by decide +kernel
abbrev rmX13_setCounter : Room := { frames := 1, cells := 0, slots := 0, locals := 25 }
set_option maxHeartbeats 4000000 in
set_option maxRecDepth 100000 in
theorem wP_X13_setCounter {G : mG} {F : Nat} {x : mXT} {sz : Nat} {M0 : mM} (X : mCX G RX13 cX13_setCounter 4 none "setCounter" rmX13_setCounter x) (hQ : mQV x M0 (sz, 0, 0)) {l0 : Nat} {l1 : Nat} {l2 : Int32} {l3 : Int32} {M : mM} (h : P_X13_setCounter G F l0 l1 l2 l3 M = some M0) : WW x (sz, 0, 0) M 0 [(0, .ref l0), (1, .ref l1), (2, .int l2), (3, .int l3)] [] := by
  unfold P_X13_setCounter at h
  refine ww_aload_n 0 X dX13_setCounter_0 1 rfl rfl ?_
  refine ww_iload_n 1 X dX13_setCounter_1 2 rfl rfl ?_
  refine ww_aload_n 2 X dX13_setCounter_2 0 rfl rfl ?_
  obtain ⟨v3, e3, h⟩ := bO_some h
  refine ww_getR 3 X dX13_setCounter_3 fG_X13_116 e3 ?_
  refine ww_iconst 6 X (v := (0 : Int32)) dX13_setCounter_6 (by decide) ?_
  refine ww_bipush 7 X (v := (12 : Int32)) dX13_setCounter_7 (by decide) ?_
  obtain ⟨M9, e9, h⟩ := bO_some h
  refine ww_callSV0 9 X dX13_setCounter_9 mY_X13_move mL_X13_317 (As := [.ref l1, .int l2, .ref v3, .int (0 : Int32), .int (12 : Int32)]) (rest := []) rfl rfl ⟨Nat.le_of_ble_eq_true rfl, Nat.le_of_ble_eq_true rfl⟩ (Nat.le_of_ble_eq_true rfl) (fun l D A => c_X13_move l D A e9) ?_
  refine ww_aload_n 12 X dX13_setCounter_12 0 rfl rfl ?_
  obtain ⟨v13, e13, h⟩ := bO_some h
  refine ww_getR 13 X dX13_setCounter_13 fG_X13_116 e13 ?_
  refine ww_bipush 16 X (v := (12 : Int32)) dX13_setCounter_16 (by decide) ?_
  refine ww_iconst 18 X (v := (4 : Int32)) dX13_setCounter_18 (by decide) ?_
  refine ww_iload_n 19 X dX13_setCounter_19 3 rfl rfl ?_
  refine ww_i2l 20 X dX13_setCounter_20 ?_
  obtain ⟨M21, e21, h⟩ := bO_some h
  refine ww_callSV0 21 X dX13_setCounter_21 mY_X13_put mL_X13_328 (As := [.ref v13, .int (12 : Int32), .int (4 : Int32), .long (l3.toInt64)]) (rest := []) rfl rfl ⟨Nat.le_of_ble_eq_true rfl, Nat.le_of_ble_eq_true rfl⟩ (Nat.le_of_ble_eq_true rfl) (fun l D A => c_X13_put l D A e21) ?_
  exact ww_vretE 24 X hQ dX13_setCounter_24 h
theorem c_X13_setCounter {G : mG} {F sz : Nat} {M0 : mM} (l : Launch) (D : mD) (A : Nat → Prop) {l0 : Nat} {l1 : Nat} {l2 : Int32} {l3 : Int32} {M : mM} (h : P_X13_setCounter G F l0 l1 l2 l3 M = some M0) : mMetV l D G A yX13_setCounter cX13_setCounter 4 none 1 25 0 0 [.ref l0, .ref l1, .int l2, .int l3] M sz M0 sz := mMetV_of l D G A (by decide) (Nat.le_of_ble_eq_true rfl) (fun x X hQ => wP_X13_setCounter X hQ h)
