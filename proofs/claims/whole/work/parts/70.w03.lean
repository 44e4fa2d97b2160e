/-! SealedTokens$Content.markByField(LSealedTokens$Bytes;LSealedTokens$Bytes;LSealedTokens$Bytes;I)V -/
theorem dX2_markByField_0 : decode cX2_markByField 0 = .ok (.iconst 0, 1) := by decide +kernel
theorem dX2_markByField_1 : decode cX2_markByField 1 = .ok (.istore 5, 2) := by decide +kernel
theorem dX2_markByField_3 : decode cX2_markByField 3 = .ok (.iload 5, 2) := by decide +kernel
theorem dX2_markByField_5 : decode cX2_markByField 5 = .ok (.bipush 16, 2) := by decide +kernel
theorem dX2_markByField_7 : decode cX2_markByField 7 = .ok (.if_icmp .ge 17, 3) := by decide +kernel
theorem dX2_markByField_10 : decode cX2_markByField 10 = .ok (.aload_n 0, 1) := by decide +kernel
theorem dX2_markByField_11 : decode cX2_markByField 11 = .ok (.getfield 11, 3) := by decide +kernel
theorem dX2_markByField_14 : decode cX2_markByField 14 = .ok (.iload 5, 2) := by decide +kernel
theorem dX2_markByField_16 : decode cX2_markByField 16 = .ok (.iconst 0, 1) := by decide +kernel
theorem dX2_markByField_17 : decode cX2_markByField 17 = .ok (.iastore, 1) := by decide +kernel
theorem dX2_markByField_18 : decode cX2_markByField 18 = .ok (.iinc 5 1, 3) := by decide +kernel
theorem dX2_markByField_21 : decode cX2_markByField 21 = .ok (.goto (-18), 3) := by decide +kernel
theorem dX2_markByField_24 : decode cX2_markByField 24 = .ok (.aload_n 0, 1) := by decide +kernel
theorem dX2_markByField_25 : decode cX2_markByField 25 = .ok (.getfield 33, 3) := by decide +kernel
theorem dX2_markByField_28 : decode cX2_markByField 28 = .ok (.aload_n 0, 1) := by decide +kernel
theorem dX2_markByField_29 : decode cX2_markByField 29 = .ok (.getfield 11, 3) := by decide +kernel
theorem dX2_markByField_32 : decode cX2_markByField 32 = .ok (.invokevirtual 94, 3) := by decide +kernel
theorem dX2_markByField_35 : decode cX2_markByField 35 = .ok (.aload_n 0, 1) := by decide +kernel
theorem dX2_markByField_36 : decode cX2_markByField 36 = .ok (.aload_n 0, 1) := by decide +kernel
theorem dX2_markByField_37 : decode cX2_markByField 37 = .ok (.iconst 0, 1) := by decide +kernel
theorem dX2_markByField_38 : decode cX2_markByField 38 = .ok (.invokevirtual 126, 3) := by decide +kernel
theorem dX2_markByField_41 : decode cX2_markByField 41 = .ok (.putfield 130, 3) := by decide +kernel
theorem dX2_markByField_44 : decode cX2_markByField 44 = .ok (.aload_n 0, 1) := by decide +kernel
theorem dX2_markByField_45 : decode cX2_markByField 45 = .ok (.aload_n 0, 1) := by decide +kernel
theorem dX2_markByField_46 : decode cX2_markByField 46 = .ok (.bipush 8, 2) := by decide +kernel
theorem dX2_markByField_48 : decode cX2_markByField 48 = .ok (.invokevirtual 126, 3) := by decide +kernel
theorem dX2_markByField_51 : decode cX2_markByField 51 = .ok (.putfield 134, 3) := by decide +kernel
theorem dX2_markByField_54 : decode cX2_markByField 54 = .ok (.aload_n 0, 1) := by decide +kernel
theorem dX2_markByField_55 : decode cX2_markByField 55 = .ok (.lconst 0, 1) := by decide +kernel
theorem dX2_markByField_56 : decode cX2_markByField 56 = .ok (.putfield 137, 3) := by decide +kernel
theorem dX2_markByField_59 : decode cX2_markByField 59 = .ok (.aload_n 0, 1) := by decide +kernel
theorem dX2_markByField_60 : decode cX2_markByField 60 = .ok (.lconst 0, 1) := by decide +kernel
theorem dX2_markByField_61 : decode cX2_markByField 61 = .ok (.putfield 140, 3) := by decide +kernel
theorem dX2_markByField_64 : decode cX2_markByField 64 = .ok (.aload_n 0, 1) := by decide +kernel
theorem dX2_markByField_65 : decode cX2_markByField 65 = .ok (.aload_n 2, 1) := by decide +kernel
theorem dX2_markByField_66 : decode cX2_markByField 66 = .ok (.aload_n 2, 1) := by decide +kernel
theorem dX2_markByField_67 : decode cX2_markByField 67 = .ok (.getfield 44, 3) := by decide +kernel
theorem dX2_markByField_70 : decode cX2_markByField 70 = .ok (.invokevirtual 143, 3) := by decide +kernel
theorem dX2_markByField_73 : decode cX2_markByField 73 = .ok (.aload_n 0, 1) := by decide +kernel
theorem dX2_markByField_74 : decode cX2_markByField 74 = .ok (.aload_n 3, 1) := by decide +kernel
theorem dX2_markByField_75 : decode cX2_markByField 75 = .ok (.iload 4, 2) := by decide +kernel
theorem dX2_markByField_77 : decode cX2_markByField 77 = .ok (.invokevirtual 143, 3) := by decide +kernel
theorem dX2_markByField_80 : decode cX2_markByField 80 = .ok (.aload_n 0, 1) := by decide +kernel
theorem dX2_markByField_81 : decode cX2_markByField 81 = .ok (.aload_n 2, 1) := by decide +kernel
theorem dX2_markByField_82 : decode cX2_markByField 82 = .ok (.getfield 44, 3) := by decide +kernel
theorem dX2_markByField_85 : decode cX2_markByField 85 = .ok (.i2l, 1) := by decide +kernel
theorem dX2_markByField_86 : decode cX2_markByField 86 = .ok (.ldc2_w 146, 3) := by decide +kernel
theorem dX2_markByField_89 : decode cX2_markByField 89 = .ok (.lmul, 1) := by decide +kernel
theorem dX2_markByField_90 : decode cX2_markByField 90 = .ok (.iload 4, 2) := by decide +kernel
theorem dX2_markByField_92 : decode cX2_markByField 92 = .ok (.i2l, 1) := by decide +kernel
theorem dX2_markByField_93 : decode cX2_markByField 93 = .ok (.ldc2_w 146, 3) := by decide +kernel
theorem dX2_markByField_96 : decode cX2_markByField 96 = .ok (.lmul, 1) := by decide +kernel
theorem dX2_markByField_97 : decode cX2_markByField 97 = .ok (.invokevirtual 148, 3) := by decide +kernel
theorem dX2_markByField_100 : decode cX2_markByField 100 = .ok (.aload_n 0, 1) := by decide +kernel
theorem dX2_markByField_101 : decode cX2_markByField 101 = .ok (.aload_n 1, 1) := by decide +kernel
theorem dX2_markByField_102 : decode cX2_markByField 102 = .ok (.iconst 1, 1) := by decide +kernel
theorem dX2_markByField_103 : decode cX2_markByField 103 = .ok (.invokevirtual 122, 3) := by decide +kernel
theorem dX2_markByField_106 : decode cX2_markByField 106 = .ok (.aload_n 0, 1) := by decide +kernel
theorem dX2_markByField_107 : decode cX2_markByField 107 = .ok (.getfield 33, 3) := by decide +kernel
theorem dX2_markByField_110 : decode cX2_markByField 110 = .ok (.aload_n 0, 1) := by decide +kernel
theorem dX2_markByField_111 : decode cX2_markByField 111 = .ok (.getfield 11, 3) := by decide +kernel
theorem dX2_markByField_114 : decode cX2_markByField 114 = .ok (.invokevirtual 94, 3) := by decide +kernel
theorem dX2_markByField_117 : decode cX2_markByField 117 = .ok (.aload_n 0, 1) := by decide +kernel
theorem dX2_markByField_118 : decode cX2_markByField 118 = .ok (.getfield 25, 3) := by decide +kernel
theorem dX2_markByField_121 : decode cX2_markByField 121 = .ok (.invokevirtual 37, 3) := by decide +kernel
theorem dX2_markByField_124 : decode cX2_markByField 124 = .ok (.aload_n 0, 1) := by decide +kernel
theorem dX2_markByField_125 : decode cX2_markByField 125 = .ok (.aload_n 0, 1) := by decide +kernel
theorem dX2_markByField_126 : decode cX2_markByField 126 = .ok (.getfield 137, 3) := by decide +kernel
theorem dX2_markByField_129 : decode cX2_markByField 129 = .ok (.aload_n 0, 1) := by decide +kernel
theorem dX2_markByField_130 : decode cX2_markByField 130 = .ok (.iconst 0, 1) := by decide +kernel
theorem dX2_markByField_131 : decode cX2_markByField 131 = .ok (.invokevirtual 126, 3) := by decide +kernel
theorem dX2_markByField_134 : decode cX2_markByField 134 = .ok (.lxor, 1) := by decide +kernel
theorem dX2_markByField_135 : decode cX2_markByField 135 = .ok (.invokevirtual 152, 3) := by decide +kernel
theorem dX2_markByField_138 : decode cX2_markByField 138 = .ok (.aload_n 0, 1) := by decide +kernel
theorem dX2_markByField_139 : decode cX2_markByField 139 = .ok (.aload_n 0, 1) := by decide +kernel
theorem dX2_markByField_140 : decode cX2_markByField 140 = .ok (.getfield 140, 3) := by decide +kernel
theorem dX2_markByField_143 : decode cX2_markByField 143 = .ok (.aload_n 0, 1) := by decide +kernel
theorem dX2_markByField_144 : decode cX2_markByField 144 = .ok (.bipush 8, 2) := by decide +kernel
theorem dX2_markByField_146 : decode cX2_markByField 146 = .ok (.invokevirtual 126, 3) := by decide +kernel
theorem dX2_markByField_149 : decode cX2_markByField 149 = .ok (.lxor, 1) := by decide +kernel
theorem dX2_markByField_150 : decode cX2_markByField 150 = .ok (.invokevirtual 152, 3) := by decide +kernel
theorem dX2_markByField_153 : decode cX2_markByField 153 = .ok (.return_, 1) := by decide +kernel
abbrev rmX2_markByField : Room := { frames := 3, cells := 0, slots := 0, locals := 83 }
set_option maxHeartbeats 4000000 in
set_option maxRecDepth 100000 in
theorem wB_X2_markByField_3 {G : mG} {F : Nat} {x : mXT} {sz : Nat} {M0 : mM} (X : mCX G RX2 cX2_markByField 6 none "markByField" rmX2_markByField x) (hQ : mQV x M0 (sz, 0, 0)) : ∀ (n : Nat) (l0 : Nat) (l1 : Nat) (l2 : Nat) (l3 : Nat) (l4 : Int32) (l5 : Int32) (M : mM), B_X2_markByField_3 G F n l0 l1 l2 l3 l4 l5 M = some M0 → WW x (sz, 0, 0) M 3 [(0, .ref l0), (1, .ref l1), (2, .ref l2), (3, .ref l3), (4, .int l4), (5, .int l5)] [] := by
  intro n
  induction n with
  | zero =>
    intro l0 l1 l2 l3 l4 l5 M h
    exact nomatch (show (none : Option mM) = some M0 from h)
  | succ n ih =>
    intro l0 l1 l2 l3 l4 l5 M h
    rw [B_X2_markByField_3] at h
    refine ww_iload 3 X dX2_markByField_3 5 rfl ?_
    refine ww_bipush 5 X (v := (16 : Int32)) dX2_markByField_5 (by decide) ?_
    refine ww_icmp_ge 7 24 X dX2_markByField_7 (by decide) (fun q => ?_) (fun q => ?_)
    · replace h := (if_pos q).symm.trans h
      refine ww_aload_n 24 X dX2_markByField_24 0 rfl rfl ?_
      obtain ⟨v25, e25, h⟩ := bO_some h
      refine ww_getR 25 X dX2_markByField_25 fG_X2_33 e25 ?_
      refine ww_aload_n 28 X dX2_markByField_28 0 rfl rfl ?_
      obtain ⟨v29, e29, h⟩ := bO_some h
      refine ww_getR 29 X dX2_markByField_29 fG_X2_11 e29 ?_
      obtain ⟨_, f32, h⟩ := bO_some h
      obtain ⟨M32, e32, h⟩ := bO_some h
      refine ww_callVV0 32 X dX2_markByField_32 mY_X1_forward mL_X2_94 (rcv_spec f32) ⟨_, _, rfl⟩ (by decide) (As := [.ref v29]) (rest := []) rfl rfl ⟨Nat.le_of_ble_eq_true rfl, Nat.le_of_ble_eq_true rfl⟩ (Nat.le_of_ble_eq_true rfl) (fun l D A => c_X1_forward l D A e32) ?_
      refine ww_aload_n 35 X dX2_markByField_35 0 rfl rfl ?_
      refine ww_aload_n 36 X dX2_markByField_36 0 rfl rfl ?_
      refine ww_iconst 37 X (v := (0 : Int32)) dX2_markByField_37 (by decide) ?_
      obtain ⟨_, f38, h⟩ := bO_some h
      obtain ⟨v38, M38, e38, h⟩ := bP_some h
      refine ww_callVL0 38 X dX2_markByField_38 mY_X2_half mL_X2_126 (rcv_spec f38) ⟨_, _, rfl⟩ (by decide) (As := [.int (0 : Int32)]) (rest := [.ref l0]) rfl rfl ⟨Nat.le_of_ble_eq_true rfl, Nat.le_of_ble_eq_true rfl⟩ (Nat.le_of_ble_eq_true rfl) (fun l D A => c_X2_half l D A e38) ?_
      obtain ⟨M41, e41, h⟩ := bO_some h
      refine ww_putL 41 X dX2_markByField_41 (fP_X2_130 _) e41 ?_
      refine ww_aload_n 44 X dX2_markByField_44 0 rfl rfl ?_
      refine ww_aload_n 45 X dX2_markByField_45 0 rfl rfl ?_
      refine ww_bipush 46 X (v := (8 : Int32)) dX2_markByField_46 (by decide) ?_
      obtain ⟨_, f48, h⟩ := bO_some h
      obtain ⟨v48, M48, e48, h⟩ := bP_some h
      refine ww_callVL0 48 X dX2_markByField_48 mY_X2_half mL_X2_126 (rcv_spec f48) ⟨_, _, rfl⟩ (by decide) (As := [.int (8 : Int32)]) (rest := [.ref l0]) rfl rfl ⟨Nat.le_of_ble_eq_true rfl, Nat.le_of_ble_eq_true rfl⟩ (Nat.le_of_ble_eq_true rfl) (fun l D A => c_X2_half l D A e48) ?_
      obtain ⟨M51, e51, h⟩ := bO_some h
      refine ww_putL 51 X dX2_markByField_51 (fP_X2_134 _) e51 ?_
      refine ww_aload_n 54 X dX2_markByField_54 0 rfl rfl ?_
      refine ww_lconst 55 X (v := (0 : Int64)) dX2_markByField_55 (by decide) ?_
      obtain ⟨M56, e56, h⟩ := bO_some h
      refine ww_putL 56 X dX2_markByField_56 (fP_X2_137 _) e56 ?_
      refine ww_aload_n 59 X dX2_markByField_59 0 rfl rfl ?_
      refine ww_lconst 60 X (v := (0 : Int64)) dX2_markByField_60 (by decide) ?_
      obtain ⟨M61, e61, h⟩ := bO_some h
      refine ww_putL 61 X dX2_markByField_61 (fP_X2_140 _) e61 ?_
      refine ww_aload_n 64 X dX2_markByField_64 0 rfl rfl ?_
      refine ww_aload_n 65 X dX2_markByField_65 2 rfl rfl ?_
      refine ww_aload_n 66 X dX2_markByField_66 2 rfl rfl ?_
      obtain ⟨v67, e67, h⟩ := bO_some h
      refine ww_getI 67 X dX2_markByField_67 fG_X2_44 e67 ?_
      obtain ⟨_, f70, h⟩ := bO_some h
      obtain ⟨M70, e70, h⟩ := bO_some h
      refine ww_callVV0 70 X dX2_markByField_70 mY_X2_addToSum mL_X2_143 (rcv_spec f70) ⟨_, _, rfl⟩ (by decide) (As := [.ref l2, .int v67]) (rest := []) rfl rfl ⟨Nat.le_of_ble_eq_true rfl, Nat.le_of_ble_eq_true rfl⟩ (Nat.le_of_ble_eq_true rfl) (fun l D A => c_X2_addToSum l D A e70) ?_
      refine ww_aload_n 73 X dX2_markByField_73 0 rfl rfl ?_
      refine ww_aload_n 74 X dX2_markByField_74 3 rfl rfl ?_
      refine ww_iload 75 X dX2_markByField_75 4 rfl ?_
      obtain ⟨_, f77, h⟩ := bO_some h
      obtain ⟨M77, e77, h⟩ := bO_some h
      refine ww_callVV0 77 X dX2_markByField_77 mY_X2_addToSum mL_X2_143 (rcv_spec f77) ⟨_, _, rfl⟩ (by decide) (As := [.ref l3, .int l4]) (rest := []) rfl rfl ⟨Nat.le_of_ble_eq_true rfl, Nat.le_of_ble_eq_true rfl⟩ (Nat.le_of_ble_eq_true rfl) (fun l D A => c_X2_addToSum l D A e77) ?_
      refine ww_aload_n 80 X dX2_markByField_80 0 rfl rfl ?_
      refine ww_aload_n 81 X dX2_markByField_81 2 rfl rfl ?_
      obtain ⟨v82, e82, h⟩ := bO_some h
      refine ww_getI 82 X dX2_markByField_82 fG_X2_44 e82 ?_
      refine ww_i2l 85 X dX2_markByField_85 ?_
      refine ww_ldc2 86 X (v := (8 : Int64)) dX2_markByField_86 kL_X2_146 ?_
      refine ww_lmul 89 X dX2_markByField_89 ?_
      refine ww_iload 90 X dX2_markByField_90 4 rfl ?_
      refine ww_i2l 92 X dX2_markByField_92 ?_
      refine ww_ldc2 93 X (v := (8 : Int64)) dX2_markByField_93 kL_X2_146 ?_
      refine ww_lmul 96 X dX2_markByField_96 ?_
      obtain ⟨_, f97, h⟩ := bO_some h
      obtain ⟨M97, e97, h⟩ := bO_some h
      refine ww_callVV0 97 X dX2_markByField_97 mY_X2_timesFactor mL_X2_148 (rcv_spec f97) ⟨_, _, rfl⟩ (by decide) (As := [.long ((v82.toInt64) * (8 : Int64)), .long ((l4.toInt64) * (8 : Int64))]) (rest := []) rfl rfl ⟨Nat.le_of_ble_eq_true rfl, Nat.le_of_ble_eq_true rfl⟩ (Nat.le_of_ble_eq_true rfl) (fun l D A => c_X2_timesFactor l D A e97) ?_
      refine ww_aload_n 100 X dX2_markByField_100 0 rfl rfl ?_
      refine ww_aload_n 101 X dX2_markByField_101 1 rfl rfl ?_
      refine ww_iconst 102 X (v := (1 : Int32)) dX2_markByField_102 (by decide) ?_
      obtain ⟨_, f103, h⟩ := bO_some h
      obtain ⟨M103, e103, h⟩ := bO_some h
      refine ww_callVV0 103 X dX2_markByField_103 mY_X2_startCounter mL_X2_122 (rcv_spec f103) ⟨_, _, rfl⟩ (by decide) (As := [.ref l1, .int (1 : Int32)]) (rest := []) rfl rfl ⟨Nat.le_of_ble_eq_true rfl, Nat.le_of_ble_eq_true rfl⟩ (Nat.le_of_ble_eq_true rfl) (fun l D A => c_X2_startCounter l D A e103) ?_
      refine ww_aload_n 106 X dX2_markByField_106 0 rfl rfl ?_
      obtain ⟨v107, e107, h⟩ := bO_some h
      refine ww_getR 107 X dX2_markByField_107 fG_X2_33 e107 ?_
      refine ww_aload_n 110 X dX2_markByField_110 0 rfl rfl ?_
      obtain ⟨v111, e111, h⟩ := bO_some h
      refine ww_getR 111 X dX2_markByField_111 fG_X2_11 e111 ?_
      obtain ⟨_, f114, h⟩ := bO_some h
      obtain ⟨M114, e114, h⟩ := bO_some h
      refine ww_callVV0 114 X dX2_markByField_114 mY_X1_forward mL_X2_94 (rcv_spec f114) ⟨_, _, rfl⟩ (by decide) (As := [.ref v111]) (rest := []) rfl rfl ⟨Nat.le_of_ble_eq_true rfl, Nat.le_of_ble_eq_true rfl⟩ (Nat.le_of_ble_eq_true rfl) (fun l D A => c_X1_forward l D A e114) ?_
      refine ww_aload_n 117 X dX2_markByField_117 0 rfl rfl ?_
      obtain ⟨v118, e118, h⟩ := bO_some h
      refine ww_getR 118 X dX2_markByField_118 fG_X2_25 e118 ?_
      obtain ⟨_, f121, h⟩ := bO_some h
      obtain ⟨M121, e121, h⟩ := bO_some h
      refine ww_callVV0 121 X dX2_markByField_121 mY_X0_clear mL_X2_37 (rcv_spec f121) ⟨_, _, rfl⟩ (by decide) (As := []) (rest := []) rfl rfl ⟨Nat.le_of_ble_eq_true rfl, Nat.le_of_ble_eq_true rfl⟩ (Nat.le_of_ble_eq_true rfl) (fun l D A => c_X0_clear l D A e121) ?_
      refine ww_aload_n 124 X dX2_markByField_124 0 rfl rfl ?_
      refine ww_aload_n 125 X dX2_markByField_125 0 rfl rfl ?_
      obtain ⟨v126, e126, h⟩ := bO_some h
      refine ww_getL 126 X dX2_markByField_126 fG_X2_137 e126 ?_
      refine ww_aload_n 129 X dX2_markByField_129 0 rfl rfl ?_
      refine ww_iconst 130 X (v := (0 : Int32)) dX2_markByField_130 (by decide) ?_
      obtain ⟨_, f131, h⟩ := bO_some h
      obtain ⟨v131, M131, e131, h⟩ := bP_some h
      refine ww_callVL0 131 X dX2_markByField_131 mY_X2_half mL_X2_126 (rcv_spec f131) ⟨_, _, rfl⟩ (by decide) (As := [.int (0 : Int32)]) (rest := [.long v126, .ref l0]) rfl rfl ⟨Nat.le_of_ble_eq_true rfl, Nat.le_of_ble_eq_true rfl⟩ (Nat.le_of_ble_eq_true rfl) (fun l D A => c_X2_half l D A e131) ?_
      refine ww_lxor 134 X dX2_markByField_134 ?_
      obtain ⟨_, f135, h⟩ := bO_some h
      obtain ⟨M135, e135, h⟩ := bO_some h
      refine ww_callVV0 135 X dX2_markByField_135 mY_X2_putMarkHalf mL_X2_152 (rcv_spec f135) ⟨_, _, rfl⟩ (by decide) (As := [.long (v126 ^^^ v131)]) (rest := []) rfl rfl ⟨Nat.le_of_ble_eq_true rfl, Nat.le_of_ble_eq_true rfl⟩ (Nat.le_of_ble_eq_true rfl) (fun l D A => c_X2_putMarkHalf l D A e135) ?_
      refine ww_aload_n 138 X dX2_markByField_138 0 rfl rfl ?_
      refine ww_aload_n 139 X dX2_markByField_139 0 rfl rfl ?_
      obtain ⟨v140, e140, h⟩ := bO_some h
      refine ww_getL 140 X dX2_markByField_140 fG_X2_140 e140 ?_
      refine ww_aload_n 143 X dX2_markByField_143 0 rfl rfl ?_
      refine ww_bipush 144 X (v := (8 : Int32)) dX2_markByField_144 (by decide) ?_
      obtain ⟨_, f146, h⟩ := bO_some h
      obtain ⟨v146, M146, e146, h⟩ := bP_some h
      refine ww_callVL0 146 X dX2_markByField_146 mY_X2_half mL_X2_126 (rcv_spec f146) ⟨_, _, rfl⟩ (by decide) (As := [.int (8 : Int32)]) (rest := [.long v140, .ref l0]) rfl rfl ⟨Nat.le_of_ble_eq_true rfl, Nat.le_of_ble_eq_true rfl⟩ (Nat.le_of_ble_eq_true rfl) (fun l D A => c_X2_half l D A e146) ?_
      refine ww_lxor 149 X dX2_markByField_149 ?_
      obtain ⟨_, f150, h⟩ := bO_some h
      obtain ⟨M150, e150, h⟩ := bO_some h
      refine ww_callVV0 150 X dX2_markByField_150 mY_X2_putMarkHalf mL_X2_152 (rcv_spec f150) ⟨_, _, rfl⟩ (by decide) (As := [.long (v140 ^^^ v146)]) (rest := []) rfl rfl ⟨Nat.le_of_ble_eq_true rfl, Nat.le_of_ble_eq_true rfl⟩ (Nat.le_of_ble_eq_true rfl) (fun l D A => c_X2_putMarkHalf l D A e150) ?_
      exact ww_vretE 153 X hQ dX2_markByField_153 h
    · replace h := (if_neg q).symm.trans h
      refine ww_aload_n 10 X dX2_markByField_10 0 rfl rfl ?_
      obtain ⟨v11, e11, h⟩ := bO_some h
      refine ww_getR 11 X dX2_markByField_11 fG_X2_11 e11 ?_
      refine ww_iload 14 X dX2_markByField_14 5 rfl ?_
      refine ww_iconst 16 X (v := (0 : Int32)) dX2_markByField_16 (by decide) ?_
      obtain ⟨M17, e17, h⟩ := bO_some h
      refine ww_iast 17 X dX2_markByField_17 e17 ?_
      refine ww_iinc 18 X dX2_markByField_18 (lv' := [(0, .ref l0), (1, .ref l1), (2, .ref l2), (3, .ref l3), (4, .int l4), (5, .int (l5 + 1))]) 5 rfl rfl (by decide) [1, 2, 3, 4, 5, 0] rfl ?_
      refine ww_goto 21 3 X dX2_markByField_21 (by decide) ?_
      exact (ih _ _ _ _ _ _ _ h)
set_option maxHeartbeats 4000000 in
set_option maxRecDepth 100000 in
theorem wP_X2_markByField {G : mG} {F : Nat} {x : mXT} {sz : Nat} {M0 : mM} (X : mCX G RX2 cX2_markByField 6 none "markByField" rmX2_markByField x) (hQ : mQV x M0 (sz, 0, 0)) {l0 : Nat} {l1 : Nat} {l2 : Nat} {l3 : Nat} {l4 : Int32} {M : mM} (h : P_X2_markByField G F l0 l1 l2 l3 l4 M = some M0) : WW x (sz, 0, 0) M 0 [(0, .ref l0), (1, .ref l1), (2, .ref l2), (3, .ref l3), (4, .int l4)] [] := by
  unfold P_X2_markByField at h
  refine ww_iconst 0 X (v := (0 : Int32)) dX2_markByField_0 (by decide) ?_
  refine ww_istore 1 X dX2_markByField_1 (lv' := [(0, .ref l0), (1, .ref l1), (2, .ref l2), (3, .ref l3), (4, .int l4), (5, .int (0 : Int32))]) (by decide) [1, 2, 3, 4, 5, 0] rfl ?_
  exact (wB_X2_markByField_3 X hQ F _ _ _ _ _ _ _ h)
theorem c_X2_markByField {G : mG} {F sz : Nat} {M0 : mM} (l : Launch) (D : mD) (A : Nat → Prop) {l0 : Nat} {l1 : Nat} {l2 : Nat} {l3 : Nat} {l4 : Int32} {M : mM} (h : P_X2_markByField G F l0 l1 l2 l3 l4 M = some M0) : mMetV l D G A yX2_markByField cX2_markByField 6 none 3 83 0 0 [.ref l0, .ref l1, .ref l2, .ref l3, .int l4] M sz M0 sz := mMetV_of l D G A (by decide) (Nat.le_of_ble_eq_true rfl) (fun x X hQ => wP_X2_markByField X hQ h)
/-! SealedTokens$Content.lock(ILSealedTokens$Bytes;LSealedTokens$Bytes;LSealedTokens$Bytes;LSealedTokens$Bytes;LSealedTokens$Bytes;)V -/
theorem dX2_lock_0 : decode cX2_lock 0 = .ok (.aload 6, 2) := by decide +kernel
theorem dX2_lock_2 : decode cX2_lock 2 = .ok (.invokevirtual 37, 3) := by decide +kernel
theorem dX2_lock_5 : decode cX2_lock 5 = .ok (.iload_n 1, 1) := by decide +kernel
theorem dX2_lock_6 : decode cX2_lock 6 = .ok (.iconst 2, 1) := by decide +kernel
theorem dX2_lock_7 : decode cX2_lock 7 = .ok (.if_icmp .ge 32, 3) := by decide +kernel
theorem dX2_lock_10 : decode cX2_lock 10 = .ok (.aload_n 0, 1) := by decide +kernel
theorem dX2_lock_11 : decode cX2_lock 11 = .ok (.aload_n 2, 1) := by decide +kernel
theorem dX2_lock_12 : decode cX2_lock 12 = .ok (.aload_n 3, 1) := by decide +kernel
theorem dX2_lock_13 : decode cX2_lock 13 = .ok (.aload 5, 2) := by decide +kernel
theorem dX2_lock_15 : decode cX2_lock 15 = .ok (.aload 6, 2) := by decide +kernel
theorem dX2_lock_17 : decode cX2_lock 17 = .ok (.invokevirtual 40, 3) := by decide +kernel
theorem dX2_lock_20 : decode cX2_lock 20 = .ok (.aload_n 0, 1) := by decide +kernel
theorem dX2_lock_21 : decode cX2_lock 21 = .ok (.iload_n 1, 1) := by decide +kernel
theorem dX2_lock_22 : decode cX2_lock 22 = .ok (.aload_n 2, 1) := by decide +kernel
theorem dX2_lock_23 : decode cX2_lock 23 = .ok (.aload_n 3, 1) := by decide +kernel
theorem dX2_lock_24 : decode cX2_lock 24 = .ok (.aload 4, 2) := by decide +kernel
theorem dX2_lock_26 : decode cX2_lock 26 = .ok (.aload 6, 2) := by decide +kernel
theorem dX2_lock_28 : decode cX2_lock 28 = .ok (.aload 6, 2) := by decide +kernel
theorem dX2_lock_30 : decode cX2_lock 30 = .ok (.getfield 44, 3) := by decide +kernel
theorem dX2_lock_33 : decode cX2_lock 33 = .ok (.invokevirtual 48, 3) := by decide +kernel
theorem dX2_lock_36 : decode cX2_lock 36 = .ok (.goto 32, 3) := by decide +kernel
theorem dX2_lock_39 : decode cX2_lock 39 = .ok (.aload_n 0, 1) := by decide +kernel
theorem dX2_lock_40 : decode cX2_lock 40 = .ok (.aload_n 2, 1) := by decide +kernel
theorem dX2_lock_41 : decode cX2_lock 41 = .ok (.aload_n 3, 1) := by decide +kernel
theorem dX2_lock_42 : decode cX2_lock 42 = .ok (.aload 5, 2) := by decide +kernel
theorem dX2_lock_44 : decode cX2_lock 44 = .ok (.aload 5, 2) := by decide +kernel
theorem dX2_lock_46 : decode cX2_lock 46 = .ok (.getfield 44, 3) := by decide +kernel
theorem dX2_lock_49 : decode cX2_lock 49 = .ok (.aload 6, 2) := by decide +kernel
theorem dX2_lock_51 : decode cX2_lock 51 = .ok (.invokevirtual 52, 3) := by decide +kernel
theorem dX2_lock_54 : decode cX2_lock 54 = .ok (.aload_n 0, 1) := by decide +kernel
theorem dX2_lock_55 : decode cX2_lock 55 = .ok (.aload_n 3, 1) := by decide +kernel
theorem dX2_lock_56 : decode cX2_lock 56 = .ok (.aload 4, 2) := by decide +kernel
theorem dX2_lock_58 : decode cX2_lock 58 = .ok (.aload 6, 2) := by decide +kernel
theorem dX2_lock_60 : decode cX2_lock 60 = .ok (.aload 6, 2) := by decide +kernel
theorem dX2_lock_62 : decode cX2_lock 62 = .ok (.getfield 44, 3) := by decide +kernel
theorem dX2_lock_65 : decode cX2_lock 65 = .ok (.invokevirtual 56, 3) := by decide +kernel
theorem dX2_lock_68 : decode cX2_lock 68 = .ok (.aload 6, 2) := by decide +kernel
theorem dX2_lock_70 : decode cX2_lock 70 = .ok (.aload_n 0, 1) := by decide +kernel
theorem dX2_lock_71 : decode cX2_lock 71 = .ok (.getfield 25, 3) := by decide +kernel
theorem dX2_lock_74 : decode cX2_lock 74 = .ok (.invokevirtual 60, 3) := by decide +kernel
theorem dX2_lock_77 : decode cX2_lock 77 = .ok (.return_, 1) := by decide +kernel
abbrev rmX2_lock : Room := { frames := 5, cells := 0, slots := 0, locals := 143 }
set_option maxHeartbeats 4000000 in
set_option maxRecDepth 100000 in
theorem wP_X2_lock {G : mG} {F : Nat} {x : mXT} {sz : Nat} {M0 : mM} (X : mCX G RX2 cX2_lock 7 none "lock" rmX2_lock x) (hQ : mQV x M0 (sz, 0, 0)) {l0 : Nat} {l1 : Int32} {l2 : Nat} {l3 : Nat} {l4 : Nat} {l5 : Nat} {l6 : Nat} {M : mM} (h : P_X2_lock G F l0 l1 l2 l3 l4 l5 l6 M = some M0) : WW x (sz, 0, 0) M 0 [(0, .ref l0), (1, .int l1), (2, .ref l2), (3, .ref l3), (4, .ref l4), (5, .ref l5), (6, .ref l6)] [] := by
  unfold P_X2_lock at h
  refine ww_aload 0 X dX2_lock_0 6 rfl ?_
  obtain ⟨_, f2, h⟩ := bO_some h
  obtain ⟨M2, e2, h⟩ := bO_some h
  refine ww_callVV0 2 X dX2_lock_2 mY_X0_clear mL_X2_37 (rcv_spec f2) ⟨_, _, rfl⟩ (by decide) (As := []) (rest := []) rfl rfl ⟨Nat.le_of_ble_eq_true rfl, Nat.le_of_ble_eq_true rfl⟩ (Nat.le_of_ble_eq_true rfl) (fun l D A => c_X0_clear l D A e2) ?_
  refine ww_iload_n 5 X dX2_lock_5 1 rfl rfl ?_
  refine ww_iconst 6 X (v := (2 : Int32)) dX2_lock_6 (by decide) ?_
  refine ww_icmp_ge 7 39 X dX2_lock_7 (by decide) (fun q => ?_) (fun q => ?_)
  · replace h := (if_pos q).symm.trans h
    refine ww_aload_n 39 X dX2_lock_39 0 rfl rfl ?_
    refine ww_aload_n 40 X dX2_lock_40 2 rfl rfl ?_
    refine ww_aload_n 41 X dX2_lock_41 3 rfl rfl ?_
    refine ww_aload 42 X dX2_lock_42 5 rfl ?_
    refine ww_aload 44 X dX2_lock_44 5 rfl ?_
    obtain ⟨v46, e46, h⟩ := bO_some h
    refine ww_getI 46 X dX2_lock_46 fG_X2_44 e46 ?_
    refine ww_aload 49 X dX2_lock_49 6 rfl ?_
    obtain ⟨_, f51, h⟩ := bO_some h
    obtain ⟨M51, e51, h⟩ := bO_some h
    refine ww_callVV0 51 X dX2_lock_51 mY_X2_putCounted mL_X2_52 (rcv_spec f51) ⟨_, _, rfl⟩ (by decide) (As := [.ref l2, .ref l3, .ref l5, .int v46, .ref l6]) (rest := []) rfl rfl ⟨Nat.le_of_ble_eq_true rfl, Nat.le_of_ble_eq_true rfl⟩ (Nat.le_of_ble_eq_true rfl) (fun l D A => c_X2_putCounted l D A e51) ?_
    refine ww_aload_n 54 X dX2_lock_54 0 rfl rfl ?_
    refine ww_aload_n 55 X dX2_lock_55 3 rfl rfl ?_
    refine ww_aload 56 X dX2_lock_56 4 rfl ?_
    refine ww_aload 58 X dX2_lock_58 6 rfl ?_
    refine ww_aload 60 X dX2_lock_60 6 rfl ?_
    obtain ⟨v62, e62, h⟩ := bO_some h
    refine ww_getI 62 X dX2_lock_62 fG_X2_44 e62 ?_
    obtain ⟨_, f65, h⟩ := bO_some h
    obtain ⟨M65, e65, h⟩ := bO_some h
    refine ww_callVV0 65 X dX2_lock_65 mY_X2_markByField mL_X2_56 (rcv_spec f65) ⟨_, _, rfl⟩ (by decide) (As := [.ref l3, .ref l4, .ref l6, .int v62]) (rest := []) rfl rfl ⟨Nat.le_of_ble_eq_true rfl, Nat.le_of_ble_eq_true rfl⟩ (Nat.le_of_ble_eq_true rfl) (fun l D A => c_X2_markByField l D A e65) ?_
    refine ww_aload 68 X dX2_lock_68 6 rfl ?_
    refine ww_aload_n 70 X dX2_lock_70 0 rfl rfl ?_
    obtain ⟨v71, e71, h⟩ := bO_some h
    refine ww_getR 71 X dX2_lock_71 fG_X2_25 e71 ?_
    obtain ⟨_, f74, h⟩ := bO_some h
    obtain ⟨M74, e74, h⟩ := bO_some h
    refine ww_callVV0 74 X dX2_lock_74 mY_X0_putAll mL_X2_60 (rcv_spec f74) ⟨_, _, rfl⟩ (by decide) (As := [.ref v71]) (rest := []) rfl rfl ⟨Nat.le_of_ble_eq_true rfl, Nat.le_of_ble_eq_true rfl⟩ (Nat.le_of_ble_eq_true rfl) (fun l D A => c_X0_putAll l D A e74) ?_
    exact ww_vretE 77 X hQ dX2_lock_77 h
  · replace h := (if_neg q).symm.trans h
    refine ww_aload_n 10 X dX2_lock_10 0 rfl rfl ?_
    refine ww_aload_n 11 X dX2_lock_11 2 rfl rfl ?_
    refine ww_aload_n 12 X dX2_lock_12 3 rfl rfl ?_
    refine ww_aload 13 X dX2_lock_13 5 rfl ?_
    refine ww_aload 15 X dX2_lock_15 6 rfl ?_
    obtain ⟨_, f17, h⟩ := bO_some h
    obtain ⟨M17, e17, h⟩ := bO_some h
    refine ww_callVV0 17 X dX2_lock_17 mY_X2_putChained mL_X2_40 (rcv_spec f17) ⟨_, _, rfl⟩ (by decide) (As := [.ref l2, .ref l3, .ref l5, .ref l6]) (rest := []) rfl rfl ⟨Nat.le_of_ble_eq_true rfl, Nat.le_of_ble_eq_true rfl⟩ (Nat.le_of_ble_eq_true rfl) (fun l D A => c_X2_putChained l D A e17) ?_
    refine ww_aload_n 20 X dX2_lock_20 0 rfl rfl ?_
    refine ww_iload_n 21 X dX2_lock_21 1 rfl rfl ?_
    refine ww_aload_n 22 X dX2_lock_22 2 rfl rfl ?_
    refine ww_aload_n 23 X dX2_lock_23 3 rfl rfl ?_
    refine ww_aload 24 X dX2_lock_24 4 rfl ?_
    refine ww_aload 26 X dX2_lock_26 6 rfl ?_
    refine ww_aload 28 X dX2_lock_28 6 rfl ?_
    obtain ⟨v30, e30, h⟩ := bO_some h
    refine ww_getI 30 X dX2_lock_30 fG_X2_44 e30 ?_
    obtain ⟨_, f33, h⟩ := bO_some h
    obtain ⟨M33, e33, h⟩ := bO_some h
    refine ww_callVV0 33 X dX2_lock_33 mY_X2_markByCode mL_X2_48 (rcv_spec f33) ⟨_, _, rfl⟩ (by decide) (As := [.int l1, .ref l2, .ref l3, .ref l4, .ref l6, .int v30]) (rest := []) rfl rfl ⟨Nat.le_of_ble_eq_true rfl, Nat.le_of_ble_eq_true rfl⟩ (Nat.le_of_ble_eq_true rfl) (fun l D A => c_X2_markByCode l D A e33) ?_
    refine ww_goto 36 68 X dX2_lock_36 (by decide) ?_
    refine ww_aload 68 X dX2_lock_68 6 rfl ?_
    refine ww_aload_n 70 X dX2_lock_70 0 rfl rfl ?_
    obtain ⟨v71, e71, h⟩ := bO_some h
    refine ww_getR 71 X dX2_lock_71 fG_X2_25 e71 ?_
    obtain ⟨_, f74, h⟩ := bO_some h
    obtain ⟨M74, e74, h⟩ := bO_some h
    refine ww_callVV0 74 X dX2_lock_74 mY_X0_putAll mL_X2_60 (rcv_spec f74) ⟨_, _, rfl⟩ (by decide) (As := [.ref v71]) (rest := []) rfl rfl ⟨Nat.le_of_ble_eq_true rfl, Nat.le_of_ble_eq_true rfl⟩ (Nat.le_of_ble_eq_true rfl) (fun l D A => c_X0_putAll l D A e74) ?_
    exact ww_vretE 77 X hQ dX2_lock_77 h
theorem c_X2_lock {G : mG} {F sz : Nat} {M0 : mM} (l : Launch) (D : mD) (A : Nat → Prop) {l0 : Nat} {l1 : Int32} {l2 : Nat} {l3 : Nat} {l4 : Nat} {l5 : Nat} {l6 : Nat} {M : mM} (h : P_X2_lock G F l0 l1 l2 l3 l4 l5 l6 M = some M0) : mMetV l D G A yX2_lock cX2_lock 7 none 5 143 0 0 [.ref l0, .int l1, .ref l2, .ref l3, .ref l4, .ref l5, .ref l6] M sz M0 sz := mMetV_of l D G A (by decide) (Nat.le_of_ble_eq_true rfl) (fun x X hQ => wP_X2_lock X hQ h)
/-! SealedTokens$Content.markStands(LSealedTokens$Bytes;I)Z -/
theorem dX2_markStands_0 : decode cX2_markStands 0 = .ok (.aload_n 0, 1) := by decide +kernel
theorem dX2_markStands_1 : decode cX2_markStands 1 = .ok (.getfield 25, 3) := by decide +kernel
theorem dX2_markStands_4 : decode cX2_markStands 4 = .ok (.iconst 0, 1) := by decide +kernel
theorem dX2_markStands_5 : decode cX2_markStands 5 = .ok (.aload_n 1, 1) := by decide +kernel
theorem dX2_markStands_6 : decode cX2_markStands 6 = .ok (.iload_n 2, 1) := by decide +kernel
theorem dX2_markStands_7 : decode cX2_markStands 7 = .ok (.aload_n 0, 1) := by decide +kernel
theorem dX2_markStands_8 : decode cX2_markStands 8 = .ok (.getfield 25, 3) := by decide +kernel
theorem dX2_markStands_11 : decode cX2_markStands 11 = .ok (.getfield 44, 3) := by decide +kernel
theorem dX2_markStands_14 : decode cX2_markStands 14 = .ok (.invokestatic 78, 3) := by decide +kernel
theorem dX2_markStands_17 : decode cX2_markStands 17 = .ok (.ifCond .ne 7, 3) := by decide +kernel
theorem dX2_markStands_20 : decode cX2_markStands 20 = .ok (.iconst 1, 1) := by decide +kernel
theorem dX2_markStands_21 : decode cX2_markStands 21 = .ok (.goto 4, 3) := by decide +kernel
theorem dX2_markStands_24 : decode cX2_markStands 24 = .ok (.iconst 0, 1) := by decide +kernel
theorem dX2_markStands_25 : decode cX2_markStands 25 = .ok (.ireturn, 1) := by decide +kernel
abbrev rmX2_markStands : Room := { frames := 2, cells := 0, slots := 0, locals := 48 }
set_option maxHeartbeats 4000000 in
set_option maxRecDepth 100000 in
theorem wP_X2_markStands {G : mG} {F : Nat} {x : mXT} {sz : Nat} {r0 : Int32} {M0 : mM} (X : mCX G RX2 cX2_markStands 3 (some .boolean) "markStands" rmX2_markStands x) (hQ : mQI x r0 M0 (sz, 0, 0)) {l0 : Nat} {l1 : Nat} {l2 : Int32} {M : mM} (h : P_X2_markStands G F l0 l1 l2 M = some (r0, M0)) : WW x (sz, 0, 0) M 0 [(0, .ref l0), (1, .ref l1), (2, .int l2)] [] := by
  unfold P_X2_markStands at h
  refine ww_aload_n 0 X dX2_markStands_0 0 rfl rfl ?_
  obtain ⟨v1, e1, h⟩ := bO_some h
  refine ww_getR 1 X dX2_markStands_1 fG_X2_25 e1 ?_
  refine ww_iconst 4 X (v := (0 : Int32)) dX2_markStands_4 (by decide) ?_
  refine ww_aload_n 5 X dX2_markStands_5 1 rfl rfl ?_
  refine ww_iload_n 6 X dX2_markStands_6 2 rfl rfl ?_
  refine ww_aload_n 7 X dX2_markStands_7 0 rfl rfl ?_
  obtain ⟨v8, e8, h⟩ := bO_some h
  refine ww_getR 8 X dX2_markStands_8 fG_X2_25 e8 ?_
  obtain ⟨v11, e11, h⟩ := bO_some h
  refine ww_getI 11 X dX2_markStands_11 fG_X2_44 e11 ?_
  obtain ⟨v14, M14, e14, h⟩ := bP_some h
  refine ww_callSI0 14 X dX2_markStands_14 mY_X0_compare mL_X2_78 (As := [.ref v1, .int (0 : Int32), .ref l1, .int l2, .int v11]) (rest := []) rfl rfl ⟨Nat.le_of_ble_eq_true rfl, Nat.le_of_ble_eq_true rfl⟩ (Nat.le_of_ble_eq_true rfl) (fun l D A => c_X0_compare l D A e14) ?_
  refine ww_if_ne 17 24 X dX2_markStands_17 (by decide) (fun q => ?_) (fun q => ?_)
  · replace h := (if_neg q).symm.trans h
    refine ww_iconst 24 X (v := (0 : Int32)) dX2_markStands_24 (by decide) ?_
    exact ww_zretE 25 X hQ dX2_markStands_25 h
  · replace h := (if_pos q).symm.trans h
    refine ww_iconst 20 X (v := (1 : Int32)) dX2_markStands_20 (by decide) ?_
    refine ww_goto 21 25 X dX2_markStands_21 (by decide) ?_
    exact ww_zretE 25 X hQ dX2_markStands_25 h
theorem c_X2_markStands {G : mG} {F sz : Nat} {r0 : Int32} {M0 : mM} (l : Launch) (D : mD) (A : Nat → Prop) {l0 : Nat} {l1 : Nat} {l2 : Int32} {M : mM} (h : P_X2_markStands G F l0 l1 l2 M = some (r0, M0)) : mMetI l D G A yX2_markStands cX2_markStands 3 (some .boolean) 2 48 0 0 [.ref l0, .ref l1, .int l2] M sz r0 M0 sz := mMetI_of l D G A (by decide) (Nat.le_of_ble_eq_true rfl) (fun x X hQ => wP_X2_markStands X hQ h)
/-! SealedTokens$Content.putUnchained(LSealedTokens$Bytes;LSealedTokens$Bytes;LSealedTokens$Bytes;ILSealedTokens$Bytes;)Z -/
theorem dX2_putUnchained_0 : decode cX2_putUnchained 0 = .ok (.aload_n 0, 1) := by decide +kernel
theorem dX2_putUnchained_1 : decode cX2_putUnchained 1 = .ok (.getfield 33, 3) := by decide +kernel
theorem dX2_putUnchained_4 : decode cX2_putUnchained 4 = .ok (.aload_n 1, 1) := by decide +kernel
theorem dX2_putUnchained_5 : decode cX2_putUnchained 5 = .ok (.aload_n 1, 1) := by decide +kernel
theorem dX2_putUnchained_6 : decode cX2_putUnchained 6 = .ok (.getfield 44, 3) := by decide +kernel
theorem dX2_putUnchained_9 : decode cX2_putUnchained 9 = .ok (.iconst 2, 1) := by decide +kernel
theorem dX2_putUnchained_10 : decode cX2_putUnchained 10 = .ok (.idiv, 1) := by decide +kernel
theorem dX2_putUnchained_11 : decode cX2_putUnchained 11 = .ok (.aload_n 1, 1) := by decide +kernel
theorem dX2_putUnchained_12 : decode cX2_putUnchained 12 = .ok (.getfield 44, 3) := by decide +kernel
theorem dX2_putUnchained_15 : decode cX2_putUnchained 15 = .ok (.iconst 2, 1) := by decide +kernel
theorem dX2_putUnchained_16 : decode cX2_putUnchained 16 = .ok (.idiv, 1) := by decide +kernel
theorem dX2_putUnchained_17 : decode cX2_putUnchained 17 = .ok (.invokevirtual 82, 3) := by decide +kernel
theorem dX2_putUnchained_20 : decode cX2_putUnchained 20 = .ok (.iconst 0, 1) := by decide +kernel
theorem dX2_putUnchained_21 : decode cX2_putUnchained 21 = .ok (.istore 6, 2) := by decide +kernel
theorem dX2_putUnchained_23 : decode cX2_putUnchained 23 = .ok (.iload 6, 2) := by decide +kernel
theorem dX2_putUnchained_25 : decode cX2_putUnchained 25 = .ok (.iload 4, 2) := by decide +kernel
theorem dX2_putUnchained_27 : decode cX2_putUnchained 27 = .ok (.if_icmp .ge 121, 3) := by decide +kernel
theorem dX2_putUnchained_30 : decode cX2_putUnchained 30 = .ok (.iconst 0, 1) := by decide +kernel
theorem dX2_putUnchained_31 : decode cX2_putUnchained 31 = .ok (.istore 7, 2) := by decide +kernel
theorem dX2_putUnchained_33 : decode cX2_putUnchained 33 = .ok (.iload 7, 2) := by decide +kernel
theorem dX2_putUnchained_35 : decode cX2_putUnchained 35 = .ok (.bipush 16, 2) := by decide +kernel
theorem dX2_putUnchained_37 : decode cX2_putUnchained 37 = .ok (.if_icmp .ge 58, 3) := by decide +kernel
theorem dX2_putUnchained_40 : decode cX2_putUnchained 40 = .ok (.aload_n 0, 1) := by decide +kernel
theorem dX2_putUnchained_41 : decode cX2_putUnchained 41 = .ok (.getfield 11, 3) := by decide +kernel
theorem dX2_putUnchained_44 : decode cX2_putUnchained 44 = .ok (.iload 7, 2) := by decide +kernel
theorem dX2_putUnchained_46 : decode cX2_putUnchained 46 = .ok (.aload_n 3, 1) := by decide +kernel
theorem dX2_putUnchained_47 : decode cX2_putUnchained 47 = .ok (.iload 6, 2) := by decide +kernel
theorem dX2_putUnchained_49 : decode cX2_putUnchained 49 = .ok (.iload 7, 2) := by decide +kernel
theorem dX2_putUnchained_51 : decode cX2_putUnchained 51 = .ok (.iadd, 1) := by decide +kernel
theorem dX2_putUnchained_52 : decode cX2_putUnchained 52 = .ok (.invokevirtual 90, 3) := by decide +kernel
theorem dX2_putUnchained_55 : decode cX2_putUnchained 55 = .ok (.iastore, 1) := by decide +kernel
theorem dX2_putUnchained_56 : decode cX2_putUnchained 56 = .ok (.aload_n 0, 1) := by decide +kernel
theorem dX2_putUnchained_57 : decode cX2_putUnchained 57 = .ok (.getfield 17, 3) := by decide +kernel
theorem dX2_putUnchained_60 : decode cX2_putUnchained 60 = .ok (.iload 7, 2) := by decide +kernel
theorem dX2_putUnchained_62 : decode cX2_putUnchained 62 = .ok (.iload 6, 2) := by decide +kernel
theorem dX2_putUnchained_64 : decode cX2_putUnchained 64 = .ok (.ifCond .ne 12, 3) := by decide +kernel
theorem dX2_putUnchained_67 : decode cX2_putUnchained 67 = .ok (.aload_n 2, 1) := by decide +kernel
theorem dX2_putUnchained_68 : decode cX2_putUnchained 68 = .ok (.iload 7, 2) := by decide +kernel
theorem dX2_putUnchained_70 : decode cX2_putUnchained 70 = .ok (.invokevirtual 90, 3) := by decide +kernel
theorem dX2_putUnchained_73 : decode cX2_putUnchained 73 = .ok (.goto 15, 3) := by decide +kernel
theorem dX2_putUnchained_76 : decode cX2_putUnchained 76 = .ok (.aload_n 3, 1) := by decide +kernel
theorem dX2_putUnchained_77 : decode cX2_putUnchained 77 = .ok (.iload 6, 2) := by decide +kernel
theorem dX2_putUnchained_79 : decode cX2_putUnchained 79 = .ok (.bipush 16, 2) := by decide +kernel
theorem dX2_putUnchained_81 : decode cX2_putUnchained 81 = .ok (.isub, 1) := by decide +kernel
theorem dX2_putUnchained_82 : decode cX2_putUnchained 82 = .ok (.iload 7, 2) := by decide +kernel
theorem dX2_putUnchained_84 : decode cX2_putUnchained 84 = .ok (.iadd, 1) := by decide +kernel
theorem dX2_putUnchained_85 : decode cX2_putUnchained 85 = .ok (.invokevirtual 90, 3) := by decide +kernel
theorem dX2_putUnchained_88 : decode cX2_putUnchained 88 = .ok (.iastore, 1) := by decide +kernel
theorem dX2_putUnchained_89 : decode cX2_putUnchained 89 = .ok (.iinc 7 1, 3) := by decide +kernel
theorem dX2_putUnchained_92 : decode cX2_putUnchained 92 = .ok (.goto (-59), 3) := by decide +kernel
theorem dX2_putUnchained_95 : decode cX2_putUnchained 95 = .ok (.aload_n 0, 1) := by decide +kernel
theorem dX2_putUnchained_96 : decode cX2_putUnchained 96 = .ok (.getfield 33, 3) := by decide +kernel
theorem dX2_putUnchained_99 : decode cX2_putUnchained 99 = .ok (.aload_n 0, 1) := by decide +kernel
theorem dX2_putUnchained_100 : decode cX2_putUnchained 100 = .ok (.getfield 11, 3) := by decide +kernel
theorem dX2_putUnchained_103 : decode cX2_putUnchained 103 = .ok (.invokevirtual 101, 3) := by decide +kernel
theorem dX2_putUnchained_106 : decode cX2_putUnchained 106 = .ok (.iconst 0, 1) := by decide +kernel
theorem dX2_putUnchained_107 : decode cX2_putUnchained 107 = .ok (.istore 7, 2) := by decide +kernel
theorem dX2_putUnchained_109 : decode cX2_putUnchained 109 = .ok (.iload 7, 2) := by decide +kernel
theorem dX2_putUnchained_111 : decode cX2_putUnchained 111 = .ok (.bipush 16, 2) := by decide +kernel
theorem dX2_putUnchained_113 : decode cX2_putUnchained 113 = .ok (.if_icmp .ge 29, 3) := by decide +kernel
theorem dX2_putUnchained_116 : decode cX2_putUnchained 116 = .ok (.aload 5, 2) := by decide +kernel
theorem dX2_putUnchained_118 : decode cX2_putUnchained 118 = .ok (.aload_n 0, 1) := by decide +kernel
theorem dX2_putUnchained_119 : decode cX2_putUnchained 119 = .ok (.getfield 11, 3) := by decide +kernel
theorem dX2_putUnchained_122 : decode cX2_putUnchained 122 = .ok (.iload 7, 2) := by decide +kernel
theorem dX2_putUnchained_124 : decode cX2_putUnchained 124 = .ok (.iaload, 1) := by decide +kernel
theorem dX2_putUnchained_125 : decode cX2_putUnchained 125 = .ok (.aload_n 0, 1) := by decide +kernel
theorem dX2_putUnchained_126 : decode cX2_putUnchained 126 = .ok (.getfield 17, 3) := by decide +kernel
theorem dX2_putUnchained_129 : decode cX2_putUnchained 129 = .ok (.iload 7, 2) := by decide +kernel
theorem dX2_putUnchained_131 : decode cX2_putUnchained 131 = .ok (.iaload, 1) := by decide +kernel
theorem dX2_putUnchained_132 : decode cX2_putUnchained 132 = .ok (.ixor, 1) := by decide +kernel
theorem dX2_putUnchained_133 : decode cX2_putUnchained 133 = .ok (.invokevirtual 98, 3) := by decide +kernel
theorem dX2_putUnchained_136 : decode cX2_putUnchained 136 = .ok (.iinc 7 1, 3) := by decide +kernel
theorem dX2_putUnchained_139 : decode cX2_putUnchained 139 = .ok (.goto (-30), 3) := by decide +kernel
theorem dX2_putUnchained_142 : decode cX2_putUnchained 142 = .ok (.iinc 6 16, 3) := by decide +kernel
theorem dX2_putUnchained_145 : decode cX2_putUnchained 145 = .ok (.goto (-122), 3) := by decide +kernel
theorem dX2_putUnchained_148 : decode cX2_putUnchained 148 = .ok (.aload 5, 2) := by decide +kernel
theorem dX2_putUnchained_150 : decode cX2_putUnchained 150 = .ok (.iload 4, 2) := by decide +kernel
theorem dX2_putUnchained_152 : decode cX2_putUnchained 152 = .ok (.iconst 1, 1) := by decide +kernel
theorem dX2_putUnchained_153 : decode cX2_putUnchained 153 = .ok (.isub, 1) := by decide +kernel
theorem dX2_putUnchained_154 : decode cX2_putUnchained 154 = .ok (.invokevirtual 90, 3) := by decide +kernel
theorem dX2_putUnchained_157 : decode cX2_putUnchained 157 = .ok (.istore 6, 2) := by decide +kernel
theorem dX2_putUnchained_159 : decode cX2_putUnchained 159 = .ok (.iload 6, 2) := by decide +kernel
theorem dX2_putUnchained_161 : decode cX2_putUnchained 161 = .ok (.iconst 1, 1) := by decide +kernel
theorem dX2_putUnchained_162 : decode cX2_putUnchained 162 = .ok (.if_icmp .lt 10, 3) := by decide +kernel
theorem dX2_putUnchained_165 : decode cX2_putUnchained 165 = .ok (.iload 6, 2) := by decide +kernel
theorem dX2_putUnchained_167 : decode cX2_putUnchained 167 = .ok (.bipush 16, 2) := by decide +kernel
theorem dX2_putUnchained_169 : decode cX2_putUnchained 169 = .ok (.if_icmp .le 5, 3) := by decide +kernel
theorem dX2_putUnchained_172 : decode cX2_putUnchained 172 = .ok (.iconst 0, 1) := by decide +kernel
theorem dX2_putUnchained_173 : decode cX2_putUnchained 173 = .ok (.ireturn, 1) := by decide +kernel
theorem dX2_putUnchained_174 : decode cX2_putUnchained 174 = .ok (.iload 4, 2) := by decide +kernel
theorem dX2_putUnchained_176 : decode cX2_putUnchained 176 = .ok (.iload 6, 2) := by decide +kernel
theorem dX2_putUnchained_178 : decode cX2_putUnchained 178 = .ok (.isub, 1) := by decide +kernel
theorem dX2_putUnchained_179 : decode cX2_putUnchained 179 = .ok (.istore 7, 2) := by decide +kernel
theorem dX2_putUnchained_181 : decode cX2_putUnchained 181 = .ok (.iload 7, 2) := by decide +kernel
theorem dX2_putUnchained_183 : decode cX2_putUnchained 183 = .ok (.iload 4, 2) := by decide +kernel
theorem dX2_putUnchained_185 : decode cX2_putUnchained 185 = .ok (.if_icmp .ge 23, 3) := by decide +kernel
theorem dX2_putUnchained_188 : decode cX2_putUnchained 188 = .ok (.aload 5, 2) := by decide +kernel
theorem dX2_putUnchained_190 : decode cX2_putUnchained 190 = .ok (.iload 7, 2) := by decide +kernel
theorem dX2_putUnchained_192 : decode cX2_putUnchained 192 = .ok (.invokevirtual 90, 3) := by decide +kernel
theorem dX2_putUnchained_195 : decode cX2_putUnchained 195 = .ok (.iload 6, 2) := by decide +kernel
theorem dX2_putUnchained_197 : decode cX2_putUnchained 197 = .ok (.if_icmp .eq 5, 3) := by decide +kernel
theorem dX2_putUnchained_200 : decode cX2_putUnchained 200 = .ok (.iconst 0, 1) := by decide +kernel
theorem dX2_putUnchained_201 : decode cX2_putUnchained 201 = .ok (.ireturn, 1) := by decide +kernel
theorem dX2_putUnchained_202 : decode cX2_putUnchained 202 = .ok (.iinc 7 1, 3) := by decide +kernel
theorem dX2_putUnchained_205 : decode cX2_putUnchained 205 = .ok (.goto (-24), 3) := by decide +kernel
theorem dX2_putUnchained_208 : decode cX2_putUnchained 208 = .ok (.aload 5, 2) := by decide +kernel
theorem dX2_putUnchained_210 : decode cX2_putUnchained 210 = .ok (.iload 4, 2) := by decide +kernel
theorem dX2_putUnchained_212 : decode cX2_putUnchained 212 = .ok (.iload 6, 2) := by decide +kernel
theorem dX2_putUnchained_214 : decode cX2_putUnchained 214 = .ok (.isub, 1) := by decide +kernel
theorem dX2_putUnchained_215 : decode cX2_putUnchained 215 = .ok (.invokevirtual 104, 3) := by decide +kernel
theorem dX2_putUnchained_218 : decode cX2_putUnchained 218 = .ok (.iconst 1, 1) := by decide +kernel
theorem dX2_putUnchained_219 : decode cX2_putUnchained 219 = .ok (.ireturn, 1) := by decide +kernel
abbrev rmX2_putUnchained : Room := { frames := 4, cells := 0, slots := 0, locals := 89 }
set_option maxHeartbeats 4000000 in
set_option maxRecDepth 100000 in
theorem wB_X2_putUnchained_181 {G : mG} {F : Nat} {x : mXT} {sz : Nat} {r0 : Int32} {M0 : mM} (X : mCX G RX2 cX2_putUnchained 8 (some .boolean) "putUnchained" rmX2_putUnchained x) (hQ : mQI x r0 M0 (sz, 0, 0)) : ∀ (n : Nat) (l4 : Int32) (l5 : Nat) (l6 : Int32) (l7 : Int32) (M : mM), B_X2_putUnchained_181 G F n l4 l5 l6 l7 M = some (r0, M0) → WW x (sz, 0, 0) M 181 [(4, .int l4), (5, .ref l5), (6, .int l6), (7, .int l7)] [] := by
  intro n
  induction n with
  | zero =>
    intro l4 l5 l6 l7 M h
    exact nomatch (show (none : Option (Int32 × mM)) = some (r0, M0) from h)
  | succ n ih =>
    intro l4 l5 l6 l7 M h
    rw [B_X2_putUnchained_181] at h
    refine ww_iload 181 X dX2_putUnchained_181 3 rfl ?_
    refine ww_iload 183 X dX2_putUnchained_183 0 rfl ?_
    refine ww_icmp_ge 185 208 X dX2_putUnchained_185 (by decide) (fun q => ?_) (fun q => ?_)
    · replace h := (if_pos q).symm.trans h
      refine ww_aload 208 X dX2_putUnchained_208 1 rfl ?_
      refine ww_iload 210 X dX2_putUnchained_210 0 rfl ?_
      refine ww_iload 212 X dX2_putUnchained_212 2 rfl ?_
      refine ww_isub 214 X dX2_putUnchained_214 ?_
      obtain ⟨_, f215, h⟩ := bO_some h
      obtain ⟨M215, e215, h⟩ := bO_some h
      refine ww_callVV0 215 X dX2_putUnchained_215 mY_X0_cutTo mL_X2_104 (rcv_spec f215) ⟨_, _, rfl⟩ (by decide) (As := [.int (l4 - l6)]) (rest := []) rfl rfl ⟨Nat.le_of_ble_eq_true rfl, Nat.le_of_ble_eq_true rfl⟩ (Nat.le_of_ble_eq_true rfl) (fun l D A => c_X0_cutTo l D A e215) ?_
      refine ww_iconst 218 X (v := (1 : Int32)) dX2_putUnchained_218 (by decide) ?_
      exact ww_zretE 219 X hQ dX2_putUnchained_219 h
    · replace h := (if_neg q).symm.trans h
      refine ww_aload 188 X dX2_putUnchained_188 1 rfl ?_
      refine ww_iload 190 X dX2_putUnchained_190 3 rfl ?_
      obtain ⟨_, f192, h⟩ := bO_some h
      obtain ⟨v192, M192, e192, h⟩ := bP_some h
      refine ww_callVI0 192 X dX2_putUnchained_192 mY_X0_get mL_X2_90 (rcv_spec f192) ⟨_, _, rfl⟩ (by decide) (As := [.int l7]) (rest := []) rfl rfl ⟨Nat.le_of_ble_eq_true rfl, Nat.le_of_ble_eq_true rfl⟩ (Nat.le_of_ble_eq_true rfl) (fun l D A => c_X0_get l D A e192) ?_
      refine ww_iload 195 X dX2_putUnchained_195 2 rfl ?_
      refine ww_icmp_eq 197 202 X dX2_putUnchained_197 (by decide) (fun q => ?_) (fun q => ?_)
      · replace h := (if_pos q).symm.trans h
        refine ww_iinc 202 X dX2_putUnchained_202 (lv' := [(4, .int l4), (5, .ref l5), (6, .int l6), (7, .int (l7 + 1))]) 3 rfl rfl (by decide) [1, 2, 3, 0] rfl ?_
        refine ww_goto 205 181 X dX2_putUnchained_205 (by decide) ?_
        exact (ih _ _ _ _ _ h)
      · replace h := (if_neg q).symm.trans h
        refine ww_iconst 200 X (v := (0 : Int32)) dX2_putUnchained_200 (by decide) ?_
        exact ww_zretE 201 X hQ dX2_putUnchained_201 h
set_option maxHeartbeats 4000000 in
set_option maxRecDepth 100000 in
theorem wB_X2_putUnchained_109 {G : mG} {F : Nat} {x : mXT} {sz : Nat} {r0 : Int32} {M0 : mM} (X : mCX G RX2 cX2_putUnchained 8 (some .boolean) "putUnchained" rmX2_putUnchained x) (hQ : mQI x r0 M0 (sz, 0, 0)) (r23 : Nat → Nat → Nat → Int32 → Nat → Int32 → mM → Option (Int32 × mM)) (hr23 : ∀ (l0 : Nat) (l2 : Nat) (l3 : Nat) (l4 : Int32) (l5 : Nat) (l6 : Int32) (M : mM), r23 l0 l2 l3 l4 l5 l6 M = some (r0, M0) → WW x (sz, 0, 0) M 23 [(0, .ref l0), (2, .ref l2), (3, .ref l3), (4, .int l4), (5, .ref l5), (6, .int l6)] []) : ∀ (n : Nat) (l0 : Nat) (l2 : Nat) (l3 : Nat) (l4 : Int32) (l5 : Nat) (l6 : Int32) (l7 : Int32) (M : mM), B_X2_putUnchained_109 G F r23 n l0 l2 l3 l4 l5 l6 l7 M = some (r0, M0) → WW x (sz, 0, 0) M 109 [(0, .ref l0), (2, .ref l2), (3, .ref l3), (4, .int l4), (5, .ref l5), (6, .int l6), (7, .int l7)] [] := by
  intro n
  induction n with
  | zero =>
    intro l0 l2 l3 l4 l5 l6 l7 M h
    exact nomatch (show (none : Option (Int32 × mM)) = some (r0, M0) from h)
  | succ n ih =>
    intro l0 l2 l3 l4 l5 l6 l7 M h
    rw [B_X2_putUnchained_109] at h
    refine ww_iload 109 X dX2_putUnchained_109 6 rfl ?_
    refine ww_bipush 111 X (v := (16 : Int32)) dX2_putUnchained_111 (by decide) ?_
    refine ww_icmp_ge 113 142 X dX2_putUnchained_113 (by decide) (fun q => ?_) (fun q => ?_)
    · replace h := (if_pos q).symm.trans h
      refine ww_iinc 142 X dX2_putUnchained_142 (lv' := [(0, .ref l0), (2, .ref l2), (3, .ref l3), (4, .int l4), (5, .ref l5), (6, .int (l6 + 16)), (7, .int l7)]) 5 rfl rfl (by decide) [1, 2, 3, 4, 5, 0, 6] rfl ?_
      refine ww_goto 145 23 X dX2_putUnchained_145 (by decide) ?_
      exact ww_sub [0, 1, 2, 3, 4, 5] rfl (hr23 _ _ _ _ _ _ _ h)
    · replace h := (if_neg q).symm.trans h
      refine ww_aload 116 X dX2_putUnchained_116 4 rfl ?_
      refine ww_aload_n 118 X dX2_putUnchained_118 0 rfl rfl ?_
      obtain ⟨v119, e119, h⟩ := bO_some h
      refine ww_getR 119 X dX2_putUnchained_119 fG_X2_11 e119 ?_
      refine ww_iload 122 X dX2_putUnchained_122 6 rfl ?_
      obtain ⟨v124, e124, h⟩ := bO_some h
      refine ww_iald 124 X dX2_putUnchained_124 e124 ?_
      refine ww_aload_n 125 X dX2_putUnchained_125 0 rfl rfl ?_
      obtain ⟨v126, e126, h⟩ := bO_some h
      refine ww_getR 126 X dX2_putUnchained_126 fG_X2_17 e126 ?_
      refine ww_iload 129 X dX2_putUnchained_129 6 rfl ?_
      obtain ⟨v131, e131, h⟩ := bO_some h
      refine ww_iald 131 X dX2_putUnchained_131 e131 ?_
      refine ww_ixor 132 X dX2_putUnchained_132 ?_
      obtain ⟨_, f133, h⟩ := bO_some h
      obtain ⟨M133, e133, h⟩ := bO_some h
      refine ww_callVV0 133 X dX2_putUnchained_133 mY_X0_put mL_X2_98 (rcv_spec f133) ⟨_, _, rfl⟩ (by decide) (As := [.int (v124 ^^^ v131)]) (rest := []) rfl rfl ⟨Nat.le_of_ble_eq_true rfl, Nat.le_of_ble_eq_true rfl⟩ (Nat.le_of_ble_eq_true rfl) (fun l D A => c_X0_put l D A e133) ?_
      refine ww_iinc 136 X dX2_putUnchained_136 (lv' := [(0, .ref l0), (2, .ref l2), (3, .ref l3), (4, .int l4), (5, .ref l5), (6, .int l6), (7, .int (l7 + 1))]) 6 rfl rfl (by decide) [1, 2, 3, 4, 5, 6, 0] rfl ?_
      refine ww_goto 139 109 X dX2_putUnchained_139 (by decide) ?_
      exact (ih _ _ _ _ _ _ _ _ h)
set_option maxHeartbeats 4000000 in
set_option maxRecDepth 100000 in
theorem wB_X2_putUnchained_33 {G : mG} {F : Nat} {x : mXT} {sz : Nat} {r0 : Int32} {M0 : mM} (X : mCX G RX2 cX2_putUnchained 8 (some .boolean) "putUnchained" rmX2_putUnchained x) (hQ : mQI x r0 M0 (sz, 0, 0)) (r23 : Nat → Nat → Nat → Int32 → Nat → Int32 → mM → Option (Int32 × mM)) (hr23 : ∀ (l0 : Nat) (l2 : Nat) (l3 : Nat) (l4 : Int32) (l5 : Nat) (l6 : Int32) (M : mM), r23 l0 l2 l3 l4 l5 l6 M = some (r0, M0) → WW x (sz, 0, 0) M 23 [(0, .ref l0), (2, .ref l2), (3, .ref l3), (4, .int l4), (5, .ref l5), (6, .int l6)] []) : ∀ (n : Nat) (l0 : Nat) (l2 : Nat) (l3 : Nat) (l4 : Int32) (l5 : Nat) (l6 : Int32) (l7 : Int32) (M : mM), B_X2_putUnchained_33 G F r23 n l0 l2 l3 l4 l5 l6 l7 M = some (r0, M0) → WW x (sz, 0, 0) M 33 [(0, .ref l0), (2, .ref l2), (3, .ref l3), (4, .int l4), (5, .ref l5), (6, .int l6), (7, .int l7)] [] := by
  intro n
  induction n with
  | zero =>
    intro l0 l2 l3 l4 l5 l6 l7 M h
    exact nomatch (show (none : Option (Int32 × mM)) = some (r0, M0) from h)
  | succ n ih =>
    intro l0 l2 l3 l4 l5 l6 l7 M h
    rw [B_X2_putUnchained_33] at h
    refine ww_iload 33 X dX2_putUnchained_33 6 rfl ?_
    refine ww_bipush 35 X (v := (16 : Int32)) dX2_putUnchained_35 (by decide) ?_
    refine ww_icmp_ge 37 95 X dX2_putUnchained_37 (by decide) (fun q => ?_) (fun q => ?_)
    · replace h := (if_pos q).symm.trans h
      refine ww_aload_n 95 X dX2_putUnchained_95 0 rfl rfl ?_
      obtain ⟨v96, e96, h⟩ := bO_some h
      refine ww_getR 96 X dX2_putUnchained_96 fG_X2_33 e96 ?_
      refine ww_aload_n 99 X dX2_putUnchained_99 0 rfl rfl ?_
      obtain ⟨v100, e100, h⟩ := bO_some h
      refine ww_getR 100 X dX2_putUnchained_100 fG_X2_11 e100 ?_
      obtain ⟨_, f103, h⟩ := bO_some h
      obtain ⟨M103, e103, h⟩ := bO_some h
      refine ww_callVV0 103 X dX2_putUnchained_103 mY_X1_backward mL_X2_101 (rcv_spec f103) ⟨_, _, rfl⟩ (by decide) (As := [.ref v100]) (rest := []) rfl rfl ⟨Nat.le_of_ble_eq_true rfl, Nat.le_of_ble_eq_true rfl⟩ (Nat.le_of_ble_eq_true rfl) (fun l D A => c_X1_backward l D A e103) ?_
      refine ww_iconst 106 X (v := (0 : Int32)) dX2_putUnchained_106 (by decide) ?_
      refine ww_istore 107 X dX2_putUnchained_107 (lv' := [(0, .ref l0), (2, .ref l2), (3, .ref l3), (4, .int l4), (5, .ref l5), (6, .int l6), (7, .int (0 : Int32))]) (by decide) [1, 2, 3, 4, 5, 6, 0] rfl ?_
      exact (wB_X2_putUnchained_109 X hQ _ hr23 F _ _ _ _ _ _ _ _ h)
    · replace h := (if_neg q).symm.trans h
      refine ww_aload_n 40 X dX2_putUnchained_40 0 rfl rfl ?_
      obtain ⟨v41, e41, h⟩ := bO_some h
      refine ww_getR 41 X dX2_putUnchained_41 fG_X2_11 e41 ?_
      refine ww_iload 44 X dX2_putUnchained_44 6 rfl ?_
      refine ww_aload_n 46 X dX2_putUnchained_46 2 rfl rfl ?_
      refine ww_iload 47 X dX2_putUnchained_47 5 rfl ?_
      refine ww_iload 49 X dX2_putUnchained_49 6 rfl ?_
      refine ww_iadd 51 X dX2_putUnchained_51 ?_
      obtain ⟨_, f52, h⟩ := bO_some h
      obtain ⟨v52, M52, e52, h⟩ := bP_some h
      refine ww_callVI0 52 X dX2_putUnchained_52 mY_X0_get mL_X2_90 (rcv_spec f52) ⟨_, _, rfl⟩ (by decide) (As := [.int (l6 + l7)]) (rest := [.int l7, .ref v41]) rfl rfl ⟨Nat.le_of_ble_eq_true rfl, Nat.le_of_ble_eq_true rfl⟩ (Nat.le_of_ble_eq_true rfl) (fun l D A => c_X0_get l D A e52) ?_
      obtain ⟨M55, e55, h⟩ := bO_some h
      refine ww_iast 55 X dX2_putUnchained_55 e55 ?_
      refine ww_aload_n 56 X dX2_putUnchained_56 0 rfl rfl ?_
      obtain ⟨v57, e57, h⟩ := bO_some h
      refine ww_getR 57 X dX2_putUnchained_57 fG_X2_17 e57 ?_
      refine ww_iload 60 X dX2_putUnchained_60 6 rfl ?_
      refine ww_iload 62 X dX2_putUnchained_62 5 rfl ?_
      refine ww_if_ne 64 76 X dX2_putUnchained_64 (by decide) (fun q => ?_) (fun q => ?_)
      · replace h := (if_neg q).symm.trans h
        refine ww_aload_n 76 X dX2_putUnchained_76 2 rfl rfl ?_
        refine ww_iload 77 X dX2_putUnchained_77 5 rfl ?_
        refine ww_bipush 79 X (v := (16 : Int32)) dX2_putUnchained_79 (by decide) ?_
        refine ww_isub 81 X dX2_putUnchained_81 ?_
        refine ww_iload 82 X dX2_putUnchained_82 6 rfl ?_
        refine ww_iadd 84 X dX2_putUnchained_84 ?_
        obtain ⟨_, f85, h⟩ := bO_some h
        obtain ⟨v85, M85, e85, h⟩ := bP_some h
        refine ww_callVI0 85 X dX2_putUnchained_85 mY_X0_get mL_X2_90 (rcv_spec f85) ⟨_, _, rfl⟩ (by decide) (As := [.int ((l6 - (16 : Int32)) + l7)]) (rest := [.int l7, .ref v57]) rfl rfl ⟨Nat.le_of_ble_eq_true rfl, Nat.le_of_ble_eq_true rfl⟩ (Nat.le_of_ble_eq_true rfl) (fun l D A => c_X0_get l D A e85) ?_
        obtain ⟨M88, e88, h⟩ := bO_some h
        refine ww_iast 88 X dX2_putUnchained_88 e88 ?_
        refine ww_iinc 89 X dX2_putUnchained_89 (lv' := [(0, .ref l0), (2, .ref l2), (3, .ref l3), (4, .int l4), (5, .ref l5), (6, .int l6), (7, .int (l7 + 1))]) 6 rfl rfl (by decide) [1, 2, 3, 4, 5, 6, 0] rfl ?_
        refine ww_goto 92 33 X dX2_putUnchained_92 (by decide) ?_
        exact (ih _ _ _ _ _ _ _ _ h)
      · replace h := (if_pos q).symm.trans h
        refine ww_aload_n 67 X dX2_putUnchained_67 1 rfl rfl ?_
        refine ww_iload 68 X dX2_putUnchained_68 6 rfl ?_
        obtain ⟨_, f70, h⟩ := bO_some h
        obtain ⟨v70, M70, e70, h⟩ := bP_some h
        refine ww_callVI0 70 X dX2_putUnchained_70 mY_X0_get mL_X2_90 (rcv_spec f70) ⟨_, _, rfl⟩ (by decide) (As := [.int l7]) (rest := [.int l7, .ref v57]) rfl rfl ⟨Nat.le_of_ble_eq_true rfl, Nat.le_of_ble_eq_true rfl⟩ (Nat.le_of_ble_eq_true rfl) (fun l D A => c_X0_get l D A e70) ?_
        refine ww_goto 73 88 X dX2_putUnchained_73 (by decide) ?_
        obtain ⟨M88, e88, h⟩ := bO_some h
        refine ww_iast 88 X dX2_putUnchained_88 e88 ?_
        refine ww_iinc 89 X dX2_putUnchained_89 (lv' := [(0, .ref l0), (2, .ref l2), (3, .ref l3), (4, .int l4), (5, .ref l5), (6, .int l6), (7, .int (l7 + 1))]) 6 rfl rfl (by decide) [1, 2, 3, 4, 5, 6, 0] rfl ?_
        refine ww_goto 92 33 X dX2_putUnchained_92 (by decide) ?_
        exact (ih _ _ _ _ _ _ _ _ h)
set_option maxHeartbeats 4000000 in
set_option maxRecDepth 100000 in
theorem wB_X2_putUnchained_23 {G : mG} {F : Nat} {x : mXT} {sz : Nat} {r0 : Int32} {M0 : mM} (X : mCX G RX2 cX2_putUnchained 8 (some .boolean) "putUnchained" rmX2_putUnchained x) (hQ : mQI x r0 M0 (sz, 0, 0)) : ∀ (n : Nat) (l0 : Nat) (l2 : Nat) (l3 : Nat) (l4 : Int32) (l5 : Nat) (l6 : Int32) (M : mM), B_X2_putUnchained_23 G F n l0 l2 l3 l4 l5 l6 M = some (r0, M0) → WW x (sz, 0, 0) M 23 [(0, .ref l0), (2, .ref l2), (3, .ref l3), (4, .int l4), (5, .ref l5), (6, .int l6)] [] := by
  intro n
  induction n with
  | zero =>
    intro l0 l2 l3 l4 l5 l6 M h
    exact nomatch (show (none : Option (Int32 × mM)) = some (r0, M0) from h)
  | succ n ih =>
    intro l0 l2 l3 l4 l5 l6 M h
    rw [B_X2_putUnchained_23] at h
    refine ww_iload 23 X dX2_putUnchained_23 5 rfl ?_
    refine ww_iload 25 X dX2_putUnchained_25 3 rfl ?_
    refine ww_icmp_ge 27 148 X dX2_putUnchained_27 (by decide) (fun q => ?_) (fun q => ?_)
    · replace h := (if_pos q).symm.trans h
      refine ww_aload 148 X dX2_putUnchained_148 4 rfl ?_
      refine ww_iload 150 X dX2_putUnchained_150 3 rfl ?_
      refine ww_iconst 152 X (v := (1 : Int32)) dX2_putUnchained_152 (by decide) ?_
      refine ww_isub 153 X dX2_putUnchained_153 ?_
      obtain ⟨_, f154, h⟩ := bO_some h
      obtain ⟨v154, M154, e154, h⟩ := bP_some h
      refine ww_callVI0 154 X dX2_putUnchained_154 mY_X0_get mL_X2_90 (rcv_spec f154) ⟨_, _, rfl⟩ (by decide) (As := [.int (l4 - (1 : Int32))]) (rest := []) rfl rfl ⟨Nat.le_of_ble_eq_true rfl, Nat.le_of_ble_eq_true rfl⟩ (Nat.le_of_ble_eq_true rfl) (fun l D A => c_X0_get l D A e154) ?_
      refine ww_istore 157 X dX2_putUnchained_157 (lv' := [(0, .ref l0), (2, .ref l2), (3, .ref l3), (4, .int l4), (5, .ref l5), (6, .int v154)]) (by decide) [1, 2, 3, 4, 5, 0] rfl ?_
      refine ww_iload 159 X dX2_putUnchained_159 5 rfl ?_
      refine ww_iconst 161 X (v := (1 : Int32)) dX2_putUnchained_161 (by decide) ?_
      refine ww_icmp_lt 162 172 X dX2_putUnchained_162 (by decide) (fun q => ?_) (fun q => ?_)
      · replace h := (if_pos q).symm.trans h
        refine ww_iconst 172 X (v := (0 : Int32)) dX2_putUnchained_172 (by decide) ?_
        exact ww_zretE 173 X hQ dX2_putUnchained_173 h
      · replace h := (if_neg q).symm.trans h
        refine ww_iload 165 X dX2_putUnchained_165 5 rfl ?_
        refine ww_bipush 167 X (v := (16 : Int32)) dX2_putUnchained_167 (by decide) ?_
        refine ww_icmp_le 169 174 X dX2_putUnchained_169 (by decide) (fun q => ?_) (fun q => ?_)
        · replace h := (if_pos q).symm.trans h
          refine ww_iload 174 X dX2_putUnchained_174 3 rfl ?_
          refine ww_iload 176 X dX2_putUnchained_176 5 rfl ?_
          refine ww_isub 178 X dX2_putUnchained_178 ?_
          refine ww_istore 179 X dX2_putUnchained_179 (lv' := [(0, .ref l0), (2, .ref l2), (3, .ref l3), (4, .int l4), (5, .ref l5), (6, .int v154), (7, .int (l4 - v154))]) (by decide) [1, 2, 3, 4, 5, 6, 0] rfl ?_
          exact ww_sub [3, 4, 5, 6] rfl (wB_X2_putUnchained_181 X hQ F _ _ _ _ _ h)
        · replace h := (if_neg q).symm.trans h
          refine ww_iconst 172 X (v := (0 : Int32)) dX2_putUnchained_172 (by decide) ?_
          exact ww_zretE 173 X hQ dX2_putUnchained_173 h
    · replace h := (if_neg q).symm.trans h
      refine ww_iconst 30 X (v := (0 : Int32)) dX2_putUnchained_30 (by decide) ?_
      refine ww_istore 31 X dX2_putUnchained_31 (lv' := [(0, .ref l0), (2, .ref l2), (3, .ref l3), (4, .int l4), (5, .ref l5), (6, .int l6), (7, .int (0 : Int32))]) (by decide) [1, 2, 3, 4, 5, 6, 0] rfl ?_
      exact (wB_X2_putUnchained_33 X hQ _ ih F _ _ _ _ _ _ _ _ h)
set_option maxHeartbeats 4000000 in
set_option maxRecDepth 100000 in
theorem wP_X2_putUnchained {G : mG} {F : Nat} {x : mXT} {sz : Nat} {r0 : Int32} {M0 : mM} (X : mCX G RX2 cX2_putUnchained 8 (some .boolean) "putUnchained" rmX2_putUnchained x) (hQ : mQI x r0 M0 (sz, 0, 0)) {l0 : Nat} {l1 : Nat} {l2 : Nat} {l3 : Nat} {l4 : Int32} {l5 : Nat} {M : mM} (h : P_X2_putUnchained G F l0 l1 l2 l3 l4 l5 M = some (r0, M0)) : WW x (sz, 0, 0) M 0 [(0, .ref l0), (1, .ref l1), (2, .ref l2), (3, .ref l3), (4, .int l4), (5, .ref l5)] [] := by
  unfold P_X2_putUnchained at h
  refine ww_aload_n 0 X dX2_putUnchained_0 0 rfl rfl ?_
  obtain ⟨v1, e1, h⟩ := bO_some h
  refine ww_getR 1 X dX2_putUnchained_1 fG_X2_33 e1 ?_
  refine ww_aload_n 4 X dX2_putUnchained_4 1 rfl rfl ?_
  refine ww_aload_n 5 X dX2_putUnchained_5 1 rfl rfl ?_
  obtain ⟨v6, e6, h⟩ := bO_some h
  refine ww_getI 6 X dX2_putUnchained_6 fG_X2_44 e6 ?_
  refine ww_iconst 9 X (v := (2 : Int32)) dX2_putUnchained_9 (by decide) ?_
  refine ww_idiv 10 X (v := (v6 / (2 : Int32))) dX2_putUnchained_10 rfl ?_
  refine ww_aload_n 11 X dX2_putUnchained_11 1 rfl rfl ?_
  obtain ⟨v12, e12, h⟩ := bO_some h
  refine ww_getI 12 X dX2_putUnchained_12 fG_X2_44 e12 ?_
  refine ww_iconst 15 X (v := (2 : Int32)) dX2_putUnchained_15 (by decide) ?_
  refine ww_idiv 16 X (v := (v12 / (2 : Int32))) dX2_putUnchained_16 rfl ?_
  obtain ⟨_, f17, h⟩ := bO_some h
  obtain ⟨M17, e17, h⟩ := bO_some h
  refine ww_callVV0 17 X dX2_putUnchained_17 mY_X1_become mL_X2_82 (rcv_spec f17) ⟨_, _, rfl⟩ (by decide) (As := [.ref l1, .int (v6 / (2 : Int32)), .int (v12 / (2 : Int32))]) (rest := []) rfl rfl ⟨Nat.le_of_ble_eq_true rfl, Nat.le_of_ble_eq_true rfl⟩ (Nat.le_of_ble_eq_true rfl) (fun l D A => c_X1_become l D A e17) ?_
  refine ww_iconst 20 X (v := (0 : Int32)) dX2_putUnchained_20 (by decide) ?_
  refine ww_istore 21 X dX2_putUnchained_21 (lv' := [(0, .ref l0), (1, .ref l1), (2, .ref l2), (3, .ref l3), (4, .int l4), (5, .ref l5), (6, .int (0 : Int32))]) (by decide) [1, 2, 3, 4, 5, 6, 0] rfl ?_
  exact ww_sub [0, 2, 3, 4, 5, 6] rfl (wB_X2_putUnchained_23 X hQ F _ _ _ _ _ _ _ h)
theorem c_X2_putUnchained {G : mG} {F sz : Nat} {r0 : Int32} {M0 : mM} (l : Launch) (D : mD) (A : Nat → Prop) {l0 : Nat} {l1 : Nat} {l2 : Nat} {l3 : Nat} {l4 : Int32} {l5 : Nat} {M : mM} (h : P_X2_putUnchained G F l0 l1 l2 l3 l4 l5 M = some (r0, M0)) : mMetI l D G A yX2_putUnchained cX2_putUnchained 8 (some .boolean) 4 89 0 0 [.ref l0, .ref l1, .ref l2, .ref l3, .int l4, .ref l5] M sz r0 M0 sz := mMetI_of l D G A (by decide) (Nat.le_of_ble_eq_true rfl) (fun x X hQ => wP_X2_putUnchained X hQ h)
/-! SealedTokens$Content.unlock(ILSealedTokens$Bytes;LSealedTokens$Bytes;LSealedTokens$Bytes;LSealedTokens$Bytes;LSealedTokens$Bytes;)Z -/
theorem dX2_unlock_0 : decode cX2_unlock 0 = .ok (.aload 5, 2) := by decide +kernel
theorem dX2_unlock_2 : decode cX2_unlock 2 = .ok (.getfield 44, 3) := by decide +kernel
theorem dX2_unlock_5 : decode cX2_unlock 5 = .ok (.getstatic 64, 3) := by decide +kernel
theorem dX2_unlock_8 : decode cX2_unlock 8 = .ok (.iload_n 1, 1) := by decide +kernel
theorem dX2_unlock_9 : decode cX2_unlock 9 = .ok (.iaload, 1) := by decide +kernel
theorem dX2_unlock_10 : decode cX2_unlock 10 = .ok (.isub, 1) := by decide +kernel
theorem dX2_unlock_11 : decode cX2_unlock 11 = .ok (.istore 7, 2) := by decide +kernel
theorem dX2_unlock_13 : decode cX2_unlock 13 = .ok (.iload 7, 2) := by decide +kernel
theorem dX2_unlock_15 : decode cX2_unlock 15 = .ok (.ifCond .lt 15, 3) := by decide +kernel
theorem dX2_unlock_18 : decode cX2_unlock 18 = .ok (.aload_n 2, 1) := by decide +kernel
theorem dX2_unlock_19 : decode cX2_unlock 19 = .ok (.getfield 44, 3) := by decide +kernel
theorem dX2_unlock_22 : decode cX2_unlock 22 = .ok (.getstatic 67, 3) := by decide +kernel
theorem dX2_unlock_25 : decode cX2_unlock 25 = .ok (.iload_n 1, 1) := by decide +kernel
theorem dX2_unlock_26 : decode cX2_unlock 26 = .ok (.iaload, 1) := by decide +kernel
theorem dX2_unlock_27 : decode cX2_unlock 27 = .ok (.if_icmp .eq 5, 3) := by decide +kernel
theorem dX2_unlock_30 : decode cX2_unlock 30 = .ok (.iconst 0, 1) := by decide +kernel
theorem dX2_unlock_31 : decode cX2_unlock 31 = .ok (.ireturn, 1) := by decide +kernel
theorem dX2_unlock_32 : decode cX2_unlock 32 = .ok (.aload 6, 2) := by decide +kernel
theorem dX2_unlock_34 : decode cX2_unlock 34 = .ok (.invokevirtual 37, 3) := by decide +kernel
theorem dX2_unlock_37 : decode cX2_unlock 37 = .ok (.iload_n 1, 1) := by decide +kernel
theorem dX2_unlock_38 : decode cX2_unlock 38 = .ok (.iconst 2, 1) := by decide +kernel
theorem dX2_unlock_39 : decode cX2_unlock 39 = .ok (.if_icmp .ge 63, 3) := by decide +kernel
theorem dX2_unlock_42 : decode cX2_unlock 42 = .ok (.iload 7, 2) := by decide +kernel
theorem dX2_unlock_44 : decode cX2_unlock 44 = .ok (.ifCond .eq 11, 3) := by decide +kernel
theorem dX2_unlock_47 : decode cX2_unlock 47 = .ok (.iload 7, 2) := by decide +kernel
theorem dX2_unlock_49 : decode cX2_unlock 49 = .ok (.bipush 16, 2) := by decide +kernel
theorem dX2_unlock_51 : decode cX2_unlock 51 = .ok (.irem, 1) := by decide +kernel
theorem dX2_unlock_52 : decode cX2_unlock 52 = .ok (.ifCond .eq 5, 3) := by decide +kernel
theorem dX2_unlock_55 : decode cX2_unlock 55 = .ok (.iconst 0, 1) := by decide +kernel
theorem dX2_unlock_56 : decode cX2_unlock 56 = .ok (.ireturn, 1) := by decide +kernel
theorem dX2_unlock_57 : decode cX2_unlock 57 = .ok (.aload_n 0, 1) := by decide +kernel
theorem dX2_unlock_58 : decode cX2_unlock 58 = .ok (.iload_n 1, 1) := by decide +kernel
theorem dX2_unlock_59 : decode cX2_unlock 59 = .ok (.aload_n 2, 1) := by decide +kernel
theorem dX2_unlock_60 : decode cX2_unlock 60 = .ok (.aload_n 3, 1) := by decide +kernel
theorem dX2_unlock_61 : decode cX2_unlock 61 = .ok (.aload 4, 2) := by decide +kernel
theorem dX2_unlock_63 : decode cX2_unlock 63 = .ok (.aload 5, 2) := by decide +kernel
theorem dX2_unlock_65 : decode cX2_unlock 65 = .ok (.iload 7, 2) := by decide +kernel
theorem dX2_unlock_67 : decode cX2_unlock 67 = .ok (.invokevirtual 48, 3) := by decide +kernel
theorem dX2_unlock_70 : decode cX2_unlock 70 = .ok (.aload_n 0, 1) := by decide +kernel
theorem dX2_unlock_71 : decode cX2_unlock 71 = .ok (.aload 5, 2) := by decide +kernel
theorem dX2_unlock_73 : decode cX2_unlock 73 = .ok (.iload 7, 2) := by decide +kernel
theorem dX2_unlock_75 : decode cX2_unlock 75 = .ok (.invokevirtual 70, 3) := by decide +kernel
theorem dX2_unlock_78 : decode cX2_unlock 78 = .ok (.ifCond .eq 22, 3) := by decide +kernel
theorem dX2_unlock_81 : decode cX2_unlock 81 = .ok (.aload_n 0, 1) := by decide +kernel
theorem dX2_unlock_82 : decode cX2_unlock 82 = .ok (.aload_n 2, 1) := by decide +kernel
theorem dX2_unlock_83 : decode cX2_unlock 83 = .ok (.aload_n 3, 1) := by decide +kernel
theorem dX2_unlock_84 : decode cX2_unlock 84 = .ok (.aload 5, 2) := by decide +kernel
theorem dX2_unlock_86 : decode cX2_unlock 86 = .ok (.iload 7, 2) := by decide +kernel
theorem dX2_unlock_88 : decode cX2_unlock 88 = .ok (.aload 6, 2) := by decide +kernel
theorem dX2_unlock_90 : decode cX2_unlock 90 = .ok (.invokevirtual 74, 3) := by decide +kernel
theorem dX2_unlock_93 : decode cX2_unlock 93 = .ok (.ifCond .eq 7, 3) := by decide +kernel
theorem dX2_unlock_96 : decode cX2_unlock 96 = .ok (.iconst 1, 1) := by decide +kernel
theorem dX2_unlock_97 : decode cX2_unlock 97 = .ok (.goto 4, 3) := by decide +kernel
theorem dX2_unlock_100 : decode cX2_unlock 100 = .ok (.iconst 0, 1) := by decide +kernel
theorem dX2_unlock_101 : decode cX2_unlock 101 = .ok (.ireturn, 1) := by decide +kernel
theorem dX2_unlock_102 : decode cX2_unlock 102 = .ok (.aload_n 0, 1) := by decide +kernel
theorem dX2_unlock_103 : decode cX2_unlock 103 = .ok (.aload_n 2, 1) := by decide +kernel
theorem dX2_unlock_104 : decode cX2_unlock 104 = .ok (.aload_n 3, 1) := by decide +kernel
theorem dX2_unlock_105 : decode cX2_unlock 105 = .ok (.aload 5, 2) := by decide +kernel
theorem dX2_unlock_107 : decode cX2_unlock 107 = .ok (.iload 7, 2) := by decide +kernel
theorem dX2_unlock_109 : decode cX2_unlock 109 = .ok (.aload 6, 2) := by decide +kernel
theorem dX2_unlock_111 : decode cX2_unlock 111 = .ok (.invokevirtual 52, 3) := by decide +kernel
theorem dX2_unlock_114 : decode cX2_unlock 114 = .ok (.aload_n 0, 1) := by decide +kernel
theorem dX2_unlock_115 : decode cX2_unlock 115 = .ok (.aload_n 3, 1) := by decide +kernel
theorem dX2_unlock_116 : decode cX2_unlock 116 = .ok (.aload 4, 2) := by decide +kernel
theorem dX2_unlock_118 : decode cX2_unlock 118 = .ok (.aload 5, 2) := by decide +kernel
theorem dX2_unlock_120 : decode cX2_unlock 120 = .ok (.iload 7, 2) := by decide +kernel
theorem dX2_unlock_122 : decode cX2_unlock 122 = .ok (.invokevirtual 56, 3) := by decide +kernel
theorem dX2_unlock_125 : decode cX2_unlock 125 = .ok (.aload_n 0, 1) := by decide +kernel
theorem dX2_unlock_126 : decode cX2_unlock 126 = .ok (.aload 5, 2) := by decide +kernel
theorem dX2_unlock_128 : decode cX2_unlock 128 = .ok (.iload 7, 2) := by decide +kernel
theorem dX2_unlock_130 : decode cX2_unlock 130 = .ok (.invokevirtual 70, 3) := by decide +kernel
theorem dX2_unlock_133 : decode cX2_unlock 133 = .ok (.ireturn, 1) := by decide +kernel
abbrev rmX2_unlock : Room := { frames := 5, cells := 0, slots := 0, locals := 143 }
set_option maxHeartbeats 4000000 in
set_option maxRecDepth 100000 in
theorem wP_X2_unlock {G : mG} {F : Nat} {x : mXT} {sz : Nat} {r0 : Int32} {M0 : mM} (X : mCX G RX2 cX2_unlock 8 (some .boolean) "unlock" rmX2_unlock x) (hQ : mQI x r0 M0 (sz, 0, 0)) {l0 : Nat} {l1 : Int32} {l2 : Nat} {l3 : Nat} {l4 : Nat} {l5 : Nat} {l6 : Nat} {M : mM} (h : P_X2_unlock G F l0 l1 l2 l3 l4 l5 l6 M = some (r0, M0)) : WW x (sz, 0, 0) M 0 [(0, .ref l0), (1, .int l1), (2, .ref l2), (3, .ref l3), (4, .ref l4), (5, .ref l5), (6, .ref l6)] [] := by
  unfold P_X2_unlock at h
  refine ww_aload 0 X dX2_unlock_0 5 rfl ?_
  obtain ⟨v2, e2, h⟩ := bO_some h
  refine ww_getI 2 X dX2_unlock_2 fG_X2_44 e2 ?_
  refine ww_gets 5 X dX2_unlock_5 gS_X2_64 ?_
  refine ww_iload_n 8 X dX2_unlock_8 1 rfl rfl ?_
  obtain ⟨v9, e9, h⟩ := bO_some h
  refine ww_iald 9 X dX2_unlock_9 e9 ?_
  refine ww_isub 10 X dX2_unlock_10 ?_
  refine ww_istore 11 X dX2_unlock_11 (lv' := [(0, .ref l0), (1, .int l1), (2, .ref l2), (3, .ref l3), (4, .ref l4), (5, .ref l5), (6, .ref l6), (7, .int (v2 - v9))]) (by decide) [1, 2, 3, 4, 5, 6, 7, 0] rfl ?_
  refine ww_iload 13 X dX2_unlock_13 7 rfl ?_
  refine ww_if_lt 15 30 X dX2_unlock_15 (by decide) (fun q => ?_) (fun q => ?_)
  · replace h := (if_pos q).symm.trans h
    refine ww_iconst 30 X (v := (0 : Int32)) dX2_unlock_30 (by decide) ?_
    exact ww_zretE 31 X hQ dX2_unlock_31 h
  · replace h := (if_neg q).symm.trans h
    refine ww_aload_n 18 X dX2_unlock_18 2 rfl rfl ?_
    obtain ⟨v19, e19, h⟩ := bO_some h
    refine ww_getI 19 X dX2_unlock_19 fG_X2_44 e19 ?_
    refine ww_gets 22 X dX2_unlock_22 gS_X2_67 ?_
    refine ww_iload_n 25 X dX2_unlock_25 1 rfl rfl ?_
    obtain ⟨v26, e26, h⟩ := bO_some h
    refine ww_iald 26 X dX2_unlock_26 e26 ?_
    refine ww_icmp_eq 27 32 X dX2_unlock_27 (by decide) (fun q => ?_) (fun q => ?_)
    · replace h := (if_pos q).symm.trans h
      refine ww_aload 32 X dX2_unlock_32 6 rfl ?_
      obtain ⟨_, f34, h⟩ := bO_some h
      obtain ⟨M34, e34, h⟩ := bO_some h
      refine ww_callVV0 34 X dX2_unlock_34 mY_X0_clear mL_X2_37 (rcv_spec f34) ⟨_, _, rfl⟩ (by decide) (As := []) (rest := []) rfl rfl ⟨Nat.le_of_ble_eq_true rfl, Nat.le_of_ble_eq_true rfl⟩ (Nat.le_of_ble_eq_true rfl) (fun l D A => c_X0_clear l D A e34) ?_
      refine ww_iload_n 37 X dX2_unlock_37 1 rfl rfl ?_
      refine ww_iconst 38 X (v := (2 : Int32)) dX2_unlock_38 (by decide) ?_
      refine ww_icmp_ge 39 102 X dX2_unlock_39 (by decide) (fun q => ?_) (fun q => ?_)
      · replace h := (if_pos q).symm.trans h
        refine ww_aload_n 102 X dX2_unlock_102 0 rfl rfl ?_
        refine ww_aload_n 103 X dX2_unlock_103 2 rfl rfl ?_
        refine ww_aload_n 104 X dX2_unlock_104 3 rfl rfl ?_
        refine ww_aload 105 X dX2_unlock_105 5 rfl ?_
        refine ww_iload 107 X dX2_unlock_107 7 rfl ?_
        refine ww_aload 109 X dX2_unlock_109 6 rfl ?_
        obtain ⟨_, f111, h⟩ := bO_some h
        obtain ⟨M111, e111, h⟩ := bO_some h
        refine ww_callVV0 111 X dX2_unlock_111 mY_X2_putCounted mL_X2_52 (rcv_spec f111) ⟨_, _, rfl⟩ (by decide) (As := [.ref l2, .ref l3, .ref l5, .int (v2 - v9), .ref l6]) (rest := []) rfl rfl ⟨Nat.le_of_ble_eq_true rfl, Nat.le_of_ble_eq_true rfl⟩ (Nat.le_of_ble_eq_true rfl) (fun l D A => c_X2_putCounted l D A e111) ?_
        refine ww_aload_n 114 X dX2_unlock_114 0 rfl rfl ?_
        refine ww_aload_n 115 X dX2_unlock_115 3 rfl rfl ?_
        refine ww_aload 116 X dX2_unlock_116 4 rfl ?_
        refine ww_aload 118 X dX2_unlock_118 5 rfl ?_
        refine ww_iload 120 X dX2_unlock_120 7 rfl ?_
        obtain ⟨_, f122, h⟩ := bO_some h
        obtain ⟨M122, e122, h⟩ := bO_some h
        refine ww_callVV0 122 X dX2_unlock_122 mY_X2_markByField mL_X2_56 (rcv_spec f122) ⟨_, _, rfl⟩ (by decide) (As := [.ref l3, .ref l4, .ref l5, .int (v2 - v9)]) (rest := []) rfl rfl ⟨Nat.le_of_ble_eq_true rfl, Nat.le_of_ble_eq_true rfl⟩ (Nat.le_of_ble_eq_true rfl) (fun l D A => c_X2_markByField l D A e122) ?_
        refine ww_aload_n 125 X dX2_unlock_125 0 rfl rfl ?_
        refine ww_aload 126 X dX2_unlock_126 5 rfl ?_
        refine ww_iload 128 X dX2_unlock_128 7 rfl ?_
        obtain ⟨_, f130, h⟩ := bO_some h
        obtain ⟨v130, M130, e130, h⟩ := bP_some h
        refine ww_callVI0 130 X dX2_unlock_130 mY_X2_markStands mL_X2_70 (rcv_spec f130) ⟨_, _, rfl⟩ (by decide) (As := [.ref l5, .int (v2 - v9)]) (rest := []) rfl rfl ⟨Nat.le_of_ble_eq_true rfl, Nat.le_of_ble_eq_true rfl⟩ (Nat.le_of_ble_eq_true rfl) (fun l D A => c_X2_markStands l D A e130) ?_
        exact ww_zretE 133 X hQ dX2_unlock_133 h
      · replace h := (if_neg q).symm.trans h
        refine ww_iload 42 X dX2_unlock_42 7 rfl ?_
        refine ww_if_eq 44 55 X dX2_unlock_44 (by decide) (fun q => ?_) (fun q => ?_)
        · replace h := (if_pos q).symm.trans h
          refine ww_iconst 55 X (v := (0 : Int32)) dX2_unlock_55 (by decide) ?_
          exact ww_zretE 56 X hQ dX2_unlock_56 h
        · replace h := (if_neg q).symm.trans h
          refine ww_iload 47 X dX2_unlock_47 7 rfl ?_
          refine ww_bipush 49 X (v := (16 : Int32)) dX2_unlock_49 (by decide) ?_
          refine ww_irem 51 X (v := ((v2 - v9) - (v2 - v9) / (16 : Int32) * (16 : Int32))) dX2_unlock_51 rfl ?_
          refine ww_if_eq 52 57 X dX2_unlock_52 (by decide) (fun q => ?_) (fun q => ?_)
          · replace h := (if_pos q).symm.trans h
            refine ww_aload_n 57 X dX2_unlock_57 0 rfl rfl ?_
            refine ww_iload_n 58 X dX2_unlock_58 1 rfl rfl ?_
            refine ww_aload_n 59 X dX2_unlock_59 2 rfl rfl ?_
            refine ww_aload_n 60 X dX2_unlock_60 3 rfl rfl ?_
            refine ww_aload 61 X dX2_unlock_61 4 rfl ?_
            refine ww_aload 63 X dX2_unlock_63 5 rfl ?_
            refine ww_iload 65 X dX2_unlock_65 7 rfl ?_
            obtain ⟨_, f67, h⟩ := bO_some h
            obtain ⟨M67, e67, h⟩ := bO_some h
            refine ww_callVV0 67 X dX2_unlock_67 mY_X2_markByCode mL_X2_48 (rcv_spec f67) ⟨_, _, rfl⟩ (by decide) (As := [.int l1, .ref l2, .ref l3, .ref l4, .ref l5, .int (v2 - v9)]) (rest := []) rfl rfl ⟨Nat.le_of_ble_eq_true rfl, Nat.le_of_ble_eq_true rfl⟩ (Nat.le_of_ble_eq_true rfl) (fun l D A => c_X2_markByCode l D A e67) ?_
            refine ww_aload_n 70 X dX2_unlock_70 0 rfl rfl ?_
            refine ww_aload 71 X dX2_unlock_71 5 rfl ?_
            refine ww_iload 73 X dX2_unlock_73 7 rfl ?_
            obtain ⟨_, f75, h⟩ := bO_some h
            obtain ⟨v75, M75, e75, h⟩ := bP_some h
            refine ww_callVI0 75 X dX2_unlock_75 mY_X2_markStands mL_X2_70 (rcv_spec f75) ⟨_, _, rfl⟩ (by decide) (As := [.ref l5, .int (v2 - v9)]) (rest := []) rfl rfl ⟨Nat.le_of_ble_eq_true rfl, Nat.le_of_ble_eq_true rfl⟩ (Nat.le_of_ble_eq_true rfl) (fun l D A => c_X2_markStands l D A e75) ?_
            refine ww_if_eq 78 100 X dX2_unlock_78 (by decide) (fun q => ?_) (fun q => ?_)
            · replace h := (if_pos q).symm.trans h
              refine ww_iconst 100 X (v := (0 : Int32)) dX2_unlock_100 (by decide) ?_
              exact ww_zretE 101 X hQ dX2_unlock_101 h
            · replace h := (if_neg q).symm.trans h
              refine ww_aload_n 81 X dX2_unlock_81 0 rfl rfl ?_
              refine ww_aload_n 82 X dX2_unlock_82 2 rfl rfl ?_
              refine ww_aload_n 83 X dX2_unlock_83 3 rfl rfl ?_
              refine ww_aload 84 X dX2_unlock_84 5 rfl ?_
              refine ww_iload 86 X dX2_unlock_86 7 rfl ?_
              refine ww_aload 88 X dX2_unlock_88 6 rfl ?_
              obtain ⟨_, f90, h⟩ := bO_some h
              obtain ⟨v90, M90, e90, h⟩ := bP_some h
              refine ww_callVI0 90 X dX2_unlock_90 mY_X2_putUnchained mL_X2_74 (rcv_spec f90) ⟨_, _, rfl⟩ (by decide) (As := [.ref l2, .ref l3, .ref l5, .int (v2 - v9), .ref l6]) (rest := []) rfl rfl ⟨Nat.le_of_ble_eq_true rfl, Nat.le_of_ble_eq_true rfl⟩ (Nat.le_of_ble_eq_true rfl) (fun l D A => c_X2_putUnchained l D A e90) ?_
              refine ww_if_eq 93 100 X dX2_unlock_93 (by decide) (fun q => ?_) (fun q => ?_)
              · replace h := (if_pos q).symm.trans h
                refine ww_iconst 100 X (v := (0 : Int32)) dX2_unlock_100 (by decide) ?_
                exact ww_zretE 101 X hQ dX2_unlock_101 h
              · replace h := (if_neg q).symm.trans h
                refine ww_iconst 96 X (v := (1 : Int32)) dX2_unlock_96 (by decide) ?_
                refine ww_goto 97 101 X dX2_unlock_97 (by decide) ?_
                exact ww_zretE 101 X hQ dX2_unlock_101 h
          · replace h := (if_neg q).symm.trans h
            refine ww_iconst 55 X (v := (0 : Int32)) dX2_unlock_55 (by decide) ?_
            exact ww_zretE 56 X hQ dX2_unlock_56 h
    · replace h := (if_neg q).symm.trans h
      refine ww_iconst 30 X (v := (0 : Int32)) dX2_unlock_30 (by decide) ?_
      exact ww_zretE 31 X hQ dX2_unlock_31 h
theorem c_X2_unlock {G : mG} {F sz : Nat} {r0 : Int32} {M0 : mM} (l : Launch) (D : mD) (A : Nat → Prop) {l0 : Nat} {l1 : Int32} {l2 : Nat} {l3 : Nat} {l4 : Nat} {l5 : Nat} {l6 : Nat} {M : mM} (h : P_X2_unlock G F l0 l1 l2 l3 l4 l5 l6 M = some (r0, M0)) : mMetI l D G A yX2_unlock cX2_unlock 8 (some .boolean) 5 143 0 0 [.ref l0, .int l1, .ref l2, .ref l3, .ref l4, .ref l5, .ref l6] M sz r0 M0 sz := mMetI_of l D G A (by decide) (Nat.le_of_ble_eq_true rfl) (fun x X hQ => wP_X2_unlock X hQ h)
/-! SealedTokens$Modulus.<init>()V -/
theorem dX6_init_0 : decode cX6_init 0 = .ok (.aload_n 0, 1) := by decide +kernel
theorem dX6_init_1 : decode cX6_init 1 = .ok (.invokespecial 1, 3) := by decide +kernel
theorem dX6_init_4 : decode cX6_init 4 = .ok (.aload_n 0, 1) := by decide +kernel
theorem dX6_init_5 : decode cX6_init 5 = .ok (.iconst 1, 1) := by decide +kernel
theorem dX6_init_6 : decode cX6_init 6 = .ok (.putfield 7, 3) := by decide +kernel
theorem dX6_init_9 : decode cX6_init 9 = .ok (.aload_n 0, 1) := by decide +kernel
theorem dX6_init_10 : decode cX6_init 10 = .ok (.bipush 32, 2) := by decide +kernel
theorem dX6_init_12 : decode cX6_init 12 = .ok (.newarray .long, 2) := by decide +kernel
theorem dX6_init_14 : decode cX6_init 14 = .ok (.putfield 13, 3) := by decide +kernel
theorem dX6_init_17 : decode cX6_init 17 = .ok (.aload_n 0, 1) := by decide +kernel
theorem dX6_init_18 : decode cX6_init 18 = .ok (.bipush 32, 2) := by decide +kernel
theorem dX6_init_20 : decode cX6_init 20 = .ok (.newarray .long, 2) := by decide +kernel
theorem dX6_init_22 : decode cX6_init 22 = .ok (.putfield 17, 3) := by decide +kernel
theorem dX6_init_25 : decode cX6_init 25 = .ok (.aload_n 0, 1) := by decide +kernel
theorem dX6_init_26 : decode cX6_init 26 = .ok (.bipush 32, 2) := by decide +kernel
theorem dX6_init_28 : decode cX6_init 28 = .ok (.newarray .long, 2) := by decide +kernel
theorem dX6_init_30 : decode cX6_init 30 = .ok (.putfield 20, 3) := by decide +kernel
theorem dX6_init_33 : decode cX6_init 33 = .ok (.aload_n 0, 1) := by decide +kernel
theorem dX6_init_34 : decode cX6_init 34 = .ok (.bipush 32, 2) := by decide +kernel
theorem dX6_init_36 : decode cX6_init 36 = .ok (.newarray .long, 2) := by decide +kernel
theorem dX6_init_38 : decode cX6_init 38 = .ok (.putfield 23, 3) := by decide +kernel
theorem dX6_init_41 : decode cX6_init 41 = .ok (.aload_n 0, 1) := by decide +kernel
theorem dX6_init_42 : decode cX6_init 42 = .ok (.bipush 32, 2) := by decide +kernel
theorem dX6_init_44 : decode cX6_init 44 = .ok (.newarray .long, 2) := by decide +kernel
theorem dX6_init_46 : decode cX6_init 46 = .ok (.putfield 26, 3) := by decide +kernel
theorem dX6_init_49 : decode cX6_init 49 = .ok (.aload_n 0, 1) := by decide +kernel
theorem dX6_init_50 : decode cX6_init 50 = .ok (.bipush 34, 2) := by decide +kernel
theorem dX6_init_52 : decode cX6_init 52 = .ok (.newarray .long, 2) := by decide +kernel
theorem dX6_init_54 : decode cX6_init 54 = .ok (.putfield 29, 3) := by decide +kernel
theorem dX6_init_57 : decode cX6_init 57 = .ok (.return_, 1) := by decide +kernel
theorem mP_X6_init {G : mG} {F : Nat} {M0 : mM} {Z0 S0 : Nat} {l0 : Nat} {M : mM} {sz : Nat} {sl : Nat} (h : P_X6_init G F l0 M sz sl = some (M0, Z0, S0)) : sz ≤ Z0 ∧ sl ≤ S0 := by
  unfold P_X6_init at h
  obtain ⟨M6, e6, h⟩ := bO_some h
  obtain ⟨M12, e12, h⟩ := bO_some h
  obtain ⟨M14, e14, h⟩ := bO_some h
  obtain ⟨M20, e20, h⟩ := bO_some h
  obtain ⟨M22, e22, h⟩ := bO_some h
  obtain ⟨M28, e28, h⟩ := bO_some h
  obtain ⟨M30, e30, h⟩ := bO_some h
  obtain ⟨M36, e36, h⟩ := bO_some h
  obtain ⟨M38, e38, h⟩ := bO_some h
  obtain ⟨M44, e44, h⟩ := bO_some h
  obtain ⟨M46, e46, h⟩ := bO_some h
  obtain ⟨M52, e52, h⟩ := bO_some h
  obtain ⟨M54, e54, h⟩ := bO_some h
  have q := retA_v h
  omega
set_option maxHeartbeats 4000000 in
set_option maxRecDepth 100000 in
theorem wP_X6_init {G : mG} {F : Nat} {x : mXT} {z0 s0 : Nat} {M0 : mM} {Z0 S0 : Nat} (X : mCX G RX6 cX6_init 1 none "<init>" { frames := 1, cells := Z0 - z0, slots := S0 - s0, locals := 20 } x) (hQ : mQV x M0 (Z0, Z0 - z0, S0 - s0)) {l0 : Nat} {M : mM} {sz : Nat} {sl : Nat} (hz0 : z0 ≤ sz) (hs0 : s0 ≤ sl) (h : P_X6_init G F l0 M sz sl = some (M0, Z0, S0)) : WW x (sz, sz - z0, sl - s0) M 0 [(0, .ref l0)] [] := by
  unfold P_X6_init at h
  obtain ⟨M6, e6, h⟩ := bO_some h
  obtain ⟨M12, e12, h⟩ := bO_some h
  obtain ⟨M14, e14, h⟩ := bO_some h
  obtain ⟨M20, e20, h⟩ := bO_some h
  obtain ⟨M22, e22, h⟩ := bO_some h
  obtain ⟨M28, e28, h⟩ := bO_some h
  obtain ⟨M30, e30, h⟩ := bO_some h
  obtain ⟨M36, e36, h⟩ := bO_some h
  obtain ⟨M38, e38, h⟩ := bO_some h
  obtain ⟨M44, e44, h⟩ := bO_some h
  obtain ⟨M46, e46, h⟩ := bO_some h
  obtain ⟨M52, e52, h⟩ := bO_some h
  obtain ⟨M54, e54, h⟩ := bO_some h
  have q := retA_v h
  refine ww_aload_n 0 X dX6_init_0 0 rfl rfl ?_
  refine ww_objI 1 X (st := []) dX6_init_1 oL_X6_1 oI_i oI_c (Nat.le_of_ble_eq_true rfl) (Nat.le_of_ble_eq_true rfl) (Nat.le_of_ble_eq_true rfl) ?_
  refine ww_aload_n 4 X dX6_init_4 0 rfl rfl ?_
  refine ww_iconst 5 X (v := (1 : Int32)) dX6_init_5 (by decide) ?_
  refine ww_putI 6 X dX6_init_6 (fP_X6_7 _) e6 ?_
  refine ww_aload_n 9 X dX6_init_9 0 rfl rfl ?_
  refine ww_bipush 10 X (v := (32 : Int32)) dX6_init_10 (by decide) ?_
  refine ww_newA 12 X (sz := sz) (sl := sl) (z0 := z0) (s0 := s0) dX6_init_12 (k := 2) (by decide) rfl aC_2 e12 (by omega) (by omega) (by show _ ≤ Z0 - z0; omega) (by show _ ≤ S0 - s0; omega) ?_
  refine ww_putR 14 X dX6_init_14 (fP_X6_13 _ (Or.inr rfl)) e14 rfl rfl ?_
  refine ww_aload_n 17 X dX6_init_17 0 rfl rfl ?_
  refine ww_bipush 18 X (v := (32 : Int32)) dX6_init_18 (by decide) ?_
  refine ww_newA 20 X (sz := (sz + 1)) (sl := (sl + ((32 : Int32)).toNatClampNeg)) (z0 := z0) (s0 := s0) dX6_init_20 (k := 2) (by decide) rfl aC_2 e20 (by omega) (by omega) (by show _ ≤ Z0 - z0; omega) (by show _ ≤ S0 - s0; omega) ?_
  refine ww_putR 22 X dX6_init_22 (fP_X6_17 _ (Or.inr rfl)) e22 rfl rfl ?_
  refine ww_aload_n 25 X dX6_init_25 0 rfl rfl ?_
  refine ww_bipush 26 X (v := (32 : Int32)) dX6_init_26 (by decide) ?_
  refine ww_newA 28 X (sz := ((sz + 1) + 1)) (sl := ((sl + ((32 : Int32)).toNatClampNeg) + ((32 : Int32)).toNatClampNeg)) (z0 := z0) (s0 := s0) dX6_init_28 (k := 2) (by decide) rfl aC_2 e28 (by omega) (by omega) (by show _ ≤ Z0 - z0; omega) (by show _ ≤ S0 - s0; omega) ?_
  refine ww_putR 30 X dX6_init_30 (fP_X6_20 _ (Or.inr rfl)) e30 rfl rfl ?_
  refine ww_aload_n 33 X dX6_init_33 0 rfl rfl ?_
  refine ww_bipush 34 X (v := (32 : Int32)) dX6_init_34 (by decide) ?_
  refine ww_newA 36 X (sz := (((sz + 1) + 1) + 1)) (sl := (((sl + ((32 : Int32)).toNatClampNeg) + ((32 : Int32)).toNatClampNeg) + ((32 : Int32)).toNatClampNeg)) (z0 := z0) (s0 := s0) dX6_init_36 (k := 2) (by decide) rfl aC_2 e36 (by omega) (by omega) (by show _ ≤ Z0 - z0; omega) (by show _ ≤ S0 - s0; omega) ?_
  refine ww_putR 38 X dX6_init_38 (fP_X6_23 _ (Or.inr rfl)) e38 rfl rfl ?_
  refine ww_aload_n 41 X dX6_init_41 0 rfl rfl ?_
  refine ww_bipush 42 X (v := (32 : Int32)) dX6_init_42 (by decide) ?_
  refine ww_newA 44 X (sz := ((((sz + 1) + 1) + 1) + 1)) (sl := ((((sl + ((32 : Int32)).toNatClampNeg) + ((32 : Int32)).toNatClampNeg) + ((32 : Int32)).toNatClampNeg) + ((32 : Int32)).toNatClampNeg)) (z0 := z0) (s0 := s0) dX6_init_44 (k := 2) (by decide) rfl aC_2 e44 (by omega) (by omega) (by show _ ≤ Z0 - z0; omega) (by show _ ≤ S0 - s0; omega) ?_
  refine ww_putR 46 X dX6_init_46 (fP_X6_26 _ (Or.inr rfl)) e46 rfl rfl ?_
  refine ww_aload_n 49 X dX6_init_49 0 rfl rfl ?_
  refine ww_bipush 50 X (v := (34 : Int32)) dX6_init_50 (by decide) ?_
  refine ww_newA 52 X (sz := (((((sz + 1) + 1) + 1) + 1) + 1)) (sl := (((((sl + ((32 : Int32)).toNatClampNeg) + ((32 : Int32)).toNatClampNeg) + ((32 : Int32)).toNatClampNeg) + ((32 : Int32)).toNatClampNeg) + ((32 : Int32)).toNatClampNeg)) (z0 := z0) (s0 := s0) dX6_init_52 (k := 2) (by decide) rfl aC_2 e52 (by omega) (by omega) (by show _ ≤ Z0 - z0; omega) (by show _ ≤ S0 - s0; omega) ?_
  refine ww_putR 54 X dX6_init_54 (fP_X6_29 _ (Or.inr rfl)) e54 rfl rfl ?_
  exact ww_vretA 57 X hQ dX6_init_57 h
theorem c_X6_init {G : mG} {F : Nat} {M0 : mM} {Z0 S0 : Nat} (l : Launch) (D : mD) (A : Nat → Prop) {l0 : Nat} {M : mM} {sz : Nat} {sl : Nat} (h : P_X6_init G F l0 M sz sl = some (M0, Z0, S0)) : mMetV l D G A yX6_init cX6_init 1 none 1 20 (Z0 - sz) (S0 - sl) [.ref l0] M sz M0 Z0 := mMetV_of l D G A (by decide) (Nat.le_of_ble_eq_true rfl) (fun x X hQ => by have K := wP_X6_init X hQ (Nat.le_refl sz) (Nat.le_refl sl) h; rw [Nat.sub_self, Nat.sub_self] at K; exact K)
/-! SealedTokens$Reader.hexValue(I)I -/
theorem dX7_hexValue_0 : decode cX7_hexValue 0 = .ok (.iload_n 0, 1) := by decide +kernel
theorem dX7_hexValue_1 : decode cX7_hexValue 1 = .ok (.bipush 48, 2) := by decide +kernel
theorem dX7_hexValue_3 : decode cX7_hexValue 3 = .ok (.if_icmp .lt 14, 3) := by decide +kernel
theorem dX7_hexValue_6 : decode cX7_hexValue 6 = .ok (.iload_n 0, 1) := by decide +kernel
theorem dX7_hexValue_7 : decode cX7_hexValue 7 = .ok (.bipush 57, 2) := by decide +kernel
theorem dX7_hexValue_9 : decode cX7_hexValue 9 = .ok (.if_icmp .gt 8, 3) := by decide +kernel
theorem dX7_hexValue_12 : decode cX7_hexValue 12 = .ok (.iload_n 0, 1) := by decide +kernel
theorem dX7_hexValue_13 : decode cX7_hexValue 13 = .ok (.bipush 48, 2) := by decide +kernel
theorem dX7_hexValue_15 : decode cX7_hexValue 15 = .ok (.isub, 1) := by decide +kernel
theorem dX7_hexValue_16 : decode cX7_hexValue 16 = .ok (.ireturn, 1) := by decide +kernel
theorem dX7_hexValue_17 : decode cX7_hexValue 17 = .ok (.iload_n 0, 1) := by decide +kernel
theorem dX7_hexValue_18 : decode cX7_hexValue 18 = .ok (.bipush 97, 2) := by decide +kernel
theorem dX7_hexValue_20 : decode cX7_hexValue 20 = .ok (.if_icmp .lt 17, 3) := by decide +kernel
theorem dX7_hexValue_23 : decode cX7_hexValue 23 = .ok (.iload_n 0, 1) := by decide +kernel
theorem dX7_hexValue_24 : decode cX7_hexValue 24 = .ok (.bipush 102, 2) := by decide +kernel
theorem dX7_hexValue_26 : decode cX7_hexValue 26 = .ok (.if_icmp .gt 11, 3) := by decide +kernel
theorem dX7_hexValue_29 : decode cX7_hexValue 29 = .ok (.iload_n 0, 1) := by decide +kernel
theorem dX7_hexValue_30 : decode cX7_hexValue 30 = .ok (.bipush 97, 2) := by decide +kernel
theorem dX7_hexValue_32 : decode cX7_hexValue 32 = .ok (.isub, 1) := by decide +kernel
theorem dX7_hexValue_33 : decode cX7_hexValue 33 = .ok (.bipush 10, 2) := by decide +kernel
theorem dX7_hexValue_35 : decode cX7_hexValue 35 = .ok (.iadd, 1) := by decide +kernel
theorem dX7_hexValue_36 : decode cX7_hexValue 36 = .ok (.ireturn, 1) := by decide +kernel
theorem dX7_hexValue_37 : decode cX7_hexValue 37 = .ok (.iload_n 0, 1) := by decide +kernel
theorem dX7_hexValue_38 : decode cX7_hexValue 38 = .ok (.bipush 65, 2) := by decide +kernel
theorem dX7_hexValue_40 : decode cX7_hexValue 40 = .ok (.if_icmp .lt 19, 3) := by decide +kernel
theorem dX7_hexValue_43 : decode cX7_hexValue 43 = .ok (.iload_n 0, 1) := by decide +kernel
theorem dX7_hexValue_44 : decode cX7_hexValue 44 = .ok (.bipush 70, 2) := by decide +kernel
theorem dX7_hexValue_46 : decode cX7_hexValue 46 = .ok (.if_icmp .gt 13, 3) := by decide +kernel
theorem dX7_hexValue_49 : decode cX7_hexValue 49 = .ok (.iload_n 0, 1) := by decide +kernel
theorem dX7_hexValue_50 : decode cX7_hexValue 50 = .ok (.bipush 65, 2) := by decide +kernel
theorem dX7_hexValue_52 : decode cX7_hexValue 52 = .ok (.isub, 1) := by decide +kernel
theorem dX7_hexValue_53 : decode cX7_hexValue 53 = .ok (.bipush 10, 2) := by decide +kernel
theorem dX7_hexValue_55 : decode cX7_hexValue 55 = .ok (.iadd, 1) := by decide +kernel
theorem dX7_hexValue_56 : decode cX7_hexValue 56 = .ok (.goto 4, 3) := by decide +kernel
theorem dX7_hexValue_59 : decode cX7_hexValue 59 = .ok (.iconst (-1), 1) := by decide +kernel
theorem dX7_hexValue_60 : decode cX7_hexValue 60 = .ok (.ireturn, 1) := by decide +kernel
abbrev rmX7_hexValue : Room := { frames := 0, cells := 0, slots := 0, locals := 0 }
set_option maxHeartbeats 4000000 in
set_option maxRecDepth 100000 in
theorem wB_X7_hexValue_37 {G : mG} {F : Nat} {x : mXT} {sz : Nat} {r0 : Int32} {M0 : mM} (X : mCX G RX7 cX7_hexValue 1 (some .int) "hexValue" rmX7_hexValue x) (hQ : mQI x r0 M0 (sz, 0, 0)) {l0 : Int32} {M : mM} (h : B_X7_hexValue_37 G F l0 M = some (r0, M0)) : WW x (sz, 0, 0) M 37 [(0, .int l0)] [] := by
  unfold B_X7_hexValue_37 at h
  refine ww_iload_n 37 X dX7_hexValue_37 0 rfl rfl ?_
  refine ww_bipush 38 X (v := (65 : Int32)) dX7_hexValue_38 (by decide) ?_
  refine ww_icmp_lt 40 59 X dX7_hexValue_40 (by decide) (fun q => ?_) (fun q => ?_)
  · replace h := (if_pos q).symm.trans h
    refine ww_iconst 59 X (v := (-1 : Int32)) dX7_hexValue_59 (by decide) ?_
    exact ww_iretE 60 X hQ dX7_hexValue_60 h
  · replace h := (if_neg q).symm.trans h
    refine ww_iload_n 43 X dX7_hexValue_43 0 rfl rfl ?_
    refine ww_bipush 44 X (v := (70 : Int32)) dX7_hexValue_44 (by decide) ?_
    refine ww_icmp_gt 46 59 X dX7_hexValue_46 (by decide) (fun q => ?_) (fun q => ?_)
    · replace h := (if_pos q).symm.trans h
      refine ww_iconst 59 X (v := (-1 : Int32)) dX7_hexValue_59 (by decide) ?_
      exact ww_iretE 60 X hQ dX7_hexValue_60 h
    · replace h := (if_neg q).symm.trans h
      refine ww_iload_n 49 X dX7_hexValue_49 0 rfl rfl ?_
      refine ww_bipush 50 X (v := (65 : Int32)) dX7_hexValue_50 (by decide) ?_
      refine ww_isub 52 X dX7_hexValue_52 ?_
      refine ww_bipush 53 X (v := (10 : Int32)) dX7_hexValue_53 (by decide) ?_
      refine ww_iadd 55 X dX7_hexValue_55 ?_
      refine ww_goto 56 60 X dX7_hexValue_56 (by decide) ?_
      exact ww_iretE 60 X hQ dX7_hexValue_60 h
set_option maxHeartbeats 4000000 in
set_option maxRecDepth 100000 in
theorem wB_X7_hexValue_17 {G : mG} {F : Nat} {x : mXT} {sz : Nat} {r0 : Int32} {M0 : mM} (X : mCX G RX7 cX7_hexValue 1 (some .int) "hexValue" rmX7_hexValue x) (hQ : mQI x r0 M0 (sz, 0, 0)) {l0 : Int32} {M : mM} (h : B_X7_hexValue_17 G F l0 M = some (r0, M0)) : WW x (sz, 0, 0) M 17 [(0, .int l0)] [] := by
  unfold B_X7_hexValue_17 at h
  refine ww_iload_n 17 X dX7_hexValue_17 0 rfl rfl ?_
  refine ww_bipush 18 X (v := (97 : Int32)) dX7_hexValue_18 (by decide) ?_
  refine ww_icmp_lt 20 37 X dX7_hexValue_20 (by decide) (fun q => ?_) (fun q => ?_)
  · replace h := (if_pos q).symm.trans h
    exact (wB_X7_hexValue_37 X hQ h)
  · replace h := (if_neg q).symm.trans h
    refine ww_iload_n 23 X dX7_hexValue_23 0 rfl rfl ?_
    refine ww_bipush 24 X (v := (102 : Int32)) dX7_hexValue_24 (by decide) ?_
    refine ww_icmp_gt 26 37 X dX7_hexValue_26 (by decide) (fun q => ?_) (fun q => ?_)
    · replace h := (if_pos q).symm.trans h
      exact (wB_X7_hexValue_37 X hQ h)
    · replace h := (if_neg q).symm.trans h
      refine ww_iload_n 29 X dX7_hexValue_29 0 rfl rfl ?_
      refine ww_bipush 30 X (v := (97 : Int32)) dX7_hexValue_30 (by decide) ?_
      refine ww_isub 32 X dX7_hexValue_32 ?_
      refine ww_bipush 33 X (v := (10 : Int32)) dX7_hexValue_33 (by decide) ?_
      refine ww_iadd 35 X dX7_hexValue_35 ?_
      exact ww_iretE 36 X hQ dX7_hexValue_36 h
set_option maxHeartbeats 4000000 in
set_option maxRecDepth 100000 in
theorem wP_X7_hexValue {G : mG} {F : Nat} {x : mXT} {sz : Nat} {r0 : Int32} {M0 : mM} (X : mCX G RX7 cX7_hexValue 1 (some .int) "hexValue" rmX7_hexValue x) (hQ : mQI x r0 M0 (sz, 0, 0)) {l0 : Int32} {M : mM} (h : P_X7_hexValue G F l0 M = some (r0, M0)) : WW x (sz, 0, 0) M 0 [(0, .int l0)] [] := by
  unfold P_X7_hexValue at h
  refine ww_iload_n 0 X dX7_hexValue_0 0 rfl rfl ?_
  refine ww_bipush 1 X (v := (48 : Int32)) dX7_hexValue_1 (by decide) ?_
  refine ww_icmp_lt 3 17 X dX7_hexValue_3 (by decide) (fun q => ?_) (fun q => ?_)
  · replace h := (if_pos q).symm.trans h
    exact (wB_X7_hexValue_17 X hQ h)
  · replace h := (if_neg q).symm.trans h
    refine ww_iload_n 6 X dX7_hexValue_6 0 rfl rfl ?_
    refine ww_bipush 7 X (v := (57 : Int32)) dX7_hexValue_7 (by decide) ?_
    refine ww_icmp_gt 9 17 X dX7_hexValue_9 (by decide) (fun q => ?_) (fun q => ?_)
    · replace h := (if_pos q).symm.trans h
      exact (wB_X7_hexValue_17 X hQ h)
    · replace h := (if_neg q).symm.trans h
      refine ww_iload_n 12 X dX7_hexValue_12 0 rfl rfl ?_
      refine ww_bipush 13 X (v := (48 : Int32)) dX7_hexValue_13 (by decide) ?_
      refine ww_isub 15 X dX7_hexValue_15 ?_
      exact ww_iretE 16 X hQ dX7_hexValue_16 h
theorem c_X7_hexValue {G : mG} {F sz : Nat} {r0 : Int32} {M0 : mM} (l : Launch) (D : mD) (A : Nat → Prop) {l0 : Int32} {M : mM} (h : P_X7_hexValue G F l0 M = some (r0, M0)) : mMetI l D G A yX7_hexValue cX7_hexValue 1 (some .int) 0 0 0 0 [.int l0] M sz r0 M0 sz := mMetI_of l D G A (by decide) (Nat.le_of_ble_eq_true rfl) (fun x X hQ => wP_X7_hexValue X hQ h)
/-! SealedTokens$Curve.ofDigits(Ljava/lang/String;)LSealedTokens$Bytes; -/
theorem dX3_ofDigits_0 : decode cX3_ofDigits 0 = .ok (.new 65, 3) := by decide +kernel
theorem dX3_ofDigits_3 : decode cX3_ofDigits 3 = .ok (.dup, 1) := by decide +kernel
theorem dX3_ofDigits_4 : decode cX3_ofDigits 4 = .ok (.bipush 32, 2) := by decide +kernel
theorem dX3_ofDigits_6 : decode cX3_ofDigits 6 = .ok (.invokespecial 67, 3) := by decide +kernel
theorem dX3_ofDigits_9 : decode cX3_ofDigits 9 = .ok (.astore_n 1, 1) := by decide +kernel
theorem dX3_ofDigits_10 : decode cX3_ofDigits 10 = .ok (.iconst 0, 1) := by decide +kernel
theorem dX3_ofDigits_11 : decode cX3_ofDigits 11 = .ok (.istore_n 2, 1) := by decide +kernel
theorem dX3_ofDigits_12 : decode cX3_ofDigits 12 = .ok (.iload_n 2, 1) := by decide +kernel
theorem dX3_ofDigits_13 : decode cX3_ofDigits 13 = .ok (.iconst 1, 1) := by decide +kernel
theorem dX3_ofDigits_14 : decode cX3_ofDigits 14 = .ok (.iadd, 1) := by decide +kernel
theorem dX3_ofDigits_15 : decode cX3_ofDigits 15 = .ok (.aload_n 0, 1) := by decide +kernel
theorem dX3_ofDigits_16 : decode cX3_ofDigits 16 = .ok (.invokevirtual 100, 3) := by decide +kernel
theorem dX3_ofDigits_19 : decode cX3_ofDigits 19 = .ok (.if_icmp .ge 34, 3) := by decide +kernel
theorem dX3_ofDigits_22 : decode cX3_ofDigits 22 = .ok (.aload_n 1, 1) := by decide +kernel
theorem dX3_ofDigits_23 : decode cX3_ofDigits 23 = .ok (.aload_n 0, 1) := by decide +kernel
theorem dX3_ofDigits_24 : decode cX3_ofDigits 24 = .ok (.iload_n 2, 1) := by decide +kernel
theorem dX3_ofDigits_25 : decode cX3_ofDigits 25 = .ok (.invokevirtual 106, 3) := by decide +kernel
theorem dX3_ofDigits_28 : decode cX3_ofDigits 28 = .ok (.invokestatic 110, 3) := by decide +kernel
theorem dX3_ofDigits_31 : decode cX3_ofDigits 31 = .ok (.iconst 4, 1) := by decide +kernel
theorem dX3_ofDigits_32 : decode cX3_ofDigits 32 = .ok (.ishl, 1) := by decide +kernel
theorem dX3_ofDigits_33 : decode cX3_ofDigits 33 = .ok (.aload_n 0, 1) := by decide +kernel
theorem dX3_ofDigits_34 : decode cX3_ofDigits 34 = .ok (.iload_n 2, 1) := by decide +kernel
theorem dX3_ofDigits_35 : decode cX3_ofDigits 35 = .ok (.iconst 1, 1) := by decide +kernel
theorem dX3_ofDigits_36 : decode cX3_ofDigits 36 = .ok (.iadd, 1) := by decide +kernel
theorem dX3_ofDigits_37 : decode cX3_ofDigits 37 = .ok (.invokevirtual 106, 3) := by decide +kernel
theorem dX3_ofDigits_40 : decode cX3_ofDigits 40 = .ok (.invokestatic 110, 3) := by decide +kernel
theorem dX3_ofDigits_43 : decode cX3_ofDigits 43 = .ok (.ior, 1) := by decide +kernel
theorem dX3_ofDigits_44 : decode cX3_ofDigits 44 = .ok (.invokevirtual 116, 3) := by decide +kernel
theorem dX3_ofDigits_47 : decode cX3_ofDigits 47 = .ok (.iinc 2 2, 3) := by decide +kernel
theorem dX3_ofDigits_50 : decode cX3_ofDigits 50 = .ok (.goto (-38), 3) := by decide +kernel
theorem dX3_ofDigits_53 : decode cX3_ofDigits 53 = .ok (.aload_n 1, 1) := by decide +kernel
theorem dX3_ofDigits_54 : decode cX3_ofDigits 54 = .ok (.areturn, 1) := by decide +kernel
theorem mB_X3_ofDigits_19 {G : mG} {F : Nat} {r0 : Nat} {M0 : mM} {Z0 S0 : Nat} (r12 : Nat → Nat → Int32 → mM → Nat → Nat → Option (Nat × mM × Nat × Nat)) (hm12 : ∀ (l0 : Nat) (l1 : Nat) (l2 : Int32) (M : mM) (sz : Nat) (sl : Nat), r12 l0 l1 l2 M sz sl = some (r0, M0, Z0, S0) → sz ≤ Z0 ∧ sl ≤ S0) {l0 : Nat} {l1 : Nat} {l2 : Int32} {sk0 : Int32} {sk1 : Int32} {M : mM} {sz : Nat} {sl : Nat} (h : B_X3_ofDigits_19 G F r12 l0 l1 l2 sk0 sk1 M sz sl = some (r0, M0, Z0, S0)) : sz ≤ Z0 ∧ sl ≤ S0 := by
  unfold B_X3_ofDigits_19 at h
  by_cases q : sk1 ≤ sk0
  · replace h := (if_pos q).symm.trans h
    have q := retA_p h
    omega
  · replace h := (if_neg q).symm.trans h
    obtain ⟨_, f25, h⟩ := bO_some h
    obtain ⟨v25, M25, e25, h⟩ := bP_some h
    obtain ⟨v28, M28, e28, h⟩ := bP_some h
    obtain ⟨_, f37, h⟩ := bO_some h
    obtain ⟨v37, M37, e37, h⟩ := bP_some h
    obtain ⟨v40, M40, e40, h⟩ := bP_some h
    obtain ⟨_, f44, h⟩ := bO_some h
    obtain ⟨M44, e44, h⟩ := bO_some h
    have q := hm12 _ _ _ _ _ _ h
    omega
set_option maxHeartbeats 4000000 in
set_option maxRecDepth 100000 in
theorem wB_X3_ofDigits_19 {G : mG} {F : Nat} {x : mXT} {z0 s0 : Nat} {r0 : Nat} {M0 : mM} {Z0 S0 : Nat} (X : mCX G RX3 cX3_ofDigits 3 (some (.object "SealedTokens$Bytes")) "ofDigits" { frames := 4, cells := Z0 - z0, slots := S0 - s0, locals := 85 } x) (hQ : mQR x r0 M0 (Z0, Z0 - z0, S0 - s0)) (r12 : Nat → Nat → Int32 → mM → Nat → Nat → Option (Nat × mM × Nat × Nat)) (hm12 : ∀ (l0 : Nat) (l1 : Nat) (l2 : Int32) (M : mM) (sz : Nat) (sl : Nat), r12 l0 l1 l2 M sz sl = some (r0, M0, Z0, S0) → sz ≤ Z0 ∧ sl ≤ S0) (hr12 : ∀ (l0 : Nat) (l1 : Nat) (l2 : Int32) (M : mM) (sz : Nat) (sl : Nat), z0 ≤ sz → s0 ≤ sl → r12 l0 l1 l2 M sz sl = some (r0, M0, Z0, S0) → WW x (sz, sz - z0, sl - s0) M 12 [(0, .ref l0), (1, .ref l1), (2, .int l2)] []) {l0 : Nat} {l1 : Nat} {l2 : Int32} {sk0 : Int32} {sk1 : Int32} {M : mM} {sz : Nat} {sl : Nat} (hz0 : z0 ≤ sz) (hs0 : s0 ≤ sl) (h : B_X3_ofDigits_19 G F r12 l0 l1 l2 sk0 sk1 M sz sl = some (r0, M0, Z0, S0)) : WW x (sz, sz - z0, sl - s0) M 19 [(0, .ref l0), (1, .ref l1), (2, .int l2)] [.int sk1, .int sk0] := by
  unfold B_X3_ofDigits_19 at h
  refine ww_icmp_ge 19 53 X dX3_ofDigits_19 (by decide) (fun q => ?_) (fun q => ?_)
  · replace h := (if_pos q).symm.trans h
    have q := retA_p h
    refine ww_aload_n 53 X dX3_ofDigits_53 1 rfl rfl ?_
    exact ww_aretA 54 X hQ dX3_ofDigits_54 h
  · replace h := (if_neg q).symm.trans h
    obtain ⟨_, f25, h⟩ := bO_some h
    obtain ⟨v25, M25, e25, h⟩ := bP_some h
    obtain ⟨v28, M28, e28, h⟩ := bP_some h
    obtain ⟨_, f37, h⟩ := bO_some h
    obtain ⟨v37, M37, e37, h⟩ := bP_some h
    obtain ⟨v40, M40, e40, h⟩ := bP_some h
    obtain ⟨_, f44, h⟩ := bO_some h
    obtain ⟨M44, e44, h⟩ := bO_some h
    have q := hm12 _ _ _ _ _ _ h
    refine ww_aload_n 22 X dX3_ofDigits_22 1 rfl rfl ?_
    refine ww_aload_n 23 X dX3_ofDigits_23 0 rfl rfl ?_
    refine ww_iload_n 24 X dX3_ofDigits_24 2 rfl rfl ?_
    refine ww_callVIsz 25 X (sz := sz) (sl := sl) (z0 := z0) (s0 := s0) dX3_ofDigits_25 mY_J0_charAt_5068e mL_X3_106 (rcs_spec f25) rfl (As := [.int l2]) (rest := [.ref l1]) rfl rfl ⟨Nat.le_of_ble_eq_true rfl, Nat.le_of_ble_eq_true rfl⟩ (by show _ ≤ Z0 - z0; omega) (by show _ ≤ S0 - s0; omega) (Nat.le_of_ble_eq_true rfl) (fun l D A => c_J0_charAt_5068e l D A e25) ?_
    refine ww_callSINz 28 X (sz := sz) (sl := sl) (z0 := z0) (s0 := s0) dX3_ofDigits_28 mY_X7_hexValue mL_X3_110 (As := [.int v25]) (rest := [.ref l1]) rfl rfl ⟨Nat.le_of_ble_eq_true rfl, Nat.le_of_ble_eq_true rfl⟩ (by show _ ≤ Z0 - z0; omega) (by show _ ≤ S0 - s0; omega) (Nat.le_of_ble_eq_true rfl) (fun l D A => c_X7_hexValue l D A e28) ?_
    refine ww_iconst 31 X (v := (4 : Int32)) dX3_ofDigits_31 (by decide) ?_
    refine ww_ishl 32 X dX3_ofDigits_32 ?_
    refine ww_aload_n 33 X dX3_ofDigits_33 0 rfl rfl ?_
    refine ww_iload_n 34 X dX3_ofDigits_34 2 rfl rfl ?_
    refine ww_iconst 35 X (v := (1 : Int32)) dX3_ofDigits_35 (by decide) ?_
    refine ww_iadd 36 X dX3_ofDigits_36 ?_
    refine ww_callVIsz 37 X (sz := sz) (sl := sl) (z0 := z0) (s0 := s0) dX3_ofDigits_37 mY_J0_charAt_5068e mL_X3_106 (rcs_spec f37) rfl (As := [.int (l2 + (1 : Int32))]) (rest := [.int (v28 <<< ((4 : Int32) &&& 31)), .ref l1]) rfl rfl ⟨Nat.le_of_ble_eq_true rfl, Nat.le_of_ble_eq_true rfl⟩ (by show _ ≤ Z0 - z0; omega) (by show _ ≤ S0 - s0; omega) (Nat.le_of_ble_eq_true rfl) (fun l D A => c_J0_charAt_5068e l D A e37) ?_
    refine ww_callSINz 40 X (sz := sz) (sl := sl) (z0 := z0) (s0 := s0) dX3_ofDigits_40 mY_X7_hexValue mL_X3_110 (As := [.int v37]) (rest := [.int (v28 <<< ((4 : Int32) &&& 31)), .ref l1]) rfl rfl ⟨Nat.le_of_ble_eq_true rfl, Nat.le_of_ble_eq_true rfl⟩ (by show _ ≤ Z0 - z0; omega) (by show _ ≤ S0 - s0; omega) (Nat.le_of_ble_eq_true rfl) (fun l D A => c_X7_hexValue l D A e40) ?_
    refine ww_ior 43 X dX3_ofDigits_43 ?_
    refine ww_callVVz 44 X (sz := sz) (sl := sl) (z0 := z0) (s0 := s0) dX3_ofDigits_44 mY_X0_put mL_X3_116 (rcv_spec f44) ⟨_, _, rfl⟩ (by decide) (As := [.int ((v28 <<< ((4 : Int32) &&& 31)) ||| v40)]) (rest := []) rfl rfl ⟨Nat.le_of_ble_eq_true rfl, Nat.le_of_ble_eq_true rfl⟩ (by show _ ≤ Z0 - z0; omega) (by show _ ≤ S0 - s0; omega) (Nat.le_of_ble_eq_true rfl) (fun l D A => c_X0_put l D A e44) ?_
    refine ww_iinc 47 X dX3_ofDigits_47 (lv' := [(0, .ref l0), (1, .ref l1), (2, .int (l2 + 2))]) 2 rfl rfl (by decide) [1, 2, 0] rfl ?_
    refine ww_goto 50 12 X dX3_ofDigits_50 (by decide) ?_
    exact (hr12 _ _ _ _ _ _ (by omega) (by omega) h)
theorem mB_X3_ofDigits_12 {G : mG} {F : Nat} {r0 : Nat} {M0 : mM} {Z0 S0 : Nat} : ∀ (n : Nat) (l0 : Nat) (l1 : Nat) (l2 : Int32) (M : mM) (sz : Nat) (sl : Nat), B_X3_ofDigits_12 G F n l0 l1 l2 M sz sl = some (r0, M0, Z0, S0) → sz ≤ Z0 ∧ sl ≤ S0 := by
  intro n
  induction n with
  | zero =>
    intro l0 l1 l2 M sz sl h
    exact nomatch (show (none : Option (Nat × mM × Nat × Nat)) = some (r0, M0, Z0, S0) from h)
  | succ n ih =>
    intro l0 l1 l2 M sz sl h
    rw [B_X3_ofDigits_12] at h
    obtain ⟨_, f16, h⟩ := bO_some h
    obtain ⟨v16, M16, e16, h⟩ := bP_some h
    have q := mB_X3_ofDigits_19 _ ih h
    omega
set_option maxHeartbeats 4000000 in
set_option maxRecDepth 100000 in
theorem wB_X3_ofDigits_12 {G : mG} {F : Nat} {x : mXT} {z0 s0 : Nat} {r0 : Nat} {M0 : mM} {Z0 S0 : Nat} (X : mCX G RX3 cX3_ofDigits 3 (some (.object "SealedTokens$Bytes")) "ofDigits" { frames := 4, cells := Z0 - z0, slots := S0 - s0, locals := 85 } x) (hQ : mQR x r0 M0 (Z0, Z0 - z0, S0 - s0)) : ∀ (n : Nat) (l0 : Nat) (l1 : Nat) (l2 : Int32) (M : mM) (sz : Nat) (sl : Nat), z0 ≤ sz → s0 ≤ sl → B_X3_ofDigits_12 G F n l0 l1 l2 M sz sl = some (r0, M0, Z0, S0) → WW x (sz, sz - z0, sl - s0) M 12 [(0, .ref l0), (1, .ref l1), (2, .int l2)] [] := by
  intro n
  induction n with
  | zero =>
    intro l0 l1 l2 M sz sl hz0 hs0 h
    exact nomatch (show (none : Option (Nat × mM × Nat × Nat)) = some (r0, M0, Z0, S0) from h)
  | succ n ih =>
    intro l0 l1 l2 M sz sl hz0 hs0 h
    rw [B_X3_ofDigits_12] at h
    obtain ⟨_, f16, h⟩ := bO_some h
    obtain ⟨v16, M16, e16, h⟩ := bP_some h
    have q := mB_X3_ofDigits_19 _ (mB_X3_ofDigits_12 n) h
    refine ww_iload_n 12 X dX3_ofDigits_12 2 rfl rfl ?_
    refine ww_iconst 13 X (v := (1 : Int32)) dX3_ofDigits_13 (by decide) ?_
    refine ww_iadd 14 X dX3_ofDigits_14 ?_
    refine ww_aload_n 15 X dX3_ofDigits_15 0 rfl rfl ?_
    refine ww_callVIsz 16 X (sz := sz) (sl := sl) (z0 := z0) (s0 := s0) dX3_ofDigits_16 mY_J0_length_8abf5 mL_X3_100 (rcs_spec f16) rfl (As := []) (rest := [.int (l2 + (1 : Int32))]) rfl rfl ⟨Nat.le_of_ble_eq_true rfl, Nat.le_of_ble_eq_true rfl⟩ (by show _ ≤ Z0 - z0; omega) (by show _ ≤ S0 - s0; omega) (Nat.le_of_ble_eq_true rfl) (fun l D A => c_J0_length_8abf5 l D A e16) ?_
    exact (wB_X3_ofDigits_19 X hQ _ (mB_X3_ofDigits_12 n) ih (by omega) (by omega) h)
theorem mP_X3_ofDigits {G : mG} {F : Nat} {r0 : Nat} {M0 : mM} {Z0 S0 : Nat} {l0 : Nat} {M : mM} {sz : Nat} {sl : Nat} (h : P_X3_ofDigits G F l0 M sz sl = some (r0, M0, Z0, S0)) : sz ≤ Z0 ∧ sl ≤ S0 := by
  unfold P_X3_ofDigits at h
  obtain ⟨Ma, ⟨⟩, h⟩ := bO_some h
  obtain ⟨M6, z6, k6, e6, h⟩ := bA_some h
  have g6 := mP_X0_init e6
  have q := mB_X3_ofDigits_12 F _ _ _ _ _ _ h
  omega
set_option maxHeartbeats 4000000 in
set_option maxRecDepth 100000 in
theorem wP_X3_ofDigits {G : mG} {F : Nat} {x : mXT} {z0 s0 : Nat} {r0 : Nat} {M0 : mM} {Z0 S0 : Nat} (X : mCX G RX3 cX3_ofDigits 3 (some (.object "SealedTokens$Bytes")) "ofDigits" { frames := 4, cells := Z0 - z0, slots := S0 - s0, locals := 85 } x) (hQ : mQR x r0 M0 (Z0, Z0 - z0, S0 - s0)) {l0 : Nat} {M : mM} {sz : Nat} {sl : Nat} (hz0 : z0 ≤ sz) (hs0 : s0 ≤ sl) (h : P_X3_ofDigits G F l0 M sz sl = some (r0, M0, Z0, S0)) : WW x (sz, sz - z0, sl - s0) M 0 [(0, .ref l0)] [] := by
  unfold P_X3_ofDigits at h
  obtain ⟨Ma, ⟨⟩, h⟩ := bO_some h
  obtain ⟨M6, z6, k6, e6, h⟩ := bA_some h
  have g6 := mP_X0_init e6
  have q := mB_X3_ofDigits_12 F _ _ _ _ _ _ h
  refine ww_newO 0 X (sz := sz) (sl := sl) (z0 := z0) (s0 := s0) dX3_ofDigits_0 nW_X3_65 (by omega) (by omega) (by show _ ≤ Z0 - z0; omega) (by show _ ≤ S0 - s0; omega) ?_
  refine ww_dup 3 X dX3_ofDigits_3 rfl ?_
  refine ww_bipush 4 X (v := (32 : Int32)) dX3_ofDigits_4 (by decide) ?_
  refine ww_callIVa 6 X (sz := (sz + 1)) (sl := (sl + 3)) (z0 := z0) (s0 := s0) dX3_ofDigits_6 mY_X0_init mL_X3_67 (As := [.int (32 : Int32)]) (rest := [.ref sz]) rfl rfl ⟨Nat.le_of_ble_eq_true rfl, Nat.le_of_ble_eq_true rfl⟩ (by omega) (by omega) (by omega) (by omega) (by show _ ≤ Z0 - z0; omega) (by show _ ≤ S0 - s0; omega) (Nat.le_of_ble_eq_true rfl) (fun l D A => c_X0_init l D A e6) ?_
  refine ww_astore_n 9 X dX3_ofDigits_9 (lv' := [(0, .ref l0), (1, .ref sz)]) rfl (by decide) [1, 0] rfl ?_
  refine ww_iconst 10 X (v := (0 : Int32)) dX3_ofDigits_10 (by decide) ?_
  refine ww_istore_n 11 X dX3_ofDigits_11 (lv' := [(0, .ref l0), (1, .ref sz), (2, .int (0 : Int32))]) rfl (by decide) [1, 2, 0] rfl ?_
  exact (wB_X3_ofDigits_12 X hQ F _ _ _ _ _ _ (by omega) (by omega) h)
theorem c_X3_ofDigits {G : mG} {F : Nat} {r0 : Nat} {M0 : mM} {Z0 S0 : Nat} (l : Launch) (D : mD) (A : Nat → Prop) {l0 : Nat} {M : mM} {sz : Nat} {sl : Nat} (h : P_X3_ofDigits G F l0 M sz sl = some (r0, M0, Z0, S0)) : mMetR l D G A yX3_ofDigits cX3_ofDigits 3 (some (.object "SealedTokens$Bytes")) 4 85 (Z0 - sz) (S0 - sl) [.ref l0] M sz r0 M0 Z0 := mMetR_of l D G A (by decide) (Nat.le_of_ble_eq_true rfl) (fun x X hQ => by have K := wP_X3_ofDigits X hQ (Nat.le_refl sz) (Nat.le_refl sl) h; rw [Nat.sub_self, Nat.sub_self] at K; exact K)
/-! SealedTokens$Modulus.loadLimbs(LSealedTokens$Bytes;II[J)V -/
theorem dX6_loadLimbs_0 : decode cX6_loadLimbs 0 = .ok (.iconst 0, 1) := by decide +kernel
theorem dX6_loadLimbs_1 : decode cX6_loadLimbs 1 = .ok (.istore 5, 2) := by decide +kernel
theorem dX6_loadLimbs_3 : decode cX6_loadLimbs 3 = .ok (.iload 5, 2) := by decide +kernel
theorem dX6_loadLimbs_5 : decode cX6_loadLimbs 5 = .ok (.aload_n 0, 1) := by decide +kernel
theorem dX6_loadLimbs_6 : decode cX6_loadLimbs 6 = .ok (.getfield 7, 3) := by decide +kernel
theorem dX6_loadLimbs_9 : decode cX6_loadLimbs 9 = .ok (.if_icmp .ge 15, 3) := by decide +kernel
theorem dX6_loadLimbs_12 : decode cX6_loadLimbs 12 = .ok (.aload 4, 2) := by decide +kernel
theorem dX6_loadLimbs_14 : decode cX6_loadLimbs 14 = .ok (.iload 5, 2) := by decide +kernel
theorem dX6_loadLimbs_16 : decode cX6_loadLimbs 16 = .ok (.lconst 0, 1) := by decide +kernel
theorem dX6_loadLimbs_17 : decode cX6_loadLimbs 17 = .ok (.lastore, 1) := by decide +kernel
theorem dX6_loadLimbs_18 : decode cX6_loadLimbs 18 = .ok (.iinc 5 1, 3) := by decide +kernel
theorem dX6_loadLimbs_21 : decode cX6_loadLimbs 21 = .ok (.goto (-18), 3) := by decide +kernel
theorem dX6_loadLimbs_24 : decode cX6_loadLimbs 24 = .ok (.iconst 0, 1) := by decide +kernel
theorem dX6_loadLimbs_25 : decode cX6_loadLimbs 25 = .ok (.istore 5, 2) := by decide +kernel
theorem dX6_loadLimbs_27 : decode cX6_loadLimbs 27 = .ok (.iload 5, 2) := by decide +kernel
theorem dX6_loadLimbs_29 : decode cX6_loadLimbs 29 = .ok (.iload_n 3, 1) := by decide +kernel
theorem dX6_loadLimbs_30 : decode cX6_loadLimbs 30 = .ok (.if_icmp .ge 51, 3) := by decide +kernel
theorem dX6_loadLimbs_33 : decode cX6_loadLimbs 33 = .ok (.iload 5, 2) := by decide +kernel
theorem dX6_loadLimbs_35 : decode cX6_loadLimbs 35 = .ok (.iconst 4, 1) := by decide +kernel
theorem dX6_loadLimbs_36 : decode cX6_loadLimbs 36 = .ok (.aload_n 0, 1) := by decide +kernel
theorem dX6_loadLimbs_37 : decode cX6_loadLimbs 37 = .ok (.getfield 7, 3) := by decide +kernel
theorem dX6_loadLimbs_40 : decode cX6_loadLimbs 40 = .ok (.imul, 1) := by decide +kernel
theorem dX6_loadLimbs_41 : decode cX6_loadLimbs 41 = .ok (.if_icmp .ge 40, 3) := by decide +kernel
theorem dX6_loadLimbs_44 : decode cX6_loadLimbs 44 = .ok (.aload 4, 2) := by decide +kernel
theorem dX6_loadLimbs_46 : decode cX6_loadLimbs 46 = .ok (.iload 5, 2) := by decide +kernel
theorem dX6_loadLimbs_48 : decode cX6_loadLimbs 48 = .ok (.iconst 4, 1) := by decide +kernel
theorem dX6_loadLimbs_49 : decode cX6_loadLimbs 49 = .ok (.idiv, 1) := by decide +kernel
theorem dX6_loadLimbs_50 : decode cX6_loadLimbs 50 = .ok (.dup2, 1) := by decide +kernel
theorem dX6_loadLimbs_51 : decode cX6_loadLimbs 51 = .ok (.laload, 1) := by decide +kernel
theorem dX6_loadLimbs_52 : decode cX6_loadLimbs 52 = .ok (.aload_n 1, 1) := by decide +kernel
theorem dX6_loadLimbs_53 : decode cX6_loadLimbs 53 = .ok (.iload_n 2, 1) := by decide +kernel
theorem dX6_loadLimbs_54 : decode cX6_loadLimbs 54 = .ok (.iload_n 3, 1) := by decide +kernel
theorem dX6_loadLimbs_55 : decode cX6_loadLimbs 55 = .ok (.iadd, 1) := by decide +kernel
theorem dX6_loadLimbs_56 : decode cX6_loadLimbs 56 = .ok (.iconst 1, 1) := by decide +kernel
theorem dX6_loadLimbs_57 : decode cX6_loadLimbs 57 = .ok (.isub, 1) := by decide +kernel
theorem dX6_loadLimbs_58 : decode cX6_loadLimbs 58 = .ok (.iload 5, 2) := by decide +kernel
theorem dX6_loadLimbs_60 : decode cX6_loadLimbs 60 = .ok (.isub, 1) := by decide +kernel
theorem dX6_loadLimbs_61 : decode cX6_loadLimbs 61 = .ok (.invokevirtual 37, 3) := by decide +kernel
theorem dX6_loadLimbs_64 : decode cX6_loadLimbs 64 = .ok (.i2l, 1) := by decide +kernel
theorem dX6_loadLimbs_65 : decode cX6_loadLimbs 65 = .ok (.bipush 8, 2) := by decide +kernel
theorem dX6_loadLimbs_67 : decode cX6_loadLimbs 67 = .ok (.iload 5, 2) := by decide +kernel
theorem dX6_loadLimbs_69 : decode cX6_loadLimbs 69 = .ok (.iconst 3, 1) := by decide +kernel
theorem dX6_loadLimbs_70 : decode cX6_loadLimbs 70 = .ok (.iand, 1) := by decide +kernel
theorem dX6_loadLimbs_71 : decode cX6_loadLimbs 71 = .ok (.imul, 1) := by decide +kernel
theorem dX6_loadLimbs_72 : decode cX6_loadLimbs 72 = .ok (.lshl, 1) := by decide +kernel
theorem dX6_loadLimbs_73 : decode cX6_loadLimbs 73 = .ok (.lor, 1) := by decide +kernel
theorem dX6_loadLimbs_74 : decode cX6_loadLimbs 74 = .ok (.lastore, 1) := by decide +kernel
theorem dX6_loadLimbs_75 : decode cX6_loadLimbs 75 = .ok (.iinc 5 1, 3) := by decide +kernel
theorem dX6_loadLimbs_78 : decode cX6_loadLimbs 78 = .ok (.goto (-51), 3) := by decide +kernel
theorem dX6_loadLimbs_81 : decode cX6_loadLimbs 81 = .ok (.return_, 1) := by decide +kernel
abbrev rmX6_loadLimbs : Room := { frames := 1, cells := 0, slots := 0, locals := 21 }
set_option maxHeartbeats 4000000 in
set_option maxRecDepth 100000 in
theorem wB_X6_loadLimbs_27 {G : mG} {F : Nat} {x : mXT} {sz : Nat} {M0 : mM} (X : mCX G RX6 cX6_loadLimbs 6 none "loadLimbs" rmX6_loadLimbs x) (hQ : mQV x M0 (sz, 0, 0)) : ∀ (n : Nat) (l0 : Nat) (l1 : Nat) (l2 : Int32) (l3 : Int32) (l4 : Nat) (l5 : Int32) (M : mM), B_X6_loadLimbs_27 G F n l0 l1 l2 l3 l4 l5 M = some M0 → WW x (sz, 0, 0) M 27 [(0, .ref l0), (1, .ref l1), (2, .int l2), (3, .int l3), (4, .ref l4), (5, .int l5)] [] := by
  intro n
  induction n with
  | zero =>
    intro l0 l1 l2 l3 l4 l5 M h
    exact nomatch (show (none : Option mM) = some M0 from h)
  | succ n ih =>
    intro l0 l1 l2 l3 l4 l5 M h
    rw [B_X6_loadLimbs_27] at h
    refine ww_iload 27 X dX6_loadLimbs_27 5 rfl ?_
    refine ww_iload_n 29 X dX6_loadLimbs_29 3 rfl rfl ?_
    refine ww_icmp_ge 30 81 X dX6_loadLimbs_30 (by decide) (fun q => ?_) (fun q => ?_)
    · replace h := (if_pos q).symm.trans h
      exact ww_vretE 81 X hQ dX6_loadLimbs_81 h
    · replace h := (if_neg q).symm.trans h
      refine ww_iload 33 X dX6_loadLimbs_33 5 rfl ?_
      refine ww_iconst 35 X (v := (4 : Int32)) dX6_loadLimbs_35 (by decide) ?_
      refine ww_aload_n 36 X dX6_loadLimbs_36 0 rfl rfl ?_
      obtain ⟨v37, e37, h⟩ := bO_some h
      refine ww_getI 37 X dX6_loadLimbs_37 fG_X6_7 e37 ?_
      refine ww_imul 40 X dX6_loadLimbs_40 ?_
      refine ww_icmp_ge 41 81 X dX6_loadLimbs_41 (by decide) (fun q => ?_) (fun q => ?_)
      · replace h := (if_pos q).symm.trans h
        exact ww_vretE 81 X hQ dX6_loadLimbs_81 h
      · replace h := (if_neg q).symm.trans h
        refine ww_aload 44 X dX6_loadLimbs_44 4 rfl ?_
        refine ww_iload 46 X dX6_loadLimbs_46 5 rfl ?_
        refine ww_iconst 48 X (v := (4 : Int32)) dX6_loadLimbs_48 (by decide) ?_
        refine ww_idiv 49 X (v := (l5 / (4 : Int32))) dX6_loadLimbs_49 rfl ?_
        refine ww_dup2_11 50 X dX6_loadLimbs_50 rfl rfl ?_
        obtain ⟨v51, e51, h⟩ := bO_some h
        refine ww_lald 51 X dX6_loadLimbs_51 e51 ?_
        refine ww_aload_n 52 X dX6_loadLimbs_52 1 rfl rfl ?_
        refine ww_iload_n 53 X dX6_loadLimbs_53 2 rfl rfl ?_
        refine ww_iload_n 54 X dX6_loadLimbs_54 3 rfl rfl ?_
        refine ww_iadd 55 X dX6_loadLimbs_55 ?_
        refine ww_iconst 56 X (v := (1 : Int32)) dX6_loadLimbs_56 (by decide) ?_
        refine ww_isub 57 X dX6_loadLimbs_57 ?_
        refine ww_iload 58 X dX6_loadLimbs_58 5 rfl ?_
        refine ww_isub 60 X dX6_loadLimbs_60 ?_
        obtain ⟨_, f61, h⟩ := bO_some h
        obtain ⟨v61, M61, e61, h⟩ := bP_some h
        refine ww_callVI0 61 X dX6_loadLimbs_61 mY_X0_get mL_X6_37 (rcv_spec f61) ⟨_, _, rfl⟩ (by decide) (As := [.int (((l2 + l3) - (1 : Int32)) - l5)]) (rest := [.long v51, .int (l5 / (4 : Int32)), .ref l4]) rfl rfl ⟨Nat.le_of_ble_eq_true rfl, Nat.le_of_ble_eq_true rfl⟩ (Nat.le_of_ble_eq_true rfl) (fun l D A => c_X0_get l D A e61) ?_
        refine ww_i2l 64 X dX6_loadLimbs_64 ?_
        refine ww_bipush 65 X (v := (8 : Int32)) dX6_loadLimbs_65 (by decide) ?_
        refine ww_iload 67 X dX6_loadLimbs_67 5 rfl ?_
        refine ww_iconst 69 X (v := (3 : Int32)) dX6_loadLimbs_69 (by decide) ?_
        refine ww_iand 70 X dX6_loadLimbs_70 ?_
        refine ww_imul 71 X dX6_loadLimbs_71 ?_
        refine ww_lshl 72 X dX6_loadLimbs_72 ?_
        refine ww_lor 73 X dX6_loadLimbs_73 ?_
        obtain ⟨M74, e74, h⟩ := bO_some h
        refine ww_last 74 X dX6_loadLimbs_74 e74 ?_
        refine ww_iinc 75 X dX6_loadLimbs_75 (lv' := [(0, .ref l0), (1, .ref l1), (2, .int l2), (3, .int l3), (4, .ref l4), (5, .int (l5 + 1))]) 5 rfl rfl (by decide) [1, 2, 3, 4, 5, 0] rfl ?_
        refine ww_goto 78 27 X dX6_loadLimbs_78 (by decide) ?_
        exact (ih _ _ _ _ _ _ _ h)
set_option maxHeartbeats 4000000 in
set_option maxRecDepth 100000 in
theorem wB_X6_loadLimbs_3 {G : mG} {F : Nat} {x : mXT} {sz : Nat} {M0 : mM} (X : mCX G RX6 cX6_loadLimbs 6 none "loadLimbs" rmX6_loadLimbs x) (hQ : mQV x M0 (sz, 0, 0)) : ∀ (n : Nat) (l0 : Nat) (l1 : Nat) (l2 : Int32) (l3 : Int32) (l4 : Nat) (l5 : Int32) (M : mM), B_X6_loadLimbs_3 G F n l0 l1 l2 l3 l4 l5 M = some M0 → WW x (sz, 0, 0) M 3 [(0, .ref l0), (1, .ref l1), (2, .int l2), (3, .int l3), (4, .ref l4), (5, .int l5)] [] := by
  intro n
  induction n with
  | zero =>
    intro l0 l1 l2 l3 l4 l5 M h
    exact nomatch (show (none : Option mM) = some M0 from h)
  | succ n ih =>
    intro l0 l1 l2 l3 l4 l5 M h
    rw [B_X6_loadLimbs_3] at h
    refine ww_iload 3 X dX6_loadLimbs_3 5 rfl ?_
    refine ww_aload_n 5 X dX6_loadLimbs_5 0 rfl rfl ?_
    obtain ⟨v6, e6, h⟩ := bO_some h
    refine ww_getI 6 X dX6_loadLimbs_6 fG_X6_7 e6 ?_
    refine ww_icmp_ge 9 24 X dX6_loadLimbs_9 (by decide) (fun q => ?_) (fun q => ?_)
    · replace h := (if_pos q).symm.trans h
      refine ww_iconst 24 X (v := (0 : Int32)) dX6_loadLimbs_24 (by decide) ?_
      refine ww_istore 25 X dX6_loadLimbs_25 (lv' := [(0, .ref l0), (1, .ref l1), (2, .int l2), (3, .int l3), (4, .ref l4), (5, .int (0 : Int32))]) (by decide) [1, 2, 3, 4, 5, 0] rfl ?_
      exact (wB_X6_loadLimbs_27 X hQ F _ _ _ _ _ _ _ h)
    · replace h := (if_neg q).symm.trans h
      refine ww_aload 12 X dX6_loadLimbs_12 4 rfl ?_
      refine ww_iload 14 X dX6_loadLimbs_14 5 rfl ?_
      refine ww_lconst 16 X (v := (0 : Int64)) dX6_loadLimbs_16 (by decide) ?_
      obtain ⟨M17, e17, h⟩ := bO_some h
      refine ww_last 17 X dX6_loadLimbs_17 e17 ?_
      refine ww_iinc 18 X dX6_loadLimbs_18 (lv' := [(0, .ref l0), (1, .ref l1), (2, .int l2), (3, .int l3), (4, .ref l4), (5, .int (l5 + 1))]) 5 rfl rfl (by decide) [1, 2, 3, 4, 5, 0] rfl ?_
      refine ww_goto 21 3 X dX6_loadLimbs_21 (by decide) ?_
      exact (ih _ _ _ _ _ _ _ h)
set_option maxHeartbeats 4000000 in
set_option maxRecDepth 100000 in
theorem wP_X6_loadLimbs {G : mG} {F : Nat} {x : mXT} {sz : Nat} {M0 : mM} (X : mCX G RX6 cX6_loadLimbs 6 none "loadLimbs" rmX6_loadLimbs x) (hQ : mQV x M0 (sz, 0, 0)) {l0 : Nat} {l1 : Nat} {l2 : Int32} {l3 : Int32} {l4 : Nat} {M : mM} (h : P_X6_loadLimbs G F l0 l1 l2 l3 l4 M = some M0) : WW x (sz, 0, 0) M 0 [(0, .ref l0), (1, .ref l1), (2, .int l2), (3, .int l3), (4, .ref l4)] [] := by
  unfold P_X6_loadLimbs at h
  refine ww_iconst 0 X (v := (0 : Int32)) dX6_loadLimbs_0 (by decide) ?_
  refine ww_istore 1 X dX6_loadLimbs_1 (lv' := [(0, .ref l0), (1, .ref l1), (2, .int l2), (3, .int l3), (4, .ref l4), (5, .int (0 : Int32))]) (by decide) [1, 2, 3, 4, 5, 0] rfl ?_
  exact (wB_X6_loadLimbs_3 X hQ F _ _ _ _ _ _ _ h)
theorem c_X6_loadLimbs {G : mG} {F sz : Nat} {M0 : mM} (l : Launch) (D : mD) (A : Nat → Prop) {l0 : Nat} {l1 : Nat} {l2 : Int32} {l3 : Int32} {l4 : Nat} {M : mM} (h : P_X6_loadLimbs G F l0 l1 l2 l3 l4 M = some M0) : mMetV l D G A yX6_loadLimbs cX6_loadLimbs 6 none 1 21 0 0 [.ref l0, .ref l1, .int l2, .int l3, .ref l4] M sz M0 sz := mMetV_of l D G A (by decide) (Nat.le_of_ble_eq_true rfl) (fun x X hQ => wP_X6_loadLimbs X hQ h)
/-! SealedTokens$Modulus.settle([J)V -/
theorem dX6_settle_0 : decode cX6_settle 0 = .ok (.lconst 0, 1) := by decide +kernel
theorem dX6_settle_1 : decode cX6_settle 1 = .ok (.lstore_n 2, 1) := by decide +kernel
theorem dX6_settle_2 : decode cX6_settle 2 = .ok (.iconst 0, 1) := by decide +kernel
theorem dX6_settle_3 : decode cX6_settle 3 = .ok (.istore 4, 2) := by decide +kernel
theorem dX6_settle_5 : decode cX6_settle 5 = .ok (.iload 4, 2) := by decide +kernel
theorem dX6_settle_7 : decode cX6_settle 7 = .ok (.aload_n 0, 1) := by decide +kernel
theorem dX6_settle_8 : decode cX6_settle 8 = .ok (.getfield 7, 3) := by decide +kernel
theorem dX6_settle_11 : decode cX6_settle 11 = .ok (.if_icmp .ge 41, 3) := by decide +kernel
theorem dX6_settle_14 : decode cX6_settle 14 = .ok (.lload_n 2, 1) := by decide +kernel
theorem dX6_settle_15 : decode cX6_settle 15 = .ok (.aload_n 0, 1) := by decide +kernel
theorem dX6_settle_16 : decode cX6_settle 16 = .ok (.getfield 29, 3) := by decide +kernel
theorem dX6_settle_19 : decode cX6_settle 19 = .ok (.iload 4, 2) := by decide +kernel
theorem dX6_settle_21 : decode cX6_settle 21 = .ok (.laload, 1) := by decide +kernel
theorem dX6_settle_22 : decode cX6_settle 22 = .ok (.aload_n 0, 1) := by decide +kernel
theorem dX6_settle_23 : decode cX6_settle 23 = .ok (.getfield 13, 3) := by decide +kernel
theorem dX6_settle_26 : decode cX6_settle 26 = .ok (.iload 4, 2) := by decide +kernel
theorem dX6_settle_28 : decode cX6_settle 28 = .ok (.laload, 1) := by decide +kernel
theorem dX6_settle_29 : decode cX6_settle 29 = .ok (.lsub, 1) := by decide +kernel
theorem dX6_settle_30 : decode cX6_settle 30 = .ok (.ladd, 1) := by decide +kernel
theorem dX6_settle_31 : decode cX6_settle 31 = .ok (.lstore_n 2, 1) := by decide +kernel
theorem dX6_settle_32 : decode cX6_settle 32 = .ok (.aload_n 1, 1) := by decide +kernel
theorem dX6_settle_33 : decode cX6_settle 33 = .ok (.iload 4, 2) := by decide +kernel
theorem dX6_settle_35 : decode cX6_settle 35 = .ok (.lload_n 2, 1) := by decide +kernel
theorem dX6_settle_36 : decode cX6_settle 36 = .ok (.ldc2_w 56, 3) := by decide +kernel
theorem dX6_settle_39 : decode cX6_settle 39 = .ok (.land, 1) := by decide +kernel
theorem dX6_settle_40 : decode cX6_settle 40 = .ok (.lastore, 1) := by decide +kernel
theorem dX6_settle_41 : decode cX6_settle 41 = .ok (.lload_n 2, 1) := by decide +kernel
theorem dX6_settle_42 : decode cX6_settle 42 = .ok (.bipush 32, 2) := by decide +kernel
theorem dX6_settle_44 : decode cX6_settle 44 = .ok (.lshr, 1) := by decide +kernel
theorem dX6_settle_45 : decode cX6_settle 45 = .ok (.lstore_n 2, 1) := by decide +kernel
theorem dX6_settle_46 : decode cX6_settle 46 = .ok (.iinc 4 1, 3) := by decide +kernel
theorem dX6_settle_49 : decode cX6_settle 49 = .ok (.goto (-44), 3) := by decide +kernel
theorem dX6_settle_52 : decode cX6_settle 52 = .ok (.lload_n 2, 1) := by decide +kernel
theorem dX6_settle_53 : decode cX6_settle 53 = .ok (.aload_n 0, 1) := by decide +kernel
theorem dX6_settle_54 : decode cX6_settle 54 = .ok (.getfield 29, 3) := by decide +kernel
theorem dX6_settle_57 : decode cX6_settle 57 = .ok (.aload_n 0, 1) := by decide +kernel
theorem dX6_settle_58 : decode cX6_settle 58 = .ok (.getfield 7, 3) := by decide +kernel
theorem dX6_settle_61 : decode cX6_settle 61 = .ok (.laload, 1) := by decide +kernel
theorem dX6_settle_62 : decode cX6_settle 62 = .ok (.ladd, 1) := by decide +kernel
theorem dX6_settle_63 : decode cX6_settle 63 = .ok (.lconst 0, 1) := by decide +kernel
theorem dX6_settle_64 : decode cX6_settle 64 = .ok (.lcmp, 1) := by decide +kernel
theorem dX6_settle_65 : decode cX6_settle 65 = .ok (.ifCond .ge 17, 3) := by decide +kernel
theorem dX6_settle_68 : decode cX6_settle 68 = .ok (.aload_n 0, 1) := by decide +kernel
theorem dX6_settle_69 : decode cX6_settle 69 = .ok (.getfield 29, 3) := by decide +kernel
theorem dX6_settle_72 : decode cX6_settle 72 = .ok (.iconst 0, 1) := by decide +kernel
theorem dX6_settle_73 : decode cX6_settle 73 = .ok (.aload_n 1, 1) := by decide +kernel
theorem dX6_settle_74 : decode cX6_settle 74 = .ok (.iconst 0, 1) := by decide +kernel
theorem dX6_settle_75 : decode cX6_settle 75 = .ok (.aload_n 0, 1) := by decide +kernel
theorem dX6_settle_76 : decode cX6_settle 76 = .ok (.getfield 7, 3) := by decide +kernel
theorem dX6_settle_79 : decode cX6_settle 79 = .ok (.invokestatic 77, 3) := by decide +kernel
theorem dX6_settle_82 : decode cX6_settle 82 = .ok (.return_, 1) := by decide +kernel
abbrev rmX6_settle : Room := { frames := 1, cells := 0, slots := 0, locals := 60 }
set_option maxHeartbeats 4000000 in
set_option maxRecDepth 100000 in
theorem wB_X6_settle_5 {G : mG} {F : Nat} {x : mXT} {sz : Nat} {M0 : mM} (X : mCX G RX6 cX6_settle 5 none "settle" rmX6_settle x) (hQ : mQV x M0 (sz, 0, 0)) : ∀ (n : Nat) (l0 : Nat) (l1 : Nat) (l2 : Int64) (l4 : Int32) (M : mM), B_X6_settle_5 G F n l0 l1 l2 l4 M = some M0 → WW x (sz, 0, 0) M 5 [(0, .ref l0), (1, .ref l1), (2, .long l2), (4, .int l4)] [] := by
  intro n
  induction n with
  | zero =>
    intro l0 l1 l2 l4 M h
    exact nomatch (show (none : Option mM) = some M0 from h)
  | succ n ih =>
    intro l0 l1 l2 l4 M h
    rw [B_X6_settle_5] at h
    refine ww_iload 5 X dX6_settle_5 3 rfl ?_
    refine ww_aload_n 7 X dX6_settle_7 0 rfl rfl ?_
    obtain ⟨v8, e8, h⟩ := bO_some h
    refine ww_getI 8 X dX6_settle_8 fG_X6_7 e8 ?_
    refine ww_icmp_ge 11 52 X dX6_settle_11 (by decide) (fun q => ?_) (fun q => ?_)
    · replace h := (if_pos q).symm.trans h
      refine ww_lload_n 52 X dX6_settle_52 2 rfl rfl ?_
      refine ww_aload_n 53 X dX6_settle_53 0 rfl rfl ?_
      obtain ⟨v54, e54, h⟩ := bO_some h
      refine ww_getR 54 X dX6_settle_54 fG_X6_29 e54 ?_
      refine ww_aload_n 57 X dX6_settle_57 0 rfl rfl ?_
      obtain ⟨v58, e58, h⟩ := bO_some h
      refine ww_getI 58 X dX6_settle_58 fG_X6_7 e58 ?_
      obtain ⟨v61, e61, h⟩ := bO_some h
      refine ww_lald 61 X dX6_settle_61 e61 ?_
      refine ww_ladd 62 X dX6_settle_62 ?_
      refine ww_lconst 63 X (v := (0 : Int64)) dX6_settle_63 (by decide) ?_
      refine ww_lcmp 64 X dX6_settle_64 ?_
      refine ww_if_ge 65 82 X dX6_settle_65 (by decide) (fun q => ?_) (fun q => ?_)
      · replace h := (if_pos q).symm.trans h
        exact ww_vretE 82 X hQ dX6_settle_82 h
      · replace h := (if_neg q).symm.trans h
        refine ww_aload_n 68 X dX6_settle_68 0 rfl rfl ?_
        obtain ⟨v69, e69, h⟩ := bO_some h
        refine ww_getR 69 X dX6_settle_69 fG_X6_29 e69 ?_
        refine ww_iconst 72 X (v := (0 : Int32)) dX6_settle_72 (by decide) ?_
        refine ww_aload_n 73 X dX6_settle_73 1 rfl rfl ?_
        refine ww_iconst 74 X (v := (0 : Int32)) dX6_settle_74 (by decide) ?_
        refine ww_aload_n 75 X dX6_settle_75 0 rfl rfl ?_
        obtain ⟨v76, e76, h⟩ := bO_some h
        refine ww_getI 76 X dX6_settle_76 fG_X6_7 e76 ?_
        obtain ⟨M79, e79, h⟩ := bO_some h
        refine ww_cpL 79 X (st := []) dX6_settle_79 mL_X6_77 (Nat.le_of_ble_eq_true rfl) (Nat.le_of_ble_eq_true rfl) (Nat.le_of_ble_eq_true rfl) e79 ?_
        exact ww_vretE 82 X hQ dX6_settle_82 h
    · replace h := (if_neg q).symm.trans h
      refine ww_lload_n 14 X dX6_settle_14 2 rfl rfl ?_
      refine ww_aload_n 15 X dX6_settle_15 0 rfl rfl ?_
      obtain ⟨v16, e16, h⟩ := bO_some h
      refine ww_getR 16 X dX6_settle_16 fG_X6_29 e16 ?_
      refine ww_iload 19 X dX6_settle_19 3 rfl ?_
      obtain ⟨v21, e21, h⟩ := bO_some h
      refine ww_lald 21 X dX6_settle_21 e21 ?_
      refine ww_aload_n 22 X dX6_settle_22 0 rfl rfl ?_
      obtain ⟨v23, e23, h⟩ := bO_some h
      refine ww_getR 23 X dX6_settle_23 fG_X6_13 e23 ?_
      refine ww_iload 26 X dX6_settle_26 3 rfl ?_
      obtain ⟨v28, e28, h⟩ := bO_some h
      refine ww_lald 28 X dX6_settle_28 e28 ?_
      refine ww_lsub 29 X dX6_settle_29 ?_
      refine ww_ladd 30 X dX6_settle_30 ?_
      refine ww_lstore_n 31 X dX6_settle_31 (lv' := [(0, .ref l0), (1, .ref l1), (2, .long (l2 + (v21 - v28))), (4, .int l4)]) rfl (by decide) [1, 2, 0, 3] rfl ?_
      refine ww_aload_n 32 X dX6_settle_32 1 rfl rfl ?_
      refine ww_iload 33 X dX6_settle_33 3 rfl ?_
      refine ww_lload_n 35 X dX6_settle_35 2 rfl rfl ?_
      refine ww_ldc2 36 X (v := (4294967295 : Int64)) dX6_settle_36 kL_X6_56 ?_
      refine ww_land 39 X dX6_settle_39 ?_
      obtain ⟨M40, e40, h⟩ := bO_some h
      refine ww_last 40 X dX6_settle_40 e40 ?_
      refine ww_lload_n 41 X dX6_settle_41 2 rfl rfl ?_
      refine ww_bipush 42 X (v := (32 : Int32)) dX6_settle_42 (by decide) ?_
      refine ww_lshr 44 X dX6_settle_44 ?_
      refine ww_lstore_n 45 X dX6_settle_45 (lv' := [(0, .ref l0), (1, .ref l1), (2, .long (shrL (l2 + (v21 - v28)) (32 : Int32))), (4, .int l4)]) rfl (by decide) [1, 2, 0, 3] rfl ?_
      refine ww_iinc 46 X dX6_settle_46 (lv' := [(0, .ref l0), (1, .ref l1), (2, .long (shrL (l2 + (v21 - v28)) (32 : Int32))), (4, .int (l4 + 1))]) 3 rfl rfl (by decide) [1, 2, 3, 0] rfl ?_
      refine ww_goto 49 5 X dX6_settle_49 (by decide) ?_
      exact (ih _ _ _ _ _ h)
set_option maxHeartbeats 4000000 in
set_option maxRecDepth 100000 in
theorem wP_X6_settle {G : mG} {F : Nat} {x : mXT} {sz : Nat} {M0 : mM} (X : mCX G RX6 cX6_settle 5 none "settle" rmX6_settle x) (hQ : mQV x M0 (sz, 0, 0)) {l0 : Nat} {l1 : Nat} {M : mM} (h : P_X6_settle G F l0 l1 M = some M0) : WW x (sz, 0, 0) M 0 [(0, .ref l0), (1, .ref l1)] [] := by
  unfold P_X6_settle at h
  refine ww_lconst 0 X (v := (0 : Int64)) dX6_settle_0 (by decide) ?_
  refine ww_lstore_n 1 X dX6_settle_1 (lv' := [(0, .ref l0), (1, .ref l1), (2, .long (0 : Int64))]) rfl (by decide) [1, 2, 0] rfl ?_
  refine ww_iconst 2 X (v := (0 : Int32)) dX6_settle_2 (by decide) ?_
  refine ww_istore 3 X dX6_settle_3 (lv' := [(0, .ref l0), (1, .ref l1), (2, .long (0 : Int64)), (4, .int (0 : Int32))]) (by decide) [1, 2, 3, 0] rfl ?_
  exact (wB_X6_settle_5 X hQ F _ _ _ _ _ h)
theorem c_X6_settle {G : mG} {F sz : Nat} {M0 : mM} (l : Launch) (D : mD) (A : Nat → Prop) {l0 : Nat} {l1 : Nat} {M : mM} (h : P_X6_settle G F l0 l1 M = some M0) : mMetV l D G A yX6_settle cX6_settle 5 none 1 60 0 0 [.ref l0, .ref l1] M sz M0 sz := mMetV_of l D G A (by decide) (Nat.le_of_ble_eq_true rfl) (fun x X hQ => wP_X6_settle X hQ h)
/-! SealedTokens$Modulus.plus([J[J[J)V -/
theorem dX6_plus_0 : decode cX6_plus 0 = .ok (.lconst 0, 1) := by decide +kernel
theorem dX6_plus_1 : decode cX6_plus 1 = .ok (.lstore 4, 2) := by decide +kernel
theorem dX6_plus_3 : decode cX6_plus 3 = .ok (.iconst 0, 1) := by decide +kernel
theorem dX6_plus_4 : decode cX6_plus 4 = .ok (.istore 6, 2) := by decide +kernel
theorem dX6_plus_6 : decode cX6_plus 6 = .ok (.iload 6, 2) := by decide +kernel
theorem dX6_plus_8 : decode cX6_plus 8 = .ok (.aload_n 0, 1) := by decide +kernel
theorem dX6_plus_9 : decode cX6_plus 9 = .ok (.getfield 7, 3) := by decide +kernel
theorem dX6_plus_12 : decode cX6_plus 12 = .ok (.if_icmp .ge 43, 3) := by decide +kernel
theorem dX6_plus_15 : decode cX6_plus 15 = .ok (.lload 4, 2) := by decide +kernel
theorem dX6_plus_17 : decode cX6_plus 17 = .ok (.aload_n 1, 1) := by decide +kernel
theorem dX6_plus_18 : decode cX6_plus 18 = .ok (.iload 6, 2) := by decide +kernel
theorem dX6_plus_20 : decode cX6_plus 20 = .ok (.laload, 1) := by decide +kernel
theorem dX6_plus_21 : decode cX6_plus 21 = .ok (.aload_n 2, 1) := by decide +kernel
theorem dX6_plus_22 : decode cX6_plus 22 = .ok (.iload 6, 2) := by decide +kernel
theorem dX6_plus_24 : decode cX6_plus 24 = .ok (.laload, 1) := by decide +kernel
theorem dX6_plus_25 : decode cX6_plus 25 = .ok (.ladd, 1) := by decide +kernel
theorem dX6_plus_26 : decode cX6_plus 26 = .ok (.ladd, 1) := by decide +kernel
theorem dX6_plus_27 : decode cX6_plus 27 = .ok (.lstore 4, 2) := by decide +kernel
theorem dX6_plus_29 : decode cX6_plus 29 = .ok (.aload_n 0, 1) := by decide +kernel
theorem dX6_plus_30 : decode cX6_plus 30 = .ok (.getfield 29, 3) := by decide +kernel
theorem dX6_plus_33 : decode cX6_plus 33 = .ok (.iload 6, 2) := by decide +kernel
theorem dX6_plus_35 : decode cX6_plus 35 = .ok (.lload 4, 2) := by decide +kernel
theorem dX6_plus_37 : decode cX6_plus 37 = .ok (.ldc2_w 56, 3) := by decide +kernel
theorem dX6_plus_40 : decode cX6_plus 40 = .ok (.land, 1) := by decide +kernel
theorem dX6_plus_41 : decode cX6_plus 41 = .ok (.lastore, 1) := by decide +kernel
theorem dX6_plus_42 : decode cX6_plus 42 = .ok (.lload 4, 2) := by decide +kernel
theorem dX6_plus_44 : decode cX6_plus 44 = .ok (.bipush 32, 2) := by decide +kernel
theorem dX6_plus_46 : decode cX6_plus 46 = .ok (.lushr, 1) := by decide +kernel
theorem dX6_plus_47 : decode cX6_plus 47 = .ok (.lstore 4, 2) := by decide +kernel
theorem dX6_plus_49 : decode cX6_plus 49 = .ok (.iinc 6 1, 3) := by decide +kernel
theorem dX6_plus_52 : decode cX6_plus 52 = .ok (.goto (-46), 3) := by decide +kernel
theorem dX6_plus_55 : decode cX6_plus 55 = .ok (.aload_n 0, 1) := by decide +kernel
theorem dX6_plus_56 : decode cX6_plus 56 = .ok (.getfield 29, 3) := by decide +kernel
theorem dX6_plus_59 : decode cX6_plus 59 = .ok (.aload_n 0, 1) := by decide +kernel
theorem dX6_plus_60 : decode cX6_plus 60 = .ok (.getfield 7, 3) := by decide +kernel
theorem dX6_plus_63 : decode cX6_plus 63 = .ok (.lload 4, 2) := by decide +kernel
theorem dX6_plus_65 : decode cX6_plus 65 = .ok (.lastore, 1) := by decide +kernel
theorem dX6_plus_66 : decode cX6_plus 66 = .ok (.aload_n 0, 1) := by decide +kernel
theorem dX6_plus_67 : decode cX6_plus 67 = .ok (.aload_n 3, 1) := by decide +kernel
theorem dX6_plus_68 : decode cX6_plus 68 = .ok (.invokevirtual 73, 3) := by decide +kernel
theorem dX6_plus_71 : decode cX6_plus 71 = .ok (.return_, 1) := by decide +kernel
abbrev rmX6_plus : Room := { frames := 2, cells := 0, slots := 0, locals := 84 }
set_option maxHeartbeats 4000000 in
set_option maxRecDepth 100000 in
theorem wB_X6_plus_6 {G : mG} {F : Nat} {x : mXT} {sz : Nat} {M0 : mM} (X : mCX G RX6 cX6_plus 7 none "plus" rmX6_plus x) (hQ : mQV x M0 (sz, 0, 0)) : ∀ (n : Nat) (l0 : Nat) (l1 : Nat) (l2 : Nat) (l3 : Nat) (l4 : Int64) (l6 : Int32) (M : mM), B_X6_plus_6 G F n l0 l1 l2 l3 l4 l6 M = some M0 → WW x (sz, 0, 0) M 6 [(0, .ref l0), (1, .ref l1), (2, .ref l2), (3, .ref l3), (4, .long l4), (6, .int l6)] [] := by
  intro n
  induction n with
  | zero =>
    intro l0 l1 l2 l3 l4 l6 M h
    exact nomatch (show (none : Option mM) = some M0 from h)
  | succ n ih =>
    intro l0 l1 l2 l3 l4 l6 M h
    rw [B_X6_plus_6] at h
    refine ww_iload 6 X dX6_plus_6 5 rfl ?_
    refine ww_aload_n 8 X dX6_plus_8 0 rfl rfl ?_
    obtain ⟨v9, e9, h⟩ := bO_some h
    refine ww_getI 9 X dX6_plus_9 fG_X6_7 e9 ?_
    refine ww_icmp_ge 12 55 X dX6_plus_12 (by decide) (fun q => ?_) (fun q => ?_)
    · replace h := (if_pos q).symm.trans h
      refine ww_aload_n 55 X dX6_plus_55 0 rfl rfl ?_
      obtain ⟨v56, e56, h⟩ := bO_some h
      refine ww_getR 56 X dX6_plus_56 fG_X6_29 e56 ?_
      refine ww_aload_n 59 X dX6_plus_59 0 rfl rfl ?_
      obtain ⟨v60, e60, h⟩ := bO_some h
      refine ww_getI 60 X dX6_plus_60 fG_X6_7 e60 ?_
      refine ww_lload 63 X dX6_plus_63 4 rfl ?_
      obtain ⟨M65, e65, h⟩ := bO_some h
      refine ww_last 65 X dX6_plus_65 e65 ?_
      refine ww_aload_n 66 X dX6_plus_66 0 rfl rfl ?_
      refine ww_aload_n 67 X dX6_plus_67 3 rfl rfl ?_
      obtain ⟨_, f68, h⟩ := bO_some h
      obtain ⟨M68, e68, h⟩ := bO_some h
      refine ww_callVV0 68 X dX6_plus_68 mY_X6_settle mL_X6_73 (rcv_spec f68) ⟨_, _, rfl⟩ (by decide) (As := [.ref l3]) (rest := []) rfl rfl ⟨Nat.le_of_ble_eq_true rfl, Nat.le_of_ble_eq_true rfl⟩ (Nat.le_of_ble_eq_true rfl) (fun l D A => c_X6_settle l D A e68) ?_
      exact ww_vretE 71 X hQ dX6_plus_71 h
    · replace h := (if_neg q).symm.trans h
      refine ww_lload 15 X dX6_plus_15 4 rfl ?_
      refine ww_aload_n 17 X dX6_plus_17 1 rfl rfl ?_
      refine ww_iload 18 X dX6_plus_18 5 rfl ?_
      obtain ⟨v20, e20, h⟩ := bO_some h
      refine ww_lald 20 X dX6_plus_20 e20 ?_
      refine ww_aload_n 21 X dX6_plus_21 2 rfl rfl ?_
      refine ww_iload 22 X dX6_plus_22 5 rfl ?_
      obtain ⟨v24, e24, h⟩ := bO_some h
      refine ww_lald 24 X dX6_plus_24 e24 ?_
      refine ww_ladd 25 X dX6_plus_25 ?_
      refine ww_ladd 26 X dX6_plus_26 ?_
      refine ww_lstore 27 X dX6_plus_27 (lv' := [(0, .ref l0), (1, .ref l1), (2, .ref l2), (3, .ref l3), (4, .long (l4 + (v20 + v24))), (6, .int l6)]) (by decide) [1, 2, 3, 4, 0, 5] rfl ?_
      refine ww_aload_n 29 X dX6_plus_29 0 rfl rfl ?_
      obtain ⟨v30, e30, h⟩ := bO_some h
      refine ww_getR 30 X dX6_plus_30 fG_X6_29 e30 ?_
      refine ww_iload 33 X dX6_plus_33 5 rfl ?_
      refine ww_lload 35 X dX6_plus_35 4 rfl ?_
      refine ww_ldc2 37 X (v := (4294967295 : Int64)) dX6_plus_37 kL_X6_56 ?_
      refine ww_land 40 X dX6_plus_40 ?_
      obtain ⟨M41, e41, h⟩ := bO_some h
      refine ww_last 41 X dX6_plus_41 e41 ?_
      refine ww_lload 42 X dX6_plus_42 4 rfl ?_
      refine ww_bipush 44 X (v := (32 : Int32)) dX6_plus_44 (by decide) ?_
      refine ww_lushr 46 X dX6_plus_46 ?_
      refine ww_lstore 47 X dX6_plus_47 (lv' := [(0, .ref l0), (1, .ref l1), (2, .ref l2), (3, .ref l3), (4, .long (ushL (l4 + (v20 + v24)) (32 : Int32))), (6, .int l6)]) (by decide) [1, 2, 3, 4, 0, 5] rfl ?_
      refine ww_iinc 49 X dX6_plus_49 (lv' := [(0, .ref l0), (1, .ref l1), (2, .ref l2), (3, .ref l3), (4, .long (ushL (l4 + (v20 + v24)) (32 : Int32))), (6, .int (l6 + 1))]) 5 rfl rfl (by decide) [1, 2, 3, 4, 5, 0] rfl ?_
      refine ww_goto 52 6 X dX6_plus_52 (by decide) ?_
      exact (ih _ _ _ _ _ _ _ h)
set_option maxHeartbeats 4000000 in
set_option maxRecDepth 100000 in
theorem wP_X6_plus {G : mG} {F : Nat} {x : mXT} {sz : Nat} {M0 : mM} (X : mCX G RX6 cX6_plus 7 none "plus" rmX6_plus x) (hQ : mQV x M0 (sz, 0, 0)) {l0 : Nat} {l1 : Nat} {l2 : Nat} {l3 : Nat} {M : mM} (h : P_X6_plus G F l0 l1 l2 l3 M = some M0) : WW x (sz, 0, 0) M 0 [(0, .ref l0), (1, .ref l1), (2, .ref l2), (3, .ref l3)] [] := by
  unfold P_X6_plus at h
  refine ww_lconst 0 X (v := (0 : Int64)) dX6_plus_0 (by decide) ?_
  refine ww_lstore 1 X dX6_plus_1 (lv' := [(0, .ref l0), (1, .ref l1), (2, .ref l2), (3, .ref l3), (4, .long (0 : Int64))]) (by decide) [1, 2, 3, 4, 0] rfl ?_
  refine ww_iconst 3 X (v := (0 : Int32)) dX6_plus_3 (by decide) ?_
  refine ww_istore 4 X dX6_plus_4 (lv' := [(0, .ref l0), (1, .ref l1), (2, .ref l2), (3, .ref l3), (4, .long (0 : Int64)), (6, .int (0 : Int32))]) (by decide) [1, 2, 3, 4, 5, 0] rfl ?_
  exact (wB_X6_plus_6 X hQ F _ _ _ _ _ _ _ h)
theorem c_X6_plus {G : mG} {F sz : Nat} {M0 : mM} (l : Launch) (D : mD) (A : Nat → Prop) {l0 : Nat} {l1 : Nat} {l2 : Nat} {l3 : Nat} {M : mM} (h : P_X6_plus G F l0 l1 l2 l3 M = some M0) : mMetV l D G A yX6_plus cX6_plus 7 none 2 84 0 0 [.ref l0, .ref l1, .ref l2, .ref l3] M sz M0 sz := mMetV_of l D G A (by decide) (Nat.le_of_ble_eq_true rfl) (fun x X hQ => wP_X6_plus X hQ h)
/-! SealedTokens$Modulus.times([J[J[J)V -/
theorem dX6_times_0 : decode cX6_times 0 = .ok (.iconst 0, 1) := by decide +kernel
theorem dX6_times_1 : decode cX6_times 1 = .ok (.istore 4, 2) := by decide +kernel
theorem dX6_times_3 : decode cX6_times 3 = .ok (.iload 4, 2) := by decide +kernel
theorem dX6_times_5 : decode cX6_times 5 = .ok (.aload_n 0, 1) := by decide +kernel
theorem dX6_times_6 : decode cX6_times 6 = .ok (.getfield 7, 3) := by decide +kernel
theorem dX6_times_9 : decode cX6_times 9 = .ok (.if_icmp .gt 17, 3) := by decide +kernel
theorem dX6_times_12 : decode cX6_times 12 = .ok (.aload_n 0, 1) := by decide +kernel
theorem dX6_times_13 : decode cX6_times 13 = .ok (.getfield 29, 3) := by decide +kernel
theorem dX6_times_16 : decode cX6_times 16 = .ok (.iload 4, 2) := by decide +kernel
theorem dX6_times_18 : decode cX6_times 18 = .ok (.lconst 0, 1) := by decide +kernel
theorem dX6_times_19 : decode cX6_times 19 = .ok (.lastore, 1) := by decide +kernel
theorem dX6_times_20 : decode cX6_times 20 = .ok (.iinc 4 1, 3) := by decide +kernel
theorem dX6_times_23 : decode cX6_times 23 = .ok (.goto (-20), 3) := by decide +kernel
theorem dX6_times_26 : decode cX6_times 26 = .ok (.iconst 0, 1) := by decide +kernel
theorem dX6_times_27 : decode cX6_times 27 = .ok (.istore 4, 2) := by decide +kernel
theorem dX6_times_29 : decode cX6_times 29 = .ok (.iload 4, 2) := by decide +kernel
theorem dX6_times_31 : decode cX6_times 31 = .ok (.aload_n 0, 1) := by decide +kernel
theorem dX6_times_32 : decode cX6_times 32 = .ok (.getfield 7, 3) := by decide +kernel
theorem dX6_times_35 : decode cX6_times 35 = .ok (.if_icmp .ge 229, 3) := by decide +kernel
theorem dX6_times_38 : decode cX6_times 38 = .ok (.aload_n 1, 1) := by decide +kernel
theorem dX6_times_39 : decode cX6_times 39 = .ok (.iload 4, 2) := by decide +kernel
theorem dX6_times_41 : decode cX6_times 41 = .ok (.laload, 1) := by decide +kernel
theorem dX6_times_42 : decode cX6_times 42 = .ok (.lstore 5, 2) := by decide +kernel
theorem dX6_times_44 : decode cX6_times 44 = .ok (.lconst 0, 1) := by decide +kernel
theorem dX6_times_45 : decode cX6_times 45 = .ok (.lstore 7, 2) := by decide +kernel
theorem dX6_times_47 : decode cX6_times 47 = .ok (.iconst 0, 1) := by decide +kernel
theorem dX6_times_48 : decode cX6_times 48 = .ok (.istore 9, 2) := by decide +kernel
theorem dX6_times_50 : decode cX6_times 50 = .ok (.iload 9, 2) := by decide +kernel
theorem dX6_times_52 : decode cX6_times 52 = .ok (.aload_n 0, 1) := by decide +kernel
theorem dX6_times_53 : decode cX6_times 53 = .ok (.getfield 7, 3) := by decide +kernel
theorem dX6_times_56 : decode cX6_times 56 = .ok (.if_icmp .ge 49, 3) := by decide +kernel
theorem dX6_times_59 : decode cX6_times 59 = .ok (.lload 7, 2) := by decide +kernel
theorem dX6_times_61 : decode cX6_times 61 = .ok (.lload 5, 2) := by decide +kernel
theorem dX6_times_63 : decode cX6_times 63 = .ok (.aload_n 2, 1) := by decide +kernel
theorem dX6_times_64 : decode cX6_times 64 = .ok (.iload 9, 2) := by decide +kernel
theorem dX6_times_66 : decode cX6_times 66 = .ok (.laload, 1) := by decide +kernel
theorem dX6_times_67 : decode cX6_times 67 = .ok (.lmul, 1) := by decide +kernel
theorem dX6_times_68 : decode cX6_times 68 = .ok (.aload_n 0, 1) := by decide +kernel
theorem dX6_times_69 : decode cX6_times 69 = .ok (.getfield 29, 3) := by decide +kernel
theorem dX6_times_72 : decode cX6_times 72 = .ok (.iload 9, 2) := by decide +kernel
theorem dX6_times_74 : decode cX6_times 74 = .ok (.laload, 1) := by decide +kernel
theorem dX6_times_75 : decode cX6_times 75 = .ok (.ladd, 1) := by decide +kernel
theorem dX6_times_76 : decode cX6_times 76 = .ok (.ladd, 1) := by decide +kernel
theorem dX6_times_77 : decode cX6_times 77 = .ok (.lstore 7, 2) := by decide +kernel
theorem dX6_times_79 : decode cX6_times 79 = .ok (.aload_n 0, 1) := by decide +kernel
theorem dX6_times_80 : decode cX6_times 80 = .ok (.getfield 29, 3) := by decide +kernel
theorem dX6_times_83 : decode cX6_times 83 = .ok (.iload 9, 2) := by decide +kernel
theorem dX6_times_85 : decode cX6_times 85 = .ok (.lload 7, 2) := by decide +kernel
theorem dX6_times_87 : decode cX6_times 87 = .ok (.ldc2_w 56, 3) := by decide +kernel
theorem dX6_times_90 : decode cX6_times 90 = .ok (.land, 1) := by decide +kernel
theorem dX6_times_91 : decode cX6_times 91 = .ok (.lastore, 1) := by decide +kernel
theorem dX6_times_92 : decode cX6_times 92 = .ok (.lload 7, 2) := by decide +kernel
theorem dX6_times_94 : decode cX6_times 94 = .ok (.bipush 32, 2) := by decide +kernel
theorem dX6_times_96 : decode cX6_times 96 = .ok (.lushr, 1) := by decide +kernel
theorem dX6_times_97 : decode cX6_times 97 = .ok (.lstore 7, 2) := by decide +kernel
theorem dX6_times_99 : decode cX6_times 99 = .ok (.iinc 9 1, 3) := by decide +kernel
theorem dX6_times_102 : decode cX6_times 102 = .ok (.goto (-52), 3) := by decide +kernel
theorem dX6_times_105 : decode cX6_times 105 = .ok (.aload_n 0, 1) := by decide +kernel
theorem dX6_times_106 : decode cX6_times 106 = .ok (.getfield 29, 3) := by decide +kernel
theorem dX6_times_109 : decode cX6_times 109 = .ok (.aload_n 0, 1) := by decide +kernel
theorem dX6_times_110 : decode cX6_times 110 = .ok (.getfield 7, 3) := by decide +kernel
theorem dX6_times_113 : decode cX6_times 113 = .ok (.laload, 1) := by decide +kernel
theorem dX6_times_114 : decode cX6_times 114 = .ok (.lload 7, 2) := by decide +kernel
theorem dX6_times_116 : decode cX6_times 116 = .ok (.ladd, 1) := by decide +kernel
theorem dX6_times_117 : decode cX6_times 117 = .ok (.lstore 9, 2) := by decide +kernel
theorem dX6_times_119 : decode cX6_times 119 = .ok (.aload_n 0, 1) := by decide +kernel
theorem dX6_times_120 : decode cX6_times 120 = .ok (.getfield 29, 3) := by decide +kernel
theorem dX6_times_123 : decode cX6_times 123 = .ok (.iconst 0, 1) := by decide +kernel
theorem dX6_times_124 : decode cX6_times 124 = .ok (.laload, 1) := by decide +kernel
theorem dX6_times_125 : decode cX6_times 125 = .ok (.aload_n 0, 1) := by decide +kernel
theorem dX6_times_126 : decode cX6_times 126 = .ok (.getfield 58, 3) := by decide +kernel
theorem dX6_times_129 : decode cX6_times 129 = .ok (.lmul, 1) := by decide +kernel
theorem dX6_times_130 : decode cX6_times 130 = .ok (.ldc2_w 56, 3) := by decide +kernel
theorem dX6_times_133 : decode cX6_times 133 = .ok (.land, 1) := by decide +kernel
theorem dX6_times_134 : decode cX6_times 134 = .ok (.lstore 5, 2) := by decide +kernel
theorem dX6_times_136 : decode cX6_times 136 = .ok (.lload 5, 2) := by decide +kernel
theorem dX6_times_138 : decode cX6_times 138 = .ok (.aload_n 0, 1) := by decide +kernel
theorem dX6_times_139 : decode cX6_times 139 = .ok (.getfield 13, 3) := by decide +kernel
theorem dX6_times_142 : decode cX6_times 142 = .ok (.iconst 0, 1) := by decide +kernel
theorem dX6_times_143 : decode cX6_times 143 = .ok (.laload, 1) := by decide +kernel
theorem dX6_times_144 : decode cX6_times 144 = .ok (.lmul, 1) := by decide +kernel
theorem dX6_times_145 : decode cX6_times 145 = .ok (.aload_n 0, 1) := by decide +kernel
theorem dX6_times_146 : decode cX6_times 146 = .ok (.getfield 29, 3) := by decide +kernel
theorem dX6_times_149 : decode cX6_times 149 = .ok (.iconst 0, 1) := by decide +kernel
theorem dX6_times_150 : decode cX6_times 150 = .ok (.laload, 1) := by decide +kernel
theorem dX6_times_151 : decode cX6_times 151 = .ok (.ladd, 1) := by decide +kernel
theorem dX6_times_152 : decode cX6_times 152 = .ok (.bipush 32, 2) := by decide +kernel
theorem dX6_times_154 : decode cX6_times 154 = .ok (.lushr, 1) := by decide +kernel
theorem dX6_times_155 : decode cX6_times 155 = .ok (.lstore 7, 2) := by decide +kernel
theorem dX6_times_157 : decode cX6_times 157 = .ok (.iconst 1, 1) := by decide +kernel
theorem dX6_times_158 : decode cX6_times 158 = .ok (.istore 11, 2) := by decide +kernel
theorem dX6_times_160 : decode cX6_times 160 = .ok (.iload 11, 2) := by decide +kernel
theorem dX6_times_162 : decode cX6_times 162 = .ok (.aload_n 0, 1) := by decide +kernel
theorem dX6_times_163 : decode cX6_times 163 = .ok (.getfield 7, 3) := by decide +kernel
theorem dX6_times_166 : decode cX6_times 166 = .ok (.if_icmp .ge 54, 3) := by decide +kernel
theorem dX6_times_169 : decode cX6_times 169 = .ok (.lload 7, 2) := by decide +kernel
theorem dX6_times_171 : decode cX6_times 171 = .ok (.lload 5, 2) := by decide +kernel
theorem dX6_times_173 : decode cX6_times 173 = .ok (.aload_n 0, 1) := by decide +kernel
theorem dX6_times_174 : decode cX6_times 174 = .ok (.getfield 13, 3) := by decide +kernel
theorem dX6_times_177 : decode cX6_times 177 = .ok (.iload 11, 2) := by decide +kernel
theorem dX6_times_179 : decode cX6_times 179 = .ok (.laload, 1) := by decide +kernel
theorem dX6_times_180 : decode cX6_times 180 = .ok (.lmul, 1) := by decide +kernel
theorem dX6_times_181 : decode cX6_times 181 = .ok (.aload_n 0, 1) := by decide +kernel
theorem dX6_times_182 : decode cX6_times 182 = .ok (.getfield 29, 3) := by decide +kernel
theorem dX6_times_185 : decode cX6_times 185 = .ok (.iload 11, 2) := by decide +kernel
theorem dX6_times_187 : decode cX6_times 187 = .ok (.laload, 1) := by decide +kernel
theorem dX6_times_188 : decode cX6_times 188 = .ok (.ladd, 1) := by decide +kernel
theorem dX6_times_189 : decode cX6_times 189 = .ok (.ladd, 1) := by decide +kernel
theorem dX6_times_190 : decode cX6_times 190 = .ok (.lstore 7, 2) := by decide +kernel
theorem dX6_times_192 : decode cX6_times 192 = .ok (.aload_n 0, 1) := by decide +kernel
theorem dX6_times_193 : decode cX6_times 193 = .ok (.getfield 29, 3) := by decide +kernel
theorem dX6_times_196 : decode cX6_times 196 = .ok (.iload 11, 2) := by decide +kernel
theorem dX6_times_198 : decode cX6_times 198 = .ok (.iconst 1, 1) := by decide +kernel
theorem dX6_times_199 : decode cX6_times 199 = .ok (.isub, 1) := by decide +kernel
theorem dX6_times_200 : decode cX6_times 200 = .ok (.lload 7, 2) := by decide +kernel
theorem dX6_times_202 : decode cX6_times 202 = .ok (.ldc2_w 56, 3) := by decide +kernel
theorem dX6_times_205 : decode cX6_times 205 = .ok (.land, 1) := by decide +kernel
theorem dX6_times_206 : decode cX6_times 206 = .ok (.lastore, 1) := by decide +kernel
theorem dX6_times_207 : decode cX6_times 207 = .ok (.lload 7, 2) := by decide +kernel
theorem dX6_times_209 : decode cX6_times 209 = .ok (.bipush 32, 2) := by decide +kernel
theorem dX6_times_211 : decode cX6_times 211 = .ok (.lushr, 1) := by decide +kernel
theorem dX6_times_212 : decode cX6_times 212 = .ok (.lstore 7, 2) := by decide +kernel
theorem dX6_times_214 : decode cX6_times 214 = .ok (.iinc 11 1, 3) := by decide +kernel
theorem dX6_times_217 : decode cX6_times 217 = .ok (.goto (-57), 3) := by decide +kernel
theorem dX6_times_220 : decode cX6_times 220 = .ok (.lload 9, 2) := by decide +kernel
theorem dX6_times_222 : decode cX6_times 222 = .ok (.lload 7, 2) := by decide +kernel
theorem dX6_times_224 : decode cX6_times 224 = .ok (.ladd, 1) := by decide +kernel
theorem dX6_times_225 : decode cX6_times 225 = .ok (.lstore 9, 2) := by decide +kernel
theorem dX6_times_227 : decode cX6_times 227 = .ok (.aload_n 0, 1) := by decide +kernel
theorem dX6_times_228 : decode cX6_times 228 = .ok (.getfield 29, 3) := by decide +kernel
theorem dX6_times_231 : decode cX6_times 231 = .ok (.aload_n 0, 1) := by decide +kernel
theorem dX6_times_232 : decode cX6_times 232 = .ok (.getfield 7, 3) := by decide +kernel
theorem dX6_times_235 : decode cX6_times 235 = .ok (.iconst 1, 1) := by decide +kernel
theorem dX6_times_236 : decode cX6_times 236 = .ok (.isub, 1) := by decide +kernel
theorem dX6_times_237 : decode cX6_times 237 = .ok (.lload 9, 2) := by decide +kernel
theorem dX6_times_239 : decode cX6_times 239 = .ok (.ldc2_w 56, 3) := by decide +kernel
theorem dX6_times_242 : decode cX6_times 242 = .ok (.land, 1) := by decide +kernel
theorem dX6_times_243 : decode cX6_times 243 = .ok (.lastore, 1) := by decide +kernel
theorem dX6_times_244 : decode cX6_times 244 = .ok (.aload_n 0, 1) := by decide +kernel
theorem dX6_times_245 : decode cX6_times 245 = .ok (.getfield 29, 3) := by decide +kernel
theorem dX6_times_248 : decode cX6_times 248 = .ok (.aload_n 0, 1) := by decide +kernel
theorem dX6_times_249 : decode cX6_times 249 = .ok (.getfield 7, 3) := by decide +kernel
theorem dX6_times_252 : decode cX6_times 252 = .ok (.lload 9, 2) := by decide +kernel
theorem dX6_times_254 : decode cX6_times 254 = .ok (.bipush 32, 2) := by decide +kernel
theorem dX6_times_256 : decode cX6_times 256 = .ok (.lushr, 1) := by decide +kernel
theorem dX6_times_257 : decode cX6_times 257 = .ok (.lastore, 1) := by decide +kernel
theorem dX6_times_258 : decode cX6_times 258 = .ok (.iinc 4 1, 3) := by decide +kernel
theorem dX6_times_261 : decode cX6_times 261 = .ok (.goto (-232), 3) := by decide +kernel
theorem dX6_times_264 : decode cX6_times 264 = .ok (.aload_n 0, 1) := by decide +kernel
theorem dX6_times_265 : decode cX6_times 265 = .ok (.aload_n 3, 1) := by decide +kernel
theorem dX6_times_266 : decode cX6_times 266 = .ok (.invokevirtual 73, 3) := by decide +kernel
theorem dX6_times_269 : decode cX6_times 269 = .ok (.return_, 1) := by decide +kernel
abbrev rmX6_times : Room := { frames := 2, cells := 0, slots := 0, locals := 84 }
set_option maxHeartbeats 4000000 in
set_option maxRecDepth 100000 in
theorem wB_X6_times_160 {G : mG} {F : Nat} {x : mXT} {sz : Nat} {M0 : mM} (X : mCX G RX6 cX6_times 12 none "times" rmX6_times x) (hQ : mQV x M0 (sz, 0, 0)) (r29 : Nat → Nat → Nat → Nat → Int32 → mM → Option mM) (hr29 : ∀ (l0 : Nat) (l1 : Nat) (l2 : Nat) (l3 : Nat) (l4 : Int32) (M : mM), r29 l0 l1 l2 l3 l4 M = some M0 → WW x (sz, 0, 0) M 29 [(0, .ref l0), (1, .ref l1), (2, .ref l2), (3, .ref l3), (4, .int l4)] []) : ∀ (n : Nat) (l0 : Nat) (l1 : Nat) (l2 : Nat) (l3 : Nat) (l4 : Int32) (l5 : Int64) (l7 : Int64) (l9 : Int64) (l11 : Int32) (M : mM), B_X6_times_160 G F r29 n l0 l1 l2 l3 l4 l5 l7 l9 l11 M = some M0 → WW x (sz, 0, 0) M 160 [(0, .ref l0), (1, .ref l1), (2, .ref l2), (3, .ref l3), (4, .int l4), (5, .long l5), (7, .long l7), (9, .long l9), (11, .int l11)] [] := by
  intro n
  induction n with
  | zero =>
    intro l0 l1 l2 l3 l4 l5 l7 l9 l11 M h
    exact nomatch (show (none : Option mM) = some M0 from h)
  | succ n ih =>
    intro l0 l1 l2 l3 l4 l5 l7 l9 l11 M h
    rw [B_X6_times_160] at h
    refine ww_iload 160 X dX6_times_160 8 rfl ?_
    refine ww_aload_n 162 X dX6_times_162 0 rfl rfl ?_
    obtain ⟨v163, e163, h⟩ := bO_some h
    refine ww_getI 163 X dX6_times_163 fG_X6_7 e163 ?_
    refine ww_icmp_ge 166 220 X dX6_times_166 (by decide) (fun q => ?_) (fun q => ?_)
    · replace h := (if_pos q).symm.trans h
      refine ww_lload 220 X dX6_times_220 7 rfl ?_
      refine ww_lload 222 X dX6_times_222 6 rfl ?_
      refine ww_ladd 224 X dX6_times_224 ?_
      refine ww_lstore 225 X dX6_times_225 (lv' := [(0, .ref l0), (1, .ref l1), (2, .ref l2), (3, .ref l3), (4, .int l4), (5, .long l5), (7, .long l7), (9, .long (l9 + l7)), (11, .int l11)]) (by decide) [1, 2, 3, 4, 5, 6, 7, 0, 8] rfl ?_
      refine ww_aload_n 227 X dX6_times_227 0 rfl rfl ?_
      obtain ⟨v228, e228, h⟩ := bO_some h
      refine ww_getR 228 X dX6_times_228 fG_X6_29 e228 ?_
      refine ww_aload_n 231 X dX6_times_231 0 rfl rfl ?_
      obtain ⟨v232, e232, h⟩ := bO_some h
      refine ww_getI 232 X dX6_times_232 fG_X6_7 e232 ?_
      refine ww_iconst 235 X (v := (1 : Int32)) dX6_times_235 (by decide) ?_
      refine ww_isub 236 X dX6_times_236 ?_
      refine ww_lload 237 X dX6_times_237 7 rfl ?_
      refine ww_ldc2 239 X (v := (4294967295 : Int64)) dX6_times_239 kL_X6_56 ?_
      refine ww_land 242 X dX6_times_242 ?_
      obtain ⟨M243, e243, h⟩ := bO_some h
      refine ww_last 243 X dX6_times_243 e243 ?_
      refine ww_aload_n 244 X dX6_times_244 0 rfl rfl ?_
      obtain ⟨v245, e245, h⟩ := bO_some h
      refine ww_getR 245 X dX6_times_245 fG_X6_29 e245 ?_
      refine ww_aload_n 248 X dX6_times_248 0 rfl rfl ?_
      obtain ⟨v249, e249, h⟩ := bO_some h
      refine ww_getI 249 X dX6_times_249 fG_X6_7 e249 ?_
      refine ww_lload 252 X dX6_times_252 7 rfl ?_
      refine ww_bipush 254 X (v := (32 : Int32)) dX6_times_254 (by decide) ?_
      refine ww_lushr 256 X dX6_times_256 ?_
      obtain ⟨M257, e257, h⟩ := bO_some h
      refine ww_last 257 X dX6_times_257 e257 ?_
      refine ww_iinc 258 X dX6_times_258 (lv' := [(0, .ref l0), (1, .ref l1), (2, .ref l2), (3, .ref l3), (4, .int (l4 + 1)), (5, .long l5), (7, .long l7), (9, .long (l9 + l7)), (11, .int l11)]) 4 rfl rfl (by decide) [1, 2, 3, 4, 0, 5, 6, 7, 8] rfl ?_
      refine ww_goto 261 29 X dX6_times_261 (by decide) ?_
      exact ww_sub [0, 1, 2, 3, 4] rfl (hr29 _ _ _ _ _ _ h)
    · replace h := (if_neg q).symm.trans h
      refine ww_lload 169 X dX6_times_169 6 rfl ?_
      refine ww_lload 171 X dX6_times_171 5 rfl ?_
      refine ww_aload_n 173 X dX6_times_173 0 rfl rfl ?_
      obtain ⟨v174, e174, h⟩ := bO_some h
      refine ww_getR 174 X dX6_times_174 fG_X6_13 e174 ?_
      refine ww_iload 177 X dX6_times_177 8 rfl ?_
      obtain ⟨v179, e179, h⟩ := bO_some h
      refine ww_lald 179 X dX6_times_179 e179 ?_
      refine ww_lmul 180 X dX6_times_180 ?_
      refine ww_aload_n 181 X dX6_times_181 0 rfl rfl ?_
      obtain ⟨v182, e182, h⟩ := bO_some h
      refine ww_getR 182 X dX6_times_182 fG_X6_29 e182 ?_
      refine ww_iload 185 X dX6_times_185 8 rfl ?_
      obtain ⟨v187, e187, h⟩ := bO_some h
      refine ww_lald 187 X dX6_times_187 e187 ?_
      refine ww_ladd 188 X dX6_times_188 ?_
      refine ww_ladd 189 X dX6_times_189 ?_
      refine ww_lstore 190 X dX6_times_190 (lv' := [(0, .ref l0), (1, .ref l1), (2, .ref l2), (3, .ref l3), (4, .int l4), (5, .long l5), (7, .long (l7 + ((l5 * v179) + v187))), (9, .long l9), (11, .int l11)]) (by decide) [1, 2, 3, 4, 5, 6, 0, 7, 8] rfl ?_
      refine ww_aload_n 192 X dX6_times_192 0 rfl rfl ?_
      obtain ⟨v193, e193, h⟩ := bO_some h
      refine ww_getR 193 X dX6_times_193 fG_X6_29 e193 ?_
      refine ww_iload 196 X dX6_times_196 8 rfl ?_
      refine ww_iconst 198 X (v := (1 : Int32)) dX6_times_198 (by decide) ?_
      refine ww_isub 199 X dX6_times_199 ?_
      refine ww_lload 200 X dX6_times_200 6 rfl ?_
      refine ww_ldc2 202 X (v := (4294967295 : Int64)) dX6_times_202 kL_X6_56 ?_
      refine ww_land 205 X dX6_times_205 ?_
      obtain ⟨M206, e206, h⟩ := bO_some h
      refine ww_last 206 X dX6_times_206 e206 ?_
      refine ww_lload 207 X dX6_times_207 6 rfl ?_
      refine ww_bipush 209 X (v := (32 : Int32)) dX6_times_209 (by decide) ?_
      refine ww_lushr 211 X dX6_times_211 ?_
      refine ww_lstore 212 X dX6_times_212 (lv' := [(0, .ref l0), (1, .ref l1), (2, .ref l2), (3, .ref l3), (4, .int l4), (5, .long l5), (7, .long (ushL (l7 + ((l5 * v179) + v187)) (32 : Int32))), (9, .long l9), (11, .int l11)]) (by decide) [1, 2, 3, 4, 5, 6, 0, 7, 8] rfl ?_
      refine ww_iinc 214 X dX6_times_214 (lv' := [(0, .ref l0), (1, .ref l1), (2, .ref l2), (3, .ref l3), (4, .int l4), (5, .long l5), (7, .long (ushL (l7 + ((l5 * v179) + v187)) (32 : Int32))), (9, .long l9), (11, .int (l11 + 1))]) 8 rfl rfl (by decide) [1, 2, 3, 4, 5, 6, 7, 8, 0] rfl ?_
      refine ww_goto 217 160 X dX6_times_217 (by decide) ?_
      exact (ih _ _ _ _ _ _ _ _ _ _ h)
set_option maxHeartbeats 4000000 in
set_option maxRecDepth 100000 in
theorem wB_X6_times_50 {G : mG} {F : Nat} {x : mXT} {sz : Nat} {M0 : mM} (X : mCX G RX6 cX6_times 12 none "times" rmX6_times x) (hQ : mQV x M0 (sz, 0, 0)) (r29 : Nat → Nat → Nat → Nat → Int32 → mM → Option mM) (hr29 : ∀ (l0 : Nat) (l1 : Nat) (l2 : Nat) (l3 : Nat) (l4 : Int32) (M : mM), r29 l0 l1 l2 l3 l4 M = some M0 → WW x (sz, 0, 0) M 29 [(0, .ref l0), (1, .ref l1), (2, .ref l2), (3, .ref l3), (4, .int l4)] []) : ∀ (n : Nat) (l0 : Nat) (l1 : Nat) (l2 : Nat) (l3 : Nat) (l4 : Int32) (l5 : Int64) (l7 : Int64) (l9 : Int32) (M : mM), B_X6_times_50 G F r29 n l0 l1 l2 l3 l4 l5 l7 l9 M = some M0 → WW x (sz, 0, 0) M 50 [(0, .ref l0), (1, .ref l1), (2, .ref l2), (3, .ref l3), (4, .int l4), (5, .long l5), (7, .long l7), (9, .int l9)] [] := by
  intro n
  induction n with
  | zero =>
    intro l0 l1 l2 l3 l4 l5 l7 l9 M h
    exact nomatch (show (none : Option mM) = some M0 from h)
  | succ n ih =>
    intro l0 l1 l2 l3 l4 l5 l7 l9 M h
    rw [B_X6_times_50] at h
    refine ww_iload 50 X dX6_times_50 7 rfl ?_
    refine ww_aload_n 52 X dX6_times_52 0 rfl rfl ?_
    obtain ⟨v53, e53, h⟩ := bO_some h
    refine ww_getI 53 X dX6_times_53 fG_X6_7 e53 ?_
    refine ww_icmp_ge 56 105 X dX6_times_56 (by decide) (fun q => ?_) (fun q => ?_)
    · replace h := (if_pos q).symm.trans h
      refine ww_aload_n 105 X dX6_times_105 0 rfl rfl ?_
      obtain ⟨v106, e106, h⟩ := bO_some h
      refine ww_getR 106 X dX6_times_106 fG_X6_29 e106 ?_
      refine ww_aload_n 109 X dX6_times_109 0 rfl rfl ?_
      obtain ⟨v110, e110, h⟩ := bO_some h
      refine ww_getI 110 X dX6_times_110 fG_X6_7 e110 ?_
      obtain ⟨v113, e113, h⟩ := bO_some h
      refine ww_lald 113 X dX6_times_113 e113 ?_
      refine ww_lload 114 X dX6_times_114 6 rfl ?_
      refine ww_ladd 116 X dX6_times_116 ?_
      refine ww_lstore 117 X dX6_times_117 (lv' := [(0, .ref l0), (1, .ref l1), (2, .ref l2), (3, .ref l3), (4, .int l4), (5, .long l5), (7, .long l7), (9, .long (v113 + l7))]) (by decide) [1, 2, 3, 4, 5, 6, 7, 0] rfl ?_
      refine ww_aload_n 119 X dX6_times_119 0 rfl rfl ?_
      obtain ⟨v120, e120, h⟩ := bO_some h
      refine ww_getR 120 X dX6_times_120 fG_X6_29 e120 ?_
      refine ww_iconst 123 X (v := (0 : Int32)) dX6_times_123 (by decide) ?_
      obtain ⟨v124, e124, h⟩ := bO_some h
      refine ww_lald 124 X dX6_times_124 e124 ?_
      refine ww_aload_n 125 X dX6_times_125 0 rfl rfl ?_
      obtain ⟨v126, e126, h⟩ := bO_some h
      refine ww_getL 126 X dX6_times_126 fG_X6_58 e126 ?_
      refine ww_lmul 129 X dX6_times_129 ?_
      refine ww_ldc2 130 X (v := (4294967295 : Int64)) dX6_times_130 kL_X6_56 ?_
      refine ww_land 133 X dX6_times_133 ?_
      refine ww_lstore 134 X dX6_times_134 (lv' := [(0, .ref l0), (1, .ref l1), (2, .ref l2), (3, .ref l3), (4, .int l4), (5, .long ((v124 * v126) &&& (4294967295 : Int64))), (7, .long l7), (9, .long (v113 + l7))]) (by decide) [1, 2, 3, 4, 5, 0, 6, 7] rfl ?_
      refine ww_lload 136 X dX6_times_136 5 rfl ?_
      refine ww_aload_n 138 X dX6_times_138 0 rfl rfl ?_
      obtain ⟨v139, e139, h⟩ := bO_some h
      refine ww_getR 139 X dX6_times_139 fG_X6_13 e139 ?_
      refine ww_iconst 142 X (v := (0 : Int32)) dX6_times_142 (by decide) ?_
      obtain ⟨v143, e143, h⟩ := bO_some h
      refine ww_lald 143 X dX6_times_143 e143 ?_
      refine ww_lmul 144 X dX6_times_144 ?_
      refine ww_aload_n 145 X dX6_times_145 0 rfl rfl ?_
      obtain ⟨v146, e146, h⟩ := bO_some h
      refine ww_getR 146 X dX6_times_146 fG_X6_29 e146 ?_
      refine ww_iconst 149 X (v := (0 : Int32)) dX6_times_149 (by decide) ?_
      obtain ⟨v150, e150, h⟩ := bO_some h
      refine ww_lald 150 X dX6_times_150 e150 ?_
      refine ww_ladd 151 X dX6_times_151 ?_
      refine ww_bipush 152 X (v := (32 : Int32)) dX6_times_152 (by decide) ?_
      refine ww_lushr 154 X dX6_times_154 ?_
      refine ww_lstore 155 X dX6_times_155 (lv' := [(0, .ref l0), (1, .ref l1), (2, .ref l2), (3, .ref l3), (4, .int l4), (5, .long ((v124 * v126) &&& (4294967295 : Int64))), (7, .long (ushL ((((v124 * v126) &&& (4294967295 : Int64)) * v143) + v150) (32 : Int32))), (9, .long (v113 + l7))]) (by decide) [1, 2, 3, 4, 5, 6, 0, 7] rfl ?_
      refine ww_iconst 157 X (v := (1 : Int32)) dX6_times_157 (by decide) ?_
      refine ww_istore 158 X dX6_times_158 (lv' := [(0, .ref l0), (1, .ref l1), (2, .ref l2), (3, .ref l3), (4, .int l4), (5, .long ((v124 * v126) &&& (4294967295 : Int64))), (7, .long (ushL ((((v124 * v126) &&& (4294967295 : Int64)) * v143) + v150) (32 : Int32))), (9, .long (v113 + l7)), (11, .int (1 : Int32))]) (by decide) [1, 2, 3, 4, 5, 6, 7, 8, 0] rfl ?_
      exact (wB_X6_times_160 X hQ _ hr29 F _ _ _ _ _ _ _ _ _ _ h)
    · replace h := (if_neg q).symm.trans h
      refine ww_lload 59 X dX6_times_59 6 rfl ?_
      refine ww_lload 61 X dX6_times_61 5 rfl ?_
      refine ww_aload_n 63 X dX6_times_63 2 rfl rfl ?_
      refine ww_iload 64 X dX6_times_64 7 rfl ?_
      obtain ⟨v66, e66, h⟩ := bO_some h
      refine ww_lald 66 X dX6_times_66 e66 ?_
      refine ww_lmul 67 X dX6_times_67 ?_
      refine ww_aload_n 68 X dX6_times_68 0 rfl rfl ?_
      obtain ⟨v69, e69, h⟩ := bO_some h
      refine ww_getR 69 X dX6_times_69 fG_X6_29 e69 ?_
      refine ww_iload 72 X dX6_times_72 7 rfl ?_
      obtain ⟨v74, e74, h⟩ := bO_some h
      refine ww_lald 74 X dX6_times_74 e74 ?_
      refine ww_ladd 75 X dX6_times_75 ?_
      refine ww_ladd 76 X dX6_times_76 ?_
      refine ww_lstore 77 X dX6_times_77 (lv' := [(0, .ref l0), (1, .ref l1), (2, .ref l2), (3, .ref l3), (4, .int l4), (5, .long l5), (7, .long (l7 + ((l5 * v66) + v74))), (9, .int l9)]) (by decide) [1, 2, 3, 4, 5, 6, 0, 7] rfl ?_
      refine ww_aload_n 79 X dX6_times_79 0 rfl rfl ?_
      obtain ⟨v80, e80, h⟩ := bO_some h
      refine ww_getR 80 X dX6_times_80 fG_X6_29 e80 ?_
      refine ww_iload 83 X dX6_times_83 7 rfl ?_
      refine ww_lload 85 X dX6_times_85 6 rfl ?_
      refine ww_ldc2 87 X (v := (4294967295 : Int64)) dX6_times_87 kL_X6_56 ?_
      refine ww_land 90 X dX6_times_90 ?_
      obtain ⟨M91, e91, h⟩ := bO_some h
      refine ww_last 91 X dX6_times_91 e91 ?_
      refine ww_lload 92 X dX6_times_92 6 rfl ?_
      refine ww_bipush 94 X (v := (32 : Int32)) dX6_times_94 (by decide) ?_
      refine ww_lushr 96 X dX6_times_96 ?_
      refine ww_lstore 97 X dX6_times_97 (lv' := [(0, .ref l0), (1, .ref l1), (2, .ref l2), (3, .ref l3), (4, .int l4), (5, .long l5), (7, .long (ushL (l7 + ((l5 * v66) + v74)) (32 : Int32))), (9, .int l9)]) (by decide) [1, 2, 3, 4, 5, 6, 0, 7] rfl ?_
      refine ww_iinc 99 X dX6_times_99 (lv' := [(0, .ref l0), (1, .ref l1), (2, .ref l2), (3, .ref l3), (4, .int l4), (5, .long l5), (7, .long (ushL (l7 + ((l5 * v66) + v74)) (32 : Int32))), (9, .int (l9 + 1))]) 7 rfl rfl (by decide) [1, 2, 3, 4, 5, 6, 7, 0] rfl ?_
      refine ww_goto 102 50 X dX6_times_102 (by decide) ?_
      exact (ih _ _ _ _ _ _ _ _ _ h)
set_option maxHeartbeats 4000000 in
set_option maxRecDepth 100000 in
theorem wB_X6_times_29 {G : mG} {F : Nat} {x : mXT} {sz : Nat} {M0 : mM} (X : mCX G RX6 cX6_times 12 none "times" rmX6_times x) (hQ : mQV x M0 (sz, 0, 0)) : ∀ (n : Nat) (l0 : Nat) (l1 : Nat) (l2 : Nat) (l3 : Nat) (l4 : Int32) (M : mM), B_X6_times_29 G F n l0 l1 l2 l3 l4 M = some M0 → WW x (sz, 0, 0) M 29 [(0, .ref l0), (1, .ref l1), (2, .ref l2), (3, .ref l3), (4, .int l4)] [] := by
  intro n
  induction n with
  | zero =>
    intro l0 l1 l2 l3 l4 M h
    exact nomatch (show (none : Option mM) = some M0 from h)
  | succ n ih =>
    intro l0 l1 l2 l3 l4 M h
    rw [B_X6_times_29] at h
    refine ww_iload 29 X dX6_times_29 4 rfl ?_
    refine ww_aload_n 31 X dX6_times_31 0 rfl rfl ?_
    obtain ⟨v32, e32, h⟩ := bO_some h
    refine ww_getI 32 X dX6_times_32 fG_X6_7 e32 ?_
    refine ww_icmp_ge 35 264 X dX6_times_35 (by decide) (fun q => ?_) (fun q => ?_)
    · replace h := (if_pos q).symm.trans h
      refine ww_aload_n 264 X dX6_times_264 0 rfl rfl ?_
      refine ww_aload_n 265 X dX6_times_265 3 rfl rfl ?_
      obtain ⟨_, f266, h⟩ := bO_some h
      obtain ⟨M266, e266, h⟩ := bO_some h
      refine ww_callVV0 266 X dX6_times_266 mY_X6_settle mL_X6_73 (rcv_spec f266) ⟨_, _, rfl⟩ (by decide) (As := [.ref l3]) (rest := []) rfl rfl ⟨Nat.le_of_ble_eq_true rfl, Nat.le_of_ble_eq_true rfl⟩ (Nat.le_of_ble_eq_true rfl) (fun l D A => c_X6_settle l D A e266) ?_
      exact ww_vretE 269 X hQ dX6_times_269 h
    · replace h := (if_neg q).symm.trans h
      refine ww_aload_n 38 X dX6_times_38 1 rfl rfl ?_
      refine ww_iload 39 X dX6_times_39 4 rfl ?_
      obtain ⟨v41, e41, h⟩ := bO_some h
      refine ww_lald 41 X dX6_times_41 e41 ?_
      refine ww_lstore 42 X dX6_times_42 (lv' := [(0, .ref l0), (1, .ref l1), (2, .ref l2), (3, .ref l3), (4, .int l4), (5, .long v41)]) (by decide) [1, 2, 3, 4, 5, 0] rfl ?_
      refine ww_lconst 44 X (v := (0 : Int64)) dX6_times_44 (by decide) ?_
      refine ww_lstore 45 X dX6_times_45 (lv' := [(0, .ref l0), (1, .ref l1), (2, .ref l2), (3, .ref l3), (4, .int l4), (5, .long v41), (7, .long (0 : Int64))]) (by decide) [1, 2, 3, 4, 5, 6, 0] rfl ?_
      refine ww_iconst 47 X (v := (0 : Int32)) dX6_times_47 (by decide) ?_
      refine ww_istore 48 X dX6_times_48 (lv' := [(0, .ref l0), (1, .ref l1), (2, .ref l2), (3, .ref l3), (4, .int l4), (5, .long v41), (7, .long (0 : Int64)), (9, .int (0 : Int32))]) (by decide) [1, 2, 3, 4, 5, 6, 7, 0] rfl ?_
      exact (wB_X6_times_50 X hQ _ ih F _ _ _ _ _ _ _ _ _ h)
set_option maxHeartbeats 4000000 in
set_option maxRecDepth 100000 in
theorem wB_X6_times_3 {G : mG} {F : Nat} {x : mXT} {sz : Nat} {M0 : mM} (X : mCX G RX6 cX6_times 12 none "times" rmX6_times x) (hQ : mQV x M0 (sz, 0, 0)) : ∀ (n : Nat) (l0 : Nat) (l1 : Nat) (l2 : Nat) (l3 : Nat) (l4 : Int32) (M : mM), B_X6_times_3 G F n l0 l1 l2 l3 l4 M = some M0 → WW x (sz, 0, 0) M 3 [(0, .ref l0), (1, .ref l1), (2, .ref l2), (3, .ref l3), (4, .int l4)] [] := by
  intro n
  induction n with
  | zero =>
    intro l0 l1 l2 l3 l4 M h
    exact nomatch (show (none : Option mM) = some M0 from h)
  | succ n ih =>
    intro l0 l1 l2 l3 l4 M h
    rw [B_X6_times_3] at h
    refine ww_iload 3 X dX6_times_3 4 rfl ?_
    refine ww_aload_n 5 X dX6_times_5 0 rfl rfl ?_
    obtain ⟨v6, e6, h⟩ := bO_some h
    refine ww_getI 6 X dX6_times_6 fG_X6_7 e6 ?_
    refine ww_icmp_gt 9 26 X dX6_times_9 (by decide) (fun q => ?_) (fun q => ?_)
    · replace h := (if_pos q).symm.trans h
      refine ww_iconst 26 X (v := (0 : Int32)) dX6_times_26 (by decide) ?_
      refine ww_istore 27 X dX6_times_27 (lv' := [(0, .ref l0), (1, .ref l1), (2, .ref l2), (3, .ref l3), (4, .int (0 : Int32))]) (by decide) [1, 2, 3, 4, 0] rfl ?_
      exact (wB_X6_times_29 X hQ F _ _ _ _ _ _ h)
    · replace h := (if_neg q).symm.trans h
      refine ww_aload_n 12 X dX6_times_12 0 rfl rfl ?_
      obtain ⟨v13, e13, h⟩ := bO_some h
      refine ww_getR 13 X dX6_times_13 fG_X6_29 e13 ?_
      refine ww_iload 16 X dX6_times_16 4 rfl ?_
      refine ww_lconst 18 X (v := (0 : Int64)) dX6_times_18 (by decide) ?_
      obtain ⟨M19, e19, h⟩ := bO_some h
      refine ww_last 19 X dX6_times_19 e19 ?_
      refine ww_iinc 20 X dX6_times_20 (lv' := [(0, .ref l0), (1, .ref l1), (2, .ref l2), (3, .ref l3), (4, .int (l4 + 1))]) 4 rfl rfl (by decide) [1, 2, 3, 4, 0] rfl ?_
      refine ww_goto 23 3 X dX6_times_23 (by decide) ?_
      exact (ih _ _ _ _ _ _ h)
set_option maxHeartbeats 4000000 in
set_option maxRecDepth 100000 in
theorem wP_X6_times {G : mG} {F : Nat} {x : mXT} {sz : Nat} {M0 : mM} (X : mCX G RX6 cX6_times 12 none "times" rmX6_times x) (hQ : mQV x M0 (sz, 0, 0)) {l0 : Nat} {l1 : Nat} {l2 : Nat} {l3 : Nat} {M : mM} (h : P_X6_times G F l0 l1 l2 l3 M = some M0) : WW x (sz, 0, 0) M 0 [(0, .ref l0), (1, .ref l1), (2, .ref l2), (3, .ref l3)] [] := by
  unfold P_X6_times at h
  refine ww_iconst 0 X (v := (0 : Int32)) dX6_times_0 (by decide) ?_
  refine ww_istore 1 X dX6_times_1 (lv' := [(0, .ref l0), (1, .ref l1), (2, .ref l2), (3, .ref l3), (4, .int (0 : Int32))]) (by decide) [1, 2, 3, 4, 0] rfl ?_
  exact (wB_X6_times_3 X hQ F _ _ _ _ _ _ h)
theorem c_X6_times {G : mG} {F sz : Nat} {M0 : mM} (l : Launch) (D : mD) (A : Nat → Prop) {l0 : Nat} {l1 : Nat} {l2 : Nat} {l3 : Nat} {M : mM} (h : P_X6_times G F l0 l1 l2 l3 M = some M0) : mMetV l D G A yX6_times cX6_times 12 none 2 84 0 0 [.ref l0, .ref l1, .ref l2, .ref l3] M sz M0 sz := mMetV_of l D G A (by decide) (Nat.le_of_ble_eq_true rfl) (fun x X hQ => wP_X6_times X hQ h)
/-! SealedTokens$Modulus.become(LSealedTokens$Bytes;)V -/
theorem dX6_become_0 : decode cX6_become 0 = .ok (.aload_n 0, 1) := by decide +kernel
theorem dX6_become_1 : decode cX6_become 1 = .ok (.iconst 1, 1) := by decide +kernel
theorem dX6_become_2 : decode cX6_become 2 = .ok (.aload_n 1, 1) := by decide +kernel
theorem dX6_become_3 : decode cX6_become 3 = .ok (.getfield 32, 3) := by decide +kernel
theorem dX6_become_6 : decode cX6_become 6 = .ok (.iconst 3, 1) := by decide +kernel
theorem dX6_become_7 : decode cX6_become 7 = .ok (.iadd, 1) := by decide +kernel
theorem dX6_become_8 : decode cX6_become 8 = .ok (.iconst 4, 1) := by decide +kernel
theorem dX6_become_9 : decode cX6_become 9 = .ok (.idiv, 1) := by decide +kernel
theorem dX6_become_10 : decode cX6_become 10 = .ok (.bipush 32, 2) := by decide +kernel
theorem dX6_become_12 : decode cX6_become 12 = .ok (.invokestatic 41, 3) := by decide +kernel
theorem dX6_become_15 : decode cX6_become 15 = .ok (.invokestatic 47, 3) := by decide +kernel
theorem dX6_become_18 : decode cX6_become 18 = .ok (.putfield 7, 3) := by decide +kernel
theorem dX6_become_21 : decode cX6_become 21 = .ok (.iconst 0, 1) := by decide +kernel
theorem dX6_become_22 : decode cX6_become 22 = .ok (.istore_n 2, 1) := by decide +kernel
theorem dX6_become_23 : decode cX6_become 23 = .ok (.iload_n 2, 1) := by decide +kernel
theorem dX6_become_24 : decode cX6_become 24 = .ok (.aload_n 0, 1) := by decide +kernel
theorem dX6_become_25 : decode cX6_become 25 = .ok (.getfield 7, 3) := by decide +kernel
theorem dX6_become_28 : decode cX6_become 28 = .ok (.if_icmp .ge 43, 3) := by decide +kernel
theorem dX6_become_31 : decode cX6_become 31 = .ok (.aload_n 0, 1) := by decide +kernel
theorem dX6_become_32 : decode cX6_become 32 = .ok (.getfield 13, 3) := by decide +kernel
theorem dX6_become_35 : decode cX6_become 35 = .ok (.iload_n 2, 1) := by decide +kernel
theorem dX6_become_36 : decode cX6_become 36 = .ok (.lconst 0, 1) := by decide +kernel
theorem dX6_become_37 : decode cX6_become 37 = .ok (.lastore, 1) := by decide +kernel
theorem dX6_become_38 : decode cX6_become 38 = .ok (.aload_n 0, 1) := by decide +kernel
theorem dX6_become_39 : decode cX6_become 39 = .ok (.getfield 17, 3) := by decide +kernel
theorem dX6_become_42 : decode cX6_become 42 = .ok (.iload_n 2, 1) := by decide +kernel
theorem dX6_become_43 : decode cX6_become 43 = .ok (.iload_n 2, 1) := by decide +kernel
theorem dX6_become_44 : decode cX6_become 44 = .ok (.ifCond .ne 7, 3) := by decide +kernel
theorem dX6_become_47 : decode cX6_become 47 = .ok (.lconst 1, 1) := by decide +kernel
theorem dX6_become_48 : decode cX6_become 48 = .ok (.goto 4, 3) := by decide +kernel
theorem dX6_become_51 : decode cX6_become 51 = .ok (.lconst 0, 1) := by decide +kernel
theorem dX6_become_52 : decode cX6_become 52 = .ok (.lastore, 1) := by decide +kernel
theorem dX6_become_53 : decode cX6_become 53 = .ok (.aload_n 0, 1) := by decide +kernel
theorem dX6_become_54 : decode cX6_become 54 = .ok (.getfield 20, 3) := by decide +kernel
theorem dX6_become_57 : decode cX6_become 57 = .ok (.iload_n 2, 1) := by decide +kernel
theorem dX6_become_58 : decode cX6_become 58 = .ok (.aload_n 0, 1) := by decide +kernel
theorem dX6_become_59 : decode cX6_become 59 = .ok (.getfield 17, 3) := by decide +kernel
theorem dX6_become_62 : decode cX6_become 62 = .ok (.iload_n 2, 1) := by decide +kernel
theorem dX6_become_63 : decode cX6_become 63 = .ok (.laload, 1) := by decide +kernel
theorem dX6_become_64 : decode cX6_become 64 = .ok (.lastore, 1) := by decide +kernel
theorem dX6_become_65 : decode cX6_become 65 = .ok (.iinc 2 1, 3) := by decide +kernel
theorem dX6_become_68 : decode cX6_become 68 = .ok (.goto (-45), 3) := by decide +kernel
theorem dX6_become_71 : decode cX6_become 71 = .ok (.aload_n 0, 1) := by decide +kernel
theorem dX6_become_72 : decode cX6_become 72 = .ok (.aload_n 1, 1) := by decide +kernel
theorem dX6_become_73 : decode cX6_become 73 = .ok (.iconst 0, 1) := by decide +kernel
theorem dX6_become_74 : decode cX6_become 74 = .ok (.aload_n 1, 1) := by decide +kernel
theorem dX6_become_75 : decode cX6_become 75 = .ok (.getfield 32, 3) := by decide +kernel
theorem dX6_become_78 : decode cX6_become 78 = .ok (.aload_n 0, 1) := by decide +kernel
theorem dX6_become_79 : decode cX6_become 79 = .ok (.getfield 13, 3) := by decide +kernel
theorem dX6_become_82 : decode cX6_become 82 = .ok (.invokevirtual 50, 3) := by decide +kernel
theorem dX6_become_85 : decode cX6_become 85 = .ok (.lconst 1, 1) := by decide +kernel
theorem dX6_become_86 : decode cX6_become 86 = .ok (.lstore_n 2, 1) := by decide +kernel
theorem dX6_become_87 : decode cX6_become 87 = .ok (.iconst 0, 1) := by decide +kernel
theorem dX6_become_88 : decode cX6_become 88 = .ok (.istore 4, 2) := by decide +kernel
theorem dX6_become_90 : decode cX6_become 90 = .ok (.iload 4, 2) := by decide +kernel
theorem dX6_become_92 : decode cX6_become 92 = .ok (.bipush 6, 2) := by decide +kernel
theorem dX6_become_94 : decode cX6_become 94 = .ok (.if_icmp .ge 24, 3) := by decide +kernel
theorem dX6_become_97 : decode cX6_become 97 = .ok (.lload_n 2, 1) := by decide +kernel
theorem dX6_become_98 : decode cX6_become 98 = .ok (.ldc2_w 54, 3) := by decide +kernel
theorem dX6_become_101 : decode cX6_become 101 = .ok (.aload_n 0, 1) := by decide +kernel
theorem dX6_become_102 : decode cX6_become 102 = .ok (.getfield 13, 3) := by decide +kernel
theorem dX6_become_105 : decode cX6_become 105 = .ok (.iconst 0, 1) := by decide +kernel
theorem dX6_become_106 : decode cX6_become 106 = .ok (.laload, 1) := by decide +kernel
theorem dX6_become_107 : decode cX6_become 107 = .ok (.lload_n 2, 1) := by decide +kernel
theorem dX6_become_108 : decode cX6_become 108 = .ok (.lmul, 1) := by decide +kernel
theorem dX6_become_109 : decode cX6_become 109 = .ok (.lsub, 1) := by decide +kernel
theorem dX6_become_110 : decode cX6_become 110 = .ok (.lmul, 1) := by decide +kernel
theorem dX6_become_111 : decode cX6_become 111 = .ok (.lstore_n 2, 1) := by decide +kernel
theorem dX6_become_112 : decode cX6_become 112 = .ok (.iinc 4 1, 3) := by decide +kernel
theorem dX6_become_115 : decode cX6_become 115 = .ok (.goto (-25), 3) := by decide +kernel
theorem dX6_become_118 : decode cX6_become 118 = .ok (.aload_n 0, 1) := by decide +kernel
theorem dX6_become_119 : decode cX6_become 119 = .ok (.lload_n 2, 1) := by decide +kernel
theorem dX6_become_120 : decode cX6_become 120 = .ok (.lneg, 1) := by decide +kernel
theorem dX6_become_121 : decode cX6_become 121 = .ok (.ldc2_w 56, 3) := by decide +kernel
theorem dX6_become_124 : decode cX6_become 124 = .ok (.land, 1) := by decide +kernel
theorem dX6_become_125 : decode cX6_become 125 = .ok (.putfield 58, 3) := by decide +kernel
theorem dX6_become_128 : decode cX6_become 128 = .ok (.iconst 0, 1) := by decide +kernel
theorem dX6_become_129 : decode cX6_become 129 = .ok (.istore 4, 2) := by decide +kernel
theorem dX6_become_131 : decode cX6_become 131 = .ok (.iload 4, 2) := by decide +kernel
theorem dX6_become_133 : decode cX6_become 133 = .ok (.bipush 33, 2) := by decide +kernel
theorem dX6_become_135 : decode cX6_become 135 = .ok (.aload_n 0, 1) := by decide +kernel
theorem dX6_become_136 : decode cX6_become 136 = .ok (.getfield 7, 3) := by decide +kernel
theorem dX6_become_139 : decode cX6_become 139 = .ok (.imul, 1) := by decide +kernel
theorem dX6_become_140 : decode cX6_become 140 = .ok (.if_icmp .ge 25, 3) := by decide +kernel
theorem dX6_become_143 : decode cX6_become 143 = .ok (.aload_n 0, 1) := by decide +kernel
theorem dX6_become_144 : decode cX6_become 144 = .ok (.aload_n 0, 1) := by decide +kernel
theorem dX6_become_145 : decode cX6_become 145 = .ok (.getfield 20, 3) := by decide +kernel
theorem dX6_become_148 : decode cX6_become 148 = .ok (.aload_n 0, 1) := by decide +kernel
theorem dX6_become_149 : decode cX6_become 149 = .ok (.getfield 20, 3) := by decide +kernel
theorem dX6_become_152 : decode cX6_become 152 = .ok (.aload_n 0, 1) := by decide +kernel
theorem dX6_become_153 : decode cX6_become 153 = .ok (.getfield 20, 3) := by decide +kernel
theorem dX6_become_156 : decode cX6_become 156 = .ok (.invokevirtual 62, 3) := by decide +kernel
theorem dX6_become_159 : decode cX6_become 159 = .ok (.iinc 4 1, 3) := by decide +kernel
theorem dX6_become_162 : decode cX6_become 162 = .ok (.goto (-31), 3) := by decide +kernel
theorem dX6_become_165 : decode cX6_become 165 = .ok (.iconst 0, 1) := by decide +kernel
theorem dX6_become_166 : decode cX6_become 166 = .ok (.istore 4, 2) := by decide +kernel
theorem dX6_become_168 : decode cX6_become 168 = .ok (.iload 4, 2) := by decide +kernel
theorem dX6_become_170 : decode cX6_become 170 = .ok (.iconst 5, 1) := by decide +kernel
theorem dX6_become_171 : decode cX6_become 171 = .ok (.if_icmp .ge 25, 3) := by decide +kernel
theorem dX6_become_174 : decode cX6_become 174 = .ok (.aload_n 0, 1) := by decide +kernel
theorem dX6_become_175 : decode cX6_become 175 = .ok (.aload_n 0, 1) := by decide +kernel
theorem dX6_become_176 : decode cX6_become 176 = .ok (.getfield 20, 3) := by decide +kernel
theorem dX6_become_179 : decode cX6_become 179 = .ok (.aload_n 0, 1) := by decide +kernel
theorem dX6_become_180 : decode cX6_become 180 = .ok (.getfield 20, 3) := by decide +kernel
theorem dX6_become_183 : decode cX6_become 183 = .ok (.aload_n 0, 1) := by decide +kernel
theorem dX6_become_184 : decode cX6_become 184 = .ok (.getfield 20, 3) := by decide +kernel
theorem dX6_become_187 : decode cX6_become 187 = .ok (.invokevirtual 66, 3) := by decide +kernel
theorem dX6_become_190 : decode cX6_become 190 = .ok (.iinc 4 1, 3) := by decide +kernel
theorem dX6_become_193 : decode cX6_become 193 = .ok (.goto (-25), 3) := by decide +kernel
theorem dX6_become_196 : decode cX6_become 196 = .ok (.return_, 1) := by decide +kernel
abbrev rmX6_become : Room := { frames := 3, cells := 0, slots := 0, locals := 115 }
set_option maxHeartbeats 4000000 in
set_option maxRecDepth 100000 in
theorem wB_X6_become_168 {G : mG} {F : Nat} {x : mXT} {sz : Nat} {M0 : mM} (X : mCX G RX6 cX6_become 5 none "become" rmX6_become x) (hQ : mQV x M0 (sz, 0, 0)) : ∀ (n : Nat) (l0 : Nat) (l4 : Int32) (M : mM), B_X6_become_168 G F n l0 l4 M = some M0 → WW x (sz, 0, 0) M 168 [(0, .ref l0), (4, .int l4)] [] := by
  intro n
  induction n with
  | zero =>
    intro l0 l4 M h
    exact nomatch (show (none : Option mM) = some M0 from h)
  | succ n ih =>
    intro l0 l4 M h
    rw [B_X6_become_168] at h
    refine ww_iload 168 X dX6_become_168 1 rfl ?_
    refine ww_iconst 170 X (v := (5 : Int32)) dX6_become_170 (by decide) ?_
    refine ww_icmp_ge 171 196 X dX6_become_171 (by decide) (fun q => ?_) (fun q => ?_)
    · replace h := (if_pos q).symm.trans h
      exact ww_vretE 196 X hQ dX6_become_196 h
    · replace h := (if_neg q).symm.trans h
      refine ww_aload_n 174 X dX6_become_174 0 rfl rfl ?_
      refine ww_aload_n 175 X dX6_become_175 0 rfl rfl ?_
      obtain ⟨v176, e176, h⟩ := bO_some h
      refine ww_getR 176 X dX6_become_176 fG_X6_20 e176 ?_
      refine ww_aload_n 179 X dX6_become_179 0 rfl rfl ?_
      obtain ⟨v180, e180, h⟩ := bO_some h
      refine ww_getR 180 X dX6_become_180 fG_X6_20 e180 ?_
      refine ww_aload_n 183 X dX6_become_183 0 rfl rfl ?_
      obtain ⟨v184, e184, h⟩ := bO_some h
      refine ww_getR 184 X dX6_become_184 fG_X6_20 e184 ?_
      obtain ⟨_, f187, h⟩ := bO_some h
      obtain ⟨M187, e187, h⟩ := bO_some h
      refine ww_callVV0 187 X dX6_become_187 mY_X6_times mL_X6_66 (rcv_spec f187) ⟨_, _, rfl⟩ (by decide) (As := [.ref v176, .ref v180, .ref v184]) (rest := []) rfl rfl ⟨Nat.le_of_ble_eq_true rfl, Nat.le_of_ble_eq_true rfl⟩ (Nat.le_of_ble_eq_true rfl) (fun l D A => c_X6_times l D A e187) ?_
      refine ww_iinc 190 X dX6_become_190 (lv' := [(0, .ref l0), (4, .int (l4 + 1))]) 1 rfl rfl (by decide) [1, 0] rfl ?_
      refine ww_goto 193 168 X dX6_become_193 (by decide) ?_
      exact (ih _ _ _ h)
set_option maxHeartbeats 4000000 in
set_option maxRecDepth 100000 in
theorem wB_X6_become_131 {G : mG} {F : Nat} {x : mXT} {sz : Nat} {M0 : mM} (X : mCX G RX6 cX6_become 5 none "become" rmX6_become x) (hQ : mQV x M0 (sz, 0, 0)) : ∀ (n : Nat) (l0 : Nat) (l4 : Int32) (M : mM), B_X6_become_131 G F n l0 l4 M = some M0 → WW x (sz, 0, 0) M 131 [(0, .ref l0), (4, .int l4)] [] := by
  intro n
  induction n with
  | zero =>
    intro l0 l4 M h
    exact nomatch (show (none : Option mM) = some M0 from h)
  | succ n ih =>
    intro l0 l4 M h
    rw [B_X6_become_131] at h
    refine ww_iload 131 X dX6_become_131 1 rfl ?_
    refine ww_bipush 133 X (v := (33 : Int32)) dX6_become_133 (by decide) ?_
    refine ww_aload_n 135 X dX6_become_135 0 rfl rfl ?_
    obtain ⟨v136, e136, h⟩ := bO_some h
    refine ww_getI 136 X dX6_become_136 fG_X6_7 e136 ?_
    refine ww_imul 139 X dX6_become_139 ?_
    refine ww_icmp_ge 140 165 X dX6_become_140 (by decide) (fun q => ?_) (fun q => ?_)
    · replace h := (if_pos q).symm.trans h
      refine ww_iconst 165 X (v := (0 : Int32)) dX6_become_165 (by decide) ?_
      refine ww_istore 166 X dX6_become_166 (lv' := [(0, .ref l0), (4, .int (0 : Int32))]) (by decide) [1, 0] rfl ?_
      exact (wB_X6_become_168 X hQ F _ _ _ h)
    · replace h := (if_neg q).symm.trans h
      refine ww_aload_n 143 X dX6_become_143 0 rfl rfl ?_
      refine ww_aload_n 144 X dX6_become_144 0 rfl rfl ?_
      obtain ⟨v145, e145, h⟩ := bO_some h
      refine ww_getR 145 X dX6_become_145 fG_X6_20 e145 ?_
      refine ww_aload_n 148 X dX6_become_148 0 rfl rfl ?_
      obtain ⟨v149, e149, h⟩ := bO_some h
      refine ww_getR 149 X dX6_become_149 fG_X6_20 e149 ?_
      refine ww_aload_n 152 X dX6_become_152 0 rfl rfl ?_
      obtain ⟨v153, e153, h⟩ := bO_some h
      refine ww_getR 153 X dX6_become_153 fG_X6_20 e153 ?_
      obtain ⟨_, f156, h⟩ := bO_some h
      obtain ⟨M156, e156, h⟩ := bO_some h
      refine ww_callVV0 156 X dX6_become_156 mY_X6_plus mL_X6_62 (rcv_spec f156) ⟨_, _, rfl⟩ (by decide) (As := [.ref v145, .ref v149, .ref v153]) (rest := []) rfl rfl ⟨Nat.le_of_ble_eq_true rfl, Nat.le_of_ble_eq_true rfl⟩ (Nat.le_of_ble_eq_true rfl) (fun l D A => c_X6_plus l D A e156) ?_
      refine ww_iinc 159 X dX6_become_159 (lv' := [(0, .ref l0), (4, .int (l4 + 1))]) 1 rfl rfl (by decide) [1, 0] rfl ?_
      refine ww_goto 162 131 X dX6_become_162 (by decide) ?_
      exact (ih _ _ _ h)
set_option maxHeartbeats 4000000 in
set_option maxRecDepth 100000 in
theorem wB_X6_become_90 {G : mG} {F : Nat} {x : mXT} {sz : Nat} {M0 : mM} (X : mCX G RX6 cX6_become 5 none "become" rmX6_become x) (hQ : mQV x M0 (sz, 0, 0)) : ∀ (n : Nat) (l0 : Nat) (l2 : Int64) (l4 : Int32) (M : mM), B_X6_become_90 G F n l0 l2 l4 M = some M0 → WW x (sz, 0, 0) M 90 [(0, .ref l0), (2, .long l2), (4, .int l4)] [] := by
  intro n
  induction n with
  | zero =>
    intro l0 l2 l4 M h
    exact nomatch (show (none : Option mM) = some M0 from h)
  | succ n ih =>
    intro l0 l2 l4 M h
    rw [B_X6_become_90] at h
    refine ww_iload 90 X dX6_become_90 2 rfl ?_
    refine ww_bipush 92 X (v := (6 : Int32)) dX6_become_92 (by decide) ?_
    refine ww_icmp_ge 94 118 X dX6_become_94 (by decide) (fun q => ?_) (fun q => ?_)
    · replace h := (if_pos q).symm.trans h
      refine ww_aload_n 118 X dX6_become_118 0 rfl rfl ?_
      refine ww_lload_n 119 X dX6_become_119 1 rfl rfl ?_
      refine ww_lneg 120 X dX6_become_120 ?_
      refine ww_ldc2 121 X (v := (4294967295 : Int64)) dX6_become_121 kL_X6_56 ?_
      refine ww_land 124 X dX6_become_124 ?_
      obtain ⟨M125, e125, h⟩ := bO_some h
      refine ww_putL 125 X dX6_become_125 (fP_X6_58 _) e125 ?_
      refine ww_iconst 128 X (v := (0 : Int32)) dX6_become_128 (by decide) ?_
      refine ww_istore 129 X dX6_become_129 (lv' := [(0, .ref l0), (2, .long l2), (4, .int (0 : Int32))]) (by decide) [1, 2, 0] rfl ?_
      exact ww_sub [0, 2] rfl (wB_X6_become_131 X hQ F _ _ _ h)
    · replace h := (if_neg q).symm.trans h
      refine ww_lload_n 97 X dX6_become_97 1 rfl rfl ?_
      refine ww_ldc2 98 X (v := (2 : Int64)) dX6_become_98 kL_X6_54 ?_
      refine ww_aload_n 101 X dX6_become_101 0 rfl rfl ?_
      obtain ⟨v102, e102, h⟩ := bO_some h
      refine ww_getR 102 X dX6_become_102 fG_X6_13 e102 ?_
      refine ww_iconst 105 X (v := (0 : Int32)) dX6_become_105 (by decide) ?_
      obtain ⟨v106, e106, h⟩ := bO_some h
      refine ww_lald 106 X dX6_become_106 e106 ?_
      refine ww_lload_n 107 X dX6_become_107 1 rfl rfl ?_
      refine ww_lmul 108 X dX6_become_108 ?_
      refine ww_lsub 109 X dX6_become_109 ?_
      refine ww_lmul 110 X dX6_become_110 ?_
      refine ww_lstore_n 111 X dX6_become_111 (lv' := [(0, .ref l0), (2, .long (l2 * ((2 : Int64) - (v106 * l2)))), (4, .int l4)]) rfl (by decide) [1, 0, 2] rfl ?_
      refine ww_iinc 112 X dX6_become_112 (lv' := [(0, .ref l0), (2, .long (l2 * ((2 : Int64) - (v106 * l2)))), (4, .int (l4 + 1))]) 2 rfl rfl (by decide) [1, 2, 0] rfl ?_
      refine ww_goto 115 90 X dX6_become_115 (by decide) ?_
      exact (ih _ _ _ _ h)
set_option maxHeartbeats 4000000 in
set_option maxRecDepth 100000 in
theorem wB_X6_become_23 {G : mG} {F : Nat} {x : mXT} {sz : Nat} {M0 : mM} (X : mCX G RX6 cX6_become 5 none "become" rmX6_become x) (hQ : mQV x M0 (sz, 0, 0)) : ∀ (n : Nat) (l0 : Nat) (l1 : Nat) (l2 : Int32) (M : mM), B_X6_become_23 G F n l0 l1 l2 M = some M0 → WW x (sz, 0, 0) M 23 [(0, .ref l0), (1, .ref l1), (2, .int l2)] [] := by
  intro n
  induction n with
  | zero =>
    intro l0 l1 l2 M h
    exact nomatch (show (none : Option mM) = some M0 from h)
  | succ n ih =>
    intro l0 l1 l2 M h
    rw [B_X6_become_23] at h
    refine ww_iload_n 23 X dX6_become_23 2 rfl rfl ?_
    refine ww_aload_n 24 X dX6_become_24 0 rfl rfl ?_
    obtain ⟨v25, e25, h⟩ := bO_some h
    refine ww_getI 25 X dX6_become_25 fG_X6_7 e25 ?_
    refine ww_icmp_ge 28 71 X dX6_become_28 (by decide) (fun q => ?_) (fun q => ?_)
    · replace h := (if_pos q).symm.trans h
      refine ww_aload_n 71 X dX6_become_71 0 rfl rfl ?_
      refine ww_aload_n 72 X dX6_become_72 1 rfl rfl ?_
      refine ww_iconst 73 X (v := (0 : Int32)) dX6_become_73 (by decide) ?_
      refine ww_aload_n 74 X dX6_become_74 1 rfl rfl ?_
      obtain ⟨v75, e75, h⟩ := bO_some h
      refine ww_getI 75 X dX6_become_75 fG_X6_32 e75 ?_
      refine ww_aload_n 78 X dX6_become_78 0 rfl rfl ?_
      obtain ⟨v79, e79, h⟩ := bO_some h
      refine ww_getR 79 X dX6_become_79 fG_X6_13 e79 ?_
      obtain ⟨_, f82, h⟩ := bO_some h
      obtain ⟨M82, e82, h⟩ := bO_some h
      refine ww_callVV0 82 X dX6_become_82 mY_X6_loadLimbs mL_X6_50 (rcv_spec f82) ⟨_, _, rfl⟩ (by decide) (As := [.ref l1, .int (0 : Int32), .int v75, .ref v79]) (rest := []) rfl rfl ⟨Nat.le_of_ble_eq_true rfl, Nat.le_of_ble_eq_true rfl⟩ (Nat.le_of_ble_eq_true rfl) (fun l D A => c_X6_loadLimbs l D A e82) ?_
      refine ww_lconst 85 X (v := (1 : Int64)) dX6_become_85 (by decide) ?_
      refine ww_lstore_n 86 X dX6_become_86 (lv' := [(0, .ref l0), (1, .ref l1), (2, .long (1 : Int64))]) rfl (by decide) [1, 2, 0] rfl ?_
      refine ww_iconst 87 X (v := (0 : Int32)) dX6_become_87 (by decide) ?_
      refine ww_istore 88 X dX6_become_88 (lv' := [(0, .ref l0), (1, .ref l1), (2, .long (1 : Int64)), (4, .int (0 : Int32))]) (by decide) [1, 2, 3, 0] rfl ?_
      exact ww_sub [0, 2, 3] rfl (wB_X6_become_90 X hQ F _ _ _ _ h)
    · replace h := (if_neg q).symm.trans h
      refine ww_aload_n 31 X dX6_become_31 0 rfl rfl ?_
      obtain ⟨v32, e32, h⟩ := bO_some h
      refine ww_getR 32 X dX6_become_32 fG_X6_13 e32 ?_
      refine ww_iload_n 35 X dX6_become_35 2 rfl rfl ?_
      refine ww_lconst 36 X (v := (0 : Int64)) dX6_become_36 (by decide) ?_
      obtain ⟨M37, e37, h⟩ := bO_some h
      refine ww_last 37 X dX6_become_37 e37 ?_
      refine ww_aload_n 38 X dX6_become_38 0 rfl rfl ?_
      obtain ⟨v39, e39, h⟩ := bO_some h
      refine ww_getR 39 X dX6_become_39 fG_X6_17 e39 ?_
      refine ww_iload_n 42 X dX6_become_42 2 rfl rfl ?_
      refine ww_iload_n 43 X dX6_become_43 2 rfl rfl ?_
      refine ww_if_ne 44 51 X dX6_become_44 (by decide) (fun q => ?_) (fun q => ?_)
      · replace h := (if_neg q).symm.trans h
        refine ww_lconst 51 X (v := (0 : Int64)) dX6_become_51 (by decide) ?_
        obtain ⟨M52, e52, h⟩ := bO_some h
        refine ww_last 52 X dX6_become_52 e52 ?_
        refine ww_aload_n 53 X dX6_become_53 0 rfl rfl ?_
        obtain ⟨v54, e54, h⟩ := bO_some h
        refine ww_getR 54 X dX6_become_54 fG_X6_20 e54 ?_
        refine ww_iload_n 57 X dX6_become_57 2 rfl rfl ?_
        refine ww_aload_n 58 X dX6_become_58 0 rfl rfl ?_
        obtain ⟨v59, e59, h⟩ := bO_some h
        refine ww_getR 59 X dX6_become_59 fG_X6_17 e59 ?_
        refine ww_iload_n 62 X dX6_become_62 2 rfl rfl ?_
        obtain ⟨v63, e63, h⟩ := bO_some h
        refine ww_lald 63 X dX6_become_63 e63 ?_
        obtain ⟨M64, e64, h⟩ := bO_some h
        refine ww_last 64 X dX6_become_64 e64 ?_
        refine ww_iinc 65 X dX6_become_65 (lv' := [(0, .ref l0), (1, .ref l1), (2, .int (l2 + 1))]) 2 rfl rfl (by decide) [1, 2, 0] rfl ?_
        refine ww_goto 68 23 X dX6_become_68 (by decide) ?_
        exact (ih _ _ _ _ h)
      · replace h := (if_pos q).symm.trans h
        refine ww_lconst 47 X (v := (1 : Int64)) dX6_become_47 (by decide) ?_
        refine ww_goto 48 52 X dX6_become_48 (by decide) ?_
        obtain ⟨M52, e52, h⟩ := bO_some h
        refine ww_last 52 X dX6_become_52 e52 ?_
        refine ww_aload_n 53 X dX6_become_53 0 rfl rfl ?_
        obtain ⟨v54, e54, h⟩ := bO_some h
        refine ww_getR 54 X dX6_become_54 fG_X6_20 e54 ?_
        refine ww_iload_n 57 X dX6_become_57 2 rfl rfl ?_
        refine ww_aload_n 58 X dX6_become_58 0 rfl rfl ?_
        obtain ⟨v59, e59, h⟩ := bO_some h
        refine ww_getR 59 X dX6_become_59 fG_X6_17 e59 ?_
        refine ww_iload_n 62 X dX6_become_62 2 rfl rfl ?_
        obtain ⟨v63, e63, h⟩ := bO_some h
        refine ww_lald 63 X dX6_become_63 e63 ?_
        obtain ⟨M64, e64, h⟩ := bO_some h
        refine ww_last 64 X dX6_become_64 e64 ?_
        refine ww_iinc 65 X dX6_become_65 (lv' := [(0, .ref l0), (1, .ref l1), (2, .int (l2 + 1))]) 2 rfl rfl (by decide) [1, 2, 0] rfl ?_
        refine ww_goto 68 23 X dX6_become_68 (by decide) ?_
        exact (ih _ _ _ _ h)
set_option maxHeartbeats 4000000 in
set_option maxRecDepth 100000 in
theorem wP_X6_become {G : mG} {F : Nat} {x : mXT} {sz : Nat} {M0 : mM} (X : mCX G RX6 cX6_become 5 none "become" rmX6_become x) (hQ : mQV x M0 (sz, 0, 0)) {l0 : Nat} {l1 : Nat} {M : mM} (h : P_X6_become G F l0 l1 M = some M0) : WW x (sz, 0, 0) M 0 [(0, .ref l0), (1, .ref l1)] [] := by
  unfold P_X6_become at h
  refine ww_aload_n 0 X dX6_become_0 0 rfl rfl ?_
  refine ww_iconst 1 X (v := (1 : Int32)) dX6_become_1 (by decide) ?_
  refine ww_aload_n 2 X dX6_become_2 1 rfl rfl ?_
  obtain ⟨v3, e3, h⟩ := bO_some h
  refine ww_getI 3 X dX6_become_3 fG_X6_32 e3 ?_
  refine ww_iconst 6 X (v := (3 : Int32)) dX6_become_6 (by decide) ?_
  refine ww_iadd 7 X dX6_become_7 ?_
  refine ww_iconst 8 X (v := (4 : Int32)) dX6_become_8 (by decide) ?_
  refine ww_idiv 9 X (v := ((v3 + (3 : Int32)) / (4 : Int32))) dX6_become_9 rfl ?_
  refine ww_bipush 10 X (v := (32 : Int32)) dX6_become_10 (by decide) ?_
  refine ww_mmin 12 X (st := [.int (1 : Int32), .ref l0]) dX6_become_12 mL_X6_41 (Nat.le_of_ble_eq_true rfl) (Nat.le_of_ble_eq_true rfl) (Nat.le_of_ble_eq_true rfl) ⟨Nat.zero_le _, Nat.zero_le _⟩ ?_
  refine ww_mmax 15 X (st := [.ref l0]) dX6_become_15 mL_X6_47 (Nat.le_of_ble_eq_true rfl) (Nat.le_of_ble_eq_true rfl) (Nat.le_of_ble_eq_true rfl) ⟨Nat.zero_le _, Nat.zero_le _⟩ ?_
  obtain ⟨M18, e18, h⟩ := bO_some h
  refine ww_putI 18 X dX6_become_18 (fP_X6_7 _) e18 ?_
  refine ww_iconst 21 X (v := (0 : Int32)) dX6_become_21 (by decide) ?_
  refine ww_istore_n 22 X dX6_become_22 (lv' := [(0, .ref l0), (1, .ref l1), (2, .int (0 : Int32))]) rfl (by decide) [1, 2, 0] rfl ?_
  exact (wB_X6_become_23 X hQ F _ _ _ _ h)
theorem c_X6_become {G : mG} {F sz : Nat} {M0 : mM} (l : Launch) (D : mD) (A : Nat → Prop) {l0 : Nat} {l1 : Nat} {M : mM} (h : P_X6_become G F l0 l1 M = some M0) : mMetV l D G A yX6_become cX6_become 5 none 3 115 0 0 [.ref l0, .ref l1] M sz M0 sz := mMetV_of l D G A (by decide) (Nat.le_of_ble_eq_true rfl) (fun x X hQ => wP_X6_become X hQ h)
/-! SealedTokens$Modulus.take(LSealedTokens$Bytes;II[J)V -/
theorem dX6_take_0 : decode cX6_take 0 = .ok (.iconst 4, 1) := by decide +kernel
theorem dX6_take_1 : decode cX6_take 1 = .ok (.aload_n 0, 1) := by decide +kernel
theorem dX6_take_2 : decode cX6_take 2 = .ok (.getfield 7, 3) := by decide +kernel
theorem dX6_take_5 : decode cX6_take 5 = .ok (.imul, 1) := by decide +kernel
theorem dX6_take_6 : decode cX6_take 6 = .ok (.istore 5, 2) := by decide +kernel
theorem dX6_take_8 : decode cX6_take 8 = .ok (.iload_n 3, 1) := by decide +kernel
theorem dX6_take_9 : decode cX6_take 9 = .ok (.iload 5, 2) := by decide +kernel
theorem dX6_take_11 : decode cX6_take 11 = .ok (.iadd, 1) := by decide +kernel
theorem dX6_take_12 : decode cX6_take 12 = .ok (.iconst 1, 1) := by decide +kernel
theorem dX6_take_13 : decode cX6_take 13 = .ok (.isub, 1) := by decide +kernel
theorem dX6_take_14 : decode cX6_take 14 = .ok (.iload 5, 2) := by decide +kernel
theorem dX6_take_16 : decode cX6_take 16 = .ok (.idiv, 1) := by decide +kernel
theorem dX6_take_17 : decode cX6_take 17 = .ok (.istore 6, 2) := by decide +kernel
theorem dX6_take_19 : decode cX6_take 19 = .ok (.aload_n 0, 1) := by decide +kernel
theorem dX6_take_20 : decode cX6_take 20 = .ok (.aload_n 1, 1) := by decide +kernel
theorem dX6_take_21 : decode cX6_take 21 = .ok (.iload_n 2, 1) := by decide +kernel
theorem dX6_take_22 : decode cX6_take 22 = .ok (.iconst 0, 1) := by decide +kernel
theorem dX6_take_23 : decode cX6_take 23 = .ok (.aload 4, 2) := by decide +kernel
theorem dX6_take_25 : decode cX6_take 25 = .ok (.invokevirtual 50, 3) := by decide +kernel
theorem dX6_take_28 : decode cX6_take 28 = .ok (.iload 6, 2) := by decide +kernel
theorem dX6_take_30 : decode cX6_take 30 = .ok (.istore 7, 2) := by decide +kernel
theorem dX6_take_32 : decode cX6_take 32 = .ok (.iload 7, 2) := by decide +kernel
theorem dX6_take_34 : decode cX6_take 34 = .ok (.ifCond .le 107, 3) := by decide +kernel
theorem dX6_take_37 : decode cX6_take 37 = .ok (.iload_n 3, 1) := by decide +kernel
theorem dX6_take_38 : decode cX6_take 38 = .ok (.iload 7, 2) := by decide +kernel
theorem dX6_take_40 : decode cX6_take 40 = .ok (.iload 5, 2) := by decide +kernel
theorem dX6_take_42 : decode cX6_take 42 = .ok (.imul, 1) := by decide +kernel
theorem dX6_take_43 : decode cX6_take 43 = .ok (.isub, 1) := by decide +kernel
theorem dX6_take_44 : decode cX6_take 44 = .ok (.iconst 0, 1) := by decide +kernel
theorem dX6_take_45 : decode cX6_take 45 = .ok (.invokestatic 47, 3) := by decide +kernel
theorem dX6_take_48 : decode cX6_take 48 = .ok (.istore 8, 2) := by decide +kernel
theorem dX6_take_50 : decode cX6_take 50 = .ok (.iload_n 3, 1) := by decide +kernel
theorem dX6_take_51 : decode cX6_take 51 = .ok (.iload 7, 2) := by decide +kernel
theorem dX6_take_53 : decode cX6_take 53 = .ok (.iconst 1, 1) := by decide +kernel
theorem dX6_take_54 : decode cX6_take 54 = .ok (.isub, 1) := by decide +kernel
theorem dX6_take_55 : decode cX6_take 55 = .ok (.iload 5, 2) := by decide +kernel
theorem dX6_take_57 : decode cX6_take 57 = .ok (.imul, 1) := by decide +kernel
theorem dX6_take_58 : decode cX6_take 58 = .ok (.isub, 1) := by decide +kernel
theorem dX6_take_59 : decode cX6_take 59 = .ok (.istore 9, 2) := by decide +kernel
theorem dX6_take_61 : decode cX6_take 61 = .ok (.aload_n 0, 1) := by decide +kernel
theorem dX6_take_62 : decode cX6_take 62 = .ok (.aload_n 1, 1) := by decide +kernel
theorem dX6_take_63 : decode cX6_take 63 = .ok (.iload_n 2, 1) := by decide +kernel
theorem dX6_take_64 : decode cX6_take 64 = .ok (.iload 8, 2) := by decide +kernel
theorem dX6_take_66 : decode cX6_take 66 = .ok (.iadd, 1) := by decide +kernel
theorem dX6_take_67 : decode cX6_take 67 = .ok (.iload 9, 2) := by decide +kernel
theorem dX6_take_69 : decode cX6_take 69 = .ok (.iload 8, 2) := by decide +kernel
theorem dX6_take_71 : decode cX6_take 71 = .ok (.isub, 1) := by decide +kernel
theorem dX6_take_72 : decode cX6_take 72 = .ok (.aload_n 0, 1) := by decide +kernel
theorem dX6_take_73 : decode cX6_take 73 = .ok (.getfield 26, 3) := by decide +kernel
theorem dX6_take_76 : decode cX6_take 76 = .ok (.invokevirtual 50, 3) := by decide +kernel
theorem dX6_take_79 : decode cX6_take 79 = .ok (.aload_n 0, 1) := by decide +kernel
theorem dX6_take_80 : decode cX6_take 80 = .ok (.aload_n 0, 1) := by decide +kernel
theorem dX6_take_81 : decode cX6_take 81 = .ok (.getfield 26, 3) := by decide +kernel
theorem dX6_take_84 : decode cX6_take 84 = .ok (.aload_n 0, 1) := by decide +kernel
theorem dX6_take_85 : decode cX6_take 85 = .ok (.getfield 20, 3) := by decide +kernel
theorem dX6_take_88 : decode cX6_take 88 = .ok (.aload_n 0, 1) := by decide +kernel
theorem dX6_take_89 : decode cX6_take 89 = .ok (.getfield 26, 3) := by decide +kernel
theorem dX6_take_92 : decode cX6_take 92 = .ok (.invokevirtual 66, 3) := by decide +kernel
theorem dX6_take_95 : decode cX6_take 95 = .ok (.aload_n 0, 1) := by decide +kernel
theorem dX6_take_96 : decode cX6_take 96 = .ok (.aload_n 0, 1) := by decide +kernel
theorem dX6_take_97 : decode cX6_take 97 = .ok (.getfield 26, 3) := by decide +kernel
theorem dX6_take_100 : decode cX6_take 100 = .ok (.aload_n 0, 1) := by decide +kernel
theorem dX6_take_101 : decode cX6_take 101 = .ok (.getfield 17, 3) := by decide +kernel
theorem dX6_take_104 : decode cX6_take 104 = .ok (.aload_n 0, 1) := by decide +kernel
theorem dX6_take_105 : decode cX6_take 105 = .ok (.getfield 26, 3) := by decide +kernel
theorem dX6_take_108 : decode cX6_take 108 = .ok (.invokevirtual 66, 3) := by decide +kernel
theorem dX6_take_111 : decode cX6_take 111 = .ok (.aload_n 0, 1) := by decide +kernel
theorem dX6_take_112 : decode cX6_take 112 = .ok (.aload 4, 2) := by decide +kernel
theorem dX6_take_114 : decode cX6_take 114 = .ok (.aload_n 0, 1) := by decide +kernel
theorem dX6_take_115 : decode cX6_take 115 = .ok (.getfield 20, 3) := by decide +kernel
theorem dX6_take_118 : decode cX6_take 118 = .ok (.aload 4, 2) := by decide +kernel
theorem dX6_take_120 : decode cX6_take 120 = .ok (.invokevirtual 66, 3) := by decide +kernel
theorem dX6_take_123 : decode cX6_take 123 = .ok (.aload_n 0, 1) := by decide +kernel
theorem dX6_take_124 : decode cX6_take 124 = .ok (.aload 4, 2) := by decide +kernel
theorem dX6_take_126 : decode cX6_take 126 = .ok (.aload_n 0, 1) := by decide +kernel
theorem dX6_take_127 : decode cX6_take 127 = .ok (.getfield 26, 3) := by decide +kernel
theorem dX6_take_130 : decode cX6_take 130 = .ok (.aload 4, 2) := by decide +kernel
theorem dX6_take_132 : decode cX6_take 132 = .ok (.invokevirtual 62, 3) := by decide +kernel
theorem dX6_take_135 : decode cX6_take 135 = .ok (.iinc 7 (-1), 3) := by decide +kernel
theorem dX6_take_138 : decode cX6_take 138 = .ok (.goto (-106), 3) := by decide +kernel
theorem dX6_take_141 : decode cX6_take 141 = .ok (.return_, 1) := by decide +kernel
abbrev rmX6_take : Room := { frames := 3, cells := 0, slots := 0, locals := 115 }
set_option maxHeartbeats 4000000 in
set_option maxRecDepth 100000 in
theorem wB_X6_take_32 {G : mG} {F : Nat} {x : mXT} {sz : Nat} {M0 : mM} (X : mCX G RX6 cX6_take 10 none "take" rmX6_take x) (hQ : mQV x M0 (sz, 0, 0)) : ∀ (n : Nat) (l0 : Nat) (l1 : Nat) (l2 : Int32) (l3 : Int32) (l4 : Nat) (l5 : Int32) (l7 : Int32) (M : mM), B_X6_take_32 G F n l0 l1 l2 l3 l4 l5 l7 M = some M0 → WW x (sz, 0, 0) M 32 [(0, .ref l0), (1, .ref l1), (2, .int l2), (3, .int l3), (4, .ref l4), (5, .int l5), (7, .int l7)] [] := by
  intro n
  induction n with
  | zero =>
    intro l0 l1 l2 l3 l4 l5 l7 M h
    exact nomatch (show (none : Option mM) = some M0 from h)
  | succ n ih =>
    intro l0 l1 l2 l3 l4 l5 l7 M h
    rw [B_X6_take_32] at h
    refine ww_iload 32 X dX6_take_32 6 rfl ?_
    refine ww_if_le 34 141 X dX6_take_34 (by decide) (fun q => ?_) (fun q => ?_)
    · replace h := (if_pos q).symm.trans h
      exact ww_vretE 141 X hQ dX6_take_141 h
    · replace h := (if_neg q).symm.trans h
      refine ww_iload_n 37 X dX6_take_37 3 rfl rfl ?_
      refine ww_iload 38 X dX6_take_38 6 rfl ?_
      refine ww_iload 40 X dX6_take_40 5 rfl ?_
      refine ww_imul 42 X dX6_take_42 ?_
      refine ww_isub 43 X dX6_take_43 ?_
      refine ww_iconst 44 X (v := (0 : Int32)) dX6_take_44 (by decide) ?_
      refine ww_mmax 45 X (st := []) dX6_take_45 mL_X6_47 (Nat.le_of_ble_eq_true rfl) (Nat.le_of_ble_eq_true rfl) (Nat.le_of_ble_eq_true rfl) ⟨Nat.zero_le _, Nat.zero_le _⟩ ?_
      refine ww_istore 48 X dX6_take_48 (lv' := [(0, .ref l0), (1, .ref l1), (2, .int l2), (3, .int l3), (4, .ref l4), (5, .int l5), (7, .int l7), (8, .int (if (l3 - (l7 * l5)) < (0 : Int32) then (0 : Int32) else (l3 - (l7 * l5))))]) (by decide) [1, 2, 3, 4, 5, 6, 7, 0] rfl ?_
      refine ww_iload_n 50 X dX6_take_50 3 rfl rfl ?_
      refine ww_iload 51 X dX6_take_51 6 rfl ?_
      refine ww_iconst 53 X (v := (1 : Int32)) dX6_take_53 (by decide) ?_
      refine ww_isub 54 X dX6_take_54 ?_
      refine ww_iload 55 X dX6_take_55 5 rfl ?_
      refine ww_imul 57 X dX6_take_57 ?_
      refine ww_isub 58 X dX6_take_58 ?_
      refine ww_istore 59 X dX6_take_59 (lv' := [(0, .ref l0), (1, .ref l1), (2, .int l2), (3, .int l3), (4, .ref l4), (5, .int l5), (7, .int l7), (8, .int (if (l3 - (l7 * l5)) < (0 : Int32) then (0 : Int32) else (l3 - (l7 * l5)))), (9, .int (l3 - ((l7 - (1 : Int32)) * l5)))]) (by decide) [1, 2, 3, 4, 5, 6, 7, 8, 0] rfl ?_
      refine ww_aload_n 61 X dX6_take_61 0 rfl rfl ?_
      refine ww_aload_n 62 X dX6_take_62 1 rfl rfl ?_
      refine ww_iload_n 63 X dX6_take_63 2 rfl rfl ?_
      refine ww_iload 64 X dX6_take_64 7 rfl ?_
      refine ww_iadd 66 X dX6_take_66 ?_
      refine ww_iload 67 X dX6_take_67 8 rfl ?_
      refine ww_iload 69 X dX6_take_69 7 rfl ?_
      refine ww_isub 71 X dX6_take_71 ?_
      refine ww_aload_n 72 X dX6_take_72 0 rfl rfl ?_
      obtain ⟨v73, e73, h⟩ := bO_some h
      refine ww_getR 73 X dX6_take_73 fG_X6_26 e73 ?_
      obtain ⟨_, f76, h⟩ := bO_some h
      obtain ⟨M76, e76, h⟩ := bO_some h
      refine ww_callVV0 76 X dX6_take_76 mY_X6_loadLimbs mL_X6_50 (rcv_spec f76) ⟨_, _, rfl⟩ (by decide) (As := [.ref l1, .int (l2 + (if (l3 - (l7 * l5)) < (0 : Int32) then (0 : Int32) else (l3 - (l7 * l5)))), .int ((l3 - ((l7 - (1 : Int32)) * l5)) - (if (l3 - (l7 * l5)) < (0 : Int32) then (0 : Int32) else (l3 - (l7 * l5)))), .ref v73]) (rest := []) rfl rfl ⟨Nat.le_of_ble_eq_true rfl, Nat.le_of_ble_eq_true rfl⟩ (Nat.le_of_ble_eq_true rfl) (fun l D A => c_X6_loadLimbs l D A e76) ?_
      refine ww_aload_n 79 X dX6_take_79 0 rfl rfl ?_
      refine ww_aload_n 80 X dX6_take_80 0 rfl rfl ?_
      obtain ⟨v81, e81, h⟩ := bO_some h
      refine ww_getR 81 X dX6_take_81 fG_X6_26 e81 ?_
      refine ww_aload_n 84 X dX6_take_84 0 rfl rfl ?_
      obtain ⟨v85, e85, h⟩ := bO_some h
      refine ww_getR 85 X dX6_take_85 fG_X6_20 e85 ?_
      refine ww_aload_n 88 X dX6_take_88 0 rfl rfl ?_
      obtain ⟨v89, e89, h⟩ := bO_some h
      refine ww_getR 89 X dX6_take_89 fG_X6_26 e89 ?_
      obtain ⟨_, f92, h⟩ := bO_some h
      obtain ⟨M92, e92, h⟩ := bO_some h
      refine ww_callVV0 92 X dX6_take_92 mY_X6_times mL_X6_66 (rcv_spec f92) ⟨_, _, rfl⟩ (by decide) (As := [.ref v81, .ref v85, .ref v89]) (rest := []) rfl rfl ⟨Nat.le_of_ble_eq_true rfl, Nat.le_of_ble_eq_true rfl⟩ (Nat.le_of_ble_eq_true rfl) (fun l D A => c_X6_times l D A e92) ?_
      refine ww_aload_n 95 X dX6_take_95 0 rfl rfl ?_
      refine ww_aload_n 96 X dX6_take_96 0 rfl rfl ?_
      obtain ⟨v97, e97, h⟩ := bO_some h
      refine ww_getR 97 X dX6_take_97 fG_X6_26 e97 ?_
      refine ww_aload_n 100 X dX6_take_100 0 rfl rfl ?_
      obtain ⟨v101, e101, h⟩ := bO_some h
      refine ww_getR 101 X dX6_take_101 fG_X6_17 e101 ?_
      refine ww_aload_n 104 X dX6_take_104 0 rfl rfl ?_
      obtain ⟨v105, e105, h⟩ := bO_some h
      refine ww_getR 105 X dX6_take_105 fG_X6_26 e105 ?_
      obtain ⟨_, f108, h⟩ := bO_some h
      obtain ⟨M108, e108, h⟩ := bO_some h
      refine ww_callVV0 108 X dX6_take_108 mY_X6_times mL_X6_66 (rcv_spec f108) ⟨_, _, rfl⟩ (by decide) (As := [.ref v97, .ref v101, .ref v105]) (rest := []) rfl rfl ⟨Nat.le_of_ble_eq_true rfl, Nat.le_of_ble_eq_true rfl⟩ (Nat.le_of_ble_eq_true rfl) (fun l D A => c_X6_times l D A e108) ?_
      refine ww_aload_n 111 X dX6_take_111 0 rfl rfl ?_
      refine ww_aload 112 X dX6_take_112 4 rfl ?_
      refine ww_aload_n 114 X dX6_take_114 0 rfl rfl ?_
      obtain ⟨v115, e115, h⟩ := bO_some h
      refine ww_getR 115 X dX6_take_115 fG_X6_20 e115 ?_
      refine ww_aload 118 X dX6_take_118 4 rfl ?_
      obtain ⟨_, f120, h⟩ := bO_some h
      obtain ⟨M120, e120, h⟩ := bO_some h
      refine ww_callVV0 120 X dX6_take_120 mY_X6_times mL_X6_66 (rcv_spec f120) ⟨_, _, rfl⟩ (by decide) (As := [.ref l4, .ref v115, .ref l4]) (rest := []) rfl rfl ⟨Nat.le_of_ble_eq_true rfl, Nat.le_of_ble_eq_true rfl⟩ (Nat.le_of_ble_eq_true rfl) (fun l D A => c_X6_times l D A e120) ?_
      refine ww_aload_n 123 X dX6_take_123 0 rfl rfl ?_
      refine ww_aload 124 X dX6_take_124 4 rfl ?_
      refine ww_aload_n 126 X dX6_take_126 0 rfl rfl ?_
      obtain ⟨v127, e127, h⟩ := bO_some h
      refine ww_getR 127 X dX6_take_127 fG_X6_26 e127 ?_
      refine ww_aload 130 X dX6_take_130 4 rfl ?_
      obtain ⟨_, f132, h⟩ := bO_some h
      obtain ⟨M132, e132, h⟩ := bO_some h
      refine ww_callVV0 132 X dX6_take_132 mY_X6_plus mL_X6_62 (rcv_spec f132) ⟨_, _, rfl⟩ (by decide) (As := [.ref l4, .ref v127, .ref l4]) (rest := []) rfl rfl ⟨Nat.le_of_ble_eq_true rfl, Nat.le_of_ble_eq_true rfl⟩ (Nat.le_of_ble_eq_true rfl) (fun l D A => c_X6_plus l D A e132) ?_
      refine ww_iinc 135 X dX6_take_135 (lv' := [(0, .ref l0), (1, .ref l1), (2, .int l2), (3, .int l3), (4, .ref l4), (5, .int l5), (7, .int (l7 + (-1))), (8, .int (if (l3 - (l7 * l5)) < (0 : Int32) then (0 : Int32) else (l3 - (l7 * l5)))), (9, .int (l3 - ((l7 - (1 : Int32)) * l5)))]) 6 rfl rfl (by decide) [1, 2, 3, 4, 5, 6, 0, 7, 8] rfl ?_
      refine ww_goto 138 32 X dX6_take_138 (by decide) ?_
      exact ww_sub [0, 1, 2, 3, 4, 5, 6] rfl (ih _ _ _ _ _ _ _ _ h)
set_option maxHeartbeats 4000000 in
set_option maxRecDepth 100000 in
theorem wP_X6_take {G : mG} {F : Nat} {x : mXT} {sz : Nat} {M0 : mM} (X : mCX G RX6 cX6_take 10 none "take" rmX6_take x) (hQ : mQV x M0 (sz, 0, 0)) {l0 : Nat} {l1 : Nat} {l2 : Int32} {l3 : Int32} {l4 : Nat} {M : mM} (h : P_X6_take G F l0 l1 l2 l3 l4 M = some M0) : WW x (sz, 0, 0) M 0 [(0, .ref l0), (1, .ref l1), (2, .int l2), (3, .int l3), (4, .ref l4)] [] := by
  unfold P_X6_take at h
  refine ww_iconst 0 X (v := (4 : Int32)) dX6_take_0 (by decide) ?_
  refine ww_aload_n 1 X dX6_take_1 0 rfl rfl ?_
  obtain ⟨v2, e2, h⟩ := bO_some h
  refine ww_getI 2 X dX6_take_2 fG_X6_7 e2 ?_
  refine ww_imul 5 X dX6_take_5 ?_
  refine ww_istore 6 X dX6_take_6 (lv' := [(0, .ref l0), (1, .ref l1), (2, .int l2), (3, .int l3), (4, .ref l4), (5, .int ((4 : Int32) * v2))]) (by decide) [1, 2, 3, 4, 5, 0] rfl ?_
  refine ww_iload_n 8 X dX6_take_8 3 rfl rfl ?_
  refine ww_iload 9 X dX6_take_9 5 rfl ?_
  refine ww_iadd 11 X dX6_take_11 ?_
  refine ww_iconst 12 X (v := (1 : Int32)) dX6_take_12 (by decide) ?_
  refine ww_isub 13 X dX6_take_13 ?_
  refine ww_iload 14 X dX6_take_14 5 rfl ?_
  obtain ⟨v16, e16, h⟩ := bO_some h
  refine ww_idiv 16 X dX6_take_16 e16 ?_
  refine ww_istore 17 X dX6_take_17 (lv' := [(0, .ref l0), (1, .ref l1), (2, .int l2), (3, .int l3), (4, .ref l4), (5, .int ((4 : Int32) * v2)), (6, .int v16)]) (by decide) [1, 2, 3, 4, 5, 6, 0] rfl ?_
  refine ww_aload_n 19 X dX6_take_19 0 rfl rfl ?_
  refine ww_aload_n 20 X dX6_take_20 1 rfl rfl ?_
  refine ww_iload_n 21 X dX6_take_21 2 rfl rfl ?_
  refine ww_iconst 22 X (v := (0 : Int32)) dX6_take_22 (by decide) ?_
  refine ww_aload 23 X dX6_take_23 4 rfl ?_
  obtain ⟨_, f25, h⟩ := bO_some h
  obtain ⟨M25, e25, h⟩ := bO_some h
  refine ww_callVV0 25 X dX6_take_25 mY_X6_loadLimbs mL_X6_50 (rcv_spec f25) ⟨_, _, rfl⟩ (by decide) (As := [.ref l1, .int l2, .int (0 : Int32), .ref l4]) (rest := []) rfl rfl ⟨Nat.le_of_ble_eq_true rfl, Nat.le_of_ble_eq_true rfl⟩ (Nat.le_of_ble_eq_true rfl) (fun l D A => c_X6_loadLimbs l D A e25) ?_
  refine ww_iload 28 X dX6_take_28 6 rfl ?_
  refine ww_istore 30 X dX6_take_30 (lv' := [(0, .ref l0), (1, .ref l1), (2, .int l2), (3, .int l3), (4, .ref l4), (5, .int ((4 : Int32) * v2)), (6, .int v16), (7, .int v16)]) (by decide) [1, 2, 3, 4, 5, 6, 7, 0] rfl ?_
  exact ww_sub [0, 1, 2, 3, 4, 5, 7] rfl (wB_X6_take_32 X hQ F _ _ _ _ _ _ _ _ h)
theorem c_X6_take {G : mG} {F sz : Nat} {M0 : mM} (l : Launch) (D : mD) (A : Nat → Prop) {l0 : Nat} {l1 : Nat} {l2 : Int32} {l3 : Int32} {l4 : Nat} {M : mM} (h : P_X6_take G F l0 l1 l2 l3 l4 M = some M0) : mMetV l D G A yX6_take cX6_take 10 none 3 115 0 0 [.ref l0, .ref l1, .int l2, .int l3, .ref l4] M sz M0 sz := mMetV_of l D G A (by decide) (Nat.le_of_ble_eq_true rfl) (fun x X hQ => wP_X6_take X hQ h)
/-! SealedTokens$Modulus.lead([J)V -/
theorem dX6_lead_0 : decode cX6_lead 0 = .ok (.aload_n 0, 1) := by decide +kernel
theorem dX6_lead_1 : decode cX6_lead 1 = .ok (.aload_n 1, 1) := by decide +kernel
theorem dX6_lead_2 : decode cX6_lead 2 = .ok (.aload_n 0, 1) := by decide +kernel
theorem dX6_lead_3 : decode cX6_lead 3 = .ok (.getfield 20, 3) := by decide +kernel
theorem dX6_lead_6 : decode cX6_lead 6 = .ok (.aload_n 1, 1) := by decide +kernel
theorem dX6_lead_7 : decode cX6_lead 7 = .ok (.invokevirtual 66, 3) := by decide +kernel
theorem dX6_lead_10 : decode cX6_lead 10 = .ok (.return_, 1) := by decide +kernel
abbrev rmX6_lead : Room := { frames := 3, cells := 0, slots := 0, locals := 115 }
set_option maxHeartbeats 4000000 in
set_option maxRecDepth 100000 in
theorem wP_X6_lead {G : mG} {F : Nat} {x : mXT} {sz : Nat} {M0 : mM} (X : mCX G RX6 cX6_lead 2 none "lead" rmX6_lead x) (hQ : mQV x M0 (sz, 0, 0)) {l0 : Nat} {l1 : Nat} {M : mM} (h : P_X6_lead G F l0 l1 M = some M0) : WW x (sz, 0, 0) M 0 [(0, .ref l0), (1, .ref l1)] [] := by
  unfold P_X6_lead at h
  refine ww_aload_n 0 X dX6_lead_0 0 rfl rfl ?_
  refine ww_aload_n 1 X dX6_lead_1 1 rfl rfl ?_
  refine ww_aload_n 2 X dX6_lead_2 0 rfl rfl ?_
  obtain ⟨v3, e3, h⟩ := bO_some h
  refine ww_getR 3 X dX6_lead_3 fG_X6_20 e3 ?_
  refine ww_aload_n 6 X dX6_lead_6 1 rfl rfl ?_
  obtain ⟨_, f7, h⟩ := bO_some h
  obtain ⟨M7, e7, h⟩ := bO_some h
  refine ww_callVV0 7 X dX6_lead_7 mY_X6_times mL_X6_66 (rcv_spec f7) ⟨_, _, rfl⟩ (by decide) (As := [.ref l1, .ref v3, .ref l1]) (rest := []) rfl rfl ⟨Nat.le_of_ble_eq_true rfl, Nat.le_of_ble_eq_true rfl⟩ (Nat.le_of_ble_eq_true rfl) (fun l D A => c_X6_times l D A e7) ?_
  exact ww_vretE 10 X hQ dX6_lead_10 h
theorem c_X6_lead {G : mG} {F sz : Nat} {M0 : mM} (l : Launch) (D : mD) (A : Nat → Prop) {l0 : Nat} {l1 : Nat} {M : mM} (h : P_X6_lead G F l0 l1 M = some M0) : mMetV l D G A yX6_lead cX6_lead 2 none 3 115 0 0 [.ref l0, .ref l1] M sz M0 sz := mMetV_of l D G A (by decide) (Nat.le_of_ble_eq_true rfl) (fun x X hQ => wP_X6_lead X hQ h)
/-! SealedTokens$Curve.isSecret(LSealedTokens$Bytes;I)Z -/
theorem dX3_isSecret_0 : decode cX3_isSecret 0 = .ok (.aload_n 1, 1) := by decide +kernel
theorem dX3_isSecret_1 : decode cX3_isSecret 1 = .ok (.iload_n 2, 1) := by decide +kernel
theorem dX3_isSecret_2 : decode cX3_isSecret 2 = .ok (.aload_n 0, 1) := by decide +kernel
theorem dX3_isSecret_3 : decode cX3_isSecret 3 = .ok (.getfield 44, 3) := by decide +kernel
theorem dX3_isSecret_6 : decode cX3_isSecret 6 = .ok (.iconst 0, 1) := by decide +kernel
theorem dX3_isSecret_7 : decode cX3_isSecret 7 = .ok (.bipush 32, 2) := by decide +kernel
theorem dX3_isSecret_9 : decode cX3_isSecret 9 = .ok (.invokestatic 119, 3) := by decide +kernel
theorem dX3_isSecret_12 : decode cX3_isSecret 12 = .ok (.ifCond .ge 22, 3) := by decide +kernel
theorem dX3_isSecret_15 : decode cX3_isSecret 15 = .ok (.aload_n 1, 1) := by decide +kernel
theorem dX3_isSecret_16 : decode cX3_isSecret 16 = .ok (.iload_n 2, 1) := by decide +kernel
theorem dX3_isSecret_17 : decode cX3_isSecret 17 = .ok (.aload_n 0, 1) := by decide +kernel
theorem dX3_isSecret_18 : decode cX3_isSecret 18 = .ok (.getfield 79, 3) := by decide +kernel
theorem dX3_isSecret_21 : decode cX3_isSecret 21 = .ok (.iconst 0, 1) := by decide +kernel
theorem dX3_isSecret_22 : decode cX3_isSecret 22 = .ok (.bipush 32, 2) := by decide +kernel
theorem dX3_isSecret_24 : decode cX3_isSecret 24 = .ok (.invokestatic 119, 3) := by decide +kernel
theorem dX3_isSecret_27 : decode cX3_isSecret 27 = .ok (.ifCond .le 7, 3) := by decide +kernel
theorem dX3_isSecret_30 : decode cX3_isSecret 30 = .ok (.iconst 1, 1) := by decide +kernel
theorem dX3_isSecret_31 : decode cX3_isSecret 31 = .ok (.goto 4, 3) := by decide +kernel
theorem dX3_isSecret_34 : decode cX3_isSecret 34 = .ok (.iconst 0, 1) := by decide +kernel
theorem dX3_isSecret_35 : decode cX3_isSecret 35 = .ok (.ireturn, 1) := by decide +kernel
abbrev rmX3_isSecret : Room := { frames := 2, cells := 0, slots := 0, locals := 48 }
set_option maxHeartbeats 4000000 in
set_option maxRecDepth 100000 in
theorem wP_X3_isSecret {G : mG} {F : Nat} {x : mXT} {sz : Nat} {r0 : Int32} {M0 : mM} (X : mCX G RX3 cX3_isSecret 3 (some .boolean) "isSecret" rmX3_isSecret x) (hQ : mQI x r0 M0 (sz, 0, 0)) {l0 : Nat} {l1 : Nat} {l2 : Int32} {M : mM} (h : P_X3_isSecret G F l0 l1 l2 M = some (r0, M0)) : WW x (sz, 0, 0) M 0 [(0, .ref l0), (1, .ref l1), (2, .int l2)] [] := by
  unfold P_X3_isSecret at h
  refine ww_aload_n 0 X dX3_isSecret_0 1 rfl rfl ?_
  refine ww_iload_n 1 X dX3_isSecret_1 2 rfl rfl ?_
  refine ww_aload_n 2 X dX3_isSecret_2 0 rfl rfl ?_
  obtain ⟨v3, e3, h⟩ := bO_some h
  refine ww_getR 3 X dX3_isSecret_3 fG_X3_44 e3 ?_
  refine ww_iconst 6 X (v := (0 : Int32)) dX3_isSecret_6 (by decide) ?_
  refine ww_bipush 7 X (v := (32 : Int32)) dX3_isSecret_7 (by decide) ?_
  obtain ⟨v9, M9, e9, h⟩ := bP_some h
  refine ww_callSI0 9 X dX3_isSecret_9 mY_X0_compare mL_X3_119 (As := [.ref l1, .int l2, .ref v3, .int (0 : Int32), .int (32 : Int32)]) (rest := []) rfl rfl ⟨Nat.le_of_ble_eq_true rfl, Nat.le_of_ble_eq_true rfl⟩ (Nat.le_of_ble_eq_true rfl) (fun l D A => c_X0_compare l D A e9) ?_
  refine ww_if_ge 12 34 X dX3_isSecret_12 (by decide) (fun q => ?_) (fun q => ?_)
  · replace h := (if_pos q).symm.trans h
    refine ww_iconst 34 X (v := (0 : Int32)) dX3_isSecret_34 (by decide) ?_
    exact ww_zretE 35 X hQ dX3_isSecret_35 h
  · replace h := (if_neg q).symm.trans h
    refine ww_aload_n 15 X dX3_isSecret_15 1 rfl rfl ?_
    refine ww_iload_n 16 X dX3_isSecret_16 2 rfl rfl ?_
    refine ww_aload_n 17 X dX3_isSecret_17 0 rfl rfl ?_
    obtain ⟨v18, e18, h⟩ := bO_some h
    refine ww_getR 18 X dX3_isSecret_18 fG_X3_79 e18 ?_
    refine ww_iconst 21 X (v := (0 : Int32)) dX3_isSecret_21 (by decide) ?_
    refine ww_bipush 22 X (v := (32 : Int32)) dX3_isSecret_22 (by decide) ?_
    obtain ⟨v24, M24, e24, h⟩ := bP_some h
    refine ww_callSI0 24 X dX3_isSecret_24 mY_X0_compare mL_X3_119 (As := [.ref l1, .int l2, .ref v18, .int (0 : Int32), .int (32 : Int32)]) (rest := []) rfl rfl ⟨Nat.le_of_ble_eq_true rfl, Nat.le_of_ble_eq_true rfl⟩ (Nat.le_of_ble_eq_true rfl) (fun l D A => c_X0_compare l D A e24) ?_
    refine ww_if_le 27 34 X dX3_isSecret_27 (by decide) (fun q => ?_) (fun q => ?_)
    · replace h := (if_pos q).symm.trans h
      refine ww_iconst 34 X (v := (0 : Int32)) dX3_isSecret_34 (by decide) ?_
      exact ww_zretE 35 X hQ dX3_isSecret_35 h
    · replace h := (if_neg q).symm.trans h
      refine ww_iconst 30 X (v := (1 : Int32)) dX3_isSecret_30 (by decide) ?_
      refine ww_goto 31 35 X dX3_isSecret_31 (by decide) ?_
      exact ww_zretE 35 X hQ dX3_isSecret_35 h
theorem c_X3_isSecret {G : mG} {F sz : Nat} {r0 : Int32} {M0 : mM} (l : Launch) (D : mD) (A : Nat → Prop) {l0 : Nat} {l1 : Nat} {l2 : Int32} {M : mM} (h : P_X3_isSecret G F l0 l1 l2 M = some (r0, M0)) : mMetI l D G A yX3_isSecret cX3_isSecret 3 (some .boolean) 2 48 0 0 [.ref l0, .ref l1, .int l2] M sz r0 M0 sz := mMetI_of l D G A (by decide) (Nat.le_of_ble_eq_true rfl) (fun x X hQ => wP_X3_isSecret X hQ h)
/-! SealedTokens$Modulus.minus([J[J[J)V -/
theorem dX6_minus_0 : decode cX6_minus 0 = .ok (.lconst 0, 1) := by decide +kernel
theorem dX6_minus_1 : decode cX6_minus 1 = .ok (.lstore 4, 2) := by decide +kernel
theorem dX6_minus_3 : decode cX6_minus 3 = .ok (.iconst 0, 1) := by decide +kernel
theorem dX6_minus_4 : decode cX6_minus 4 = .ok (.istore 6, 2) := by decide +kernel
theorem dX6_minus_6 : decode cX6_minus 6 = .ok (.iload 6, 2) := by decide +kernel
theorem dX6_minus_8 : decode cX6_minus 8 = .ok (.aload_n 0, 1) := by decide +kernel
theorem dX6_minus_9 : decode cX6_minus 9 = .ok (.getfield 7, 3) := by decide +kernel
theorem dX6_minus_12 : decode cX6_minus 12 = .ok (.if_icmp .ge 40, 3) := by decide +kernel
theorem dX6_minus_15 : decode cX6_minus 15 = .ok (.lload 4, 2) := by decide +kernel
theorem dX6_minus_17 : decode cX6_minus 17 = .ok (.aload_n 1, 1) := by decide +kernel
theorem dX6_minus_18 : decode cX6_minus 18 = .ok (.iload 6, 2) := by decide +kernel
theorem dX6_minus_20 : decode cX6_minus 20 = .ok (.laload, 1) := by decide +kernel
theorem dX6_minus_21 : decode cX6_minus 21 = .ok (.aload_n 2, 1) := by decide +kernel
theorem dX6_minus_22 : decode cX6_minus 22 = .ok (.iload 6, 2) := by decide +kernel
theorem dX6_minus_24 : decode cX6_minus 24 = .ok (.laload, 1) := by decide +kernel
theorem dX6_minus_25 : decode cX6_minus 25 = .ok (.lsub, 1) := by decide +kernel
theorem dX6_minus_26 : decode cX6_minus 26 = .ok (.ladd, 1) := by decide +kernel
theorem dX6_minus_27 : decode cX6_minus 27 = .ok (.lstore 4, 2) := by decide +kernel
theorem dX6_minus_29 : decode cX6_minus 29 = .ok (.aload_n 3, 1) := by decide +kernel
theorem dX6_minus_30 : decode cX6_minus 30 = .ok (.iload 6, 2) := by decide +kernel
theorem dX6_minus_32 : decode cX6_minus 32 = .ok (.lload 4, 2) := by decide +kernel
theorem dX6_minus_34 : decode cX6_minus 34 = .ok (.ldc2_w 56, 3) := by decide +kernel
theorem dX6_minus_37 : decode cX6_minus 37 = .ok (.land, 1) := by decide +kernel
theorem dX6_minus_38 : decode cX6_minus 38 = .ok (.lastore, 1) := by decide +kernel
theorem dX6_minus_39 : decode cX6_minus 39 = .ok (.lload 4, 2) := by decide +kernel
theorem dX6_minus_41 : decode cX6_minus 41 = .ok (.bipush 32, 2) := by decide +kernel
theorem dX6_minus_43 : decode cX6_minus 43 = .ok (.lshr, 1) := by decide +kernel
theorem dX6_minus_44 : decode cX6_minus 44 = .ok (.lstore 4, 2) := by decide +kernel
theorem dX6_minus_46 : decode cX6_minus 46 = .ok (.iinc 6 1, 3) := by decide +kernel
theorem dX6_minus_49 : decode cX6_minus 49 = .ok (.goto (-43), 3) := by decide +kernel
theorem dX6_minus_52 : decode cX6_minus 52 = .ok (.lload 4, 2) := by decide +kernel
theorem dX6_minus_54 : decode cX6_minus 54 = .ok (.lconst 0, 1) := by decide +kernel
theorem dX6_minus_55 : decode cX6_minus 55 = .ok (.lcmp, 1) := by decide +kernel
theorem dX6_minus_56 : decode cX6_minus 56 = .ok (.ifCond .ge 58, 3) := by decide +kernel
theorem dX6_minus_59 : decode cX6_minus 59 = .ok (.lconst 0, 1) := by decide +kernel
theorem dX6_minus_60 : decode cX6_minus 60 = .ok (.lstore 4, 2) := by decide +kernel
theorem dX6_minus_62 : decode cX6_minus 62 = .ok (.iconst 0, 1) := by decide +kernel
theorem dX6_minus_63 : decode cX6_minus 63 = .ok (.istore 6, 2) := by decide +kernel
theorem dX6_minus_65 : decode cX6_minus 65 = .ok (.iload 6, 2) := by decide +kernel
theorem dX6_minus_67 : decode cX6_minus 67 = .ok (.aload_n 0, 1) := by decide +kernel
theorem dX6_minus_68 : decode cX6_minus 68 = .ok (.getfield 7, 3) := by decide +kernel
theorem dX6_minus_71 : decode cX6_minus 71 = .ok (.if_icmp .ge 43, 3) := by decide +kernel
theorem dX6_minus_74 : decode cX6_minus 74 = .ok (.lload 4, 2) := by decide +kernel
theorem dX6_minus_76 : decode cX6_minus 76 = .ok (.aload_n 3, 1) := by decide +kernel
theorem dX6_minus_77 : decode cX6_minus 77 = .ok (.iload 6, 2) := by decide +kernel
theorem dX6_minus_79 : decode cX6_minus 79 = .ok (.laload, 1) := by decide +kernel
theorem dX6_minus_80 : decode cX6_minus 80 = .ok (.aload_n 0, 1) := by decide +kernel
theorem dX6_minus_81 : decode cX6_minus 81 = .ok (.getfield 13, 3) := by decide +kernel
theorem dX6_minus_84 : decode cX6_minus 84 = .ok (.iload 6, 2) := by decide +kernel
theorem dX6_minus_86 : decode cX6_minus 86 = .ok (.laload, 1) := by decide +kernel
theorem dX6_minus_87 : decode cX6_minus 87 = .ok (.ladd, 1) := by decide +kernel
theorem dX6_minus_88 : decode cX6_minus 88 = .ok (.ladd, 1) := by decide +kernel
theorem dX6_minus_89 : decode cX6_minus 89 = .ok (.lstore 4, 2) := by decide +kernel
theorem dX6_minus_91 : decode cX6_minus 91 = .ok (.aload_n 3, 1) := by decide +kernel
theorem dX6_minus_92 : decode cX6_minus 92 = .ok (.iload 6, 2) := by decide +kernel
theorem dX6_minus_94 : decode cX6_minus 94 = .ok (.lload 4, 2) := by decide +kernel
theorem dX6_minus_96 : decode cX6_minus 96 = .ok (.ldc2_w 56, 3) := by decide +kernel
theorem dX6_minus_99 : decode cX6_minus 99 = .ok (.land, 1) := by decide +kernel
theorem dX6_minus_100 : decode cX6_minus 100 = .ok (.lastore, 1) := by decide +kernel
theorem dX6_minus_101 : decode cX6_minus 101 = .ok (.lload 4, 2) := by decide +kernel
theorem dX6_minus_103 : decode cX6_minus 103 = .ok (.bipush 32, 2) := by decide +kernel
theorem dX6_minus_105 : decode cX6_minus 105 = .ok (.lushr, 1) := by decide +kernel
theorem dX6_minus_106 : decode cX6_minus 106 = .ok (.lstore 4, 2) := by decide +kernel
theorem dX6_minus_108 : decode cX6_minus 108 = .ok (.iinc 6 1, 3) := by decide +kernel
theorem dX6_minus_111 : decode cX6_minus 111 = .ok (.goto (-46), 3) := by decide +kernel
theorem dX6_minus_114 : decode cX6_minus 114 = .ok (.return_, 1) := by decide +kernel
abbrev rmX6_minus : Room := { frames := 0, cells := 0, slots := 0, locals := 0 }
set_option maxHeartbeats 4000000 in
set_option maxRecDepth 100000 in
theorem wB_X6_minus_65 {G : mG} {F : Nat} {x : mXT} {sz : Nat} {M0 : mM} (X : mCX G RX6 cX6_minus 7 none "minus" rmX6_minus x) (hQ : mQV x M0 (sz, 0, 0)) : ∀ (n : Nat) (l0 : Nat) (l3 : Nat) (l4 : Int64) (l6 : Int32) (M : mM), B_X6_minus_65 G F n l0 l3 l4 l6 M = some M0 → WW x (sz, 0, 0) M 65 [(0, .ref l0), (3, .ref l3), (4, .long l4), (6, .int l6)] [] := by
  intro n
  induction n with
  | zero =>
    intro l0 l3 l4 l6 M h
    exact nomatch (show (none : Option mM) = some M0 from h)
  | succ n ih =>
    intro l0 l3 l4 l6 M h
    rw [B_X6_minus_65] at h
    refine ww_iload 65 X dX6_minus_65 3 rfl ?_
    refine ww_aload_n 67 X dX6_minus_67 0 rfl rfl ?_
    obtain ⟨v68, e68, h⟩ := bO_some h
    refine ww_getI 68 X dX6_minus_68 fG_X6_7 e68 ?_
    refine ww_icmp_ge 71 114 X dX6_minus_71 (by decide) (fun q => ?_) (fun q => ?_)
    · replace h := (if_pos q).symm.trans h
      exact ww_vretE 114 X hQ dX6_minus_114 h
    · replace h := (if_neg q).symm.trans h
      refine ww_lload 74 X dX6_minus_74 2 rfl ?_
      refine ww_aload_n 76 X dX6_minus_76 1 rfl rfl ?_
      refine ww_iload 77 X dX6_minus_77 3 rfl ?_
      obtain ⟨v79, e79, h⟩ := bO_some h
      refine ww_lald 79 X dX6_minus_79 e79 ?_
      refine ww_aload_n 80 X dX6_minus_80 0 rfl rfl ?_
      obtain ⟨v81, e81, h⟩ := bO_some h
      refine ww_getR 81 X dX6_minus_81 fG_X6_13 e81 ?_
      refine ww_iload 84 X dX6_minus_84 3 rfl ?_
      obtain ⟨v86, e86, h⟩ := bO_some h
      refine ww_lald 86 X dX6_minus_86 e86 ?_
      refine ww_ladd 87 X dX6_minus_87 ?_
      refine ww_ladd 88 X dX6_minus_88 ?_
      refine ww_lstore 89 X dX6_minus_89 (lv' := [(0, .ref l0), (3, .ref l3), (4, .long (l4 + (v79 + v86))), (6, .int l6)]) (by decide) [1, 2, 0, 3] rfl ?_
      refine ww_aload_n 91 X dX6_minus_91 1 rfl rfl ?_
      refine ww_iload 92 X dX6_minus_92 3 rfl ?_
      refine ww_lload 94 X dX6_minus_94 2 rfl ?_
      refine ww_ldc2 96 X (v := (4294967295 : Int64)) dX6_minus_96 kL_X6_56 ?_
      refine ww_land 99 X dX6_minus_99 ?_
      obtain ⟨M100, e100, h⟩ := bO_some h
      refine ww_last 100 X dX6_minus_100 e100 ?_
      refine ww_lload 101 X dX6_minus_101 2 rfl ?_
      refine ww_bipush 103 X (v := (32 : Int32)) dX6_minus_103 (by decide) ?_
      refine ww_lushr 105 X dX6_minus_105 ?_
      refine ww_lstore 106 X dX6_minus_106 (lv' := [(0, .ref l0), (3, .ref l3), (4, .long (ushL (l4 + (v79 + v86)) (32 : Int32))), (6, .int l6)]) (by decide) [1, 2, 0, 3] rfl ?_
      refine ww_iinc 108 X dX6_minus_108 (lv' := [(0, .ref l0), (3, .ref l3), (4, .long (ushL (l4 + (v79 + v86)) (32 : Int32))), (6, .int (l6 + 1))]) 3 rfl rfl (by decide) [1, 2, 3, 0] rfl ?_
      refine ww_goto 111 65 X dX6_minus_111 (by decide) ?_
      exact (ih _ _ _ _ _ h)
set_option maxHeartbeats 4000000 in
set_option maxRecDepth 100000 in
theorem wB_X6_minus_6 {G : mG} {F : Nat} {x : mXT} {sz : Nat} {M0 : mM} (X : mCX G RX6 cX6_minus 7 none "minus" rmX6_minus x) (hQ : mQV x M0 (sz, 0, 0)) : ∀ (n : Nat) (l0 : Nat) (l1 : Nat) (l2 : Nat) (l3 : Nat) (l4 : Int64) (l6 : Int32) (M : mM), B_X6_minus_6 G F n l0 l1 l2 l3 l4 l6 M = some M0 → WW x (sz, 0, 0) M 6 [(0, .ref l0), (1, .ref l1), (2, .ref l2), (3, .ref l3), (4, .long l4), (6, .int l6)] [] := by
  intro n
  induction n with
  | zero =>
    intro l0 l1 l2 l3 l4 l6 M h
    exact nomatch (show (none : Option mM) = some M0 from h)
  | succ n ih =>
    intro l0 l1 l2 l3 l4 l6 M h
    rw [B_X6_minus_6] at h
    refine ww_iload 6 X dX6_minus_6 5 rfl ?_
    refine ww_aload_n 8 X dX6_minus_8 0 rfl rfl ?_
    obtain ⟨v9, e9, h⟩ := bO_some h
    refine ww_getI 9 X dX6_minus_9 fG_X6_7 e9 ?_
    refine ww_icmp_ge 12 52 X dX6_minus_12 (by decide) (fun q => ?_) (fun q => ?_)
    · replace h := (if_pos q).symm.trans h
      refine ww_lload 52 X dX6_minus_52 4 rfl ?_
      refine ww_lconst 54 X (v := (0 : Int64)) dX6_minus_54 (by decide) ?_
      refine ww_lcmp 55 X dX6_minus_55 ?_
      refine ww_if_ge 56 114 X dX6_minus_56 (by decide) (fun q => ?_) (fun q => ?_)
      · replace h := (if_pos q).symm.trans h
        exact ww_vretE 114 X hQ dX6_minus_114 h
      · replace h := (if_neg q).symm.trans h
        refine ww_lconst 59 X (v := (0 : Int64)) dX6_minus_59 (by decide) ?_
        refine ww_lstore 60 X dX6_minus_60 (lv' := [(0, .ref l0), (1, .ref l1), (2, .ref l2), (3, .ref l3), (4, .long (0 : Int64)), (6, .int l6)]) (by decide) [1, 2, 3, 4, 0, 5] rfl ?_
        refine ww_iconst 62 X (v := (0 : Int32)) dX6_minus_62 (by decide) ?_
        refine ww_istore 63 X dX6_minus_63 (lv' := [(0, .ref l0), (1, .ref l1), (2, .ref l2), (3, .ref l3), (4, .long (0 : Int64)), (6, .int (0 : Int32))]) (by decide) [1, 2, 3, 4, 5, 0] rfl ?_
        exact ww_sub [0, 3, 4, 5] rfl (wB_X6_minus_65 X hQ F _ _ _ _ _ h)
    · replace h := (if_neg q).symm.trans h
      refine ww_lload 15 X dX6_minus_15 4 rfl ?_
      refine ww_aload_n 17 X dX6_minus_17 1 rfl rfl ?_
      refine ww_iload 18 X dX6_minus_18 5 rfl ?_
      obtain ⟨v20, e20, h⟩ := bO_some h
      refine ww_lald 20 X dX6_minus_20 e20 ?_
      refine ww_aload_n 21 X dX6_minus_21 2 rfl rfl ?_
      refine ww_iload 22 X dX6_minus_22 5 rfl ?_
      obtain ⟨v24, e24, h⟩ := bO_some h
      refine ww_lald 24 X dX6_minus_24 e24 ?_
      refine ww_lsub 25 X dX6_minus_25 ?_
      refine ww_ladd 26 X dX6_minus_26 ?_
      refine ww_lstore 27 X dX6_minus_27 (lv' := [(0, .ref l0), (1, .ref l1), (2, .ref l2), (3, .ref l3), (4, .long (l4 + (v20 - v24))), (6, .int l6)]) (by decide) [1, 2, 3, 4, 0, 5] rfl ?_
      refine ww_aload_n 29 X dX6_minus_29 3 rfl rfl ?_
      refine ww_iload 30 X dX6_minus_30 5 rfl ?_
      refine ww_lload 32 X dX6_minus_32 4 rfl ?_
      refine ww_ldc2 34 X (v := (4294967295 : Int64)) dX6_minus_34 kL_X6_56 ?_
      refine ww_land 37 X dX6_minus_37 ?_
      obtain ⟨M38, e38, h⟩ := bO_some h
      refine ww_last 38 X dX6_minus_38 e38 ?_
      refine ww_lload 39 X dX6_minus_39 4 rfl ?_
      refine ww_bipush 41 X (v := (32 : Int32)) dX6_minus_41 (by decide) ?_
      refine ww_lshr 43 X dX6_minus_43 ?_
      refine ww_lstore 44 X dX6_minus_44 (lv' := [(0, .ref l0), (1, .ref l1), (2, .ref l2), (3, .ref l3), (4, .long (shrL (l4 + (v20 - v24)) (32 : Int32))), (6, .int l6)]) (by decide) [1, 2, 3, 4, 0, 5] rfl ?_
      refine ww_iinc 46 X dX6_minus_46 (lv' := [(0, .ref l0), (1, .ref l1), (2, .ref l2), (3, .ref l3), (4, .long (shrL (l4 + (v20 - v24)) (32 : Int32))), (6, .int (l6 + 1))]) 5 rfl rfl (by decide) [1, 2, 3, 4, 5, 0] rfl ?_
      refine ww_goto 49 6 X dX6_minus_49 (by decide) ?_
      exact (ih _ _ _ _ _ _ _ h)
set_option maxHeartbeats 4000000 in
set_option maxRecDepth 100000 in
theorem wP_X6_minus {G : mG} {F : Nat} {x : mXT} {sz : Nat} {M0 : mM} (X : mCX G RX6 cX6_minus 7 none "minus" rmX6_minus x) (hQ : mQV x M0 (sz, 0, 0)) {l0 : Nat} {l1 : Nat} {l2 : Nat} {l3 : Nat} {M : mM} (h : P_X6_minus G F l0 l1 l2 l3 M = some M0) : WW x (sz, 0, 0) M 0 [(0, .ref l0), (1, .ref l1), (2, .ref l2), (3, .ref l3)] [] := by
  unfold P_X6_minus at h
  refine ww_lconst 0 X (v := (0 : Int64)) dX6_minus_0 (by decide) ?_
  refine ww_lstore 1 X dX6_minus_1 (lv' := [(0, .ref l0), (1, .ref l1), (2, .ref l2), (3, .ref l3), (4, .long (0 : Int64))]) (by decide) [1, 2, 3, 4, 0] rfl ?_
  refine ww_iconst 3 X (v := (0 : Int32)) dX6_minus_3 (by decide) ?_
  refine ww_istore 4 X dX6_minus_4 (lv' := [(0, .ref l0), (1, .ref l1), (2, .ref l2), (3, .ref l3), (4, .long (0 : Int64)), (6, .int (0 : Int32))]) (by decide) [1, 2, 3, 4, 5, 0] rfl ?_
  exact (wB_X6_minus_6 X hQ F _ _ _ _ _ _ _ h)
theorem c_X6_minus {G : mG} {F sz : Nat} {M0 : mM} (l : Launch) (D : mD) (A : Nat → Prop) {l0 : Nat} {l1 : Nat} {l2 : Nat} {l3 : Nat} {M : mM} (h : P_X6_minus G F l0 l1 l2 l3 M = some M0) : mMetV l D G A yX6_minus cX6_minus 7 none 0 0 0 0 [.ref l0, .ref l1, .ref l2, .ref l3] M sz M0 sz := mMetV_of l D G A (by decide) (Nat.le_of_ble_eq_true rfl) (fun x X hQ => wP_X6_minus X hQ h)
/-! SealedTokens$Modulus.areSame([J[J)Z -/
theorem dX6_areSame_0 : decode cX6_areSame 0 = .ok (.iconst 0, 1) := by decide +kernel
theorem dX6_areSame_1 : decode cX6_areSame 1 = .ok (.istore_n 3, 1) := by decide +kernel
theorem dX6_areSame_2 : decode cX6_areSame 2 = .ok (.iload_n 3, 1) := by decide +kernel
theorem dX6_areSame_3 : decode cX6_areSame 3 = .ok (.aload_n 0, 1) := by decide +kernel
theorem dX6_areSame_4 : decode cX6_areSame 4 = .ok (.getfield 7, 3) := by decide +kernel
theorem dX6_areSame_7 : decode cX6_areSame 7 = .ok (.if_icmp .ge 21, 3) := by decide +kernel
theorem dX6_areSame_10 : decode cX6_areSame 10 = .ok (.aload_n 1, 1) := by decide +kernel
theorem dX6_areSame_11 : decode cX6_areSame 11 = .ok (.iload_n 3, 1) := by decide +kernel
theorem dX6_areSame_12 : decode cX6_areSame 12 = .ok (.laload, 1) := by decide +kernel
theorem dX6_areSame_13 : decode cX6_areSame 13 = .ok (.aload_n 2, 1) := by decide +kernel
theorem dX6_areSame_14 : decode cX6_areSame 14 = .ok (.iload_n 3, 1) := by decide +kernel
theorem dX6_areSame_15 : decode cX6_areSame 15 = .ok (.laload, 1) := by decide +kernel
theorem dX6_areSame_16 : decode cX6_areSame 16 = .ok (.lcmp, 1) := by decide +kernel
theorem dX6_areSame_17 : decode cX6_areSame 17 = .ok (.ifCond .eq 5, 3) := by decide +kernel
theorem dX6_areSame_20 : decode cX6_areSame 20 = .ok (.iconst 0, 1) := by decide +kernel
theorem dX6_areSame_21 : decode cX6_areSame 21 = .ok (.ireturn, 1) := by decide +kernel
theorem dX6_areSame_22 : decode cX6_areSame 22 = .ok (.iinc 3 1, 3) := by decide +kernel
theorem dX6_areSame_25 : decode cX6_areSame 25 = .ok (.goto (-23), 3) := by decide +kernel
theorem dX6_areSame_28 : decode cX6_areSame 28 = .ok (.iconst 1, 1) := by decide +kernel
theorem dX6_areSame_29 : decode cX6_areSame 29 = .ok (.ireturn, 1) := by decide +kernel
abbrev rmX6_areSame : Room := { frames := 0, cells := 0, slots := 0, locals := 0 }
set_option maxHeartbeats 4000000 in
set_option maxRecDepth 100000 in
theorem wB_X6_areSame_2 {G : mG} {F : Nat} {x : mXT} {sz : Nat} {r0 : Int32} {M0 : mM} (X : mCX G RX6 cX6_areSame 4 (some .boolean) "areSame" rmX6_areSame x) (hQ : mQI x r0 M0 (sz, 0, 0)) : ∀ (n : Nat) (l0 : Nat) (l1 : Nat) (l2 : Nat) (l3 : Int32) (M : mM), B_X6_areSame_2 G F n l0 l1 l2 l3 M = some (r0, M0) → WW x (sz, 0, 0) M 2 [(0, .ref l0), (1, .ref l1), (2, .ref l2), (3, .int l3)] [] := by
  intro n
  induction n with
  | zero =>
    intro l0 l1 l2 l3 M h
    exact nomatch (show (none : Option (Int32 × mM)) = some (r0, M0) from h)
  | succ n ih =>
    intro l0 l1 l2 l3 M h
    rw [B_X6_areSame_2] at h
    refine ww_iload_n 2 X dX6_areSame_2 3 rfl rfl ?_
    refine ww_aload_n 3 X dX6_areSame_3 0 rfl rfl ?_
    obtain ⟨v4, e4, h⟩ := bO_some h
    refine ww_getI 4 X dX6_areSame_4 fG_X6_7 e4 ?_
    refine ww_icmp_ge 7 28 X dX6_areSame_7 (by decide) (fun q => ?_) (fun q => ?_)
    · replace h := (if_pos q).symm.trans h
      refine ww_iconst 28 X (v := (1 : Int32)) dX6_areSame_28 (by decide) ?_
      exact ww_zretE 29 X hQ dX6_areSame_29 h
    · replace h := (if_neg q).symm.trans h
      refine ww_aload_n 10 X dX6_areSame_10 1 rfl rfl ?_
      refine ww_iload_n 11 X dX6_areSame_11 3 rfl rfl ?_
      obtain ⟨v12, e12, h⟩ := bO_some h
      refine ww_lald 12 X dX6_areSame_12 e12 ?_
      refine ww_aload_n 13 X dX6_areSame_13 2 rfl rfl ?_
      refine ww_iload_n 14 X dX6_areSame_14 3 rfl rfl ?_
      obtain ⟨v15, e15, h⟩ := bO_some h
      refine ww_lald 15 X dX6_areSame_15 e15 ?_
      refine ww_lcmp 16 X dX6_areSame_16 ?_
      refine ww_if_eq 17 22 X dX6_areSame_17 (by decide) (fun q => ?_) (fun q => ?_)
      · replace h := (if_pos q).symm.trans h
        refine ww_iinc 22 X dX6_areSame_22 (lv' := [(0, .ref l0), (1, .ref l1), (2, .ref l2), (3, .int (l3 + 1))]) 3 rfl rfl (by decide) [1, 2, 3, 0] rfl ?_
        refine ww_goto 25 2 X dX6_areSame_25 (by decide) ?_
        exact (ih _ _ _ _ _ h)
      · replace h := (if_neg q).symm.trans h
        refine ww_iconst 20 X (v := (0 : Int32)) dX6_areSame_20 (by decide) ?_
        exact ww_zretE 21 X hQ dX6_areSame_21 h
set_option maxHeartbeats 4000000 in
set_option maxRecDepth 100000 in
theorem wP_X6_areSame {G : mG} {F : Nat} {x : mXT} {sz : Nat} {r0 : Int32} {M0 : mM} (X : mCX G RX6 cX6_areSame 4 (some .boolean) "areSame" rmX6_areSame x) (hQ : mQI x r0 M0 (sz, 0, 0)) {l0 : Nat} {l1 : Nat} {l2 : Nat} {M : mM} (h : P_X6_areSame G F l0 l1 l2 M = some (r0, M0)) : WW x (sz, 0, 0) M 0 [(0, .ref l0), (1, .ref l1), (2, .ref l2)] [] := by
  unfold P_X6_areSame at h
  refine ww_iconst 0 X (v := (0 : Int32)) dX6_areSame_0 (by decide) ?_
  refine ww_istore_n 1 X dX6_areSame_1 (lv' := [(0, .ref l0), (1, .ref l1), (2, .ref l2), (3, .int (0 : Int32))]) rfl (by decide) [1, 2, 3, 0] rfl ?_
  exact (wB_X6_areSame_2 X hQ F _ _ _ _ _ h)
theorem c_X6_areSame {G : mG} {F sz : Nat} {r0 : Int32} {M0 : mM} (l : Launch) (D : mD) (A : Nat → Prop) {l0 : Nat} {l1 : Nat} {l2 : Nat} {M : mM} (h : P_X6_areSame G F l0 l1 l2 M = some (r0, M0)) : mMetI l D G A yX6_areSame cX6_areSame 4 (some .boolean) 0 0 0 0 [.ref l0, .ref l1, .ref l2] M sz r0 M0 sz := mMetI_of l D G A (by decide) (Nat.le_of_ble_eq_true rfl) (fun x X hQ => wP_X6_areSame X hQ h)
/-! SealedTokens$Curve.load(LSealedTokens$Bytes;)Z -/
theorem dX3_load_0 : decode cX3_load 0 = .ok (.aload_n 1, 1) := by decide +kernel
theorem dX3_load_1 : decode cX3_load 1 = .ok (.iconst 0, 1) := by decide +kernel
theorem dX3_load_2 : decode cX3_load 2 = .ok (.aload_n 0, 1) := by decide +kernel
theorem dX3_load_3 : decode cX3_load 3 = .ok (.getfield 33, 3) := by decide +kernel
theorem dX3_load_6 : decode cX3_load 6 = .ok (.iconst 0, 1) := by decide +kernel
theorem dX3_load_7 : decode cX3_load 7 = .ok (.bipush 32, 2) := by decide +kernel
theorem dX3_load_9 : decode cX3_load 9 = .ok (.invokestatic 119, 3) := by decide +kernel
theorem dX3_load_12 : decode cX3_load 12 = .ok (.ifCond .ge 19, 3) := by decide +kernel
theorem dX3_load_15 : decode cX3_load 15 = .ok (.aload_n 1, 1) := by decide +kernel
theorem dX3_load_16 : decode cX3_load 16 = .ok (.bipush 32, 2) := by decide +kernel
theorem dX3_load_18 : decode cX3_load 18 = .ok (.aload_n 0, 1) := by decide +kernel
theorem dX3_load_19 : decode cX3_load 19 = .ok (.getfield 33, 3) := by decide +kernel
theorem dX3_load_22 : decode cX3_load 22 = .ok (.iconst 0, 1) := by decide +kernel
theorem dX3_load_23 : decode cX3_load 23 = .ok (.bipush 32, 2) := by decide +kernel
theorem dX3_load_25 : decode cX3_load 25 = .ok (.invokestatic 119, 3) := by decide +kernel
theorem dX3_load_28 : decode cX3_load 28 = .ok (.ifCond .lt 5, 3) := by decide +kernel
theorem dX3_load_31 : decode cX3_load 31 = .ok (.iconst 0, 1) := by decide +kernel
theorem dX3_load_32 : decode cX3_load 32 = .ok (.ireturn, 1) := by decide +kernel
theorem dX3_load_33 : decode cX3_load 33 = .ok (.aload_n 0, 1) := by decide +kernel
theorem dX3_load_34 : decode cX3_load 34 = .ok (.getfield 14, 3) := by decide +kernel
theorem dX3_load_37 : decode cX3_load 37 = .ok (.iconst 0, 1) := by decide +kernel
theorem dX3_load_38 : decode cX3_load 38 = .ok (.aaload, 1) := by decide +kernel
theorem dX3_load_39 : decode cX3_load 39 = .ok (.astore_n 2, 1) := by decide +kernel
theorem dX3_load_40 : decode cX3_load 40 = .ok (.aload_n 0, 1) := by decide +kernel
theorem dX3_load_41 : decode cX3_load 41 = .ok (.getfield 14, 3) := by decide +kernel
theorem dX3_load_44 : decode cX3_load 44 = .ok (.iconst 1, 1) := by decide +kernel
theorem dX3_load_45 : decode cX3_load 45 = .ok (.aaload, 1) := by decide +kernel
theorem dX3_load_46 : decode cX3_load 46 = .ok (.astore_n 3, 1) := by decide +kernel
theorem dX3_load_47 : decode cX3_load 47 = .ok (.aload_n 0, 1) := by decide +kernel
theorem dX3_load_48 : decode cX3_load 48 = .ok (.getfield 20, 3) := by decide +kernel
theorem dX3_load_51 : decode cX3_load 51 = .ok (.aload_n 1, 1) := by decide +kernel
theorem dX3_load_52 : decode cX3_load 52 = .ok (.iconst 0, 1) := by decide +kernel
theorem dX3_load_53 : decode cX3_load 53 = .ok (.bipush 32, 2) := by decide +kernel
theorem dX3_load_55 : decode cX3_load 55 = .ok (.aload_n 2, 1) := by decide +kernel
theorem dX3_load_56 : decode cX3_load 56 = .ok (.invokevirtual 88, 3) := by decide +kernel
theorem dX3_load_59 : decode cX3_load 59 = .ok (.aload_n 0, 1) := by decide +kernel
theorem dX3_load_60 : decode cX3_load 60 = .ok (.getfield 20, 3) := by decide +kernel
theorem dX3_load_63 : decode cX3_load 63 = .ok (.aload_n 1, 1) := by decide +kernel
theorem dX3_load_64 : decode cX3_load 64 = .ok (.bipush 32, 2) := by decide +kernel
theorem dX3_load_66 : decode cX3_load 66 = .ok (.bipush 32, 2) := by decide +kernel
theorem dX3_load_68 : decode cX3_load 68 = .ok (.aload_n 3, 1) := by decide +kernel
theorem dX3_load_69 : decode cX3_load 69 = .ok (.invokevirtual 88, 3) := by decide +kernel
theorem dX3_load_72 : decode cX3_load 72 = .ok (.aload_n 0, 1) := by decide +kernel
theorem dX3_load_73 : decode cX3_load 73 = .ok (.getfield 20, 3) := by decide +kernel
theorem dX3_load_76 : decode cX3_load 76 = .ok (.aload_n 2, 1) := by decide +kernel
theorem dX3_load_77 : decode cX3_load 77 = .ok (.invokevirtual 96, 3) := by decide +kernel
theorem dX3_load_80 : decode cX3_load 80 = .ok (.aload_n 0, 1) := by decide +kernel
theorem dX3_load_81 : decode cX3_load 81 = .ok (.getfield 20, 3) := by decide +kernel
theorem dX3_load_84 : decode cX3_load 84 = .ok (.aload_n 3, 1) := by decide +kernel
theorem dX3_load_85 : decode cX3_load 85 = .ok (.invokevirtual 96, 3) := by decide +kernel
theorem dX3_load_88 : decode cX3_load 88 = .ok (.aload_n 0, 1) := by decide +kernel
theorem dX3_load_89 : decode cX3_load 89 = .ok (.getfield 20, 3) := by decide +kernel
theorem dX3_load_92 : decode cX3_load 92 = .ok (.aload_n 2, 1) := by decide +kernel
theorem dX3_load_93 : decode cX3_load 93 = .ok (.aload_n 2, 1) := by decide +kernel
theorem dX3_load_94 : decode cX3_load 94 = .ok (.aload_n 0, 1) := by decide +kernel
theorem dX3_load_95 : decode cX3_load 95 = .ok (.getfield 62, 3) := by decide +kernel
theorem dX3_load_98 : decode cX3_load 98 = .ok (.iconst 0, 1) := by decide +kernel
theorem dX3_load_99 : decode cX3_load 99 = .ok (.aaload, 1) := by decide +kernel
theorem dX3_load_100 : decode cX3_load 100 = .ok (.invokevirtual 123, 3) := by decide +kernel
theorem dX3_load_103 : decode cX3_load 103 = .ok (.aload_n 0, 1) := by decide +kernel
theorem dX3_load_104 : decode cX3_load 104 = .ok (.getfield 20, 3) := by decide +kernel
theorem dX3_load_107 : decode cX3_load 107 = .ok (.aload_n 0, 1) := by decide +kernel
theorem dX3_load_108 : decode cX3_load 108 = .ok (.getfield 62, 3) := by decide +kernel
theorem dX3_load_111 : decode cX3_load 111 = .ok (.iconst 0, 1) := by decide +kernel
theorem dX3_load_112 : decode cX3_load 112 = .ok (.aaload, 1) := by decide +kernel
theorem dX3_load_113 : decode cX3_load 113 = .ok (.aload_n 2, 1) := by decide +kernel
theorem dX3_load_114 : decode cX3_load 114 = .ok (.aload_n 0, 1) := by decide +kernel
theorem dX3_load_115 : decode cX3_load 115 = .ok (.getfield 62, 3) := by decide +kernel
theorem dX3_load_118 : decode cX3_load 118 = .ok (.iconst 0, 1) := by decide +kernel
theorem dX3_load_119 : decode cX3_load 119 = .ok (.aaload, 1) := by decide +kernel
theorem dX3_load_120 : decode cX3_load 120 = .ok (.invokevirtual 123, 3) := by decide +kernel
theorem dX3_load_123 : decode cX3_load 123 = .ok (.aload_n 0, 1) := by decide +kernel
theorem dX3_load_124 : decode cX3_load 124 = .ok (.getfield 20, 3) := by decide +kernel
theorem dX3_load_127 : decode cX3_load 127 = .ok (.aload_n 0, 1) := by decide +kernel
theorem dX3_load_128 : decode cX3_load 128 = .ok (.getfield 62, 3) := by decide +kernel
theorem dX3_load_131 : decode cX3_load 131 = .ok (.iconst 0, 1) := by decide +kernel
theorem dX3_load_132 : decode cX3_load 132 = .ok (.aaload, 1) := by decide +kernel
theorem dX3_load_133 : decode cX3_load 133 = .ok (.aload_n 2, 1) := by decide +kernel
theorem dX3_load_134 : decode cX3_load 134 = .ok (.aload_n 0, 1) := by decide +kernel
theorem dX3_load_135 : decode cX3_load 135 = .ok (.getfield 62, 3) := by decide +kernel
theorem dX3_load_138 : decode cX3_load 138 = .ok (.iconst 0, 1) := by decide +kernel
theorem dX3_load_139 : decode cX3_load 139 = .ok (.aaload, 1) := by decide +kernel
theorem dX3_load_140 : decode cX3_load 140 = .ok (.invokevirtual 127, 3) := by decide +kernel
theorem dX3_load_143 : decode cX3_load 143 = .ok (.aload_n 0, 1) := by decide +kernel
theorem dX3_load_144 : decode cX3_load 144 = .ok (.getfield 20, 3) := by decide +kernel
theorem dX3_load_147 : decode cX3_load 147 = .ok (.aload_n 0, 1) := by decide +kernel
theorem dX3_load_148 : decode cX3_load 148 = .ok (.getfield 62, 3) := by decide +kernel
theorem dX3_load_151 : decode cX3_load 151 = .ok (.iconst 0, 1) := by decide +kernel
theorem dX3_load_152 : decode cX3_load 152 = .ok (.aaload, 1) := by decide +kernel
theorem dX3_load_153 : decode cX3_load 153 = .ok (.aload_n 2, 1) := by decide +kernel
theorem dX3_load_154 : decode cX3_load 154 = .ok (.aload_n 0, 1) := by decide +kernel
theorem dX3_load_155 : decode cX3_load 155 = .ok (.getfield 62, 3) := by decide +kernel
theorem dX3_load_158 : decode cX3_load 158 = .ok (.iconst 0, 1) := by decide +kernel
theorem dX3_load_159 : decode cX3_load 159 = .ok (.aaload, 1) := by decide +kernel
theorem dX3_load_160 : decode cX3_load 160 = .ok (.invokevirtual 127, 3) := by decide +kernel
theorem dX3_load_163 : decode cX3_load 163 = .ok (.aload_n 0, 1) := by decide +kernel
theorem dX3_load_164 : decode cX3_load 164 = .ok (.getfield 20, 3) := by decide +kernel
theorem dX3_load_167 : decode cX3_load 167 = .ok (.aload_n 0, 1) := by decide +kernel
theorem dX3_load_168 : decode cX3_load 168 = .ok (.getfield 62, 3) := by decide +kernel
theorem dX3_load_171 : decode cX3_load 171 = .ok (.iconst 0, 1) := by decide +kernel
theorem dX3_load_172 : decode cX3_load 172 = .ok (.aaload, 1) := by decide +kernel
theorem dX3_load_173 : decode cX3_load 173 = .ok (.aload_n 2, 1) := by decide +kernel
theorem dX3_load_174 : decode cX3_load 174 = .ok (.aload_n 0, 1) := by decide +kernel
theorem dX3_load_175 : decode cX3_load 175 = .ok (.getfield 62, 3) := by decide +kernel
theorem dX3_load_178 : decode cX3_load 178 = .ok (.iconst 0, 1) := by decide +kernel
theorem dX3_load_179 : decode cX3_load 179 = .ok (.aaload, 1) := by decide +kernel
theorem dX3_load_180 : decode cX3_load 180 = .ok (.invokevirtual 127, 3) := by decide +kernel
theorem dX3_load_183 : decode cX3_load 183 = .ok (.aload_n 0, 1) := by decide +kernel
theorem dX3_load_184 : decode cX3_load 184 = .ok (.getfield 20, 3) := by decide +kernel
theorem dX3_load_187 : decode cX3_load 187 = .ok (.aload_n 0, 1) := by decide +kernel
theorem dX3_load_188 : decode cX3_load 188 = .ok (.getfield 62, 3) := by decide +kernel
theorem dX3_load_191 : decode cX3_load 191 = .ok (.iconst 0, 1) := by decide +kernel
theorem dX3_load_192 : decode cX3_load 192 = .ok (.aaload, 1) := by decide +kernel
theorem dX3_load_193 : decode cX3_load 193 = .ok (.aload_n 0, 1) := by decide +kernel
theorem dX3_load_194 : decode cX3_load 194 = .ok (.getfield 52, 3) := by decide +kernel
theorem dX3_load_197 : decode cX3_load 197 = .ok (.aload_n 0, 1) := by decide +kernel
theorem dX3_load_198 : decode cX3_load 198 = .ok (.getfield 62, 3) := by decide +kernel
theorem dX3_load_201 : decode cX3_load 201 = .ok (.iconst 0, 1) := by decide +kernel
theorem dX3_load_202 : decode cX3_load 202 = .ok (.aaload, 1) := by decide +kernel
theorem dX3_load_203 : decode cX3_load 203 = .ok (.invokevirtual 130, 3) := by decide +kernel
theorem dX3_load_206 : decode cX3_load 206 = .ok (.aload_n 0, 1) := by decide +kernel
theorem dX3_load_207 : decode cX3_load 207 = .ok (.getfield 20, 3) := by decide +kernel
theorem dX3_load_210 : decode cX3_load 210 = .ok (.aload_n 3, 1) := by decide +kernel
theorem dX3_load_211 : decode cX3_load 211 = .ok (.aload_n 3, 1) := by decide +kernel
theorem dX3_load_212 : decode cX3_load 212 = .ok (.aload_n 0, 1) := by decide +kernel
theorem dX3_load_213 : decode cX3_load 213 = .ok (.getfield 62, 3) := by decide +kernel
theorem dX3_load_216 : decode cX3_load 216 = .ok (.iconst 1, 1) := by decide +kernel
theorem dX3_load_217 : decode cX3_load 217 = .ok (.aaload, 1) := by decide +kernel
theorem dX3_load_218 : decode cX3_load 218 = .ok (.invokevirtual 123, 3) := by decide +kernel
theorem dX3_load_221 : decode cX3_load 221 = .ok (.aload_n 0, 1) := by decide +kernel
theorem dX3_load_222 : decode cX3_load 222 = .ok (.getfield 20, 3) := by decide +kernel
theorem dX3_load_225 : decode cX3_load 225 = .ok (.aload_n 0, 1) := by decide +kernel
theorem dX3_load_226 : decode cX3_load 226 = .ok (.getfield 62, 3) := by decide +kernel
theorem dX3_load_229 : decode cX3_load 229 = .ok (.iconst 0, 1) := by decide +kernel
theorem dX3_load_230 : decode cX3_load 230 = .ok (.aaload, 1) := by decide +kernel
theorem dX3_load_231 : decode cX3_load 231 = .ok (.aload_n 0, 1) := by decide +kernel
theorem dX3_load_232 : decode cX3_load 232 = .ok (.getfield 62, 3) := by decide +kernel
theorem dX3_load_235 : decode cX3_load 235 = .ok (.iconst 1, 1) := by decide +kernel
theorem dX3_load_236 : decode cX3_load 236 = .ok (.aaload, 1) := by decide +kernel
theorem dX3_load_237 : decode cX3_load 237 = .ok (.invokevirtual 133, 3) := by decide +kernel
theorem dX3_load_240 : decode cX3_load 240 = .ok (.ireturn, 1) := by decide +kernel
abbrev rmX3_load : Room := { frames := 4, cells := 0, slots := 0, locals := 144 }
set_option maxHeartbeats 4000000 in
set_option maxRecDepth 100000 in
theorem wP_X3_load {G : mG} {F : Nat} {x : mXT} {sz : Nat} {r0 : Int32} {M0 : mM} (X : mCX G RX3 cX3_load 4 (some .boolean) "load" rmX3_load x) (hQ : mQI x r0 M0 (sz, 0, 0)) {l0 : Nat} {l1 : Nat} {M : mM} (h : P_X3_load G F l0 l1 M = some (r0, M0)) : WW x (sz, 0, 0) M 0 [(0, .ref l0), (1, .ref l1)] [] := by
  unfold P_X3_load at h
  refine ww_aload_n 0 X dX3_load_0 1 rfl rfl ?_
  refine ww_iconst 1 X (v := (0 : Int32)) dX3_load_1 (by decide) ?_
  refine ww_aload_n 2 X dX3_load_2 0 rfl rfl ?_
  obtain ⟨v3, e3, h⟩ := bO_some h
  refine ww_getR 3 X dX3_load_3 fG_X3_33 e3 ?_
  refine ww_iconst 6 X (v := (0 : Int32)) dX3_load_6 (by decide) ?_
  refine ww_bipush 7 X (v := (32 : Int32)) dX3_load_7 (by decide) ?_
  obtain ⟨v9, M9, e9, h⟩ := bP_some h
  refine ww_callSI0 9 X dX3_load_9 mY_X0_compare mL_X3_119 (As := [.ref l1, .int (0 : Int32), .ref v3, .int (0 : Int32), .int (32 : Int32)]) (rest := []) rfl rfl ⟨Nat.le_of_ble_eq_true rfl, Nat.le_of_ble_eq_true rfl⟩ (Nat.le_of_ble_eq_true rfl) (fun l D A => c_X0_compare l D A e9) ?_
  refine ww_if_ge 12 31 X dX3_load_12 (by decide) (fun q => ?_) (fun q => ?_)
  · replace h := (if_pos q).symm.trans h
    refine ww_iconst 31 X (v := (0 : Int32)) dX3_load_31 (by decide) ?_
    exact ww_zretE 32 X hQ dX3_load_32 h
  · replace h := (if_neg q).symm.trans h
    refine ww_aload_n 15 X dX3_load_15 1 rfl rfl ?_
    refine ww_bipush 16 X (v := (32 : Int32)) dX3_load_16 (by decide) ?_
    refine ww_aload_n 18 X dX3_load_18 0 rfl rfl ?_
    obtain ⟨v19, e19, h⟩ := bO_some h
    refine ww_getR 19 X dX3_load_19 fG_X3_33 e19 ?_
    refine ww_iconst 22 X (v := (0 : Int32)) dX3_load_22 (by decide) ?_
    refine ww_bipush 23 X (v := (32 : Int32)) dX3_load_23 (by decide) ?_
    obtain ⟨v25, M25, e25, h⟩ := bP_some h
    refine ww_callSI0 25 X dX3_load_25 mY_X0_compare mL_X3_119 (As := [.ref l1, .int (32 : Int32), .ref v19, .int (0 : Int32), .int (32 : Int32)]) (rest := []) rfl rfl ⟨Nat.le_of_ble_eq_true rfl, Nat.le_of_ble_eq_true rfl⟩ (Nat.le_of_ble_eq_true rfl) (fun l D A => c_X0_compare l D A e25) ?_
    refine ww_if_lt 28 33 X dX3_load_28 (by decide) (fun q => ?_) (fun q => ?_)
    · replace h := (if_pos q).symm.trans h
      refine ww_aload_n 33 X dX3_load_33 0 rfl rfl ?_
      obtain ⟨v34, e34, h⟩ := bO_some h
      refine ww_getR 34 X dX3_load_34 fG_X3_14 e34 ?_
      refine ww_iconst 37 X (v := (0 : Int32)) dX3_load_37 (by decide) ?_
      obtain ⟨v38, e38, h⟩ := bO_some h
      refine ww_aald6 38 X dX3_load_38 e38 ?_
      refine ww_astore_n 39 X dX3_load_39 (lv' := [(0, .ref l0), (1, .ref l1), (2, .ref v38)]) rfl (by decide) [1, 2, 0] rfl ?_
      refine ww_aload_n 40 X dX3_load_40 0 rfl rfl ?_
      obtain ⟨v41, e41, h⟩ := bO_some h
      refine ww_getR 41 X dX3_load_41 fG_X3_14 e41 ?_
      refine ww_iconst 44 X (v := (1 : Int32)) dX3_load_44 (by decide) ?_
      obtain ⟨v45, e45, h⟩ := bO_some h
      refine ww_aald6 45 X dX3_load_45 e45 ?_
      refine ww_astore_n 46 X dX3_load_46 (lv' := [(0, .ref l0), (1, .ref l1), (2, .ref v38), (3, .ref v45)]) rfl (by decide) [1, 2, 3, 0] rfl ?_
      refine ww_aload_n 47 X dX3_load_47 0 rfl rfl ?_
      obtain ⟨v48, e48, h⟩ := bO_some h
      refine ww_getR 48 X dX3_load_48 fG_X3_20 e48 ?_
      refine ww_aload_n 51 X dX3_load_51 1 rfl rfl ?_
      refine ww_iconst 52 X (v := (0 : Int32)) dX3_load_52 (by decide) ?_
      refine ww_bipush 53 X (v := (32 : Int32)) dX3_load_53 (by decide) ?_
      refine ww_aload_n 55 X dX3_load_55 2 rfl rfl ?_
      obtain ⟨_, f56, h⟩ := bO_some h
      obtain ⟨M56, e56, h⟩ := bO_some h
      refine ww_callVV0 56 X dX3_load_56 mY_X6_take mL_X3_88 (rcv_spec f56) ⟨_, _, rfl⟩ (by decide) (As := [.ref l1, .int (0 : Int32), .int (32 : Int32), .ref v38]) (rest := []) rfl rfl ⟨Nat.le_of_ble_eq_true rfl, Nat.le_of_ble_eq_true rfl⟩ (Nat.le_of_ble_eq_true rfl) (fun l D A => c_X6_take l D A e56) ?_
      refine ww_aload_n 59 X dX3_load_59 0 rfl rfl ?_
      obtain ⟨v60, e60, h⟩ := bO_some h
      refine ww_getR 60 X dX3_load_60 fG_X3_20 e60 ?_
      refine ww_aload_n 63 X dX3_load_63 1 rfl rfl ?_
      refine ww_bipush 64 X (v := (32 : Int32)) dX3_load_64 (by decide) ?_
      refine ww_bipush 66 X (v := (32 : Int32)) dX3_load_66 (by decide) ?_
      refine ww_aload_n 68 X dX3_load_68 3 rfl rfl ?_
      obtain ⟨_, f69, h⟩ := bO_some h
      obtain ⟨M69, e69, h⟩ := bO_some h
      refine ww_callVV0 69 X dX3_load_69 mY_X6_take mL_X3_88 (rcv_spec f69) ⟨_, _, rfl⟩ (by decide) (As := [.ref l1, .int (32 : Int32), .int (32 : Int32), .ref v45]) (rest := []) rfl rfl ⟨Nat.le_of_ble_eq_true rfl, Nat.le_of_ble_eq_true rfl⟩ (Nat.le_of_ble_eq_true rfl) (fun l D A => c_X6_take l D A e69) ?_
      refine ww_aload_n 72 X dX3_load_72 0 rfl rfl ?_
      obtain ⟨v73, e73, h⟩ := bO_some h
      refine ww_getR 73 X dX3_load_73 fG_X3_20 e73 ?_
      refine ww_aload_n 76 X dX3_load_76 2 rfl rfl ?_
      obtain ⟨_, f77, h⟩ := bO_some h
      obtain ⟨M77, e77, h⟩ := bO_some h
      refine ww_callVV0 77 X dX3_load_77 mY_X6_lead mL_X3_96 (rcv_spec f77) ⟨_, _, rfl⟩ (by decide) (As := [.ref v38]) (rest := []) rfl rfl ⟨Nat.le_of_ble_eq_true rfl, Nat.le_of_ble_eq_true rfl⟩ (Nat.le_of_ble_eq_true rfl) (fun l D A => c_X6_lead l D A e77) ?_
      refine ww_aload_n 80 X dX3_load_80 0 rfl rfl ?_
      obtain ⟨v81, e81, h⟩ := bO_some h
      refine ww_getR 81 X dX3_load_81 fG_X3_20 e81 ?_
      refine ww_aload_n 84 X dX3_load_84 3 rfl rfl ?_
      obtain ⟨_, f85, h⟩ := bO_some h
      obtain ⟨M85, e85, h⟩ := bO_some h
      refine ww_callVV0 85 X dX3_load_85 mY_X6_lead mL_X3_96 (rcv_spec f85) ⟨_, _, rfl⟩ (by decide) (As := [.ref v45]) (rest := []) rfl rfl ⟨Nat.le_of_ble_eq_true rfl, Nat.le_of_ble_eq_true rfl⟩ (Nat.le_of_ble_eq_true rfl) (fun l D A => c_X6_lead l D A e85) ?_
      refine ww_aload_n 88 X dX3_load_88 0 rfl rfl ?_
      obtain ⟨v89, e89, h⟩ := bO_some h
      refine ww_getR 89 X dX3_load_89 fG_X3_20 e89 ?_
      refine ww_aload_n 92 X dX3_load_92 2 rfl rfl ?_
      refine ww_aload_n 93 X dX3_load_93 2 rfl rfl ?_
      refine ww_aload_n 94 X dX3_load_94 0 rfl rfl ?_
      obtain ⟨v95, e95, h⟩ := bO_some h
      refine ww_getR 95 X dX3_load_95 fG_X3_62 e95 ?_
      refine ww_iconst 98 X (v := (0 : Int32)) dX3_load_98 (by decide) ?_
      obtain ⟨v99, e99, h⟩ := bO_some h
      refine ww_aald6 99 X dX3_load_99 e99 ?_
      obtain ⟨_, f100, h⟩ := bO_some h
      obtain ⟨M100, e100, h⟩ := bO_some h
      refine ww_callVV0 100 X dX3_load_100 mY_X6_times mL_X3_123 (rcv_spec f100) ⟨_, _, rfl⟩ (by decide) (As := [.ref v38, .ref v38, .ref v99]) (rest := []) rfl rfl ⟨Nat.le_of_ble_eq_true rfl, Nat.le_of_ble_eq_true rfl⟩ (Nat.le_of_ble_eq_true rfl) (fun l D A => c_X6_times l D A e100) ?_
      refine ww_aload_n 103 X dX3_load_103 0 rfl rfl ?_
      obtain ⟨v104, e104, h⟩ := bO_some h
      refine ww_getR 104 X dX3_load_104 fG_X3_20 e104 ?_
      refine ww_aload_n 107 X dX3_load_107 0 rfl rfl ?_
      obtain ⟨v108, e108, h⟩ := bO_some h
      refine ww_getR 108 X dX3_load_108 fG_X3_62 e108 ?_
      refine ww_iconst 111 X (v := (0 : Int32)) dX3_load_111 (by decide) ?_
      obtain ⟨v112, e112, h⟩ := bO_some h
      refine ww_aald6 112 X dX3_load_112 e112 ?_
      refine ww_aload_n 113 X dX3_load_113 2 rfl rfl ?_
      refine ww_aload_n 114 X dX3_load_114 0 rfl rfl ?_
      obtain ⟨v115, e115, h⟩ := bO_some h
      refine ww_getR 115 X dX3_load_115 fG_X3_62 e115 ?_
      refine ww_iconst 118 X (v := (0 : Int32)) dX3_load_118 (by decide) ?_
      obtain ⟨v119, e119, h⟩ := bO_some h
      refine ww_aald6 119 X dX3_load_119 e119 ?_
      obtain ⟨_, f120, h⟩ := bO_some h
      obtain ⟨M120, e120, h⟩ := bO_some h
      refine ww_callVV0 120 X dX3_load_120 mY_X6_times mL_X3_123 (rcv_spec f120) ⟨_, _, rfl⟩ (by decide) (As := [.ref v112, .ref v38, .ref v119]) (rest := []) rfl rfl ⟨Nat.le_of_ble_eq_true rfl, Nat.le_of_ble_eq_true rfl⟩ (Nat.le_of_ble_eq_true rfl) (fun l D A => c_X6_times l D A e120) ?_
      refine ww_aload_n 123 X dX3_load_123 0 rfl rfl ?_
      obtain ⟨v124, e124, h⟩ := bO_some h
      refine ww_getR 124 X dX3_load_124 fG_X3_20 e124 ?_
      refine ww_aload_n 127 X dX3_load_127 0 rfl rfl ?_
      obtain ⟨v128, e128, h⟩ := bO_some h
      refine ww_getR 128 X dX3_load_128 fG_X3_62 e128 ?_
      refine ww_iconst 131 X (v := (0 : Int32)) dX3_load_131 (by decide) ?_
      obtain ⟨v132, e132, h⟩ := bO_some h
      refine ww_aald6 132 X dX3_load_132 e132 ?_
      refine ww_aload_n 133 X dX3_load_133 2 rfl rfl ?_
      refine ww_aload_n 134 X dX3_load_134 0 rfl rfl ?_
      obtain ⟨v135, e135, h⟩ := bO_some h
      refine ww_getR 135 X dX3_load_135 fG_X3_62 e135 ?_
      refine ww_iconst 138 X (v := (0 : Int32)) dX3_load_138 (by decide) ?_
      obtain ⟨v139, e139, h⟩ := bO_some h
      refine ww_aald6 139 X dX3_load_139 e139 ?_
      obtain ⟨_, f140, h⟩ := bO_some h
      obtain ⟨M140, e140, h⟩ := bO_some h
      refine ww_callVV0 140 X dX3_load_140 mY_X6_minus mL_X3_127 (rcv_spec f140) ⟨_, _, rfl⟩ (by decide) (As := [.ref v132, .ref v38, .ref v139]) (rest := []) rfl rfl ⟨Nat.le_of_ble_eq_true rfl, Nat.le_of_ble_eq_true rfl⟩ (Nat.le_of_ble_eq_true rfl) (fun l D A => c_X6_minus l D A e140) ?_
      refine ww_aload_n 143 X dX3_load_143 0 rfl rfl ?_
      obtain ⟨v144, e144, h⟩ := bO_some h
      refine ww_getR 144 X dX3_load_144 fG_X3_20 e144 ?_
      refine ww_aload_n 147 X dX3_load_147 0 rfl rfl ?_
      obtain ⟨v148, e148, h⟩ := bO_some h
      refine ww_getR 148 X dX3_load_148 fG_X3_62 e148 ?_
      refine ww_iconst 151 X (v := (0 : Int32)) dX3_load_151 (by decide) ?_
      obtain ⟨v152, e152, h⟩ := bO_some h
      refine ww_aald6 152 X dX3_load_152 e152 ?_
      refine ww_aload_n 153 X dX3_load_153 2 rfl rfl ?_
      refine ww_aload_n 154 X dX3_load_154 0 rfl rfl ?_
      obtain ⟨v155, e155, h⟩ := bO_some h
      refine ww_getR 155 X dX3_load_155 fG_X3_62 e155 ?_
      refine ww_iconst 158 X (v := (0 : Int32)) dX3_load_158 (by decide) ?_
      obtain ⟨v159, e159, h⟩ := bO_some h
      refine ww_aald6 159 X dX3_load_159 e159 ?_
      obtain ⟨_, f160, h⟩ := bO_some h
      obtain ⟨M160, e160, h⟩ := bO_some h
      refine ww_callVV0 160 X dX3_load_160 mY_X6_minus mL_X3_127 (rcv_spec f160) ⟨_, _, rfl⟩ (by decide) (As := [.ref v152, .ref v38, .ref v159]) (rest := []) rfl rfl ⟨Nat.le_of_ble_eq_true rfl, Nat.le_of_ble_eq_true rfl⟩ (Nat.le_of_ble_eq_true rfl) (fun l D A => c_X6_minus l D A e160) ?_
      refine ww_aload_n 163 X dX3_load_163 0 rfl rfl ?_
      obtain ⟨v164, e164, h⟩ := bO_some h
      refine ww_getR 164 X dX3_load_164 fG_X3_20 e164 ?_
      refine ww_aload_n 167 X dX3_load_167 0 rfl rfl ?_
      obtain ⟨v168, e168, h⟩ := bO_some h
      refine ww_getR 168 X dX3_load_168 fG_X3_62 e168 ?_
      refine ww_iconst 171 X (v := (0 : Int32)) dX3_load_171 (by decide) ?_
      obtain ⟨v172, e172, h⟩ := bO_some h
      refine ww_aald6 172 X dX3_load_172 e172 ?_
      refine ww_aload_n 173 X dX3_load_173 2 rfl rfl ?_
      refine ww_aload_n 174 X dX3_load_174 0 rfl rfl ?_
      obtain ⟨v175, e175, h⟩ := bO_some h
      refine ww_getR 175 X dX3_load_175 fG_X3_62 e175 ?_
      refine ww_iconst 178 X (v := (0 : Int32)) dX3_load_178 (by decide) ?_
      obtain ⟨v179, e179, h⟩ := bO_some h
      refine ww_aald6 179 X dX3_load_179 e179 ?_
      obtain ⟨_, f180, h⟩ := bO_some h
      obtain ⟨M180, e180, h⟩ := bO_some h
      refine ww_callVV0 180 X dX3_load_180 mY_X6_minus mL_X3_127 (rcv_spec f180) ⟨_, _, rfl⟩ (by decide) (As := [.ref v172, .ref v38, .ref v179]) (rest := []) rfl rfl ⟨Nat.le_of_ble_eq_true rfl, Nat.le_of_ble_eq_true rfl⟩ (Nat.le_of_ble_eq_true rfl) (fun l D A => c_X6_minus l D A e180) ?_
      refine ww_aload_n 183 X dX3_load_183 0 rfl rfl ?_
      obtain ⟨v184, e184, h⟩ := bO_some h
      refine ww_getR 184 X dX3_load_184 fG_X3_20 e184 ?_
      refine ww_aload_n 187 X dX3_load_187 0 rfl rfl ?_
      obtain ⟨v188, e188, h⟩ := bO_some h
      refine ww_getR 188 X dX3_load_188 fG_X3_62 e188 ?_
      refine ww_iconst 191 X (v := (0 : Int32)) dX3_load_191 (by decide) ?_
      obtain ⟨v192, e192, h⟩ := bO_some h
      refine ww_aald6 192 X dX3_load_192 e192 ?_
      refine ww_aload_n 193 X dX3_load_193 0 rfl rfl ?_
      obtain ⟨v194, e194, h⟩ := bO_some h
      refine ww_getR 194 X dX3_load_194 fG_X3_52 e194 ?_
      refine ww_aload_n 197 X dX3_load_197 0 rfl rfl ?_
      obtain ⟨v198, e198, h⟩ := bO_some h
      refine ww_getR 198 X dX3_load_198 fG_X3_62 e198 ?_
      refine ww_iconst 201 X (v := (0 : Int32)) dX3_load_201 (by decide) ?_
      obtain ⟨v202, e202, h⟩ := bO_some h
      refine ww_aald6 202 X dX3_load_202 e202 ?_
      obtain ⟨_, f203, h⟩ := bO_some h
      obtain ⟨M203, e203, h⟩ := bO_some h
      refine ww_callVV0 203 X dX3_load_203 mY_X6_plus mL_X3_130 (rcv_spec f203) ⟨_, _, rfl⟩ (by decide) (As := [.ref v192, .ref v194, .ref v202]) (rest := []) rfl rfl ⟨Nat.le_of_ble_eq_true rfl, Nat.le_of_ble_eq_true rfl⟩ (Nat.le_of_ble_eq_true rfl) (fun l D A => c_X6_plus l D A e203) ?_
      refine ww_aload_n 206 X dX3_load_206 0 rfl rfl ?_
      obtain ⟨v207, e207, h⟩ := bO_some h
      refine ww_getR 207 X dX3_load_207 fG_X3_20 e207 ?_
      refine ww_aload_n 210 X dX3_load_210 3 rfl rfl ?_
      refine ww_aload_n 211 X dX3_load_211 3 rfl rfl ?_
      refine ww_aload_n 212 X dX3_load_212 0 rfl rfl ?_
      obtain ⟨v213, e213, h⟩ := bO_some h
      refine ww_getR 213 X dX3_load_213 fG_X3_62 e213 ?_
      refine ww_iconst 216 X (v := (1 : Int32)) dX3_load_216 (by decide) ?_
      obtain ⟨v217, e217, h⟩ := bO_some h
      refine ww_aald6 217 X dX3_load_217 e217 ?_
      obtain ⟨_, f218, h⟩ := bO_some h
      obtain ⟨M218, e218, h⟩ := bO_some h
      refine ww_callVV0 218 X dX3_load_218 mY_X6_times mL_X3_123 (rcv_spec f218) ⟨_, _, rfl⟩ (by decide) (As := [.ref v45, .ref v45, .ref v217]) (rest := []) rfl rfl ⟨Nat.le_of_ble_eq_true rfl, Nat.le_of_ble_eq_true rfl⟩ (Nat.le_of_ble_eq_true rfl) (fun l D A => c_X6_times l D A e218) ?_
      refine ww_aload_n 221 X dX3_load_221 0 rfl rfl ?_
      obtain ⟨v222, e222, h⟩ := bO_some h
      refine ww_getR 222 X dX3_load_222 fG_X3_20 e222 ?_
      refine ww_aload_n 225 X dX3_load_225 0 rfl rfl ?_
      obtain ⟨v226, e226, h⟩ := bO_some h
      refine ww_getR 226 X dX3_load_226 fG_X3_62 e226 ?_
      refine ww_iconst 229 X (v := (0 : Int32)) dX3_load_229 (by decide) ?_
      obtain ⟨v230, e230, h⟩ := bO_some h
      refine ww_aald6 230 X dX3_load_230 e230 ?_
      refine ww_aload_n 231 X dX3_load_231 0 rfl rfl ?_
      obtain ⟨v232, e232, h⟩ := bO_some h
      refine ww_getR 232 X dX3_load_232 fG_X3_62 e232 ?_
      refine ww_iconst 235 X (v := (1 : Int32)) dX3_load_235 (by decide) ?_
      obtain ⟨v236, e236, h⟩ := bO_some h
      refine ww_aald6 236 X dX3_load_236 e236 ?_
      obtain ⟨_, f237, h⟩ := bO_some h
      obtain ⟨v237, M237, e237, h⟩ := bP_some h
      refine ww_callVI0 237 X dX3_load_237 mY_X6_areSame mL_X3_133 (rcv_spec f237) ⟨_, _, rfl⟩ (by decide) (As := [.ref v230, .ref v236]) (rest := []) rfl rfl ⟨Nat.le_of_ble_eq_true rfl, Nat.le_of_ble_eq_true rfl⟩ (Nat.le_of_ble_eq_true rfl) (fun l D A => c_X6_areSame l D A e237) ?_
      exact ww_zretE 240 X hQ dX3_load_240 h
    · replace h := (if_neg q).symm.trans h
      refine ww_iconst 31 X (v := (0 : Int32)) dX3_load_31 (by decide) ?_
      exact ww_zretE 32 X hQ dX3_load_32 h
theorem c_X3_load {G : mG} {F sz : Nat} {r0 : Int32} {M0 : mM} (l : Launch) (D : mD) (A : Nat → Prop) {l0 : Nat} {l1 : Nat} {M : mM} (h : P_X3_load G F l0 l1 M = some (r0, M0)) : mMetI l D G A yX3_load cX3_load 4 (some .boolean) 4 144 0 0 [.ref l0, .ref l1] M sz r0 M0 sz := mMetI_of l D G A (by decide) (Nat.le_of_ble_eq_true rfl) (fun x X hQ => wP_X3_load X hQ h)
/-! SealedTokens$Curve.twice()V -/
theorem dX3_twice_0 : decode cX3_twice 0 = .ok (.aload_n 0, 1) := by decide +kernel
theorem dX3_twice_1 : decode cX3_twice 1 = .ok (.getfield 59, 3) := by decide +kernel
theorem dX3_twice_4 : decode cX3_twice 4 = .ok (.iconst 0, 1) := by decide +kernel
theorem dX3_twice_5 : decode cX3_twice 5 = .ok (.aaload, 1) := by decide +kernel
theorem dX3_twice_6 : decode cX3_twice 6 = .ok (.astore_n 1, 1) := by decide +kernel
theorem dX3_twice_7 : decode cX3_twice 7 = .ok (.aload_n 0, 1) := by decide +kernel
theorem dX3_twice_8 : decode cX3_twice 8 = .ok (.getfield 59, 3) := by decide +kernel
theorem dX3_twice_11 : decode cX3_twice 11 = .ok (.iconst 1, 1) := by decide +kernel
theorem dX3_twice_12 : decode cX3_twice 12 = .ok (.aaload, 1) := by decide +kernel
theorem dX3_twice_13 : decode cX3_twice 13 = .ok (.astore_n 2, 1) := by decide +kernel
theorem dX3_twice_14 : decode cX3_twice 14 = .ok (.aload_n 0, 1) := by decide +kernel
theorem dX3_twice_15 : decode cX3_twice 15 = .ok (.getfield 59, 3) := by decide +kernel
theorem dX3_twice_18 : decode cX3_twice 18 = .ok (.iconst 2, 1) := by decide +kernel
theorem dX3_twice_19 : decode cX3_twice 19 = .ok (.aaload, 1) := by decide +kernel
theorem dX3_twice_20 : decode cX3_twice 20 = .ok (.astore_n 3, 1) := by decide +kernel
theorem dX3_twice_21 : decode cX3_twice 21 = .ok (.aload_n 0, 1) := by decide +kernel
theorem dX3_twice_22 : decode cX3_twice 22 = .ok (.getfield 20, 3) := by decide +kernel
theorem dX3_twice_25 : decode cX3_twice 25 = .ok (.aload_n 3, 1) := by decide +kernel
theorem dX3_twice_26 : decode cX3_twice 26 = .ok (.aload_n 3, 1) := by decide +kernel
theorem dX3_twice_27 : decode cX3_twice 27 = .ok (.aload_n 0, 1) := by decide +kernel
theorem dX3_twice_28 : decode cX3_twice 28 = .ok (.getfield 62, 3) := by decide +kernel
theorem dX3_twice_31 : decode cX3_twice 31 = .ok (.iconst 0, 1) := by decide +kernel
theorem dX3_twice_32 : decode cX3_twice 32 = .ok (.aaload, 1) := by decide +kernel
theorem dX3_twice_33 : decode cX3_twice 33 = .ok (.invokevirtual 123, 3) := by decide +kernel
theorem dX3_twice_36 : decode cX3_twice 36 = .ok (.aload_n 0, 1) := by decide +kernel
theorem dX3_twice_37 : decode cX3_twice 37 = .ok (.getfield 20, 3) := by decide +kernel
theorem dX3_twice_40 : decode cX3_twice 40 = .ok (.aload_n 2, 1) := by decide +kernel
theorem dX3_twice_41 : decode cX3_twice 41 = .ok (.aload_n 2, 1) := by decide +kernel
theorem dX3_twice_42 : decode cX3_twice 42 = .ok (.aload_n 0, 1) := by decide +kernel
theorem dX3_twice_43 : decode cX3_twice 43 = .ok (.getfield 62, 3) := by decide +kernel
theorem dX3_twice_46 : decode cX3_twice 46 = .ok (.iconst 1, 1) := by decide +kernel
theorem dX3_twice_47 : decode cX3_twice 47 = .ok (.aaload, 1) := by decide +kernel
theorem dX3_twice_48 : decode cX3_twice 48 = .ok (.invokevirtual 123, 3) := by decide +kernel
theorem dX3_twice_51 : decode cX3_twice 51 = .ok (.aload_n 0, 1) := by decide +kernel
theorem dX3_twice_52 : decode cX3_twice 52 = .ok (.getfield 20, 3) := by decide +kernel
theorem dX3_twice_55 : decode cX3_twice 55 = .ok (.aload_n 1, 1) := by decide +kernel
theorem dX3_twice_56 : decode cX3_twice 56 = .ok (.aload_n 0, 1) := by decide +kernel
theorem dX3_twice_57 : decode cX3_twice 57 = .ok (.getfield 62, 3) := by decide +kernel
theorem dX3_twice_60 : decode cX3_twice 60 = .ok (.iconst 1, 1) := by decide +kernel
theorem dX3_twice_61 : decode cX3_twice 61 = .ok (.aaload, 1) := by decide +kernel
theorem dX3_twice_62 : decode cX3_twice 62 = .ok (.aload_n 0, 1) := by decide +kernel
theorem dX3_twice_63 : decode cX3_twice 63 = .ok (.getfield 62, 3) := by decide +kernel
theorem dX3_twice_66 : decode cX3_twice 66 = .ok (.iconst 2, 1) := by decide +kernel
theorem dX3_twice_67 : decode cX3_twice 67 = .ok (.aaload, 1) := by decide +kernel
theorem dX3_twice_68 : decode cX3_twice 68 = .ok (.invokevirtual 123, 3) := by decide +kernel
theorem dX3_twice_71 : decode cX3_twice 71 = .ok (.aload_n 0, 1) := by decide +kernel
theorem dX3_twice_72 : decode cX3_twice 72 = .ok (.getfield 20, 3) := by decide +kernel
theorem dX3_twice_75 : decode cX3_twice 75 = .ok (.aload_n 1, 1) := by decide +kernel
theorem dX3_twice_76 : decode cX3_twice 76 = .ok (.aload_n 0, 1) := by decide +kernel
theorem dX3_twice_77 : decode cX3_twice 77 = .ok (.getfield 62, 3) := by decide +kernel
theorem dX3_twice_80 : decode cX3_twice 80 = .ok (.iconst 0, 1) := by decide +kernel
theorem dX3_twice_81 : decode cX3_twice 81 = .ok (.aaload, 1) := by decide +kernel
theorem dX3_twice_82 : decode cX3_twice 82 = .ok (.aload_n 0, 1) := by decide +kernel
theorem dX3_twice_83 : decode cX3_twice 83 = .ok (.getfield 62, 3) := by decide +kernel
theorem dX3_twice_86 : decode cX3_twice 86 = .ok (.iconst 3, 1) := by decide +kernel
theorem dX3_twice_87 : decode cX3_twice 87 = .ok (.aaload, 1) := by decide +kernel
theorem dX3_twice_88 : decode cX3_twice 88 = .ok (.invokevirtual 127, 3) := by decide +kernel
theorem dX3_twice_91 : decode cX3_twice 91 = .ok (.aload_n 0, 1) := by decide +kernel
theorem dX3_twice_92 : decode cX3_twice 92 = .ok (.getfield 20, 3) := by decide +kernel
theorem dX3_twice_95 : decode cX3_twice 95 = .ok (.aload_n 1, 1) := by decide +kernel
theorem dX3_twice_96 : decode cX3_twice 96 = .ok (.aload_n 0, 1) := by decide +kernel
theorem dX3_twice_97 : decode cX3_twice 97 = .ok (.getfield 62, 3) := by decide +kernel
theorem dX3_twice_100 : decode cX3_twice 100 = .ok (.iconst 0, 1) := by decide +kernel
theorem dX3_twice_101 : decode cX3_twice 101 = .ok (.aaload, 1) := by decide +kernel
theorem dX3_twice_102 : decode cX3_twice 102 = .ok (.aload_n 0, 1) := by decide +kernel
theorem dX3_twice_103 : decode cX3_twice 103 = .ok (.getfield 62, 3) := by decide +kernel
theorem dX3_twice_106 : decode cX3_twice 106 = .ok (.iconst 4, 1) := by decide +kernel
theorem dX3_twice_107 : decode cX3_twice 107 = .ok (.aaload, 1) := by decide +kernel
theorem dX3_twice_108 : decode cX3_twice 108 = .ok (.invokevirtual 130, 3) := by decide +kernel
theorem dX3_twice_111 : decode cX3_twice 111 = .ok (.aload_n 0, 1) := by decide +kernel
theorem dX3_twice_112 : decode cX3_twice 112 = .ok (.getfield 20, 3) := by decide +kernel
theorem dX3_twice_115 : decode cX3_twice 115 = .ok (.aload_n 0, 1) := by decide +kernel
theorem dX3_twice_116 : decode cX3_twice 116 = .ok (.getfield 62, 3) := by decide +kernel
theorem dX3_twice_119 : decode cX3_twice 119 = .ok (.iconst 3, 1) := by decide +kernel
theorem dX3_twice_120 : decode cX3_twice 120 = .ok (.aaload, 1) := by decide +kernel
theorem dX3_twice_121 : decode cX3_twice 121 = .ok (.aload_n 0, 1) := by decide +kernel
theorem dX3_twice_122 : decode cX3_twice 122 = .ok (.getfield 62, 3) := by decide +kernel
theorem dX3_twice_125 : decode cX3_twice 125 = .ok (.iconst 4, 1) := by decide +kernel
theorem dX3_twice_126 : decode cX3_twice 126 = .ok (.aaload, 1) := by decide +kernel
theorem dX3_twice_127 : decode cX3_twice 127 = .ok (.aload_n 0, 1) := by decide +kernel
theorem dX3_twice_128 : decode cX3_twice 128 = .ok (.getfield 62, 3) := by decide +kernel
theorem dX3_twice_131 : decode cX3_twice 131 = .ok (.iconst 3, 1) := by decide +kernel
theorem dX3_twice_132 : decode cX3_twice 132 = .ok (.aaload, 1) := by decide +kernel
theorem dX3_twice_133 : decode cX3_twice 133 = .ok (.invokevirtual 123, 3) := by decide +kernel
theorem dX3_twice_136 : decode cX3_twice 136 = .ok (.aload_n 0, 1) := by decide +kernel
theorem dX3_twice_137 : decode cX3_twice 137 = .ok (.getfield 20, 3) := by decide +kernel
theorem dX3_twice_140 : decode cX3_twice 140 = .ok (.aload_n 0, 1) := by decide +kernel
theorem dX3_twice_141 : decode cX3_twice 141 = .ok (.getfield 62, 3) := by decide +kernel
theorem dX3_twice_144 : decode cX3_twice 144 = .ok (.iconst 3, 1) := by decide +kernel
theorem dX3_twice_145 : decode cX3_twice 145 = .ok (.aaload, 1) := by decide +kernel
theorem dX3_twice_146 : decode cX3_twice 146 = .ok (.aload_n 0, 1) := by decide +kernel
theorem dX3_twice_147 : decode cX3_twice 147 = .ok (.getfield 62, 3) := by decide +kernel
theorem dX3_twice_150 : decode cX3_twice 150 = .ok (.iconst 3, 1) := by decide +kernel
theorem dX3_twice_151 : decode cX3_twice 151 = .ok (.aaload, 1) := by decide +kernel
theorem dX3_twice_152 : decode cX3_twice 152 = .ok (.aload_n 0, 1) := by decide +kernel
theorem dX3_twice_153 : decode cX3_twice 153 = .ok (.getfield 62, 3) := by decide +kernel
theorem dX3_twice_156 : decode cX3_twice 156 = .ok (.iconst 4, 1) := by decide +kernel
theorem dX3_twice_157 : decode cX3_twice 157 = .ok (.aaload, 1) := by decide +kernel
theorem dX3_twice_158 : decode cX3_twice 158 = .ok (.invokevirtual 130, 3) := by decide +kernel
theorem dX3_twice_161 : decode cX3_twice 161 = .ok (.aload_n 0, 1) := by decide +kernel
theorem dX3_twice_162 : decode cX3_twice 162 = .ok (.getfield 20, 3) := by decide +kernel
theorem dX3_twice_165 : decode cX3_twice 165 = .ok (.aload_n 0, 1) := by decide +kernel
theorem dX3_twice_166 : decode cX3_twice 166 = .ok (.getfield 62, 3) := by decide +kernel
theorem dX3_twice_169 : decode cX3_twice 169 = .ok (.iconst 4, 1) := by decide +kernel
theorem dX3_twice_170 : decode cX3_twice 170 = .ok (.aaload, 1) := by decide +kernel
theorem dX3_twice_171 : decode cX3_twice 171 = .ok (.aload_n 0, 1) := by decide +kernel
theorem dX3_twice_172 : decode cX3_twice 172 = .ok (.getfield 62, 3) := by decide +kernel
theorem dX3_twice_175 : decode cX3_twice 175 = .ok (.iconst 3, 1) := by decide +kernel
theorem dX3_twice_176 : decode cX3_twice 176 = .ok (.aaload, 1) := by decide +kernel
theorem dX3_twice_177 : decode cX3_twice 177 = .ok (.aload_n 0, 1) := by decide +kernel
theorem dX3_twice_178 : decode cX3_twice 178 = .ok (.getfield 62, 3) := by decide +kernel
theorem dX3_twice_181 : decode cX3_twice 181 = .ok (.iconst 3, 1) := by decide +kernel
theorem dX3_twice_182 : decode cX3_twice 182 = .ok (.aaload, 1) := by decide +kernel
theorem dX3_twice_183 : decode cX3_twice 183 = .ok (.invokevirtual 130, 3) := by decide +kernel
theorem dX3_twice_186 : decode cX3_twice 186 = .ok (.aload_n 0, 1) := by decide +kernel
theorem dX3_twice_187 : decode cX3_twice 187 = .ok (.getfield 20, 3) := by decide +kernel
theorem dX3_twice_190 : decode cX3_twice 190 = .ok (.aload_n 2, 1) := by decide +kernel
theorem dX3_twice_191 : decode cX3_twice 191 = .ok (.aload_n 3, 1) := by decide +kernel
theorem dX3_twice_192 : decode cX3_twice 192 = .ok (.aload_n 3, 1) := by decide +kernel
theorem dX3_twice_193 : decode cX3_twice 193 = .ok (.invokevirtual 130, 3) := by decide +kernel
theorem dX3_twice_196 : decode cX3_twice 196 = .ok (.aload_n 0, 1) := by decide +kernel
theorem dX3_twice_197 : decode cX3_twice 197 = .ok (.getfield 20, 3) := by decide +kernel
theorem dX3_twice_200 : decode cX3_twice 200 = .ok (.aload_n 3, 1) := by decide +kernel
theorem dX3_twice_201 : decode cX3_twice 201 = .ok (.aload_n 3, 1) := by decide +kernel
theorem dX3_twice_202 : decode cX3_twice 202 = .ok (.aload_n 3, 1) := by decide +kernel
theorem dX3_twice_203 : decode cX3_twice 203 = .ok (.invokevirtual 123, 3) := by decide +kernel
theorem dX3_twice_206 : decode cX3_twice 206 = .ok (.aload_n 0, 1) := by decide +kernel
theorem dX3_twice_207 : decode cX3_twice 207 = .ok (.getfield 20, 3) := by decide +kernel
theorem dX3_twice_210 : decode cX3_twice 210 = .ok (.aload_n 3, 1) := by decide +kernel
theorem dX3_twice_211 : decode cX3_twice 211 = .ok (.aload_n 0, 1) := by decide +kernel
theorem dX3_twice_212 : decode cX3_twice 212 = .ok (.getfield 62, 3) := by decide +kernel
theorem dX3_twice_215 : decode cX3_twice 215 = .ok (.iconst 1, 1) := by decide +kernel
theorem dX3_twice_216 : decode cX3_twice 216 = .ok (.aaload, 1) := by decide +kernel
theorem dX3_twice_217 : decode cX3_twice 217 = .ok (.aload_n 3, 1) := by decide +kernel
theorem dX3_twice_218 : decode cX3_twice 218 = .ok (.invokevirtual 127, 3) := by decide +kernel
theorem dX3_twice_221 : decode cX3_twice 221 = .ok (.aload_n 0, 1) := by decide +kernel
theorem dX3_twice_222 : decode cX3_twice 222 = .ok (.getfield 20, 3) := by decide +kernel
theorem dX3_twice_225 : decode cX3_twice 225 = .ok (.aload_n 3, 1) := by decide +kernel
theorem dX3_twice_226 : decode cX3_twice 226 = .ok (.aload_n 0, 1) := by decide +kernel
theorem dX3_twice_227 : decode cX3_twice 227 = .ok (.getfield 62, 3) := by decide +kernel
theorem dX3_twice_230 : decode cX3_twice 230 = .ok (.iconst 0, 1) := by decide +kernel
theorem dX3_twice_231 : decode cX3_twice 231 = .ok (.aaload, 1) := by decide +kernel
theorem dX3_twice_232 : decode cX3_twice 232 = .ok (.aload_n 3, 1) := by decide +kernel
theorem dX3_twice_233 : decode cX3_twice 233 = .ok (.invokevirtual 127, 3) := by decide +kernel
theorem dX3_twice_236 : decode cX3_twice 236 = .ok (.aload_n 0, 1) := by decide +kernel
theorem dX3_twice_237 : decode cX3_twice 237 = .ok (.getfield 20, 3) := by decide +kernel
theorem dX3_twice_240 : decode cX3_twice 240 = .ok (.aload_n 0, 1) := by decide +kernel
theorem dX3_twice_241 : decode cX3_twice 241 = .ok (.getfield 62, 3) := by decide +kernel
theorem dX3_twice_244 : decode cX3_twice 244 = .ok (.iconst 2, 1) := by decide +kernel
theorem dX3_twice_245 : decode cX3_twice 245 = .ok (.aaload, 1) := by decide +kernel
theorem dX3_twice_246 : decode cX3_twice 246 = .ok (.aload_n 0, 1) := by decide +kernel
theorem dX3_twice_247 : decode cX3_twice 247 = .ok (.getfield 62, 3) := by decide +kernel
theorem dX3_twice_250 : decode cX3_twice 250 = .ok (.iconst 2, 1) := by decide +kernel
theorem dX3_twice_251 : decode cX3_twice 251 = .ok (.aaload, 1) := by decide +kernel
theorem dX3_twice_252 : decode cX3_twice 252 = .ok (.aload_n 0, 1) := by decide +kernel
theorem dX3_twice_253 : decode cX3_twice 253 = .ok (.getfield 62, 3) := by decide +kernel
theorem dX3_twice_256 : decode cX3_twice 256 = .ok (.iconst 2, 1) := by decide +kernel
theorem dX3_twice_257 : decode cX3_twice 257 = .ok (.aaload, 1) := by decide +kernel
theorem dX3_twice_258 : decode cX3_twice 258 = .ok (.invokevirtual 130, 3) := by decide +kernel
theorem dX3_twice_261 : decode cX3_twice 261 = .ok (.aload_n 0, 1) := by decide +kernel
theorem dX3_twice_262 : decode cX3_twice 262 = .ok (.getfield 20, 3) := by decide +kernel
theorem dX3_twice_265 : decode cX3_twice 265 = .ok (.aload_n 0, 1) := by decide +kernel
theorem dX3_twice_266 : decode cX3_twice 266 = .ok (.getfield 62, 3) := by decide +kernel
theorem dX3_twice_269 : decode cX3_twice 269 = .ok (.iconst 2, 1) := by decide +kernel
theorem dX3_twice_270 : decode cX3_twice 270 = .ok (.aaload, 1) := by decide +kernel
theorem dX3_twice_271 : decode cX3_twice 271 = .ok (.aload_n 0, 1) := by decide +kernel
theorem dX3_twice_272 : decode cX3_twice 272 = .ok (.getfield 62, 3) := by decide +kernel
theorem dX3_twice_275 : decode cX3_twice 275 = .ok (.iconst 2, 1) := by decide +kernel
theorem dX3_twice_276 : decode cX3_twice 276 = .ok (.aaload, 1) := by decide +kernel
theorem dX3_twice_277 : decode cX3_twice 277 = .ok (.aload_n 0, 1) := by decide +kernel
theorem dX3_twice_278 : decode cX3_twice 278 = .ok (.getfield 62, 3) := by decide +kernel
theorem dX3_twice_281 : decode cX3_twice 281 = .ok (.iconst 2, 1) := by decide +kernel
theorem dX3_twice_282 : decode cX3_twice 282 = .ok (.aaload, 1) := by decide +kernel
theorem dX3_twice_283 : decode cX3_twice 283 = .ok (.invokevirtual 130, 3) := by decide +kernel
theorem dX3_twice_286 : decode cX3_twice 286 = .ok (.aload_n 0, 1) := by decide +kernel
theorem dX3_twice_287 : decode cX3_twice 287 = .ok (.getfield 20, 3) := by decide +kernel
theorem dX3_twice_290 : decode cX3_twice 290 = .ok (.aload_n 0, 1) := by decide +kernel
theorem dX3_twice_291 : decode cX3_twice 291 = .ok (.getfield 62, 3) := by decide +kernel
theorem dX3_twice_294 : decode cX3_twice 294 = .ok (.iconst 3, 1) := by decide +kernel
theorem dX3_twice_295 : decode cX3_twice 295 = .ok (.aaload, 1) := by decide +kernel
theorem dX3_twice_296 : decode cX3_twice 296 = .ok (.aload_n 0, 1) := by decide +kernel
theorem dX3_twice_297 : decode cX3_twice 297 = .ok (.getfield 62, 3) := by decide +kernel
theorem dX3_twice_300 : decode cX3_twice 300 = .ok (.iconst 3, 1) := by decide +kernel
theorem dX3_twice_301 : decode cX3_twice 301 = .ok (.aaload, 1) := by decide +kernel
theorem dX3_twice_302 : decode cX3_twice 302 = .ok (.aload_n 1, 1) := by decide +kernel
theorem dX3_twice_303 : decode cX3_twice 303 = .ok (.invokevirtual 123, 3) := by decide +kernel
theorem dX3_twice_306 : decode cX3_twice 306 = .ok (.aload_n 0, 1) := by decide +kernel
theorem dX3_twice_307 : decode cX3_twice 307 = .ok (.getfield 20, 3) := by decide +kernel
theorem dX3_twice_310 : decode cX3_twice 310 = .ok (.aload_n 1, 1) := by decide +kernel
theorem dX3_twice_311 : decode cX3_twice 311 = .ok (.aload_n 0, 1) := by decide +kernel
theorem dX3_twice_312 : decode cX3_twice 312 = .ok (.getfield 62, 3) := by decide +kernel
theorem dX3_twice_315 : decode cX3_twice 315 = .ok (.iconst 2, 1) := by decide +kernel
theorem dX3_twice_316 : decode cX3_twice 316 = .ok (.aaload, 1) := by decide +kernel
theorem dX3_twice_317 : decode cX3_twice 317 = .ok (.aload_n 1, 1) := by decide +kernel
theorem dX3_twice_318 : decode cX3_twice 318 = .ok (.invokevirtual 127, 3) := by decide +kernel
theorem dX3_twice_321 : decode cX3_twice 321 = .ok (.aload_n 0, 1) := by decide +kernel
theorem dX3_twice_322 : decode cX3_twice 322 = .ok (.getfield 20, 3) := by decide +kernel
theorem dX3_twice_325 : decode cX3_twice 325 = .ok (.aload_n 1, 1) := by decide +kernel
theorem dX3_twice_326 : decode cX3_twice 326 = .ok (.aload_n 0, 1) := by decide +kernel
theorem dX3_twice_327 : decode cX3_twice 327 = .ok (.getfield 62, 3) := by decide +kernel
theorem dX3_twice_330 : decode cX3_twice 330 = .ok (.iconst 2, 1) := by decide +kernel
theorem dX3_twice_331 : decode cX3_twice 331 = .ok (.aaload, 1) := by decide +kernel
theorem dX3_twice_332 : decode cX3_twice 332 = .ok (.aload_n 1, 1) := by decide +kernel
theorem dX3_twice_333 : decode cX3_twice 333 = .ok (.invokevirtual 127, 3) := by decide +kernel
theorem dX3_twice_336 : decode cX3_twice 336 = .ok (.aload_n 0, 1) := by decide +kernel
theorem dX3_twice_337 : decode cX3_twice 337 = .ok (.getfield 20, 3) := by decide +kernel
theorem dX3_twice_340 : decode cX3_twice 340 = .ok (.aload_n 0, 1) := by decide +kernel
theorem dX3_twice_341 : decode cX3_twice 341 = .ok (.getfield 62, 3) := by decide +kernel
theorem dX3_twice_344 : decode cX3_twice 344 = .ok (.iconst 1, 1) := by decide +kernel
theorem dX3_twice_345 : decode cX3_twice 345 = .ok (.aaload, 1) := by decide +kernel
theorem dX3_twice_346 : decode cX3_twice 346 = .ok (.aload_n 0, 1) := by decide +kernel
theorem dX3_twice_347 : decode cX3_twice 347 = .ok (.getfield 62, 3) := by decide +kernel
theorem dX3_twice_350 : decode cX3_twice 350 = .ok (.iconst 1, 1) := by decide +kernel
theorem dX3_twice_351 : decode cX3_twice 351 = .ok (.aaload, 1) := by decide +kernel
theorem dX3_twice_352 : decode cX3_twice 352 = .ok (.aload_n 0, 1) := by decide +kernel
theorem dX3_twice_353 : decode cX3_twice 353 = .ok (.getfield 62, 3) := by decide +kernel
theorem dX3_twice_356 : decode cX3_twice 356 = .ok (.iconst 1, 1) := by decide +kernel
theorem dX3_twice_357 : decode cX3_twice 357 = .ok (.aaload, 1) := by decide +kernel
theorem dX3_twice_358 : decode cX3_twice 358 = .ok (.invokevirtual 123, 3) := by decide +kernel
theorem dX3_twice_361 : decode cX3_twice 361 = .ok (.aload_n 0, 1) := by decide +kernel
theorem dX3_twice_362 : decode cX3_twice 362 = .ok (.getfield 20, 3) := by decide +kernel
theorem dX3_twice_365 : decode cX3_twice 365 = .ok (.aload_n 0, 1) := by decide +kernel
theorem dX3_twice_366 : decode cX3_twice 366 = .ok (.getfield 62, 3) := by decide +kernel
theorem dX3_twice_369 : decode cX3_twice 369 = .ok (.iconst 1, 1) := by decide +kernel
theorem dX3_twice_370 : decode cX3_twice 370 = .ok (.aaload, 1) := by decide +kernel
theorem dX3_twice_371 : decode cX3_twice 371 = .ok (.aload_n 0, 1) := by decide +kernel
theorem dX3_twice_372 : decode cX3_twice 372 = .ok (.getfield 62, 3) := by decide +kernel
theorem dX3_twice_375 : decode cX3_twice 375 = .ok (.iconst 1, 1) := by decide +kernel
theorem dX3_twice_376 : decode cX3_twice 376 = .ok (.aaload, 1) := by decide +kernel
theorem dX3_twice_377 : decode cX3_twice 377 = .ok (.aload_n 0, 1) := by decide +kernel
theorem dX3_twice_378 : decode cX3_twice 378 = .ok (.getfield 62, 3) := by decide +kernel
theorem dX3_twice_381 : decode cX3_twice 381 = .ok (.iconst 1, 1) := by decide +kernel
theorem dX3_twice_382 : decode cX3_twice 382 = .ok (.aaload, 1) := by decide +kernel
theorem dX3_twice_383 : decode cX3_twice 383 = .ok (.invokevirtual 130, 3) := by decide +kernel
theorem dX3_twice_386 : decode cX3_twice 386 = .ok (.aload_n 0, 1) := by decide +kernel
theorem dX3_twice_387 : decode cX3_twice 387 = .ok (.getfield 20, 3) := by decide +kernel
theorem dX3_twice_390 : decode cX3_twice 390 = .ok (.aload_n 0, 1) := by decide +kernel
theorem dX3_twice_391 : decode cX3_twice 391 = .ok (.getfield 62, 3) := by decide +kernel
theorem dX3_twice_394 : decode cX3_twice 394 = .ok (.iconst 1, 1) := by decide +kernel
theorem dX3_twice_395 : decode cX3_twice 395 = .ok (.aaload, 1) := by decide +kernel
theorem dX3_twice_396 : decode cX3_twice 396 = .ok (.aload_n 0, 1) := by decide +kernel
theorem dX3_twice_397 : decode cX3_twice 397 = .ok (.getfield 62, 3) := by decide +kernel
theorem dX3_twice_400 : decode cX3_twice 400 = .ok (.iconst 1, 1) := by decide +kernel
theorem dX3_twice_401 : decode cX3_twice 401 = .ok (.aaload, 1) := by decide +kernel
theorem dX3_twice_402 : decode cX3_twice 402 = .ok (.aload_n 0, 1) := by decide +kernel
theorem dX3_twice_403 : decode cX3_twice 403 = .ok (.getfield 62, 3) := by decide +kernel
theorem dX3_twice_406 : decode cX3_twice 406 = .ok (.iconst 1, 1) := by decide +kernel
theorem dX3_twice_407 : decode cX3_twice 407 = .ok (.aaload, 1) := by decide +kernel
theorem dX3_twice_408 : decode cX3_twice 408 = .ok (.invokevirtual 130, 3) := by decide +kernel
theorem dX3_twice_411 : decode cX3_twice 411 = .ok (.aload_n 0, 1) := by decide +kernel
theorem dX3_twice_412 : decode cX3_twice 412 = .ok (.getfield 20, 3) := by decide +kernel
theorem dX3_twice_415 : decode cX3_twice 415 = .ok (.aload_n 0, 1) := by decide +kernel
theorem dX3_twice_416 : decode cX3_twice 416 = .ok (.getfield 62, 3) := by decide +kernel
theorem dX3_twice_419 : decode cX3_twice 419 = .ok (.iconst 1, 1) := by decide +kernel
theorem dX3_twice_420 : decode cX3_twice 420 = .ok (.aaload, 1) := by decide +kernel
theorem dX3_twice_421 : decode cX3_twice 421 = .ok (.aload_n 0, 1) := by decide +kernel
theorem dX3_twice_422 : decode cX3_twice 422 = .ok (.getfield 62, 3) := by decide +kernel
theorem dX3_twice_425 : decode cX3_twice 425 = .ok (.iconst 1, 1) := by decide +kernel
theorem dX3_twice_426 : decode cX3_twice 426 = .ok (.aaload, 1) := by decide +kernel
theorem dX3_twice_427 : decode cX3_twice 427 = .ok (.aload_n 0, 1) := by decide +kernel
theorem dX3_twice_428 : decode cX3_twice 428 = .ok (.getfield 62, 3) := by decide +kernel
theorem dX3_twice_431 : decode cX3_twice 431 = .ok (.iconst 1, 1) := by decide +kernel
theorem dX3_twice_432 : decode cX3_twice 432 = .ok (.aaload, 1) := by decide +kernel
theorem dX3_twice_433 : decode cX3_twice 433 = .ok (.invokevirtual 130, 3) := by decide +kernel
theorem dX3_twice_436 : decode cX3_twice 436 = .ok (.aload_n 0, 1) := by decide +kernel
theorem dX3_twice_437 : decode cX3_twice 437 = .ok (.getfield 20, 3) := by decide +kernel
theorem dX3_twice_440 : decode cX3_twice 440 = .ok (.aload_n 0, 1) := by decide +kernel
theorem dX3_twice_441 : decode cX3_twice 441 = .ok (.getfield 62, 3) := by decide +kernel
theorem dX3_twice_444 : decode cX3_twice 444 = .ok (.iconst 2, 1) := by decide +kernel
theorem dX3_twice_445 : decode cX3_twice 445 = .ok (.aaload, 1) := by decide +kernel
theorem dX3_twice_446 : decode cX3_twice 446 = .ok (.aload_n 1, 1) := by decide +kernel
theorem dX3_twice_447 : decode cX3_twice 447 = .ok (.aload_n 0, 1) := by decide +kernel
theorem dX3_twice_448 : decode cX3_twice 448 = .ok (.getfield 62, 3) := by decide +kernel
theorem dX3_twice_451 : decode cX3_twice 451 = .ok (.iconst 2, 1) := by decide +kernel
theorem dX3_twice_452 : decode cX3_twice 452 = .ok (.aaload, 1) := by decide +kernel
theorem dX3_twice_453 : decode cX3_twice 453 = .ok (.invokevirtual 127, 3) := by decide +kernel
theorem dX3_twice_456 : decode cX3_twice 456 = .ok (.aload_n 0, 1) := by decide +kernel
theorem dX3_twice_457 : decode cX3_twice 457 = .ok (.getfield 20, 3) := by decide +kernel
theorem dX3_twice_460 : decode cX3_twice 460 = .ok (.aload_n 0, 1) := by decide +kernel
theorem dX3_twice_461 : decode cX3_twice 461 = .ok (.getfield 62, 3) := by decide +kernel
theorem dX3_twice_464 : decode cX3_twice 464 = .ok (.iconst 3, 1) := by decide +kernel
theorem dX3_twice_465 : decode cX3_twice 465 = .ok (.aaload, 1) := by decide +kernel
theorem dX3_twice_466 : decode cX3_twice 466 = .ok (.aload_n 0, 1) := by decide +kernel
theorem dX3_twice_467 : decode cX3_twice 467 = .ok (.getfield 62, 3) := by decide +kernel
theorem dX3_twice_470 : decode cX3_twice 470 = .ok (.iconst 2, 1) := by decide +kernel
theorem dX3_twice_471 : decode cX3_twice 471 = .ok (.aaload, 1) := by decide +kernel
theorem dX3_twice_472 : decode cX3_twice 472 = .ok (.aload_n 2, 1) := by decide +kernel
theorem dX3_twice_473 : decode cX3_twice 473 = .ok (.invokevirtual 123, 3) := by decide +kernel
theorem dX3_twice_476 : decode cX3_twice 476 = .ok (.aload_n 0, 1) := by decide +kernel
theorem dX3_twice_477 : decode cX3_twice 477 = .ok (.getfield 20, 3) := by decide +kernel
theorem dX3_twice_480 : decode cX3_twice 480 = .ok (.aload_n 2, 1) := by decide +kernel
theorem dX3_twice_481 : decode cX3_twice 481 = .ok (.aload_n 0, 1) := by decide +kernel
theorem dX3_twice_482 : decode cX3_twice 482 = .ok (.getfield 62, 3) := by decide +kernel
theorem dX3_twice_485 : decode cX3_twice 485 = .ok (.iconst 1, 1) := by decide +kernel
theorem dX3_twice_486 : decode cX3_twice 486 = .ok (.aaload, 1) := by decide +kernel
theorem dX3_twice_487 : decode cX3_twice 487 = .ok (.aload_n 2, 1) := by decide +kernel
theorem dX3_twice_488 : decode cX3_twice 488 = .ok (.invokevirtual 127, 3) := by decide +kernel
theorem dX3_twice_491 : decode cX3_twice 491 = .ok (.return_, 1) := by decide +kernel
abbrev rmX3_twice : Room := { frames := 3, cells := 0, slots := 0, locals := 115 }
set_option maxHeartbeats 4000000 in
set_option maxRecDepth 100000 in
theorem wP_X3_twice {G : mG} {F : Nat} {x : mXT} {sz : Nat} {M0 : mM} (X : mCX G RX3 cX3_twice 4 none "twice" rmX3_twice x) (hQ : mQV x M0 (sz, 0, 0)) {l0 : Nat} {M : mM} (h : P_X3_twice G F l0 M = some M0) : WW x (sz, 0, 0) M 0 [(0, .ref l0)] [] := by
  unfold P_X3_twice at h
  refine ww_aload_n 0 X dX3_twice_0 0 rfl rfl ?_
  obtain ⟨v1, e1, h⟩ := bO_some h
  refine ww_getR 1 X dX3_twice_1 fG_X3_59 e1 ?_
  refine ww_iconst 4 X (v := (0 : Int32)) dX3_twice_4 (by decide) ?_
  obtain ⟨v5, e5, h⟩ := bO_some h
  refine ww_aald6 5 X dX3_twice_5 e5 ?_
  refine ww_astore_n 6 X dX3_twice_6 (lv' := [(0, .ref l0), (1, .ref v5)]) rfl (by decide) [1, 0] rfl ?_
  refine ww_aload_n 7 X dX3_twice_7 0 rfl rfl ?_
  obtain ⟨v8, e8, h⟩ := bO_some h
  refine ww_getR 8 X dX3_twice_8 fG_X3_59 e8 ?_
  refine ww_iconst 11 X (v := (1 : Int32)) dX3_twice_11 (by decide) ?_
  obtain ⟨v12, e12, h⟩ := bO_some h
  refine ww_aald6 12 X dX3_twice_12 e12 ?_
  refine ww_astore_n 13 X dX3_twice_13 (lv' := [(0, .ref l0), (1, .ref v5), (2, .ref v12)]) rfl (by decide) [1, 2, 0] rfl ?_
  refine ww_aload_n 14 X dX3_twice_14 0 rfl rfl ?_
  obtain ⟨v15, e15, h⟩ := bO_some h
  refine ww_getR 15 X dX3_twice_15 fG_X3_59 e15 ?_
  refine ww_iconst 18 X (v := (2 : Int32)) dX3_twice_18 (by decide) ?_
  obtain ⟨v19, e19, h⟩ := bO_some h
  refine ww_aald6 19 X dX3_twice_19 e19 ?_
  refine ww_astore_n 20 X dX3_twice_20 (lv' := [(0, .ref l0), (1, .ref v5), (2, .ref v12), (3, .ref v19)]) rfl (by decide) [1, 2, 3, 0] rfl ?_
  refine ww_aload_n 21 X dX3_twice_21 0 rfl rfl ?_
  obtain ⟨v22, e22, h⟩ := bO_some h
  refine ww_getR 22 X dX3_twice_22 fG_X3_20 e22 ?_
  refine ww_aload_n 25 X dX3_twice_25 3 rfl rfl ?_
  refine ww_aload_n 26 X dX3_twice_26 3 rfl rfl ?_
  refine ww_aload_n 27 X dX3_twice_27 0 rfl rfl ?_
  obtain ⟨v28, e28, h⟩ := bO_some h
  refine ww_getR 28 X dX3_twice_28 fG_X3_62 e28 ?_
  refine ww_iconst 31 X (v := (0 : Int32)) dX3_twice_31 (by decide) ?_
  obtain ⟨v32, e32, h⟩ := bO_some h
  refine ww_aald6 32 X dX3_twice_32 e32 ?_
  obtain ⟨_, f33, h⟩ := bO_some h
  obtain ⟨M33, e33, h⟩ := bO_some h
  refine ww_callVV0 33 X dX3_twice_33 mY_X6_times mL_X3_123 (rcv_spec f33) ⟨_, _, rfl⟩ (by decide) (As := [.ref v19, .ref v19, .ref v32]) (rest := []) rfl rfl ⟨Nat.le_of_ble_eq_true rfl, Nat.le_of_ble_eq_true rfl⟩ (Nat.le_of_ble_eq_true rfl) (fun l D A => c_X6_times l D A e33) ?_
  refine ww_aload_n 36 X dX3_twice_36 0 rfl rfl ?_
  obtain ⟨v37, e37, h⟩ := bO_some h
  refine ww_getR 37 X dX3_twice_37 fG_X3_20 e37 ?_
  refine ww_aload_n 40 X dX3_twice_40 2 rfl rfl ?_
  refine ww_aload_n 41 X dX3_twice_41 2 rfl rfl ?_
  refine ww_aload_n 42 X dX3_twice_42 0 rfl rfl ?_
  obtain ⟨v43, e43, h⟩ := bO_some h
  refine ww_getR 43 X dX3_twice_43 fG_X3_62 e43 ?_
  refine ww_iconst 46 X (v := (1 : Int32)) dX3_twice_46 (by decide) ?_
  obtain ⟨v47, e47, h⟩ := bO_some h
  refine ww_aald6 47 X dX3_twice_47 e47 ?_
  obtain ⟨_, f48, h⟩ := bO_some h
  obtain ⟨M48, e48, h⟩ := bO_some h
  refine ww_callVV0 48 X dX3_twice_48 mY_X6_times mL_X3_123 (rcv_spec f48) ⟨_, _, rfl⟩ (by decide) (As := [.ref v12, .ref v12, .ref v47]) (rest := []) rfl rfl ⟨Nat.le_of_ble_eq_true rfl, Nat.le_of_ble_eq_true rfl⟩ (Nat.le_of_ble_eq_true rfl) (fun l D A => c_X6_times l D A e48) ?_
  refine ww_aload_n 51 X dX3_twice_51 0 rfl rfl ?_
  obtain ⟨v52, e52, h⟩ := bO_some h
  refine ww_getR 52 X dX3_twice_52 fG_X3_20 e52 ?_
  refine ww_aload_n 55 X dX3_twice_55 1 rfl rfl ?_
  refine ww_aload_n 56 X dX3_twice_56 0 rfl rfl ?_
  obtain ⟨v57, e57, h⟩ := bO_some h
  refine ww_getR 57 X dX3_twice_57 fG_X3_62 e57 ?_
  refine ww_iconst 60 X (v := (1 : Int32)) dX3_twice_60 (by decide) ?_
  obtain ⟨v61, e61, h⟩ := bO_some h
  refine ww_aald6 61 X dX3_twice_61 e61 ?_
  refine ww_aload_n 62 X dX3_twice_62 0 rfl rfl ?_
  obtain ⟨v63, e63, h⟩ := bO_some h
  refine ww_getR 63 X dX3_twice_63 fG_X3_62 e63 ?_
  refine ww_iconst 66 X (v := (2 : Int32)) dX3_twice_66 (by decide) ?_
  obtain ⟨v67, e67, h⟩ := bO_some h
  refine ww_aald6 67 X dX3_twice_67 e67 ?_
  obtain ⟨_, f68, h⟩ := bO_some h
  obtain ⟨M68, e68, h⟩ := bO_some h
  refine ww_callVV0 68 X dX3_twice_68 mY_X6_times mL_X3_123 (rcv_spec f68) ⟨_, _, rfl⟩ (by decide) (As := [.ref v5, .ref v61, .ref v67]) (rest := []) rfl rfl ⟨Nat.le_of_ble_eq_true rfl, Nat.le_of_ble_eq_true rfl⟩ (Nat.le_of_ble_eq_true rfl) (fun l D A => c_X6_times l D A e68) ?_
  refine ww_aload_n 71 X dX3_twice_71 0 rfl rfl ?_
  obtain ⟨v72, e72, h⟩ := bO_some h
  refine ww_getR 72 X dX3_twice_72 fG_X3_20 e72 ?_
  refine ww_aload_n 75 X dX3_twice_75 1 rfl rfl ?_
  refine ww_aload_n 76 X dX3_twice_76 0 rfl rfl ?_
  obtain ⟨v77, e77, h⟩ := bO_some h
  refine ww_getR 77 X dX3_twice_77 fG_X3_62 e77 ?_
  refine ww_iconst 80 X (v := (0 : Int32)) dX3_twice_80 (by decide) ?_
  obtain ⟨v81, e81, h⟩ := bO_some h
  refine ww_aald6 81 X dX3_twice_81 e81 ?_
  refine ww_aload_n 82 X dX3_twice_82 0 rfl rfl ?_
  obtain ⟨v83, e83, h⟩ := bO_some h
  refine ww_getR 83 X dX3_twice_83 fG_X3_62 e83 ?_
  refine ww_iconst 86 X (v := (3 : Int32)) dX3_twice_86 (by decide) ?_
  obtain ⟨v87, e87, h⟩ := bO_some h
  refine ww_aald6 87 X dX3_twice_87 e87 ?_
  obtain ⟨_, f88, h⟩ := bO_some h
  obtain ⟨M88, e88, h⟩ := bO_some h
  refine ww_callVV0 88 X dX3_twice_88 mY_X6_minus mL_X3_127 (rcv_spec f88) ⟨_, _, rfl⟩ (by decide) (As := [.ref v5, .ref v81, .ref v87]) (rest := []) rfl rfl ⟨Nat.le_of_ble_eq_true rfl, Nat.le_of_ble_eq_true rfl⟩ (Nat.le_of_ble_eq_true rfl) (fun l D A => c_X6_minus l D A e88) ?_
  refine ww_aload_n 91 X dX3_twice_91 0 rfl rfl ?_
  obtain ⟨v92, e92, h⟩ := bO_some h
  refine ww_getR 92 X dX3_twice_92 fG_X3_20 e92 ?_
  refine ww_aload_n 95 X dX3_twice_95 1 rfl rfl ?_
  refine ww_aload_n 96 X dX3_twice_96 0 rfl rfl ?_
  obtain ⟨v97, e97, h⟩ := bO_some h
  refine ww_getR 97 X dX3_twice_97 fG_X3_62 e97 ?_
  refine ww_iconst 100 X (v := (0 : Int32)) dX3_twice_100 (by decide) ?_
  obtain ⟨v101, e101, h⟩ := bO_some h
  refine ww_aald6 101 X dX3_twice_101 e101 ?_
  refine ww_aload_n 102 X dX3_twice_102 0 rfl rfl ?_
  obtain ⟨v103, e103, h⟩ := bO_some h
  refine ww_getR 103 X dX3_twice_103 fG_X3_62 e103 ?_
  refine ww_iconst 106 X (v := (4 : Int32)) dX3_twice_106 (by decide) ?_
  obtain ⟨v107, e107, h⟩ := bO_some h
  refine ww_aald6 107 X dX3_twice_107 e107 ?_
  obtain ⟨_, f108, h⟩ := bO_some h
  obtain ⟨M108, e108, h⟩ := bO_some h
  refine ww_callVV0 108 X dX3_twice_108 mY_X6_plus mL_X3_130 (rcv_spec f108) ⟨_, _, rfl⟩ (by decide) (As := [.ref v5, .ref v101, .ref v107]) (rest := []) rfl rfl ⟨Nat.le_of_ble_eq_true rfl, Nat.le_of_ble_eq_true rfl⟩ (Nat.le_of_ble_eq_true rfl) (fun l D A => c_X6_plus l D A e108) ?_
  refine ww_aload_n 111 X dX3_twice_111 0 rfl rfl ?_
  obtain ⟨v112, e112, h⟩ := bO_some h
  refine ww_getR 112 X dX3_twice_112 fG_X3_20 e112 ?_
  refine ww_aload_n 115 X dX3_twice_115 0 rfl rfl ?_
  obtain ⟨v116, e116, h⟩ := bO_some h
  refine ww_getR 116 X dX3_twice_116 fG_X3_62 e116 ?_
  refine ww_iconst 119 X (v := (3 : Int32)) dX3_twice_119 (by decide) ?_
  obtain ⟨v120, e120, h⟩ := bO_some h
  refine ww_aald6 120 X dX3_twice_120 e120 ?_
  refine ww_aload_n 121 X dX3_twice_121 0 rfl rfl ?_
  obtain ⟨v122, e122, h⟩ := bO_some h
  refine ww_getR 122 X dX3_twice_122 fG_X3_62 e122 ?_
  refine ww_iconst 125 X (v := (4 : Int32)) dX3_twice_125 (by decide) ?_
  obtain ⟨v126, e126, h⟩ := bO_some h
  refine ww_aald6 126 X dX3_twice_126 e126 ?_
  refine ww_aload_n 127 X dX3_twice_127 0 rfl rfl ?_
  obtain ⟨v128, e128, h⟩ := bO_some h
  refine ww_getR 128 X dX3_twice_128 fG_X3_62 e128 ?_
  refine ww_iconst 131 X (v := (3 : Int32)) dX3_twice_131 (by decide) ?_
  obtain ⟨v132, e132, h⟩ := bO_some h
  refine ww_aald6 132 X dX3_twice_132 e132 ?_
  obtain ⟨_, f133, h⟩ := bO_some h
  obtain ⟨M133, e133, h⟩ := bO_some h
  refine ww_callVV0 133 X dX3_twice_133 mY_X6_times mL_X3_123 (rcv_spec f133) ⟨_, _, rfl⟩ (by decide) (As := [.ref v120, .ref v126, .ref v132]) (rest := []) rfl rfl ⟨Nat.le_of_ble_eq_true rfl, Nat.le_of_ble_eq_true rfl⟩ (Nat.le_of_ble_eq_true rfl) (fun l D A => c_X6_times l D A e133) ?_
  refine ww_aload_n 136 X dX3_twice_136 0 rfl rfl ?_
  obtain ⟨v137, e137, h⟩ := bO_some h
  refine ww_getR 137 X dX3_twice_137 fG_X3_20 e137 ?_
  refine ww_aload_n 140 X dX3_twice_140 0 rfl rfl ?_
  obtain ⟨v141, e141, h⟩ := bO_some h
  refine ww_getR 141 X dX3_twice_141 fG_X3_62 e141 ?_
  refine ww_iconst 144 X (v := (3 : Int32)) dX3_twice_144 (by decide) ?_
  obtain ⟨v145, e145, h⟩ := bO_some h
  refine ww_aald6 145 X dX3_twice_145 e145 ?_
  refine ww_aload_n 146 X dX3_twice_146 0 rfl rfl ?_
  obtain ⟨v147, e147, h⟩ := bO_some h
  refine ww_getR 147 X dX3_twice_147 fG_X3_62 e147 ?_
  refine ww_iconst 150 X (v := (3 : Int32)) dX3_twice_150 (by decide) ?_
  obtain ⟨v151, e151, h⟩ := bO_some h
  refine ww_aald6 151 X dX3_twice_151 e151 ?_
  refine ww_aload_n 152 X dX3_twice_152 0 rfl rfl ?_
  obtain ⟨v153, e153, h⟩ := bO_some h
  refine ww_getR 153 X dX3_twice_153 fG_X3_62 e153 ?_
  refine ww_iconst 156 X (v := (4 : Int32)) dX3_twice_156 (by decide) ?_
  obtain ⟨v157, e157, h⟩ := bO_some h
  refine ww_aald6 157 X dX3_twice_157 e157 ?_
  obtain ⟨_, f158, h⟩ := bO_some h
  obtain ⟨M158, e158, h⟩ := bO_some h
  refine ww_callVV0 158 X dX3_twice_158 mY_X6_plus mL_X3_130 (rcv_spec f158) ⟨_, _, rfl⟩ (by decide) (As := [.ref v145, .ref v151, .ref v157]) (rest := []) rfl rfl ⟨Nat.le_of_ble_eq_true rfl, Nat.le_of_ble_eq_true rfl⟩ (Nat.le_of_ble_eq_true rfl) (fun l D A => c_X6_plus l D A e158) ?_
  refine ww_aload_n 161 X dX3_twice_161 0 rfl rfl ?_
  obtain ⟨v162, e162, h⟩ := bO_some h
  refine ww_getR 162 X dX3_twice_162 fG_X3_20 e162 ?_
  refine ww_aload_n 165 X dX3_twice_165 0 rfl rfl ?_
  obtain ⟨v166, e166, h⟩ := bO_some h
  refine ww_getR 166 X dX3_twice_166 fG_X3_62 e166 ?_
  refine ww_iconst 169 X (v := (4 : Int32)) dX3_twice_169 (by decide) ?_
  obtain ⟨v170, e170, h⟩ := bO_some h
  refine ww_aald6 170 X dX3_twice_170 e170 ?_
  refine ww_aload_n 171 X dX3_twice_171 0 rfl rfl ?_
  obtain ⟨v172, e172, h⟩ := bO_some h
  refine ww_getR 172 X dX3_twice_172 fG_X3_62 e172 ?_
  refine ww_iconst 175 X (v := (3 : Int32)) dX3_twice_175 (by decide) ?_
  obtain ⟨v176, e176, h⟩ := bO_some h
  refine ww_aald6 176 X dX3_twice_176 e176 ?_
  refine ww_aload_n 177 X dX3_twice_177 0 rfl rfl ?_
  obtain ⟨v178, e178, h⟩ := bO_some h
  refine ww_getR 178 X dX3_twice_178 fG_X3_62 e178 ?_
  refine ww_iconst 181 X (v := (3 : Int32)) dX3_twice_181 (by decide) ?_
  obtain ⟨v182, e182, h⟩ := bO_some h
  refine ww_aald6 182 X dX3_twice_182 e182 ?_
  obtain ⟨_, f183, h⟩ := bO_some h
  obtain ⟨M183, e183, h⟩ := bO_some h
  refine ww_callVV0 183 X dX3_twice_183 mY_X6_plus mL_X3_130 (rcv_spec f183) ⟨_, _, rfl⟩ (by decide) (As := [.ref v170, .ref v176, .ref v182]) (rest := []) rfl rfl ⟨Nat.le_of_ble_eq_true rfl, Nat.le_of_ble_eq_true rfl⟩ (Nat.le_of_ble_eq_true rfl) (fun l D A => c_X6_plus l D A e183) ?_
  refine ww_aload_n 186 X dX3_twice_186 0 rfl rfl ?_
  obtain ⟨v187, e187, h⟩ := bO_some h
  refine ww_getR 187 X dX3_twice_187 fG_X3_20 e187 ?_
  refine ww_aload_n 190 X dX3_twice_190 2 rfl rfl ?_
  refine ww_aload_n 191 X dX3_twice_191 3 rfl rfl ?_
  refine ww_aload_n 192 X dX3_twice_192 3 rfl rfl ?_
  obtain ⟨_, f193, h⟩ := bO_some h
  obtain ⟨M193, e193, h⟩ := bO_some h
  refine ww_callVV0 193 X dX3_twice_193 mY_X6_plus mL_X3_130 (rcv_spec f193) ⟨_, _, rfl⟩ (by decide) (As := [.ref v12, .ref v19, .ref v19]) (rest := []) rfl rfl ⟨Nat.le_of_ble_eq_true rfl, Nat.le_of_ble_eq_true rfl⟩ (Nat.le_of_ble_eq_true rfl) (fun l D A => c_X6_plus l D A e193) ?_
  refine ww_aload_n 196 X dX3_twice_196 0 rfl rfl ?_
  obtain ⟨v197, e197, h⟩ := bO_some h
  refine ww_getR 197 X dX3_twice_197 fG_X3_20 e197 ?_
  refine ww_aload_n 200 X dX3_twice_200 3 rfl rfl ?_
  refine ww_aload_n 201 X dX3_twice_201 3 rfl rfl ?_
  refine ww_aload_n 202 X dX3_twice_202 3 rfl rfl ?_
  obtain ⟨_, f203, h⟩ := bO_some h
  obtain ⟨M203, e203, h⟩ := bO_some h
  refine ww_callVV0 203 X dX3_twice_203 mY_X6_times mL_X3_123 (rcv_spec f203) ⟨_, _, rfl⟩ (by decide) (As := [.ref v19, .ref v19, .ref v19]) (rest := []) rfl rfl ⟨Nat.le_of_ble_eq_true rfl, Nat.le_of_ble_eq_true rfl⟩ (Nat.le_of_ble_eq_true rfl) (fun l D A => c_X6_times l D A e203) ?_
  refine ww_aload_n 206 X dX3_twice_206 0 rfl rfl ?_
  obtain ⟨v207, e207, h⟩ := bO_some h
  refine ww_getR 207 X dX3_twice_207 fG_X3_20 e207 ?_
  refine ww_aload_n 210 X dX3_twice_210 3 rfl rfl ?_
  refine ww_aload_n 211 X dX3_twice_211 0 rfl rfl ?_
  obtain ⟨v212, e212, h⟩ := bO_some h
  refine ww_getR 212 X dX3_twice_212 fG_X3_62 e212 ?_
  refine ww_iconst 215 X (v := (1 : Int32)) dX3_twice_215 (by decide) ?_
  obtain ⟨v216, e216, h⟩ := bO_some h
  refine ww_aald6 216 X dX3_twice_216 e216 ?_
  refine ww_aload_n 217 X dX3_twice_217 3 rfl rfl ?_
  obtain ⟨_, f218, h⟩ := bO_some h
  obtain ⟨M218, e218, h⟩ := bO_some h
  refine ww_callVV0 218 X dX3_twice_218 mY_X6_minus mL_X3_127 (rcv_spec f218) ⟨_, _, rfl⟩ (by decide) (As := [.ref v19, .ref v216, .ref v19]) (rest := []) rfl rfl ⟨Nat.le_of_ble_eq_true rfl, Nat.le_of_ble_eq_true rfl⟩ (Nat.le_of_ble_eq_true rfl) (fun l D A => c_X6_minus l D A e218) ?_
  refine ww_aload_n 221 X dX3_twice_221 0 rfl rfl ?_
  obtain ⟨v222, e222, h⟩ := bO_some h
  refine ww_getR 222 X dX3_twice_222 fG_X3_20 e222 ?_
  refine ww_aload_n 225 X dX3_twice_225 3 rfl rfl ?_
  refine ww_aload_n 226 X dX3_twice_226 0 rfl rfl ?_
  obtain ⟨v227, e227, h⟩ := bO_some h
  refine ww_getR 227 X dX3_twice_227 fG_X3_62 e227 ?_
  refine ww_iconst 230 X (v := (0 : Int32)) dX3_twice_230 (by decide) ?_
  obtain ⟨v231, e231, h⟩ := bO_some h
  refine ww_aald6 231 X dX3_twice_231 e231 ?_
  refine ww_aload_n 232 X dX3_twice_232 3 rfl rfl ?_
  obtain ⟨_, f233, h⟩ := bO_some h
  obtain ⟨M233, e233, h⟩ := bO_some h
  refine ww_callVV0 233 X dX3_twice_233 mY_X6_minus mL_X3_127 (rcv_spec f233) ⟨_, _, rfl⟩ (by decide) (As := [.ref v19, .ref v231, .ref v19]) (rest := []) rfl rfl ⟨Nat.le_of_ble_eq_true rfl, Nat.le_of_ble_eq_true rfl⟩ (Nat.le_of_ble_eq_true rfl) (fun l D A => c_X6_minus l D A e233) ?_
  refine ww_aload_n 236 X dX3_twice_236 0 rfl rfl ?_
  obtain ⟨v237, e237, h⟩ := bO_some h
  refine ww_getR 237 X dX3_twice_237 fG_X3_20 e237 ?_
  refine ww_aload_n 240 X dX3_twice_240 0 rfl rfl ?_
  obtain ⟨v241, e241, h⟩ := bO_some h
  refine ww_getR 241 X dX3_twice_241 fG_X3_62 e241 ?_
  refine ww_iconst 244 X (v := (2 : Int32)) dX3_twice_244 (by decide) ?_
  obtain ⟨v245, e245, h⟩ := bO_some h
  refine ww_aald6 245 X dX3_twice_245 e245 ?_
  refine ww_aload_n 246 X dX3_twice_246 0 rfl rfl ?_
  obtain ⟨v247, e247, h⟩ := bO_some h
  refine ww_getR 247 X dX3_twice_247 fG_X3_62 e247 ?_
  refine ww_iconst 250 X (v := (2 : Int32)) dX3_twice_250 (by decide) ?_
  obtain ⟨v251, e251, h⟩ := bO_some h
  refine ww_aald6 251 X dX3_twice_251 e251 ?_
  refine ww_aload_n 252 X dX3_twice_252 0 rfl rfl ?_
  obtain ⟨v253, e253, h⟩ := bO_some h
  refine ww_getR 253 X dX3_twice_253 fG_X3_62 e253 ?_
  refine ww_iconst 256 X (v := (2 : Int32)) dX3_twice_256 (by decide) ?_
  obtain ⟨v257, e257, h⟩ := bO_some h
  refine ww_aald6 257 X dX3_twice_257 e257 ?_
  obtain ⟨_, f258, h⟩ := bO_some h
  obtain ⟨M258, e258, h⟩ := bO_some h
  refine ww_callVV0 258 X dX3_twice_258 mY_X6_plus mL_X3_130 (rcv_spec f258) ⟨_, _, rfl⟩ (by decide) (As := [.ref v245, .ref v251, .ref v257]) (rest := []) rfl rfl ⟨Nat.le_of_ble_eq_true rfl, Nat.le_of_ble_eq_true rfl⟩ (Nat.le_of_ble_eq_true rfl) (fun l D A => c_X6_plus l D A e258) ?_
  refine ww_aload_n 261 X dX3_twice_261 0 rfl rfl ?_
  obtain ⟨v262, e262, h⟩ := bO_some h
  refine ww_getR 262 X dX3_twice_262 fG_X3_20 e262 ?_
  refine ww_aload_n 265 X dX3_twice_265 0 rfl rfl ?_
  obtain ⟨v266, e266, h⟩ := bO_some h
  refine ww_getR 266 X dX3_twice_266 fG_X3_62 e266 ?_
  refine ww_iconst 269 X (v := (2 : Int32)) dX3_twice_269 (by decide) ?_
  obtain ⟨v270, e270, h⟩ := bO_some h
  refine ww_aald6 270 X dX3_twice_270 e270 ?_
  refine ww_aload_n 271 X dX3_twice_271 0 rfl rfl ?_
  obtain ⟨v272, e272, h⟩ := bO_some h
  refine ww_getR 272 X dX3_twice_272 fG_X3_62 e272 ?_
  refine ww_iconst 275 X (v := (2 : Int32)) dX3_twice_275 (by decide) ?_
  obtain ⟨v276, e276, h⟩ := bO_some h
  refine ww_aald6 276 X dX3_twice_276 e276 ?_
  refine ww_aload_n 277 X dX3_twice_277 0 rfl rfl ?_
  obtain ⟨v278, e278, h⟩ := bO_some h
  refine ww_getR 278 X dX3_twice_278 fG_X3_62 e278 ?_
  refine ww_iconst 281 X (v := (2 : Int32)) dX3_twice_281 (by decide) ?_
  obtain ⟨v282, e282, h⟩ := bO_some h
  refine ww_aald6 282 X dX3_twice_282 e282 ?_
  obtain ⟨_, f283, h⟩ := bO_some h
  obtain ⟨M283, e283, h⟩ := bO_some h
  refine ww_callVV0 283 X dX3_twice_283 mY_X6_plus mL_X3_130 (rcv_spec f283) ⟨_, _, rfl⟩ (by decide) (As := [.ref v270, .ref v276, .ref v282]) (rest := []) rfl rfl ⟨Nat.le_of_ble_eq_true rfl, Nat.le_of_ble_eq_true rfl⟩ (Nat.le_of_ble_eq_true rfl) (fun l D A => c_X6_plus l D A e283) ?_
  refine ww_aload_n 286 X dX3_twice_286 0 rfl rfl ?_
  obtain ⟨v287, e287, h⟩ := bO_some h
  refine ww_getR 287 X dX3_twice_287 fG_X3_20 e287 ?_
  refine ww_aload_n 290 X dX3_twice_290 0 rfl rfl ?_
  obtain ⟨v291, e291, h⟩ := bO_some h
  refine ww_getR 291 X dX3_twice_291 fG_X3_62 e291 ?_
  refine ww_iconst 294 X (v := (3 : Int32)) dX3_twice_294 (by decide) ?_
  obtain ⟨v295, e295, h⟩ := bO_some h
  refine ww_aald6 295 X dX3_twice_295 e295 ?_
  refine ww_aload_n 296 X dX3_twice_296 0 rfl rfl ?_
  obtain ⟨v297, e297, h⟩ := bO_some h
  refine ww_getR 297 X dX3_twice_297 fG_X3_62 e297 ?_
  refine ww_iconst 300 X (v := (3 : Int32)) dX3_twice_300 (by decide) ?_
  obtain ⟨v301, e301, h⟩ := bO_some h
  refine ww_aald6 301 X dX3_twice_301 e301 ?_
  refine ww_aload_n 302 X dX3_twice_302 1 rfl rfl ?_
  obtain ⟨_, f303, h⟩ := bO_some h
  obtain ⟨M303, e303, h⟩ := bO_some h
  refine ww_callVV0 303 X dX3_twice_303 mY_X6_times mL_X3_123 (rcv_spec f303) ⟨_, _, rfl⟩ (by decide) (As := [.ref v295, .ref v301, .ref v5]) (rest := []) rfl rfl ⟨Nat.le_of_ble_eq_true rfl, Nat.le_of_ble_eq_true rfl⟩ (Nat.le_of_ble_eq_true rfl) (fun l D A => c_X6_times l D A e303) ?_
  refine ww_aload_n 306 X dX3_twice_306 0 rfl rfl ?_
  obtain ⟨v307, e307, h⟩ := bO_some h
  refine ww_getR 307 X dX3_twice_307 fG_X3_20 e307 ?_
  refine ww_aload_n 310 X dX3_twice_310 1 rfl rfl ?_
  refine ww_aload_n 311 X dX3_twice_311 0 rfl rfl ?_
  obtain ⟨v312, e312, h⟩ := bO_some h
  refine ww_getR 312 X dX3_twice_312 fG_X3_62 e312 ?_
  refine ww_iconst 315 X (v := (2 : Int32)) dX3_twice_315 (by decide) ?_
  obtain ⟨v316, e316, h⟩ := bO_some h
  refine ww_aald6 316 X dX3_twice_316 e316 ?_
  refine ww_aload_n 317 X dX3_twice_317 1 rfl rfl ?_
  obtain ⟨_, f318, h⟩ := bO_some h
  obtain ⟨M318, e318, h⟩ := bO_some h
  refine ww_callVV0 318 X dX3_twice_318 mY_X6_minus mL_X3_127 (rcv_spec f318) ⟨_, _, rfl⟩ (by decide) (As := [.ref v5, .ref v316, .ref v5]) (rest := []) rfl rfl ⟨Nat.le_of_ble_eq_true rfl, Nat.le_of_ble_eq_true rfl⟩ (Nat.le_of_ble_eq_true rfl) (fun l D A => c_X6_minus l D A e318) ?_
  refine ww_aload_n 321 X dX3_twice_321 0 rfl rfl ?_
  obtain ⟨v322, e322, h⟩ := bO_some h
  refine ww_getR 322 X dX3_twice_322 fG_X3_20 e322 ?_
  refine ww_aload_n 325 X dX3_twice_325 1 rfl rfl ?_
  refine ww_aload_n 326 X dX3_twice_326 0 rfl rfl ?_
  obtain ⟨v327, e327, h⟩ := bO_some h
  refine ww_getR 327 X dX3_twice_327 fG_X3_62 e327 ?_
  refine ww_iconst 330 X (v := (2 : Int32)) dX3_twice_330 (by decide) ?_
  obtain ⟨v331, e331, h⟩ := bO_some h
  refine ww_aald6 331 X dX3_twice_331 e331 ?_
  refine ww_aload_n 332 X dX3_twice_332 1 rfl rfl ?_
  obtain ⟨_, f333, h⟩ := bO_some h
  obtain ⟨M333, e333, h⟩ := bO_some h
  refine ww_callVV0 333 X dX3_twice_333 mY_X6_minus mL_X3_127 (rcv_spec f333) ⟨_, _, rfl⟩ (by decide) (As := [.ref v5, .ref v331, .ref v5]) (rest := []) rfl rfl ⟨Nat.le_of_ble_eq_true rfl, Nat.le_of_ble_eq_true rfl⟩ (Nat.le_of_ble_eq_true rfl) (fun l D A => c_X6_minus l D A e333) ?_
  refine ww_aload_n 336 X dX3_twice_336 0 rfl rfl ?_
  obtain ⟨v337, e337, h⟩ := bO_some h
  refine ww_getR 337 X dX3_twice_337 fG_X3_20 e337 ?_
  refine ww_aload_n 340 X dX3_twice_340 0 rfl rfl ?_
  obtain ⟨v341, e341, h⟩ := bO_some h
  refine ww_getR 341 X dX3_twice_341 fG_X3_62 e341 ?_
  refine ww_iconst 344 X (v := (1 : Int32)) dX3_twice_344 (by decide) ?_
  obtain ⟨v345, e345, h⟩ := bO_some h
  refine ww_aald6 345 X dX3_twice_345 e345 ?_
  refine ww_aload_n 346 X dX3_twice_346 0 rfl rfl ?_
  obtain ⟨v347, e347, h⟩ := bO_some h
  refine ww_getR 347 X dX3_twice_347 fG_X3_62 e347 ?_
  refine ww_iconst 350 X (v := (1 : Int32)) dX3_twice_350 (by decide) ?_
  obtain ⟨v351, e351, h⟩ := bO_some h
  refine ww_aald6 351 X dX3_twice_351 e351 ?_
  refine ww_aload_n 352 X dX3_twice_352 0 rfl rfl ?_
  obtain ⟨v353, e353, h⟩ := bO_some h
  refine ww_getR 353 X dX3_twice_353 fG_X3_62 e353 ?_
  refine ww_iconst 356 X (v := (1 : Int32)) dX3_twice_356 (by decide) ?_
  obtain ⟨v357, e357, h⟩ := bO_some h
  refine ww_aald6 357 X dX3_twice_357 e357 ?_
  obtain ⟨_, f358, h⟩ := bO_some h
  obtain ⟨M358, e358, h⟩ := bO_some h
  refine ww_callVV0 358 X dX3_twice_358 mY_X6_times mL_X3_123 (rcv_spec f358) ⟨_, _, rfl⟩ (by decide) (As := [.ref v345, .ref v351, .ref v357]) (rest := []) rfl rfl ⟨Nat.le_of_ble_eq_true rfl, Nat.le_of_ble_eq_true rfl⟩ (Nat.le_of_ble_eq_true rfl) (fun l D A => c_X6_times l D A e358) ?_
  refine ww_aload_n 361 X dX3_twice_361 0 rfl rfl ?_
  obtain ⟨v362, e362, h⟩ := bO_some h
  refine ww_getR 362 X dX3_twice_362 fG_X3_20 e362 ?_
  refine ww_aload_n 365 X dX3_twice_365 0 rfl rfl ?_
  obtain ⟨v366, e366, h⟩ := bO_some h
  refine ww_getR 366 X dX3_twice_366 fG_X3_62 e366 ?_
  refine ww_iconst 369 X (v := (1 : Int32)) dX3_twice_369 (by decide) ?_
  obtain ⟨v370, e370, h⟩ := bO_some h
  refine ww_aald6 370 X dX3_twice_370 e370 ?_
  refine ww_aload_n 371 X dX3_twice_371 0 rfl rfl ?_
  obtain ⟨v372, e372, h⟩ := bO_some h
  refine ww_getR 372 X dX3_twice_372 fG_X3_62 e372 ?_
  refine ww_iconst 375 X (v := (1 : Int32)) dX3_twice_375 (by decide) ?_
  obtain ⟨v376, e376, h⟩ := bO_some h
  refine ww_aald6 376 X dX3_twice_376 e376 ?_
  refine ww_aload_n 377 X dX3_twice_377 0 rfl rfl ?_
  obtain ⟨v378, e378, h⟩ := bO_some h
  refine ww_getR 378 X dX3_twice_378 fG_X3_62 e378 ?_
  refine ww_iconst 381 X (v := (1 : Int32)) dX3_twice_381 (by decide) ?_
  obtain ⟨v382, e382, h⟩ := bO_some h
  refine ww_aald6 382 X dX3_twice_382 e382 ?_
  obtain ⟨_, f383, h⟩ := bO_some h
  obtain ⟨M383, e383, h⟩ := bO_some h
  refine ww_callVV0 383 X dX3_twice_383 mY_X6_plus mL_X3_130 (rcv_spec f383) ⟨_, _, rfl⟩ (by decide) (As := [.ref v370, .ref v376, .ref v382]) (rest := []) rfl rfl ⟨Nat.le_of_ble_eq_true rfl, Nat.le_of_ble_eq_true rfl⟩ (Nat.le_of_ble_eq_true rfl) (fun l D A => c_X6_plus l D A e383) ?_
  refine ww_aload_n 386 X dX3_twice_386 0 rfl rfl ?_
  obtain ⟨v387, e387, h⟩ := bO_some h
  refine ww_getR 387 X dX3_twice_387 fG_X3_20 e387 ?_
  refine ww_aload_n 390 X dX3_twice_390 0 rfl rfl ?_
  obtain ⟨v391, e391, h⟩ := bO_some h
  refine ww_getR 391 X dX3_twice_391 fG_X3_62 e391 ?_
  refine ww_iconst 394 X (v := (1 : Int32)) dX3_twice_394 (by decide) ?_
  obtain ⟨v395, e395, h⟩ := bO_some h
  refine ww_aald6 395 X dX3_twice_395 e395 ?_
  refine ww_aload_n 396 X dX3_twice_396 0 rfl rfl ?_
  obtain ⟨v397, e397, h⟩ := bO_some h
  refine ww_getR 397 X dX3_twice_397 fG_X3_62 e397 ?_
  refine ww_iconst 400 X (v := (1 : Int32)) dX3_twice_400 (by decide) ?_
  obtain ⟨v401, e401, h⟩ := bO_some h
  refine ww_aald6 401 X dX3_twice_401 e401 ?_
  refine ww_aload_n 402 X dX3_twice_402 0 rfl rfl ?_
  obtain ⟨v403, e403, h⟩ := bO_some h
  refine ww_getR 403 X dX3_twice_403 fG_X3_62 e403 ?_
  refine ww_iconst 406 X (v := (1 : Int32)) dX3_twice_406 (by decide) ?_
  obtain ⟨v407, e407, h⟩ := bO_some h
  refine ww_aald6 407 X dX3_twice_407 e407 ?_
  obtain ⟨_, f408, h⟩ := bO_some h
  obtain ⟨M408, e408, h⟩ := bO_some h
  refine ww_callVV0 408 X dX3_twice_408 mY_X6_plus mL_X3_130 (rcv_spec f408) ⟨_, _, rfl⟩ (by decide) (As := [.ref v395, .ref v401, .ref v407]) (rest := []) rfl rfl ⟨Nat.le_of_ble_eq_true rfl, Nat.le_of_ble_eq_true rfl⟩ (Nat.le_of_ble_eq_true rfl) (fun l D A => c_X6_plus l D A e408) ?_
  refine ww_aload_n 411 X dX3_twice_411 0 rfl rfl ?_
  obtain ⟨v412, e412, h⟩ := bO_some h
  refine ww_getR 412 X dX3_twice_412 fG_X3_20 e412 ?_
  refine ww_aload_n 415 X dX3_twice_415 0 rfl rfl ?_
  obtain ⟨v416, e416, h⟩ := bO_some h
  refine ww_getR 416 X dX3_twice_416 fG_X3_62 e416 ?_
  refine ww_iconst 419 X (v := (1 : Int32)) dX3_twice_419 (by decide) ?_
  obtain ⟨v420, e420, h⟩ := bO_some h
  refine ww_aald6 420 X dX3_twice_420 e420 ?_
  refine ww_aload_n 421 X dX3_twice_421 0 rfl rfl ?_
  obtain ⟨v422, e422, h⟩ := bO_some h
  refine ww_getR 422 X dX3_twice_422 fG_X3_62 e422 ?_
  refine ww_iconst 425 X (v := (1 : Int32)) dX3_twice_425 (by decide) ?_
  obtain ⟨v426, e426, h⟩ := bO_some h
  refine ww_aald6 426 X dX3_twice_426 e426 ?_
  refine ww_aload_n 427 X dX3_twice_427 0 rfl rfl ?_
  obtain ⟨v428, e428, h⟩ := bO_some h
  refine ww_getR 428 X dX3_twice_428 fG_X3_62 e428 ?_
  refine ww_iconst 431 X (v := (1 : Int32)) dX3_twice_431 (by decide) ?_
  obtain ⟨v432, e432, h⟩ := bO_some h
  refine ww_aald6 432 X dX3_twice_432 e432 ?_
  obtain ⟨_, f433, h⟩ := bO_some h
  obtain ⟨M433, e433, h⟩ := bO_some h
  refine ww_callVV0 433 X dX3_twice_433 mY_X6_plus mL_X3_130 (rcv_spec f433) ⟨_, _, rfl⟩ (by decide) (As := [.ref v420, .ref v426, .ref v432]) (rest := []) rfl rfl ⟨Nat.le_of_ble_eq_true rfl, Nat.le_of_ble_eq_true rfl⟩ (Nat.le_of_ble_eq_true rfl) (fun l D A => c_X6_plus l D A e433) ?_
  refine ww_aload_n 436 X dX3_twice_436 0 rfl rfl ?_
  obtain ⟨v437, e437, h⟩ := bO_some h
  refine ww_getR 437 X dX3_twice_437 fG_X3_20 e437 ?_
  refine ww_aload_n 440 X dX3_twice_440 0 rfl rfl ?_
  obtain ⟨v441, e441, h⟩ := bO_some h
  refine ww_getR 441 X dX3_twice_441 fG_X3_62 e441 ?_
  refine ww_iconst 444 X (v := (2 : Int32)) dX3_twice_444 (by decide) ?_
  obtain ⟨v445, e445, h⟩ := bO_some h
  refine ww_aald6 445 X dX3_twice_445 e445 ?_
  refine ww_aload_n 446 X dX3_twice_446 1 rfl rfl ?_
  refine ww_aload_n 447 X dX3_twice_447 0 rfl rfl ?_
  obtain ⟨v448, e448, h⟩ := bO_some h
  refine ww_getR 448 X dX3_twice_448 fG_X3_62 e448 ?_
  refine ww_iconst 451 X (v := (2 : Int32)) dX3_twice_451 (by decide) ?_
  obtain ⟨v452, e452, h⟩ := bO_some h
  refine ww_aald6 452 X dX3_twice_452 e452 ?_
  obtain ⟨_, f453, h⟩ := bO_some h
  obtain ⟨M453, e453, h⟩ := bO_some h
  refine ww_callVV0 453 X dX3_twice_453 mY_X6_minus mL_X3_127 (rcv_spec f453) ⟨_, _, rfl⟩ (by decide) (As := [.ref v445, .ref v5, .ref v452]) (rest := []) rfl rfl ⟨Nat.le_of_ble_eq_true rfl, Nat.le_of_ble_eq_true rfl⟩ (Nat.le_of_ble_eq_true rfl) (fun l D A => c_X6_minus l D A e453) ?_
  refine ww_aload_n 456 X dX3_twice_456 0 rfl rfl ?_
  obtain ⟨v457, e457, h⟩ := bO_some h
  refine ww_getR 457 X dX3_twice_457 fG_X3_20 e457 ?_
  refine ww_aload_n 460 X dX3_twice_460 0 rfl rfl ?_
  obtain ⟨v461, e461, h⟩ := bO_some h
  refine ww_getR 461 X dX3_twice_461 fG_X3_62 e461 ?_
  refine ww_iconst 464 X (v := (3 : Int32)) dX3_twice_464 (by decide) ?_
  obtain ⟨v465, e465, h⟩ := bO_some h
  refine ww_aald6 465 X dX3_twice_465 e465 ?_
  refine ww_aload_n 466 X dX3_twice_466 0 rfl rfl ?_
  obtain ⟨v467, e467, h⟩ := bO_some h
  refine ww_getR 467 X dX3_twice_467 fG_X3_62 e467 ?_
  refine ww_iconst 470 X (v := (2 : Int32)) dX3_twice_470 (by decide) ?_
  obtain ⟨v471, e471, h⟩ := bO_some h
  refine ww_aald6 471 X dX3_twice_471 e471 ?_
  refine ww_aload_n 472 X dX3_twice_472 2 rfl rfl ?_
  obtain ⟨_, f473, h⟩ := bO_some h
  obtain ⟨M473, e473, h⟩ := bO_some h
  refine ww_callVV0 473 X dX3_twice_473 mY_X6_times mL_X3_123 (rcv_spec f473) ⟨_, _, rfl⟩ (by decide) (As := [.ref v465, .ref v471, .ref v12]) (rest := []) rfl rfl ⟨Nat.le_of_ble_eq_true rfl, Nat.le_of_ble_eq_true rfl⟩ (Nat.le_of_ble_eq_true rfl) (fun l D A => c_X6_times l D A e473) ?_
  refine ww_aload_n 476 X dX3_twice_476 0 rfl rfl ?_
  obtain ⟨v477, e477, h⟩ := bO_some h
  refine ww_getR 477 X dX3_twice_477 fG_X3_20 e477 ?_
  refine ww_aload_n 480 X dX3_twice_480 2 rfl rfl ?_
  refine ww_aload_n 481 X dX3_twice_481 0 rfl rfl ?_
  obtain ⟨v482, e482, h⟩ := bO_some h
  refine ww_getR 482 X dX3_twice_482 fG_X3_62 e482 ?_
  refine ww_iconst 485 X (v := (1 : Int32)) dX3_twice_485 (by decide) ?_
  obtain ⟨v486, e486, h⟩ := bO_some h
  refine ww_aald6 486 X dX3_twice_486 e486 ?_
  refine ww_aload_n 487 X dX3_twice_487 2 rfl rfl ?_
  obtain ⟨_, f488, h⟩ := bO_some h
  obtain ⟨M488, e488, h⟩ := bO_some h
  refine ww_callVV0 488 X dX3_twice_488 mY_X6_minus mL_X3_127 (rcv_spec f488) ⟨_, _, rfl⟩ (by decide) (As := [.ref v12, .ref v486, .ref v12]) (rest := []) rfl rfl ⟨Nat.le_of_ble_eq_true rfl, Nat.le_of_ble_eq_true rfl⟩ (Nat.le_of_ble_eq_true rfl) (fun l D A => c_X6_minus l D A e488) ?_
  exact ww_vretE 491 X hQ dX3_twice_491 h
theorem c_X3_twice {G : mG} {F sz : Nat} {M0 : mM} (l : Launch) (D : mD) (A : Nat → Prop) {l0 : Nat} {M : mM} (h : P_X3_twice G F l0 M = some M0) : mMetV l D G A yX3_twice cX3_twice 4 none 3 115 0 0 [.ref l0] M sz M0 sz := mMetV_of l D G A (by decide) (Nat.le_of_ble_eq_true rfl) (fun x X hQ => wP_X3_twice X hQ h)
/-! SealedTokens$Modulus.isZero([J)Z -/
theorem dX6_isZero_0 : decode cX6_isZero 0 = .ok (.iconst 0, 1) := by decide +kernel
theorem dX6_isZero_1 : decode cX6_isZero 1 = .ok (.istore_n 2, 1) := by decide +kernel
theorem dX6_isZero_2 : decode cX6_isZero 2 = .ok (.iload_n 2, 1) := by decide +kernel
theorem dX6_isZero_3 : decode cX6_isZero 3 = .ok (.aload_n 0, 1) := by decide +kernel
theorem dX6_isZero_4 : decode cX6_isZero 4 = .ok (.getfield 7, 3) := by decide +kernel
theorem dX6_isZero_7 : decode cX6_isZero 7 = .ok (.if_icmp .ge 19, 3) := by decide +kernel
theorem dX6_isZero_10 : decode cX6_isZero 10 = .ok (.aload_n 1, 1) := by decide +kernel
theorem dX6_isZero_11 : decode cX6_isZero 11 = .ok (.iload_n 2, 1) := by decide +kernel
theorem dX6_isZero_12 : decode cX6_isZero 12 = .ok (.laload, 1) := by decide +kernel
theorem dX6_isZero_13 : decode cX6_isZero 13 = .ok (.lconst 0, 1) := by decide +kernel
theorem dX6_isZero_14 : decode cX6_isZero 14 = .ok (.lcmp, 1) := by decide +kernel
theorem dX6_isZero_15 : decode cX6_isZero 15 = .ok (.ifCond .eq 5, 3) := by decide +kernel
theorem dX6_isZero_18 : decode cX6_isZero 18 = .ok (.iconst 0, 1) := by decide +kernel
theorem dX6_isZero_19 : decode cX6_isZero 19 = .ok (.ireturn, 1) := by decide +kernel
theorem dX6_isZero_20 : decode cX6_isZero 20 = .ok (.iinc 2 1, 3) := by decide +kernel
theorem dX6_isZero_23 : decode cX6_isZero 23 = .ok (.goto (-21), 3) := by decide +kernel
theorem dX6_isZero_26 : decode cX6_isZero 26 = .ok (.iconst 1, 1) := by decide +kernel
theorem dX6_isZero_27 : decode cX6_isZero 27 = .ok (.ireturn, 1) := by decide +kernel
abbrev rmX6_isZero : Room := { frames := 0, cells := 0, slots := 0, locals := 0 }
set_option maxHeartbeats 4000000 in
set_option maxRecDepth 100000 in
theorem wB_X6_isZero_2 {G : mG} {F : Nat} {x : mXT} {sz : Nat} {r0 : Int32} {M0 : mM} (X : mCX G RX6 cX6_isZero 3 (some .boolean) "isZero" rmX6_isZero x) (hQ : mQI x r0 M0 (sz, 0, 0)) : ∀ (n : Nat) (l0 : Nat) (l1 : Nat) (l2 : Int32) (M : mM), B_X6_isZero_2 G F n l0 l1 l2 M = some (r0, M0) → WW x (sz, 0, 0) M 2 [(0, .ref l0), (1, .ref l1), (2, .int l2)] [] := by
  intro n
  induction n with
  | zero =>
    intro l0 l1 l2 M h
    exact nomatch (show (none : Option (Int32 × mM)) = some (r0, M0) from h)
  | succ n ih =>
    intro l0 l1 l2 M h
    rw [B_X6_isZero_2] at h
    refine ww_iload_n 2 X dX6_isZero_2 2 rfl rfl ?_
    refine ww_aload_n 3 X dX6_isZero_3 0 rfl rfl ?_
    obtain ⟨v4, e4, h⟩ := bO_some h
    refine ww_getI 4 X dX6_isZero_4 fG_X6_7 e4 ?_
    refine ww_icmp_ge 7 26 X dX6_isZero_7 (by decide) (fun q => ?_) (fun q => ?_)
    · replace h := (if_pos q).symm.trans h
      refine ww_iconst 26 X (v := (1 : Int32)) dX6_isZero_26 (by decide) ?_
      exact ww_zretE 27 X hQ dX6_isZero_27 h
    · replace h := (if_neg q).symm.trans h
      refine ww_aload_n 10 X dX6_isZero_10 1 rfl rfl ?_
      refine ww_iload_n 11 X dX6_isZero_11 2 rfl rfl ?_
      obtain ⟨v12, e12, h⟩ := bO_some h
      refine ww_lald 12 X dX6_isZero_12 e12 ?_
      refine ww_lconst 13 X (v := (0 : Int64)) dX6_isZero_13 (by decide) ?_
      refine ww_lcmp 14 X dX6_isZero_14 ?_
      refine ww_if_eq 15 20 X dX6_isZero_15 (by decide) (fun q => ?_) (fun q => ?_)
      · replace h := (if_pos q).symm.trans h
        refine ww_iinc 20 X dX6_isZero_20 (lv' := [(0, .ref l0), (1, .ref l1), (2, .int (l2 + 1))]) 2 rfl rfl (by decide) [1, 2, 0] rfl ?_
        refine ww_goto 23 2 X dX6_isZero_23 (by decide) ?_
        exact (ih _ _ _ _ h)
      · replace h := (if_neg q).symm.trans h
        refine ww_iconst 18 X (v := (0 : Int32)) dX6_isZero_18 (by decide) ?_
        exact ww_zretE 19 X hQ dX6_isZero_19 h
set_option maxHeartbeats 4000000 in
set_option maxRecDepth 100000 in
theorem wP_X6_isZero {G : mG} {F : Nat} {x : mXT} {sz : Nat} {r0 : Int32} {M0 : mM} (X : mCX G RX6 cX6_isZero 3 (some .boolean) "isZero" rmX6_isZero x) (hQ : mQI x r0 M0 (sz, 0, 0)) {l0 : Nat} {l1 : Nat} {M : mM} (h : P_X6_isZero G F l0 l1 M = some (r0, M0)) : WW x (sz, 0, 0) M 0 [(0, .ref l0), (1, .ref l1)] [] := by
  unfold P_X6_isZero at h
  refine ww_iconst 0 X (v := (0 : Int32)) dX6_isZero_0 (by decide) ?_
  refine ww_istore_n 1 X dX6_isZero_1 (lv' := [(0, .ref l0), (1, .ref l1), (2, .int (0 : Int32))]) rfl (by decide) [1, 2, 0] rfl ?_
  exact (wB_X6_isZero_2 X hQ F _ _ _ _ h)
theorem c_X6_isZero {G : mG} {F sz : Nat} {r0 : Int32} {M0 : mM} (l : Launch) (D : mD) (A : Nat → Prop) {l0 : Nat} {l1 : Nat} {M : mM} (h : P_X6_isZero G F l0 l1 M = some (r0, M0)) : mMetI l D G A yX6_isZero cX6_isZero 3 (some .boolean) 0 0 0 0 [.ref l0, .ref l1] M sz r0 M0 sz := mMetI_of l D G A (by decide) (Nat.le_of_ble_eq_true rfl) (fun x X hQ => wP_X6_isZero X hQ h)
/-! SealedTokens$Curve.add([[J)Z -/
theorem dX3_add_0 : decode cX3_add 0 = .ok (.aload_n 0, 1) := by decide +kernel
theorem dX3_add_1 : decode cX3_add 1 = .ok (.getfield 59, 3) := by decide +kernel
theorem dX3_add_4 : decode cX3_add 4 = .ok (.iconst 0, 1) := by decide +kernel
theorem dX3_add_5 : decode cX3_add 5 = .ok (.aaload, 1) := by decide +kernel
theorem dX3_add_6 : decode cX3_add 6 = .ok (.astore_n 2, 1) := by decide +kernel
theorem dX3_add_7 : decode cX3_add 7 = .ok (.aload_n 0, 1) := by decide +kernel
theorem dX3_add_8 : decode cX3_add 8 = .ok (.getfield 59, 3) := by decide +kernel
theorem dX3_add_11 : decode cX3_add 11 = .ok (.iconst 1, 1) := by decide +kernel
theorem dX3_add_12 : decode cX3_add 12 = .ok (.aaload, 1) := by decide +kernel
theorem dX3_add_13 : decode cX3_add 13 = .ok (.astore_n 3, 1) := by decide +kernel
theorem dX3_add_14 : decode cX3_add 14 = .ok (.aload_n 0, 1) := by decide +kernel
theorem dX3_add_15 : decode cX3_add 15 = .ok (.getfield 59, 3) := by decide +kernel
theorem dX3_add_18 : decode cX3_add 18 = .ok (.iconst 2, 1) := by decide +kernel
theorem dX3_add_19 : decode cX3_add 19 = .ok (.aaload, 1) := by decide +kernel
theorem dX3_add_20 : decode cX3_add 20 = .ok (.astore 4, 2) := by decide +kernel
theorem dX3_add_22 : decode cX3_add 22 = .ok (.aload_n 0, 1) := by decide +kernel
theorem dX3_add_23 : decode cX3_add 23 = .ok (.getfield 20, 3) := by decide +kernel
theorem dX3_add_26 : decode cX3_add 26 = .ok (.aload 4, 2) := by decide +kernel
theorem dX3_add_28 : decode cX3_add 28 = .ok (.invokevirtual 162, 3) := by decide +kernel
theorem dX3_add_31 : decode cX3_add 31 = .ok (.ifCond .eq 40, 3) := by decide +kernel
theorem dX3_add_34 : decode cX3_add 34 = .ok (.aload_n 1, 1) := by decide +kernel
theorem dX3_add_35 : decode cX3_add 35 = .ok (.iconst 0, 1) := by decide +kernel
theorem dX3_add_36 : decode cX3_add 36 = .ok (.aaload, 1) := by decide +kernel
theorem dX3_add_37 : decode cX3_add 37 = .ok (.iconst 0, 1) := by decide +kernel
theorem dX3_add_38 : decode cX3_add 38 = .ok (.aload_n 2, 1) := by decide +kernel
theorem dX3_add_39 : decode cX3_add 39 = .ok (.iconst 0, 1) := by decide +kernel
theorem dX3_add_40 : decode cX3_add 40 = .ok (.bipush 8, 2) := by decide +kernel
theorem dX3_add_42 : decode cX3_add 42 = .ok (.invokestatic 166, 3) := by decide +kernel
theorem dX3_add_45 : decode cX3_add 45 = .ok (.aload_n 1, 1) := by decide +kernel
theorem dX3_add_46 : decode cX3_add 46 = .ok (.iconst 1, 1) := by decide +kernel
theorem dX3_add_47 : decode cX3_add 47 = .ok (.aaload, 1) := by decide +kernel
theorem dX3_add_48 : decode cX3_add 48 = .ok (.iconst 0, 1) := by decide +kernel
theorem dX3_add_49 : decode cX3_add 49 = .ok (.aload_n 3, 1) := by decide +kernel
theorem dX3_add_50 : decode cX3_add 50 = .ok (.iconst 0, 1) := by decide +kernel
theorem dX3_add_51 : decode cX3_add 51 = .ok (.bipush 8, 2) := by decide +kernel
theorem dX3_add_53 : decode cX3_add 53 = .ok (.invokestatic 166, 3) := by decide +kernel
theorem dX3_add_56 : decode cX3_add 56 = .ok (.aload_n 0, 1) := by decide +kernel
theorem dX3_add_57 : decode cX3_add 57 = .ok (.getfield 56, 3) := by decide +kernel
theorem dX3_add_60 : decode cX3_add 60 = .ok (.iconst 0, 1) := by decide +kernel
theorem dX3_add_61 : decode cX3_add 61 = .ok (.aload 4, 2) := by decide +kernel
theorem dX3_add_63 : decode cX3_add 63 = .ok (.iconst 0, 1) := by decide +kernel
theorem dX3_add_64 : decode cX3_add 64 = .ok (.bipush 8, 2) := by decide +kernel
theorem dX3_add_66 : decode cX3_add 66 = .ok (.invokestatic 166, 3) := by decide +kernel
theorem dX3_add_69 : decode cX3_add 69 = .ok (.iconst 1, 1) := by decide +kernel
theorem dX3_add_70 : decode cX3_add 70 = .ok (.ireturn, 1) := by decide +kernel
theorem dX3_add_71 : decode cX3_add 71 = .ok (.aload_n 0, 1) := by decide +kernel
theorem dX3_add_72 : decode cX3_add 72 = .ok (.getfield 20, 3) := by decide +kernel
theorem dX3_add_75 : decode cX3_add 75 = .ok (.aload 4, 2) := by decide +kernel
theorem dX3_add_77 : decode cX3_add 77 = .ok (.aload 4, 2) := by decide +kernel
theorem dX3_add_79 : decode cX3_add 79 = .ok (.aload_n 0, 1) := by decide +kernel
theorem dX3_add_80 : decode cX3_add 80 = .ok (.getfield 62, 3) := by decide +kernel
theorem dX3_add_83 : decode cX3_add 83 = .ok (.iconst 0, 1) := by decide +kernel
theorem dX3_add_84 : decode cX3_add 84 = .ok (.aaload, 1) := by decide +kernel
theorem dX3_add_85 : decode cX3_add 85 = .ok (.invokevirtual 123, 3) := by decide +kernel
theorem dX3_add_88 : decode cX3_add 88 = .ok (.aload_n 0, 1) := by decide +kernel
theorem dX3_add_89 : decode cX3_add 89 = .ok (.getfield 20, 3) := by decide +kernel
theorem dX3_add_92 : decode cX3_add 92 = .ok (.aload_n 1, 1) := by decide +kernel
theorem dX3_add_93 : decode cX3_add 93 = .ok (.iconst 0, 1) := by decide +kernel
theorem dX3_add_94 : decode cX3_add 94 = .ok (.aaload, 1) := by decide +kernel
theorem dX3_add_95 : decode cX3_add 95 = .ok (.aload_n 0, 1) := by decide +kernel
theorem dX3_add_96 : decode cX3_add 96 = .ok (.getfield 62, 3) := by decide +kernel
theorem dX3_add_99 : decode cX3_add 99 = .ok (.iconst 0, 1) := by decide +kernel
theorem dX3_add_100 : decode cX3_add 100 = .ok (.aaload, 1) := by decide +kernel
theorem dX3_add_101 : decode cX3_add 101 = .ok (.aload_n 0, 1) := by decide +kernel
theorem dX3_add_102 : decode cX3_add 102 = .ok (.getfield 62, 3) := by decide +kernel
theorem dX3_add_105 : decode cX3_add 105 = .ok (.iconst 1, 1) := by decide +kernel
theorem dX3_add_106 : decode cX3_add 106 = .ok (.aaload, 1) := by decide +kernel
theorem dX3_add_107 : decode cX3_add 107 = .ok (.invokevirtual 123, 3) := by decide +kernel
theorem dX3_add_110 : decode cX3_add 110 = .ok (.aload_n 0, 1) := by decide +kernel
theorem dX3_add_111 : decode cX3_add 111 = .ok (.getfield 20, 3) := by decide +kernel
theorem dX3_add_114 : decode cX3_add 114 = .ok (.aload_n 0, 1) := by decide +kernel
theorem dX3_add_115 : decode cX3_add 115 = .ok (.getfield 62, 3) := by decide +kernel
theorem dX3_add_118 : decode cX3_add 118 = .ok (.iconst 1, 1) := by decide +kernel
theorem dX3_add_119 : decode cX3_add 119 = .ok (.aaload, 1) := by decide +kernel
theorem dX3_add_120 : decode cX3_add 120 = .ok (.aload_n 2, 1) := by decide +kernel
theorem dX3_add_121 : decode cX3_add 121 = .ok (.aload_n 0, 1) := by decide +kernel
theorem dX3_add_122 : decode cX3_add 122 = .ok (.getfield 62, 3) := by decide +kernel
theorem dX3_add_125 : decode cX3_add 125 = .ok (.iconst 1, 1) := by decide +kernel
theorem dX3_add_126 : decode cX3_add 126 = .ok (.aaload, 1) := by decide +kernel
theorem dX3_add_127 : decode cX3_add 127 = .ok (.invokevirtual 127, 3) := by decide +kernel
theorem dX3_add_130 : decode cX3_add 130 = .ok (.aload_n 0, 1) := by decide +kernel
theorem dX3_add_131 : decode cX3_add 131 = .ok (.getfield 20, 3) := by decide +kernel
theorem dX3_add_134 : decode cX3_add 134 = .ok (.aload_n 0, 1) := by decide +kernel
theorem dX3_add_135 : decode cX3_add 135 = .ok (.getfield 62, 3) := by decide +kernel
theorem dX3_add_138 : decode cX3_add 138 = .ok (.iconst 0, 1) := by decide +kernel
theorem dX3_add_139 : decode cX3_add 139 = .ok (.aaload, 1) := by decide +kernel
theorem dX3_add_140 : decode cX3_add 140 = .ok (.aload 4, 2) := by decide +kernel
theorem dX3_add_142 : decode cX3_add 142 = .ok (.aload_n 0, 1) := by decide +kernel
theorem dX3_add_143 : decode cX3_add 143 = .ok (.getfield 62, 3) := by decide +kernel
theorem dX3_add_146 : decode cX3_add 146 = .ok (.iconst 0, 1) := by decide +kernel
theorem dX3_add_147 : decode cX3_add 147 = .ok (.aaload, 1) := by decide +kernel
theorem dX3_add_148 : decode cX3_add 148 = .ok (.invokevirtual 123, 3) := by decide +kernel
theorem dX3_add_151 : decode cX3_add 151 = .ok (.aload_n 0, 1) := by decide +kernel
theorem dX3_add_152 : decode cX3_add 152 = .ok (.getfield 20, 3) := by decide +kernel
theorem dX3_add_155 : decode cX3_add 155 = .ok (.aload_n 1, 1) := by decide +kernel
theorem dX3_add_156 : decode cX3_add 156 = .ok (.iconst 1, 1) := by decide +kernel
theorem dX3_add_157 : decode cX3_add 157 = .ok (.aaload, 1) := by decide +kernel
theorem dX3_add_158 : decode cX3_add 158 = .ok (.aload_n 0, 1) := by decide +kernel
theorem dX3_add_159 : decode cX3_add 159 = .ok (.getfield 62, 3) := by decide +kernel
theorem dX3_add_162 : decode cX3_add 162 = .ok (.iconst 0, 1) := by decide +kernel
theorem dX3_add_163 : decode cX3_add 163 = .ok (.aaload, 1) := by decide +kernel
theorem dX3_add_164 : decode cX3_add 164 = .ok (.aload_n 0, 1) := by decide +kernel
theorem dX3_add_165 : decode cX3_add 165 = .ok (.getfield 62, 3) := by decide +kernel
theorem dX3_add_168 : decode cX3_add 168 = .ok (.iconst 2, 1) := by decide +kernel
theorem dX3_add_169 : decode cX3_add 169 = .ok (.aaload, 1) := by decide +kernel
theorem dX3_add_170 : decode cX3_add 170 = .ok (.invokevirtual 123, 3) := by decide +kernel
theorem dX3_add_173 : decode cX3_add 173 = .ok (.aload_n 0, 1) := by decide +kernel
theorem dX3_add_174 : decode cX3_add 174 = .ok (.getfield 20, 3) := by decide +kernel
theorem dX3_add_177 : decode cX3_add 177 = .ok (.aload_n 0, 1) := by decide +kernel
theorem dX3_add_178 : decode cX3_add 178 = .ok (.getfield 62, 3) := by decide +kernel
theorem dX3_add_181 : decode cX3_add 181 = .ok (.iconst 2, 1) := by decide +kernel
theorem dX3_add_182 : decode cX3_add 182 = .ok (.aaload, 1) := by decide +kernel
theorem dX3_add_183 : decode cX3_add 183 = .ok (.aload_n 3, 1) := by decide +kernel
theorem dX3_add_184 : decode cX3_add 184 = .ok (.aload_n 0, 1) := by decide +kernel
theorem dX3_add_185 : decode cX3_add 185 = .ok (.getfield 62, 3) := by decide +kernel
theorem dX3_add_188 : decode cX3_add 188 = .ok (.iconst 2, 1) := by decide +kernel
theorem dX3_add_189 : decode cX3_add 189 = .ok (.aaload, 1) := by decide +kernel
theorem dX3_add_190 : decode cX3_add 190 = .ok (.invokevirtual 127, 3) := by decide +kernel
theorem dX3_add_193 : decode cX3_add 193 = .ok (.aload_n 0, 1) := by decide +kernel
theorem dX3_add_194 : decode cX3_add 194 = .ok (.getfield 20, 3) := by decide +kernel
theorem dX3_add_197 : decode cX3_add 197 = .ok (.aload_n 0, 1) := by decide +kernel
theorem dX3_add_198 : decode cX3_add 198 = .ok (.getfield 62, 3) := by decide +kernel
theorem dX3_add_201 : decode cX3_add 201 = .ok (.iconst 1, 1) := by decide +kernel
theorem dX3_add_202 : decode cX3_add 202 = .ok (.aaload, 1) := by decide +kernel
theorem dX3_add_203 : decode cX3_add 203 = .ok (.invokevirtual 162, 3) := by decide +kernel
theorem dX3_add_206 : decode cX3_add 206 = .ok (.ifCond .eq 21, 3) := by decide +kernel
theorem dX3_add_209 : decode cX3_add 209 = .ok (.aload_n 0, 1) := by decide +kernel
theorem dX3_add_210 : decode cX3_add 210 = .ok (.getfield 20, 3) := by decide +kernel
theorem dX3_add_213 : decode cX3_add 213 = .ok (.aload_n 0, 1) := by decide +kernel
theorem dX3_add_214 : decode cX3_add 214 = .ok (.getfield 62, 3) := by decide +kernel
theorem dX3_add_217 : decode cX3_add 217 = .ok (.iconst 2, 1) := by decide +kernel
theorem dX3_add_218 : decode cX3_add 218 = .ok (.aaload, 1) := by decide +kernel
theorem dX3_add_219 : decode cX3_add 219 = .ok (.invokevirtual 162, 3) := by decide +kernel
theorem dX3_add_222 : decode cX3_add 222 = .ok (.ifCond .eq 5, 3) := by decide +kernel
theorem dX3_add_225 : decode cX3_add 225 = .ok (.iconst 0, 1) := by decide +kernel
theorem dX3_add_226 : decode cX3_add 226 = .ok (.ireturn, 1) := by decide +kernel
theorem dX3_add_227 : decode cX3_add 227 = .ok (.aload_n 0, 1) := by decide +kernel
theorem dX3_add_228 : decode cX3_add 228 = .ok (.getfield 20, 3) := by decide +kernel
theorem dX3_add_231 : decode cX3_add 231 = .ok (.aload 4, 2) := by decide +kernel
theorem dX3_add_233 : decode cX3_add 233 = .ok (.aload_n 0, 1) := by decide +kernel
theorem dX3_add_234 : decode cX3_add 234 = .ok (.getfield 62, 3) := by decide +kernel
theorem dX3_add_237 : decode cX3_add 237 = .ok (.iconst 1, 1) := by decide +kernel
theorem dX3_add_238 : decode cX3_add 238 = .ok (.aaload, 1) := by decide +kernel
theorem dX3_add_239 : decode cX3_add 239 = .ok (.aload 4, 2) := by decide +kernel
theorem dX3_add_241 : decode cX3_add 241 = .ok (.invokevirtual 123, 3) := by decide +kernel
theorem dX3_add_244 : decode cX3_add 244 = .ok (.aload_n 0, 1) := by decide +kernel
theorem dX3_add_245 : decode cX3_add 245 = .ok (.getfield 20, 3) := by decide +kernel
theorem dX3_add_248 : decode cX3_add 248 = .ok (.aload_n 0, 1) := by decide +kernel
theorem dX3_add_249 : decode cX3_add 249 = .ok (.getfield 62, 3) := by decide +kernel
theorem dX3_add_252 : decode cX3_add 252 = .ok (.iconst 1, 1) := by decide +kernel
theorem dX3_add_253 : decode cX3_add 253 = .ok (.aaload, 1) := by decide +kernel
theorem dX3_add_254 : decode cX3_add 254 = .ok (.aload_n 0, 1) := by decide +kernel
theorem dX3_add_255 : decode cX3_add 255 = .ok (.getfield 62, 3) := by decide +kernel
theorem dX3_add_258 : decode cX3_add 258 = .ok (.iconst 1, 1) := by decide +kernel
theorem dX3_add_259 : decode cX3_add 259 = .ok (.aaload, 1) := by decide +kernel
theorem dX3_add_260 : decode cX3_add 260 = .ok (.aload_n 0, 1) := by decide +kernel
theorem dX3_add_261 : decode cX3_add 261 = .ok (.getfield 62, 3) := by decide +kernel
theorem dX3_add_264 : decode cX3_add 264 = .ok (.iconst 3, 1) := by decide +kernel
theorem dX3_add_265 : decode cX3_add 265 = .ok (.aaload, 1) := by decide +kernel
theorem dX3_add_266 : decode cX3_add 266 = .ok (.invokevirtual 123, 3) := by decide +kernel
theorem dX3_add_269 : decode cX3_add 269 = .ok (.aload_n 0, 1) := by decide +kernel
theorem dX3_add_270 : decode cX3_add 270 = .ok (.getfield 20, 3) := by decide +kernel
theorem dX3_add_273 : decode cX3_add 273 = .ok (.aload_n 0, 1) := by decide +kernel
theorem dX3_add_274 : decode cX3_add 274 = .ok (.getfield 62, 3) := by decide +kernel
theorem dX3_add_277 : decode cX3_add 277 = .ok (.iconst 1, 1) := by decide +kernel
theorem dX3_add_278 : decode cX3_add 278 = .ok (.aaload, 1) := by decide +kernel
theorem dX3_add_279 : decode cX3_add 279 = .ok (.aload_n 0, 1) := by decide +kernel
theorem dX3_add_280 : decode cX3_add 280 = .ok (.getfield 62, 3) := by decide +kernel
theorem dX3_add_283 : decode cX3_add 283 = .ok (.iconst 3, 1) := by decide +kernel
theorem dX3_add_284 : decode cX3_add 284 = .ok (.aaload, 1) := by decide +kernel
theorem dX3_add_285 : decode cX3_add 285 = .ok (.aload_n 0, 1) := by decide +kernel
theorem dX3_add_286 : decode cX3_add 286 = .ok (.getfield 62, 3) := by decide +kernel
theorem dX3_add_289 : decode cX3_add 289 = .ok (.iconst 4, 1) := by decide +kernel
theorem dX3_add_290 : decode cX3_add 290 = .ok (.aaload, 1) := by decide +kernel
theorem dX3_add_291 : decode cX3_add 291 = .ok (.invokevirtual 123, 3) := by decide +kernel
theorem dX3_add_294 : decode cX3_add 294 = .ok (.aload_n 0, 1) := by decide +kernel
theorem dX3_add_295 : decode cX3_add 295 = .ok (.getfield 20, 3) := by decide +kernel
theorem dX3_add_298 : decode cX3_add 298 = .ok (.aload_n 2, 1) := by decide +kernel
theorem dX3_add_299 : decode cX3_add 299 = .ok (.aload_n 0, 1) := by decide +kernel
theorem dX3_add_300 : decode cX3_add 300 = .ok (.getfield 62, 3) := by decide +kernel
theorem dX3_add_303 : decode cX3_add 303 = .ok (.iconst 3, 1) := by decide +kernel
theorem dX3_add_304 : decode cX3_add 304 = .ok (.aaload, 1) := by decide +kernel
theorem dX3_add_305 : decode cX3_add 305 = .ok (.aload_n 0, 1) := by decide +kernel
theorem dX3_add_306 : decode cX3_add 306 = .ok (.getfield 62, 3) := by decide +kernel
theorem dX3_add_309 : decode cX3_add 309 = .ok (.iconst 3, 1) := by decide +kernel
theorem dX3_add_310 : decode cX3_add 310 = .ok (.aaload, 1) := by decide +kernel
theorem dX3_add_311 : decode cX3_add 311 = .ok (.invokevirtual 123, 3) := by decide +kernel
theorem dX3_add_314 : decode cX3_add 314 = .ok (.aload_n 0, 1) := by decide +kernel
theorem dX3_add_315 : decode cX3_add 315 = .ok (.getfield 20, 3) := by decide +kernel
theorem dX3_add_318 : decode cX3_add 318 = .ok (.aload_n 0, 1) := by decide +kernel
theorem dX3_add_319 : decode cX3_add 319 = .ok (.getfield 62, 3) := by decide +kernel
theorem dX3_add_322 : decode cX3_add 322 = .ok (.iconst 2, 1) := by decide +kernel
theorem dX3_add_323 : decode cX3_add 323 = .ok (.aaload, 1) := by decide +kernel
theorem dX3_add_324 : decode cX3_add 324 = .ok (.aload_n 0, 1) := by decide +kernel
theorem dX3_add_325 : decode cX3_add 325 = .ok (.getfield 62, 3) := by decide +kernel
theorem dX3_add_328 : decode cX3_add 328 = .ok (.iconst 2, 1) := by decide +kernel
theorem dX3_add_329 : decode cX3_add 329 = .ok (.aaload, 1) := by decide +kernel
theorem dX3_add_330 : decode cX3_add 330 = .ok (.aload_n 2, 1) := by decide +kernel
theorem dX3_add_331 : decode cX3_add 331 = .ok (.invokevirtual 123, 3) := by decide +kernel
theorem dX3_add_334 : decode cX3_add 334 = .ok (.aload_n 0, 1) := by decide +kernel
theorem dX3_add_335 : decode cX3_add 335 = .ok (.getfield 20, 3) := by decide +kernel
theorem dX3_add_338 : decode cX3_add 338 = .ok (.aload_n 2, 1) := by decide +kernel
theorem dX3_add_339 : decode cX3_add 339 = .ok (.aload_n 0, 1) := by decide +kernel
theorem dX3_add_340 : decode cX3_add 340 = .ok (.getfield 62, 3) := by decide +kernel
theorem dX3_add_343 : decode cX3_add 343 = .ok (.iconst 4, 1) := by decide +kernel
theorem dX3_add_344 : decode cX3_add 344 = .ok (.aaload, 1) := by decide +kernel
theorem dX3_add_345 : decode cX3_add 345 = .ok (.aload_n 2, 1) := by decide +kernel
theorem dX3_add_346 : decode cX3_add 346 = .ok (.invokevirtual 127, 3) := by decide +kernel
theorem dX3_add_349 : decode cX3_add 349 = .ok (.aload_n 0, 1) := by decide +kernel
theorem dX3_add_350 : decode cX3_add 350 = .ok (.getfield 20, 3) := by decide +kernel
theorem dX3_add_353 : decode cX3_add 353 = .ok (.aload_n 2, 1) := by decide +kernel
theorem dX3_add_354 : decode cX3_add 354 = .ok (.aload_n 0, 1) := by decide +kernel
theorem dX3_add_355 : decode cX3_add 355 = .ok (.getfield 62, 3) := by decide +kernel
theorem dX3_add_358 : decode cX3_add 358 = .ok (.iconst 3, 1) := by decide +kernel
theorem dX3_add_359 : decode cX3_add 359 = .ok (.aaload, 1) := by decide +kernel
theorem dX3_add_360 : decode cX3_add 360 = .ok (.aload_n 2, 1) := by decide +kernel
theorem dX3_add_361 : decode cX3_add 361 = .ok (.invokevirtual 127, 3) := by decide +kernel
theorem dX3_add_364 : decode cX3_add 364 = .ok (.aload_n 0, 1) := by decide +kernel
theorem dX3_add_365 : decode cX3_add 365 = .ok (.getfield 20, 3) := by decide +kernel
theorem dX3_add_368 : decode cX3_add 368 = .ok (.aload_n 2, 1) := by decide +kernel
theorem dX3_add_369 : decode cX3_add 369 = .ok (.aload_n 0, 1) := by decide +kernel
theorem dX3_add_370 : decode cX3_add 370 = .ok (.getfield 62, 3) := by decide +kernel
theorem dX3_add_373 : decode cX3_add 373 = .ok (.iconst 3, 1) := by decide +kernel
theorem dX3_add_374 : decode cX3_add 374 = .ok (.aaload, 1) := by decide +kernel
theorem dX3_add_375 : decode cX3_add 375 = .ok (.aload_n 2, 1) := by decide +kernel
theorem dX3_add_376 : decode cX3_add 376 = .ok (.invokevirtual 127, 3) := by decide +kernel
theorem dX3_add_379 : decode cX3_add 379 = .ok (.aload_n 0, 1) := by decide +kernel
theorem dX3_add_380 : decode cX3_add 380 = .ok (.getfield 20, 3) := by decide +kernel
theorem dX3_add_383 : decode cX3_add 383 = .ok (.aload_n 0, 1) := by decide +kernel
theorem dX3_add_384 : decode cX3_add 384 = .ok (.getfield 62, 3) := by decide +kernel
theorem dX3_add_387 : decode cX3_add 387 = .ok (.iconst 3, 1) := by decide +kernel
theorem dX3_add_388 : decode cX3_add 388 = .ok (.aaload, 1) := by decide +kernel
theorem dX3_add_389 : decode cX3_add 389 = .ok (.aload_n 2, 1) := by decide +kernel
theorem dX3_add_390 : decode cX3_add 390 = .ok (.aload_n 0, 1) := by decide +kernel
theorem dX3_add_391 : decode cX3_add 391 = .ok (.getfield 62, 3) := by decide +kernel
theorem dX3_add_394 : decode cX3_add 394 = .ok (.iconst 3, 1) := by decide +kernel
theorem dX3_add_395 : decode cX3_add 395 = .ok (.aaload, 1) := by decide +kernel
theorem dX3_add_396 : decode cX3_add 396 = .ok (.invokevirtual 127, 3) := by decide +kernel
theorem dX3_add_399 : decode cX3_add 399 = .ok (.aload_n 0, 1) := by decide +kernel
theorem dX3_add_400 : decode cX3_add 400 = .ok (.getfield 20, 3) := by decide +kernel
theorem dX3_add_403 : decode cX3_add 403 = .ok (.aload_n 0, 1) := by decide +kernel
theorem dX3_add_404 : decode cX3_add 404 = .ok (.getfield 62, 3) := by decide +kernel
theorem dX3_add_407 : decode cX3_add 407 = .ok (.iconst 2, 1) := by decide +kernel
theorem dX3_add_408 : decode cX3_add 408 = .ok (.aaload, 1) := by decide +kernel
theorem dX3_add_409 : decode cX3_add 409 = .ok (.aload_n 0, 1) := by decide +kernel
theorem dX3_add_410 : decode cX3_add 410 = .ok (.getfield 62, 3) := by decide +kernel
theorem dX3_add_413 : decode cX3_add 413 = .ok (.iconst 3, 1) := by decide +kernel
theorem dX3_add_414 : decode cX3_add 414 = .ok (.aaload, 1) := by decide +kernel
theorem dX3_add_415 : decode cX3_add 415 = .ok (.aload_n 0, 1) := by decide +kernel
theorem dX3_add_416 : decode cX3_add 416 = .ok (.getfield 62, 3) := by decide +kernel
theorem dX3_add_419 : decode cX3_add 419 = .ok (.iconst 3, 1) := by decide +kernel
theorem dX3_add_420 : decode cX3_add 420 = .ok (.aaload, 1) := by decide +kernel
theorem dX3_add_421 : decode cX3_add 421 = .ok (.invokevirtual 123, 3) := by decide +kernel
theorem dX3_add_424 : decode cX3_add 424 = .ok (.aload_n 0, 1) := by decide +kernel
theorem dX3_add_425 : decode cX3_add 425 = .ok (.getfield 20, 3) := by decide +kernel
theorem dX3_add_428 : decode cX3_add 428 = .ok (.aload_n 3, 1) := by decide +kernel
theorem dX3_add_429 : decode cX3_add 429 = .ok (.aload_n 0, 1) := by decide +kernel
theorem dX3_add_430 : decode cX3_add 430 = .ok (.getfield 62, 3) := by decide +kernel
theorem dX3_add_433 : decode cX3_add 433 = .ok (.iconst 4, 1) := by decide +kernel
theorem dX3_add_434 : decode cX3_add 434 = .ok (.aaload, 1) := by decide +kernel
theorem dX3_add_435 : decode cX3_add 435 = .ok (.aload_n 0, 1) := by decide +kernel
theorem dX3_add_436 : decode cX3_add 436 = .ok (.getfield 62, 3) := by decide +kernel
theorem dX3_add_439 : decode cX3_add 439 = .ok (.iconst 4, 1) := by decide +kernel
theorem dX3_add_440 : decode cX3_add 440 = .ok (.aaload, 1) := by decide +kernel
theorem dX3_add_441 : decode cX3_add 441 = .ok (.invokevirtual 123, 3) := by decide +kernel
theorem dX3_add_444 : decode cX3_add 444 = .ok (.aload_n 0, 1) := by decide +kernel
theorem dX3_add_445 : decode cX3_add 445 = .ok (.getfield 20, 3) := by decide +kernel
theorem dX3_add_448 : decode cX3_add 448 = .ok (.aload_n 0, 1) := by decide +kernel
theorem dX3_add_449 : decode cX3_add 449 = .ok (.getfield 62, 3) := by decide +kernel
theorem dX3_add_452 : decode cX3_add 452 = .ok (.iconst 3, 1) := by decide +kernel
theorem dX3_add_453 : decode cX3_add 453 = .ok (.aaload, 1) := by decide +kernel
theorem dX3_add_454 : decode cX3_add 454 = .ok (.aload_n 0, 1) := by decide +kernel
theorem dX3_add_455 : decode cX3_add 455 = .ok (.getfield 62, 3) := by decide +kernel
theorem dX3_add_458 : decode cX3_add 458 = .ok (.iconst 4, 1) := by decide +kernel
theorem dX3_add_459 : decode cX3_add 459 = .ok (.aaload, 1) := by decide +kernel
theorem dX3_add_460 : decode cX3_add 460 = .ok (.aload_n 3, 1) := by decide +kernel
theorem dX3_add_461 : decode cX3_add 461 = .ok (.invokevirtual 127, 3) := by decide +kernel
theorem dX3_add_464 : decode cX3_add 464 = .ok (.iconst 1, 1) := by decide +kernel
theorem dX3_add_465 : decode cX3_add 465 = .ok (.ireturn, 1) := by decide +kernel
abbrev rmX3_add : Room := { frames := 3, cells := 0, slots := 0, locals := 115 }
set_option maxHeartbeats 4000000 in
set_option maxRecDepth 100000 in
theorem wB_X3_add_227 {G : mG} {F : Nat} {x : mXT} {sz : Nat} {r0 : Int32} {M0 : mM} (X : mCX G RX3 cX3_add 5 (some .boolean) "add" rmX3_add x) (hQ : mQI x r0 M0 (sz, 0, 0)) {l0 : Nat} {l2 : Nat} {l3 : Nat} {l4 : Nat} {M : mM} (h : B_X3_add_227 G F l0 l2 l3 l4 M = some (r0, M0)) : WW x (sz, 0, 0) M 227 [(0, .ref l0), (2, .ref l2), (3, .ref l3), (4, .ref l4)] [] := by
  unfold B_X3_add_227 at h
  refine ww_aload_n 227 X dX3_add_227 0 rfl rfl ?_
  obtain ⟨v228, e228, h⟩ := bO_some h
  refine ww_getR 228 X dX3_add_228 fG_X3_20 e228 ?_
  refine ww_aload 231 X dX3_add_231 3 rfl ?_
  refine ww_aload_n 233 X dX3_add_233 0 rfl rfl ?_
  obtain ⟨v234, e234, h⟩ := bO_some h
  refine ww_getR 234 X dX3_add_234 fG_X3_62 e234 ?_
  refine ww_iconst 237 X (v := (1 : Int32)) dX3_add_237 (by decide) ?_
  obtain ⟨v238, e238, h⟩ := bO_some h
  refine ww_aald6 238 X dX3_add_238 e238 ?_
  refine ww_aload 239 X dX3_add_239 3 rfl ?_
  obtain ⟨_, f241, h⟩ := bO_some h
  obtain ⟨M241, e241, h⟩ := bO_some h
  refine ww_callVV0 241 X dX3_add_241 mY_X6_times mL_X3_123 (rcv_spec f241) ⟨_, _, rfl⟩ (by decide) (As := [.ref l4, .ref v238, .ref l4]) (rest := []) rfl rfl ⟨Nat.le_of_ble_eq_true rfl, Nat.le_of_ble_eq_true rfl⟩ (Nat.le_of_ble_eq_true rfl) (fun l D A => c_X6_times l D A e241) ?_
  refine ww_aload_n 244 X dX3_add_244 0 rfl rfl ?_
  obtain ⟨v245, e245, h⟩ := bO_some h
  refine ww_getR 245 X dX3_add_245 fG_X3_20 e245 ?_
  refine ww_aload_n 248 X dX3_add_248 0 rfl rfl ?_
  obtain ⟨v249, e249, h⟩ := bO_some h
  refine ww_getR 249 X dX3_add_249 fG_X3_62 e249 ?_
  refine ww_iconst 252 X (v := (1 : Int32)) dX3_add_252 (by decide) ?_
  obtain ⟨v253, e253, h⟩ := bO_some h
  refine ww_aald6 253 X dX3_add_253 e253 ?_
  refine ww_aload_n 254 X dX3_add_254 0 rfl rfl ?_
  obtain ⟨v255, e255, h⟩ := bO_some h
  refine ww_getR 255 X dX3_add_255 fG_X3_62 e255 ?_
  refine ww_iconst 258 X (v := (1 : Int32)) dX3_add_258 (by decide) ?_
  obtain ⟨v259, e259, h⟩ := bO_some h
  refine ww_aald6 259 X dX3_add_259 e259 ?_
  refine ww_aload_n 260 X dX3_add_260 0 rfl rfl ?_
  obtain ⟨v261, e261, h⟩ := bO_some h
  refine ww_getR 261 X dX3_add_261 fG_X3_62 e261 ?_
  refine ww_iconst 264 X (v := (3 : Int32)) dX3_add_264 (by decide) ?_
  obtain ⟨v265, e265, h⟩ := bO_some h
  refine ww_aald6 265 X dX3_add_265 e265 ?_
  obtain ⟨_, f266, h⟩ := bO_some h
  obtain ⟨M266, e266, h⟩ := bO_some h
  refine ww_callVV0 266 X dX3_add_266 mY_X6_times mL_X3_123 (rcv_spec f266) ⟨_, _, rfl⟩ (by decide) (As := [.ref v253, .ref v259, .ref v265]) (rest := []) rfl rfl ⟨Nat.le_of_ble_eq_true rfl, Nat.le_of_ble_eq_true rfl⟩ (Nat.le_of_ble_eq_true rfl) (fun l D A => c_X6_times l D A e266) ?_
  refine ww_aload_n 269 X dX3_add_269 0 rfl rfl ?_
  obtain ⟨v270, e270, h⟩ := bO_some h
  refine ww_getR 270 X dX3_add_270 fG_X3_20 e270 ?_
  refine ww_aload_n 273 X dX3_add_273 0 rfl rfl ?_
  obtain ⟨v274, e274, h⟩ := bO_some h
  refine ww_getR 274 X dX3_add_274 fG_X3_62 e274 ?_
  refine ww_iconst 277 X (v := (1 : Int32)) dX3_add_277 (by decide) ?_
  obtain ⟨v278, e278, h⟩ := bO_some h
  refine ww_aald6 278 X dX3_add_278 e278 ?_
  refine ww_aload_n 279 X dX3_add_279 0 rfl rfl ?_
  obtain ⟨v280, e280, h⟩ := bO_some h
  refine ww_getR 280 X dX3_add_280 fG_X3_62 e280 ?_
  refine ww_iconst 283 X (v := (3 : Int32)) dX3_add_283 (by decide) ?_
  obtain ⟨v284, e284, h⟩ := bO_some h
  refine ww_aald6 284 X dX3_add_284 e284 ?_
  refine ww_aload_n 285 X dX3_add_285 0 rfl rfl ?_
  obtain ⟨v286, e286, h⟩ := bO_some h
  refine ww_getR 286 X dX3_add_286 fG_X3_62 e286 ?_
  refine ww_iconst 289 X (v := (4 : Int32)) dX3_add_289 (by decide) ?_
  obtain ⟨v290, e290, h⟩ := bO_some h
  refine ww_aald6 290 X dX3_add_290 e290 ?_
  obtain ⟨_, f291, h⟩ := bO_some h
  obtain ⟨M291, e291, h⟩ := bO_some h
  refine ww_callVV0 291 X dX3_add_291 mY_X6_times mL_X3_123 (rcv_spec f291) ⟨_, _, rfl⟩ (by decide) (As := [.ref v278, .ref v284, .ref v290]) (rest := []) rfl rfl ⟨Nat.le_of_ble_eq_true rfl, Nat.le_of_ble_eq_true rfl⟩ (Nat.le_of_ble_eq_true rfl) (fun l D A => c_X6_times l D A e291) ?_
  refine ww_aload_n 294 X dX3_add_294 0 rfl rfl ?_
  obtain ⟨v295, e295, h⟩ := bO_some h
  refine ww_getR 295 X dX3_add_295 fG_X3_20 e295 ?_
  refine ww_aload_n 298 X dX3_add_298 1 rfl rfl ?_
  refine ww_aload_n 299 X dX3_add_299 0 rfl rfl ?_
  obtain ⟨v300, e300, h⟩ := bO_some h
  refine ww_getR 300 X dX3_add_300 fG_X3_62 e300 ?_
  refine ww_iconst 303 X (v := (3 : Int32)) dX3_add_303 (by decide) ?_
  obtain ⟨v304, e304, h⟩ := bO_some h
  refine ww_aald6 304 X dX3_add_304 e304 ?_
  refine ww_aload_n 305 X dX3_add_305 0 rfl rfl ?_
  obtain ⟨v306, e306, h⟩ := bO_some h
  refine ww_getR 306 X dX3_add_306 fG_X3_62 e306 ?_
  refine ww_iconst 309 X (v := (3 : Int32)) dX3_add_309 (by decide) ?_
  obtain ⟨v310, e310, h⟩ := bO_some h
  refine ww_aald6 310 X dX3_add_310 e310 ?_
  obtain ⟨_, f311, h⟩ := bO_some h
  obtain ⟨M311, e311, h⟩ := bO_some h
  refine ww_callVV0 311 X dX3_add_311 mY_X6_times mL_X3_123 (rcv_spec f311) ⟨_, _, rfl⟩ (by decide) (As := [.ref l2, .ref v304, .ref v310]) (rest := []) rfl rfl ⟨Nat.le_of_ble_eq_true rfl, Nat.le_of_ble_eq_true rfl⟩ (Nat.le_of_ble_eq_true rfl) (fun l D A => c_X6_times l D A e311) ?_
  refine ww_aload_n 314 X dX3_add_314 0 rfl rfl ?_
  obtain ⟨v315, e315, h⟩ := bO_some h
  refine ww_getR 315 X dX3_add_315 fG_X3_20 e315 ?_
  refine ww_aload_n 318 X dX3_add_318 0 rfl rfl ?_
  obtain ⟨v319, e319, h⟩ := bO_some h
  refine ww_getR 319 X dX3_add_319 fG_X3_62 e319 ?_
  refine ww_iconst 322 X (v := (2 : Int32)) dX3_add_322 (by decide) ?_
  obtain ⟨v323, e323, h⟩ := bO_some h
  refine ww_aald6 323 X dX3_add_323 e323 ?_
  refine ww_aload_n 324 X dX3_add_324 0 rfl rfl ?_
  obtain ⟨v325, e325, h⟩ := bO_some h
  refine ww_getR 325 X dX3_add_325 fG_X3_62 e325 ?_
  refine ww_iconst 328 X (v := (2 : Int32)) dX3_add_328 (by decide) ?_
  obtain ⟨v329, e329, h⟩ := bO_some h
  refine ww_aald6 329 X dX3_add_329 e329 ?_
  refine ww_aload_n 330 X dX3_add_330 1 rfl rfl ?_
  obtain ⟨_, f331, h⟩ := bO_some h
  obtain ⟨M331, e331, h⟩ := bO_some h
  refine ww_callVV0 331 X dX3_add_331 mY_X6_times mL_X3_123 (rcv_spec f331) ⟨_, _, rfl⟩ (by decide) (As := [.ref v323, .ref v329, .ref l2]) (rest := []) rfl rfl ⟨Nat.le_of_ble_eq_true rfl, Nat.le_of_ble_eq_true rfl⟩ (Nat.le_of_ble_eq_true rfl) (fun l D A => c_X6_times l D A e331) ?_
  refine ww_aload_n 334 X dX3_add_334 0 rfl rfl ?_
  obtain ⟨v335, e335, h⟩ := bO_some h
  refine ww_getR 335 X dX3_add_335 fG_X3_20 e335 ?_
  refine ww_aload_n 338 X dX3_add_338 1 rfl rfl ?_
  refine ww_aload_n 339 X dX3_add_339 0 rfl rfl ?_
  obtain ⟨v340, e340, h⟩ := bO_some h
  refine ww_getR 340 X dX3_add_340 fG_X3_62 e340 ?_
  refine ww_iconst 343 X (v := (4 : Int32)) dX3_add_343 (by decide) ?_
  obtain ⟨v344, e344, h⟩ := bO_some h
  refine ww_aald6 344 X dX3_add_344 e344 ?_
  refine ww_aload_n 345 X dX3_add_345 1 rfl rfl ?_
  obtain ⟨_, f346, h⟩ := bO_some h
  obtain ⟨M346, e346, h⟩ := bO_some h
  refine ww_callVV0 346 X dX3_add_346 mY_X6_minus mL_X3_127 (rcv_spec f346) ⟨_, _, rfl⟩ (by decide) (As := [.ref l2, .ref v344, .ref l2]) (rest := []) rfl rfl ⟨Nat.le_of_ble_eq_true rfl, Nat.le_of_ble_eq_true rfl⟩ (Nat.le_of_ble_eq_true rfl) (fun l D A => c_X6_minus l D A e346) ?_
  refine ww_aload_n 349 X dX3_add_349 0 rfl rfl ?_
  obtain ⟨v350, e350, h⟩ := bO_some h
  refine ww_getR 350 X dX3_add_350 fG_X3_20 e350 ?_
  refine ww_aload_n 353 X dX3_add_353 1 rfl rfl ?_
  refine ww_aload_n 354 X dX3_add_354 0 rfl rfl ?_
  obtain ⟨v355, e355, h⟩ := bO_some h
  refine ww_getR 355 X dX3_add_355 fG_X3_62 e355 ?_
  refine ww_iconst 358 X (v := (3 : Int32)) dX3_add_358 (by decide) ?_
  obtain ⟨v359, e359, h⟩ := bO_some h
  refine ww_aald6 359 X dX3_add_359 e359 ?_
  refine ww_aload_n 360 X dX3_add_360 1 rfl rfl ?_
  obtain ⟨_, f361, h⟩ := bO_some h
  obtain ⟨M361, e361, h⟩ := bO_some h
  refine ww_callVV0 361 X dX3_add_361 mY_X6_minus mL_X3_127 (rcv_spec f361) ⟨_, _, rfl⟩ (by decide) (As := [.ref l2, .ref v359, .ref l2]) (rest := []) rfl rfl ⟨Nat.le_of_ble_eq_true rfl, Nat.le_of_ble_eq_true rfl⟩ (Nat.le_of_ble_eq_true rfl) (fun l D A => c_X6_minus l D A e361) ?_
  refine ww_aload_n 364 X dX3_add_364 0 rfl rfl ?_
  obtain ⟨v365, e365, h⟩ := bO_some h
  refine ww_getR 365 X dX3_add_365 fG_X3_20 e365 ?_
  refine ww_aload_n 368 X dX3_add_368 1 rfl rfl ?_
  refine ww_aload_n 369 X dX3_add_369 0 rfl rfl ?_
  obtain ⟨v370, e370, h⟩ := bO_some h
  refine ww_getR 370 X dX3_add_370 fG_X3_62 e370 ?_
  refine ww_iconst 373 X (v := (3 : Int32)) dX3_add_373 (by decide) ?_
  obtain ⟨v374, e374, h⟩ := bO_some h
  refine ww_aald6 374 X dX3_add_374 e374 ?_
  refine ww_aload_n 375 X dX3_add_375 1 rfl rfl ?_
  obtain ⟨_, f376, h⟩ := bO_some h
  obtain ⟨M376, e376, h⟩ := bO_some h
  refine ww_callVV0 376 X dX3_add_376 mY_X6_minus mL_X3_127 (rcv_spec f376) ⟨_, _, rfl⟩ (by decide) (As := [.ref l2, .ref v374, .ref l2]) (rest := []) rfl rfl ⟨Nat.le_of_ble_eq_true rfl, Nat.le_of_ble_eq_true rfl⟩ (Nat.le_of_ble_eq_true rfl) (fun l D A => c_X6_minus l D A e376) ?_
  refine ww_aload_n 379 X dX3_add_379 0 rfl rfl ?_
  obtain ⟨v380, e380, h⟩ := bO_some h
  refine ww_getR 380 X dX3_add_380 fG_X3_20 e380 ?_
  refine ww_aload_n 383 X dX3_add_383 0 rfl rfl ?_
  obtain ⟨v384, e384, h⟩ := bO_some h
  refine ww_getR 384 X dX3_add_384 fG_X3_62 e384 ?_
  refine ww_iconst 387 X (v := (3 : Int32)) dX3_add_387 (by decide) ?_
  obtain ⟨v388, e388, h⟩ := bO_some h
  refine ww_aald6 388 X dX3_add_388 e388 ?_
  refine ww_aload_n 389 X dX3_add_389 1 rfl rfl ?_
  refine ww_aload_n 390 X dX3_add_390 0 rfl rfl ?_
  obtain ⟨v391, e391, h⟩ := bO_some h
  refine ww_getR 391 X dX3_add_391 fG_X3_62 e391 ?_
  refine ww_iconst 394 X (v := (3 : Int32)) dX3_add_394 (by decide) ?_
  obtain ⟨v395, e395, h⟩ := bO_some h
  refine ww_aald6 395 X dX3_add_395 e395 ?_
  obtain ⟨_, f396, h⟩ := bO_some h
  obtain ⟨M396, e396, h⟩ := bO_some h
  refine ww_callVV0 396 X dX3_add_396 mY_X6_minus mL_X3_127 (rcv_spec f396) ⟨_, _, rfl⟩ (by decide) (As := [.ref v388, .ref l2, .ref v395]) (rest := []) rfl rfl ⟨Nat.le_of_ble_eq_true rfl, Nat.le_of_ble_eq_true rfl⟩ (Nat.le_of_ble_eq_true rfl) (fun l D A => c_X6_minus l D A e396) ?_
  refine ww_aload_n 399 X dX3_add_399 0 rfl rfl ?_
  obtain ⟨v400, e400, h⟩ := bO_some h
  refine ww_getR 400 X dX3_add_400 fG_X3_20 e400 ?_
  refine ww_aload_n 403 X dX3_add_403 0 rfl rfl ?_
  obtain ⟨v404, e404, h⟩ := bO_some h
  refine ww_getR 404 X dX3_add_404 fG_X3_62 e404 ?_
  refine ww_iconst 407 X (v := (2 : Int32)) dX3_add_407 (by decide) ?_
  obtain ⟨v408, e408, h⟩ := bO_some h
  refine ww_aald6 408 X dX3_add_408 e408 ?_
  refine ww_aload_n 409 X dX3_add_409 0 rfl rfl ?_
  obtain ⟨v410, e410, h⟩ := bO_some h
  refine ww_getR 410 X dX3_add_410 fG_X3_62 e410 ?_
  refine ww_iconst 413 X (v := (3 : Int32)) dX3_add_413 (by decide) ?_
  obtain ⟨v414, e414, h⟩ := bO_some h
  refine ww_aald6 414 X dX3_add_414 e414 ?_
  refine ww_aload_n 415 X dX3_add_415 0 rfl rfl ?_
  obtain ⟨v416, e416, h⟩ := bO_some h
  refine ww_getR 416 X dX3_add_416 fG_X3_62 e416 ?_
  refine ww_iconst 419 X (v := (3 : Int32)) dX3_add_419 (by decide) ?_
  obtain ⟨v420, e420, h⟩ := bO_some h
  refine ww_aald6 420 X dX3_add_420 e420 ?_
  obtain ⟨_, f421, h⟩ := bO_some h
  obtain ⟨M421, e421, h⟩ := bO_some h
  refine ww_callVV0 421 X dX3_add_421 mY_X6_times mL_X3_123 (rcv_spec f421) ⟨_, _, rfl⟩ (by decide) (As := [.ref v408, .ref v414, .ref v420]) (rest := []) rfl rfl ⟨Nat.le_of_ble_eq_true rfl, Nat.le_of_ble_eq_true rfl⟩ (Nat.le_of_ble_eq_true rfl) (fun l D A => c_X6_times l D A e421) ?_
  refine ww_aload_n 424 X dX3_add_424 0 rfl rfl ?_
  obtain ⟨v425, e425, h⟩ := bO_some h
  refine ww_getR 425 X dX3_add_425 fG_X3_20 e425 ?_
  refine ww_aload_n 428 X dX3_add_428 2 rfl rfl ?_
  refine ww_aload_n 429 X dX3_add_429 0 rfl rfl ?_
  obtain ⟨v430, e430, h⟩ := bO_some h
  refine ww_getR 430 X dX3_add_430 fG_X3_62 e430 ?_
  refine ww_iconst 433 X (v := (4 : Int32)) dX3_add_433 (by decide) ?_
  obtain ⟨v434, e434, h⟩ := bO_some h
  refine ww_aald6 434 X dX3_add_434 e434 ?_
  refine ww_aload_n 435 X dX3_add_435 0 rfl rfl ?_
  obtain ⟨v436, e436, h⟩ := bO_some h
  refine ww_getR 436 X dX3_add_436 fG_X3_62 e436 ?_
  refine ww_iconst 439 X (v := (4 : Int32)) dX3_add_439 (by decide) ?_
  obtain ⟨v440, e440, h⟩ := bO_some h
  refine ww_aald6 440 X dX3_add_440 e440 ?_
  obtain ⟨_, f441, h⟩ := bO_some h
  obtain ⟨M441, e441, h⟩ := bO_some h
  refine ww_callVV0 441 X dX3_add_441 mY_X6_times mL_X3_123 (rcv_spec f441) ⟨_, _, rfl⟩ (by decide) (As := [.ref l3, .ref v434, .ref v440]) (rest := []) rfl rfl ⟨Nat.le_of_ble_eq_true rfl, Nat.le_of_ble_eq_true rfl⟩ (Nat.le_of_ble_eq_true rfl) (fun l D A => c_X6_times l D A e441) ?_
  refine ww_aload_n 444 X dX3_add_444 0 rfl rfl ?_
  obtain ⟨v445, e445, h⟩ := bO_some h
  refine ww_getR 445 X dX3_add_445 fG_X3_20 e445 ?_
  refine ww_aload_n 448 X dX3_add_448 0 rfl rfl ?_
  obtain ⟨v449, e449, h⟩ := bO_some h
  refine ww_getR 449 X dX3_add_449 fG_X3_62 e449 ?_
  refine ww_iconst 452 X (v := (3 : Int32)) dX3_add_452 (by decide) ?_
  obtain ⟨v453, e453, h⟩ := bO_some h
  refine ww_aald6 453 X dX3_add_453 e453 ?_
  refine ww_aload_n 454 X dX3_add_454 0 rfl rfl ?_
  obtain ⟨v455, e455, h⟩ := bO_some h
  refine ww_getR 455 X dX3_add_455 fG_X3_62 e455 ?_
  refine ww_iconst 458 X (v := (4 : Int32)) dX3_add_458 (by decide) ?_
  obtain ⟨v459, e459, h⟩ := bO_some h
  refine ww_aald6 459 X dX3_add_459 e459 ?_
  refine ww_aload_n 460 X dX3_add_460 2 rfl rfl ?_
  obtain ⟨_, f461, h⟩ := bO_some h
  obtain ⟨M461, e461, h⟩ := bO_some h
  refine ww_callVV0 461 X dX3_add_461 mY_X6_minus mL_X3_127 (rcv_spec f461) ⟨_, _, rfl⟩ (by decide) (As := [.ref v453, .ref v459, .ref l3]) (rest := []) rfl rfl ⟨Nat.le_of_ble_eq_true rfl, Nat.le_of_ble_eq_true rfl⟩ (Nat.le_of_ble_eq_true rfl) (fun l D A => c_X6_minus l D A e461) ?_
  refine ww_iconst 464 X (v := (1 : Int32)) dX3_add_464 (by decide) ?_
  exact ww_zretE 465 X hQ dX3_add_465 h
set_option maxHeartbeats 4000000 in
set_option maxRecDepth 100000 in
theorem wP_X3_add {G : mG} {F : Nat} {x : mXT} {sz : Nat} {r0 : Int32} {M0 : mM} (X : mCX G RX3 cX3_add 5 (some .boolean) "add" rmX3_add x) (hQ : mQI x r0 M0 (sz, 0, 0)) {l0 : Nat} {l1 : Nat} {M : mM} (h : P_X3_add G F l0 l1 M = some (r0, M0)) : WW x (sz, 0, 0) M 0 [(0, .ref l0), (1, .ref l1)] [] := by
  unfold P_X3_add at h
  refine ww_aload_n 0 X dX3_add_0 0 rfl rfl ?_
  obtain ⟨v1, e1, h⟩ := bO_some h
  refine ww_getR 1 X dX3_add_1 fG_X3_59 e1 ?_
  refine ww_iconst 4 X (v := (0 : Int32)) dX3_add_4 (by decide) ?_
  obtain ⟨v5, e5, h⟩ := bO_some h
  refine ww_aald6 5 X dX3_add_5 e5 ?_
  refine ww_astore_n 6 X dX3_add_6 (lv' := [(0, .ref l0), (1, .ref l1), (2, .ref v5)]) rfl (by decide) [1, 2, 0] rfl ?_
  refine ww_aload_n 7 X dX3_add_7 0 rfl rfl ?_
  obtain ⟨v8, e8, h⟩ := bO_some h
  refine ww_getR 8 X dX3_add_8 fG_X3_59 e8 ?_
  refine ww_iconst 11 X (v := (1 : Int32)) dX3_add_11 (by decide) ?_
  obtain ⟨v12, e12, h⟩ := bO_some h
  refine ww_aald6 12 X dX3_add_12 e12 ?_
  refine ww_astore_n 13 X dX3_add_13 (lv' := [(0, .ref l0), (1, .ref l1), (2, .ref v5), (3, .ref v12)]) rfl (by decide) [1, 2, 3, 0] rfl ?_
  refine ww_aload_n 14 X dX3_add_14 0 rfl rfl ?_
  obtain ⟨v15, e15, h⟩ := bO_some h
  refine ww_getR 15 X dX3_add_15 fG_X3_59 e15 ?_
  refine ww_iconst 18 X (v := (2 : Int32)) dX3_add_18 (by decide) ?_
  obtain ⟨v19, e19, h⟩ := bO_some h
  refine ww_aald6 19 X dX3_add_19 e19 ?_
  refine ww_astore 20 X dX3_add_20 (lv' := [(0, .ref l0), (1, .ref l1), (2, .ref v5), (3, .ref v12), (4, .ref v19)]) (by decide) [1, 2, 3, 4, 0] rfl ?_
  refine ww_aload_n 22 X dX3_add_22 0 rfl rfl ?_
  obtain ⟨v23, e23, h⟩ := bO_some h
  refine ww_getR 23 X dX3_add_23 fG_X3_20 e23 ?_
  refine ww_aload 26 X dX3_add_26 4 rfl ?_
  obtain ⟨_, f28, h⟩ := bO_some h
  obtain ⟨v28, M28, e28, h⟩ := bP_some h
  refine ww_callVI0 28 X dX3_add_28 mY_X6_isZero mL_X3_162 (rcv_spec f28) ⟨_, _, rfl⟩ (by decide) (As := [.ref v19]) (rest := []) rfl rfl ⟨Nat.le_of_ble_eq_true rfl, Nat.le_of_ble_eq_true rfl⟩ (Nat.le_of_ble_eq_true rfl) (fun l D A => c_X6_isZero l D A e28) ?_
  refine ww_if_eq 31 71 X dX3_add_31 (by decide) (fun q => ?_) (fun q => ?_)
  · replace h := (if_pos q).symm.trans h
    refine ww_aload_n 71 X dX3_add_71 0 rfl rfl ?_
    obtain ⟨v72, e72, h⟩ := bO_some h
    refine ww_getR 72 X dX3_add_72 fG_X3_20 e72 ?_
    refine ww_aload 75 X dX3_add_75 4 rfl ?_
    refine ww_aload 77 X dX3_add_77 4 rfl ?_
    refine ww_aload_n 79 X dX3_add_79 0 rfl rfl ?_
    obtain ⟨v80, e80, h⟩ := bO_some h
    refine ww_getR 80 X dX3_add_80 fG_X3_62 e80 ?_
    refine ww_iconst 83 X (v := (0 : Int32)) dX3_add_83 (by decide) ?_
    obtain ⟨v84, e84, h⟩ := bO_some h
    refine ww_aald6 84 X dX3_add_84 e84 ?_
    obtain ⟨_, f85, h⟩ := bO_some h
    obtain ⟨M85, e85, h⟩ := bO_some h
    refine ww_callVV0 85 X dX3_add_85 mY_X6_times mL_X3_123 (rcv_spec f85) ⟨_, _, rfl⟩ (by decide) (As := [.ref v19, .ref v19, .ref v84]) (rest := []) rfl rfl ⟨Nat.le_of_ble_eq_true rfl, Nat.le_of_ble_eq_true rfl⟩ (Nat.le_of_ble_eq_true rfl) (fun l D A => c_X6_times l D A e85) ?_
    refine ww_aload_n 88 X dX3_add_88 0 rfl rfl ?_
    obtain ⟨v89, e89, h⟩ := bO_some h
    refine ww_getR 89 X dX3_add_89 fG_X3_20 e89 ?_
    refine ww_aload_n 92 X dX3_add_92 1 rfl rfl ?_
    refine ww_iconst 93 X (v := (0 : Int32)) dX3_add_93 (by decide) ?_
    obtain ⟨v94, e94, h⟩ := bO_some h
    refine ww_aald6 94 X dX3_add_94 e94 ?_
    refine ww_aload_n 95 X dX3_add_95 0 rfl rfl ?_
    obtain ⟨v96, e96, h⟩ := bO_some h
    refine ww_getR 96 X dX3_add_96 fG_X3_62 e96 ?_
    refine ww_iconst 99 X (v := (0 : Int32)) dX3_add_99 (by decide) ?_
    obtain ⟨v100, e100, h⟩ := bO_some h
    refine ww_aald6 100 X dX3_add_100 e100 ?_
    refine ww_aload_n 101 X dX3_add_101 0 rfl rfl ?_
    obtain ⟨v102, e102, h⟩ := bO_some h
    refine ww_getR 102 X dX3_add_102 fG_X3_62 e102 ?_
    refine ww_iconst 105 X (v := (1 : Int32)) dX3_add_105 (by decide) ?_
    obtain ⟨v106, e106, h⟩ := bO_some h
    refine ww_aald6 106 X dX3_add_106 e106 ?_
    obtain ⟨_, f107, h⟩ := bO_some h
    obtain ⟨M107, e107, h⟩ := bO_some h
    refine ww_callVV0 107 X dX3_add_107 mY_X6_times mL_X3_123 (rcv_spec f107) ⟨_, _, rfl⟩ (by decide) (As := [.ref v94, .ref v100, .ref v106]) (rest := []) rfl rfl ⟨Nat.le_of_ble_eq_true rfl, Nat.le_of_ble_eq_true rfl⟩ (Nat.le_of_ble_eq_true rfl) (fun l D A => c_X6_times l D A e107) ?_
    refine ww_aload_n 110 X dX3_add_110 0 rfl rfl ?_
    obtain ⟨v111, e111, h⟩ := bO_some h
    refine ww_getR 111 X dX3_add_111 fG_X3_20 e111 ?_
    refine ww_aload_n 114 X dX3_add_114 0 rfl rfl ?_
    obtain ⟨v115, e115, h⟩ := bO_some h
    refine ww_getR 115 X dX3_add_115 fG_X3_62 e115 ?_
    refine ww_iconst 118 X (v := (1 : Int32)) dX3_add_118 (by decide) ?_
    obtain ⟨v119, e119, h⟩ := bO_some h
    refine ww_aald6 119 X dX3_add_119 e119 ?_
    refine ww_aload_n 120 X dX3_add_120 2 rfl rfl ?_
    refine ww_aload_n 121 X dX3_add_121 0 rfl rfl ?_
    obtain ⟨v122, e122, h⟩ := bO_some h
    refine ww_getR 122 X dX3_add_122 fG_X3_62 e122 ?_
    refine ww_iconst 125 X (v := (1 : Int32)) dX3_add_125 (by decide) ?_
    obtain ⟨v126, e126, h⟩ := bO_some h
    refine ww_aald6 126 X dX3_add_126 e126 ?_
    obtain ⟨_, f127, h⟩ := bO_some h
    obtain ⟨M127, e127, h⟩ := bO_some h
    refine ww_callVV0 127 X dX3_add_127 mY_X6_minus mL_X3_127 (rcv_spec f127) ⟨_, _, rfl⟩ (by decide) (As := [.ref v119, .ref v5, .ref v126]) (rest := []) rfl rfl ⟨Nat.le_of_ble_eq_true rfl, Nat.le_of_ble_eq_true rfl⟩ (Nat.le_of_ble_eq_true rfl) (fun l D A => c_X6_minus l D A e127) ?_
    refine ww_aload_n 130 X dX3_add_130 0 rfl rfl ?_
    obtain ⟨v131, e131, h⟩ := bO_some h
    refine ww_getR 131 X dX3_add_131 fG_X3_20 e131 ?_
    refine ww_aload_n 134 X dX3_add_134 0 rfl rfl ?_
    obtain ⟨v135, e135, h⟩ := bO_some h
    refine ww_getR 135 X dX3_add_135 fG_X3_62 e135 ?_
    refine ww_iconst 138 X (v := (0 : Int32)) dX3_add_138 (by decide) ?_
    obtain ⟨v139, e139, h⟩ := bO_some h
    refine ww_aald6 139 X dX3_add_139 e139 ?_
    refine ww_aload 140 X dX3_add_140 4 rfl ?_
    refine ww_aload_n 142 X dX3_add_142 0 rfl rfl ?_
    obtain ⟨v143, e143, h⟩ := bO_some h
    refine ww_getR 143 X dX3_add_143 fG_X3_62 e143 ?_
    refine ww_iconst 146 X (v := (0 : Int32)) dX3_add_146 (by decide) ?_
    obtain ⟨v147, e147, h⟩ := bO_some h
    refine ww_aald6 147 X dX3_add_147 e147 ?_
    obtain ⟨_, f148, h⟩ := bO_some h
    obtain ⟨M148, e148, h⟩ := bO_some h
    refine ww_callVV0 148 X dX3_add_148 mY_X6_times mL_X3_123 (rcv_spec f148) ⟨_, _, rfl⟩ (by decide) (As := [.ref v139, .ref v19, .ref v147]) (rest := []) rfl rfl ⟨Nat.le_of_ble_eq_true rfl, Nat.le_of_ble_eq_true rfl⟩ (Nat.le_of_ble_eq_true rfl) (fun l D A => c_X6_times l D A e148) ?_
    refine ww_aload_n 151 X dX3_add_151 0 rfl rfl ?_
    obtain ⟨v152, e152, h⟩ := bO_some h
    refine ww_getR 152 X dX3_add_152 fG_X3_20 e152 ?_
    refine ww_aload_n 155 X dX3_add_155 1 rfl rfl ?_
    refine ww_iconst 156 X (v := (1 : Int32)) dX3_add_156 (by decide) ?_
    obtain ⟨v157, e157, h⟩ := bO_some h
    refine ww_aald6 157 X dX3_add_157 e157 ?_
    refine ww_aload_n 158 X dX3_add_158 0 rfl rfl ?_
    obtain ⟨v159, e159, h⟩ := bO_some h
    refine ww_getR 159 X dX3_add_159 fG_X3_62 e159 ?_
    refine ww_iconst 162 X (v := (0 : Int32)) dX3_add_162 (by decide) ?_
    obtain ⟨v163, e163, h⟩ := bO_some h
    refine ww_aald6 163 X dX3_add_163 e163 ?_
    refine ww_aload_n 164 X dX3_add_164 0 rfl rfl ?_
    obtain ⟨v165, e165, h⟩ := bO_some h
    refine ww_getR 165 X dX3_add_165 fG_X3_62 e165 ?_
    refine ww_iconst 168 X (v := (2 : Int32)) dX3_add_168 (by decide) ?_
    obtain ⟨v169, e169, h⟩ := bO_some h
    refine ww_aald6 169 X dX3_add_169 e169 ?_
    obtain ⟨_, f170, h⟩ := bO_some h
    obtain ⟨M170, e170, h⟩ := bO_some h
    refine ww_callVV0 170 X dX3_add_170 mY_X6_times mL_X3_123 (rcv_spec f170) ⟨_, _, rfl⟩ (by decide) (As := [.ref v157, .ref v163, .ref v169]) (rest := []) rfl rfl ⟨Nat.le_of_ble_eq_true rfl, Nat.le_of_ble_eq_true rfl⟩ (Nat.le_of_ble_eq_true rfl) (fun l D A => c_X6_times l D A e170) ?_
    refine ww_aload_n 173 X dX3_add_173 0 rfl rfl ?_
    obtain ⟨v174, e174, h⟩ := bO_some h
    refine ww_getR 174 X dX3_add_174 fG_X3_20 e174 ?_
    refine ww_aload_n 177 X dX3_add_177 0 rfl rfl ?_
    obtain ⟨v178, e178, h⟩ := bO_some h
    refine ww_getR 178 X dX3_add_178 fG_X3_62 e178 ?_
    refine ww_iconst 181 X (v := (2 : Int32)) dX3_add_181 (by decide) ?_
    obtain ⟨v182, e182, h⟩ := bO_some h
    refine ww_aald6 182 X dX3_add_182 e182 ?_
    refine ww_aload_n 183 X dX3_add_183 3 rfl rfl ?_
    refine ww_aload_n 184 X dX3_add_184 0 rfl rfl ?_
    obtain ⟨v185, e185, h⟩ := bO_some h
    refine ww_getR 185 X dX3_add_185 fG_X3_62 e185 ?_
    refine ww_iconst 188 X (v := (2 : Int32)) dX3_add_188 (by decide) ?_
    obtain ⟨v189, e189, h⟩ := bO_some h
    refine ww_aald6 189 X dX3_add_189 e189 ?_
    obtain ⟨_, f190, h⟩ := bO_some h
    obtain ⟨M190, e190, h⟩ := bO_some h
    refine ww_callVV0 190 X dX3_add_190 mY_X6_minus mL_X3_127 (rcv_spec f190) ⟨_, _, rfl⟩ (by decide) (As := [.ref v182, .ref v12, .ref v189]) (rest := []) rfl rfl ⟨Nat.le_of_ble_eq_true rfl, Nat.le_of_ble_eq_true rfl⟩ (Nat.le_of_ble_eq_true rfl) (fun l D A => c_X6_minus l D A e190) ?_
    refine ww_aload_n 193 X dX3_add_193 0 rfl rfl ?_
    obtain ⟨v194, e194, h⟩ := bO_some h
    refine ww_getR 194 X dX3_add_194 fG_X3_20 e194 ?_
    refine ww_aload_n 197 X dX3_add_197 0 rfl rfl ?_
    obtain ⟨v198, e198, h⟩ := bO_some h
    refine ww_getR 198 X dX3_add_198 fG_X3_62 e198 ?_
    refine ww_iconst 201 X (v := (1 : Int32)) dX3_add_201 (by decide) ?_
    obtain ⟨v202, e202, h⟩ := bO_some h
    refine ww_aald6 202 X dX3_add_202 e202 ?_
    obtain ⟨_, f203, h⟩ := bO_some h
    obtain ⟨v203, M203, e203, h⟩ := bP_some h
    refine ww_callVI0 203 X dX3_add_203 mY_X6_isZero mL_X3_162 (rcv_spec f203) ⟨_, _, rfl⟩ (by decide) (As := [.ref v202]) (rest := []) rfl rfl ⟨Nat.le_of_ble_eq_true rfl, Nat.le_of_ble_eq_true rfl⟩ (Nat.le_of_ble_eq_true rfl) (fun l D A => c_X6_isZero l D A e203) ?_
    refine ww_if_eq 206 227 X dX3_add_206 (by decide) (fun q => ?_) (fun q => ?_)
    · replace h := (if_pos q).symm.trans h
      exact ww_sub [0, 2, 3, 4] rfl (wB_X3_add_227 X hQ h)
    · replace h := (if_neg q).symm.trans h
      refine ww_aload_n 209 X dX3_add_209 0 rfl rfl ?_
      obtain ⟨v210, e210, h⟩ := bO_some h
      refine ww_getR 210 X dX3_add_210 fG_X3_20 e210 ?_
      refine ww_aload_n 213 X dX3_add_213 0 rfl rfl ?_
      obtain ⟨v214, e214, h⟩ := bO_some h
      refine ww_getR 214 X dX3_add_214 fG_X3_62 e214 ?_
      refine ww_iconst 217 X (v := (2 : Int32)) dX3_add_217 (by decide) ?_
      obtain ⟨v218, e218, h⟩ := bO_some h
      refine ww_aald6 218 X dX3_add_218 e218 ?_
      obtain ⟨_, f219, h⟩ := bO_some h
      obtain ⟨v219, M219, e219, h⟩ := bP_some h
      refine ww_callVI0 219 X dX3_add_219 mY_X6_isZero mL_X3_162 (rcv_spec f219) ⟨_, _, rfl⟩ (by decide) (As := [.ref v218]) (rest := []) rfl rfl ⟨Nat.le_of_ble_eq_true rfl, Nat.le_of_ble_eq_true rfl⟩ (Nat.le_of_ble_eq_true rfl) (fun l D A => c_X6_isZero l D A e219) ?_
      refine ww_if_eq 222 227 X dX3_add_222 (by decide) (fun q => ?_) (fun q => ?_)
      · replace h := (if_pos q).symm.trans h
        exact ww_sub [0, 2, 3, 4] rfl (wB_X3_add_227 X hQ h)
      · replace h := (if_neg q).symm.trans h
        refine ww_iconst 225 X (v := (0 : Int32)) dX3_add_225 (by decide) ?_
        exact ww_zretE 226 X hQ dX3_add_226 h
  · replace h := (if_neg q).symm.trans h
    refine ww_aload_n 34 X dX3_add_34 1 rfl rfl ?_
    refine ww_iconst 35 X (v := (0 : Int32)) dX3_add_35 (by decide) ?_
    obtain ⟨v36, e36, h⟩ := bO_some h
    refine ww_aald6 36 X dX3_add_36 e36 ?_
    refine ww_iconst 37 X (v := (0 : Int32)) dX3_add_37 (by decide) ?_
    refine ww_aload_n 38 X dX3_add_38 2 rfl rfl ?_
    refine ww_iconst 39 X (v := (0 : Int32)) dX3_add_39 (by decide) ?_
    refine ww_bipush 40 X (v := (8 : Int32)) dX3_add_40 (by decide) ?_
    obtain ⟨M42, e42, h⟩ := bO_some h
    refine ww_cpL 42 X (st := []) dX3_add_42 mL_X3_166 (Nat.le_of_ble_eq_true rfl) (Nat.le_of_ble_eq_true rfl) (Nat.le_of_ble_eq_true rfl) e42 ?_
    refine ww_aload_n 45 X dX3_add_45 1 rfl rfl ?_
    refine ww_iconst 46 X (v := (1 : Int32)) dX3_add_46 (by decide) ?_
    obtain ⟨v47, e47, h⟩ := bO_some h
    refine ww_aald6 47 X dX3_add_47 e47 ?_
    refine ww_iconst 48 X (v := (0 : Int32)) dX3_add_48 (by decide) ?_
    refine ww_aload_n 49 X dX3_add_49 3 rfl rfl ?_
    refine ww_iconst 50 X (v := (0 : Int32)) dX3_add_50 (by decide) ?_
    refine ww_bipush 51 X (v := (8 : Int32)) dX3_add_51 (by decide) ?_
    obtain ⟨M53, e53, h⟩ := bO_some h
    refine ww_cpL 53 X (st := []) dX3_add_53 mL_X3_166 (Nat.le_of_ble_eq_true rfl) (Nat.le_of_ble_eq_true rfl) (Nat.le_of_ble_eq_true rfl) e53 ?_
    refine ww_aload_n 56 X dX3_add_56 0 rfl rfl ?_
    obtain ⟨v57, e57, h⟩ := bO_some h
    refine ww_getR 57 X dX3_add_57 fG_X3_56 e57 ?_
    refine ww_iconst 60 X (v := (0 : Int32)) dX3_add_60 (by decide) ?_
    refine ww_aload 61 X dX3_add_61 4 rfl ?_
    refine ww_iconst 63 X (v := (0 : Int32)) dX3_add_63 (by decide) ?_
    refine ww_bipush 64 X (v := (8 : Int32)) dX3_add_64 (by decide) ?_
    obtain ⟨M66, e66, h⟩ := bO_some h
    refine ww_cpL 66 X (st := []) dX3_add_66 mL_X3_166 (Nat.le_of_ble_eq_true rfl) (Nat.le_of_ble_eq_true rfl) (Nat.le_of_ble_eq_true rfl) e66 ?_
    refine ww_iconst 69 X (v := (1 : Int32)) dX3_add_69 (by decide) ?_
    exact ww_zretE 70 X hQ dX3_add_70 h
theorem c_X3_add {G : mG} {F sz : Nat} {r0 : Int32} {M0 : mM} (l : Launch) (D : mD) (A : Nat → Prop) {l0 : Nat} {l1 : Nat} {M : mM} (h : P_X3_add G F l0 l1 M = some (r0, M0)) : mMetI l D G A yX3_add cX3_add 5 (some .boolean) 3 115 0 0 [.ref l0, .ref l1] M sz r0 M0 sz := mMetI_of l D G A (by decide) (Nat.le_of_ble_eq_true rfl) (fun x X hQ => wP_X3_add X hQ h)
