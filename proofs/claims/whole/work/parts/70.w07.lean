/-! SealedTokens$Token.<init>()V -/
theorem dX10_init_0 : decode cX10_init 0 = .ok (.aload_n 0, 1) := by decide +kernel
theorem dX10_init_1 : decode cX10_init 1 = .ok (.invokespecial 3, 3) := by decide +kernel
theorem dX10_init_4 : decode cX10_init 4 = .ok (.aload_n 0, 1) := by decide +kernel
theorem dX10_init_5 : decode cX10_init 5 = .ok (.new 9, 3) := by decide +kernel
theorem dX10_init_8 : decode cX10_init 8 = .ok (.dup, 1) := by decide +kernel
theorem dX10_init_9 : decode cX10_init 9 = .ok (.sipush 8192, 3) := by decide +kernel
theorem dX10_init_12 : decode cX10_init 12 = .ok (.invokespecial 11, 3) := by decide +kernel
theorem dX10_init_15 : decode cX10_init 15 = .ok (.putfield 14, 3) := by decide +kernel
theorem dX10_init_18 : decode cX10_init 18 = .ok (.aload_n 0, 1) := by decide +kernel
theorem dX10_init_19 : decode cX10_init 19 = .ok (.new 9, 3) := by decide +kernel
theorem dX10_init_22 : decode cX10_init 22 = .ok (.dup, 1) := by decide +kernel
theorem dX10_init_23 : decode cX10_init 23 = .ok (.sipush 4608, 3) := by decide +kernel
theorem dX10_init_26 : decode cX10_init 26 = .ok (.invokespecial 11, 3) := by decide +kernel
theorem dX10_init_29 : decode cX10_init 29 = .ok (.putfield 20, 3) := by decide +kernel
theorem dX10_init_32 : decode cX10_init 32 = .ok (.aload_n 0, 1) := by decide +kernel
theorem dX10_init_33 : decode cX10_init 33 = .ok (.new 9, 3) := by decide +kernel
theorem dX10_init_36 : decode cX10_init 36 = .ok (.dup, 1) := by decide +kernel
theorem dX10_init_37 : decode cX10_init 37 = .ok (.sipush 4608, 3) := by decide +kernel
theorem dX10_init_40 : decode cX10_init 40 = .ok (.invokespecial 11, 3) := by decide +kernel
theorem dX10_init_43 : decode cX10_init 43 = .ok (.putfield 23, 3) := by decide +kernel
theorem dX10_init_46 : decode cX10_init 46 = .ok (.aload_n 0, 1) := by decide +kernel
theorem dX10_init_47 : decode cX10_init 47 = .ok (.new 9, 3) := by decide +kernel
theorem dX10_init_50 : decode cX10_init 50 = .ok (.dup, 1) := by decide +kernel
theorem dX10_init_51 : decode cX10_init 51 = .ok (.bipush 64, 2) := by decide +kernel
theorem dX10_init_53 : decode cX10_init 53 = .ok (.invokespecial 11, 3) := by decide +kernel
theorem dX10_init_56 : decode cX10_init 56 = .ok (.putfield 28, 3) := by decide +kernel
theorem dX10_init_59 : decode cX10_init 59 = .ok (.aload_n 0, 1) := by decide +kernel
theorem dX10_init_60 : decode cX10_init 60 = .ok (.new 9, 3) := by decide +kernel
theorem dX10_init_63 : decode cX10_init 63 = .ok (.dup, 1) := by decide +kernel
theorem dX10_init_64 : decode cX10_init 64 = .ok (.bipush 32, 2) := by decide +kernel
theorem dX10_init_66 : decode cX10_init 66 = .ok (.invokespecial 11, 3) := by decide +kernel
theorem dX10_init_69 : decode cX10_init 69 = .ok (.putfield 31, 3) := by decide +kernel
theorem dX10_init_72 : decode cX10_init 72 = .ok (.aload_n 0, 1) := by decide +kernel
theorem dX10_init_73 : decode cX10_init 73 = .ok (.new 9, 3) := by decide +kernel
theorem dX10_init_76 : decode cX10_init 76 = .ok (.dup, 1) := by decide +kernel
theorem dX10_init_77 : decode cX10_init 77 = .ok (.bipush 32, 2) := by decide +kernel
theorem dX10_init_79 : decode cX10_init 79 = .ok (.invokespecial 11, 3) := by decide +kernel
theorem dX10_init_82 : decode cX10_init 82 = .ok (.putfield 36, 3) := by decide +kernel
theorem dX10_init_85 : decode cX10_init 85 = .ok (.aload_n 0, 1) := by decide +kernel
theorem dX10_init_86 : decode cX10_init 86 = .ok (.new 9, 3) := by decide +kernel
theorem dX10_init_89 : decode cX10_init 89 = .ok (.dup, 1) := by decide +kernel
theorem dX10_init_90 : decode cX10_init 90 = .ok (.bipush 64, 2) := by decide +kernel
theorem dX10_init_92 : decode cX10_init 92 = .ok (.invokespecial 11, 3) := by decide +kernel
theorem dX10_init_95 : decode cX10_init 95 = .ok (.putfield 39, 3) := by decide +kernel
theorem dX10_init_98 : decode cX10_init 98 = .ok (.aload_n 0, 1) := by decide +kernel
theorem dX10_init_99 : decode cX10_init 99 = .ok (.new 9, 3) := by decide +kernel
theorem dX10_init_102 : decode cX10_init 102 = .ok (.dup, 1) := by decide +kernel
theorem dX10_init_103 : decode cX10_init 103 = .ok (.sipush 128, 3) := by decide +kernel
theorem dX10_init_106 : decode cX10_init 106 = .ok (.invokespecial 11, 3) := by decide +kernel
theorem dX10_init_109 : decode cX10_init 109 = .ok (.putfield 44, 3) := by decide +kernel
theorem dX10_init_112 : decode cX10_init 112 = .ok (.aload_n 0, 1) := by decide +kernel
theorem dX10_init_113 : decode cX10_init 113 = .ok (.new 9, 3) := by decide +kernel
theorem dX10_init_116 : decode cX10_init 116 = .ok (.dup, 1) := by decide +kernel
theorem dX10_init_117 : decode cX10_init 117 = .ok (.bipush 16, 2) := by decide +kernel
theorem dX10_init_119 : decode cX10_init 119 = .ok (.invokespecial 11, 3) := by decide +kernel
theorem dX10_init_122 : decode cX10_init 122 = .ok (.putfield 47, 3) := by decide +kernel
theorem dX10_init_125 : decode cX10_init 125 = .ok (.aload_n 0, 1) := by decide +kernel
theorem dX10_init_126 : decode cX10_init 126 = .ok (.new 9, 3) := by decide +kernel
theorem dX10_init_129 : decode cX10_init 129 = .ok (.dup, 1) := by decide +kernel
theorem dX10_init_130 : decode cX10_init 130 = .ok (.bipush 64, 2) := by decide +kernel
theorem dX10_init_132 : decode cX10_init 132 = .ok (.invokespecial 11, 3) := by decide +kernel
theorem dX10_init_135 : decode cX10_init 135 = .ok (.putfield 50, 3) := by decide +kernel
theorem dX10_init_138 : decode cX10_init 138 = .ok (.aload_n 0, 1) := by decide +kernel
theorem dX10_init_139 : decode cX10_init 139 = .ok (.new 9, 3) := by decide +kernel
theorem dX10_init_142 : decode cX10_init 142 = .ok (.dup, 1) := by decide +kernel
theorem dX10_init_143 : decode cX10_init 143 = .ok (.bipush 16, 2) := by decide +kernel
theorem dX10_init_145 : decode cX10_init 145 = .ok (.invokespecial 11, 3) := by decide +kernel
theorem dX10_init_148 : decode cX10_init 148 = .ok (.putfield 53, 3) := by decide +kernel
theorem dX10_init_151 : decode cX10_init 151 = .ok (.aload_n 0, 1) := by decide +kernel
theorem dX10_init_152 : decode cX10_init 152 = .ok (.bipush 6, 2) := by decide +kernel
theorem dX10_init_154 : decode cX10_init 154 = .ok (.newarray .int, 2) := by decide +kernel
theorem dX10_init_156 : decode cX10_init 156 = .ok (.putfield 56, 3) := by decide +kernel
theorem dX10_init_159 : decode cX10_init 159 = .ok (.return_, 1) := by decide +kernel
theorem mP_X10_init {G : mG} {F : Nat} {M0 : mM} {Z0 S0 : Nat} {l0 : Nat} {M : mM} {sz : Nat} {sl : Nat} (h : P_X10_init G F l0 M sz sl = some (M0, Z0, S0)) : sz ≤ Z0 ∧ sl ≤ S0 := by
  unfold P_X10_init at h
  obtain ⟨M5, ⟨⟩, h⟩ := bO_some h
  obtain ⟨M12, z12, k12, e12, h⟩ := bA_some h
  have g12 := mP_X0_init e12
  obtain ⟨M15, e15, h⟩ := bO_some h
  obtain ⟨M19, ⟨⟩, h⟩ := bO_some h
  obtain ⟨M26, z26, k26, e26, h⟩ := bA_some h
  have g26 := mP_X0_init e26
  obtain ⟨M29, e29, h⟩ := bO_some h
  obtain ⟨M33, ⟨⟩, h⟩ := bO_some h
  obtain ⟨M40, z40, k40, e40, h⟩ := bA_some h
  have g40 := mP_X0_init e40
  obtain ⟨M43, e43, h⟩ := bO_some h
  obtain ⟨M47, ⟨⟩, h⟩ := bO_some h
  obtain ⟨M53, z53, k53, e53, h⟩ := bA_some h
  have g53 := mP_X0_init e53
  obtain ⟨M56, e56, h⟩ := bO_some h
  obtain ⟨M60, ⟨⟩, h⟩ := bO_some h
  obtain ⟨M66, z66, k66, e66, h⟩ := bA_some h
  have g66 := mP_X0_init e66
  obtain ⟨M69, e69, h⟩ := bO_some h
  obtain ⟨M73, ⟨⟩, h⟩ := bO_some h
  obtain ⟨M79, z79, k79, e79, h⟩ := bA_some h
  have g79 := mP_X0_init e79
  obtain ⟨M82, e82, h⟩ := bO_some h
  obtain ⟨M86, ⟨⟩, h⟩ := bO_some h
  obtain ⟨M92, z92, k92, e92, h⟩ := bA_some h
  have g92 := mP_X0_init e92
  obtain ⟨M95, e95, h⟩ := bO_some h
  obtain ⟨M99, ⟨⟩, h⟩ := bO_some h
  obtain ⟨M106, z106, k106, e106, h⟩ := bA_some h
  have g106 := mP_X0_init e106
  obtain ⟨M109, e109, h⟩ := bO_some h
  obtain ⟨M113, ⟨⟩, h⟩ := bO_some h
  obtain ⟨M119, z119, k119, e119, h⟩ := bA_some h
  have g119 := mP_X0_init e119
  obtain ⟨M122, e122, h⟩ := bO_some h
  obtain ⟨M126, ⟨⟩, h⟩ := bO_some h
  obtain ⟨M132, z132, k132, e132, h⟩ := bA_some h
  have g132 := mP_X0_init e132
  obtain ⟨M135, e135, h⟩ := bO_some h
  obtain ⟨M139, ⟨⟩, h⟩ := bO_some h
  obtain ⟨M145, z145, k145, e145, h⟩ := bA_some h
  have g145 := mP_X0_init e145
  obtain ⟨M148, e148, h⟩ := bO_some h
  obtain ⟨M154, e154, h⟩ := bO_some h
  obtain ⟨M156, e156, h⟩ := bO_some h
  have q := retA_v h
  omega
set_option maxHeartbeats 4000000 in
set_option maxRecDepth 100000 in
theorem wP_X10_init {G : mG} {F : Nat} {x : mXT} {z0 s0 : Nat} {M0 : mM} {Z0 S0 : Nat} (X : mCX G RX10 cX10_init 1 none "<init>" { frames := 2, cells := Z0 - z0, slots := S0 - s0, locals := 42 } x) (hQ : mQV x M0 (Z0, Z0 - z0, S0 - s0)) {l0 : Nat} {M : mM} {sz : Nat} {sl : Nat} (hz0 : z0 ≤ sz) (hs0 : s0 ≤ sl) (h : P_X10_init G F l0 M sz sl = some (M0, Z0, S0)) : WW x (sz, sz - z0, sl - s0) M 0 [(0, .ref l0)] [] := by
  unfold P_X10_init at h
  obtain ⟨M5, ⟨⟩, h⟩ := bO_some h
  obtain ⟨M12, z12, k12, e12, h⟩ := bA_some h
  have g12 := mP_X0_init e12
  obtain ⟨M15, e15, h⟩ := bO_some h
  obtain ⟨M19, ⟨⟩, h⟩ := bO_some h
  obtain ⟨M26, z26, k26, e26, h⟩ := bA_some h
  have g26 := mP_X0_init e26
  obtain ⟨M29, e29, h⟩ := bO_some h
  obtain ⟨M33, ⟨⟩, h⟩ := bO_some h
  obtain ⟨M40, z40, k40, e40, h⟩ := bA_some h
  have g40 := mP_X0_init e40
  obtain ⟨M43, e43, h⟩ := bO_some h
  obtain ⟨M47, ⟨⟩, h⟩ := bO_some h
  obtain ⟨M53, z53, k53, e53, h⟩ := bA_some h
  have g53 := mP_X0_init e53
  obtain ⟨M56, e56, h⟩ := bO_some h
  obtain ⟨M60, ⟨⟩, h⟩ := bO_some h
  obtain ⟨M66, z66, k66, e66, h⟩ := bA_some h
  have g66 := mP_X0_init e66
  obtain ⟨M69, e69, h⟩ := bO_some h
  obtain ⟨M73, ⟨⟩, h⟩ := bO_some h
  obtain ⟨M79, z79, k79, e79, h⟩ := bA_some h
  have g79 := mP_X0_init e79
  obtain ⟨M82, e82, h⟩ := bO_some h
  obtain ⟨M86, ⟨⟩, h⟩ := bO_some h
  obtain ⟨M92, z92, k92, e92, h⟩ := bA_some h
  have g92 := mP_X0_init e92
  obtain ⟨M95, e95, h⟩ := bO_some h
  obtain ⟨M99, ⟨⟩, h⟩ := bO_some h
  obtain ⟨M106, z106, k106, e106, h⟩ := bA_some h
  have g106 := mP_X0_init e106
  obtain ⟨M109, e109, h⟩ := bO_some h
  obtain ⟨M113, ⟨⟩, h⟩ := bO_some h
  obtain ⟨M119, z119, k119, e119, h⟩ := bA_some h
  have g119 := mP_X0_init e119
  obtain ⟨M122, e122, h⟩ := bO_some h
  obtain ⟨M126, ⟨⟩, h⟩ := bO_some h
  obtain ⟨M132, z132, k132, e132, h⟩ := bA_some h
  have g132 := mP_X0_init e132
  obtain ⟨M135, e135, h⟩ := bO_some h
  obtain ⟨M139, ⟨⟩, h⟩ := bO_some h
  obtain ⟨M145, z145, k145, e145, h⟩ := bA_some h
  have g145 := mP_X0_init e145
  obtain ⟨M148, e148, h⟩ := bO_some h
  obtain ⟨M154, e154, h⟩ := bO_some h
  obtain ⟨M156, e156, h⟩ := bO_some h
  have q := retA_v h
  refine ww_aload_n 0 X dX10_init_0 0 rfl rfl ?_
  refine ww_objI 1 X (st := []) dX10_init_1 oL_X10_3 oI_i oI_c (Nat.le_of_ble_eq_true rfl) (Nat.le_of_ble_eq_true rfl) (Nat.le_of_ble_eq_true rfl) ?_
  refine ww_aload_n 4 X dX10_init_4 0 rfl rfl ?_
  refine ww_newO 5 X (sz := sz) (sl := sl) (z0 := z0) (s0 := s0) dX10_init_5 nW_X10_9 (by omega) (by omega) (by show _ ≤ Z0 - z0; omega) (by show _ ≤ S0 - s0; omega) ?_
  refine ww_dup 8 X dX10_init_8 rfl ?_
  refine ww_sipush 9 X (v := (8192 : Int32)) dX10_init_9 (by decide) ?_
  refine ww_callIVa 12 X (sz := (sz + 1)) (sl := (sl + 3)) (z0 := z0) (s0 := s0) dX10_init_12 mY_X0_init mL_X10_11 (As := [.int (8192 : Int32)]) (rest := [.ref sz, .ref l0]) rfl rfl ⟨Nat.le_of_ble_eq_true rfl, Nat.le_of_ble_eq_true rfl⟩ (by omega) (by omega) (by omega) (by omega) (by show _ ≤ Z0 - z0; omega) (by show _ ≤ S0 - s0; omega) (Nat.le_of_ble_eq_true rfl) (fun l D A => c_X0_init l D A e12) ?_
  refine ww_putR 15 X dX10_init_15 (fP_X10_14 _ (Or.inr rfl)) e15 rfl rfl ?_
  refine ww_aload_n 18 X dX10_init_18 0 rfl rfl ?_
  refine ww_newO 19 X (sz := z12) (sl := k12) (z0 := z0) (s0 := s0) dX10_init_19 nW_X10_9 (by omega) (by omega) (by show _ ≤ Z0 - z0; omega) (by show _ ≤ S0 - s0; omega) ?_
  refine ww_dup 22 X dX10_init_22 rfl ?_
  refine ww_sipush 23 X (v := (4608 : Int32)) dX10_init_23 (by decide) ?_
  refine ww_callIVa 26 X (sz := (z12 + 1)) (sl := (k12 + 3)) (z0 := z0) (s0 := s0) dX10_init_26 mY_X0_init mL_X10_11 (As := [.int (4608 : Int32)]) (rest := [.ref z12, .ref l0]) rfl rfl ⟨Nat.le_of_ble_eq_true rfl, Nat.le_of_ble_eq_true rfl⟩ (by omega) (by omega) (by omega) (by omega) (by show _ ≤ Z0 - z0; omega) (by show _ ≤ S0 - s0; omega) (Nat.le_of_ble_eq_true rfl) (fun l D A => c_X0_init l D A e26) ?_
  refine ww_putR 29 X dX10_init_29 (fP_X10_20 _ (Or.inr rfl)) e29 rfl rfl ?_
  refine ww_aload_n 32 X dX10_init_32 0 rfl rfl ?_
  refine ww_newO 33 X (sz := z26) (sl := k26) (z0 := z0) (s0 := s0) dX10_init_33 nW_X10_9 (by omega) (by omega) (by show _ ≤ Z0 - z0; omega) (by show _ ≤ S0 - s0; omega) ?_
  refine ww_dup 36 X dX10_init_36 rfl ?_
  refine ww_sipush 37 X (v := (4608 : Int32)) dX10_init_37 (by decide) ?_
  refine ww_callIVa 40 X (sz := (z26 + 1)) (sl := (k26 + 3)) (z0 := z0) (s0 := s0) dX10_init_40 mY_X0_init mL_X10_11 (As := [.int (4608 : Int32)]) (rest := [.ref z26, .ref l0]) rfl rfl ⟨Nat.le_of_ble_eq_true rfl, Nat.le_of_ble_eq_true rfl⟩ (by omega) (by omega) (by omega) (by omega) (by show _ ≤ Z0 - z0; omega) (by show _ ≤ S0 - s0; omega) (Nat.le_of_ble_eq_true rfl) (fun l D A => c_X0_init l D A e40) ?_
  refine ww_putR 43 X dX10_init_43 (fP_X10_23 _ (Or.inr rfl)) e43 rfl rfl ?_
  refine ww_aload_n 46 X dX10_init_46 0 rfl rfl ?_
  refine ww_newO 47 X (sz := z40) (sl := k40) (z0 := z0) (s0 := s0) dX10_init_47 nW_X10_9 (by omega) (by omega) (by show _ ≤ Z0 - z0; omega) (by show _ ≤ S0 - s0; omega) ?_
  refine ww_dup 50 X dX10_init_50 rfl ?_
  refine ww_bipush 51 X (v := (64 : Int32)) dX10_init_51 (by decide) ?_
  refine ww_callIVa 53 X (sz := (z40 + 1)) (sl := (k40 + 3)) (z0 := z0) (s0 := s0) dX10_init_53 mY_X0_init mL_X10_11 (As := [.int (64 : Int32)]) (rest := [.ref z40, .ref l0]) rfl rfl ⟨Nat.le_of_ble_eq_true rfl, Nat.le_of_ble_eq_true rfl⟩ (by omega) (by omega) (by omega) (by omega) (by show _ ≤ Z0 - z0; omega) (by show _ ≤ S0 - s0; omega) (Nat.le_of_ble_eq_true rfl) (fun l D A => c_X0_init l D A e53) ?_
  refine ww_putR 56 X dX10_init_56 (fP_X10_28 _ (Or.inr rfl)) e56 rfl rfl ?_
  refine ww_aload_n 59 X dX10_init_59 0 rfl rfl ?_
  refine ww_newO 60 X (sz := z53) (sl := k53) (z0 := z0) (s0 := s0) dX10_init_60 nW_X10_9 (by omega) (by omega) (by show _ ≤ Z0 - z0; omega) (by show _ ≤ S0 - s0; omega) ?_
  refine ww_dup 63 X dX10_init_63 rfl ?_
  refine ww_bipush 64 X (v := (32 : Int32)) dX10_init_64 (by decide) ?_
  refine ww_callIVa 66 X (sz := (z53 + 1)) (sl := (k53 + 3)) (z0 := z0) (s0 := s0) dX10_init_66 mY_X0_init mL_X10_11 (As := [.int (32 : Int32)]) (rest := [.ref z53, .ref l0]) rfl rfl ⟨Nat.le_of_ble_eq_true rfl, Nat.le_of_ble_eq_true rfl⟩ (by omega) (by omega) (by omega) (by omega) (by show _ ≤ Z0 - z0; omega) (by show _ ≤ S0 - s0; omega) (Nat.le_of_ble_eq_true rfl) (fun l D A => c_X0_init l D A e66) ?_
  refine ww_putR 69 X dX10_init_69 (fP_X10_31 _ (Or.inr rfl)) e69 rfl rfl ?_
  refine ww_aload_n 72 X dX10_init_72 0 rfl rfl ?_
  refine ww_newO 73 X (sz := z66) (sl := k66) (z0 := z0) (s0 := s0) dX10_init_73 nW_X10_9 (by omega) (by omega) (by show _ ≤ Z0 - z0; omega) (by show _ ≤ S0 - s0; omega) ?_
  refine ww_dup 76 X dX10_init_76 rfl ?_
  refine ww_bipush 77 X (v := (32 : Int32)) dX10_init_77 (by decide) ?_
  refine ww_callIVa 79 X (sz := (z66 + 1)) (sl := (k66 + 3)) (z0 := z0) (s0 := s0) dX10_init_79 mY_X0_init mL_X10_11 (As := [.int (32 : Int32)]) (rest := [.ref z66, .ref l0]) rfl rfl ⟨Nat.le_of_ble_eq_true rfl, Nat.le_of_ble_eq_true rfl⟩ (by omega) (by omega) (by omega) (by omega) (by show _ ≤ Z0 - z0; omega) (by show _ ≤ S0 - s0; omega) (Nat.le_of_ble_eq_true rfl) (fun l D A => c_X0_init l D A e79) ?_
  refine ww_putR 82 X dX10_init_82 (fP_X10_36 _ (Or.inr rfl)) e82 rfl rfl ?_
  refine ww_aload_n 85 X dX10_init_85 0 rfl rfl ?_
  refine ww_newO 86 X (sz := z79) (sl := k79) (z0 := z0) (s0 := s0) dX10_init_86 nW_X10_9 (by omega) (by omega) (by show _ ≤ Z0 - z0; omega) (by show _ ≤ S0 - s0; omega) ?_
  refine ww_dup 89 X dX10_init_89 rfl ?_
  refine ww_bipush 90 X (v := (64 : Int32)) dX10_init_90 (by decide) ?_
  refine ww_callIVa 92 X (sz := (z79 + 1)) (sl := (k79 + 3)) (z0 := z0) (s0 := s0) dX10_init_92 mY_X0_init mL_X10_11 (As := [.int (64 : Int32)]) (rest := [.ref z79, .ref l0]) rfl rfl ⟨Nat.le_of_ble_eq_true rfl, Nat.le_of_ble_eq_true rfl⟩ (by omega) (by omega) (by omega) (by omega) (by show _ ≤ Z0 - z0; omega) (by show _ ≤ S0 - s0; omega) (Nat.le_of_ble_eq_true rfl) (fun l D A => c_X0_init l D A e92) ?_
  refine ww_putR 95 X dX10_init_95 (fP_X10_39 _ (Or.inr rfl)) e95 rfl rfl ?_
  refine ww_aload_n 98 X dX10_init_98 0 rfl rfl ?_
  refine ww_newO 99 X (sz := z92) (sl := k92) (z0 := z0) (s0 := s0) dX10_init_99 nW_X10_9 (by omega) (by omega) (by show _ ≤ Z0 - z0; omega) (by show _ ≤ S0 - s0; omega) ?_
  refine ww_dup 102 X dX10_init_102 rfl ?_
  refine ww_sipush 103 X (v := (128 : Int32)) dX10_init_103 (by decide) ?_
  refine ww_callIVa 106 X (sz := (z92 + 1)) (sl := (k92 + 3)) (z0 := z0) (s0 := s0) dX10_init_106 mY_X0_init mL_X10_11 (As := [.int (128 : Int32)]) (rest := [.ref z92, .ref l0]) rfl rfl ⟨Nat.le_of_ble_eq_true rfl, Nat.le_of_ble_eq_true rfl⟩ (by omega) (by omega) (by omega) (by omega) (by show _ ≤ Z0 - z0; omega) (by show _ ≤ S0 - s0; omega) (Nat.le_of_ble_eq_true rfl) (fun l D A => c_X0_init l D A e106) ?_
  refine ww_putR 109 X dX10_init_109 (fP_X10_44 _ (Or.inr rfl)) e109 rfl rfl ?_
  refine ww_aload_n 112 X dX10_init_112 0 rfl rfl ?_
  refine ww_newO 113 X (sz := z106) (sl := k106) (z0 := z0) (s0 := s0) dX10_init_113 nW_X10_9 (by omega) (by omega) (by show _ ≤ Z0 - z0; omega) (by show _ ≤ S0 - s0; omega) ?_
  refine ww_dup 116 X dX10_init_116 rfl ?_
  refine ww_bipush 117 X (v := (16 : Int32)) dX10_init_117 (by decide) ?_
  refine ww_callIVa 119 X (sz := (z106 + 1)) (sl := (k106 + 3)) (z0 := z0) (s0 := s0) dX10_init_119 mY_X0_init mL_X10_11 (As := [.int (16 : Int32)]) (rest := [.ref z106, .ref l0]) rfl rfl ⟨Nat.le_of_ble_eq_true rfl, Nat.le_of_ble_eq_true rfl⟩ (by omega) (by omega) (by omega) (by omega) (by show _ ≤ Z0 - z0; omega) (by show _ ≤ S0 - s0; omega) (Nat.le_of_ble_eq_true rfl) (fun l D A => c_X0_init l D A e119) ?_
  refine ww_putR 122 X dX10_init_122 (fP_X10_47 _ (Or.inr rfl)) e122 rfl rfl ?_
  refine ww_aload_n 125 X dX10_init_125 0 rfl rfl ?_
  refine ww_newO 126 X (sz := z119) (sl := k119) (z0 := z0) (s0 := s0) dX10_init_126 nW_X10_9 (by omega) (by omega) (by show _ ≤ Z0 - z0; omega) (by show _ ≤ S0 - s0; omega) ?_
  refine ww_dup 129 X dX10_init_129 rfl ?_
  refine ww_bipush 130 X (v := (64 : Int32)) dX10_init_130 (by decide) ?_
  refine ww_callIVa 132 X (sz := (z119 + 1)) (sl := (k119 + 3)) (z0 := z0) (s0 := s0) dX10_init_132 mY_X0_init mL_X10_11 (As := [.int (64 : Int32)]) (rest := [.ref z119, .ref l0]) rfl rfl ⟨Nat.le_of_ble_eq_true rfl, Nat.le_of_ble_eq_true rfl⟩ (by omega) (by omega) (by omega) (by omega) (by show _ ≤ Z0 - z0; omega) (by show _ ≤ S0 - s0; omega) (Nat.le_of_ble_eq_true rfl) (fun l D A => c_X0_init l D A e132) ?_
  refine ww_putR 135 X dX10_init_135 (fP_X10_50 _ (Or.inr rfl)) e135 rfl rfl ?_
  refine ww_aload_n 138 X dX10_init_138 0 rfl rfl ?_
  refine ww_newO 139 X (sz := z132) (sl := k132) (z0 := z0) (s0 := s0) dX10_init_139 nW_X10_9 (by omega) (by omega) (by show _ ≤ Z0 - z0; omega) (by show _ ≤ S0 - s0; omega) ?_
  refine ww_dup 142 X dX10_init_142 rfl ?_
  refine ww_bipush 143 X (v := (16 : Int32)) dX10_init_143 (by decide) ?_
  refine ww_callIVa 145 X (sz := (z132 + 1)) (sl := (k132 + 3)) (z0 := z0) (s0 := s0) dX10_init_145 mY_X0_init mL_X10_11 (As := [.int (16 : Int32)]) (rest := [.ref z132, .ref l0]) rfl rfl ⟨Nat.le_of_ble_eq_true rfl, Nat.le_of_ble_eq_true rfl⟩ (by omega) (by omega) (by omega) (by omega) (by show _ ≤ Z0 - z0; omega) (by show _ ≤ S0 - s0; omega) (Nat.le_of_ble_eq_true rfl) (fun l D A => c_X0_init l D A e145) ?_
  refine ww_putR 148 X dX10_init_148 (fP_X10_53 _ (Or.inr rfl)) e148 rfl rfl ?_
  refine ww_aload_n 151 X dX10_init_151 0 rfl rfl ?_
  refine ww_bipush 152 X (v := (6 : Int32)) dX10_init_152 (by decide) ?_
  refine ww_newA 154 X (sz := z145) (sl := k145) (z0 := z0) (s0 := s0) dX10_init_154 (k := 0) (by decide) rfl aC_0 e154 (by omega) (by omega) (by show _ ≤ Z0 - z0; omega) (by show _ ≤ S0 - s0; omega) ?_
  refine ww_putR 156 X dX10_init_156 (fP_X10_56 _ (Or.inr rfl)) e156 rfl rfl ?_
  exact ww_vretA 159 X hQ dX10_init_159 h
theorem c_X10_init {G : mG} {F : Nat} {M0 : mM} {Z0 S0 : Nat} (l : Launch) (D : mD) (A : Nat → Prop) {l0 : Nat} {M : mM} {sz : Nat} {sl : Nat} (h : P_X10_init G F l0 M sz sl = some (M0, Z0, S0)) : mMetV l D G A yX10_init cX10_init 1 none 2 42 (Z0 - sz) (S0 - sl) [.ref l0] M sz M0 Z0 := mMetV_of l D G A (by decide) (Nat.le_of_ble_eq_true rfl) (fun x X hQ => by have K := wP_X10_init X hQ (Nat.le_refl sz) (Nat.le_refl sl) h; rw [Nat.sub_self, Nat.sub_self] at K; exact K)
/-! SealedTokens$Token.split(LSealedTokens$Bytes;I)Z -/
theorem dX10_split_0 : decode cX10_split 0 = .ok (.iconst 1, 1) := by decide +kernel
theorem dX10_split_1 : decode cX10_split 1 = .ok (.istore_n 3, 1) := by decide +kernel
theorem dX10_split_2 : decode cX10_split 2 = .ok (.aload_n 0, 1) := by decide +kernel
theorem dX10_split_3 : decode cX10_split 3 = .ok (.getfield 56, 3) := by decide +kernel
theorem dX10_split_6 : decode cX10_split 6 = .ok (.iconst 0, 1) := by decide +kernel
theorem dX10_split_7 : decode cX10_split 7 = .ok (.iconst 0, 1) := by decide +kernel
theorem dX10_split_8 : decode cX10_split 8 = .ok (.iastore, 1) := by decide +kernel
theorem dX10_split_9 : decode cX10_split 9 = .ok (.iconst 0, 1) := by decide +kernel
theorem dX10_split_10 : decode cX10_split 10 = .ok (.istore 4, 2) := by decide +kernel
theorem dX10_split_12 : decode cX10_split 12 = .ok (.iload 4, 2) := by decide +kernel
theorem dX10_split_14 : decode cX10_split 14 = .ok (.aload_n 1, 1) := by decide +kernel
theorem dX10_split_15 : decode cX10_split 15 = .ok (.getfield 60, 3) := by decide +kernel
theorem dX10_split_18 : decode cX10_split 18 = .ok (.if_icmp .ge 38, 3) := by decide +kernel
theorem dX10_split_21 : decode cX10_split 21 = .ok (.aload_n 1, 1) := by decide +kernel
theorem dX10_split_22 : decode cX10_split 22 = .ok (.iload 4, 2) := by decide +kernel
theorem dX10_split_24 : decode cX10_split 24 = .ok (.invokevirtual 64, 3) := by decide +kernel
theorem dX10_split_27 : decode cX10_split 27 = .ok (.bipush 46, 2) := by decide +kernel
theorem dX10_split_29 : decode cX10_split 29 = .ok (.if_icmp .ne 21, 3) := by decide +kernel
theorem dX10_split_32 : decode cX10_split 32 = .ok (.iload_n 3, 1) := by decide +kernel
theorem dX10_split_33 : decode cX10_split 33 = .ok (.iload_n 2, 1) := by decide +kernel
theorem dX10_split_34 : decode cX10_split 34 = .ok (.if_icmp .ge 13, 3) := by decide +kernel
theorem dX10_split_37 : decode cX10_split 37 = .ok (.aload_n 0, 1) := by decide +kernel
theorem dX10_split_38 : decode cX10_split 38 = .ok (.getfield 56, 3) := by decide +kernel
theorem dX10_split_41 : decode cX10_split 41 = .ok (.iload_n 3, 1) := by decide +kernel
theorem dX10_split_42 : decode cX10_split 42 = .ok (.iload 4, 2) := by decide +kernel
theorem dX10_split_44 : decode cX10_split 44 = .ok (.iconst 1, 1) := by decide +kernel
theorem dX10_split_45 : decode cX10_split 45 = .ok (.iadd, 1) := by decide +kernel
theorem dX10_split_46 : decode cX10_split 46 = .ok (.iastore, 1) := by decide +kernel
theorem dX10_split_47 : decode cX10_split 47 = .ok (.iinc 3 1, 3) := by decide +kernel
theorem dX10_split_50 : decode cX10_split 50 = .ok (.iinc 4 1, 3) := by decide +kernel
theorem dX10_split_53 : decode cX10_split 53 = .ok (.goto (-41), 3) := by decide +kernel
theorem dX10_split_56 : decode cX10_split 56 = .ok (.aload_n 0, 1) := by decide +kernel
theorem dX10_split_57 : decode cX10_split 57 = .ok (.getfield 56, 3) := by decide +kernel
theorem dX10_split_60 : decode cX10_split 60 = .ok (.iload_n 2, 1) := by decide +kernel
theorem dX10_split_61 : decode cX10_split 61 = .ok (.aload_n 1, 1) := by decide +kernel
theorem dX10_split_62 : decode cX10_split 62 = .ok (.getfield 60, 3) := by decide +kernel
theorem dX10_split_65 : decode cX10_split 65 = .ok (.iconst 1, 1) := by decide +kernel
theorem dX10_split_66 : decode cX10_split 66 = .ok (.iadd, 1) := by decide +kernel
theorem dX10_split_67 : decode cX10_split 67 = .ok (.iastore, 1) := by decide +kernel
theorem dX10_split_68 : decode cX10_split 68 = .ok (.iload_n 3, 1) := by decide +kernel
theorem dX10_split_69 : decode cX10_split 69 = .ok (.iload_n 2, 1) := by decide +kernel
theorem dX10_split_70 : decode cX10_split 70 = .ok (.if_icmp .ne 7, 3) := by decide +kernel
theorem dX10_split_73 : decode cX10_split 73 = .ok (.iconst 1, 1) := by decide +kernel
theorem dX10_split_74 : decode cX10_split 74 = .ok (.goto 4, 3) := by decide +kernel
theorem dX10_split_77 : decode cX10_split 77 = .ok (.iconst 0, 1) := by decide +kernel
theorem dX10_split_78 : decode cX10_split 78 = .ok (.ireturn, 1) := by decide +kernel
abbrev rmX10_split : Room := { frames := 1, cells := 0, slots := 0, locals := 21 }
set_option maxHeartbeats 4000000 in
set_option maxRecDepth 100000 in
theorem wB_X10_split_12 {G : mG} {F : Nat} {x : mXT} {sz : Nat} {r0 : Int32} {M0 : mM} (X : mCX G RX10 cX10_split 5 (some .boolean) "split" rmX10_split x) (hQ : mQI x r0 M0 (sz, 0, 0)) : ∀ (n : Nat) (l0 : Nat) (l1 : Nat) (l2 : Int32) (l3 : Int32) (l4 : Int32) (M : mM), B_X10_split_12 G F n l0 l1 l2 l3 l4 M = some (r0, M0) → WW x (sz, 0, 0) M 12 [(0, .ref l0), (1, .ref l1), (2, .int l2), (3, .int l3), (4, .int l4)] [] := by
  intro n
  induction n with
  | zero =>
    intro l0 l1 l2 l3 l4 M h
    exact nomatch (show (none : Option (Int32 × mM)) = some (r0, M0) from h)
  | succ n ih =>
    intro l0 l1 l2 l3 l4 M h
    rw [B_X10_split_12] at h
    refine ww_iload 12 X dX10_split_12 4 rfl ?_
    refine ww_aload_n 14 X dX10_split_14 1 rfl rfl ?_
    obtain ⟨v15, e15, h⟩ := bO_some h
    refine ww_getI 15 X dX10_split_15 fG_X10_60 e15 ?_
    refine ww_icmp_ge 18 56 X dX10_split_18 (by decide) (fun q => ?_) (fun q => ?_)
    · replace h := (if_pos q).symm.trans h
      refine ww_aload_n 56 X dX10_split_56 0 rfl rfl ?_
      obtain ⟨v57, e57, h⟩ := bO_some h
      refine ww_getR 57 X dX10_split_57 fG_X10_56 e57 ?_
      refine ww_iload_n 60 X dX10_split_60 2 rfl rfl ?_
      refine ww_aload_n 61 X dX10_split_61 1 rfl rfl ?_
      obtain ⟨v62, e62, h⟩ := bO_some h
      refine ww_getI 62 X dX10_split_62 fG_X10_60 e62 ?_
      refine ww_iconst 65 X (v := (1 : Int32)) dX10_split_65 (by decide) ?_
      refine ww_iadd 66 X dX10_split_66 ?_
      obtain ⟨M67, e67, h⟩ := bO_some h
      refine ww_iast 67 X dX10_split_67 e67 ?_
      refine ww_iload_n 68 X dX10_split_68 3 rfl rfl ?_
      refine ww_iload_n 69 X dX10_split_69 2 rfl rfl ?_
      refine ww_icmp_ne 70 77 X dX10_split_70 (by decide) (fun q => ?_) (fun q => ?_)
      · replace h := (if_neg q).symm.trans h
        refine ww_iconst 77 X (v := (0 : Int32)) dX10_split_77 (by decide) ?_
        exact ww_zretE 78 X hQ dX10_split_78 h
      · replace h := (if_pos q).symm.trans h
        refine ww_iconst 73 X (v := (1 : Int32)) dX10_split_73 (by decide) ?_
        refine ww_goto 74 78 X dX10_split_74 (by decide) ?_
        exact ww_zretE 78 X hQ dX10_split_78 h
    · replace h := (if_neg q).symm.trans h
      refine ww_aload_n 21 X dX10_split_21 1 rfl rfl ?_
      refine ww_iload 22 X dX10_split_22 4 rfl ?_
      obtain ⟨_, f24, h⟩ := bO_some h
      obtain ⟨v24, M24, e24, h⟩ := bP_some h
      refine ww_callVI0 24 X dX10_split_24 mY_X0_get mL_X10_64 (rcv_spec f24) ⟨_, _, rfl⟩ (by decide) (As := [.int l4]) (rest := []) rfl rfl ⟨Nat.le_of_ble_eq_true rfl, Nat.le_of_ble_eq_true rfl⟩ (Nat.le_of_ble_eq_true rfl) (fun l D A => c_X0_get l D A e24) ?_
      refine ww_bipush 27 X (v := (46 : Int32)) dX10_split_27 (by decide) ?_
      refine ww_icmp_ne 29 50 X dX10_split_29 (by decide) (fun q => ?_) (fun q => ?_)
      · replace h := (if_neg q).symm.trans h
        refine ww_iinc 50 X dX10_split_50 (lv' := [(0, .ref l0), (1, .ref l1), (2, .int l2), (3, .int l3), (4, .int (l4 + 1))]) 4 rfl rfl (by decide) [1, 2, 3, 4, 0] rfl ?_
        refine ww_goto 53 12 X dX10_split_53 (by decide) ?_
        exact (ih _ _ _ _ _ _ h)
      · replace h := (if_pos q).symm.trans h
        refine ww_iload_n 32 X dX10_split_32 3 rfl rfl ?_
        refine ww_iload_n 33 X dX10_split_33 2 rfl rfl ?_
        refine ww_icmp_ge 34 47 X dX10_split_34 (by decide) (fun q => ?_) (fun q => ?_)
        · replace h := (if_pos q).symm.trans h
          refine ww_iinc 47 X dX10_split_47 (lv' := [(0, .ref l0), (1, .ref l1), (2, .int l2), (3, .int (l3 + 1)), (4, .int l4)]) 3 rfl rfl (by decide) [1, 2, 3, 0, 4] rfl ?_
          refine ww_iinc 50 X dX10_split_50 (lv' := [(0, .ref l0), (1, .ref l1), (2, .int l2), (3, .int (l3 + 1)), (4, .int (l4 + 1))]) 4 rfl rfl (by decide) [1, 2, 3, 4, 0] rfl ?_
          refine ww_goto 53 12 X dX10_split_53 (by decide) ?_
          exact (ih _ _ _ _ _ _ h)
        · replace h := (if_neg q).symm.trans h
          refine ww_aload_n 37 X dX10_split_37 0 rfl rfl ?_
          obtain ⟨v38, e38, h⟩ := bO_some h
          refine ww_getR 38 X dX10_split_38 fG_X10_56 e38 ?_
          refine ww_iload_n 41 X dX10_split_41 3 rfl rfl ?_
          refine ww_iload 42 X dX10_split_42 4 rfl ?_
          refine ww_iconst 44 X (v := (1 : Int32)) dX10_split_44 (by decide) ?_
          refine ww_iadd 45 X dX10_split_45 ?_
          obtain ⟨M46, e46, h⟩ := bO_some h
          refine ww_iast 46 X dX10_split_46 e46 ?_
          refine ww_iinc 47 X dX10_split_47 (lv' := [(0, .ref l0), (1, .ref l1), (2, .int l2), (3, .int (l3 + 1)), (4, .int l4)]) 3 rfl rfl (by decide) [1, 2, 3, 0, 4] rfl ?_
          refine ww_iinc 50 X dX10_split_50 (lv' := [(0, .ref l0), (1, .ref l1), (2, .int l2), (3, .int (l3 + 1)), (4, .int (l4 + 1))]) 4 rfl rfl (by decide) [1, 2, 3, 4, 0] rfl ?_
          refine ww_goto 53 12 X dX10_split_53 (by decide) ?_
          exact (ih _ _ _ _ _ _ h)
set_option maxHeartbeats 4000000 in
set_option maxRecDepth 100000 in
theorem wP_X10_split {G : mG} {F : Nat} {x : mXT} {sz : Nat} {r0 : Int32} {M0 : mM} (X : mCX G RX10 cX10_split 5 (some .boolean) "split" rmX10_split x) (hQ : mQI x r0 M0 (sz, 0, 0)) {l0 : Nat} {l1 : Nat} {l2 : Int32} {M : mM} (h : P_X10_split G F l0 l1 l2 M = some (r0, M0)) : WW x (sz, 0, 0) M 0 [(0, .ref l0), (1, .ref l1), (2, .int l2)] [] := by
  unfold P_X10_split at h
  refine ww_iconst 0 X (v := (1 : Int32)) dX10_split_0 (by decide) ?_
  refine ww_istore_n 1 X dX10_split_1 (lv' := [(0, .ref l0), (1, .ref l1), (2, .int l2), (3, .int (1 : Int32))]) rfl (by decide) [1, 2, 3, 0] rfl ?_
  refine ww_aload_n 2 X dX10_split_2 0 rfl rfl ?_
  obtain ⟨v3, e3, h⟩ := bO_some h
  refine ww_getR 3 X dX10_split_3 fG_X10_56 e3 ?_
  refine ww_iconst 6 X (v := (0 : Int32)) dX10_split_6 (by decide) ?_
  refine ww_iconst 7 X (v := (0 : Int32)) dX10_split_7 (by decide) ?_
  obtain ⟨M8, e8, h⟩ := bO_some h
  refine ww_iast 8 X dX10_split_8 e8 ?_
  refine ww_iconst 9 X (v := (0 : Int32)) dX10_split_9 (by decide) ?_
  refine ww_istore 10 X dX10_split_10 (lv' := [(0, .ref l0), (1, .ref l1), (2, .int l2), (3, .int (1 : Int32)), (4, .int (0 : Int32))]) (by decide) [1, 2, 3, 4, 0] rfl ?_
  exact (wB_X10_split_12 X hQ F _ _ _ _ _ _ h)
theorem c_X10_split {G : mG} {F sz : Nat} {r0 : Int32} {M0 : mM} (l : Launch) (D : mD) (A : Nat → Prop) {l0 : Nat} {l1 : Nat} {l2 : Int32} {M : mM} (h : P_X10_split G F l0 l1 l2 M = some (r0, M0)) : mMetI l D G A yX10_split cX10_split 5 (some .boolean) 1 21 0 0 [.ref l0, .ref l1, .int l2] M sz r0 M0 sz := mMetI_of l D G A (by decide) (Nat.le_of_ble_eq_true rfl) (fun x X hQ => wP_X10_split X hQ h)
/-! SealedTokens$Token.partStart(I)I -/
theorem dX10_partStart_0 : decode cX10_partStart 0 = .ok (.aload_n 0, 1) := by decide +kernel
theorem dX10_partStart_1 : decode cX10_partStart 1 = .ok (.getfield 56, 3) := by decide +kernel
theorem dX10_partStart_4 : decode cX10_partStart 4 = .ok (.iload_n 1, 1) := by decide +kernel
theorem dX10_partStart_5 : decode cX10_partStart 5 = .ok (.iaload, 1) := by decide +kernel
theorem dX10_partStart_6 : decode cX10_partStart 6 = .ok (.ireturn, 1) := by decide +kernel
abbrev rmX10_partStart : Room := { frames := 0, cells := 0, slots := 0, locals := 0 }
set_option maxHeartbeats 4000000 in
set_option maxRecDepth 100000 in
theorem wP_X10_partStart {G : mG} {F : Nat} {x : mXT} {sz : Nat} {r0 : Int32} {M0 : mM} (X : mCX G RX10 cX10_partStart 2 (some .int) "partStart" rmX10_partStart x) (hQ : mQI x r0 M0 (sz, 0, 0)) {l0 : Nat} {l1 : Int32} {M : mM} (h : P_X10_partStart G F l0 l1 M = some (r0, M0)) : WW x (sz, 0, 0) M 0 [(0, .ref l0), (1, .int l1)] [] := by
  unfold P_X10_partStart at h
  refine ww_aload_n 0 X dX10_partStart_0 0 rfl rfl ?_
  obtain ⟨v1, e1, h⟩ := bO_some h
  refine ww_getR 1 X dX10_partStart_1 fG_X10_56 e1 ?_
  refine ww_iload_n 4 X dX10_partStart_4 1 rfl rfl ?_
  obtain ⟨v5, e5, h⟩ := bO_some h
  refine ww_iald 5 X dX10_partStart_5 e5 ?_
  exact ww_iretE 6 X hQ dX10_partStart_6 h
theorem c_X10_partStart {G : mG} {F sz : Nat} {r0 : Int32} {M0 : mM} (l : Launch) (D : mD) (A : Nat → Prop) {l0 : Nat} {l1 : Int32} {M : mM} (h : P_X10_partStart G F l0 l1 M = some (r0, M0)) : mMetI l D G A yX10_partStart cX10_partStart 2 (some .int) 0 0 0 0 [.ref l0, .int l1] M sz r0 M0 sz := mMetI_of l D G A (by decide) (Nat.le_of_ble_eq_true rfl) (fun x X hQ => wP_X10_partStart X hQ h)
/-! SealedTokens$Token.partEnd(I)I -/
theorem dX10_partEnd_0 : decode cX10_partEnd 0 = .ok (.aload_n 0, 1) := by decide +kernel
theorem dX10_partEnd_1 : decode cX10_partEnd 1 = .ok (.getfield 56, 3) := by decide +kernel
theorem dX10_partEnd_4 : decode cX10_partEnd 4 = .ok (.iload_n 1, 1) := by decide +kernel
theorem dX10_partEnd_5 : decode cX10_partEnd 5 = .ok (.iconst 1, 1) := by decide +kernel
theorem dX10_partEnd_6 : decode cX10_partEnd 6 = .ok (.iadd, 1) := by decide +kernel
theorem dX10_partEnd_7 : decode cX10_partEnd 7 = .ok (.iaload, 1) := by decide +kernel
theorem dX10_partEnd_8 : decode cX10_partEnd 8 = .ok (.iconst 1, 1) := by decide +kernel
theorem dX10_partEnd_9 : decode cX10_partEnd 9 = .ok (.isub, 1) := by decide +kernel
theorem dX10_partEnd_10 : decode cX10_partEnd 10 = .ok (.ireturn, 1) := by decide +kernel
abbrev rmX10_partEnd : Room := { frames := 0, cells := 0, slots := 0, locals := 0 }
set_option maxHeartbeats 4000000 in
set_option maxRecDepth 100000 in
theorem wP_X10_partEnd {G : mG} {F : Nat} {x : mXT} {sz : Nat} {r0 : Int32} {M0 : mM} (X : mCX G RX10 cX10_partEnd 2 (some .int) "partEnd" rmX10_partEnd x) (hQ : mQI x r0 M0 (sz, 0, 0)) {l0 : Nat} {l1 : Int32} {M : mM} (h : P_X10_partEnd G F l0 l1 M = some (r0, M0)) : WW x (sz, 0, 0) M 0 [(0, .ref l0), (1, .int l1)] [] := by
  unfold P_X10_partEnd at h
  refine ww_aload_n 0 X dX10_partEnd_0 0 rfl rfl ?_
  obtain ⟨v1, e1, h⟩ := bO_some h
  refine ww_getR 1 X dX10_partEnd_1 fG_X10_56 e1 ?_
  refine ww_iload_n 4 X dX10_partEnd_4 1 rfl rfl ?_
  refine ww_iconst 5 X (v := (1 : Int32)) dX10_partEnd_5 (by decide) ?_
  refine ww_iadd 6 X dX10_partEnd_6 ?_
  obtain ⟨v7, e7, h⟩ := bO_some h
  refine ww_iald 7 X dX10_partEnd_7 e7 ?_
  refine ww_iconst 8 X (v := (1 : Int32)) dX10_partEnd_8 (by decide) ?_
  refine ww_isub 9 X dX10_partEnd_9 ?_
  exact ww_iretE 10 X hQ dX10_partEnd_10 h
theorem c_X10_partEnd {G : mG} {F sz : Nat} {r0 : Int32} {M0 : mM} (l : Launch) (D : mD) (A : Nat → Prop) {l0 : Nat} {l1 : Int32} {M : mM} (h : P_X10_partEnd G F l0 l1 M = some (r0, M0)) : mMetI l D G A yX10_partEnd cX10_partEnd 2 (some .int) 0 0 0 0 [.ref l0, .int l1] M sz r0 M0 sz := mMetI_of l D G A (by decide) (Nat.le_of_ble_eq_true rfl) (fun x X hQ => wP_X10_partEnd X hQ h)
/-! SealedTokens$Token.isFaulty(LSealedTokens$Bytes;I)Z -/
theorem dX10_isFaulty_0 : decode cX10_isFaulty 0 = .ok (.aload_n 1, 1) := by decide +kernel
theorem dX10_isFaulty_1 : decode cX10_isFaulty 1 = .ok (.aload_n 0, 1) := by decide +kernel
theorem dX10_isFaulty_2 : decode cX10_isFaulty 2 = .ok (.iload_n 2, 1) := by decide +kernel
theorem dX10_isFaulty_3 : decode cX10_isFaulty 3 = .ok (.invokevirtual 68, 3) := by decide +kernel
theorem dX10_isFaulty_6 : decode cX10_isFaulty 6 = .ok (.aload_n 0, 1) := by decide +kernel
theorem dX10_isFaulty_7 : decode cX10_isFaulty 7 = .ok (.iload_n 2, 1) := by decide +kernel
theorem dX10_isFaulty_8 : decode cX10_isFaulty 8 = .ok (.invokevirtual 71, 3) := by decide +kernel
theorem dX10_isFaulty_11 : decode cX10_isFaulty 11 = .ok (.invokestatic 74, 3) := by decide +kernel
theorem dX10_isFaulty_14 : decode cX10_isFaulty 14 = .ok (.iconst (-1), 1) := by decide +kernel
theorem dX10_isFaulty_15 : decode cX10_isFaulty 15 = .ok (.if_icmp .eq 7, 3) := by decide +kernel
theorem dX10_isFaulty_18 : decode cX10_isFaulty 18 = .ok (.iconst 1, 1) := by decide +kernel
theorem dX10_isFaulty_19 : decode cX10_isFaulty 19 = .ok (.goto 4, 3) := by decide +kernel
theorem dX10_isFaulty_22 : decode cX10_isFaulty 22 = .ok (.iconst 0, 1) := by decide +kernel
theorem dX10_isFaulty_23 : decode cX10_isFaulty 23 = .ok (.ireturn, 1) := by decide +kernel
abbrev rmX10_isFaulty : Room := { frames := 2, cells := 0, slots := 0, locals := 47 }
set_option maxHeartbeats 4000000 in
set_option maxRecDepth 100000 in
theorem wP_X10_isFaulty {G : mG} {F : Nat} {x : mXT} {sz : Nat} {r0 : Int32} {M0 : mM} (X : mCX G RX10 cX10_isFaulty 3 (some .boolean) "isFaulty" rmX10_isFaulty x) (hQ : mQI x r0 M0 (sz, 0, 0)) {l0 : Nat} {l1 : Nat} {l2 : Int32} {M : mM} (h : P_X10_isFaulty G F l0 l1 l2 M = some (r0, M0)) : WW x (sz, 0, 0) M 0 [(0, .ref l0), (1, .ref l1), (2, .int l2)] [] := by
  unfold P_X10_isFaulty at h
  refine ww_aload_n 0 X dX10_isFaulty_0 1 rfl rfl ?_
  refine ww_aload_n 1 X dX10_isFaulty_1 0 rfl rfl ?_
  refine ww_iload_n 2 X dX10_isFaulty_2 2 rfl rfl ?_
  obtain ⟨_, f3, h⟩ := bO_some h
  obtain ⟨v3, M3, e3, h⟩ := bP_some h
  refine ww_callVI0 3 X dX10_isFaulty_3 mY_X10_partStart mL_X10_68 (rcv_spec f3) ⟨_, _, rfl⟩ (by decide) (As := [.int l2]) (rest := [.ref l1]) rfl rfl ⟨Nat.le_of_ble_eq_true rfl, Nat.le_of_ble_eq_true rfl⟩ (Nat.le_of_ble_eq_true rfl) (fun l D A => c_X10_partStart l D A e3) ?_
  refine ww_aload_n 6 X dX10_isFaulty_6 0 rfl rfl ?_
  refine ww_iload_n 7 X dX10_isFaulty_7 2 rfl rfl ?_
  obtain ⟨_, f8, h⟩ := bO_some h
  obtain ⟨v8, M8, e8, h⟩ := bP_some h
  refine ww_callVI0 8 X dX10_isFaulty_8 mY_X10_partEnd mL_X10_71 (rcv_spec f8) ⟨_, _, rfl⟩ (by decide) (As := [.int l2]) (rest := [.int v3, .ref l1]) rfl rfl ⟨Nat.le_of_ble_eq_true rfl, Nat.le_of_ble_eq_true rfl⟩ (Nat.le_of_ble_eq_true rfl) (fun l D A => c_X10_partEnd l D A e8) ?_
  obtain ⟨v11, M11, e11, h⟩ := bP_some h
  refine ww_callSI0 11 X dX10_isFaulty_11 mY_X0_letterFault mL_X10_74 (As := [.ref l1, .int v3, .int v8]) (rest := []) rfl rfl ⟨Nat.le_of_ble_eq_true rfl, Nat.le_of_ble_eq_true rfl⟩ (Nat.le_of_ble_eq_true rfl) (fun l D A => c_X0_letterFault l D A e11) ?_
  refine ww_iconst 14 X (v := (-1 : Int32)) dX10_isFaulty_14 (by decide) ?_
  refine ww_icmp_eq 15 22 X dX10_isFaulty_15 (by decide) (fun q => ?_) (fun q => ?_)
  · replace h := (if_pos q).symm.trans h
    refine ww_iconst 22 X (v := (0 : Int32)) dX10_isFaulty_22 (by decide) ?_
    exact ww_zretE 23 X hQ dX10_isFaulty_23 h
  · replace h := (if_neg q).symm.trans h
    refine ww_iconst 18 X (v := (1 : Int32)) dX10_isFaulty_18 (by decide) ?_
    refine ww_goto 19 23 X dX10_isFaulty_19 (by decide) ?_
    exact ww_zretE 23 X hQ dX10_isFaulty_23 h
theorem c_X10_isFaulty {G : mG} {F sz : Nat} {r0 : Int32} {M0 : mM} (l : Launch) (D : mD) (A : Nat → Prop) {l0 : Nat} {l1 : Nat} {l2 : Int32} {M : mM} (h : P_X10_isFaulty G F l0 l1 l2 M = some (r0, M0)) : mMetI l D G A yX10_isFaulty cX10_isFaulty 3 (some .boolean) 2 47 0 0 [.ref l0, .ref l1, .int l2] M sz r0 M0 sz := mMetI_of l D G A (by decide) (Nat.le_of_ble_eq_true rfl) (fun x X hQ => wP_X10_isFaulty X hQ h)
/-! SealedTokens$Token.partBytes(I)I -/
theorem dX10_partBytes_0 : decode cX10_partBytes 0 = .ok (.aload_n 0, 1) := by decide +kernel
theorem dX10_partBytes_1 : decode cX10_partBytes 1 = .ok (.iload_n 1, 1) := by decide +kernel
theorem dX10_partBytes_2 : decode cX10_partBytes 2 = .ok (.invokevirtual 71, 3) := by decide +kernel
theorem dX10_partBytes_5 : decode cX10_partBytes 5 = .ok (.aload_n 0, 1) := by decide +kernel
theorem dX10_partBytes_6 : decode cX10_partBytes 6 = .ok (.iload_n 1, 1) := by decide +kernel
theorem dX10_partBytes_7 : decode cX10_partBytes 7 = .ok (.invokevirtual 68, 3) := by decide +kernel
theorem dX10_partBytes_10 : decode cX10_partBytes 10 = .ok (.isub, 1) := by decide +kernel
theorem dX10_partBytes_11 : decode cX10_partBytes 11 = .ok (.invokestatic 78, 3) := by decide +kernel
theorem dX10_partBytes_14 : decode cX10_partBytes 14 = .ok (.ireturn, 1) := by decide +kernel
abbrev rmX10_partBytes : Room := { frames := 1, cells := 0, slots := 0, locals := 21 }
set_option maxHeartbeats 4000000 in
set_option maxRecDepth 100000 in
theorem wP_X10_partBytes {G : mG} {F : Nat} {x : mXT} {sz : Nat} {r0 : Int32} {M0 : mM} (X : mCX G RX10 cX10_partBytes 2 (some .int) "partBytes" rmX10_partBytes x) (hQ : mQI x r0 M0 (sz, 0, 0)) {l0 : Nat} {l1 : Int32} {M : mM} (h : P_X10_partBytes G F l0 l1 M = some (r0, M0)) : WW x (sz, 0, 0) M 0 [(0, .ref l0), (1, .int l1)] [] := by
  unfold P_X10_partBytes at h
  refine ww_aload_n 0 X dX10_partBytes_0 0 rfl rfl ?_
  refine ww_iload_n 1 X dX10_partBytes_1 1 rfl rfl ?_
  obtain ⟨_, f2, h⟩ := bO_some h
  obtain ⟨v2, M2, e2, h⟩ := bP_some h
  refine ww_callVI0 2 X dX10_partBytes_2 mY_X10_partEnd mL_X10_71 (rcv_spec f2) ⟨_, _, rfl⟩ (by decide) (As := [.int l1]) (rest := []) rfl rfl ⟨Nat.le_of_ble_eq_true rfl, Nat.le_of_ble_eq_true rfl⟩ (Nat.le_of_ble_eq_true rfl) (fun l D A => c_X10_partEnd l D A e2) ?_
  refine ww_aload_n 5 X dX10_partBytes_5 0 rfl rfl ?_
  refine ww_iload_n 6 X dX10_partBytes_6 1 rfl rfl ?_
  obtain ⟨_, f7, h⟩ := bO_some h
  obtain ⟨v7, M7, e7, h⟩ := bP_some h
  refine ww_callVI0 7 X dX10_partBytes_7 mY_X10_partStart mL_X10_68 (rcv_spec f7) ⟨_, _, rfl⟩ (by decide) (As := [.int l1]) (rest := [.int v2]) rfl rfl ⟨Nat.le_of_ble_eq_true rfl, Nat.le_of_ble_eq_true rfl⟩ (Nat.le_of_ble_eq_true rfl) (fun l D A => c_X10_partStart l D A e7) ?_
  refine ww_isub 10 X dX10_partBytes_10 ?_
  obtain ⟨v11, M11, e11, h⟩ := bP_some h
  refine ww_callSI0 11 X dX10_partBytes_11 mY_X0_bytesFor mL_X10_78 (As := [.int (v2 - v7)]) (rest := []) rfl rfl ⟨Nat.le_of_ble_eq_true rfl, Nat.le_of_ble_eq_true rfl⟩ (Nat.le_of_ble_eq_true rfl) (fun l D A => c_X0_bytesFor l D A e11) ?_
  exact ww_iretE 14 X hQ dX10_partBytes_14 h
theorem c_X10_partBytes {G : mG} {F sz : Nat} {r0 : Int32} {M0 : mM} (l : Launch) (D : mD) (A : Nat → Prop) {l0 : Nat} {l1 : Int32} {M : mM} (h : P_X10_partBytes G F l0 l1 M = some (r0, M0)) : mMetI l D G A yX10_partBytes cX10_partBytes 2 (some .int) 1 21 0 0 [.ref l0, .int l1] M sz r0 M0 sz := mMetI_of l D G A (by decide) (Nat.le_of_ble_eq_true rfl) (fun x X hQ => wP_X10_partBytes X hQ h)
/-! SealedTokens$Token.readPart(LSealedTokens$Bytes;ILSealedTokens$Bytes;)V -/
theorem dX10_readPart_0 : decode cX10_readPart 0 = .ok (.aload_n 3, 1) := by decide +kernel
theorem dX10_readPart_1 : decode cX10_readPart 1 = .ok (.invokevirtual 81, 3) := by decide +kernel
theorem dX10_readPart_4 : decode cX10_readPart 4 = .ok (.aload_n 3, 1) := by decide +kernel
theorem dX10_readPart_5 : decode cX10_readPart 5 = .ok (.aload_n 1, 1) := by decide +kernel
theorem dX10_readPart_6 : decode cX10_readPart 6 = .ok (.aload_n 0, 1) := by decide +kernel
theorem dX10_readPart_7 : decode cX10_readPart 7 = .ok (.iload_n 2, 1) := by decide +kernel
theorem dX10_readPart_8 : decode cX10_readPart 8 = .ok (.invokevirtual 68, 3) := by decide +kernel
theorem dX10_readPart_11 : decode cX10_readPart 11 = .ok (.aload_n 0, 1) := by decide +kernel
theorem dX10_readPart_12 : decode cX10_readPart 12 = .ok (.iload_n 2, 1) := by decide +kernel
theorem dX10_readPart_13 : decode cX10_readPart 13 = .ok (.invokevirtual 71, 3) := by decide +kernel
theorem dX10_readPart_16 : decode cX10_readPart 16 = .ok (.invokevirtual 84, 3) := by decide +kernel
theorem dX10_readPart_19 : decode cX10_readPart 19 = .ok (.return_, 1) := by decide +kernel
abbrev rmX10_readPart : Room := { frames := 2, cells := 0, slots := 0, locals := 47 }
set_option maxHeartbeats 4000000 in
set_option maxRecDepth 100000 in
theorem wP_X10_readPart {G : mG} {F : Nat} {x : mXT} {sz : Nat} {M0 : mM} (X : mCX G RX10 cX10_readPart 4 none "readPart" rmX10_readPart x) (hQ : mQV x M0 (sz, 0, 0)) {l0 : Nat} {l1 : Nat} {l2 : Int32} {l3 : Nat} {M : mM} (h : P_X10_readPart G F l0 l1 l2 l3 M = some M0) : WW x (sz, 0, 0) M 0 [(0, .ref l0), (1, .ref l1), (2, .int l2), (3, .ref l3)] [] := by
  unfold P_X10_readPart at h
  refine ww_aload_n 0 X dX10_readPart_0 3 rfl rfl ?_
  obtain ⟨_, f1, h⟩ := bO_some h
  obtain ⟨M1, e1, h⟩ := bO_some h
  refine ww_callVV0 1 X dX10_readPart_1 mY_X0_clear mL_X10_81 (rcv_spec f1) ⟨_, _, rfl⟩ (by decide) (As := []) (rest := []) rfl rfl ⟨Nat.le_of_ble_eq_true rfl, Nat.le_of_ble_eq_true rfl⟩ (Nat.le_of_ble_eq_true rfl) (fun l D A => c_X0_clear l D A e1) ?_
  refine ww_aload_n 4 X dX10_readPart_4 3 rfl rfl ?_
  refine ww_aload_n 5 X dX10_readPart_5 1 rfl rfl ?_
  refine ww_aload_n 6 X dX10_readPart_6 0 rfl rfl ?_
  refine ww_iload_n 7 X dX10_readPart_7 2 rfl rfl ?_
  obtain ⟨_, f8, h⟩ := bO_some h
  obtain ⟨v8, M8, e8, h⟩ := bP_some h
  refine ww_callVI0 8 X dX10_readPart_8 mY_X10_partStart mL_X10_68 (rcv_spec f8) ⟨_, _, rfl⟩ (by decide) (As := [.int l2]) (rest := [.ref l1, .ref l3]) rfl rfl ⟨Nat.le_of_ble_eq_true rfl, Nat.le_of_ble_eq_true rfl⟩ (Nat.le_of_ble_eq_true rfl) (fun l D A => c_X10_partStart l D A e8) ?_
  refine ww_aload_n 11 X dX10_readPart_11 0 rfl rfl ?_
  refine ww_iload_n 12 X dX10_readPart_12 2 rfl rfl ?_
  obtain ⟨_, f13, h⟩ := bO_some h
  obtain ⟨v13, M13, e13, h⟩ := bP_some h
  refine ww_callVI0 13 X dX10_readPart_13 mY_X10_partEnd mL_X10_71 (rcv_spec f13) ⟨_, _, rfl⟩ (by decide) (As := [.int l2]) (rest := [.int v8, .ref l1, .ref l3]) rfl rfl ⟨Nat.le_of_ble_eq_true rfl, Nat.le_of_ble_eq_true rfl⟩ (Nat.le_of_ble_eq_true rfl) (fun l D A => c_X10_partEnd l D A e13) ?_
  obtain ⟨_, f16, h⟩ := bO_some h
  obtain ⟨M16, e16, h⟩ := bO_some h
  refine ww_callVV0 16 X dX10_readPart_16 mY_X0_putUnlettered mL_X10_84 (rcv_spec f16) ⟨_, _, rfl⟩ (by decide) (As := [.ref l1, .int v8, .int v13]) (rest := []) rfl rfl ⟨Nat.le_of_ble_eq_true rfl, Nat.le_of_ble_eq_true rfl⟩ (Nat.le_of_ble_eq_true rfl) (fun l D A => c_X0_putUnlettered l D A e16) ?_
  exact ww_vretE 19 X hQ dX10_readPart_19 h
theorem c_X10_readPart {G : mG} {F sz : Nat} {M0 : mM} (l : Launch) (D : mD) (A : Nat → Prop) {l0 : Nat} {l1 : Nat} {l2 : Int32} {l3 : Nat} {M : mM} (h : P_X10_readPart G F l0 l1 l2 l3 M = some M0) : mMetV l D G A yX10_readPart cX10_readPart 4 none 2 47 0 0 [.ref l0, .ref l1, .int l2, .ref l3] M sz M0 sz := mMetV_of l D G A (by decide) (Nat.le_of_ble_eq_true rfl) (fun x X hQ => wP_X10_readPart X hQ h)
/-! SealedTokens$Token.readSealedParts(LSealedTokens$Bytes;LSealedTokens$Bytes;)Z -/
theorem dX10_readSealedParts_0 : decode cX10_readSealedParts 0 = .ok (.aload_n 0, 1) := by decide +kernel
theorem dX10_readSealedParts_1 : decode cX10_readSealedParts 1 = .ok (.iconst 1, 1) := by decide +kernel
theorem dX10_readSealedParts_2 : decode cX10_readSealedParts 2 = .ok (.invokevirtual 88, 3) := by decide +kernel
theorem dX10_readSealedParts_5 : decode cX10_readSealedParts 5 = .ok (.aload_n 0, 1) := by decide +kernel
theorem dX10_readSealedParts_6 : decode cX10_readSealedParts 6 = .ok (.getfield 44, 3) := by decide +kernel
theorem dX10_readSealedParts_9 : decode cX10_readSealedParts 9 = .ok (.getfield 91, 3) := by decide +kernel
theorem dX10_readSealedParts_12 : decode cX10_readSealedParts 12 = .ok (.arraylength, 1) := by decide +kernel
theorem dX10_readSealedParts_13 : decode cX10_readSealedParts 13 = .ok (.if_icmp .gt 35, 3) := by decide +kernel
theorem dX10_readSealedParts_16 : decode cX10_readSealedParts 16 = .ok (.aload_n 0, 1) := by decide +kernel
theorem dX10_readSealedParts_17 : decode cX10_readSealedParts 17 = .ok (.iconst 2, 1) := by decide +kernel
theorem dX10_readSealedParts_18 : decode cX10_readSealedParts 18 = .ok (.invokevirtual 88, 3) := by decide +kernel
theorem dX10_readSealedParts_21 : decode cX10_readSealedParts 21 = .ok (.getstatic 94, 3) := by decide +kernel
theorem dX10_readSealedParts_24 : decode cX10_readSealedParts 24 = .ok (.aload_n 0, 1) := by decide +kernel
theorem dX10_readSealedParts_25 : decode cX10_readSealedParts 25 = .ok (.getfield 97, 3) := by decide +kernel
theorem dX10_readSealedParts_28 : decode cX10_readSealedParts 28 = .ok (.iaload, 1) := by decide +kernel
theorem dX10_readSealedParts_29 : decode cX10_readSealedParts 29 = .ok (.if_icmp .ne 19, 3) := by decide +kernel
theorem dX10_readSealedParts_32 : decode cX10_readSealedParts 32 = .ok (.aload_n 0, 1) := by decide +kernel
theorem dX10_readSealedParts_33 : decode cX10_readSealedParts 33 = .ok (.iconst 4, 1) := by decide +kernel
theorem dX10_readSealedParts_34 : decode cX10_readSealedParts 34 = .ok (.invokevirtual 88, 3) := by decide +kernel
theorem dX10_readSealedParts_37 : decode cX10_readSealedParts 37 = .ok (.getstatic 100, 3) := by decide +kernel
theorem dX10_readSealedParts_40 : decode cX10_readSealedParts 40 = .ok (.aload_n 0, 1) := by decide +kernel
theorem dX10_readSealedParts_41 : decode cX10_readSealedParts 41 = .ok (.getfield 97, 3) := by decide +kernel
theorem dX10_readSealedParts_44 : decode cX10_readSealedParts 44 = .ok (.iaload, 1) := by decide +kernel
theorem dX10_readSealedParts_45 : decode cX10_readSealedParts 45 = .ok (.if_icmp .eq 5, 3) := by decide +kernel
theorem dX10_readSealedParts_48 : decode cX10_readSealedParts 48 = .ok (.iconst 0, 1) := by decide +kernel
theorem dX10_readSealedParts_49 : decode cX10_readSealedParts 49 = .ok (.ireturn, 1) := by decide +kernel
theorem dX10_readSealedParts_50 : decode cX10_readSealedParts 50 = .ok (.aload_n 0, 1) := by decide +kernel
theorem dX10_readSealedParts_51 : decode cX10_readSealedParts 51 = .ok (.aload_n 1, 1) := by decide +kernel
theorem dX10_readSealedParts_52 : decode cX10_readSealedParts 52 = .ok (.iconst 1, 1) := by decide +kernel
theorem dX10_readSealedParts_53 : decode cX10_readSealedParts 53 = .ok (.aload_n 0, 1) := by decide +kernel
theorem dX10_readSealedParts_54 : decode cX10_readSealedParts 54 = .ok (.getfield 44, 3) := by decide +kernel
theorem dX10_readSealedParts_57 : decode cX10_readSealedParts 57 = .ok (.invokevirtual 103, 3) := by decide +kernel
theorem dX10_readSealedParts_60 : decode cX10_readSealedParts 60 = .ok (.aload_n 0, 1) := by decide +kernel
theorem dX10_readSealedParts_61 : decode cX10_readSealedParts 61 = .ok (.aload_n 1, 1) := by decide +kernel
theorem dX10_readSealedParts_62 : decode cX10_readSealedParts 62 = .ok (.iconst 2, 1) := by decide +kernel
theorem dX10_readSealedParts_63 : decode cX10_readSealedParts 63 = .ok (.aload_n 0, 1) := by decide +kernel
theorem dX10_readSealedParts_64 : decode cX10_readSealedParts 64 = .ok (.getfield 47, 3) := by decide +kernel
theorem dX10_readSealedParts_67 : decode cX10_readSealedParts 67 = .ok (.invokevirtual 103, 3) := by decide +kernel
theorem dX10_readSealedParts_70 : decode cX10_readSealedParts 70 = .ok (.aload_n 0, 1) := by decide +kernel
theorem dX10_readSealedParts_71 : decode cX10_readSealedParts 71 = .ok (.aload_n 1, 1) := by decide +kernel
theorem dX10_readSealedParts_72 : decode cX10_readSealedParts 72 = .ok (.iconst 3, 1) := by decide +kernel
theorem dX10_readSealedParts_73 : decode cX10_readSealedParts 73 = .ok (.aload_n 2, 1) := by decide +kernel
theorem dX10_readSealedParts_74 : decode cX10_readSealedParts 74 = .ok (.invokevirtual 103, 3) := by decide +kernel
theorem dX10_readSealedParts_77 : decode cX10_readSealedParts 77 = .ok (.aload_n 2, 1) := by decide +kernel
theorem dX10_readSealedParts_78 : decode cX10_readSealedParts 78 = .ok (.aload_n 1, 1) := by decide +kernel
theorem dX10_readSealedParts_79 : decode cX10_readSealedParts 79 = .ok (.aload_n 0, 1) := by decide +kernel
theorem dX10_readSealedParts_80 : decode cX10_readSealedParts 80 = .ok (.iconst 4, 1) := by decide +kernel
theorem dX10_readSealedParts_81 : decode cX10_readSealedParts 81 = .ok (.invokevirtual 68, 3) := by decide +kernel
theorem dX10_readSealedParts_84 : decode cX10_readSealedParts 84 = .ok (.aload_n 0, 1) := by decide +kernel
theorem dX10_readSealedParts_85 : decode cX10_readSealedParts 85 = .ok (.iconst 4, 1) := by decide +kernel
theorem dX10_readSealedParts_86 : decode cX10_readSealedParts 86 = .ok (.invokevirtual 71, 3) := by decide +kernel
theorem dX10_readSealedParts_89 : decode cX10_readSealedParts 89 = .ok (.invokevirtual 84, 3) := by decide +kernel
theorem dX10_readSealedParts_92 : decode cX10_readSealedParts 92 = .ok (.iconst 1, 1) := by decide +kernel
theorem dX10_readSealedParts_93 : decode cX10_readSealedParts 93 = .ok (.ireturn, 1) := by decide +kernel
abbrev rmX10_readSealedParts : Room := { frames := 3, cells := 0, slots := 0, locals := 70 }
set_option maxHeartbeats 4000000 in
set_option maxRecDepth 100000 in
theorem wP_X10_readSealedParts {G : mG} {F : Nat} {x : mXT} {sz : Nat} {r0 : Int32} {M0 : mM} (X : mCX G RX10 cX10_readSealedParts 3 (some .boolean) "readSealedParts" rmX10_readSealedParts x) (hQ : mQI x r0 M0 (sz, 0, 0)) {l0 : Nat} {l1 : Nat} {l2 : Nat} {M : mM} (h : P_X10_readSealedParts G F l0 l1 l2 M = some (r0, M0)) : WW x (sz, 0, 0) M 0 [(0, .ref l0), (1, .ref l1), (2, .ref l2)] [] := by
  unfold P_X10_readSealedParts at h
  refine ww_aload_n 0 X dX10_readSealedParts_0 0 rfl rfl ?_
  refine ww_iconst 1 X (v := (1 : Int32)) dX10_readSealedParts_1 (by decide) ?_
  obtain ⟨_, f2, h⟩ := bO_some h
  obtain ⟨v2, M2, e2, h⟩ := bP_some h
  refine ww_callVI0 2 X dX10_readSealedParts_2 mY_X10_partBytes mL_X10_88 (rcv_spec f2) ⟨_, _, rfl⟩ (by decide) (As := [.int (1 : Int32)]) (rest := []) rfl rfl ⟨Nat.le_of_ble_eq_true rfl, Nat.le_of_ble_eq_true rfl⟩ (Nat.le_of_ble_eq_true rfl) (fun l D A => c_X10_partBytes l D A e2) ?_
  refine ww_aload_n 5 X dX10_readSealedParts_5 0 rfl rfl ?_
  obtain ⟨v6, e6, h⟩ := bO_some h
  refine ww_getR 6 X dX10_readSealedParts_6 fG_X10_44 e6 ?_
  obtain ⟨v9, e9, h⟩ := bO_some h
  refine ww_getR 9 X dX10_readSealedParts_9 fG_X10_91 e9 ?_
  obtain ⟨v12, e12, h⟩ := bO_some h
  refine ww_alen 12 X dX10_readSealedParts_12 e12 ?_
  refine ww_icmp_gt 13 48 X dX10_readSealedParts_13 (by decide) (fun q => ?_) (fun q => ?_)
  · replace h := (if_pos q).symm.trans h
    refine ww_iconst 48 X (v := (0 : Int32)) dX10_readSealedParts_48 (by decide) ?_
    exact ww_zretE 49 X hQ dX10_readSealedParts_49 h
  · replace h := (if_neg q).symm.trans h
    refine ww_aload_n 16 X dX10_readSealedParts_16 0 rfl rfl ?_
    refine ww_iconst 17 X (v := (2 : Int32)) dX10_readSealedParts_17 (by decide) ?_
    obtain ⟨_, f18, h⟩ := bO_some h
    obtain ⟨v18, M18, e18, h⟩ := bP_some h
    refine ww_callVI0 18 X dX10_readSealedParts_18 mY_X10_partBytes mL_X10_88 (rcv_spec f18) ⟨_, _, rfl⟩ (by decide) (As := [.int (2 : Int32)]) (rest := []) rfl rfl ⟨Nat.le_of_ble_eq_true rfl, Nat.le_of_ble_eq_true rfl⟩ (Nat.le_of_ble_eq_true rfl) (fun l D A => c_X10_partBytes l D A e18) ?_
    refine ww_gets 21 X dX10_readSealedParts_21 gS_X10_94 ?_
    refine ww_aload_n 24 X dX10_readSealedParts_24 0 rfl rfl ?_
    obtain ⟨v25, e25, h⟩ := bO_some h
    refine ww_getI 25 X dX10_readSealedParts_25 fG_X10_97 e25 ?_
    obtain ⟨v28, e28, h⟩ := bO_some h
    refine ww_iald 28 X dX10_readSealedParts_28 e28 ?_
    refine ww_icmp_ne 29 48 X dX10_readSealedParts_29 (by decide) (fun q => ?_) (fun q => ?_)
    · replace h := (if_neg q).symm.trans h
      refine ww_iconst 48 X (v := (0 : Int32)) dX10_readSealedParts_48 (by decide) ?_
      exact ww_zretE 49 X hQ dX10_readSealedParts_49 h
    · replace h := (if_pos q).symm.trans h
      refine ww_aload_n 32 X dX10_readSealedParts_32 0 rfl rfl ?_
      refine ww_iconst 33 X (v := (4 : Int32)) dX10_readSealedParts_33 (by decide) ?_
      obtain ⟨_, f34, h⟩ := bO_some h
      obtain ⟨v34, M34, e34, h⟩ := bP_some h
      refine ww_callVI0 34 X dX10_readSealedParts_34 mY_X10_partBytes mL_X10_88 (rcv_spec f34) ⟨_, _, rfl⟩ (by decide) (As := [.int (4 : Int32)]) (rest := []) rfl rfl ⟨Nat.le_of_ble_eq_true rfl, Nat.le_of_ble_eq_true rfl⟩ (Nat.le_of_ble_eq_true rfl) (fun l D A => c_X10_partBytes l D A e34) ?_
      refine ww_gets 37 X dX10_readSealedParts_37 gS_X10_100 ?_
      refine ww_aload_n 40 X dX10_readSealedParts_40 0 rfl rfl ?_
      obtain ⟨v41, e41, h⟩ := bO_some h
      refine ww_getI 41 X dX10_readSealedParts_41 fG_X10_97 e41 ?_
      obtain ⟨v44, e44, h⟩ := bO_some h
      refine ww_iald 44 X dX10_readSealedParts_44 e44 ?_
      refine ww_icmp_eq 45 50 X dX10_readSealedParts_45 (by decide) (fun q => ?_) (fun q => ?_)
      · replace h := (if_pos q).symm.trans h
        refine ww_aload_n 50 X dX10_readSealedParts_50 0 rfl rfl ?_
        refine ww_aload_n 51 X dX10_readSealedParts_51 1 rfl rfl ?_
        refine ww_iconst 52 X (v := (1 : Int32)) dX10_readSealedParts_52 (by decide) ?_
        refine ww_aload_n 53 X dX10_readSealedParts_53 0 rfl rfl ?_
        obtain ⟨v54, e54, h⟩ := bO_some h
        refine ww_getR 54 X dX10_readSealedParts_54 fG_X10_44 e54 ?_
        obtain ⟨_, f57, h⟩ := bO_some h
        obtain ⟨M57, e57, h⟩ := bO_some h
        refine ww_callVV0 57 X dX10_readSealedParts_57 mY_X10_readPart mL_X10_103 (rcv_spec f57) ⟨_, _, rfl⟩ (by decide) (As := [.ref l1, .int (1 : Int32), .ref v54]) (rest := []) rfl rfl ⟨Nat.le_of_ble_eq_true rfl, Nat.le_of_ble_eq_true rfl⟩ (Nat.le_of_ble_eq_true rfl) (fun l D A => c_X10_readPart l D A e57) ?_
        refine ww_aload_n 60 X dX10_readSealedParts_60 0 rfl rfl ?_
        refine ww_aload_n 61 X dX10_readSealedParts_61 1 rfl rfl ?_
        refine ww_iconst 62 X (v := (2 : Int32)) dX10_readSealedParts_62 (by decide) ?_
        refine ww_aload_n 63 X dX10_readSealedParts_63 0 rfl rfl ?_
        obtain ⟨v64, e64, h⟩ := bO_some h
        refine ww_getR 64 X dX10_readSealedParts_64 fG_X10_47 e64 ?_
        obtain ⟨_, f67, h⟩ := bO_some h
        obtain ⟨M67, e67, h⟩ := bO_some h
        refine ww_callVV0 67 X dX10_readSealedParts_67 mY_X10_readPart mL_X10_103 (rcv_spec f67) ⟨_, _, rfl⟩ (by decide) (As := [.ref l1, .int (2 : Int32), .ref v64]) (rest := []) rfl rfl ⟨Nat.le_of_ble_eq_true rfl, Nat.le_of_ble_eq_true rfl⟩ (Nat.le_of_ble_eq_true rfl) (fun l D A => c_X10_readPart l D A e67) ?_
        refine ww_aload_n 70 X dX10_readSealedParts_70 0 rfl rfl ?_
        refine ww_aload_n 71 X dX10_readSealedParts_71 1 rfl rfl ?_
        refine ww_iconst 72 X (v := (3 : Int32)) dX10_readSealedParts_72 (by decide) ?_
        refine ww_aload_n 73 X dX10_readSealedParts_73 2 rfl rfl ?_
        obtain ⟨_, f74, h⟩ := bO_some h
        obtain ⟨M74, e74, h⟩ := bO_some h
        refine ww_callVV0 74 X dX10_readSealedParts_74 mY_X10_readPart mL_X10_103 (rcv_spec f74) ⟨_, _, rfl⟩ (by decide) (As := [.ref l1, .int (3 : Int32), .ref l2]) (rest := []) rfl rfl ⟨Nat.le_of_ble_eq_true rfl, Nat.le_of_ble_eq_true rfl⟩ (Nat.le_of_ble_eq_true rfl) (fun l D A => c_X10_readPart l D A e74) ?_
        refine ww_aload_n 77 X dX10_readSealedParts_77 2 rfl rfl ?_
        refine ww_aload_n 78 X dX10_readSealedParts_78 1 rfl rfl ?_
        refine ww_aload_n 79 X dX10_readSealedParts_79 0 rfl rfl ?_
        refine ww_iconst 80 X (v := (4 : Int32)) dX10_readSealedParts_80 (by decide) ?_
        obtain ⟨_, f81, h⟩ := bO_some h
        obtain ⟨v81, M81, e81, h⟩ := bP_some h
        refine ww_callVI0 81 X dX10_readSealedParts_81 mY_X10_partStart mL_X10_68 (rcv_spec f81) ⟨_, _, rfl⟩ (by decide) (As := [.int (4 : Int32)]) (rest := [.ref l1, .ref l2]) rfl rfl ⟨Nat.le_of_ble_eq_true rfl, Nat.le_of_ble_eq_true rfl⟩ (Nat.le_of_ble_eq_true rfl) (fun l D A => c_X10_partStart l D A e81) ?_
        refine ww_aload_n 84 X dX10_readSealedParts_84 0 rfl rfl ?_
        refine ww_iconst 85 X (v := (4 : Int32)) dX10_readSealedParts_85 (by decide) ?_
        obtain ⟨_, f86, h⟩ := bO_some h
        obtain ⟨v86, M86, e86, h⟩ := bP_some h
        refine ww_callVI0 86 X dX10_readSealedParts_86 mY_X10_partEnd mL_X10_71 (rcv_spec f86) ⟨_, _, rfl⟩ (by decide) (As := [.int (4 : Int32)]) (rest := [.int v81, .ref l1, .ref l2]) rfl rfl ⟨Nat.le_of_ble_eq_true rfl, Nat.le_of_ble_eq_true rfl⟩ (Nat.le_of_ble_eq_true rfl) (fun l D A => c_X10_partEnd l D A e86) ?_
        obtain ⟨_, f89, h⟩ := bO_some h
        obtain ⟨M89, e89, h⟩ := bO_some h
        refine ww_callVV0 89 X dX10_readSealedParts_89 mY_X0_putUnlettered mL_X10_84 (rcv_spec f89) ⟨_, _, rfl⟩ (by decide) (As := [.ref l1, .int v81, .int v86]) (rest := []) rfl rfl ⟨Nat.le_of_ble_eq_true rfl, Nat.le_of_ble_eq_true rfl⟩ (Nat.le_of_ble_eq_true rfl) (fun l D A => c_X0_putUnlettered l D A e89) ?_
        refine ww_iconst 92 X (v := (1 : Int32)) dX10_readSealedParts_92 (by decide) ?_
        exact ww_zretE 93 X hQ dX10_readSealedParts_93 h
      · replace h := (if_neg q).symm.trans h
        refine ww_iconst 48 X (v := (0 : Int32)) dX10_readSealedParts_48 (by decide) ?_
        exact ww_zretE 49 X hQ dX10_readSealedParts_49 h
theorem c_X10_readSealedParts {G : mG} {F sz : Nat} {r0 : Int32} {M0 : mM} (l : Launch) (D : mD) (A : Nat → Prop) {l0 : Nat} {l1 : Nat} {l2 : Nat} {M : mM} (h : P_X10_readSealedParts G F l0 l1 l2 M = some (r0, M0)) : mMetI l D G A yX10_readSealedParts cX10_readSealedParts 3 (some .boolean) 3 70 0 0 [.ref l0, .ref l1, .ref l2] M sz r0 M0 sz := mMetI_of l D G A (by decide) (Nat.le_of_ble_eq_true rfl) (fun x X hQ => wP_X10_readSealedParts X hQ h)
/-! SealedTokens$Token.kidSuits(LSealedTokens$Text;LSealedTokens$Key;)Z -/
theorem dX10_kidSuits_0 : decode cX10_kidSuits 0 = .ok (.aload_n 0, 1) := by decide +kernel
theorem dX10_kidSuits_1 : decode cX10_kidSuits 1 = .ok (.getfield 107, 3) := by decide +kernel
theorem dX10_kidSuits_4 : decode cX10_kidSuits 4 = .ok (.iconst (-1), 1) := by decide +kernel
theorem dX10_kidSuits_5 : decode cX10_kidSuits 5 = .ok (.if_icmp .eq 25, 3) := by decide +kernel
theorem dX10_kidSuits_8 : decode cX10_kidSuits 8 = .ok (.aload_n 2, 1) := by decide +kernel
theorem dX10_kidSuits_9 : decode cX10_kidSuits 9 = .ok (.getfield 110, 3) := by decide +kernel
theorem dX10_kidSuits_12 : decode cX10_kidSuits 12 = .ok (.ifCond .eq 22, 3) := by decide +kernel
theorem dX10_kidSuits_15 : decode cX10_kidSuits 15 = .ok (.aload_n 1, 1) := by decide +kernel
theorem dX10_kidSuits_16 : decode cX10_kidSuits 16 = .ok (.aload_n 0, 1) := by decide +kernel
theorem dX10_kidSuits_17 : decode cX10_kidSuits 17 = .ok (.getfield 107, 3) := by decide +kernel
theorem dX10_kidSuits_20 : decode cX10_kidSuits 20 = .ok (.aload_n 2, 1) := by decide +kernel
theorem dX10_kidSuits_21 : decode cX10_kidSuits 21 = .ok (.getfield 116, 3) := by decide +kernel
theorem dX10_kidSuits_24 : decode cX10_kidSuits 24 = .ok (.invokevirtual 118, 3) := by decide +kernel
theorem dX10_kidSuits_27 : decode cX10_kidSuits 27 = .ok (.ifCond .eq 7, 3) := by decide +kernel
theorem dX10_kidSuits_30 : decode cX10_kidSuits 30 = .ok (.iconst 1, 1) := by decide +kernel
theorem dX10_kidSuits_31 : decode cX10_kidSuits 31 = .ok (.goto 4, 3) := by decide +kernel
theorem dX10_kidSuits_34 : decode cX10_kidSuits 34 = .ok (.iconst 0, 1) := by decide +kernel
theorem dX10_kidSuits_35 : decode cX10_kidSuits 35 = .ok (.ireturn, 1) := by decide +kernel
abbrev rmX10_kidSuits : Room := { frames := 4, cells := 0, slots := 0, locals := 95 }
set_option maxHeartbeats 4000000 in
set_option maxRecDepth 100000 in
theorem wP_X10_kidSuits {G : mG} {F : Nat} {x : mXT} {sz : Nat} {r0 : Int32} {M0 : mM} (X : mCX G RX10 cX10_kidSuits 3 (some .boolean) "kidSuits" rmX10_kidSuits x) (hQ : mQI x r0 M0 (sz, 0, 0)) {l0 : Nat} {l1 : Nat} {l2 : Nat} {M : mM} (h : P_X10_kidSuits G F l0 l1 l2 M = some (r0, M0)) : WW x (sz, 0, 0) M 0 [(0, .ref l0), (1, .ref l1), (2, .ref l2)] [] := by
  unfold P_X10_kidSuits at h
  refine ww_aload_n 0 X dX10_kidSuits_0 0 rfl rfl ?_
  obtain ⟨v1, e1, h⟩ := bO_some h
  refine ww_getI 1 X dX10_kidSuits_1 fG_X10_107 e1 ?_
  refine ww_iconst 4 X (v := (-1 : Int32)) dX10_kidSuits_4 (by decide) ?_
  refine ww_icmp_eq 5 30 X dX10_kidSuits_5 (by decide) (fun q => ?_) (fun q => ?_)
  · replace h := (if_pos q).symm.trans h
    refine ww_iconst 30 X (v := (1 : Int32)) dX10_kidSuits_30 (by decide) ?_
    refine ww_goto 31 35 X dX10_kidSuits_31 (by decide) ?_
    exact ww_zretE 35 X hQ dX10_kidSuits_35 h
  · replace h := (if_neg q).symm.trans h
    refine ww_aload_n 8 X dX10_kidSuits_8 2 rfl rfl ?_
    obtain ⟨v9, e9, h⟩ := bO_some h
    refine ww_getI 9 X dX10_kidSuits_9 fG_X10_110 e9 ?_
    refine ww_if_eq 12 34 X dX10_kidSuits_12 (by decide) (fun q => ?_) (fun q => ?_)
    · replace h := (if_pos q).symm.trans h
      refine ww_iconst 34 X (v := (0 : Int32)) dX10_kidSuits_34 (by decide) ?_
      exact ww_zretE 35 X hQ dX10_kidSuits_35 h
    · replace h := (if_neg q).symm.trans h
      refine ww_aload_n 15 X dX10_kidSuits_15 1 rfl rfl ?_
      refine ww_aload_n 16 X dX10_kidSuits_16 0 rfl rfl ?_
      obtain ⟨v17, e17, h⟩ := bO_some h
      refine ww_getI 17 X dX10_kidSuits_17 fG_X10_107 e17 ?_
      refine ww_aload_n 20 X dX10_kidSuits_20 2 rfl rfl ?_
      obtain ⟨v21, e21, h⟩ := bO_some h
      refine ww_getR 21 X dX10_kidSuits_21 fG_X10_116 e21 ?_
      obtain ⟨_, f24, h⟩ := bO_some h
      obtain ⟨v24, M24, e24, h⟩ := bP_some h
      refine ww_callVI0 24 X dX10_kidSuits_24 mY_X9_saysSame mL_X10_118 (rcv_spec f24) ⟨_, _, rfl⟩ (by decide) (As := [.int v17, .ref v21]) (rest := []) rfl rfl ⟨Nat.le_of_ble_eq_true rfl, Nat.le_of_ble_eq_true rfl⟩ (Nat.le_of_ble_eq_true rfl) (fun l D A => c_X9_saysSame l D A e24) ?_
      refine ww_if_eq 27 34 X dX10_kidSuits_27 (by decide) (fun q => ?_) (fun q => ?_)
      · replace h := (if_pos q).symm.trans h
        refine ww_iconst 34 X (v := (0 : Int32)) dX10_kidSuits_34 (by decide) ?_
        exact ww_zretE 35 X hQ dX10_kidSuits_35 h
      · replace h := (if_neg q).symm.trans h
        refine ww_iconst 30 X (v := (1 : Int32)) dX10_kidSuits_30 (by decide) ?_
        refine ww_goto 31 35 X dX10_kidSuits_31 (by decide) ?_
        exact ww_zretE 35 X hQ dX10_kidSuits_35 h
theorem c_X10_kidSuits {G : mG} {F sz : Nat} {r0 : Int32} {M0 : mM} (l : Launch) (D : mD) (A : Nat → Prop) {l0 : Nat} {l1 : Nat} {l2 : Nat} {M : mM} (h : P_X10_kidSuits G F l0 l1 l2 M = some (r0, M0)) : mMetI l D G A yX10_kidSuits cX10_kidSuits 3 (some .boolean) 4 95 0 0 [.ref l0, .ref l1, .ref l2] M sz r0 M0 sz := mMetI_of l D G A (by decide) (Nat.le_of_ble_eq_true rfl) (fun x X hQ => wP_X10_kidSuits X hQ h)
/-! SealedTokens$Token.isSaidBefore(LSealedTokens$Text;II)Z -/
theorem dX10_isSaidBefore_0 : decode cX10_isSaidBefore 0 = .ok (.iload_n 2, 1) := by decide +kernel
theorem dX10_isSaidBefore_1 : decode cX10_isSaidBefore 1 = .ok (.iconst 1, 1) := by decide +kernel
theorem dX10_isSaidBefore_2 : decode cX10_isSaidBefore 2 = .ok (.iadd, 1) := by decide +kernel
theorem dX10_isSaidBefore_3 : decode cX10_isSaidBefore 3 = .ok (.istore 4, 2) := by decide +kernel
theorem dX10_isSaidBefore_5 : decode cX10_isSaidBefore 5 = .ok (.iload 4, 2) := by decide +kernel
theorem dX10_isSaidBefore_7 : decode cX10_isSaidBefore 7 = .ok (.iload_n 3, 1) := by decide +kernel
theorem dX10_isSaidBefore_8 : decode cX10_isSaidBefore 8 = .ok (.if_icmp .ge 71, 3) := by decide +kernel
theorem dX10_isSaidBefore_11 : decode cX10_isSaidBefore 11 = .ok (.aload_n 1, 1) := by decide +kernel
theorem dX10_isSaidBefore_12 : decode cX10_isSaidBefore 12 = .ok (.getfield 149, 3) := by decide +kernel
theorem dX10_isSaidBefore_15 : decode cX10_isSaidBefore 15 = .ok (.iload 4, 2) := by decide +kernel
theorem dX10_isSaidBefore_17 : decode cX10_isSaidBefore 17 = .ok (.iaload, 1) := by decide +kernel
theorem dX10_isSaidBefore_18 : decode cX10_isSaidBefore 18 = .ok (.iload_n 2, 1) := by decide +kernel
theorem dX10_isSaidBefore_19 : decode cX10_isSaidBefore 19 = .ok (.if_icmp .ne 54, 3) := by decide +kernel
theorem dX10_isSaidBefore_22 : decode cX10_isSaidBefore 22 = .ok (.aload_n 1, 1) := by decide +kernel
theorem dX10_isSaidBefore_23 : decode cX10_isSaidBefore 23 = .ok (.getfield 159, 3) := by decide +kernel
theorem dX10_isSaidBefore_26 : decode cX10_isSaidBefore 26 = .ok (.iload 4, 2) := by decide +kernel
theorem dX10_isSaidBefore_28 : decode cX10_isSaidBefore 28 = .ok (.iaload, 1) := by decide +kernel
theorem dX10_isSaidBefore_29 : decode cX10_isSaidBefore 29 = .ok (.aload_n 1, 1) := by decide +kernel
theorem dX10_isSaidBefore_30 : decode cX10_isSaidBefore 30 = .ok (.getfield 159, 3) := by decide +kernel
theorem dX10_isSaidBefore_33 : decode cX10_isSaidBefore 33 = .ok (.iload_n 3, 1) := by decide +kernel
theorem dX10_isSaidBefore_34 : decode cX10_isSaidBefore 34 = .ok (.iaload, 1) := by decide +kernel
theorem dX10_isSaidBefore_35 : decode cX10_isSaidBefore 35 = .ok (.if_icmp .ne 38, 3) := by decide +kernel
theorem dX10_isSaidBefore_38 : decode cX10_isSaidBefore 38 = .ok (.aload_n 1, 1) := by decide +kernel
theorem dX10_isSaidBefore_39 : decode cX10_isSaidBefore 39 = .ok (.getfield 162, 3) := by decide +kernel
theorem dX10_isSaidBefore_42 : decode cX10_isSaidBefore 42 = .ok (.aload_n 1, 1) := by decide +kernel
theorem dX10_isSaidBefore_43 : decode cX10_isSaidBefore 43 = .ok (.getfield 165, 3) := by decide +kernel
theorem dX10_isSaidBefore_46 : decode cX10_isSaidBefore 46 = .ok (.iload 4, 2) := by decide +kernel
theorem dX10_isSaidBefore_48 : decode cX10_isSaidBefore 48 = .ok (.iaload, 1) := by decide +kernel
theorem dX10_isSaidBefore_49 : decode cX10_isSaidBefore 49 = .ok (.aload_n 1, 1) := by decide +kernel
theorem dX10_isSaidBefore_50 : decode cX10_isSaidBefore 50 = .ok (.getfield 162, 3) := by decide +kernel
theorem dX10_isSaidBefore_53 : decode cX10_isSaidBefore 53 = .ok (.aload_n 1, 1) := by decide +kernel
theorem dX10_isSaidBefore_54 : decode cX10_isSaidBefore 54 = .ok (.getfield 165, 3) := by decide +kernel
theorem dX10_isSaidBefore_57 : decode cX10_isSaidBefore 57 = .ok (.iload_n 3, 1) := by decide +kernel
theorem dX10_isSaidBefore_58 : decode cX10_isSaidBefore 58 = .ok (.iaload, 1) := by decide +kernel
theorem dX10_isSaidBefore_59 : decode cX10_isSaidBefore 59 = .ok (.aload_n 1, 1) := by decide +kernel
theorem dX10_isSaidBefore_60 : decode cX10_isSaidBefore 60 = .ok (.getfield 159, 3) := by decide +kernel
theorem dX10_isSaidBefore_63 : decode cX10_isSaidBefore 63 = .ok (.iload_n 3, 1) := by decide +kernel
theorem dX10_isSaidBefore_64 : decode cX10_isSaidBefore 64 = .ok (.iaload, 1) := by decide +kernel
theorem dX10_isSaidBefore_65 : decode cX10_isSaidBefore 65 = .ok (.invokestatic 168, 3) := by decide +kernel
theorem dX10_isSaidBefore_68 : decode cX10_isSaidBefore 68 = .ok (.ifCond .ne 5, 3) := by decide +kernel
theorem dX10_isSaidBefore_71 : decode cX10_isSaidBefore 71 = .ok (.iconst 1, 1) := by decide +kernel
theorem dX10_isSaidBefore_72 : decode cX10_isSaidBefore 72 = .ok (.ireturn, 1) := by decide +kernel
theorem dX10_isSaidBefore_73 : decode cX10_isSaidBefore 73 = .ok (.iinc 4 1, 3) := by decide +kernel
theorem dX10_isSaidBefore_76 : decode cX10_isSaidBefore 76 = .ok (.goto (-71), 3) := by decide +kernel
theorem dX10_isSaidBefore_79 : decode cX10_isSaidBefore 79 = .ok (.iconst 0, 1) := by decide +kernel
theorem dX10_isSaidBefore_80 : decode cX10_isSaidBefore 80 = .ok (.ireturn, 1) := by decide +kernel
abbrev rmX10_isSaidBefore : Room := { frames := 2, cells := 0, slots := 0, locals := 48 }
set_option maxHeartbeats 4000000 in
set_option maxRecDepth 100000 in
theorem wB_X10_isSaidBefore_5 {G : mG} {F : Nat} {x : mXT} {sz : Nat} {r0 : Int32} {M0 : mM} (X : mCX G RX10 cX10_isSaidBefore 5 (some .boolean) "isSaidBefore" rmX10_isSaidBefore x) (hQ : mQI x r0 M0 (sz, 0, 0)) : ∀ (n : Nat) (l1 : Nat) (l2 : Int32) (l3 : Int32) (l4 : Int32) (M : mM), B_X10_isSaidBefore_5 G F n l1 l2 l3 l4 M = some (r0, M0) → WW x (sz, 0, 0) M 5 [(1, .ref l1), (2, .int l2), (3, .int l3), (4, .int l4)] [] := by
  intro n
  induction n with
  | zero =>
    intro l1 l2 l3 l4 M h
    exact nomatch (show (none : Option (Int32 × mM)) = some (r0, M0) from h)
  | succ n ih =>
    intro l1 l2 l3 l4 M h
    rw [B_X10_isSaidBefore_5] at h
    refine ww_iload 5 X dX10_isSaidBefore_5 3 rfl ?_
    refine ww_iload_n 7 X dX10_isSaidBefore_7 2 rfl rfl ?_
    refine ww_icmp_ge 8 79 X dX10_isSaidBefore_8 (by decide) (fun q => ?_) (fun q => ?_)
    · replace h := (if_pos q).symm.trans h
      refine ww_iconst 79 X (v := (0 : Int32)) dX10_isSaidBefore_79 (by decide) ?_
      exact ww_zretE 80 X hQ dX10_isSaidBefore_80 h
    · replace h := (if_neg q).symm.trans h
      refine ww_aload_n 11 X dX10_isSaidBefore_11 0 rfl rfl ?_
      obtain ⟨v12, e12, h⟩ := bO_some h
      refine ww_getR 12 X dX10_isSaidBefore_12 fG_X10_149 e12 ?_
      refine ww_iload 15 X dX10_isSaidBefore_15 3 rfl ?_
      obtain ⟨v17, e17, h⟩ := bO_some h
      refine ww_iald 17 X dX10_isSaidBefore_17 e17 ?_
      refine ww_iload_n 18 X dX10_isSaidBefore_18 1 rfl rfl ?_
      refine ww_icmp_ne 19 73 X dX10_isSaidBefore_19 (by decide) (fun q => ?_) (fun q => ?_)
      · replace h := (if_neg q).symm.trans h
        refine ww_iinc 73 X dX10_isSaidBefore_73 (lv' := [(1, .ref l1), (2, .int l2), (3, .int l3), (4, .int (l4 + 1))]) 3 rfl rfl (by decide) [1, 2, 3, 0] rfl ?_
        refine ww_goto 76 5 X dX10_isSaidBefore_76 (by decide) ?_
        exact (ih _ _ _ _ _ h)
      · replace h := (if_pos q).symm.trans h
        refine ww_aload_n 22 X dX10_isSaidBefore_22 0 rfl rfl ?_
        obtain ⟨v23, e23, h⟩ := bO_some h
        refine ww_getR 23 X dX10_isSaidBefore_23 fG_X10_159 e23 ?_
        refine ww_iload 26 X dX10_isSaidBefore_26 3 rfl ?_
        obtain ⟨v28, e28, h⟩ := bO_some h
        refine ww_iald 28 X dX10_isSaidBefore_28 e28 ?_
        refine ww_aload_n 29 X dX10_isSaidBefore_29 0 rfl rfl ?_
        obtain ⟨v30, e30, h⟩ := bO_some h
        refine ww_getR 30 X dX10_isSaidBefore_30 fG_X10_159 e30 ?_
        refine ww_iload_n 33 X dX10_isSaidBefore_33 2 rfl rfl ?_
        obtain ⟨v34, e34, h⟩ := bO_some h
        refine ww_iald 34 X dX10_isSaidBefore_34 e34 ?_
        refine ww_icmp_ne 35 73 X dX10_isSaidBefore_35 (by decide) (fun q => ?_) (fun q => ?_)
        · replace h := (if_neg q).symm.trans h
          refine ww_iinc 73 X dX10_isSaidBefore_73 (lv' := [(1, .ref l1), (2, .int l2), (3, .int l3), (4, .int (l4 + 1))]) 3 rfl rfl (by decide) [1, 2, 3, 0] rfl ?_
          refine ww_goto 76 5 X dX10_isSaidBefore_76 (by decide) ?_
          exact (ih _ _ _ _ _ h)
        · replace h := (if_pos q).symm.trans h
          refine ww_aload_n 38 X dX10_isSaidBefore_38 0 rfl rfl ?_
          obtain ⟨v39, e39, h⟩ := bO_some h
          refine ww_getR 39 X dX10_isSaidBefore_39 fG_X10_162 e39 ?_
          refine ww_aload_n 42 X dX10_isSaidBefore_42 0 rfl rfl ?_
          obtain ⟨v43, e43, h⟩ := bO_some h
          refine ww_getR 43 X dX10_isSaidBefore_43 fG_X10_165 e43 ?_
          refine ww_iload 46 X dX10_isSaidBefore_46 3 rfl ?_
          obtain ⟨v48, e48, h⟩ := bO_some h
          refine ww_iald 48 X dX10_isSaidBefore_48 e48 ?_
          refine ww_aload_n 49 X dX10_isSaidBefore_49 0 rfl rfl ?_
          obtain ⟨v50, e50, h⟩ := bO_some h
          refine ww_getR 50 X dX10_isSaidBefore_50 fG_X10_162 e50 ?_
          refine ww_aload_n 53 X dX10_isSaidBefore_53 0 rfl rfl ?_
          obtain ⟨v54, e54, h⟩ := bO_some h
          refine ww_getR 54 X dX10_isSaidBefore_54 fG_X10_165 e54 ?_
          refine ww_iload_n 57 X dX10_isSaidBefore_57 2 rfl rfl ?_
          obtain ⟨v58, e58, h⟩ := bO_some h
          refine ww_iald 58 X dX10_isSaidBefore_58 e58 ?_
          refine ww_aload_n 59 X dX10_isSaidBefore_59 0 rfl rfl ?_
          obtain ⟨v60, e60, h⟩ := bO_some h
          refine ww_getR 60 X dX10_isSaidBefore_60 fG_X10_159 e60 ?_
          refine ww_iload_n 63 X dX10_isSaidBefore_63 2 rfl rfl ?_
          obtain ⟨v64, e64, h⟩ := bO_some h
          refine ww_iald 64 X dX10_isSaidBefore_64 e64 ?_
          obtain ⟨v65, M65, e65, h⟩ := bP_some h
          refine ww_callSI0 65 X dX10_isSaidBefore_65 mY_X0_compare mL_X10_168 (As := [.ref v39, .int v48, .ref v50, .int v58, .int v64]) (rest := []) rfl rfl ⟨Nat.le_of_ble_eq_true rfl, Nat.le_of_ble_eq_true rfl⟩ (Nat.le_of_ble_eq_true rfl) (fun l D A => c_X0_compare l D A e65) ?_
          refine ww_if_ne 68 73 X dX10_isSaidBefore_68 (by decide) (fun q => ?_) (fun q => ?_)
          · replace h := (if_neg q).symm.trans h
            refine ww_iinc 73 X dX10_isSaidBefore_73 (lv' := [(1, .ref l1), (2, .int l2), (3, .int l3), (4, .int (l4 + 1))]) 3 rfl rfl (by decide) [1, 2, 3, 0] rfl ?_
            refine ww_goto 76 5 X dX10_isSaidBefore_76 (by decide) ?_
            exact (ih _ _ _ _ _ h)
          · replace h := (if_pos q).symm.trans h
            refine ww_iconst 71 X (v := (1 : Int32)) dX10_isSaidBefore_71 (by decide) ?_
            exact ww_zretE 72 X hQ dX10_isSaidBefore_72 h
set_option maxHeartbeats 4000000 in
set_option maxRecDepth 100000 in
theorem wP_X10_isSaidBefore {G : mG} {F : Nat} {x : mXT} {sz : Nat} {r0 : Int32} {M0 : mM} (X : mCX G RX10 cX10_isSaidBefore 5 (some .boolean) "isSaidBefore" rmX10_isSaidBefore x) (hQ : mQI x r0 M0 (sz, 0, 0)) {l0 : Nat} {l1 : Nat} {l2 : Int32} {l3 : Int32} {M : mM} (h : P_X10_isSaidBefore G F l0 l1 l2 l3 M = some (r0, M0)) : WW x (sz, 0, 0) M 0 [(0, .ref l0), (1, .ref l1), (2, .int l2), (3, .int l3)] [] := by
  unfold P_X10_isSaidBefore at h
  refine ww_iload_n 0 X dX10_isSaidBefore_0 2 rfl rfl ?_
  refine ww_iconst 1 X (v := (1 : Int32)) dX10_isSaidBefore_1 (by decide) ?_
  refine ww_iadd 2 X dX10_isSaidBefore_2 ?_
  refine ww_istore 3 X dX10_isSaidBefore_3 (lv' := [(0, .ref l0), (1, .ref l1), (2, .int l2), (3, .int l3), (4, .int (l2 + (1 : Int32)))]) (by decide) [1, 2, 3, 4, 0] rfl ?_
  exact ww_sub [1, 2, 3, 4] rfl (wB_X10_isSaidBefore_5 X hQ F _ _ _ _ _ h)
theorem c_X10_isSaidBefore {G : mG} {F sz : Nat} {r0 : Int32} {M0 : mM} (l : Launch) (D : mD) (A : Nat → Prop) {l0 : Nat} {l1 : Nat} {l2 : Int32} {l3 : Int32} {M : mM} (h : P_X10_isSaidBefore G F l0 l1 l2 l3 M = some (r0, M0)) : mMetI l D G A yX10_isSaidBefore cX10_isSaidBefore 5 (some .boolean) 2 48 0 0 [.ref l0, .ref l1, .int l2, .int l3] M sz r0 M0 sz := mMetI_of l D G A (by decide) (Nat.le_of_ble_eq_true rfl) (fun x X hQ => wP_X10_isSaidBefore X hQ h)
/-! SealedTokens$Token.isCritSound(LSealedTokens$Text;I)Z -/
theorem dX10_isCritSound_0 : decode cX10_isCritSound 0 = .ok (.aload_n 1, 1) := by decide +kernel
theorem dX10_isCritSound_1 : decode cX10_isCritSound 1 = .ok (.iload_n 2, 1) := by decide +kernel
theorem dX10_isCritSound_2 : decode cX10_isCritSound 2 = .ok (.iconst 5, 1) := by decide +kernel
theorem dX10_isCritSound_3 : decode cX10_isCritSound 3 = .ok (.invokevirtual 129, 3) := by decide +kernel
theorem dX10_isCritSound_6 : decode cX10_isCritSound 6 = .ok (.ifCond .eq 12, 3) := by decide +kernel
theorem dX10_isCritSound_9 : decode cX10_isCritSound 9 = .ok (.aload_n 1, 1) := by decide +kernel
theorem dX10_isCritSound_10 : decode cX10_isCritSound 10 = .ok (.getfield 143, 3) := by decide +kernel
theorem dX10_isCritSound_13 : decode cX10_isCritSound 13 = .ok (.iload_n 2, 1) := by decide +kernel
theorem dX10_isCritSound_14 : decode cX10_isCritSound 14 = .ok (.iaload, 1) := by decide +kernel
theorem dX10_isCritSound_15 : decode cX10_isCritSound 15 = .ok (.ifCond .ne 5, 3) := by decide +kernel
theorem dX10_isCritSound_18 : decode cX10_isCritSound 18 = .ok (.iconst 0, 1) := by decide +kernel
theorem dX10_isCritSound_19 : decode cX10_isCritSound 19 = .ok (.ireturn, 1) := by decide +kernel
theorem dX10_isCritSound_20 : decode cX10_isCritSound 20 = .ok (.iload_n 2, 1) := by decide +kernel
theorem dX10_isCritSound_21 : decode cX10_isCritSound 21 = .ok (.iconst 1, 1) := by decide +kernel
theorem dX10_isCritSound_22 : decode cX10_isCritSound 22 = .ok (.iadd, 1) := by decide +kernel
theorem dX10_isCritSound_23 : decode cX10_isCritSound 23 = .ok (.istore_n 3, 1) := by decide +kernel
theorem dX10_isCritSound_24 : decode cX10_isCritSound 24 = .ok (.iload_n 3, 1) := by decide +kernel
theorem dX10_isCritSound_25 : decode cX10_isCritSound 25 = .ok (.aload_n 1, 1) := by decide +kernel
theorem dX10_isCritSound_26 : decode cX10_isCritSound 26 = .ok (.getfield 146, 3) := by decide +kernel
theorem dX10_isCritSound_29 : decode cX10_isCritSound 29 = .ok (.if_icmp .ge 41, 3) := by decide +kernel
theorem dX10_isCritSound_32 : decode cX10_isCritSound 32 = .ok (.aload_n 1, 1) := by decide +kernel
theorem dX10_isCritSound_33 : decode cX10_isCritSound 33 = .ok (.getfield 149, 3) := by decide +kernel
theorem dX10_isCritSound_36 : decode cX10_isCritSound 36 = .ok (.iload_n 3, 1) := by decide +kernel
theorem dX10_isCritSound_37 : decode cX10_isCritSound 37 = .ok (.iaload, 1) := by decide +kernel
theorem dX10_isCritSound_38 : decode cX10_isCritSound 38 = .ok (.iload_n 2, 1) := by decide +kernel
theorem dX10_isCritSound_39 : decode cX10_isCritSound 39 = .ok (.if_icmp .ne 25, 3) := by decide +kernel
theorem dX10_isCritSound_42 : decode cX10_isCritSound 42 = .ok (.aload_n 1, 1) := by decide +kernel
theorem dX10_isCritSound_43 : decode cX10_isCritSound 43 = .ok (.getfield 152, 3) := by decide +kernel
theorem dX10_isCritSound_46 : decode cX10_isCritSound 46 = .ok (.iload_n 3, 1) := by decide +kernel
theorem dX10_isCritSound_47 : decode cX10_isCritSound 47 = .ok (.iaload, 1) := by decide +kernel
theorem dX10_isCritSound_48 : decode cX10_isCritSound 48 = .ok (.iconst 4, 1) := by decide +kernel
theorem dX10_isCritSound_49 : decode cX10_isCritSound 49 = .ok (.if_icmp .ne 13, 3) := by decide +kernel
theorem dX10_isCritSound_52 : decode cX10_isCritSound 52 = .ok (.aload_n 0, 1) := by decide +kernel
theorem dX10_isCritSound_53 : decode cX10_isCritSound 53 = .ok (.aload_n 1, 1) := by decide +kernel
theorem dX10_isCritSound_54 : decode cX10_isCritSound 54 = .ok (.iload_n 2, 1) := by decide +kernel
theorem dX10_isCritSound_55 : decode cX10_isCritSound 55 = .ok (.iload_n 3, 1) := by decide +kernel
theorem dX10_isCritSound_56 : decode cX10_isCritSound 56 = .ok (.invokevirtual 155, 3) := by decide +kernel
theorem dX10_isCritSound_59 : decode cX10_isCritSound 59 = .ok (.ifCond .eq 5, 3) := by decide +kernel
theorem dX10_isCritSound_62 : decode cX10_isCritSound 62 = .ok (.iconst 0, 1) := by decide +kernel
theorem dX10_isCritSound_63 : decode cX10_isCritSound 63 = .ok (.ireturn, 1) := by decide +kernel
theorem dX10_isCritSound_64 : decode cX10_isCritSound 64 = .ok (.iinc 3 1, 3) := by decide +kernel
theorem dX10_isCritSound_67 : decode cX10_isCritSound 67 = .ok (.goto (-43), 3) := by decide +kernel
theorem dX10_isCritSound_70 : decode cX10_isCritSound 70 = .ok (.iconst 1, 1) := by decide +kernel
theorem dX10_isCritSound_71 : decode cX10_isCritSound 71 = .ok (.ireturn, 1) := by decide +kernel
abbrev rmX10_isCritSound : Room := { frames := 3, cells := 0, slots := 0, locals := 72 }
set_option maxHeartbeats 4000000 in
set_option maxRecDepth 100000 in
theorem wB_X10_isCritSound_24 {G : mG} {F : Nat} {x : mXT} {sz : Nat} {r0 : Int32} {M0 : mM} (X : mCX G RX10 cX10_isCritSound 4 (some .boolean) "isCritSound" rmX10_isCritSound x) (hQ : mQI x r0 M0 (sz, 0, 0)) : ∀ (n : Nat) (l0 : Nat) (l1 : Nat) (l2 : Int32) (l3 : Int32) (M : mM), B_X10_isCritSound_24 G F n l0 l1 l2 l3 M = some (r0, M0) → WW x (sz, 0, 0) M 24 [(0, .ref l0), (1, .ref l1), (2, .int l2), (3, .int l3)] [] := by
  intro n
  induction n with
  | zero =>
    intro l0 l1 l2 l3 M h
    exact nomatch (show (none : Option (Int32 × mM)) = some (r0, M0) from h)
  | succ n ih =>
    intro l0 l1 l2 l3 M h
    rw [B_X10_isCritSound_24] at h
    refine ww_iload_n 24 X dX10_isCritSound_24 3 rfl rfl ?_
    refine ww_aload_n 25 X dX10_isCritSound_25 1 rfl rfl ?_
    obtain ⟨v26, e26, h⟩ := bO_some h
    refine ww_getI 26 X dX10_isCritSound_26 fG_X10_146 e26 ?_
    refine ww_icmp_ge 29 70 X dX10_isCritSound_29 (by decide) (fun q => ?_) (fun q => ?_)
    · replace h := (if_pos q).symm.trans h
      refine ww_iconst 70 X (v := (1 : Int32)) dX10_isCritSound_70 (by decide) ?_
      exact ww_zretE 71 X hQ dX10_isCritSound_71 h
    · replace h := (if_neg q).symm.trans h
      refine ww_aload_n 32 X dX10_isCritSound_32 1 rfl rfl ?_
      obtain ⟨v33, e33, h⟩ := bO_some h
      refine ww_getR 33 X dX10_isCritSound_33 fG_X10_149 e33 ?_
      refine ww_iload_n 36 X dX10_isCritSound_36 3 rfl rfl ?_
      obtain ⟨v37, e37, h⟩ := bO_some h
      refine ww_iald 37 X dX10_isCritSound_37 e37 ?_
      refine ww_iload_n 38 X dX10_isCritSound_38 2 rfl rfl ?_
      refine ww_icmp_ne 39 64 X dX10_isCritSound_39 (by decide) (fun q => ?_) (fun q => ?_)
      · replace h := (if_neg q).symm.trans h
        refine ww_iinc 64 X dX10_isCritSound_64 (lv' := [(0, .ref l0), (1, .ref l1), (2, .int l2), (3, .int (l3 + 1))]) 3 rfl rfl (by decide) [1, 2, 3, 0] rfl ?_
        refine ww_goto 67 24 X dX10_isCritSound_67 (by decide) ?_
        exact (ih _ _ _ _ _ h)
      · replace h := (if_pos q).symm.trans h
        refine ww_aload_n 42 X dX10_isCritSound_42 1 rfl rfl ?_
        obtain ⟨v43, e43, h⟩ := bO_some h
        refine ww_getR 43 X dX10_isCritSound_43 fG_X10_152 e43 ?_
        refine ww_iload_n 46 X dX10_isCritSound_46 3 rfl rfl ?_
        obtain ⟨v47, e47, h⟩ := bO_some h
        refine ww_iald 47 X dX10_isCritSound_47 e47 ?_
        refine ww_iconst 48 X (v := (4 : Int32)) dX10_isCritSound_48 (by decide) ?_
        refine ww_icmp_ne 49 62 X dX10_isCritSound_49 (by decide) (fun q => ?_) (fun q => ?_)
        · replace h := (if_neg q).symm.trans h
          refine ww_iconst 62 X (v := (0 : Int32)) dX10_isCritSound_62 (by decide) ?_
          exact ww_zretE 63 X hQ dX10_isCritSound_63 h
        · replace h := (if_pos q).symm.trans h
          refine ww_aload_n 52 X dX10_isCritSound_52 0 rfl rfl ?_
          refine ww_aload_n 53 X dX10_isCritSound_53 1 rfl rfl ?_
          refine ww_iload_n 54 X dX10_isCritSound_54 2 rfl rfl ?_
          refine ww_iload_n 55 X dX10_isCritSound_55 3 rfl rfl ?_
          obtain ⟨_, f56, h⟩ := bO_some h
          obtain ⟨v56, M56, e56, h⟩ := bP_some h
          refine ww_callVI0 56 X dX10_isCritSound_56 mY_X10_isSaidBefore mL_X10_155 (rcv_spec f56) ⟨_, _, rfl⟩ (by decide) (As := [.ref l1, .int l2, .int l3]) (rest := []) rfl rfl ⟨Nat.le_of_ble_eq_true rfl, Nat.le_of_ble_eq_true rfl⟩ (Nat.le_of_ble_eq_true rfl) (fun l D A => c_X10_isSaidBefore l D A e56) ?_
          refine ww_if_eq 59 64 X dX10_isCritSound_59 (by decide) (fun q => ?_) (fun q => ?_)
          · replace h := (if_pos q).symm.trans h
            refine ww_iinc 64 X dX10_isCritSound_64 (lv' := [(0, .ref l0), (1, .ref l1), (2, .int l2), (3, .int (l3 + 1))]) 3 rfl rfl (by decide) [1, 2, 3, 0] rfl ?_
            refine ww_goto 67 24 X dX10_isCritSound_67 (by decide) ?_
            exact (ih _ _ _ _ _ h)
          · replace h := (if_neg q).symm.trans h
            refine ww_iconst 62 X (v := (0 : Int32)) dX10_isCritSound_62 (by decide) ?_
            exact ww_zretE 63 X hQ dX10_isCritSound_63 h
set_option maxHeartbeats 4000000 in
set_option maxRecDepth 100000 in
theorem wP_X10_isCritSound {G : mG} {F : Nat} {x : mXT} {sz : Nat} {r0 : Int32} {M0 : mM} (X : mCX G RX10 cX10_isCritSound 4 (some .boolean) "isCritSound" rmX10_isCritSound x) (hQ : mQI x r0 M0 (sz, 0, 0)) {l0 : Nat} {l1 : Nat} {l2 : Int32} {M : mM} (h : P_X10_isCritSound G F l0 l1 l2 M = some (r0, M0)) : WW x (sz, 0, 0) M 0 [(0, .ref l0), (1, .ref l1), (2, .int l2)] [] := by
  unfold P_X10_isCritSound at h
  refine ww_aload_n 0 X dX10_isCritSound_0 1 rfl rfl ?_
  refine ww_iload_n 1 X dX10_isCritSound_1 2 rfl rfl ?_
  refine ww_iconst 2 X (v := (5 : Int32)) dX10_isCritSound_2 (by decide) ?_
  obtain ⟨_, f3, h⟩ := bO_some h
  obtain ⟨v3, M3, e3, h⟩ := bP_some h
  refine ww_callVI0 3 X dX10_isCritSound_3 mY_X9_isKind mL_X10_129 (rcv_spec f3) ⟨_, _, rfl⟩ (by decide) (As := [.int l2, .int (5 : Int32)]) (rest := []) rfl rfl ⟨Nat.le_of_ble_eq_true rfl, Nat.le_of_ble_eq_true rfl⟩ (Nat.le_of_ble_eq_true rfl) (fun l D A => c_X9_isKind l D A e3) ?_
  refine ww_if_eq 6 18 X dX10_isCritSound_6 (by decide) (fun q => ?_) (fun q => ?_)
  · replace h := (if_pos q).symm.trans h
    refine ww_iconst 18 X (v := (0 : Int32)) dX10_isCritSound_18 (by decide) ?_
    exact ww_zretE 19 X hQ dX10_isCritSound_19 h
  · replace h := (if_neg q).symm.trans h
    refine ww_aload_n 9 X dX10_isCritSound_9 1 rfl rfl ?_
    obtain ⟨v10, e10, h⟩ := bO_some h
    refine ww_getR 10 X dX10_isCritSound_10 fG_X10_143 e10 ?_
    refine ww_iload_n 13 X dX10_isCritSound_13 2 rfl rfl ?_
    obtain ⟨v14, e14, h⟩ := bO_some h
    refine ww_iald 14 X dX10_isCritSound_14 e14 ?_
    refine ww_if_ne 15 20 X dX10_isCritSound_15 (by decide) (fun q => ?_) (fun q => ?_)
    · replace h := (if_neg q).symm.trans h
      refine ww_iload_n 20 X dX10_isCritSound_20 2 rfl rfl ?_
      refine ww_iconst 21 X (v := (1 : Int32)) dX10_isCritSound_21 (by decide) ?_
      refine ww_iadd 22 X dX10_isCritSound_22 ?_
      refine ww_istore_n 23 X dX10_isCritSound_23 (lv' := [(0, .ref l0), (1, .ref l1), (2, .int l2), (3, .int (l2 + (1 : Int32)))]) rfl (by decide) [1, 2, 3, 0] rfl ?_
      exact (wB_X10_isCritSound_24 X hQ F _ _ _ _ _ h)
    · replace h := (if_pos q).symm.trans h
      refine ww_iconst 18 X (v := (0 : Int32)) dX10_isCritSound_18 (by decide) ?_
      exact ww_zretE 19 X hQ dX10_isCritSound_19 h
theorem c_X10_isCritSound {G : mG} {F sz : Nat} {r0 : Int32} {M0 : mM} (l : Launch) (D : mD) (A : Nat → Prop) {l0 : Nat} {l1 : Nat} {l2 : Int32} {M : mM} (h : P_X10_isCritSound G F l0 l1 l2 M = some (r0, M0)) : mMetI l D G A yX10_isCritSound cX10_isCritSound 4 (some .boolean) 3 72 0 0 [.ref l0, .ref l1, .int l2] M sz r0 M0 sz := mMetI_of l D G A (by decide) (Nat.le_of_ble_eq_true rfl) (fun x X hQ => wP_X10_isCritSound X hQ h)
/-! SealedTokens$Token.isHeadSound(LSealedTokens$Text;I)Z -/
theorem dX10_isHeadSound_0 : decode cX10_isHeadSound 0 = .ok (.aload_n 0, 1) := by decide +kernel
theorem dX10_isHeadSound_1 : decode cX10_isHeadSound 1 = .ok (.aload_n 1, 1) := by decide +kernel
theorem dX10_isHeadSound_2 : decode cX10_isHeadSound 2 = .ok (.iconst 0, 1) := by decide +kernel
theorem dX10_isHeadSound_3 : decode cX10_isHeadSound 3 = .ok (.ldc 124, 2) := by decide +kernel
theorem dX10_isHeadSound_5 : decode cX10_isHeadSound 5 = .ok (.invokevirtual 125, 3) := by decide +kernel
theorem dX10_isHeadSound_8 : decode cX10_isHeadSound 8 = .ok (.putfield 107, 3) := by decide +kernel
theorem dX10_isHeadSound_11 : decode cX10_isHeadSound 11 = .ok (.aload_n 1, 1) := by decide +kernel
theorem dX10_isHeadSound_12 : decode cX10_isHeadSound 12 = .ok (.iconst 0, 1) := by decide +kernel
theorem dX10_isHeadSound_13 : decode cX10_isHeadSound 13 = .ok (.bipush 6, 2) := by decide +kernel
theorem dX10_isHeadSound_15 : decode cX10_isHeadSound 15 = .ok (.invokevirtual 129, 3) := by decide +kernel
theorem dX10_isHeadSound_18 : decode cX10_isHeadSound 18 = .ok (.ifCond .eq 47, 3) := by decide +kernel
theorem dX10_isHeadSound_21 : decode cX10_isHeadSound 21 = .ok (.aload_n 1, 1) := by decide +kernel
theorem dX10_isHeadSound_22 : decode cX10_isHeadSound 22 = .ok (.aload_n 1, 1) := by decide +kernel
theorem dX10_isHeadSound_23 : decode cX10_isHeadSound 23 = .ok (.iconst 0, 1) := by decide +kernel
theorem dX10_isHeadSound_24 : decode cX10_isHeadSound 24 = .ok (.ldc 133, 2) := by decide +kernel
theorem dX10_isHeadSound_26 : decode cX10_isHeadSound 26 = .ok (.invokevirtual 125, 3) := by decide +kernel
theorem dX10_isHeadSound_29 : decode cX10_isHeadSound 29 = .ok (.iconst 4, 1) := by decide +kernel
theorem dX10_isHeadSound_30 : decode cX10_isHeadSound 30 = .ok (.invokevirtual 129, 3) := by decide +kernel
theorem dX10_isHeadSound_33 : decode cX10_isHeadSound 33 = .ok (.ifCond .eq 32, 3) := by decide +kernel
theorem dX10_isHeadSound_36 : decode cX10_isHeadSound 36 = .ok (.aload_n 1, 1) := by decide +kernel
theorem dX10_isHeadSound_37 : decode cX10_isHeadSound 37 = .ok (.aload_n 0, 1) := by decide +kernel
theorem dX10_isHeadSound_38 : decode cX10_isHeadSound 38 = .ok (.getfield 107, 3) := by decide +kernel
theorem dX10_isHeadSound_41 : decode cX10_isHeadSound 41 = .ok (.invokevirtual 135, 3) := by decide +kernel
theorem dX10_isHeadSound_44 : decode cX10_isHeadSound 44 = .ok (.ifCond .eq 21, 3) := by decide +kernel
theorem dX10_isHeadSound_47 : decode cX10_isHeadSound 47 = .ok (.iload_n 2, 1) := by decide +kernel
theorem dX10_isHeadSound_48 : decode cX10_isHeadSound 48 = .ok (.iconst (-1), 1) := by decide +kernel
theorem dX10_isHeadSound_49 : decode cX10_isHeadSound 49 = .ok (.if_icmp .eq 12, 3) := by decide +kernel
theorem dX10_isHeadSound_52 : decode cX10_isHeadSound 52 = .ok (.aload_n 0, 1) := by decide +kernel
theorem dX10_isHeadSound_53 : decode cX10_isHeadSound 53 = .ok (.aload_n 1, 1) := by decide +kernel
theorem dX10_isHeadSound_54 : decode cX10_isHeadSound 54 = .ok (.iload_n 2, 1) := by decide +kernel
theorem dX10_isHeadSound_55 : decode cX10_isHeadSound 55 = .ok (.invokevirtual 139, 3) := by decide +kernel
theorem dX10_isHeadSound_58 : decode cX10_isHeadSound 58 = .ok (.ifCond .eq 7, 3) := by decide +kernel
theorem dX10_isHeadSound_61 : decode cX10_isHeadSound 61 = .ok (.iconst 1, 1) := by decide +kernel
theorem dX10_isHeadSound_62 : decode cX10_isHeadSound 62 = .ok (.goto 4, 3) := by decide +kernel
theorem dX10_isHeadSound_65 : decode cX10_isHeadSound 65 = .ok (.iconst 0, 1) := by decide +kernel
theorem dX10_isHeadSound_66 : decode cX10_isHeadSound 66 = .ok (.ireturn, 1) := by decide +kernel
abbrev rmX10_isHeadSound : Room := { frames := 6, cells := 0, slots := 0, locals := 132 }
set_option maxHeartbeats 4000000 in
set_option maxRecDepth 100000 in
theorem wP_X10_isHeadSound {G : mG} {F : Nat} {x : mXT} {sz : Nat} {r0 : Int32} {M0 : mM} (X : mCX G RX10 cX10_isHeadSound 3 (some .boolean) "isHeadSound" rmX10_isHeadSound x) (hQ : mQI x r0 M0 (sz, 0, 0)) {l0 : Nat} {l1 : Nat} {l2 : Int32} {M : mM} (h : P_X10_isHeadSound G F l0 l1 l2 M = some (r0, M0)) : WW x (sz, 0, 0) M 0 [(0, .ref l0), (1, .ref l1), (2, .int l2)] [] := by
  unfold P_X10_isHeadSound at h
  refine ww_aload_n 0 X dX10_isHeadSound_0 0 rfl rfl ?_
  refine ww_aload_n 1 X dX10_isHeadSound_1 1 rfl rfl ?_
  refine ww_iconst 2 X (v := (0 : Int32)) dX10_isHeadSound_2 (by decide) ?_
  refine ww_lds 3 X (j := 55) dX10_isHeadSound_3 rfl ?_
  obtain ⟨_, f5, h⟩ := bO_some h
  obtain ⟨v5, M5, e5, h⟩ := bP_some h
  refine ww_callVI0 5 X dX10_isHeadSound_5 mY_X9_find mL_X10_125 (rcv_spec f5) ⟨_, _, rfl⟩ (by decide) (As := [.int (0 : Int32), .ref (G.1 55)]) (rest := [.ref l0]) rfl rfl ⟨Nat.le_of_ble_eq_true rfl, Nat.le_of_ble_eq_true rfl⟩ (Nat.le_of_ble_eq_true rfl) (fun l D A => c_X9_find l D A e5) ?_
  obtain ⟨M8, e8, h⟩ := bO_some h
  refine ww_putI 8 X dX10_isHeadSound_8 (fP_X10_107 _) e8 ?_
  refine ww_aload_n 11 X dX10_isHeadSound_11 1 rfl rfl ?_
  refine ww_iconst 12 X (v := (0 : Int32)) dX10_isHeadSound_12 (by decide) ?_
  refine ww_bipush 13 X (v := (6 : Int32)) dX10_isHeadSound_13 (by decide) ?_
  obtain ⟨_, f15, h⟩ := bO_some h
  obtain ⟨v15, M15, e15, h⟩ := bP_some h
  refine ww_callVI0 15 X dX10_isHeadSound_15 mY_X9_isKind mL_X10_129 (rcv_spec f15) ⟨_, _, rfl⟩ (by decide) (As := [.int (0 : Int32), .int (6 : Int32)]) (rest := []) rfl rfl ⟨Nat.le_of_ble_eq_true rfl, Nat.le_of_ble_eq_true rfl⟩ (Nat.le_of_ble_eq_true rfl) (fun l D A => c_X9_isKind l D A e15) ?_
  refine ww_if_eq 18 65 X dX10_isHeadSound_18 (by decide) (fun q => ?_) (fun q => ?_)
  · replace h := (if_pos q).symm.trans h
    refine ww_iconst 65 X (v := (0 : Int32)) dX10_isHeadSound_65 (by decide) ?_
    exact ww_zretE 66 X hQ dX10_isHeadSound_66 h
  · replace h := (if_neg q).symm.trans h
    refine ww_aload_n 21 X dX10_isHeadSound_21 1 rfl rfl ?_
    refine ww_aload_n 22 X dX10_isHeadSound_22 1 rfl rfl ?_
    refine ww_iconst 23 X (v := (0 : Int32)) dX10_isHeadSound_23 (by decide) ?_
    refine ww_lds 24 X (j := 56) dX10_isHeadSound_24 rfl ?_
    obtain ⟨_, f26, h⟩ := bO_some h
    obtain ⟨v26, M26, e26, h⟩ := bP_some h
    refine ww_callVI0 26 X dX10_isHeadSound_26 mY_X9_find mL_X10_125 (rcv_spec f26) ⟨_, _, rfl⟩ (by decide) (As := [.int (0 : Int32), .ref (G.1 56)]) (rest := [.ref l1]) rfl rfl ⟨Nat.le_of_ble_eq_true rfl, Nat.le_of_ble_eq_true rfl⟩ (Nat.le_of_ble_eq_true rfl) (fun l D A => c_X9_find l D A e26) ?_
    refine ww_iconst 29 X (v := (4 : Int32)) dX10_isHeadSound_29 (by decide) ?_
    obtain ⟨_, f30, h⟩ := bO_some h
    obtain ⟨v30, M30, e30, h⟩ := bP_some h
    refine ww_callVI0 30 X dX10_isHeadSound_30 mY_X9_isKind mL_X10_129 (rcv_spec f30) ⟨_, _, rfl⟩ (by decide) (As := [.int v26, .int (4 : Int32)]) (rest := []) rfl rfl ⟨Nat.le_of_ble_eq_true rfl, Nat.le_of_ble_eq_true rfl⟩ (Nat.le_of_ble_eq_true rfl) (fun l D A => c_X9_isKind l D A e30) ?_
    refine ww_if_eq 33 65 X dX10_isHeadSound_33 (by decide) (fun q => ?_) (fun q => ?_)
    · replace h := (if_pos q).symm.trans h
      refine ww_iconst 65 X (v := (0 : Int32)) dX10_isHeadSound_65 (by decide) ?_
      exact ww_zretE 66 X hQ dX10_isHeadSound_66 h
    · replace h := (if_neg q).symm.trans h
      refine ww_aload_n 36 X dX10_isHeadSound_36 1 rfl rfl ?_
      refine ww_aload_n 37 X dX10_isHeadSound_37 0 rfl rfl ?_
      obtain ⟨v38, e38, h⟩ := bO_some h
      refine ww_getI 38 X dX10_isHeadSound_38 fG_X10_107 e38 ?_
      obtain ⟨_, f41, h⟩ := bO_some h
      obtain ⟨v41, M41, e41, h⟩ := bP_some h
      refine ww_callVI0 41 X dX10_isHeadSound_41 mY_X9_isStringOrNone mL_X10_135 (rcv_spec f41) ⟨_, _, rfl⟩ (by decide) (As := [.int v38]) (rest := []) rfl rfl ⟨Nat.le_of_ble_eq_true rfl, Nat.le_of_ble_eq_true rfl⟩ (Nat.le_of_ble_eq_true rfl) (fun l D A => c_X9_isStringOrNone l D A e41) ?_
      refine ww_if_eq 44 65 X dX10_isHeadSound_44 (by decide) (fun q => ?_) (fun q => ?_)
      · replace h := (if_pos q).symm.trans h
        refine ww_iconst 65 X (v := (0 : Int32)) dX10_isHeadSound_65 (by decide) ?_
        exact ww_zretE 66 X hQ dX10_isHeadSound_66 h
      · replace h := (if_neg q).symm.trans h
        refine ww_iload_n 47 X dX10_isHeadSound_47 2 rfl rfl ?_
        refine ww_iconst 48 X (v := (-1 : Int32)) dX10_isHeadSound_48 (by decide) ?_
        refine ww_icmp_eq 49 61 X dX10_isHeadSound_49 (by decide) (fun q => ?_) (fun q => ?_)
        · replace h := (if_pos q).symm.trans h
          refine ww_iconst 61 X (v := (1 : Int32)) dX10_isHeadSound_61 (by decide) ?_
          refine ww_goto 62 66 X dX10_isHeadSound_62 (by decide) ?_
          exact ww_zretE 66 X hQ dX10_isHeadSound_66 h
        · replace h := (if_neg q).symm.trans h
          refine ww_aload_n 52 X dX10_isHeadSound_52 0 rfl rfl ?_
          refine ww_aload_n 53 X dX10_isHeadSound_53 1 rfl rfl ?_
          refine ww_iload_n 54 X dX10_isHeadSound_54 2 rfl rfl ?_
          obtain ⟨_, f55, h⟩ := bO_some h
          obtain ⟨v55, M55, e55, h⟩ := bP_some h
          refine ww_callVI0 55 X dX10_isHeadSound_55 mY_X10_isCritSound mL_X10_139 (rcv_spec f55) ⟨_, _, rfl⟩ (by decide) (As := [.ref l1, .int l2]) (rest := []) rfl rfl ⟨Nat.le_of_ble_eq_true rfl, Nat.le_of_ble_eq_true rfl⟩ (Nat.le_of_ble_eq_true rfl) (fun l D A => c_X10_isCritSound l D A e55) ?_
          refine ww_if_eq 58 65 X dX10_isHeadSound_58 (by decide) (fun q => ?_) (fun q => ?_)
          · replace h := (if_pos q).symm.trans h
            refine ww_iconst 65 X (v := (0 : Int32)) dX10_isHeadSound_65 (by decide) ?_
            exact ww_zretE 66 X hQ dX10_isHeadSound_66 h
          · replace h := (if_neg q).symm.trans h
            refine ww_iconst 61 X (v := (1 : Int32)) dX10_isHeadSound_61 (by decide) ?_
            refine ww_goto 62 66 X dX10_isHeadSound_62 (by decide) ?_
            exact ww_zretE 66 X hQ dX10_isHeadSound_66 h
theorem c_X10_isHeadSound {G : mG} {F sz : Nat} {r0 : Int32} {M0 : mM} (l : Launch) (D : mD) (A : Nat → Prop) {l0 : Nat} {l1 : Nat} {l2 : Int32} {M : mM} (h : P_X10_isHeadSound G F l0 l1 l2 M = some (r0, M0)) : mMetI l D G A yX10_isHeadSound cX10_isHeadSound 3 (some .boolean) 6 132 0 0 [.ref l0, .ref l1, .int l2] M sz r0 M0 sz := mMetI_of l D G A (by decide) (Nat.le_of_ble_eq_true rfl) (fun x X hQ => wP_X10_isHeadSound X hQ h)
/-! SealedTokens$Token.listed(LSealedTokens$Text;III)I -/
theorem dX10_listed_0 : decode cX10_listed 0 = .ok (.iconst 0, 1) := by decide +kernel
theorem dX10_listed_1 : decode cX10_listed 1 = .ok (.istore 4, 2) := by decide +kernel
theorem dX10_listed_3 : decode cX10_listed 3 = .ok (.iload 4, 2) := by decide +kernel
theorem dX10_listed_5 : decode cX10_listed 5 = .ok (.iload_n 3, 1) := by decide +kernel
theorem dX10_listed_6 : decode cX10_listed 6 = .ok (.if_icmp .ge 27, 3) := by decide +kernel
theorem dX10_listed_9 : decode cX10_listed 9 = .ok (.aload_n 0, 1) := by decide +kernel
theorem dX10_listed_10 : decode cX10_listed 10 = .ok (.iload_n 1, 1) := by decide +kernel
theorem dX10_listed_11 : decode cX10_listed 11 = .ok (.iload_n 2, 1) := by decide +kernel
theorem dX10_listed_12 : decode cX10_listed 12 = .ok (.iload 4, 2) := by decide +kernel
theorem dX10_listed_14 : decode cX10_listed 14 = .ok (.iadd, 1) := by decide +kernel
theorem dX10_listed_15 : decode cX10_listed 15 = .ok (.invokestatic 192, 3) := by decide +kernel
theorem dX10_listed_18 : decode cX10_listed 18 = .ok (.invokevirtual 182, 3) := by decide +kernel
theorem dX10_listed_21 : decode cX10_listed 21 = .ok (.ifCond .eq 6, 3) := by decide +kernel
theorem dX10_listed_24 : decode cX10_listed 24 = .ok (.iload 4, 2) := by decide +kernel
theorem dX10_listed_26 : decode cX10_listed 26 = .ok (.ireturn, 1) := by decide +kernel
theorem dX10_listed_27 : decode cX10_listed 27 = .ok (.iinc 4 1, 3) := by decide +kernel
theorem dX10_listed_30 : decode cX10_listed 30 = .ok (.goto (-27), 3) := by decide +kernel
theorem dX10_listed_33 : decode cX10_listed 33 = .ok (.iconst (-1), 1) := by decide +kernel
theorem dX10_listed_34 : decode cX10_listed 34 = .ok (.ireturn, 1) := by decide +kernel
abbrev rmX10_listed : Room := { frames := 6, cells := 0, slots := 0, locals := 131 }
set_option maxHeartbeats 4000000 in
set_option maxRecDepth 100000 in
theorem wB_X10_listed_3 {G : mG} {F : Nat} {x : mXT} {sz : Nat} {r0 : Int32} {M0 : mM} (X : mCX G RX10 cX10_listed 5 (some .int) "listed" rmX10_listed x) (hQ : mQI x r0 M0 (sz, 0, 0)) : ∀ (n : Nat) (l0 : Nat) (l1 : Int32) (l2 : Int32) (l3 : Int32) (l4 : Int32) (M : mM), B_X10_listed_3 G F n l0 l1 l2 l3 l4 M = some (r0, M0) → WW x (sz, 0, 0) M 3 [(0, .ref l0), (1, .int l1), (2, .int l2), (3, .int l3), (4, .int l4)] [] := by
  intro n
  induction n with
  | zero =>
    intro l0 l1 l2 l3 l4 M h
    exact nomatch (show (none : Option (Int32 × mM)) = some (r0, M0) from h)
  | succ n ih =>
    intro l0 l1 l2 l3 l4 M h
    rw [B_X10_listed_3] at h
    refine ww_iload 3 X dX10_listed_3 4 rfl ?_
    refine ww_iload_n 5 X dX10_listed_5 3 rfl rfl ?_
    refine ww_icmp_ge 6 33 X dX10_listed_6 (by decide) (fun q => ?_) (fun q => ?_)
    · replace h := (if_pos q).symm.trans h
      refine ww_iconst 33 X (v := (-1 : Int32)) dX10_listed_33 (by decide) ?_
      exact ww_iretE 34 X hQ dX10_listed_34 h
    · replace h := (if_neg q).symm.trans h
      refine ww_aload_n 9 X dX10_listed_9 0 rfl rfl ?_
      refine ww_iload_n 10 X dX10_listed_10 1 rfl rfl ?_
      refine ww_iload_n 11 X dX10_listed_11 2 rfl rfl ?_
      refine ww_iload 12 X dX10_listed_12 4 rfl ?_
      refine ww_iadd 14 X dX10_listed_14 ?_
      obtain ⟨v15, M15, e15, h⟩ := bP_some h
      refine ww_callSRN0 15 X dX10_listed_15 mY_X11_algName mL_X10_192 (As := [.int (l2 + l4)]) (rest := [.int l1, .ref l0]) rfl rfl ⟨Nat.le_of_ble_eq_true rfl, Nat.le_of_ble_eq_true rfl⟩ (Nat.le_of_ble_eq_true rfl) (fun l D A => c_X11_algName l D A e15) ?_
      obtain ⟨_, f18, h⟩ := bO_some h
      obtain ⟨v18, M18, e18, h⟩ := bP_some h
      refine ww_callVI0 18 X dX10_listed_18 mY_X9_says mL_X10_182 (rcv_spec f18) ⟨_, _, rfl⟩ (by decide) (As := [.int l1, .ref v15]) (rest := []) rfl rfl ⟨Nat.le_of_ble_eq_true rfl, Nat.le_of_ble_eq_true rfl⟩ (Nat.le_of_ble_eq_true rfl) (fun l D A => c_X9_says l D A e18) ?_
      refine ww_if_eq 21 27 X dX10_listed_21 (by decide) (fun q => ?_) (fun q => ?_)
      · replace h := (if_pos q).symm.trans h
        refine ww_iinc 27 X dX10_listed_27 (lv' := [(0, .ref l0), (1, .int l1), (2, .int l2), (3, .int l3), (4, .int (l4 + 1))]) 4 rfl rfl (by decide) [1, 2, 3, 4, 0] rfl ?_
        refine ww_goto 30 3 X dX10_listed_30 (by decide) ?_
        exact (ih _ _ _ _ _ _ h)
      · replace h := (if_neg q).symm.trans h
        refine ww_iload 24 X dX10_listed_24 4 rfl ?_
        exact ww_iretE 26 X hQ dX10_listed_26 h
set_option maxHeartbeats 4000000 in
set_option maxRecDepth 100000 in
theorem wP_X10_listed {G : mG} {F : Nat} {x : mXT} {sz : Nat} {r0 : Int32} {M0 : mM} (X : mCX G RX10 cX10_listed 5 (some .int) "listed" rmX10_listed x) (hQ : mQI x r0 M0 (sz, 0, 0)) {l0 : Nat} {l1 : Int32} {l2 : Int32} {l3 : Int32} {M : mM} (h : P_X10_listed G F l0 l1 l2 l3 M = some (r0, M0)) : WW x (sz, 0, 0) M 0 [(0, .ref l0), (1, .int l1), (2, .int l2), (3, .int l3)] [] := by
  unfold P_X10_listed at h
  refine ww_iconst 0 X (v := (0 : Int32)) dX10_listed_0 (by decide) ?_
  refine ww_istore 1 X dX10_listed_1 (lv' := [(0, .ref l0), (1, .int l1), (2, .int l2), (3, .int l3), (4, .int (0 : Int32))]) (by decide) [1, 2, 3, 4, 0] rfl ?_
  exact (wB_X10_listed_3 X hQ F _ _ _ _ _ _ h)
theorem c_X10_listed {G : mG} {F sz : Nat} {r0 : Int32} {M0 : mM} (l : Launch) (D : mD) (A : Nat → Prop) {l0 : Nat} {l1 : Int32} {l2 : Int32} {l3 : Int32} {M : mM} (h : P_X10_listed G F l0 l1 l2 l3 M = some (r0, M0)) : mMetI l D G A yX10_listed cX10_listed 5 (some .int) 6 131 0 0 [.ref l0, .int l1, .int l2, .int l3] M sz r0 M0 sz := mMetI_of l D G A (by decide) (Nat.le_of_ble_eq_true rfl) (fun x X hQ => wP_X10_listed X hQ h)
/-! SealedTokens$Token.signedHeadReason(LSealedTokens$Text;)I -/
theorem dX10_signedHeadReason_0 : decode cX10_signedHeadReason 0 = .ok (.aload_n 1, 1) := by decide +kernel
theorem dX10_signedHeadReason_1 : decode cX10_signedHeadReason 1 = .ok (.iconst 0, 1) := by decide +kernel
theorem dX10_signedHeadReason_2 : decode cX10_signedHeadReason 2 = .ok (.ldc 172, 2) := by decide +kernel
theorem dX10_signedHeadReason_4 : decode cX10_signedHeadReason 4 = .ok (.invokevirtual 125, 3) := by decide +kernel
theorem dX10_signedHeadReason_7 : decode cX10_signedHeadReason 7 = .ok (.istore_n 2, 1) := by decide +kernel
theorem dX10_signedHeadReason_8 : decode cX10_signedHeadReason 8 = .ok (.aload_n 0, 1) := by decide +kernel
theorem dX10_signedHeadReason_9 : decode cX10_signedHeadReason 9 = .ok (.aload_n 1, 1) := by decide +kernel
theorem dX10_signedHeadReason_10 : decode cX10_signedHeadReason 10 = .ok (.iload_n 2, 1) := by decide +kernel
theorem dX10_signedHeadReason_11 : decode cX10_signedHeadReason 11 = .ok (.invokevirtual 174, 3) := by decide +kernel
theorem dX10_signedHeadReason_14 : decode cX10_signedHeadReason 14 = .ok (.ifCond .ne 6, 3) := by decide +kernel
theorem dX10_signedHeadReason_17 : decode cX10_signedHeadReason 17 = .ok (.bipush (-23), 2) := by decide +kernel
theorem dX10_signedHeadReason_19 : decode cX10_signedHeadReason 19 = .ok (.ireturn, 1) := by decide +kernel
theorem dX10_signedHeadReason_20 : decode cX10_signedHeadReason 20 = .ok (.aload_n 1, 1) := by decide +kernel
theorem dX10_signedHeadReason_21 : decode cX10_signedHeadReason 21 = .ok (.iconst 0, 1) := by decide +kernel
theorem dX10_signedHeadReason_22 : decode cX10_signedHeadReason 22 = .ok (.ldc 177, 2) := by decide +kernel
theorem dX10_signedHeadReason_24 : decode cX10_signedHeadReason 24 = .ok (.invokevirtual 125, 3) := by decide +kernel
theorem dX10_signedHeadReason_27 : decode cX10_signedHeadReason 27 = .ok (.istore_n 3, 1) := by decide +kernel
theorem dX10_signedHeadReason_28 : decode cX10_signedHeadReason 28 = .ok (.aload_n 0, 1) := by decide +kernel
theorem dX10_signedHeadReason_29 : decode cX10_signedHeadReason 29 = .ok (.iload_n 2, 1) := by decide +kernel
theorem dX10_signedHeadReason_30 : decode cX10_signedHeadReason 30 = .ok (.iconst (-1), 1) := by decide +kernel
theorem dX10_signedHeadReason_31 : decode cX10_signedHeadReason 31 = .ok (.if_icmp .eq 16, 3) := by decide +kernel
theorem dX10_signedHeadReason_34 : decode cX10_signedHeadReason 34 = .ok (.aload_n 1, 1) := by decide +kernel
theorem dX10_signedHeadReason_35 : decode cX10_signedHeadReason 35 = .ok (.iload_n 3, 1) := by decide +kernel
theorem dX10_signedHeadReason_36 : decode cX10_signedHeadReason 36 = .ok (.iconst 1, 1) := by decide +kernel
theorem dX10_signedHeadReason_37 : decode cX10_signedHeadReason 37 = .ok (.invokevirtual 129, 3) := by decide +kernel
theorem dX10_signedHeadReason_40 : decode cX10_signedHeadReason 40 = .ok (.ifCond .eq 7, 3) := by decide +kernel
theorem dX10_signedHeadReason_43 : decode cX10_signedHeadReason 43 = .ok (.iconst 1, 1) := by decide +kernel
theorem dX10_signedHeadReason_44 : decode cX10_signedHeadReason 44 = .ok (.goto 4, 3) := by decide +kernel
theorem dX10_signedHeadReason_47 : decode cX10_signedHeadReason 47 = .ok (.iconst 0, 1) := by decide +kernel
theorem dX10_signedHeadReason_48 : decode cX10_signedHeadReason 48 = .ok (.putfield 179, 3) := by decide +kernel
theorem dX10_signedHeadReason_51 : decode cX10_signedHeadReason 51 = .ok (.iload_n 2, 1) := by decide +kernel
theorem dX10_signedHeadReason_52 : decode cX10_signedHeadReason 52 = .ok (.iconst (-1), 1) := by decide +kernel
theorem dX10_signedHeadReason_53 : decode cX10_signedHeadReason 53 = .ok (.if_icmp .eq 58, 3) := by decide +kernel
theorem dX10_signedHeadReason_56 : decode cX10_signedHeadReason 56 = .ok (.aload_n 1, 1) := by decide +kernel
theorem dX10_signedHeadReason_57 : decode cX10_signedHeadReason 57 = .ok (.getfield 143, 3) := by decide +kernel
theorem dX10_signedHeadReason_60 : decode cX10_signedHeadReason 60 = .ok (.iload_n 2, 1) := by decide +kernel
theorem dX10_signedHeadReason_61 : decode cX10_signedHeadReason 61 = .ok (.iaload, 1) := by decide +kernel
theorem dX10_signedHeadReason_62 : decode cX10_signedHeadReason 62 = .ok (.iconst 1, 1) := by decide +kernel
theorem dX10_signedHeadReason_63 : decode cX10_signedHeadReason 63 = .ok (.if_icmp .ne 19, 3) := by decide +kernel
theorem dX10_signedHeadReason_66 : decode cX10_signedHeadReason 66 = .ok (.aload_n 1, 1) := by decide +kernel
theorem dX10_signedHeadReason_67 : decode cX10_signedHeadReason 67 = .ok (.iload_n 2, 1) := by decide +kernel
theorem dX10_signedHeadReason_68 : decode cX10_signedHeadReason 68 = .ok (.iconst 1, 1) := by decide +kernel
theorem dX10_signedHeadReason_69 : decode cX10_signedHeadReason 69 = .ok (.iadd, 1) := by decide +kernel
theorem dX10_signedHeadReason_70 : decode cX10_signedHeadReason 70 = .ok (.ldc 177, 2) := by decide +kernel
theorem dX10_signedHeadReason_72 : decode cX10_signedHeadReason 72 = .ok (.invokevirtual 182, 3) := by decide +kernel
theorem dX10_signedHeadReason_75 : decode cX10_signedHeadReason 75 = .ok (.ifCond .eq 7, 3) := by decide +kernel
theorem dX10_signedHeadReason_78 : decode cX10_signedHeadReason 78 = .ok (.iconst 1, 1) := by decide +kernel
theorem dX10_signedHeadReason_79 : decode cX10_signedHeadReason 79 = .ok (.goto 4, 3) := by decide +kernel
theorem dX10_signedHeadReason_82 : decode cX10_signedHeadReason 82 = .ok (.iconst 0, 1) := by decide +kernel
theorem dX10_signedHeadReason_83 : decode cX10_signedHeadReason 83 = .ok (.istore 4, 2) := by decide +kernel
theorem dX10_signedHeadReason_85 : decode cX10_signedHeadReason 85 = .ok (.iload 4, 2) := by decide +kernel
theorem dX10_signedHeadReason_87 : decode cX10_signedHeadReason 87 = .ok (.ifCond .eq 21, 3) := by decide +kernel
theorem dX10_signedHeadReason_90 : decode cX10_signedHeadReason 90 = .ok (.aload_n 1, 1) := by decide +kernel
theorem dX10_signedHeadReason_91 : decode cX10_signedHeadReason 91 = .ok (.iload_n 3, 1) := by decide +kernel
theorem dX10_signedHeadReason_92 : decode cX10_signedHeadReason 92 = .ok (.iconst 1, 1) := by decide +kernel
theorem dX10_signedHeadReason_93 : decode cX10_signedHeadReason 93 = .ok (.invokevirtual 129, 3) := by decide +kernel
theorem dX10_signedHeadReason_96 : decode cX10_signedHeadReason 96 = .ok (.ifCond .ne 15, 3) := by decide +kernel
theorem dX10_signedHeadReason_99 : decode cX10_signedHeadReason 99 = .ok (.aload_n 1, 1) := by decide +kernel
theorem dX10_signedHeadReason_100 : decode cX10_signedHeadReason 100 = .ok (.iload_n 3, 1) := by decide +kernel
theorem dX10_signedHeadReason_101 : decode cX10_signedHeadReason 101 = .ok (.iconst 2, 1) := by decide +kernel
theorem dX10_signedHeadReason_102 : decode cX10_signedHeadReason 102 = .ok (.invokevirtual 129, 3) := by decide +kernel
theorem dX10_signedHeadReason_105 : decode cX10_signedHeadReason 105 = .ok (.ifCond .ne 6, 3) := by decide +kernel
theorem dX10_signedHeadReason_108 : decode cX10_signedHeadReason 108 = .ok (.bipush (-24), 2) := by decide +kernel
theorem dX10_signedHeadReason_110 : decode cX10_signedHeadReason 110 = .ok (.ireturn, 1) := by decide +kernel
theorem dX10_signedHeadReason_111 : decode cX10_signedHeadReason 111 = .ok (.aload_n 0, 1) := by decide +kernel
theorem dX10_signedHeadReason_112 : decode cX10_signedHeadReason 112 = .ok (.aload_n 1, 1) := by decide +kernel
theorem dX10_signedHeadReason_113 : decode cX10_signedHeadReason 113 = .ok (.aload_n 1, 1) := by decide +kernel
theorem dX10_signedHeadReason_114 : decode cX10_signedHeadReason 114 = .ok (.iconst 0, 1) := by decide +kernel
theorem dX10_signedHeadReason_115 : decode cX10_signedHeadReason 115 = .ok (.ldc 133, 2) := by decide +kernel
theorem dX10_signedHeadReason_117 : decode cX10_signedHeadReason 117 = .ok (.invokevirtual 125, 3) := by decide +kernel
theorem dX10_signedHeadReason_120 : decode cX10_signedHeadReason 120 = .ok (.iconst 0, 1) := by decide +kernel
theorem dX10_signedHeadReason_121 : decode cX10_signedHeadReason 121 = .ok (.iconst 5, 1) := by decide +kernel
theorem dX10_signedHeadReason_122 : decode cX10_signedHeadReason 122 = .ok (.invokestatic 186, 3) := by decide +kernel
theorem dX10_signedHeadReason_125 : decode cX10_signedHeadReason 125 = .ok (.putfield 190, 3) := by decide +kernel
theorem dX10_signedHeadReason_128 : decode cX10_signedHeadReason 128 = .ok (.aload_n 0, 1) := by decide +kernel
theorem dX10_signedHeadReason_129 : decode cX10_signedHeadReason 129 = .ok (.getfield 190, 3) := by decide +kernel
theorem dX10_signedHeadReason_132 : decode cX10_signedHeadReason 132 = .ok (.iconst (-1), 1) := by decide +kernel
theorem dX10_signedHeadReason_133 : decode cX10_signedHeadReason 133 = .ok (.if_icmp .ne 8, 3) := by decide +kernel
theorem dX10_signedHeadReason_136 : decode cX10_signedHeadReason 136 = .ok (.bipush (-25), 2) := by decide +kernel
theorem dX10_signedHeadReason_138 : decode cX10_signedHeadReason 138 = .ok (.goto 4, 3) := by decide +kernel
theorem dX10_signedHeadReason_141 : decode cX10_signedHeadReason 141 = .ok (.iconst 0, 1) := by decide +kernel
theorem dX10_signedHeadReason_142 : decode cX10_signedHeadReason 142 = .ok (.ireturn, 1) := by decide +kernel
abbrev rmX10_signedHeadReason : Room := { frames := 7, cells := 0, slots := 0, locals := 155 }
set_option maxHeartbeats 4000000 in
set_option maxRecDepth 100000 in
theorem wB_X10_signedHeadReason_111 {G : mG} {F : Nat} {x : mXT} {sz : Nat} {r0 : Int32} {M0 : mM} (X : mCX G RX10 cX10_signedHeadReason 5 (some .int) "signedHeadReason" rmX10_signedHeadReason x) (hQ : mQI x r0 M0 (sz, 0, 0)) {l0 : Nat} {l1 : Nat} {M : mM} (h : B_X10_signedHeadReason_111 G F l0 l1 M = some (r0, M0)) : WW x (sz, 0, 0) M 111 [(0, .ref l0), (1, .ref l1)] [] := by
  unfold B_X10_signedHeadReason_111 at h
  refine ww_aload_n 111 X dX10_signedHeadReason_111 0 rfl rfl ?_
  refine ww_aload_n 112 X dX10_signedHeadReason_112 1 rfl rfl ?_
  refine ww_aload_n 113 X dX10_signedHeadReason_113 1 rfl rfl ?_
  refine ww_iconst 114 X (v := (0 : Int32)) dX10_signedHeadReason_114 (by decide) ?_
  refine ww_lds 115 X (j := 56) dX10_signedHeadReason_115 rfl ?_
  obtain ⟨_, f117, h⟩ := bO_some h
  obtain ⟨v117, M117, e117, h⟩ := bP_some h
  refine ww_callVI0 117 X dX10_signedHeadReason_117 mY_X9_find mL_X10_125 (rcv_spec f117) ⟨_, _, rfl⟩ (by decide) (As := [.int (0 : Int32), .ref (G.1 56)]) (rest := [.ref l1, .ref l0]) rfl rfl ⟨Nat.le_of_ble_eq_true rfl, Nat.le_of_ble_eq_true rfl⟩ (Nat.le_of_ble_eq_true rfl) (fun l D A => c_X9_find l D A e117) ?_
  refine ww_iconst 120 X (v := (0 : Int32)) dX10_signedHeadReason_120 (by decide) ?_
  refine ww_iconst 121 X (v := (5 : Int32)) dX10_signedHeadReason_121 (by decide) ?_
  obtain ⟨v122, M122, e122, h⟩ := bP_some h
  refine ww_callSI0 122 X dX10_signedHeadReason_122 mY_X10_listed mL_X10_186 (As := [.ref l1, .int v117, .int (0 : Int32), .int (5 : Int32)]) (rest := [.ref l0]) rfl rfl ⟨Nat.le_of_ble_eq_true rfl, Nat.le_of_ble_eq_true rfl⟩ (Nat.le_of_ble_eq_true rfl) (fun l D A => c_X10_listed l D A e122) ?_
  obtain ⟨M125, e125, h⟩ := bO_some h
  refine ww_putI 125 X dX10_signedHeadReason_125 (fP_X10_190 _) e125 ?_
  refine ww_aload_n 128 X dX10_signedHeadReason_128 0 rfl rfl ?_
  obtain ⟨v129, e129, h⟩ := bO_some h
  refine ww_getI 129 X dX10_signedHeadReason_129 fG_X10_190 e129 ?_
  refine ww_iconst 132 X (v := (-1 : Int32)) dX10_signedHeadReason_132 (by decide) ?_
  refine ww_icmp_ne 133 141 X dX10_signedHeadReason_133 (by decide) (fun q => ?_) (fun q => ?_)
  · replace h := (if_neg q).symm.trans h
    refine ww_iconst 141 X (v := (0 : Int32)) dX10_signedHeadReason_141 (by decide) ?_
    exact ww_iretE 142 X hQ dX10_signedHeadReason_142 h
  · replace h := (if_pos q).symm.trans h
    refine ww_bipush 136 X (v := (-25 : Int32)) dX10_signedHeadReason_136 (by decide) ?_
    refine ww_goto 138 142 X dX10_signedHeadReason_138 (by decide) ?_
    exact ww_iretE 142 X hQ dX10_signedHeadReason_142 h
set_option maxHeartbeats 4000000 in
set_option maxRecDepth 100000 in
theorem wB_X10_signedHeadReason_83 {G : mG} {F : Nat} {x : mXT} {sz : Nat} {r0 : Int32} {M0 : mM} (X : mCX G RX10 cX10_signedHeadReason 5 (some .int) "signedHeadReason" rmX10_signedHeadReason x) (hQ : mQI x r0 M0 (sz, 0, 0)) {l0 : Nat} {l1 : Nat} {l3 : Int32} {sk0 : Int32} {M : mM} (h : B_X10_signedHeadReason_83 G F l0 l1 l3 sk0 M = some (r0, M0)) : WW x (sz, 0, 0) M 83 [(0, .ref l0), (1, .ref l1), (3, .int l3)] [.int sk0] := by
  unfold B_X10_signedHeadReason_83 at h
  refine ww_istore 83 X dX10_signedHeadReason_83 (lv' := [(0, .ref l0), (1, .ref l1), (3, .int l3), (4, .int sk0)]) (by decide) [1, 2, 3, 0] rfl ?_
  refine ww_iload 85 X dX10_signedHeadReason_85 3 rfl ?_
  refine ww_if_eq 87 108 X dX10_signedHeadReason_87 (by decide) (fun q => ?_) (fun q => ?_)
  · replace h := (if_pos q).symm.trans h
    refine ww_bipush 108 X (v := (-24 : Int32)) dX10_signedHeadReason_108 (by decide) ?_
    exact ww_iretE 110 X hQ dX10_signedHeadReason_110 h
  · replace h := (if_neg q).symm.trans h
    refine ww_aload_n 90 X dX10_signedHeadReason_90 1 rfl rfl ?_
    refine ww_iload_n 91 X dX10_signedHeadReason_91 2 rfl rfl ?_
    refine ww_iconst 92 X (v := (1 : Int32)) dX10_signedHeadReason_92 (by decide) ?_
    obtain ⟨_, f93, h⟩ := bO_some h
    obtain ⟨v93, M93, e93, h⟩ := bP_some h
    refine ww_callVI0 93 X dX10_signedHeadReason_93 mY_X9_isKind mL_X10_129 (rcv_spec f93) ⟨_, _, rfl⟩ (by decide) (As := [.int l3, .int (1 : Int32)]) (rest := []) rfl rfl ⟨Nat.le_of_ble_eq_true rfl, Nat.le_of_ble_eq_true rfl⟩ (Nat.le_of_ble_eq_true rfl) (fun l D A => c_X9_isKind l D A e93) ?_
    refine ww_if_ne 96 111 X dX10_signedHeadReason_96 (by decide) (fun q => ?_) (fun q => ?_)
    · replace h := (if_neg q).symm.trans h
      exact ww_sub [0, 1] rfl (wB_X10_signedHeadReason_111 X hQ h)
    · replace h := (if_pos q).symm.trans h
      refine ww_aload_n 99 X dX10_signedHeadReason_99 1 rfl rfl ?_
      refine ww_iload_n 100 X dX10_signedHeadReason_100 2 rfl rfl ?_
      refine ww_iconst 101 X (v := (2 : Int32)) dX10_signedHeadReason_101 (by decide) ?_
      obtain ⟨_, f102, h⟩ := bO_some h
      obtain ⟨v102, M102, e102, h⟩ := bP_some h
      refine ww_callVI0 102 X dX10_signedHeadReason_102 mY_X9_isKind mL_X10_129 (rcv_spec f102) ⟨_, _, rfl⟩ (by decide) (As := [.int l3, .int (2 : Int32)]) (rest := []) rfl rfl ⟨Nat.le_of_ble_eq_true rfl, Nat.le_of_ble_eq_true rfl⟩ (Nat.le_of_ble_eq_true rfl) (fun l D A => c_X9_isKind l D A e102) ?_
      refine ww_if_ne 105 111 X dX10_signedHeadReason_105 (by decide) (fun q => ?_) (fun q => ?_)
      · replace h := (if_neg q).symm.trans h
        exact ww_sub [0, 1] rfl (wB_X10_signedHeadReason_111 X hQ h)
      · replace h := (if_pos q).symm.trans h
        refine ww_bipush 108 X (v := (-24 : Int32)) dX10_signedHeadReason_108 (by decide) ?_
        exact ww_iretE 110 X hQ dX10_signedHeadReason_110 h
set_option maxHeartbeats 4000000 in
set_option maxRecDepth 100000 in
theorem wB_X10_signedHeadReason_48 {G : mG} {F : Nat} {x : mXT} {sz : Nat} {r0 : Int32} {M0 : mM} (X : mCX G RX10 cX10_signedHeadReason 5 (some .int) "signedHeadReason" rmX10_signedHeadReason x) (hQ : mQI x r0 M0 (sz, 0, 0)) {l0 : Nat} {l1 : Nat} {l2 : Int32} {l3 : Int32} {sk0 : Nat} {sk1 : Int32} {M : mM} (h : B_X10_signedHeadReason_48 G F l0 l1 l2 l3 sk0 sk1 M = some (r0, M0)) : WW x (sz, 0, 0) M 48 [(0, .ref l0), (1, .ref l1), (2, .int l2), (3, .int l3)] [.int sk1, .ref sk0] := by
  unfold B_X10_signedHeadReason_48 at h
  obtain ⟨M48, e48, h⟩ := bO_some h
  refine ww_putZ 48 X dX10_signedHeadReason_48 (fP_X10_179 _) e48 ?_
  refine ww_iload_n 51 X dX10_signedHeadReason_51 2 rfl rfl ?_
  refine ww_iconst 52 X (v := (-1 : Int32)) dX10_signedHeadReason_52 (by decide) ?_
  refine ww_icmp_eq 53 111 X dX10_signedHeadReason_53 (by decide) (fun q => ?_) (fun q => ?_)
  · replace h := (if_pos q).symm.trans h
    exact ww_sub [0, 1] rfl (wB_X10_signedHeadReason_111 X hQ h)
  · replace h := (if_neg q).symm.trans h
    refine ww_aload_n 56 X dX10_signedHeadReason_56 1 rfl rfl ?_
    obtain ⟨v57, e57, h⟩ := bO_some h
    refine ww_getR 57 X dX10_signedHeadReason_57 fG_X10_143 e57 ?_
    refine ww_iload_n 60 X dX10_signedHeadReason_60 2 rfl rfl ?_
    obtain ⟨v61, e61, h⟩ := bO_some h
    refine ww_iald 61 X dX10_signedHeadReason_61 e61 ?_
    refine ww_iconst 62 X (v := (1 : Int32)) dX10_signedHeadReason_62 (by decide) ?_
    refine ww_icmp_ne 63 82 X dX10_signedHeadReason_63 (by decide) (fun q => ?_) (fun q => ?_)
    · replace h := (if_neg q).symm.trans h
      refine ww_iconst 82 X (v := (0 : Int32)) dX10_signedHeadReason_82 (by decide) ?_
      exact ww_sub [0, 1, 3] rfl (wB_X10_signedHeadReason_83 X hQ h)
    · replace h := (if_pos q).symm.trans h
      refine ww_aload_n 66 X dX10_signedHeadReason_66 1 rfl rfl ?_
      refine ww_iload_n 67 X dX10_signedHeadReason_67 2 rfl rfl ?_
      refine ww_iconst 68 X (v := (1 : Int32)) dX10_signedHeadReason_68 (by decide) ?_
      refine ww_iadd 69 X dX10_signedHeadReason_69 ?_
      refine ww_lds 70 X (j := 57) dX10_signedHeadReason_70 rfl ?_
      obtain ⟨_, f72, h⟩ := bO_some h
      obtain ⟨v72, M72, e72, h⟩ := bP_some h
      refine ww_callVI0 72 X dX10_signedHeadReason_72 mY_X9_says mL_X10_182 (rcv_spec f72) ⟨_, _, rfl⟩ (by decide) (As := [.int (l2 + (1 : Int32)), .ref (G.1 57)]) (rest := []) rfl rfl ⟨Nat.le_of_ble_eq_true rfl, Nat.le_of_ble_eq_true rfl⟩ (Nat.le_of_ble_eq_true rfl) (fun l D A => c_X9_says l D A e72) ?_
      refine ww_if_eq 75 82 X dX10_signedHeadReason_75 (by decide) (fun q => ?_) (fun q => ?_)
      · replace h := (if_pos q).symm.trans h
        refine ww_iconst 82 X (v := (0 : Int32)) dX10_signedHeadReason_82 (by decide) ?_
        exact ww_sub [0, 1, 3] rfl (wB_X10_signedHeadReason_83 X hQ h)
      · replace h := (if_neg q).symm.trans h
        refine ww_iconst 78 X (v := (1 : Int32)) dX10_signedHeadReason_78 (by decide) ?_
        refine ww_goto 79 83 X dX10_signedHeadReason_79 (by decide) ?_
        exact ww_sub [0, 1, 3] rfl (wB_X10_signedHeadReason_83 X hQ h)
set_option maxHeartbeats 4000000 in
set_option maxRecDepth 100000 in
theorem wP_X10_signedHeadReason {G : mG} {F : Nat} {x : mXT} {sz : Nat} {r0 : Int32} {M0 : mM} (X : mCX G RX10 cX10_signedHeadReason 5 (some .int) "signedHeadReason" rmX10_signedHeadReason x) (hQ : mQI x r0 M0 (sz, 0, 0)) {l0 : Nat} {l1 : Nat} {M : mM} (h : P_X10_signedHeadReason G F l0 l1 M = some (r0, M0)) : WW x (sz, 0, 0) M 0 [(0, .ref l0), (1, .ref l1)] [] := by
  unfold P_X10_signedHeadReason at h
  refine ww_aload_n 0 X dX10_signedHeadReason_0 1 rfl rfl ?_
  refine ww_iconst 1 X (v := (0 : Int32)) dX10_signedHeadReason_1 (by decide) ?_
  refine ww_lds 2 X (j := 54) dX10_signedHeadReason_2 rfl ?_
  obtain ⟨_, f4, h⟩ := bO_some h
  obtain ⟨v4, M4, e4, h⟩ := bP_some h
  refine ww_callVI0 4 X dX10_signedHeadReason_4 mY_X9_find mL_X10_125 (rcv_spec f4) ⟨_, _, rfl⟩ (by decide) (As := [.int (0 : Int32), .ref (G.1 54)]) (rest := []) rfl rfl ⟨Nat.le_of_ble_eq_true rfl, Nat.le_of_ble_eq_true rfl⟩ (Nat.le_of_ble_eq_true rfl) (fun l D A => c_X9_find l D A e4) ?_
  refine ww_istore_n 7 X dX10_signedHeadReason_7 (lv' := [(0, .ref l0), (1, .ref l1), (2, .int v4)]) rfl (by decide) [1, 2, 0] rfl ?_
  refine ww_aload_n 8 X dX10_signedHeadReason_8 0 rfl rfl ?_
  refine ww_aload_n 9 X dX10_signedHeadReason_9 1 rfl rfl ?_
  refine ww_iload_n 10 X dX10_signedHeadReason_10 2 rfl rfl ?_
  obtain ⟨_, f11, h⟩ := bO_some h
  obtain ⟨v11, M11, e11, h⟩ := bP_some h
  refine ww_callVI0 11 X dX10_signedHeadReason_11 mY_X10_isHeadSound mL_X10_174 (rcv_spec f11) ⟨_, _, rfl⟩ (by decide) (As := [.ref l1, .int v4]) (rest := []) rfl rfl ⟨Nat.le_of_ble_eq_true rfl, Nat.le_of_ble_eq_true rfl⟩ (Nat.le_of_ble_eq_true rfl) (fun l D A => c_X10_isHeadSound l D A e11) ?_
  refine ww_if_ne 14 20 X dX10_signedHeadReason_14 (by decide) (fun q => ?_) (fun q => ?_)
  · replace h := (if_neg q).symm.trans h
    refine ww_aload_n 20 X dX10_signedHeadReason_20 1 rfl rfl ?_
    refine ww_iconst 21 X (v := (0 : Int32)) dX10_signedHeadReason_21 (by decide) ?_
    refine ww_lds 22 X (j := 57) dX10_signedHeadReason_22 rfl ?_
    obtain ⟨_, f24, h⟩ := bO_some h
    obtain ⟨v24, M24, e24, h⟩ := bP_some h
    refine ww_callVI0 24 X dX10_signedHeadReason_24 mY_X9_find mL_X10_125 (rcv_spec f24) ⟨_, _, rfl⟩ (by decide) (As := [.int (0 : Int32), .ref (G.1 57)]) (rest := []) rfl rfl ⟨Nat.le_of_ble_eq_true rfl, Nat.le_of_ble_eq_true rfl⟩ (Nat.le_of_ble_eq_true rfl) (fun l D A => c_X9_find l D A e24) ?_
    refine ww_istore_n 27 X dX10_signedHeadReason_27 (lv' := [(0, .ref l0), (1, .ref l1), (2, .int v4), (3, .int v24)]) rfl (by decide) [1, 2, 3, 0] rfl ?_
    refine ww_aload_n 28 X dX10_signedHeadReason_28 0 rfl rfl ?_
    refine ww_iload_n 29 X dX10_signedHeadReason_29 2 rfl rfl ?_
    refine ww_iconst 30 X (v := (-1 : Int32)) dX10_signedHeadReason_30 (by decide) ?_
    refine ww_icmp_eq 31 47 X dX10_signedHeadReason_31 (by decide) (fun q => ?_) (fun q => ?_)
    · replace h := (if_pos q).symm.trans h
      refine ww_iconst 47 X (v := (0 : Int32)) dX10_signedHeadReason_47 (by decide) ?_
      exact (wB_X10_signedHeadReason_48 X hQ h)
    · replace h := (if_neg q).symm.trans h
      refine ww_aload_n 34 X dX10_signedHeadReason_34 1 rfl rfl ?_
      refine ww_iload_n 35 X dX10_signedHeadReason_35 3 rfl rfl ?_
      refine ww_iconst 36 X (v := (1 : Int32)) dX10_signedHeadReason_36 (by decide) ?_
      obtain ⟨_, f37, h⟩ := bO_some h
      obtain ⟨v37, M37, e37, h⟩ := bP_some h
      refine ww_callVI0 37 X dX10_signedHeadReason_37 mY_X9_isKind mL_X10_129 (rcv_spec f37) ⟨_, _, rfl⟩ (by decide) (As := [.int v24, .int (1 : Int32)]) (rest := [.ref l0]) rfl rfl ⟨Nat.le_of_ble_eq_true rfl, Nat.le_of_ble_eq_true rfl⟩ (Nat.le_of_ble_eq_true rfl) (fun l D A => c_X9_isKind l D A e37) ?_
      refine ww_if_eq 40 47 X dX10_signedHeadReason_40 (by decide) (fun q => ?_) (fun q => ?_)
      · replace h := (if_pos q).symm.trans h
        refine ww_iconst 47 X (v := (0 : Int32)) dX10_signedHeadReason_47 (by decide) ?_
        exact (wB_X10_signedHeadReason_48 X hQ h)
      · replace h := (if_neg q).symm.trans h
        refine ww_iconst 43 X (v := (1 : Int32)) dX10_signedHeadReason_43 (by decide) ?_
        refine ww_goto 44 48 X dX10_signedHeadReason_44 (by decide) ?_
        exact (wB_X10_signedHeadReason_48 X hQ h)
  · replace h := (if_pos q).symm.trans h
    refine ww_bipush 17 X (v := (-23 : Int32)) dX10_signedHeadReason_17 (by decide) ?_
    exact ww_iretE 19 X hQ dX10_signedHeadReason_19 h
theorem c_X10_signedHeadReason {G : mG} {F sz : Nat} {r0 : Int32} {M0 : mM} (l : Launch) (D : mD) (A : Nat → Prop) {l0 : Nat} {l1 : Nat} {M : mM} (h : P_X10_signedHeadReason G F l0 l1 M = some (r0, M0)) : mMetI l D G A yX10_signedHeadReason cX10_signedHeadReason 5 (some .int) 7 155 0 0 [.ref l0, .ref l1] M sz r0 M0 sz := mMetI_of l D G A (by decide) (Nat.le_of_ble_eq_true rfl) (fun x X hQ => wP_X10_signedHeadReason X hQ h)
/-! SealedTokens.wayName(I)Ljava/lang/String; -/
theorem dX11_wayName_0 : decode cX11_wayName 0 = .ok (.iload_n 0, 1) := by decide +kernel
theorem dX11_wayName_1 : decode cX11_wayName 1 = .ok (.tableswitch 39 0 2 #[27, 31, 35], 27) := by decide +kernel
theorem dX11_wayName_28 : decode cX11_wayName 28 = .ok (.ldc_w 489, 3) := by decide +kernel
theorem dX11_wayName_31 : decode cX11_wayName 31 = .ok (.areturn, 1) := by decide +kernel
theorem dX11_wayName_32 : decode cX11_wayName 32 = .ok (.ldc_w 491, 3) := by decide +kernel
theorem dX11_wayName_35 : decode cX11_wayName 35 = .ok (.areturn, 1) := by decide +kernel
theorem dX11_wayName_36 : decode cX11_wayName 36 = .ok (.ldc_w 493, 3) := by decide +kernel
theorem dX11_wayName_39 : decode cX11_wayName 39 = .ok (.areturn, 1) := by decide +kernel
theorem dX11_wayName_40 : decode cX11_wayName 40 = .ok (.ldc_w 495, 3) := by decide +kernel
theorem dX11_wayName_43 : decode cX11_wayName 43 = .ok (.areturn, 1) := by decide +kernel
abbrev rmX11_wayName : Room := { frames := 0, cells := 0, slots := 0, locals := 0 }
set_option maxHeartbeats 4000000 in
set_option maxRecDepth 100000 in
theorem wP_X11_wayName {G : mG} {F : Nat} {x : mXT} {sz : Nat} {r0 : Nat} {M0 : mM} (X : mCX G RX11 cX11_wayName 1 (some (.object "java/lang/String")) "wayName" rmX11_wayName x) (hQ : mQR x r0 M0 (sz, 0, 0)) {l0 : Int32} {M : mM} (h : P_X11_wayName G F l0 M = some (r0, M0)) : WW x (sz, 0, 0) M 0 [(0, .int l0)] [] := by
  unfold P_X11_wayName at h
  refine ww_iload_n 0 X dX11_wayName_0 0 rfl rfl ?_
  by_cases q0 : l0 = (0 : Int32)
  · replace h := (if_pos q0).symm.trans h
    refine ww_tableIn 1 28 X dX11_wayName_1 (off := 27) (by rw [q0]; decide) (by rw [q0]; decide) (by rw [q0]; decide) (by decide) ?_
    refine ww_ldsw 28 X (j := 59) dX11_wayName_28 rfl ?_
    exact ww_aretE 31 X hQ dX11_wayName_31 h
  · replace h := (if_neg q0).symm.trans h
    by_cases q1 : l0 = (1 : Int32)
    · replace h := (if_pos q1).symm.trans h
      refine ww_tableIn 1 32 X dX11_wayName_1 (off := 31) (by rw [q1]; decide) (by rw [q1]; decide) (by rw [q1]; decide) (by decide) ?_
      refine ww_ldsw 32 X (j := 60) dX11_wayName_32 rfl ?_
      exact ww_aretE 35 X hQ dX11_wayName_35 h
    · replace h := (if_neg q1).symm.trans h
      by_cases q2 : l0 = (2 : Int32)
      · replace h := (if_pos q2).symm.trans h
        refine ww_tableIn 1 36 X dX11_wayName_1 (off := 35) (by rw [q2]; decide) (by rw [q2]; decide) (by rw [q2]; decide) (by decide) ?_
        refine ww_ldsw 36 X (j := 61) dX11_wayName_36 rfl ?_
        exact ww_aretE 39 X hQ dX11_wayName_39 h
      · replace h := (if_neg q2).symm.trans h
        have z0 := lv_neT q0 (show (0 : Int32).toInt = 0 by decide)
        have z1 := lv_neT q1 (show (1 : Int32).toInt = 1 by decide)
        have z2 := lv_neT q2 (show (2 : Int32).toInt = 2 by decide)
        refine ww_tableOut 1 40 X dX11_wayName_1 (by omega) (by decide) ?_
        refine ww_ldsw 40 X (j := 62) dX11_wayName_40 rfl ?_
        exact ww_aretE 43 X hQ dX11_wayName_43 h
theorem c_X11_wayName {G : mG} {F sz : Nat} {r0 : Nat} {M0 : mM} (l : Launch) (D : mD) (A : Nat → Prop) {l0 : Int32} {M : mM} (h : P_X11_wayName G F l0 M = some (r0, M0)) : mMetR l D G A yX11_wayName cX11_wayName 1 (some (.object "java/lang/String")) 0 0 0 0 [.int l0] M sz r0 M0 sz := mMetR_of l D G A (by decide) (Nat.le_of_ble_eq_true rfl) (fun x X hQ => wP_X11_wayName X hQ h)
/-! SealedTokens$Token.listedWay(LSealedTokens$Text;I)I -/
theorem dX10_listedWay_0 : decode cX10_listedWay 0 = .ok (.iconst 0, 1) := by decide +kernel
theorem dX10_listedWay_1 : decode cX10_listedWay 1 = .ok (.istore_n 2, 1) := by decide +kernel
theorem dX10_listedWay_2 : decode cX10_listedWay 2 = .ok (.iload_n 2, 1) := by decide +kernel
theorem dX10_listedWay_3 : decode cX10_listedWay 3 = .ok (.iconst 4, 1) := by decide +kernel
theorem dX10_listedWay_4 : decode cX10_listedWay 4 = .ok (.if_icmp .ge 23, 3) := by decide +kernel
theorem dX10_listedWay_7 : decode cX10_listedWay 7 = .ok (.aload_n 0, 1) := by decide +kernel
theorem dX10_listedWay_8 : decode cX10_listedWay 8 = .ok (.iload_n 1, 1) := by decide +kernel
theorem dX10_listedWay_9 : decode cX10_listedWay 9 = .ok (.iload_n 2, 1) := by decide +kernel
theorem dX10_listedWay_10 : decode cX10_listedWay 10 = .ok (.invokestatic 196, 3) := by decide +kernel
theorem dX10_listedWay_13 : decode cX10_listedWay 13 = .ok (.invokevirtual 182, 3) := by decide +kernel
theorem dX10_listedWay_16 : decode cX10_listedWay 16 = .ok (.ifCond .eq 5, 3) := by decide +kernel
theorem dX10_listedWay_19 : decode cX10_listedWay 19 = .ok (.iload_n 2, 1) := by decide +kernel
theorem dX10_listedWay_20 : decode cX10_listedWay 20 = .ok (.ireturn, 1) := by decide +kernel
theorem dX10_listedWay_21 : decode cX10_listedWay 21 = .ok (.iinc 2 1, 3) := by decide +kernel
theorem dX10_listedWay_24 : decode cX10_listedWay 24 = .ok (.goto (-22), 3) := by decide +kernel
theorem dX10_listedWay_27 : decode cX10_listedWay 27 = .ok (.iconst (-1), 1) := by decide +kernel
theorem dX10_listedWay_28 : decode cX10_listedWay 28 = .ok (.ireturn, 1) := by decide +kernel
abbrev rmX10_listedWay : Room := { frames := 6, cells := 0, slots := 0, locals := 131 }
set_option maxHeartbeats 4000000 in
set_option maxRecDepth 100000 in
theorem wB_X10_listedWay_2 {G : mG} {F : Nat} {x : mXT} {sz : Nat} {r0 : Int32} {M0 : mM} (X : mCX G RX10 cX10_listedWay 3 (some .int) "listedWay" rmX10_listedWay x) (hQ : mQI x r0 M0 (sz, 0, 0)) : ∀ (n : Nat) (l0 : Nat) (l1 : Int32) (l2 : Int32) (M : mM), B_X10_listedWay_2 G F n l0 l1 l2 M = some (r0, M0) → WW x (sz, 0, 0) M 2 [(0, .ref l0), (1, .int l1), (2, .int l2)] [] := by
  intro n
  induction n with
  | zero =>
    intro l0 l1 l2 M h
    exact nomatch (show (none : Option (Int32 × mM)) = some (r0, M0) from h)
  | succ n ih =>
    intro l0 l1 l2 M h
    rw [B_X10_listedWay_2] at h
    refine ww_iload_n 2 X dX10_listedWay_2 2 rfl rfl ?_
    refine ww_iconst 3 X (v := (4 : Int32)) dX10_listedWay_3 (by decide) ?_
    refine ww_icmp_ge 4 27 X dX10_listedWay_4 (by decide) (fun q => ?_) (fun q => ?_)
    · replace h := (if_pos q).symm.trans h
      refine ww_iconst 27 X (v := (-1 : Int32)) dX10_listedWay_27 (by decide) ?_
      exact ww_iretE 28 X hQ dX10_listedWay_28 h
    · replace h := (if_neg q).symm.trans h
      refine ww_aload_n 7 X dX10_listedWay_7 0 rfl rfl ?_
      refine ww_iload_n 8 X dX10_listedWay_8 1 rfl rfl ?_
      refine ww_iload_n 9 X dX10_listedWay_9 2 rfl rfl ?_
      obtain ⟨v10, M10, e10, h⟩ := bP_some h
      refine ww_callSRN0 10 X dX10_listedWay_10 mY_X11_wayName mL_X10_196 (As := [.int l2]) (rest := [.int l1, .ref l0]) rfl rfl ⟨Nat.le_of_ble_eq_true rfl, Nat.le_of_ble_eq_true rfl⟩ (Nat.le_of_ble_eq_true rfl) (fun l D A => c_X11_wayName l D A e10) ?_
      obtain ⟨_, f13, h⟩ := bO_some h
      obtain ⟨v13, M13, e13, h⟩ := bP_some h
      refine ww_callVI0 13 X dX10_listedWay_13 mY_X9_says mL_X10_182 (rcv_spec f13) ⟨_, _, rfl⟩ (by decide) (As := [.int l1, .ref v10]) (rest := []) rfl rfl ⟨Nat.le_of_ble_eq_true rfl, Nat.le_of_ble_eq_true rfl⟩ (Nat.le_of_ble_eq_true rfl) (fun l D A => c_X9_says l D A e13) ?_
      refine ww_if_eq 16 21 X dX10_listedWay_16 (by decide) (fun q => ?_) (fun q => ?_)
      · replace h := (if_pos q).symm.trans h
        refine ww_iinc 21 X dX10_listedWay_21 (lv' := [(0, .ref l0), (1, .int l1), (2, .int (l2 + 1))]) 2 rfl rfl (by decide) [1, 2, 0] rfl ?_
        refine ww_goto 24 2 X dX10_listedWay_24 (by decide) ?_
        exact (ih _ _ _ _ h)
      · replace h := (if_neg q).symm.trans h
        refine ww_iload_n 19 X dX10_listedWay_19 2 rfl rfl ?_
        exact ww_iretE 20 X hQ dX10_listedWay_20 h
set_option maxHeartbeats 4000000 in
set_option maxRecDepth 100000 in
theorem wP_X10_listedWay {G : mG} {F : Nat} {x : mXT} {sz : Nat} {r0 : Int32} {M0 : mM} (X : mCX G RX10 cX10_listedWay 3 (some .int) "listedWay" rmX10_listedWay x) (hQ : mQI x r0 M0 (sz, 0, 0)) {l0 : Nat} {l1 : Int32} {M : mM} (h : P_X10_listedWay G F l0 l1 M = some (r0, M0)) : WW x (sz, 0, 0) M 0 [(0, .ref l0), (1, .int l1)] [] := by
  unfold P_X10_listedWay at h
  refine ww_iconst 0 X (v := (0 : Int32)) dX10_listedWay_0 (by decide) ?_
  refine ww_istore_n 1 X dX10_listedWay_1 (lv' := [(0, .ref l0), (1, .int l1), (2, .int (0 : Int32))]) rfl (by decide) [1, 2, 0] rfl ?_
  exact (wB_X10_listedWay_2 X hQ F _ _ _ _ h)
theorem c_X10_listedWay {G : mG} {F sz : Nat} {r0 : Int32} {M0 : mM} (l : Launch) (D : mD) (A : Nat → Prop) {l0 : Nat} {l1 : Int32} {M : mM} (h : P_X10_listedWay G F l0 l1 M = some (r0, M0)) : mMetI l D G A yX10_listedWay cX10_listedWay 3 (some .int) 6 131 0 0 [.ref l0, .int l1] M sz r0 M0 sz := mMetI_of l D G A (by decide) (Nat.le_of_ble_eq_true rfl) (fun x X hQ => wP_X10_listedWay X hQ h)
/-! SealedTokens$Token.takeParty(LSealedTokens$Text;ILSealedTokens$Bytes;)Z -/
theorem dX10_takeParty_0 : decode cX10_takeParty 0 = .ok (.aload_n 2, 1) := by decide +kernel
theorem dX10_takeParty_1 : decode cX10_takeParty 1 = .ok (.invokevirtual 81, 3) := by decide +kernel
theorem dX10_takeParty_4 : decode cX10_takeParty 4 = .ok (.iload_n 1, 1) := by decide +kernel
theorem dX10_takeParty_5 : decode cX10_takeParty 5 = .ok (.iconst (-1), 1) := by decide +kernel
theorem dX10_takeParty_6 : decode cX10_takeParty 6 = .ok (.if_icmp .eq 24, 3) := by decide +kernel
theorem dX10_takeParty_9 : decode cX10_takeParty 9 = .ok (.aload_n 0, 1) := by decide +kernel
theorem dX10_takeParty_10 : decode cX10_takeParty 10 = .ok (.iload_n 1, 1) := by decide +kernel
theorem dX10_takeParty_11 : decode cX10_takeParty 11 = .ok (.invokevirtual 231, 3) := by decide +kernel
theorem dX10_takeParty_14 : decode cX10_takeParty 14 = .ok (.ifCond .eq 20, 3) := by decide +kernel
theorem dX10_takeParty_17 : decode cX10_takeParty 17 = .ok (.aload_n 0, 1) := by decide +kernel
theorem dX10_takeParty_18 : decode cX10_takeParty 18 = .ok (.iload_n 1, 1) := by decide +kernel
theorem dX10_takeParty_19 : decode cX10_takeParty 19 = .ok (.iconst 0, 1) := by decide +kernel
theorem dX10_takeParty_20 : decode cX10_takeParty 20 = .ok (.sipush 4608, 3) := by decide +kernel
theorem dX10_takeParty_23 : decode cX10_takeParty 23 = .ok (.aload_n 2, 1) := by decide +kernel
theorem dX10_takeParty_24 : decode cX10_takeParty 24 = .ok (.invokevirtual 234, 3) := by decide +kernel
theorem dX10_takeParty_27 : decode cX10_takeParty 27 = .ok (.ifCond .eq 7, 3) := by decide +kernel
theorem dX10_takeParty_30 : decode cX10_takeParty 30 = .ok (.iconst 1, 1) := by decide +kernel
theorem dX10_takeParty_31 : decode cX10_takeParty 31 = .ok (.goto 4, 3) := by decide +kernel
theorem dX10_takeParty_34 : decode cX10_takeParty 34 = .ok (.iconst 0, 1) := by decide +kernel
theorem dX10_takeParty_35 : decode cX10_takeParty 35 = .ok (.ireturn, 1) := by decide +kernel
abbrev rmX10_takeParty : Room := { frames := 3, cells := 0, slots := 0, locals := 72 }
set_option maxHeartbeats 4000000 in
set_option maxRecDepth 100000 in
theorem wP_X10_takeParty {G : mG} {F : Nat} {x : mXT} {sz : Nat} {r0 : Int32} {M0 : mM} (X : mCX G RX10 cX10_takeParty 3 (some .boolean) "takeParty" rmX10_takeParty x) (hQ : mQI x r0 M0 (sz, 0, 0)) {l0 : Nat} {l1 : Int32} {l2 : Nat} {M : mM} (h : P_X10_takeParty G F l0 l1 l2 M = some (r0, M0)) : WW x (sz, 0, 0) M 0 [(0, .ref l0), (1, .int l1), (2, .ref l2)] [] := by
  unfold P_X10_takeParty at h
  refine ww_aload_n 0 X dX10_takeParty_0 2 rfl rfl ?_
  obtain ⟨_, f1, h⟩ := bO_some h
  obtain ⟨M1, e1, h⟩ := bO_some h
  refine ww_callVV0 1 X dX10_takeParty_1 mY_X0_clear mL_X10_81 (rcv_spec f1) ⟨_, _, rfl⟩ (by decide) (As := []) (rest := []) rfl rfl ⟨Nat.le_of_ble_eq_true rfl, Nat.le_of_ble_eq_true rfl⟩ (Nat.le_of_ble_eq_true rfl) (fun l D A => c_X0_clear l D A e1) ?_
  refine ww_iload_n 4 X dX10_takeParty_4 1 rfl rfl ?_
  refine ww_iconst 5 X (v := (-1 : Int32)) dX10_takeParty_5 (by decide) ?_
  refine ww_icmp_eq 6 30 X dX10_takeParty_6 (by decide) (fun q => ?_) (fun q => ?_)
  · replace h := (if_pos q).symm.trans h
    refine ww_iconst 30 X (v := (1 : Int32)) dX10_takeParty_30 (by decide) ?_
    refine ww_goto 31 35 X dX10_takeParty_31 (by decide) ?_
    exact ww_zretE 35 X hQ dX10_takeParty_35 h
  · replace h := (if_neg q).symm.trans h
    refine ww_aload_n 9 X dX10_takeParty_9 0 rfl rfl ?_
    refine ww_iload_n 10 X dX10_takeParty_10 1 rfl rfl ?_
    obtain ⟨_, f11, h⟩ := bO_some h
    obtain ⟨v11, M11, e11, h⟩ := bP_some h
    refine ww_callVI0 11 X dX10_takeParty_11 mY_X9_areLetters mL_X10_231 (rcv_spec f11) ⟨_, _, rfl⟩ (by decide) (As := [.int l1]) (rest := []) rfl rfl ⟨Nat.le_of_ble_eq_true rfl, Nat.le_of_ble_eq_true rfl⟩ (Nat.le_of_ble_eq_true rfl) (fun l D A => c_X9_areLetters l D A e11) ?_
    refine ww_if_eq 14 34 X dX10_takeParty_14 (by decide) (fun q => ?_) (fun q => ?_)
    · replace h := (if_pos q).symm.trans h
      refine ww_iconst 34 X (v := (0 : Int32)) dX10_takeParty_34 (by decide) ?_
      exact ww_zretE 35 X hQ dX10_takeParty_35 h
    · replace h := (if_neg q).symm.trans h
      refine ww_aload_n 17 X dX10_takeParty_17 0 rfl rfl ?_
      refine ww_iload_n 18 X dX10_takeParty_18 1 rfl rfl ?_
      refine ww_iconst 19 X (v := (0 : Int32)) dX10_takeParty_19 (by decide) ?_
      refine ww_sipush 20 X (v := (4608 : Int32)) dX10_takeParty_20 (by decide) ?_
      refine ww_aload_n 23 X dX10_takeParty_23 2 rfl rfl ?_
      obtain ⟨_, f24, h⟩ := bO_some h
      obtain ⟨v24, M24, e24, h⟩ := bP_some h
      refine ww_callVI0 24 X dX10_takeParty_24 mY_X9_putLettered mL_X10_234 (rcv_spec f24) ⟨_, _, rfl⟩ (by decide) (As := [.int l1, .int (0 : Int32), .int (4608 : Int32), .ref l2]) (rest := []) rfl rfl ⟨Nat.le_of_ble_eq_true rfl, Nat.le_of_ble_eq_true rfl⟩ (Nat.le_of_ble_eq_true rfl) (fun l D A => c_X9_putLettered l D A e24) ?_
      refine ww_if_eq 27 34 X dX10_takeParty_27 (by decide) (fun q => ?_) (fun q => ?_)
      · replace h := (if_pos q).symm.trans h
        refine ww_iconst 34 X (v := (0 : Int32)) dX10_takeParty_34 (by decide) ?_
        exact ww_zretE 35 X hQ dX10_takeParty_35 h
      · replace h := (if_neg q).symm.trans h
        refine ww_iconst 30 X (v := (1 : Int32)) dX10_takeParty_30 (by decide) ?_
        refine ww_goto 31 35 X dX10_takeParty_31 (by decide) ?_
        exact ww_zretE 35 X hQ dX10_takeParty_35 h
theorem c_X10_takeParty {G : mG} {F sz : Nat} {r0 : Int32} {M0 : mM} (l : Launch) (D : mD) (A : Nat → Prop) {l0 : Nat} {l1 : Int32} {l2 : Nat} {M : mM} (h : P_X10_takeParty G F l0 l1 l2 M = some (r0, M0)) : mMetI l D G A yX10_takeParty cX10_takeParty 3 (some .boolean) 3 72 0 0 [.ref l0, .int l1, .ref l2] M sz r0 M0 sz := mMetI_of l D G A (by decide) (Nat.le_of_ble_eq_true rfl) (fun x X hQ => wP_X10_takeParty X hQ h)
/-! SealedTokens$Token.takeAgreement(LSealedTokens$Text;)Z -/
theorem dX10_takeAgreement_0 : decode cX10_takeAgreement 0 = .ok (.aload_n 1, 1) := by decide +kernel
theorem dX10_takeAgreement_1 : decode cX10_takeAgreement 1 = .ok (.iconst 0, 1) := by decide +kernel
theorem dX10_takeAgreement_2 : decode cX10_takeAgreement 2 = .ok (.ldc 211, 2) := by decide +kernel
theorem dX10_takeAgreement_4 : decode cX10_takeAgreement 4 = .ok (.invokevirtual 125, 3) := by decide +kernel
theorem dX10_takeAgreement_7 : decode cX10_takeAgreement 7 = .ok (.istore_n 2, 1) := by decide +kernel
theorem dX10_takeAgreement_8 : decode cX10_takeAgreement 8 = .ok (.aload_n 1, 1) := by decide +kernel
theorem dX10_takeAgreement_9 : decode cX10_takeAgreement 9 = .ok (.iload_n 2, 1) := by decide +kernel
theorem dX10_takeAgreement_10 : decode cX10_takeAgreement 10 = .ok (.bipush 6, 2) := by decide +kernel
theorem dX10_takeAgreement_12 : decode cX10_takeAgreement 12 = .ok (.invokevirtual 129, 3) := by decide +kernel
theorem dX10_takeAgreement_15 : decode cX10_takeAgreement 15 = .ok (.ifCond .eq 27, 3) := by decide +kernel
theorem dX10_takeAgreement_18 : decode cX10_takeAgreement 18 = .ok (.aload_n 1, 1) := by decide +kernel
theorem dX10_takeAgreement_19 : decode cX10_takeAgreement 19 = .ok (.aload_n 1, 1) := by decide +kernel
theorem dX10_takeAgreement_20 : decode cX10_takeAgreement 20 = .ok (.iload_n 2, 1) := by decide +kernel
theorem dX10_takeAgreement_21 : decode cX10_takeAgreement 21 = .ok (.ldc 213, 2) := by decide +kernel
theorem dX10_takeAgreement_23 : decode cX10_takeAgreement 23 = .ok (.invokevirtual 125, 3) := by decide +kernel
theorem dX10_takeAgreement_26 : decode cX10_takeAgreement 26 = .ok (.ldc 215, 2) := by decide +kernel
theorem dX10_takeAgreement_28 : decode cX10_takeAgreement 28 = .ok (.invokevirtual 182, 3) := by decide +kernel
theorem dX10_takeAgreement_31 : decode cX10_takeAgreement 31 = .ok (.ifCond .eq 11, 3) := by decide +kernel
theorem dX10_takeAgreement_34 : decode cX10_takeAgreement 34 = .ok (.aload_n 1, 1) := by decide +kernel
theorem dX10_takeAgreement_35 : decode cX10_takeAgreement 35 = .ok (.iload_n 2, 1) := by decide +kernel
theorem dX10_takeAgreement_36 : decode cX10_takeAgreement 36 = .ok (.invokestatic 217, 3) := by decide +kernel
theorem dX10_takeAgreement_39 : decode cX10_takeAgreement 39 = .ok (.ifCond .ne 5, 3) := by decide +kernel
theorem dX10_takeAgreement_42 : decode cX10_takeAgreement 42 = .ok (.iconst 0, 1) := by decide +kernel
theorem dX10_takeAgreement_43 : decode cX10_takeAgreement 43 = .ok (.ireturn, 1) := by decide +kernel
theorem dX10_takeAgreement_44 : decode cX10_takeAgreement 44 = .ok (.aload_n 0, 1) := by decide +kernel
theorem dX10_takeAgreement_45 : decode cX10_takeAgreement 45 = .ok (.getfield 28, 3) := by decide +kernel
theorem dX10_takeAgreement_48 : decode cX10_takeAgreement 48 = .ok (.invokevirtual 81, 3) := by decide +kernel
theorem dX10_takeAgreement_51 : decode cX10_takeAgreement 51 = .ok (.aload_n 1, 1) := by decide +kernel
theorem dX10_takeAgreement_52 : decode cX10_takeAgreement 52 = .ok (.iload_n 2, 1) := by decide +kernel
theorem dX10_takeAgreement_53 : decode cX10_takeAgreement 53 = .ok (.aload_n 0, 1) := by decide +kernel
theorem dX10_takeAgreement_54 : decode cX10_takeAgreement 54 = .ok (.getfield 28, 3) := by decide +kernel
theorem dX10_takeAgreement_57 : decode cX10_takeAgreement 57 = .ok (.invokestatic 220, 3) := by decide +kernel
theorem dX10_takeAgreement_60 : decode cX10_takeAgreement 60 = .ok (.ifCond .eq 43, 3) := by decide +kernel
theorem dX10_takeAgreement_63 : decode cX10_takeAgreement 63 = .ok (.aload_n 1, 1) := by decide +kernel
theorem dX10_takeAgreement_64 : decode cX10_takeAgreement 64 = .ok (.aload_n 1, 1) := by decide +kernel
theorem dX10_takeAgreement_65 : decode cX10_takeAgreement 65 = .ok (.iconst 0, 1) := by decide +kernel
theorem dX10_takeAgreement_66 : decode cX10_takeAgreement 66 = .ok (.ldc 224, 2) := by decide +kernel
theorem dX10_takeAgreement_68 : decode cX10_takeAgreement 68 = .ok (.invokevirtual 125, 3) := by decide +kernel
theorem dX10_takeAgreement_71 : decode cX10_takeAgreement 71 = .ok (.aload_n 0, 1) := by decide +kernel
theorem dX10_takeAgreement_72 : decode cX10_takeAgreement 72 = .ok (.getfield 20, 3) := by decide +kernel
theorem dX10_takeAgreement_75 : decode cX10_takeAgreement 75 = .ok (.invokestatic 226, 3) := by decide +kernel
theorem dX10_takeAgreement_78 : decode cX10_takeAgreement 78 = .ok (.ifCond .eq 25, 3) := by decide +kernel
theorem dX10_takeAgreement_81 : decode cX10_takeAgreement 81 = .ok (.aload_n 1, 1) := by decide +kernel
theorem dX10_takeAgreement_82 : decode cX10_takeAgreement 82 = .ok (.aload_n 1, 1) := by decide +kernel
theorem dX10_takeAgreement_83 : decode cX10_takeAgreement 83 = .ok (.iconst 0, 1) := by decide +kernel
theorem dX10_takeAgreement_84 : decode cX10_takeAgreement 84 = .ok (.ldc 229, 2) := by decide +kernel
theorem dX10_takeAgreement_86 : decode cX10_takeAgreement 86 = .ok (.invokevirtual 125, 3) := by decide +kernel
theorem dX10_takeAgreement_89 : decode cX10_takeAgreement 89 = .ok (.aload_n 0, 1) := by decide +kernel
theorem dX10_takeAgreement_90 : decode cX10_takeAgreement 90 = .ok (.getfield 23, 3) := by decide +kernel
theorem dX10_takeAgreement_93 : decode cX10_takeAgreement 93 = .ok (.invokestatic 226, 3) := by decide +kernel
theorem dX10_takeAgreement_96 : decode cX10_takeAgreement 96 = .ok (.ifCond .eq 7, 3) := by decide +kernel
theorem dX10_takeAgreement_99 : decode cX10_takeAgreement 99 = .ok (.iconst 1, 1) := by decide +kernel
theorem dX10_takeAgreement_100 : decode cX10_takeAgreement 100 = .ok (.goto 4, 3) := by decide +kernel
theorem dX10_takeAgreement_103 : decode cX10_takeAgreement 103 = .ok (.iconst 0, 1) := by decide +kernel
theorem dX10_takeAgreement_104 : decode cX10_takeAgreement 104 = .ok (.ireturn, 1) := by decide +kernel
abbrev rmX10_takeAgreement : Room := { frames := 7, cells := 0, slots := 0, locals := 154 }
set_option maxHeartbeats 4000000 in
set_option maxRecDepth 100000 in
theorem wP_X10_takeAgreement {G : mG} {F : Nat} {x : mXT} {sz : Nat} {r0 : Int32} {M0 : mM} (X : mCX G RX10 cX10_takeAgreement 3 (some .boolean) "takeAgreement" rmX10_takeAgreement x) (hQ : mQI x r0 M0 (sz, 0, 0)) {l0 : Nat} {l1 : Nat} {M : mM} (h : P_X10_takeAgreement G F l0 l1 M = some (r0, M0)) : WW x (sz, 0, 0) M 0 [(0, .ref l0), (1, .ref l1)] [] := by
  unfold P_X10_takeAgreement at h
  refine ww_aload_n 0 X dX10_takeAgreement_0 1 rfl rfl ?_
  refine ww_iconst 1 X (v := (0 : Int32)) dX10_takeAgreement_1 (by decide) ?_
  refine ww_lds 2 X (j := 68) dX10_takeAgreement_2 rfl ?_
  obtain ⟨_, f4, h⟩ := bO_some h
  obtain ⟨v4, M4, e4, h⟩ := bP_some h
  refine ww_callVI0 4 X dX10_takeAgreement_4 mY_X9_find mL_X10_125 (rcv_spec f4) ⟨_, _, rfl⟩ (by decide) (As := [.int (0 : Int32), .ref (G.1 68)]) (rest := []) rfl rfl ⟨Nat.le_of_ble_eq_true rfl, Nat.le_of_ble_eq_true rfl⟩ (Nat.le_of_ble_eq_true rfl) (fun l D A => c_X9_find l D A e4) ?_
  refine ww_istore_n 7 X dX10_takeAgreement_7 (lv' := [(0, .ref l0), (1, .ref l1), (2, .int v4)]) rfl (by decide) [1, 2, 0] rfl ?_
  refine ww_aload_n 8 X dX10_takeAgreement_8 1 rfl rfl ?_
  refine ww_iload_n 9 X dX10_takeAgreement_9 2 rfl rfl ?_
  refine ww_bipush 10 X (v := (6 : Int32)) dX10_takeAgreement_10 (by decide) ?_
  obtain ⟨_, f12, h⟩ := bO_some h
  obtain ⟨v12, M12, e12, h⟩ := bP_some h
  refine ww_callVI0 12 X dX10_takeAgreement_12 mY_X9_isKind mL_X10_129 (rcv_spec f12) ⟨_, _, rfl⟩ (by decide) (As := [.int v4, .int (6 : Int32)]) (rest := []) rfl rfl ⟨Nat.le_of_ble_eq_true rfl, Nat.le_of_ble_eq_true rfl⟩ (Nat.le_of_ble_eq_true rfl) (fun l D A => c_X9_isKind l D A e12) ?_
  refine ww_if_eq 15 42 X dX10_takeAgreement_15 (by decide) (fun q => ?_) (fun q => ?_)
  · replace h := (if_pos q).symm.trans h
    refine ww_iconst 42 X (v := (0 : Int32)) dX10_takeAgreement_42 (by decide) ?_
    exact ww_zretE 43 X hQ dX10_takeAgreement_43 h
  · replace h := (if_neg q).symm.trans h
    refine ww_aload_n 18 X dX10_takeAgreement_18 1 rfl rfl ?_
    refine ww_aload_n 19 X dX10_takeAgreement_19 1 rfl rfl ?_
    refine ww_iload_n 20 X dX10_takeAgreement_20 2 rfl rfl ?_
    refine ww_lds 21 X (j := 69) dX10_takeAgreement_21 rfl ?_
    obtain ⟨_, f23, h⟩ := bO_some h
    obtain ⟨v23, M23, e23, h⟩ := bP_some h
    refine ww_callVI0 23 X dX10_takeAgreement_23 mY_X9_find mL_X10_125 (rcv_spec f23) ⟨_, _, rfl⟩ (by decide) (As := [.int v4, .ref (G.1 69)]) (rest := [.ref l1]) rfl rfl ⟨Nat.le_of_ble_eq_true rfl, Nat.le_of_ble_eq_true rfl⟩ (Nat.le_of_ble_eq_true rfl) (fun l D A => c_X9_find l D A e23) ?_
    refine ww_lds 26 X (j := 70) dX10_takeAgreement_26 rfl ?_
    obtain ⟨_, f28, h⟩ := bO_some h
    obtain ⟨v28, M28, e28, h⟩ := bP_some h
    refine ww_callVI0 28 X dX10_takeAgreement_28 mY_X9_says mL_X10_182 (rcv_spec f28) ⟨_, _, rfl⟩ (by decide) (As := [.int v23, .ref (G.1 70)]) (rest := []) rfl rfl ⟨Nat.le_of_ble_eq_true rfl, Nat.le_of_ble_eq_true rfl⟩ (Nat.le_of_ble_eq_true rfl) (fun l D A => c_X9_says l D A e28) ?_
    refine ww_if_eq 31 42 X dX10_takeAgreement_31 (by decide) (fun q => ?_) (fun q => ?_)
    · replace h := (if_pos q).symm.trans h
      refine ww_iconst 42 X (v := (0 : Int32)) dX10_takeAgreement_42 (by decide) ?_
      exact ww_zretE 43 X hQ dX10_takeAgreement_43 h
    · replace h := (if_neg q).symm.trans h
      refine ww_aload_n 34 X dX10_takeAgreement_34 1 rfl rfl ?_
      refine ww_iload_n 35 X dX10_takeAgreement_35 2 rfl rfl ?_
      obtain ⟨v36, M36, e36, h⟩ := bP_some h
      refine ww_callSI0 36 X dX10_takeAgreement_36 mY_X5_isPointThere mL_X10_217 (As := [.ref l1, .int v4]) (rest := []) rfl rfl ⟨Nat.le_of_ble_eq_true rfl, Nat.le_of_ble_eq_true rfl⟩ (Nat.le_of_ble_eq_true rfl) (fun l D A => c_X5_isPointThere l D A e36) ?_
      refine ww_if_ne 39 44 X dX10_takeAgreement_39 (by decide) (fun q => ?_) (fun q => ?_)
      · replace h := (if_neg q).symm.trans h
        refine ww_aload_n 44 X dX10_takeAgreement_44 0 rfl rfl ?_
        obtain ⟨v45, e45, h⟩ := bO_some h
        refine ww_getR 45 X dX10_takeAgreement_45 fG_X10_28 e45 ?_
        obtain ⟨_, f48, h⟩ := bO_some h
        obtain ⟨M48, e48, h⟩ := bO_some h
        refine ww_callVV0 48 X dX10_takeAgreement_48 mY_X0_clear mL_X10_81 (rcv_spec f48) ⟨_, _, rfl⟩ (by decide) (As := []) (rest := []) rfl rfl ⟨Nat.le_of_ble_eq_true rfl, Nat.le_of_ble_eq_true rfl⟩ (Nat.le_of_ble_eq_true rfl) (fun l D A => c_X0_clear l D A e48) ?_
        refine ww_aload_n 51 X dX10_takeAgreement_51 1 rfl rfl ?_
        refine ww_iload_n 52 X dX10_takeAgreement_52 2 rfl rfl ?_
        refine ww_aload_n 53 X dX10_takeAgreement_53 0 rfl rfl ?_
        obtain ⟨v54, e54, h⟩ := bO_some h
        refine ww_getR 54 X dX10_takeAgreement_54 fG_X10_28 e54 ?_
        obtain ⟨v57, M57, e57, h⟩ := bP_some h
        refine ww_callSI0 57 X dX10_takeAgreement_57 mY_X5_takePoint mL_X10_220 (As := [.ref l1, .int v4, .ref v54]) (rest := []) rfl rfl ⟨Nat.le_of_ble_eq_true rfl, Nat.le_of_ble_eq_true rfl⟩ (Nat.le_of_ble_eq_true rfl) (fun l D A => c_X5_takePoint l D A e57) ?_
        refine ww_if_eq 60 103 X dX10_takeAgreement_60 (by decide) (fun q => ?_) (fun q => ?_)
        · replace h := (if_pos q).symm.trans h
          refine ww_iconst 103 X (v := (0 : Int32)) dX10_takeAgreement_103 (by decide) ?_
          exact ww_zretE 104 X hQ dX10_takeAgreement_104 h
        · replace h := (if_neg q).symm.trans h
          refine ww_aload_n 63 X dX10_takeAgreement_63 1 rfl rfl ?_
          refine ww_aload_n 64 X dX10_takeAgreement_64 1 rfl rfl ?_
          refine ww_iconst 65 X (v := (0 : Int32)) dX10_takeAgreement_65 (by decide) ?_
          refine ww_lds 66 X (j := 71) dX10_takeAgreement_66 rfl ?_
          obtain ⟨_, f68, h⟩ := bO_some h
          obtain ⟨v68, M68, e68, h⟩ := bP_some h
          refine ww_callVI0 68 X dX10_takeAgreement_68 mY_X9_find mL_X10_125 (rcv_spec f68) ⟨_, _, rfl⟩ (by decide) (As := [.int (0 : Int32), .ref (G.1 71)]) (rest := [.ref l1]) rfl rfl ⟨Nat.le_of_ble_eq_true rfl, Nat.le_of_ble_eq_true rfl⟩ (Nat.le_of_ble_eq_true rfl) (fun l D A => c_X9_find l D A e68) ?_
          refine ww_aload_n 71 X dX10_takeAgreement_71 0 rfl rfl ?_
          obtain ⟨v72, e72, h⟩ := bO_some h
          refine ww_getR 72 X dX10_takeAgreement_72 fG_X10_20 e72 ?_
          obtain ⟨v75, M75, e75, h⟩ := bP_some h
          refine ww_callSI0 75 X dX10_takeAgreement_75 mY_X10_takeParty mL_X10_226 (As := [.ref l1, .int v68, .ref v72]) (rest := []) rfl rfl ⟨Nat.le_of_ble_eq_true rfl, Nat.le_of_ble_eq_true rfl⟩ (Nat.le_of_ble_eq_true rfl) (fun l D A => c_X10_takeParty l D A e75) ?_
          refine ww_if_eq 78 103 X dX10_takeAgreement_78 (by decide) (fun q => ?_) (fun q => ?_)
          · replace h := (if_pos q).symm.trans h
            refine ww_iconst 103 X (v := (0 : Int32)) dX10_takeAgreement_103 (by decide) ?_
            exact ww_zretE 104 X hQ dX10_takeAgreement_104 h
          · replace h := (if_neg q).symm.trans h
            refine ww_aload_n 81 X dX10_takeAgreement_81 1 rfl rfl ?_
            refine ww_aload_n 82 X dX10_takeAgreement_82 1 rfl rfl ?_
            refine ww_iconst 83 X (v := (0 : Int32)) dX10_takeAgreement_83 (by decide) ?_
            refine ww_lds 84 X (j := 72) dX10_takeAgreement_84 rfl ?_
            obtain ⟨_, f86, h⟩ := bO_some h
            obtain ⟨v86, M86, e86, h⟩ := bP_some h
            refine ww_callVI0 86 X dX10_takeAgreement_86 mY_X9_find mL_X10_125 (rcv_spec f86) ⟨_, _, rfl⟩ (by decide) (As := [.int (0 : Int32), .ref (G.1 72)]) (rest := [.ref l1]) rfl rfl ⟨Nat.le_of_ble_eq_true rfl, Nat.le_of_ble_eq_true rfl⟩ (Nat.le_of_ble_eq_true rfl) (fun l D A => c_X9_find l D A e86) ?_
            refine ww_aload_n 89 X dX10_takeAgreement_89 0 rfl rfl ?_
            obtain ⟨v90, e90, h⟩ := bO_some h
            refine ww_getR 90 X dX10_takeAgreement_90 fG_X10_23 e90 ?_
            obtain ⟨v93, M93, e93, h⟩ := bP_some h
            refine ww_callSI0 93 X dX10_takeAgreement_93 mY_X10_takeParty mL_X10_226 (As := [.ref l1, .int v86, .ref v90]) (rest := []) rfl rfl ⟨Nat.le_of_ble_eq_true rfl, Nat.le_of_ble_eq_true rfl⟩ (Nat.le_of_ble_eq_true rfl) (fun l D A => c_X10_takeParty l D A e93) ?_
            refine ww_if_eq 96 103 X dX10_takeAgreement_96 (by decide) (fun q => ?_) (fun q => ?_)
            · replace h := (if_pos q).symm.trans h
              refine ww_iconst 103 X (v := (0 : Int32)) dX10_takeAgreement_103 (by decide) ?_
              exact ww_zretE 104 X hQ dX10_takeAgreement_104 h
            · replace h := (if_neg q).symm.trans h
              refine ww_iconst 99 X (v := (1 : Int32)) dX10_takeAgreement_99 (by decide) ?_
              refine ww_goto 100 104 X dX10_takeAgreement_100 (by decide) ?_
              exact ww_zretE 104 X hQ dX10_takeAgreement_104 h
      · replace h := (if_pos q).symm.trans h
        refine ww_iconst 42 X (v := (0 : Int32)) dX10_takeAgreement_42 (by decide) ?_
        exact ww_zretE 43 X hQ dX10_takeAgreement_43 h
theorem c_X10_takeAgreement {G : mG} {F sz : Nat} {r0 : Int32} {M0 : mM} (l : Launch) (D : mD) (A : Nat → Prop) {l0 : Nat} {l1 : Nat} {M : mM} (h : P_X10_takeAgreement G F l0 l1 M = some (r0, M0)) : mMetI l D G A yX10_takeAgreement cX10_takeAgreement 3 (some .boolean) 7 154 0 0 [.ref l0, .ref l1] M sz r0 M0 sz := mMetI_of l D G A (by decide) (Nat.le_of_ble_eq_true rfl) (fun x X hQ => wP_X10_takeAgreement X hQ h)
/-! SealedTokens$Token.sealedHeadReason(LSealedTokens$Text;)I -/
theorem dX10_sealedHeadReason_0 : decode cX10_sealedHeadReason 0 = .ok (.aload_n 1, 1) := by decide +kernel
theorem dX10_sealedHeadReason_1 : decode cX10_sealedHeadReason 1 = .ok (.iconst 0, 1) := by decide +kernel
theorem dX10_sealedHeadReason_2 : decode cX10_sealedHeadReason 2 = .ok (.ldc 172, 2) := by decide +kernel
theorem dX10_sealedHeadReason_4 : decode cX10_sealedHeadReason 4 = .ok (.invokevirtual 125, 3) := by decide +kernel
theorem dX10_sealedHeadReason_7 : decode cX10_sealedHeadReason 7 = .ok (.istore_n 2, 1) := by decide +kernel
theorem dX10_sealedHeadReason_8 : decode cX10_sealedHeadReason 8 = .ok (.aload_n 0, 1) := by decide +kernel
theorem dX10_sealedHeadReason_9 : decode cX10_sealedHeadReason 9 = .ok (.aload_n 1, 1) := by decide +kernel
theorem dX10_sealedHeadReason_10 : decode cX10_sealedHeadReason 10 = .ok (.iload_n 2, 1) := by decide +kernel
theorem dX10_sealedHeadReason_11 : decode cX10_sealedHeadReason 11 = .ok (.invokevirtual 174, 3) := by decide +kernel
theorem dX10_sealedHeadReason_14 : decode cX10_sealedHeadReason 14 = .ok (.ifCond .eq 29, 3) := by decide +kernel
theorem dX10_sealedHeadReason_17 : decode cX10_sealedHeadReason 17 = .ok (.aload_n 1, 1) := by decide +kernel
theorem dX10_sealedHeadReason_18 : decode cX10_sealedHeadReason 18 = .ok (.aload_n 1, 1) := by decide +kernel
theorem dX10_sealedHeadReason_19 : decode cX10_sealedHeadReason 19 = .ok (.iconst 0, 1) := by decide +kernel
theorem dX10_sealedHeadReason_20 : decode cX10_sealedHeadReason 20 = .ok (.ldc 199, 2) := by decide +kernel
theorem dX10_sealedHeadReason_22 : decode cX10_sealedHeadReason 22 = .ok (.invokevirtual 125, 3) := by decide +kernel
theorem dX10_sealedHeadReason_25 : decode cX10_sealedHeadReason 25 = .ok (.iconst 4, 1) := by decide +kernel
theorem dX10_sealedHeadReason_26 : decode cX10_sealedHeadReason 26 = .ok (.invokevirtual 129, 3) := by decide +kernel
theorem dX10_sealedHeadReason_29 : decode cX10_sealedHeadReason 29 = .ok (.ifCond .eq 14, 3) := by decide +kernel
theorem dX10_sealedHeadReason_32 : decode cX10_sealedHeadReason 32 = .ok (.aload_n 1, 1) := by decide +kernel
theorem dX10_sealedHeadReason_33 : decode cX10_sealedHeadReason 33 = .ok (.iconst 0, 1) := by decide +kernel
theorem dX10_sealedHeadReason_34 : decode cX10_sealedHeadReason 34 = .ok (.ldc 201, 2) := by decide +kernel
theorem dX10_sealedHeadReason_36 : decode cX10_sealedHeadReason 36 = .ok (.invokevirtual 125, 3) := by decide +kernel
theorem dX10_sealedHeadReason_39 : decode cX10_sealedHeadReason 39 = .ok (.iconst (-1), 1) := by decide +kernel
theorem dX10_sealedHeadReason_40 : decode cX10_sealedHeadReason 40 = .ok (.if_icmp .eq 6, 3) := by decide +kernel
theorem dX10_sealedHeadReason_43 : decode cX10_sealedHeadReason 43 = .ok (.bipush (-23), 2) := by decide +kernel
theorem dX10_sealedHeadReason_45 : decode cX10_sealedHeadReason 45 = .ok (.ireturn, 1) := by decide +kernel
theorem dX10_sealedHeadReason_46 : decode cX10_sealedHeadReason 46 = .ok (.iload_n 2, 1) := by decide +kernel
theorem dX10_sealedHeadReason_47 : decode cX10_sealedHeadReason 47 = .ok (.iconst (-1), 1) := by decide +kernel
theorem dX10_sealedHeadReason_48 : decode cX10_sealedHeadReason 48 = .ok (.if_icmp .eq 6, 3) := by decide +kernel
theorem dX10_sealedHeadReason_51 : decode cX10_sealedHeadReason 51 = .ok (.bipush (-24), 2) := by decide +kernel
theorem dX10_sealedHeadReason_53 : decode cX10_sealedHeadReason 53 = .ok (.ireturn, 1) := by decide +kernel
theorem dX10_sealedHeadReason_54 : decode cX10_sealedHeadReason 54 = .ok (.aload_n 0, 1) := by decide +kernel
theorem dX10_sealedHeadReason_55 : decode cX10_sealedHeadReason 55 = .ok (.aload_n 1, 1) := by decide +kernel
theorem dX10_sealedHeadReason_56 : decode cX10_sealedHeadReason 56 = .ok (.aload_n 1, 1) := by decide +kernel
theorem dX10_sealedHeadReason_57 : decode cX10_sealedHeadReason 57 = .ok (.iconst 0, 1) := by decide +kernel
theorem dX10_sealedHeadReason_58 : decode cX10_sealedHeadReason 58 = .ok (.ldc 133, 2) := by decide +kernel
theorem dX10_sealedHeadReason_60 : decode cX10_sealedHeadReason 60 = .ok (.invokevirtual 125, 3) := by decide +kernel
theorem dX10_sealedHeadReason_63 : decode cX10_sealedHeadReason 63 = .ok (.iconst 5, 1) := by decide +kernel
theorem dX10_sealedHeadReason_64 : decode cX10_sealedHeadReason 64 = .ok (.bipush 6, 2) := by decide +kernel
theorem dX10_sealedHeadReason_66 : decode cX10_sealedHeadReason 66 = .ok (.invokestatic 186, 3) := by decide +kernel
theorem dX10_sealedHeadReason_69 : decode cX10_sealedHeadReason 69 = .ok (.putfield 190, 3) := by decide +kernel
theorem dX10_sealedHeadReason_72 : decode cX10_sealedHeadReason 72 = .ok (.aload_n 0, 1) := by decide +kernel
theorem dX10_sealedHeadReason_73 : decode cX10_sealedHeadReason 73 = .ok (.aload_n 1, 1) := by decide +kernel
theorem dX10_sealedHeadReason_74 : decode cX10_sealedHeadReason 74 = .ok (.aload_n 1, 1) := by decide +kernel
theorem dX10_sealedHeadReason_75 : decode cX10_sealedHeadReason 75 = .ok (.iconst 0, 1) := by decide +kernel
theorem dX10_sealedHeadReason_76 : decode cX10_sealedHeadReason 76 = .ok (.ldc 199, 2) := by decide +kernel
theorem dX10_sealedHeadReason_78 : decode cX10_sealedHeadReason 78 = .ok (.invokevirtual 125, 3) := by decide +kernel
theorem dX10_sealedHeadReason_81 : decode cX10_sealedHeadReason 81 = .ok (.invokestatic 203, 3) := by decide +kernel
theorem dX10_sealedHeadReason_84 : decode cX10_sealedHeadReason 84 = .ok (.putfield 97, 3) := by decide +kernel
theorem dX10_sealedHeadReason_87 : decode cX10_sealedHeadReason 87 = .ok (.aload_n 0, 1) := by decide +kernel
theorem dX10_sealedHeadReason_88 : decode cX10_sealedHeadReason 88 = .ok (.getfield 190, 3) := by decide +kernel
theorem dX10_sealedHeadReason_91 : decode cX10_sealedHeadReason 91 = .ok (.iconst (-1), 1) := by decide +kernel
theorem dX10_sealedHeadReason_92 : decode cX10_sealedHeadReason 92 = .ok (.if_icmp .eq 11, 3) := by decide +kernel
theorem dX10_sealedHeadReason_95 : decode cX10_sealedHeadReason 95 = .ok (.aload_n 0, 1) := by decide +kernel
theorem dX10_sealedHeadReason_96 : decode cX10_sealedHeadReason 96 = .ok (.getfield 97, 3) := by decide +kernel
theorem dX10_sealedHeadReason_99 : decode cX10_sealedHeadReason 99 = .ok (.iconst (-1), 1) := by decide +kernel
theorem dX10_sealedHeadReason_100 : decode cX10_sealedHeadReason 100 = .ok (.if_icmp .ne 6, 3) := by decide +kernel
theorem dX10_sealedHeadReason_103 : decode cX10_sealedHeadReason 103 = .ok (.bipush (-25), 2) := by decide +kernel
theorem dX10_sealedHeadReason_105 : decode cX10_sealedHeadReason 105 = .ok (.ireturn, 1) := by decide +kernel
theorem dX10_sealedHeadReason_106 : decode cX10_sealedHeadReason 106 = .ok (.aload_n 0, 1) := by decide +kernel
theorem dX10_sealedHeadReason_107 : decode cX10_sealedHeadReason 107 = .ok (.getfield 190, 3) := by decide +kernel
theorem dX10_sealedHeadReason_110 : decode cX10_sealedHeadReason 110 = .ok (.iconst 4, 1) := by decide +kernel
theorem dX10_sealedHeadReason_111 : decode cX10_sealedHeadReason 111 = .ok (.if_icmp .lt 11, 3) := by decide +kernel
theorem dX10_sealedHeadReason_114 : decode cX10_sealedHeadReason 114 = .ok (.aload_n 0, 1) := by decide +kernel
theorem dX10_sealedHeadReason_115 : decode cX10_sealedHeadReason 115 = .ok (.aload_n 1, 1) := by decide +kernel
theorem dX10_sealedHeadReason_116 : decode cX10_sealedHeadReason 116 = .ok (.invokevirtual 207, 3) := by decide +kernel
theorem dX10_sealedHeadReason_119 : decode cX10_sealedHeadReason 119 = .ok (.ifCond .eq 7, 3) := by decide +kernel
theorem dX10_sealedHeadReason_122 : decode cX10_sealedHeadReason 122 = .ok (.iconst 0, 1) := by decide +kernel
theorem dX10_sealedHeadReason_123 : decode cX10_sealedHeadReason 123 = .ok (.goto 5, 3) := by decide +kernel
theorem dX10_sealedHeadReason_126 : decode cX10_sealedHeadReason 126 = .ok (.bipush (-23), 2) := by decide +kernel
theorem dX10_sealedHeadReason_128 : decode cX10_sealedHeadReason 128 = .ok (.ireturn, 1) := by decide +kernel
abbrev rmX10_sealedHeadReason : Room := { frames := 8, cells := 0, slots := 0, locals := 176 }
set_option maxHeartbeats 4000000 in
set_option maxRecDepth 100000 in
theorem wP_X10_sealedHeadReason {G : mG} {F : Nat} {x : mXT} {sz : Nat} {r0 : Int32} {M0 : mM} (X : mCX G RX10 cX10_sealedHeadReason 3 (some .int) "sealedHeadReason" rmX10_sealedHeadReason x) (hQ : mQI x r0 M0 (sz, 0, 0)) {l0 : Nat} {l1 : Nat} {M : mM} (h : P_X10_sealedHeadReason G F l0 l1 M = some (r0, M0)) : WW x (sz, 0, 0) M 0 [(0, .ref l0), (1, .ref l1)] [] := by
  unfold P_X10_sealedHeadReason at h
  refine ww_aload_n 0 X dX10_sealedHeadReason_0 1 rfl rfl ?_
  refine ww_iconst 1 X (v := (0 : Int32)) dX10_sealedHeadReason_1 (by decide) ?_
  refine ww_lds 2 X (j := 54) dX10_sealedHeadReason_2 rfl ?_
  obtain ⟨_, f4, h⟩ := bO_some h
  obtain ⟨v4, M4, e4, h⟩ := bP_some h
  refine ww_callVI0 4 X dX10_sealedHeadReason_4 mY_X9_find mL_X10_125 (rcv_spec f4) ⟨_, _, rfl⟩ (by decide) (As := [.int (0 : Int32), .ref (G.1 54)]) (rest := []) rfl rfl ⟨Nat.le_of_ble_eq_true rfl, Nat.le_of_ble_eq_true rfl⟩ (Nat.le_of_ble_eq_true rfl) (fun l D A => c_X9_find l D A e4) ?_
  refine ww_istore_n 7 X dX10_sealedHeadReason_7 (lv' := [(0, .ref l0), (1, .ref l1), (2, .int v4)]) rfl (by decide) [1, 2, 0] rfl ?_
  refine ww_aload_n 8 X dX10_sealedHeadReason_8 0 rfl rfl ?_
  refine ww_aload_n 9 X dX10_sealedHeadReason_9 1 rfl rfl ?_
  refine ww_iload_n 10 X dX10_sealedHeadReason_10 2 rfl rfl ?_
  obtain ⟨_, f11, h⟩ := bO_some h
  obtain ⟨v11, M11, e11, h⟩ := bP_some h
  refine ww_callVI0 11 X dX10_sealedHeadReason_11 mY_X10_isHeadSound mL_X10_174 (rcv_spec f11) ⟨_, _, rfl⟩ (by decide) (As := [.ref l1, .int v4]) (rest := []) rfl rfl ⟨Nat.le_of_ble_eq_true rfl, Nat.le_of_ble_eq_true rfl⟩ (Nat.le_of_ble_eq_true rfl) (fun l D A => c_X10_isHeadSound l D A e11) ?_
  refine ww_if_eq 14 43 X dX10_sealedHeadReason_14 (by decide) (fun q => ?_) (fun q => ?_)
  · replace h := (if_pos q).symm.trans h
    refine ww_bipush 43 X (v := (-23 : Int32)) dX10_sealedHeadReason_43 (by decide) ?_
    exact ww_iretE 45 X hQ dX10_sealedHeadReason_45 h
  · replace h := (if_neg q).symm.trans h
    refine ww_aload_n 17 X dX10_sealedHeadReason_17 1 rfl rfl ?_
    refine ww_aload_n 18 X dX10_sealedHeadReason_18 1 rfl rfl ?_
    refine ww_iconst 19 X (v := (0 : Int32)) dX10_sealedHeadReason_19 (by decide) ?_
    refine ww_lds 20 X (j := 66) dX10_sealedHeadReason_20 rfl ?_
    obtain ⟨_, f22, h⟩ := bO_some h
    obtain ⟨v22, M22, e22, h⟩ := bP_some h
    refine ww_callVI0 22 X dX10_sealedHeadReason_22 mY_X9_find mL_X10_125 (rcv_spec f22) ⟨_, _, rfl⟩ (by decide) (As := [.int (0 : Int32), .ref (G.1 66)]) (rest := [.ref l1]) rfl rfl ⟨Nat.le_of_ble_eq_true rfl, Nat.le_of_ble_eq_true rfl⟩ (Nat.le_of_ble_eq_true rfl) (fun l D A => c_X9_find l D A e22) ?_
    refine ww_iconst 25 X (v := (4 : Int32)) dX10_sealedHeadReason_25 (by decide) ?_
    obtain ⟨_, f26, h⟩ := bO_some h
    obtain ⟨v26, M26, e26, h⟩ := bP_some h
    refine ww_callVI0 26 X dX10_sealedHeadReason_26 mY_X9_isKind mL_X10_129 (rcv_spec f26) ⟨_, _, rfl⟩ (by decide) (As := [.int v22, .int (4 : Int32)]) (rest := []) rfl rfl ⟨Nat.le_of_ble_eq_true rfl, Nat.le_of_ble_eq_true rfl⟩ (Nat.le_of_ble_eq_true rfl) (fun l D A => c_X9_isKind l D A e26) ?_
    refine ww_if_eq 29 43 X dX10_sealedHeadReason_29 (by decide) (fun q => ?_) (fun q => ?_)
    · replace h := (if_pos q).symm.trans h
      refine ww_bipush 43 X (v := (-23 : Int32)) dX10_sealedHeadReason_43 (by decide) ?_
      exact ww_iretE 45 X hQ dX10_sealedHeadReason_45 h
    · replace h := (if_neg q).symm.trans h
      refine ww_aload_n 32 X dX10_sealedHeadReason_32 1 rfl rfl ?_
      refine ww_iconst 33 X (v := (0 : Int32)) dX10_sealedHeadReason_33 (by decide) ?_
      refine ww_lds 34 X (j := 67) dX10_sealedHeadReason_34 rfl ?_
      obtain ⟨_, f36, h⟩ := bO_some h
      obtain ⟨v36, M36, e36, h⟩ := bP_some h
      refine ww_callVI0 36 X dX10_sealedHeadReason_36 mY_X9_find mL_X10_125 (rcv_spec f36) ⟨_, _, rfl⟩ (by decide) (As := [.int (0 : Int32), .ref (G.1 67)]) (rest := []) rfl rfl ⟨Nat.le_of_ble_eq_true rfl, Nat.le_of_ble_eq_true rfl⟩ (Nat.le_of_ble_eq_true rfl) (fun l D A => c_X9_find l D A e36) ?_
      refine ww_iconst 39 X (v := (-1 : Int32)) dX10_sealedHeadReason_39 (by decide) ?_
      refine ww_icmp_eq 40 46 X dX10_sealedHeadReason_40 (by decide) (fun q => ?_) (fun q => ?_)
      · replace h := (if_pos q).symm.trans h
        refine ww_iload_n 46 X dX10_sealedHeadReason_46 2 rfl rfl ?_
        refine ww_iconst 47 X (v := (-1 : Int32)) dX10_sealedHeadReason_47 (by decide) ?_
        refine ww_icmp_eq 48 54 X dX10_sealedHeadReason_48 (by decide) (fun q => ?_) (fun q => ?_)
        · replace h := (if_pos q).symm.trans h
          refine ww_aload_n 54 X dX10_sealedHeadReason_54 0 rfl rfl ?_
          refine ww_aload_n 55 X dX10_sealedHeadReason_55 1 rfl rfl ?_
          refine ww_aload_n 56 X dX10_sealedHeadReason_56 1 rfl rfl ?_
          refine ww_iconst 57 X (v := (0 : Int32)) dX10_sealedHeadReason_57 (by decide) ?_
          refine ww_lds 58 X (j := 56) dX10_sealedHeadReason_58 rfl ?_
          obtain ⟨_, f60, h⟩ := bO_some h
          obtain ⟨v60, M60, e60, h⟩ := bP_some h
          refine ww_callVI0 60 X dX10_sealedHeadReason_60 mY_X9_find mL_X10_125 (rcv_spec f60) ⟨_, _, rfl⟩ (by decide) (As := [.int (0 : Int32), .ref (G.1 56)]) (rest := [.ref l1, .ref l0]) rfl rfl ⟨Nat.le_of_ble_eq_true rfl, Nat.le_of_ble_eq_true rfl⟩ (Nat.le_of_ble_eq_true rfl) (fun l D A => c_X9_find l D A e60) ?_
          refine ww_iconst 63 X (v := (5 : Int32)) dX10_sealedHeadReason_63 (by decide) ?_
          refine ww_bipush 64 X (v := (6 : Int32)) dX10_sealedHeadReason_64 (by decide) ?_
          obtain ⟨v66, M66, e66, h⟩ := bP_some h
          refine ww_callSI0 66 X dX10_sealedHeadReason_66 mY_X10_listed mL_X10_186 (As := [.ref l1, .int v60, .int (5 : Int32), .int (6 : Int32)]) (rest := [.ref l0]) rfl rfl ⟨Nat.le_of_ble_eq_true rfl, Nat.le_of_ble_eq_true rfl⟩ (Nat.le_of_ble_eq_true rfl) (fun l D A => c_X10_listed l D A e66) ?_
          obtain ⟨M69, e69, h⟩ := bO_some h
          refine ww_putI 69 X dX10_sealedHeadReason_69 (fP_X10_190 _) e69 ?_
          refine ww_aload_n 72 X dX10_sealedHeadReason_72 0 rfl rfl ?_
          refine ww_aload_n 73 X dX10_sealedHeadReason_73 1 rfl rfl ?_
          refine ww_aload_n 74 X dX10_sealedHeadReason_74 1 rfl rfl ?_
          refine ww_iconst 75 X (v := (0 : Int32)) dX10_sealedHeadReason_75 (by decide) ?_
          refine ww_lds 76 X (j := 66) dX10_sealedHeadReason_76 rfl ?_
          obtain ⟨_, f78, h⟩ := bO_some h
          obtain ⟨v78, M78, e78, h⟩ := bP_some h
          refine ww_callVI0 78 X dX10_sealedHeadReason_78 mY_X9_find mL_X10_125 (rcv_spec f78) ⟨_, _, rfl⟩ (by decide) (As := [.int (0 : Int32), .ref (G.1 66)]) (rest := [.ref l1, .ref l0]) rfl rfl ⟨Nat.le_of_ble_eq_true rfl, Nat.le_of_ble_eq_true rfl⟩ (Nat.le_of_ble_eq_true rfl) (fun l D A => c_X9_find l D A e78) ?_
          obtain ⟨v81, M81, e81, h⟩ := bP_some h
          refine ww_callSI0 81 X dX10_sealedHeadReason_81 mY_X10_listedWay mL_X10_203 (As := [.ref l1, .int v78]) (rest := [.ref l0]) rfl rfl ⟨Nat.le_of_ble_eq_true rfl, Nat.le_of_ble_eq_true rfl⟩ (Nat.le_of_ble_eq_true rfl) (fun l D A => c_X10_listedWay l D A e81) ?_
          obtain ⟨M84, e84, h⟩ := bO_some h
          refine ww_putI 84 X dX10_sealedHeadReason_84 (fP_X10_97 _) e84 ?_
          refine ww_aload_n 87 X dX10_sealedHeadReason_87 0 rfl rfl ?_
          obtain ⟨v88, e88, h⟩ := bO_some h
          refine ww_getI 88 X dX10_sealedHeadReason_88 fG_X10_190 e88 ?_
          refine ww_iconst 91 X (v := (-1 : Int32)) dX10_sealedHeadReason_91 (by decide) ?_
          refine ww_icmp_eq 92 103 X dX10_sealedHeadReason_92 (by decide) (fun q => ?_) (fun q => ?_)
          · replace h := (if_pos q).symm.trans h
            refine ww_bipush 103 X (v := (-25 : Int32)) dX10_sealedHeadReason_103 (by decide) ?_
            exact ww_iretE 105 X hQ dX10_sealedHeadReason_105 h
          · replace h := (if_neg q).symm.trans h
            refine ww_aload_n 95 X dX10_sealedHeadReason_95 0 rfl rfl ?_
            obtain ⟨v96, e96, h⟩ := bO_some h
            refine ww_getI 96 X dX10_sealedHeadReason_96 fG_X10_97 e96 ?_
            refine ww_iconst 99 X (v := (-1 : Int32)) dX10_sealedHeadReason_99 (by decide) ?_
            refine ww_icmp_ne 100 106 X dX10_sealedHeadReason_100 (by decide) (fun q => ?_) (fun q => ?_)
            · replace h := (if_neg q).symm.trans h
              refine ww_aload_n 106 X dX10_sealedHeadReason_106 0 rfl rfl ?_
              obtain ⟨v107, e107, h⟩ := bO_some h
              refine ww_getI 107 X dX10_sealedHeadReason_107 fG_X10_190 e107 ?_
              refine ww_iconst 110 X (v := (4 : Int32)) dX10_sealedHeadReason_110 (by decide) ?_
              refine ww_icmp_lt 111 122 X dX10_sealedHeadReason_111 (by decide) (fun q => ?_) (fun q => ?_)
              · replace h := (if_pos q).symm.trans h
                refine ww_iconst 122 X (v := (0 : Int32)) dX10_sealedHeadReason_122 (by decide) ?_
                refine ww_goto 123 128 X dX10_sealedHeadReason_123 (by decide) ?_
                exact ww_iretE 128 X hQ dX10_sealedHeadReason_128 h
              · replace h := (if_neg q).symm.trans h
                refine ww_aload_n 114 X dX10_sealedHeadReason_114 0 rfl rfl ?_
                refine ww_aload_n 115 X dX10_sealedHeadReason_115 1 rfl rfl ?_
                obtain ⟨_, f116, h⟩ := bO_some h
                obtain ⟨v116, M116, e116, h⟩ := bP_some h
                refine ww_callVI0 116 X dX10_sealedHeadReason_116 mY_X10_takeAgreement mL_X10_207 (rcv_spec f116) ⟨_, _, rfl⟩ (by decide) (As := [.ref l1]) (rest := []) rfl rfl ⟨Nat.le_of_ble_eq_true rfl, Nat.le_of_ble_eq_true rfl⟩ (Nat.le_of_ble_eq_true rfl) (fun l D A => c_X10_takeAgreement l D A e116) ?_
                refine ww_if_eq 119 126 X dX10_sealedHeadReason_119 (by decide) (fun q => ?_) (fun q => ?_)
                · replace h := (if_pos q).symm.trans h
                  refine ww_bipush 126 X (v := (-23 : Int32)) dX10_sealedHeadReason_126 (by decide) ?_
                  exact ww_iretE 128 X hQ dX10_sealedHeadReason_128 h
                · replace h := (if_neg q).symm.trans h
                  refine ww_iconst 122 X (v := (0 : Int32)) dX10_sealedHeadReason_122 (by decide) ?_
                  refine ww_goto 123 128 X dX10_sealedHeadReason_123 (by decide) ?_
                  exact ww_iretE 128 X hQ dX10_sealedHeadReason_128 h
            · replace h := (if_pos q).symm.trans h
              refine ww_bipush 103 X (v := (-25 : Int32)) dX10_sealedHeadReason_103 (by decide) ?_
              exact ww_iretE 105 X hQ dX10_sealedHeadReason_105 h
        · replace h := (if_neg q).symm.trans h
          refine ww_bipush 51 X (v := (-24 : Int32)) dX10_sealedHeadReason_51 (by decide) ?_
          exact ww_iretE 53 X hQ dX10_sealedHeadReason_53 h
      · replace h := (if_neg q).symm.trans h
        refine ww_bipush 43 X (v := (-23 : Int32)) dX10_sealedHeadReason_43 (by decide) ?_
        exact ww_iretE 45 X hQ dX10_sealedHeadReason_45 h
theorem c_X10_sealedHeadReason {G : mG} {F sz : Nat} {r0 : Int32} {M0 : mM} (l : Launch) (D : mD) (A : Nat → Prop) {l0 : Nat} {l1 : Nat} {M : mM} (h : P_X10_sealedHeadReason G F l0 l1 M = some (r0, M0)) : mMetI l D G A yX10_sealedHeadReason cX10_sealedHeadReason 3 (some .int) 8 176 0 0 [.ref l0, .ref l1] M sz r0 M0 sz := mMetI_of l D G A (by decide) (Nat.le_of_ble_eq_true rfl) (fun x X hQ => wP_X10_sealedHeadReason X hQ h)
/-! SealedTokens$Token.startHead(Ljava/lang/String;)V -/
theorem dX10_startHead_0 : decode cX10_startHead 0 = .ok (.aload_n 0, 1) := by decide +kernel
theorem dX10_startHead_1 : decode cX10_startHead 1 = .ok (.getfield 14, 3) := by decide +kernel
theorem dX10_startHead_4 : decode cX10_startHead 4 = .ok (.invokevirtual 81, 3) := by decide +kernel
theorem dX10_startHead_7 : decode cX10_startHead 7 = .ok (.aload_n 0, 1) := by decide +kernel
theorem dX10_startHead_8 : decode cX10_startHead 8 = .ok (.getfield 14, 3) := by decide +kernel
theorem dX10_startHead_11 : decode cX10_startHead 11 = .ok (.ldc 249, 2) := by decide +kernel
theorem dX10_startHead_13 : decode cX10_startHead 13 = .ok (.invokevirtual 251, 3) := by decide +kernel
theorem dX10_startHead_16 : decode cX10_startHead 16 = .ok (.aload_n 0, 1) := by decide +kernel
theorem dX10_startHead_17 : decode cX10_startHead 17 = .ok (.getfield 14, 3) := by decide +kernel
theorem dX10_startHead_20 : decode cX10_startHead 20 = .ok (.aload_n 1, 1) := by decide +kernel
theorem dX10_startHead_21 : decode cX10_startHead 21 = .ok (.invokevirtual 251, 3) := by decide +kernel
theorem dX10_startHead_24 : decode cX10_startHead 24 = .ok (.aload_n 0, 1) := by decide +kernel
theorem dX10_startHead_25 : decode cX10_startHead 25 = .ok (.getfield 14, 3) := by decide +kernel
theorem dX10_startHead_28 : decode cX10_startHead 28 = .ok (.bipush 34, 2) := by decide +kernel
theorem dX10_startHead_30 : decode cX10_startHead 30 = .ok (.invokevirtual 246, 3) := by decide +kernel
theorem dX10_startHead_33 : decode cX10_startHead 33 = .ok (.return_, 1) := by decide +kernel
abbrev rmX10_startHead : Room := { frames := 5, cells := 0, slots := 0, locals := 107 }
set_option maxHeartbeats 4000000 in
set_option maxRecDepth 100000 in
theorem wP_X10_startHead {G : mG} {F : Nat} {x : mXT} {sz : Nat} {M0 : mM} (X : mCX G RX10 cX10_startHead 2 none "startHead" rmX10_startHead x) (hQ : mQV x M0 (sz, 0, 0)) {l0 : Nat} {l1 : Nat} {M : mM} (h : P_X10_startHead G F l0 l1 M = some M0) : WW x (sz, 0, 0) M 0 [(0, .ref l0), (1, .ref l1)] [] := by
  unfold P_X10_startHead at h
  refine ww_aload_n 0 X dX10_startHead_0 0 rfl rfl ?_
  obtain ⟨v1, e1, h⟩ := bO_some h
  refine ww_getR 1 X dX10_startHead_1 fG_X10_14 e1 ?_
  obtain ⟨_, f4, h⟩ := bO_some h
  obtain ⟨M4, e4, h⟩ := bO_some h
  refine ww_callVV0 4 X dX10_startHead_4 mY_X0_clear mL_X10_81 (rcv_spec f4) ⟨_, _, rfl⟩ (by decide) (As := []) (rest := []) rfl rfl ⟨Nat.le_of_ble_eq_true rfl, Nat.le_of_ble_eq_true rfl⟩ (Nat.le_of_ble_eq_true rfl) (fun l D A => c_X0_clear l D A e4) ?_
  refine ww_aload_n 7 X dX10_startHead_7 0 rfl rfl ?_
  obtain ⟨v8, e8, h⟩ := bO_some h
  refine ww_getR 8 X dX10_startHead_8 fG_X10_14 e8 ?_
  refine ww_lds 11 X (j := 52) dX10_startHead_11 rfl ?_
  obtain ⟨_, f13, h⟩ := bO_some h
  obtain ⟨M13, e13, h⟩ := bO_some h
  refine ww_callVV0 13 X dX10_startHead_13 mY_X0_putText mL_X10_251 (rcv_spec f13) ⟨_, _, rfl⟩ (by decide) (As := [.ref (G.1 52)]) (rest := []) rfl rfl ⟨Nat.le_of_ble_eq_true rfl, Nat.le_of_ble_eq_true rfl⟩ (Nat.le_of_ble_eq_true rfl) (fun l D A => c_X0_putText l D A e13) ?_
  refine ww_aload_n 16 X dX10_startHead_16 0 rfl rfl ?_
  obtain ⟨v17, e17, h⟩ := bO_some h
  refine ww_getR 17 X dX10_startHead_17 fG_X10_14 e17 ?_
  refine ww_aload_n 20 X dX10_startHead_20 1 rfl rfl ?_
  obtain ⟨_, f21, h⟩ := bO_some h
  obtain ⟨M21, e21, h⟩ := bO_some h
  refine ww_callVV0 21 X dX10_startHead_21 mY_X0_putText mL_X10_251 (rcv_spec f21) ⟨_, _, rfl⟩ (by decide) (As := [.ref l1]) (rest := []) rfl rfl ⟨Nat.le_of_ble_eq_true rfl, Nat.le_of_ble_eq_true rfl⟩ (Nat.le_of_ble_eq_true rfl) (fun l D A => c_X0_putText l D A e21) ?_
  refine ww_aload_n 24 X dX10_startHead_24 0 rfl rfl ?_
  obtain ⟨v25, e25, h⟩ := bO_some h
  refine ww_getR 25 X dX10_startHead_25 fG_X10_14 e25 ?_
  refine ww_bipush 28 X (v := (34 : Int32)) dX10_startHead_28 (by decide) ?_
  obtain ⟨_, f30, h⟩ := bO_some h
  obtain ⟨M30, e30, h⟩ := bO_some h
  refine ww_callVV0 30 X dX10_startHead_30 mY_X0_put mL_X10_246 (rcv_spec f30) ⟨_, _, rfl⟩ (by decide) (As := [.int (34 : Int32)]) (rest := []) rfl rfl ⟨Nat.le_of_ble_eq_true rfl, Nat.le_of_ble_eq_true rfl⟩ (Nat.le_of_ble_eq_true rfl) (fun l D A => c_X0_put l D A e30) ?_
  exact ww_vretE 33 X hQ dX10_startHead_33 h
theorem c_X10_startHead {G : mG} {F sz : Nat} {M0 : mM} (l : Launch) (D : mD) (A : Nat → Prop) {l0 : Nat} {l1 : Nat} {M : mM} (h : P_X10_startHead G F l0 l1 M = some M0) : mMetV l D G A yX10_startHead cX10_startHead 2 none 5 107 0 0 [.ref l0, .ref l1] M sz M0 sz := mMetV_of l D G A (by decide) (Nat.le_of_ble_eq_true rfl) (fun x X hQ => wP_X10_startHead X hQ h)
/-! SealedTokens$Token.putKid(LSealedTokens$Key;)V -/
theorem dX10_putKid_0 : decode cX10_putKid 0 = .ok (.aload_n 1, 1) := by decide +kernel
theorem dX10_putKid_1 : decode cX10_putKid 1 = .ok (.getfield 110, 3) := by decide +kernel
theorem dX10_putKid_4 : decode cX10_putKid 4 = .ok (.ifCond .eq 31, 3) := by decide +kernel
theorem dX10_putKid_7 : decode cX10_putKid 7 = .ok (.aload_n 0, 1) := by decide +kernel
theorem dX10_putKid_8 : decode cX10_putKid 8 = .ok (.getfield 14, 3) := by decide +kernel
theorem dX10_putKid_11 : decode cX10_putKid 11 = .ok (.ldc 254, 2) := by decide +kernel
theorem dX10_putKid_13 : decode cX10_putKid 13 = .ok (.invokevirtual 251, 3) := by decide +kernel
theorem dX10_putKid_16 : decode cX10_putKid 16 = .ok (.aload_n 1, 1) := by decide +kernel
theorem dX10_putKid_17 : decode cX10_putKid 17 = .ok (.getfield 116, 3) := by decide +kernel
theorem dX10_putKid_20 : decode cX10_putKid 20 = .ok (.iconst 0, 1) := by decide +kernel
theorem dX10_putKid_21 : decode cX10_putKid 21 = .ok (.aload_n 1, 1) := by decide +kernel
theorem dX10_putKid_22 : decode cX10_putKid 22 = .ok (.getfield 116, 3) := by decide +kernel
theorem dX10_putKid_25 : decode cX10_putKid 25 = .ok (.getfield 60, 3) := by decide +kernel
theorem dX10_putKid_28 : decode cX10_putKid 28 = .ok (.aload_n 0, 1) := by decide +kernel
theorem dX10_putKid_29 : decode cX10_putKid 29 = .ok (.getfield 14, 3) := by decide +kernel
theorem dX10_putKid_32 : decode cX10_putKid 32 = .ok (.invokestatic 256, 3) := by decide +kernel
theorem dX10_putKid_35 : decode cX10_putKid 35 = .ok (.return_, 1) := by decide +kernel
abbrev rmX10_putKid : Room := { frames := 6, cells := 0, slots := 0, locals := 133 }
set_option maxHeartbeats 4000000 in
set_option maxRecDepth 100000 in
theorem wP_X10_putKid {G : mG} {F : Nat} {x : mXT} {sz : Nat} {M0 : mM} (X : mCX G RX10 cX10_putKid 2 none "putKid" rmX10_putKid x) (hQ : mQV x M0 (sz, 0, 0)) {l0 : Nat} {l1 : Nat} {M : mM} (h : P_X10_putKid G F l0 l1 M = some M0) : WW x (sz, 0, 0) M 0 [(0, .ref l0), (1, .ref l1)] [] := by
  unfold P_X10_putKid at h
  refine ww_aload_n 0 X dX10_putKid_0 1 rfl rfl ?_
  obtain ⟨v1, e1, h⟩ := bO_some h
  refine ww_getI 1 X dX10_putKid_1 fG_X10_110 e1 ?_
  refine ww_if_eq 4 35 X dX10_putKid_4 (by decide) (fun q => ?_) (fun q => ?_)
  · replace h := (if_pos q).symm.trans h
    exact ww_vretE 35 X hQ dX10_putKid_35 h
  · replace h := (if_neg q).symm.trans h
    refine ww_aload_n 7 X dX10_putKid_7 0 rfl rfl ?_
    obtain ⟨v8, e8, h⟩ := bO_some h
    refine ww_getR 8 X dX10_putKid_8 fG_X10_14 e8 ?_
    refine ww_lds 11 X (j := 53) dX10_putKid_11 rfl ?_
    obtain ⟨_, f13, h⟩ := bO_some h
    obtain ⟨M13, e13, h⟩ := bO_some h
    refine ww_callVV0 13 X dX10_putKid_13 mY_X0_putText mL_X10_251 (rcv_spec f13) ⟨_, _, rfl⟩ (by decide) (As := [.ref (G.1 53)]) (rest := []) rfl rfl ⟨Nat.le_of_ble_eq_true rfl, Nat.le_of_ble_eq_true rfl⟩ (Nat.le_of_ble_eq_true rfl) (fun l D A => c_X0_putText l D A e13) ?_
    refine ww_aload_n 16 X dX10_putKid_16 1 rfl rfl ?_
    obtain ⟨v17, e17, h⟩ := bO_some h
    refine ww_getR 17 X dX10_putKid_17 fG_X10_116 e17 ?_
    refine ww_iconst 20 X (v := (0 : Int32)) dX10_putKid_20 (by decide) ?_
    refine ww_aload_n 21 X dX10_putKid_21 1 rfl rfl ?_
    obtain ⟨v22, e22, h⟩ := bO_some h
    refine ww_getR 22 X dX10_putKid_22 fG_X10_116 e22 ?_
    obtain ⟨v25, e25, h⟩ := bO_some h
    refine ww_getI 25 X dX10_putKid_25 fG_X10_60 e25 ?_
    refine ww_aload_n 28 X dX10_putKid_28 0 rfl rfl ?_
    obtain ⟨v29, e29, h⟩ := bO_some h
    refine ww_getR 29 X dX10_putKid_29 fG_X10_14 e29 ?_
    obtain ⟨M32, e32, h⟩ := bO_some h
    refine ww_callSV0 32 X dX10_putKid_32 mY_X9_putString mL_X10_256 (As := [.ref v17, .int (0 : Int32), .int v25, .ref v29]) (rest := []) rfl rfl ⟨Nat.le_of_ble_eq_true rfl, Nat.le_of_ble_eq_true rfl⟩ (Nat.le_of_ble_eq_true rfl) (fun l D A => c_X9_putString l D A e32) ?_
    exact ww_vretE 35 X hQ dX10_putKid_35 h
theorem c_X10_putKid {G : mG} {F sz : Nat} {M0 : mM} (l : Launch) (D : mD) (A : Nat → Prop) {l0 : Nat} {l1 : Nat} {M : mM} (h : P_X10_putKid G F l0 l1 M = some M0) : mMetV l D G A yX10_putKid cX10_putKid 2 none 6 133 0 0 [.ref l0, .ref l1] M sz M0 sz := mMetV_of l D G A (by decide) (Nat.le_of_ble_eq_true rfl) (fun x X hQ => wP_X10_putKid X hQ h)
/-! SealedTokens$Token.makeSignedHead(ILSealedTokens$Key;)V -/
theorem dX10_makeSignedHead_0 : decode cX10_makeSignedHead 0 = .ok (.aload_n 0, 1) := by decide +kernel
theorem dX10_makeSignedHead_1 : decode cX10_makeSignedHead 1 = .ok (.iconst 0, 1) := by decide +kernel
theorem dX10_makeSignedHead_2 : decode cX10_makeSignedHead 2 = .ok (.putfield 179, 3) := by decide +kernel
theorem dX10_makeSignedHead_5 : decode cX10_makeSignedHead 5 = .ok (.aload_n 0, 1) := by decide +kernel
theorem dX10_makeSignedHead_6 : decode cX10_makeSignedHead 6 = .ok (.iload_n 1, 1) := by decide +kernel
theorem dX10_makeSignedHead_7 : decode cX10_makeSignedHead 7 = .ok (.invokestatic 192, 3) := by decide +kernel
theorem dX10_makeSignedHead_10 : decode cX10_makeSignedHead 10 = .ok (.invokevirtual 238, 3) := by decide +kernel
theorem dX10_makeSignedHead_13 : decode cX10_makeSignedHead 13 = .ok (.aload_n 0, 1) := by decide +kernel
theorem dX10_makeSignedHead_14 : decode cX10_makeSignedHead 14 = .ok (.aload_n 2, 1) := by decide +kernel
theorem dX10_makeSignedHead_15 : decode cX10_makeSignedHead 15 = .ok (.invokevirtual 242, 3) := by decide +kernel
theorem dX10_makeSignedHead_18 : decode cX10_makeSignedHead 18 = .ok (.aload_n 0, 1) := by decide +kernel
theorem dX10_makeSignedHead_19 : decode cX10_makeSignedHead 19 = .ok (.getfield 14, 3) := by decide +kernel
theorem dX10_makeSignedHead_22 : decode cX10_makeSignedHead 22 = .ok (.bipush 125, 2) := by decide +kernel
theorem dX10_makeSignedHead_24 : decode cX10_makeSignedHead 24 = .ok (.invokevirtual 246, 3) := by decide +kernel
theorem dX10_makeSignedHead_27 : decode cX10_makeSignedHead 27 = .ok (.return_, 1) := by decide +kernel
abbrev rmX10_makeSignedHead : Room := { frames := 7, cells := 0, slots := 0, locals := 154 }
set_option maxHeartbeats 4000000 in
set_option maxRecDepth 100000 in
theorem wP_X10_makeSignedHead {G : mG} {F : Nat} {x : mXT} {sz : Nat} {M0 : mM} (X : mCX G RX10 cX10_makeSignedHead 3 none "makeSignedHead" rmX10_makeSignedHead x) (hQ : mQV x M0 (sz, 0, 0)) {l0 : Nat} {l1 : Int32} {l2 : Nat} {M : mM} (h : P_X10_makeSignedHead G F l0 l1 l2 M = some M0) : WW x (sz, 0, 0) M 0 [(0, .ref l0), (1, .int l1), (2, .ref l2)] [] := by
  unfold P_X10_makeSignedHead at h
  refine ww_aload_n 0 X dX10_makeSignedHead_0 0 rfl rfl ?_
  refine ww_iconst 1 X (v := (0 : Int32)) dX10_makeSignedHead_1 (by decide) ?_
  obtain ⟨M2, e2, h⟩ := bO_some h
  refine ww_putZ 2 X dX10_makeSignedHead_2 (fP_X10_179 _) e2 ?_
  refine ww_aload_n 5 X dX10_makeSignedHead_5 0 rfl rfl ?_
  refine ww_iload_n 6 X dX10_makeSignedHead_6 1 rfl rfl ?_
  obtain ⟨v7, M7, e7, h⟩ := bP_some h
  refine ww_callSRN0 7 X dX10_makeSignedHead_7 mY_X11_algName mL_X10_192 (As := [.int l1]) (rest := [.ref l0]) rfl rfl ⟨Nat.le_of_ble_eq_true rfl, Nat.le_of_ble_eq_true rfl⟩ (Nat.le_of_ble_eq_true rfl) (fun l D A => c_X11_algName l D A e7) ?_
  obtain ⟨_, f10, h⟩ := bO_some h
  obtain ⟨M10, e10, h⟩ := bO_some h
  refine ww_callVV0 10 X dX10_makeSignedHead_10 mY_X10_startHead mL_X10_238 (rcv_spec f10) ⟨_, _, rfl⟩ (by decide) (As := [.ref v7]) (rest := []) rfl rfl ⟨Nat.le_of_ble_eq_true rfl, Nat.le_of_ble_eq_true rfl⟩ (Nat.le_of_ble_eq_true rfl) (fun l D A => c_X10_startHead l D A e10) ?_
  refine ww_aload_n 13 X dX10_makeSignedHead_13 0 rfl rfl ?_
  refine ww_aload_n 14 X dX10_makeSignedHead_14 2 rfl rfl ?_
  obtain ⟨_, f15, h⟩ := bO_some h
  obtain ⟨M15, e15, h⟩ := bO_some h
  refine ww_callVV0 15 X dX10_makeSignedHead_15 mY_X10_putKid mL_X10_242 (rcv_spec f15) ⟨_, _, rfl⟩ (by decide) (As := [.ref l2]) (rest := []) rfl rfl ⟨Nat.le_of_ble_eq_true rfl, Nat.le_of_ble_eq_true rfl⟩ (Nat.le_of_ble_eq_true rfl) (fun l D A => c_X10_putKid l D A e15) ?_
  refine ww_aload_n 18 X dX10_makeSignedHead_18 0 rfl rfl ?_
  obtain ⟨v19, e19, h⟩ := bO_some h
  refine ww_getR 19 X dX10_makeSignedHead_19 fG_X10_14 e19 ?_
  refine ww_bipush 22 X (v := (125 : Int32)) dX10_makeSignedHead_22 (by decide) ?_
  obtain ⟨_, f24, h⟩ := bO_some h
  obtain ⟨M24, e24, h⟩ := bO_some h
  refine ww_callVV0 24 X dX10_makeSignedHead_24 mY_X0_put mL_X10_246 (rcv_spec f24) ⟨_, _, rfl⟩ (by decide) (As := [.int (125 : Int32)]) (rest := []) rfl rfl ⟨Nat.le_of_ble_eq_true rfl, Nat.le_of_ble_eq_true rfl⟩ (Nat.le_of_ble_eq_true rfl) (fun l D A => c_X0_put l D A e24) ?_
  exact ww_vretE 27 X hQ dX10_makeSignedHead_27 h
theorem c_X10_makeSignedHead {G : mG} {F sz : Nat} {M0 : mM} (l : Launch) (D : mD) (A : Nat → Prop) {l0 : Nat} {l1 : Int32} {l2 : Nat} {M : mM} (h : P_X10_makeSignedHead G F l0 l1 l2 M = some M0) : mMetV l D G A yX10_makeSignedHead cX10_makeSignedHead 3 none 7 154 0 0 [.ref l0, .int l1, .ref l2] M sz M0 sz := mMetV_of l D G A (by decide) (Nat.le_of_ble_eq_true rfl) (fun x X hQ => wP_X10_makeSignedHead X hQ h)
/-! SealedTokens$Token.putParty(Ljava/lang/String;LSealedTokens$Bytes;)V -/
theorem dX10_putParty_0 : decode cX10_putParty 0 = .ok (.aload_n 2, 1) := by decide +kernel
theorem dX10_putParty_1 : decode cX10_putParty 1 = .ok (.ifnull 33, 3) := by decide +kernel
theorem dX10_putParty_4 : decode cX10_putParty 4 = .ok (.aload_n 0, 1) := by decide +kernel
theorem dX10_putParty_5 : decode cX10_putParty 5 = .ok (.getfield 14, 3) := by decide +kernel
theorem dX10_putParty_8 : decode cX10_putParty 8 = .ok (.aload_n 1, 1) := by decide +kernel
theorem dX10_putParty_9 : decode cX10_putParty 9 = .ok (.invokevirtual 251, 3) := by decide +kernel
theorem dX10_putParty_12 : decode cX10_putParty 12 = .ok (.aload_n 0, 1) := by decide +kernel
theorem dX10_putParty_13 : decode cX10_putParty 13 = .ok (.getfield 14, 3) := by decide +kernel
theorem dX10_putParty_16 : decode cX10_putParty 16 = .ok (.aload_n 2, 1) := by decide +kernel
theorem dX10_putParty_17 : decode cX10_putParty 17 = .ok (.iconst 0, 1) := by decide +kernel
theorem dX10_putParty_18 : decode cX10_putParty 18 = .ok (.aload_n 2, 1) := by decide +kernel
theorem dX10_putParty_19 : decode cX10_putParty 19 = .ok (.getfield 60, 3) := by decide +kernel
theorem dX10_putParty_22 : decode cX10_putParty 22 = .ok (.invokevirtual 276, 3) := by decide +kernel
theorem dX10_putParty_25 : decode cX10_putParty 25 = .ok (.aload_n 0, 1) := by decide +kernel
theorem dX10_putParty_26 : decode cX10_putParty 26 = .ok (.getfield 14, 3) := by decide +kernel
theorem dX10_putParty_29 : decode cX10_putParty 29 = .ok (.bipush 34, 2) := by decide +kernel
theorem dX10_putParty_31 : decode cX10_putParty 31 = .ok (.invokevirtual 246, 3) := by decide +kernel
theorem dX10_putParty_34 : decode cX10_putParty 34 = .ok (.return_, 1) := by decide +kernel
abbrev rmX10_putParty : Room := { frames := 5, cells := 0, slots := 0, locals := 111 }
set_option maxHeartbeats 4000000 in
set_option maxRecDepth 100000 in
theorem wP_X10_putParty {G : mG} {F : Nat} {x : mXT} {sz : Nat} {M0 : mM} (X : mCX G RX10 cX10_putParty 3 none "putParty" rmX10_putParty x) (hQ : mQV x M0 (sz, 0, 0)) {l0 : Nat} {l1 : Nat} {l2 : Nat} {M : mM} (h : P_X10_putParty G F l0 l1 l2 M = some M0) : WW x (sz, 0, 0) M 0 [(0, .ref l0), (1, .ref l1), (2, .ref l2)] [] := by
  unfold P_X10_putParty at h
  refine ww_aload_n 0 X dX10_putParty_0 2 rfl rfl ?_
  refine ww_ifnullR 1 X dX10_putParty_1 ?_
  refine ww_aload_n 4 X dX10_putParty_4 0 rfl rfl ?_
  obtain ⟨v5, e5, h⟩ := bO_some h
  refine ww_getR 5 X dX10_putParty_5 fG_X10_14 e5 ?_
  refine ww_aload_n 8 X dX10_putParty_8 1 rfl rfl ?_
  obtain ⟨_, f9, h⟩ := bO_some h
  obtain ⟨M9, e9, h⟩ := bO_some h
  refine ww_callVV0 9 X dX10_putParty_9 mY_X0_putText mL_X10_251 (rcv_spec f9) ⟨_, _, rfl⟩ (by decide) (As := [.ref l1]) (rest := []) rfl rfl ⟨Nat.le_of_ble_eq_true rfl, Nat.le_of_ble_eq_true rfl⟩ (Nat.le_of_ble_eq_true rfl) (fun l D A => c_X0_putText l D A e9) ?_
  refine ww_aload_n 12 X dX10_putParty_12 0 rfl rfl ?_
  obtain ⟨v13, e13, h⟩ := bO_some h
  refine ww_getR 13 X dX10_putParty_13 fG_X10_14 e13 ?_
  refine ww_aload_n 16 X dX10_putParty_16 2 rfl rfl ?_
  refine ww_iconst 17 X (v := (0 : Int32)) dX10_putParty_17 (by decide) ?_
  refine ww_aload_n 18 X dX10_putParty_18 2 rfl rfl ?_
  obtain ⟨v19, e19, h⟩ := bO_some h
  refine ww_getI 19 X dX10_putParty_19 fG_X10_60 e19 ?_
  obtain ⟨_, f22, h⟩ := bO_some h
  obtain ⟨M22, e22, h⟩ := bO_some h
  refine ww_callVV0 22 X dX10_putParty_22 mY_X0_putLetters mL_X10_276 (rcv_spec f22) ⟨_, _, rfl⟩ (by decide) (As := [.ref l2, .int (0 : Int32), .int v19]) (rest := []) rfl rfl ⟨Nat.le_of_ble_eq_true rfl, Nat.le_of_ble_eq_true rfl⟩ (Nat.le_of_ble_eq_true rfl) (fun l D A => c_X0_putLetters l D A e22) ?_
  refine ww_aload_n 25 X dX10_putParty_25 0 rfl rfl ?_
  obtain ⟨v26, e26, h⟩ := bO_some h
  refine ww_getR 26 X dX10_putParty_26 fG_X10_14 e26 ?_
  refine ww_bipush 29 X (v := (34 : Int32)) dX10_putParty_29 (by decide) ?_
  obtain ⟨_, f31, h⟩ := bO_some h
  obtain ⟨M31, e31, h⟩ := bO_some h
  refine ww_callVV0 31 X dX10_putParty_31 mY_X0_put mL_X10_246 (rcv_spec f31) ⟨_, _, rfl⟩ (by decide) (As := [.int (34 : Int32)]) (rest := []) rfl rfl ⟨Nat.le_of_ble_eq_true rfl, Nat.le_of_ble_eq_true rfl⟩ (Nat.le_of_ble_eq_true rfl) (fun l D A => c_X0_put l D A e31) ?_
  exact ww_vretE 34 X hQ dX10_putParty_34 h
theorem c_X10_putParty {G : mG} {F sz : Nat} {M0 : mM} (l : Launch) (D : mD) (A : Nat → Prop) {l0 : Nat} {l1 : Nat} {l2 : Nat} {M : mM} (h : P_X10_putParty G F l0 l1 l2 M = some M0) : mMetV l D G A yX10_putParty cX10_putParty 3 none 5 111 0 0 [.ref l0, .ref l1, .ref l2] M sz M0 sz := mMetV_of l D G A (by decide) (Nat.le_of_ble_eq_true rfl) (fun x X hQ => wP_X10_putParty X hQ h)
/-! SealedTokens$Token.putParty(Ljava/lang/String;LSealedTokens$Bytes;)V -/
abbrev rmX10_putParty_n2 : Room := { frames := 0, cells := 0, slots := 0, locals := 0 }
set_option maxHeartbeats 4000000 in
set_option maxRecDepth 100000 in
theorem wP_X10_putParty_n2 {G : mG} {F : Nat} {x : mXT} {sz : Nat} {M0 : mM} (X : mCX G RX10 cX10_putParty 3 none "putParty" rmX10_putParty_n2 x) (hQ : mQV x M0 (sz, 0, 0)) {l0 : Nat} {l1 : Nat} {M : mM} (h : P_X10_putParty_n2 G F l0 l1 M = some M0) : WW x (sz, 0, 0) M 0 [(0, .ref l0), (1, .ref l1), (2, .null)] [] := by
  unfold P_X10_putParty_n2 at h
  refine ww_aload_nN 0 X dX10_putParty_0 2 rfl rfl ?_
  refine ww_ifnullN 1 34 X dX10_putParty_1 (by decide) ?_
  exact ww_vretE 34 X hQ dX10_putParty_34 h
theorem c_X10_putParty_n2 {G : mG} {F sz : Nat} {M0 : mM} (l : Launch) (D : mD) (A : Nat → Prop) {l0 : Nat} {l1 : Nat} {M : mM} (h : P_X10_putParty_n2 G F l0 l1 M = some M0) : mMetV l D G A yX10_putParty cX10_putParty 3 none 0 0 0 0 [.ref l0, .ref l1, .null] M sz M0 sz := mMetV_of l D G A (by decide) (Nat.le_of_ble_eq_true rfl) (fun x X hQ => wP_X10_putParty_n2 X hQ h)
/-! SealedTokens$Token.makeSealedHead(LSealedTokens$Key;LSealedTokens$Bytes;LSealedTokens$Bytes;)V -/
theorem dX10_makeSealedHead_0 : decode cX10_makeSealedHead 0 = .ok (.aload_n 0, 1) := by decide +kernel
theorem dX10_makeSealedHead_1 : decode cX10_makeSealedHead 1 = .ok (.iconst 5, 1) := by decide +kernel
theorem dX10_makeSealedHead_2 : decode cX10_makeSealedHead 2 = .ok (.aload_n 0, 1) := by decide +kernel
theorem dX10_makeSealedHead_3 : decode cX10_makeSealedHead 3 = .ok (.getfield 190, 3) := by decide +kernel
theorem dX10_makeSealedHead_6 : decode cX10_makeSealedHead 6 = .ok (.iadd, 1) := by decide +kernel
theorem dX10_makeSealedHead_7 : decode cX10_makeSealedHead 7 = .ok (.invokestatic 192, 3) := by decide +kernel
theorem dX10_makeSealedHead_10 : decode cX10_makeSealedHead 10 = .ok (.invokevirtual 238, 3) := by decide +kernel
theorem dX10_makeSealedHead_13 : decode cX10_makeSealedHead 13 = .ok (.aload_n 0, 1) := by decide +kernel
theorem dX10_makeSealedHead_14 : decode cX10_makeSealedHead 14 = .ok (.getfield 14, 3) := by decide +kernel
theorem dX10_makeSealedHead_17 : decode cX10_makeSealedHead 17 = .ok (.ldc_w 260, 3) := by decide +kernel
theorem dX10_makeSealedHead_20 : decode cX10_makeSealedHead 20 = .ok (.invokevirtual 251, 3) := by decide +kernel
theorem dX10_makeSealedHead_23 : decode cX10_makeSealedHead 23 = .ok (.aload_n 0, 1) := by decide +kernel
theorem dX10_makeSealedHead_24 : decode cX10_makeSealedHead 24 = .ok (.getfield 14, 3) := by decide +kernel
theorem dX10_makeSealedHead_27 : decode cX10_makeSealedHead 27 = .ok (.aload_n 0, 1) := by decide +kernel
theorem dX10_makeSealedHead_28 : decode cX10_makeSealedHead 28 = .ok (.getfield 97, 3) := by decide +kernel
theorem dX10_makeSealedHead_31 : decode cX10_makeSealedHead 31 = .ok (.invokestatic 196, 3) := by decide +kernel
theorem dX10_makeSealedHead_34 : decode cX10_makeSealedHead 34 = .ok (.invokevirtual 251, 3) := by decide +kernel
theorem dX10_makeSealedHead_37 : decode cX10_makeSealedHead 37 = .ok (.aload_n 0, 1) := by decide +kernel
theorem dX10_makeSealedHead_38 : decode cX10_makeSealedHead 38 = .ok (.getfield 14, 3) := by decide +kernel
theorem dX10_makeSealedHead_41 : decode cX10_makeSealedHead 41 = .ok (.bipush 34, 2) := by decide +kernel
theorem dX10_makeSealedHead_43 : decode cX10_makeSealedHead 43 = .ok (.invokevirtual 246, 3) := by decide +kernel
theorem dX10_makeSealedHead_46 : decode cX10_makeSealedHead 46 = .ok (.aload_n 0, 1) := by decide +kernel
theorem dX10_makeSealedHead_47 : decode cX10_makeSealedHead 47 = .ok (.aload_n 1, 1) := by decide +kernel
theorem dX10_makeSealedHead_48 : decode cX10_makeSealedHead 48 = .ok (.invokevirtual 242, 3) := by decide +kernel
theorem dX10_makeSealedHead_51 : decode cX10_makeSealedHead 51 = .ok (.aload_n 0, 1) := by decide +kernel
theorem dX10_makeSealedHead_52 : decode cX10_makeSealedHead 52 = .ok (.getfield 190, 3) := by decide +kernel
theorem dX10_makeSealedHead_55 : decode cX10_makeSealedHead 55 = .ok (.iconst 4, 1) := by decide +kernel
theorem dX10_makeSealedHead_56 : decode cX10_makeSealedHead 56 = .ok (.if_icmp .lt 49, 3) := by decide +kernel
theorem dX10_makeSealedHead_59 : decode cX10_makeSealedHead 59 = .ok (.aload_n 0, 1) := by decide +kernel
theorem dX10_makeSealedHead_60 : decode cX10_makeSealedHead 60 = .ok (.getfield 14, 3) := by decide +kernel
theorem dX10_makeSealedHead_63 : decode cX10_makeSealedHead 63 = .ok (.ldc_w 262, 3) := by decide +kernel
theorem dX10_makeSealedHead_66 : decode cX10_makeSealedHead 66 = .ok (.invokevirtual 251, 3) := by decide +kernel
theorem dX10_makeSealedHead_69 : decode cX10_makeSealedHead 69 = .ok (.aload_n 0, 1) := by decide +kernel
theorem dX10_makeSealedHead_70 : decode cX10_makeSealedHead 70 = .ok (.getfield 28, 3) := by decide +kernel
theorem dX10_makeSealedHead_73 : decode cX10_makeSealedHead 73 = .ok (.aload_n 0, 1) := by decide +kernel
theorem dX10_makeSealedHead_74 : decode cX10_makeSealedHead 74 = .ok (.getfield 14, 3) := by decide +kernel
theorem dX10_makeSealedHead_77 : decode cX10_makeSealedHead 77 = .ok (.invokestatic 264, 3) := by decide +kernel
theorem dX10_makeSealedHead_80 : decode cX10_makeSealedHead 80 = .ok (.aload_n 0, 1) := by decide +kernel
theorem dX10_makeSealedHead_81 : decode cX10_makeSealedHead 81 = .ok (.getfield 14, 3) := by decide +kernel
theorem dX10_makeSealedHead_84 : decode cX10_makeSealedHead 84 = .ok (.bipush 125, 2) := by decide +kernel
theorem dX10_makeSealedHead_86 : decode cX10_makeSealedHead 86 = .ok (.invokevirtual 246, 3) := by decide +kernel
theorem dX10_makeSealedHead_89 : decode cX10_makeSealedHead 89 = .ok (.aload_n 0, 1) := by decide +kernel
theorem dX10_makeSealedHead_90 : decode cX10_makeSealedHead 90 = .ok (.ldc_w 268, 3) := by decide +kernel
theorem dX10_makeSealedHead_93 : decode cX10_makeSealedHead 93 = .ok (.aload_n 2, 1) := by decide +kernel
theorem dX10_makeSealedHead_94 : decode cX10_makeSealedHead 94 = .ok (.invokevirtual 270, 3) := by decide +kernel
theorem dX10_makeSealedHead_97 : decode cX10_makeSealedHead 97 = .ok (.aload_n 0, 1) := by decide +kernel
theorem dX10_makeSealedHead_98 : decode cX10_makeSealedHead 98 = .ok (.ldc_w 274, 3) := by decide +kernel
theorem dX10_makeSealedHead_101 : decode cX10_makeSealedHead 101 = .ok (.aload_n 3, 1) := by decide +kernel
theorem dX10_makeSealedHead_102 : decode cX10_makeSealedHead 102 = .ok (.invokevirtual 270, 3) := by decide +kernel
theorem dX10_makeSealedHead_105 : decode cX10_makeSealedHead 105 = .ok (.aload_n 0, 1) := by decide +kernel
theorem dX10_makeSealedHead_106 : decode cX10_makeSealedHead 106 = .ok (.getfield 14, 3) := by decide +kernel
theorem dX10_makeSealedHead_109 : decode cX10_makeSealedHead 109 = .ok (.bipush 125, 2) := by decide +kernel
theorem dX10_makeSealedHead_111 : decode cX10_makeSealedHead 111 = .ok (.invokevirtual 246, 3) := by decide +kernel
theorem dX10_makeSealedHead_114 : decode cX10_makeSealedHead 114 = .ok (.return_, 1) := by decide +kernel
abbrev rmX10_makeSealedHead : Room := { frames := 7, cells := 0, slots := 0, locals := 154 }
set_option maxHeartbeats 4000000 in
set_option maxRecDepth 100000 in
theorem wP_X10_makeSealedHead {G : mG} {F : Nat} {x : mXT} {sz : Nat} {M0 : mM} (X : mCX G RX10 cX10_makeSealedHead 4 none "makeSealedHead" rmX10_makeSealedHead x) (hQ : mQV x M0 (sz, 0, 0)) {l0 : Nat} {l1 : Nat} {l2 : Nat} {l3 : Nat} {M : mM} (h : P_X10_makeSealedHead G F l0 l1 l2 l3 M = some M0) : WW x (sz, 0, 0) M 0 [(0, .ref l0), (1, .ref l1), (2, .ref l2), (3, .ref l3)] [] := by
  unfold P_X10_makeSealedHead at h
  refine ww_aload_n 0 X dX10_makeSealedHead_0 0 rfl rfl ?_
  refine ww_iconst 1 X (v := (5 : Int32)) dX10_makeSealedHead_1 (by decide) ?_
  refine ww_aload_n 2 X dX10_makeSealedHead_2 0 rfl rfl ?_
  obtain ⟨v3, e3, h⟩ := bO_some h
  refine ww_getI 3 X dX10_makeSealedHead_3 fG_X10_190 e3 ?_
  refine ww_iadd 6 X dX10_makeSealedHead_6 ?_
  obtain ⟨v7, M7, e7, h⟩ := bP_some h
  refine ww_callSRN0 7 X dX10_makeSealedHead_7 mY_X11_algName mL_X10_192 (As := [.int ((5 : Int32) + v3)]) (rest := [.ref l0]) rfl rfl ⟨Nat.le_of_ble_eq_true rfl, Nat.le_of_ble_eq_true rfl⟩ (Nat.le_of_ble_eq_true rfl) (fun l D A => c_X11_algName l D A e7) ?_
  obtain ⟨_, f10, h⟩ := bO_some h
  obtain ⟨M10, e10, h⟩ := bO_some h
  refine ww_callVV0 10 X dX10_makeSealedHead_10 mY_X10_startHead mL_X10_238 (rcv_spec f10) ⟨_, _, rfl⟩ (by decide) (As := [.ref v7]) (rest := []) rfl rfl ⟨Nat.le_of_ble_eq_true rfl, Nat.le_of_ble_eq_true rfl⟩ (Nat.le_of_ble_eq_true rfl) (fun l D A => c_X10_startHead l D A e10) ?_
  refine ww_aload_n 13 X dX10_makeSealedHead_13 0 rfl rfl ?_
  obtain ⟨v14, e14, h⟩ := bO_some h
  refine ww_getR 14 X dX10_makeSealedHead_14 fG_X10_14 e14 ?_
  refine ww_ldsw 17 X (j := 58) dX10_makeSealedHead_17 rfl ?_
  obtain ⟨_, f20, h⟩ := bO_some h
  obtain ⟨M20, e20, h⟩ := bO_some h
  refine ww_callVV0 20 X dX10_makeSealedHead_20 mY_X0_putText mL_X10_251 (rcv_spec f20) ⟨_, _, rfl⟩ (by decide) (As := [.ref (G.1 58)]) (rest := []) rfl rfl ⟨Nat.le_of_ble_eq_true rfl, Nat.le_of_ble_eq_true rfl⟩ (Nat.le_of_ble_eq_true rfl) (fun l D A => c_X0_putText l D A e20) ?_
  refine ww_aload_n 23 X dX10_makeSealedHead_23 0 rfl rfl ?_
  obtain ⟨v24, e24, h⟩ := bO_some h
  refine ww_getR 24 X dX10_makeSealedHead_24 fG_X10_14 e24 ?_
  refine ww_aload_n 27 X dX10_makeSealedHead_27 0 rfl rfl ?_
  obtain ⟨v28, e28, h⟩ := bO_some h
  refine ww_getI 28 X dX10_makeSealedHead_28 fG_X10_97 e28 ?_
  obtain ⟨v31, M31, e31, h⟩ := bP_some h
  refine ww_callSRN0 31 X dX10_makeSealedHead_31 mY_X11_wayName mL_X10_196 (As := [.int v28]) (rest := [.ref v24]) rfl rfl ⟨Nat.le_of_ble_eq_true rfl, Nat.le_of_ble_eq_true rfl⟩ (Nat.le_of_ble_eq_true rfl) (fun l D A => c_X11_wayName l D A e31) ?_
  obtain ⟨_, f34, h⟩ := bO_some h
  obtain ⟨M34, e34, h⟩ := bO_some h
  refine ww_callVV0 34 X dX10_makeSealedHead_34 mY_X0_putText mL_X10_251 (rcv_spec f34) ⟨_, _, rfl⟩ (by decide) (As := [.ref v31]) (rest := []) rfl rfl ⟨Nat.le_of_ble_eq_true rfl, Nat.le_of_ble_eq_true rfl⟩ (Nat.le_of_ble_eq_true rfl) (fun l D A => c_X0_putText l D A e34) ?_
  refine ww_aload_n 37 X dX10_makeSealedHead_37 0 rfl rfl ?_
  obtain ⟨v38, e38, h⟩ := bO_some h
  refine ww_getR 38 X dX10_makeSealedHead_38 fG_X10_14 e38 ?_
  refine ww_bipush 41 X (v := (34 : Int32)) dX10_makeSealedHead_41 (by decide) ?_
  obtain ⟨_, f43, h⟩ := bO_some h
  obtain ⟨M43, e43, h⟩ := bO_some h
  refine ww_callVV0 43 X dX10_makeSealedHead_43 mY_X0_put mL_X10_246 (rcv_spec f43) ⟨_, _, rfl⟩ (by decide) (As := [.int (34 : Int32)]) (rest := []) rfl rfl ⟨Nat.le_of_ble_eq_true rfl, Nat.le_of_ble_eq_true rfl⟩ (Nat.le_of_ble_eq_true rfl) (fun l D A => c_X0_put l D A e43) ?_
  refine ww_aload_n 46 X dX10_makeSealedHead_46 0 rfl rfl ?_
  refine ww_aload_n 47 X dX10_makeSealedHead_47 1 rfl rfl ?_
  obtain ⟨_, f48, h⟩ := bO_some h
  obtain ⟨M48, e48, h⟩ := bO_some h
  refine ww_callVV0 48 X dX10_makeSealedHead_48 mY_X10_putKid mL_X10_242 (rcv_spec f48) ⟨_, _, rfl⟩ (by decide) (As := [.ref l1]) (rest := []) rfl rfl ⟨Nat.le_of_ble_eq_true rfl, Nat.le_of_ble_eq_true rfl⟩ (Nat.le_of_ble_eq_true rfl) (fun l D A => c_X10_putKid l D A e48) ?_
  refine ww_aload_n 51 X dX10_makeSealedHead_51 0 rfl rfl ?_
  obtain ⟨v52, e52, h⟩ := bO_some h
  refine ww_getI 52 X dX10_makeSealedHead_52 fG_X10_190 e52 ?_
  refine ww_iconst 55 X (v := (4 : Int32)) dX10_makeSealedHead_55 (by decide) ?_
  refine ww_icmp_lt 56 105 X dX10_makeSealedHead_56 (by decide) (fun q => ?_) (fun q => ?_)
  · replace h := (if_pos q).symm.trans h
    refine ww_aload_n 105 X dX10_makeSealedHead_105 0 rfl rfl ?_
    obtain ⟨v106, e106, h⟩ := bO_some h
    refine ww_getR 106 X dX10_makeSealedHead_106 fG_X10_14 e106 ?_
    refine ww_bipush 109 X (v := (125 : Int32)) dX10_makeSealedHead_109 (by decide) ?_
    obtain ⟨_, f111, h⟩ := bO_some h
    obtain ⟨M111, e111, h⟩ := bO_some h
    refine ww_callVV0 111 X dX10_makeSealedHead_111 mY_X0_put mL_X10_246 (rcv_spec f111) ⟨_, _, rfl⟩ (by decide) (As := [.int (125 : Int32)]) (rest := []) rfl rfl ⟨Nat.le_of_ble_eq_true rfl, Nat.le_of_ble_eq_true rfl⟩ (Nat.le_of_ble_eq_true rfl) (fun l D A => c_X0_put l D A e111) ?_
    exact ww_vretE 114 X hQ dX10_makeSealedHead_114 h
  · replace h := (if_neg q).symm.trans h
    refine ww_aload_n 59 X dX10_makeSealedHead_59 0 rfl rfl ?_
    obtain ⟨v60, e60, h⟩ := bO_some h
    refine ww_getR 60 X dX10_makeSealedHead_60 fG_X10_14 e60 ?_
    refine ww_ldsw 63 X (j := 63) dX10_makeSealedHead_63 rfl ?_
    obtain ⟨_, f66, h⟩ := bO_some h
    obtain ⟨M66, e66, h⟩ := bO_some h
    refine ww_callVV0 66 X dX10_makeSealedHead_66 mY_X0_putText mL_X10_251 (rcv_spec f66) ⟨_, _, rfl⟩ (by decide) (As := [.ref (G.1 63)]) (rest := []) rfl rfl ⟨Nat.le_of_ble_eq_true rfl, Nat.le_of_ble_eq_true rfl⟩ (Nat.le_of_ble_eq_true rfl) (fun l D A => c_X0_putText l D A e66) ?_
    refine ww_aload_n 69 X dX10_makeSealedHead_69 0 rfl rfl ?_
    obtain ⟨v70, e70, h⟩ := bO_some h
    refine ww_getR 70 X dX10_makeSealedHead_70 fG_X10_28 e70 ?_
    refine ww_aload_n 73 X dX10_makeSealedHead_73 0 rfl rfl ?_
    obtain ⟨v74, e74, h⟩ := bO_some h
    refine ww_getR 74 X dX10_makeSealedHead_74 fG_X10_14 e74 ?_
    obtain ⟨M77, e77, h⟩ := bO_some h
    refine ww_callSV0 77 X dX10_makeSealedHead_77 mY_X5_putPointMembers mL_X10_264 (As := [.ref v70, .ref v74]) (rest := []) rfl rfl ⟨Nat.le_of_ble_eq_true rfl, Nat.le_of_ble_eq_true rfl⟩ (Nat.le_of_ble_eq_true rfl) (fun l D A => c_X5_putPointMembers l D A e77) ?_
    refine ww_aload_n 80 X dX10_makeSealedHead_80 0 rfl rfl ?_
    obtain ⟨v81, e81, h⟩ := bO_some h
    refine ww_getR 81 X dX10_makeSealedHead_81 fG_X10_14 e81 ?_
    refine ww_bipush 84 X (v := (125 : Int32)) dX10_makeSealedHead_84 (by decide) ?_
    obtain ⟨_, f86, h⟩ := bO_some h
    obtain ⟨M86, e86, h⟩ := bO_some h
    refine ww_callVV0 86 X dX10_makeSealedHead_86 mY_X0_put mL_X10_246 (rcv_spec f86) ⟨_, _, rfl⟩ (by decide) (As := [.int (125 : Int32)]) (rest := []) rfl rfl ⟨Nat.le_of_ble_eq_true rfl, Nat.le_of_ble_eq_true rfl⟩ (Nat.le_of_ble_eq_true rfl) (fun l D A => c_X0_put l D A e86) ?_
    refine ww_aload_n 89 X dX10_makeSealedHead_89 0 rfl rfl ?_
    refine ww_ldsw 90 X (j := 64) dX10_makeSealedHead_90 rfl ?_
    refine ww_aload_n 93 X dX10_makeSealedHead_93 2 rfl rfl ?_
    obtain ⟨_, f94, h⟩ := bO_some h
    obtain ⟨M94, e94, h⟩ := bO_some h
    refine ww_callVV0 94 X dX10_makeSealedHead_94 mY_X10_putParty mL_X10_270 (rcv_spec f94) ⟨_, _, rfl⟩ (by decide) (As := [.ref (G.1 64), .ref l2]) (rest := []) rfl rfl ⟨Nat.le_of_ble_eq_true rfl, Nat.le_of_ble_eq_true rfl⟩ (Nat.le_of_ble_eq_true rfl) (fun l D A => c_X10_putParty l D A e94) ?_
    refine ww_aload_n 97 X dX10_makeSealedHead_97 0 rfl rfl ?_
    refine ww_ldsw 98 X (j := 65) dX10_makeSealedHead_98 rfl ?_
    refine ww_aload_n 101 X dX10_makeSealedHead_101 3 rfl rfl ?_
    obtain ⟨_, f102, h⟩ := bO_some h
    obtain ⟨M102, e102, h⟩ := bO_some h
    refine ww_callVV0 102 X dX10_makeSealedHead_102 mY_X10_putParty mL_X10_270 (rcv_spec f102) ⟨_, _, rfl⟩ (by decide) (As := [.ref (G.1 65), .ref l3]) (rest := []) rfl rfl ⟨Nat.le_of_ble_eq_true rfl, Nat.le_of_ble_eq_true rfl⟩ (Nat.le_of_ble_eq_true rfl) (fun l D A => c_X10_putParty l D A e102) ?_
    refine ww_aload_n 105 X dX10_makeSealedHead_105 0 rfl rfl ?_
    obtain ⟨v106, e106, h⟩ := bO_some h
    refine ww_getR 106 X dX10_makeSealedHead_106 fG_X10_14 e106 ?_
    refine ww_bipush 109 X (v := (125 : Int32)) dX10_makeSealedHead_109 (by decide) ?_
    obtain ⟨_, f111, h⟩ := bO_some h
    obtain ⟨M111, e111, h⟩ := bO_some h
    refine ww_callVV0 111 X dX10_makeSealedHead_111 mY_X0_put mL_X10_246 (rcv_spec f111) ⟨_, _, rfl⟩ (by decide) (As := [.int (125 : Int32)]) (rest := []) rfl rfl ⟨Nat.le_of_ble_eq_true rfl, Nat.le_of_ble_eq_true rfl⟩ (Nat.le_of_ble_eq_true rfl) (fun l D A => c_X0_put l D A e111) ?_
    exact ww_vretE 114 X hQ dX10_makeSealedHead_114 h
theorem c_X10_makeSealedHead {G : mG} {F sz : Nat} {M0 : mM} (l : Launch) (D : mD) (A : Nat → Prop) {l0 : Nat} {l1 : Nat} {l2 : Nat} {l3 : Nat} {M : mM} (h : P_X10_makeSealedHead G F l0 l1 l2 l3 M = some M0) : mMetV l D G A yX10_makeSealedHead cX10_makeSealedHead 4 none 7 154 0 0 [.ref l0, .ref l1, .ref l2, .ref l3] M sz M0 sz := mMetV_of l D G A (by decide) (Nat.le_of_ble_eq_true rfl) (fun x X hQ => wP_X10_makeSealedHead X hQ h)
/-! SealedTokens$Token.makeSealedHead(LSealedTokens$Key;LSealedTokens$Bytes;LSealedTokens$Bytes;)V -/
abbrev rmX10_makeSealedHead_n2 : Room := { frames := 7, cells := 0, slots := 0, locals := 154 }
set_option maxHeartbeats 4000000 in
set_option maxRecDepth 100000 in
theorem wP_X10_makeSealedHead_n2 {G : mG} {F : Nat} {x : mXT} {sz : Nat} {M0 : mM} (X : mCX G RX10 cX10_makeSealedHead 4 none "makeSealedHead" rmX10_makeSealedHead_n2 x) (hQ : mQV x M0 (sz, 0, 0)) {l0 : Nat} {l1 : Nat} {l3 : Nat} {M : mM} (h : P_X10_makeSealedHead_n2 G F l0 l1 l3 M = some M0) : WW x (sz, 0, 0) M 0 [(0, .ref l0), (1, .ref l1), (2, .null), (3, .ref l3)] [] := by
  unfold P_X10_makeSealedHead_n2 at h
  refine ww_aload_n 0 X dX10_makeSealedHead_0 0 rfl rfl ?_
  refine ww_iconst 1 X (v := (5 : Int32)) dX10_makeSealedHead_1 (by decide) ?_
  refine ww_aload_n 2 X dX10_makeSealedHead_2 0 rfl rfl ?_
  obtain ⟨v3, e3, h⟩ := bO_some h
  refine ww_getI 3 X dX10_makeSealedHead_3 fG_X10_190 e3 ?_
  refine ww_iadd 6 X dX10_makeSealedHead_6 ?_
  obtain ⟨v7, M7, e7, h⟩ := bP_some h
  refine ww_callSRN0 7 X dX10_makeSealedHead_7 mY_X11_algName mL_X10_192 (As := [.int ((5 : Int32) + v3)]) (rest := [.ref l0]) rfl rfl ⟨Nat.le_of_ble_eq_true rfl, Nat.le_of_ble_eq_true rfl⟩ (Nat.le_of_ble_eq_true rfl) (fun l D A => c_X11_algName l D A e7) ?_
  obtain ⟨_, f10, h⟩ := bO_some h
  obtain ⟨M10, e10, h⟩ := bO_some h
  refine ww_callVV0 10 X dX10_makeSealedHead_10 mY_X10_startHead mL_X10_238 (rcv_spec f10) ⟨_, _, rfl⟩ (by decide) (As := [.ref v7]) (rest := []) rfl rfl ⟨Nat.le_of_ble_eq_true rfl, Nat.le_of_ble_eq_true rfl⟩ (Nat.le_of_ble_eq_true rfl) (fun l D A => c_X10_startHead l D A e10) ?_
  refine ww_aload_n 13 X dX10_makeSealedHead_13 0 rfl rfl ?_
  obtain ⟨v14, e14, h⟩ := bO_some h
  refine ww_getR 14 X dX10_makeSealedHead_14 fG_X10_14 e14 ?_
  refine ww_ldsw 17 X (j := 58) dX10_makeSealedHead_17 rfl ?_
  obtain ⟨_, f20, h⟩ := bO_some h
  obtain ⟨M20, e20, h⟩ := bO_some h
  refine ww_callVV0 20 X dX10_makeSealedHead_20 mY_X0_putText mL_X10_251 (rcv_spec f20) ⟨_, _, rfl⟩ (by decide) (As := [.ref (G.1 58)]) (rest := []) rfl rfl ⟨Nat.le_of_ble_eq_true rfl, Nat.le_of_ble_eq_true rfl⟩ (Nat.le_of_ble_eq_true rfl) (fun l D A => c_X0_putText l D A e20) ?_
  refine ww_aload_n 23 X dX10_makeSealedHead_23 0 rfl rfl ?_
  obtain ⟨v24, e24, h⟩ := bO_some h
  refine ww_getR 24 X dX10_makeSealedHead_24 fG_X10_14 e24 ?_
  refine ww_aload_n 27 X dX10_makeSealedHead_27 0 rfl rfl ?_
  obtain ⟨v28, e28, h⟩ := bO_some h
  refine ww_getI 28 X dX10_makeSealedHead_28 fG_X10_97 e28 ?_
  obtain ⟨v31, M31, e31, h⟩ := bP_some h
  refine ww_callSRN0 31 X dX10_makeSealedHead_31 mY_X11_wayName mL_X10_196 (As := [.int v28]) (rest := [.ref v24]) rfl rfl ⟨Nat.le_of_ble_eq_true rfl, Nat.le_of_ble_eq_true rfl⟩ (Nat.le_of_ble_eq_true rfl) (fun l D A => c_X11_wayName l D A e31) ?_
  obtain ⟨_, f34, h⟩ := bO_some h
  obtain ⟨M34, e34, h⟩ := bO_some h
  refine ww_callVV0 34 X dX10_makeSealedHead_34 mY_X0_putText mL_X10_251 (rcv_spec f34) ⟨_, _, rfl⟩ (by decide) (As := [.ref v31]) (rest := []) rfl rfl ⟨Nat.le_of_ble_eq_true rfl, Nat.le_of_ble_eq_true rfl⟩ (Nat.le_of_ble_eq_true rfl) (fun l D A => c_X0_putText l D A e34) ?_
  refine ww_aload_n 37 X dX10_makeSealedHead_37 0 rfl rfl ?_
  obtain ⟨v38, e38, h⟩ := bO_some h
  refine ww_getR 38 X dX10_makeSealedHead_38 fG_X10_14 e38 ?_
  refine ww_bipush 41 X (v := (34 : Int32)) dX10_makeSealedHead_41 (by decide) ?_
  obtain ⟨_, f43, h⟩ := bO_some h
  obtain ⟨M43, e43, h⟩ := bO_some h
  refine ww_callVV0 43 X dX10_makeSealedHead_43 mY_X0_put mL_X10_246 (rcv_spec f43) ⟨_, _, rfl⟩ (by decide) (As := [.int (34 : Int32)]) (rest := []) rfl rfl ⟨Nat.le_of_ble_eq_true rfl, Nat.le_of_ble_eq_true rfl⟩ (Nat.le_of_ble_eq_true rfl) (fun l D A => c_X0_put l D A e43) ?_
  refine ww_aload_n 46 X dX10_makeSealedHead_46 0 rfl rfl ?_
  refine ww_aload_n 47 X dX10_makeSealedHead_47 1 rfl rfl ?_
  obtain ⟨_, f48, h⟩ := bO_some h
  obtain ⟨M48, e48, h⟩ := bO_some h
  refine ww_callVV0 48 X dX10_makeSealedHead_48 mY_X10_putKid mL_X10_242 (rcv_spec f48) ⟨_, _, rfl⟩ (by decide) (As := [.ref l1]) (rest := []) rfl rfl ⟨Nat.le_of_ble_eq_true rfl, Nat.le_of_ble_eq_true rfl⟩ (Nat.le_of_ble_eq_true rfl) (fun l D A => c_X10_putKid l D A e48) ?_
  refine ww_aload_n 51 X dX10_makeSealedHead_51 0 rfl rfl ?_
  obtain ⟨v52, e52, h⟩ := bO_some h
  refine ww_getI 52 X dX10_makeSealedHead_52 fG_X10_190 e52 ?_
  refine ww_iconst 55 X (v := (4 : Int32)) dX10_makeSealedHead_55 (by decide) ?_
  refine ww_icmp_lt 56 105 X dX10_makeSealedHead_56 (by decide) (fun q => ?_) (fun q => ?_)
  · replace h := (if_pos q).symm.trans h
    refine ww_aload_n 105 X dX10_makeSealedHead_105 0 rfl rfl ?_
    obtain ⟨v106, e106, h⟩ := bO_some h
    refine ww_getR 106 X dX10_makeSealedHead_106 fG_X10_14 e106 ?_
    refine ww_bipush 109 X (v := (125 : Int32)) dX10_makeSealedHead_109 (by decide) ?_
    obtain ⟨_, f111, h⟩ := bO_some h
    obtain ⟨M111, e111, h⟩ := bO_some h
    refine ww_callVV0 111 X dX10_makeSealedHead_111 mY_X0_put mL_X10_246 (rcv_spec f111) ⟨_, _, rfl⟩ (by decide) (As := [.int (125 : Int32)]) (rest := []) rfl rfl ⟨Nat.le_of_ble_eq_true rfl, Nat.le_of_ble_eq_true rfl⟩ (Nat.le_of_ble_eq_true rfl) (fun l D A => c_X0_put l D A e111) ?_
    exact ww_vretE 114 X hQ dX10_makeSealedHead_114 h
  · replace h := (if_neg q).symm.trans h
    refine ww_aload_n 59 X dX10_makeSealedHead_59 0 rfl rfl ?_
    obtain ⟨v60, e60, h⟩ := bO_some h
    refine ww_getR 60 X dX10_makeSealedHead_60 fG_X10_14 e60 ?_
    refine ww_ldsw 63 X (j := 63) dX10_makeSealedHead_63 rfl ?_
    obtain ⟨_, f66, h⟩ := bO_some h
    obtain ⟨M66, e66, h⟩ := bO_some h
    refine ww_callVV0 66 X dX10_makeSealedHead_66 mY_X0_putText mL_X10_251 (rcv_spec f66) ⟨_, _, rfl⟩ (by decide) (As := [.ref (G.1 63)]) (rest := []) rfl rfl ⟨Nat.le_of_ble_eq_true rfl, Nat.le_of_ble_eq_true rfl⟩ (Nat.le_of_ble_eq_true rfl) (fun l D A => c_X0_putText l D A e66) ?_
    refine ww_aload_n 69 X dX10_makeSealedHead_69 0 rfl rfl ?_
    obtain ⟨v70, e70, h⟩ := bO_some h
    refine ww_getR 70 X dX10_makeSealedHead_70 fG_X10_28 e70 ?_
    refine ww_aload_n 73 X dX10_makeSealedHead_73 0 rfl rfl ?_
    obtain ⟨v74, e74, h⟩ := bO_some h
    refine ww_getR 74 X dX10_makeSealedHead_74 fG_X10_14 e74 ?_
    obtain ⟨M77, e77, h⟩ := bO_some h
    refine ww_callSV0 77 X dX10_makeSealedHead_77 mY_X5_putPointMembers mL_X10_264 (As := [.ref v70, .ref v74]) (rest := []) rfl rfl ⟨Nat.le_of_ble_eq_true rfl, Nat.le_of_ble_eq_true rfl⟩ (Nat.le_of_ble_eq_true rfl) (fun l D A => c_X5_putPointMembers l D A e77) ?_
    refine ww_aload_n 80 X dX10_makeSealedHead_80 0 rfl rfl ?_
    obtain ⟨v81, e81, h⟩ := bO_some h
    refine ww_getR 81 X dX10_makeSealedHead_81 fG_X10_14 e81 ?_
    refine ww_bipush 84 X (v := (125 : Int32)) dX10_makeSealedHead_84 (by decide) ?_
    obtain ⟨_, f86, h⟩ := bO_some h
    obtain ⟨M86, e86, h⟩ := bO_some h
    refine ww_callVV0 86 X dX10_makeSealedHead_86 mY_X0_put mL_X10_246 (rcv_spec f86) ⟨_, _, rfl⟩ (by decide) (As := [.int (125 : Int32)]) (rest := []) rfl rfl ⟨Nat.le_of_ble_eq_true rfl, Nat.le_of_ble_eq_true rfl⟩ (Nat.le_of_ble_eq_true rfl) (fun l D A => c_X0_put l D A e86) ?_
    refine ww_aload_n 89 X dX10_makeSealedHead_89 0 rfl rfl ?_
    refine ww_ldsw 90 X (j := 64) dX10_makeSealedHead_90 rfl ?_
    refine ww_aload_nN 93 X dX10_makeSealedHead_93 2 rfl rfl ?_
    obtain ⟨_, f94, h⟩ := bO_some h
    obtain ⟨M94, e94, h⟩ := bO_some h
    refine ww_callVV0 94 X dX10_makeSealedHead_94 mY_X10_putParty mL_X10_270 (rcv_spec f94) ⟨_, _, rfl⟩ (by decide) (As := [.ref (G.1 64), .null]) (rest := []) rfl rfl ⟨Nat.le_of_ble_eq_true rfl, Nat.le_of_ble_eq_true rfl⟩ (Nat.le_of_ble_eq_true rfl) (fun l D A => c_X10_putParty_n2 l D A e94) ?_
    refine ww_aload_n 97 X dX10_makeSealedHead_97 0 rfl rfl ?_
    refine ww_ldsw 98 X (j := 65) dX10_makeSealedHead_98 rfl ?_
    refine ww_aload_n 101 X dX10_makeSealedHead_101 3 rfl rfl ?_
    obtain ⟨_, f102, h⟩ := bO_some h
    obtain ⟨M102, e102, h⟩ := bO_some h
    refine ww_callVV0 102 X dX10_makeSealedHead_102 mY_X10_putParty mL_X10_270 (rcv_spec f102) ⟨_, _, rfl⟩ (by decide) (As := [.ref (G.1 65), .ref l3]) (rest := []) rfl rfl ⟨Nat.le_of_ble_eq_true rfl, Nat.le_of_ble_eq_true rfl⟩ (Nat.le_of_ble_eq_true rfl) (fun l D A => c_X10_putParty l D A e102) ?_
    refine ww_aload_n 105 X dX10_makeSealedHead_105 0 rfl rfl ?_
    obtain ⟨v106, e106, h⟩ := bO_some h
    refine ww_getR 106 X dX10_makeSealedHead_106 fG_X10_14 e106 ?_
    refine ww_bipush 109 X (v := (125 : Int32)) dX10_makeSealedHead_109 (by decide) ?_
    obtain ⟨_, f111, h⟩ := bO_some h
    obtain ⟨M111, e111, h⟩ := bO_some h
    refine ww_callVV0 111 X dX10_makeSealedHead_111 mY_X0_put mL_X10_246 (rcv_spec f111) ⟨_, _, rfl⟩ (by decide) (As := [.int (125 : Int32)]) (rest := []) rfl rfl ⟨Nat.le_of_ble_eq_true rfl, Nat.le_of_ble_eq_true rfl⟩ (Nat.le_of_ble_eq_true rfl) (fun l D A => c_X0_put l D A e111) ?_
    exact ww_vretE 114 X hQ dX10_makeSealedHead_114 h
theorem c_X10_makeSealedHead_n2 {G : mG} {F sz : Nat} {M0 : mM} (l : Launch) (D : mD) (A : Nat → Prop) {l0 : Nat} {l1 : Nat} {l3 : Nat} {M : mM} (h : P_X10_makeSealedHead_n2 G F l0 l1 l3 M = some M0) : mMetV l D G A yX10_makeSealedHead cX10_makeSealedHead 4 none 7 154 0 0 [.ref l0, .ref l1, .null, .ref l3] M sz M0 sz := mMetV_of l D G A (by decide) (Nat.le_of_ble_eq_true rfl) (fun x X hQ => wP_X10_makeSealedHead_n2 X hQ h)
/-! SealedTokens$Token.makeSealedHead(LSealedTokens$Key;LSealedTokens$Bytes;LSealedTokens$Bytes;)V -/
abbrev rmX10_makeSealedHead_n3 : Room := { frames := 7, cells := 0, slots := 0, locals := 154 }
set_option maxHeartbeats 4000000 in
set_option maxRecDepth 100000 in
theorem wP_X10_makeSealedHead_n3 {G : mG} {F : Nat} {x : mXT} {sz : Nat} {M0 : mM} (X : mCX G RX10 cX10_makeSealedHead 4 none "makeSealedHead" rmX10_makeSealedHead_n3 x) (hQ : mQV x M0 (sz, 0, 0)) {l0 : Nat} {l1 : Nat} {l2 : Nat} {M : mM} (h : P_X10_makeSealedHead_n3 G F l0 l1 l2 M = some M0) : WW x (sz, 0, 0) M 0 [(0, .ref l0), (1, .ref l1), (2, .ref l2), (3, .null)] [] := by
  unfold P_X10_makeSealedHead_n3 at h
  refine ww_aload_n 0 X dX10_makeSealedHead_0 0 rfl rfl ?_
  refine ww_iconst 1 X (v := (5 : Int32)) dX10_makeSealedHead_1 (by decide) ?_
  refine ww_aload_n 2 X dX10_makeSealedHead_2 0 rfl rfl ?_
  obtain ⟨v3, e3, h⟩ := bO_some h
  refine ww_getI 3 X dX10_makeSealedHead_3 fG_X10_190 e3 ?_
  refine ww_iadd 6 X dX10_makeSealedHead_6 ?_
  obtain ⟨v7, M7, e7, h⟩ := bP_some h
  refine ww_callSRN0 7 X dX10_makeSealedHead_7 mY_X11_algName mL_X10_192 (As := [.int ((5 : Int32) + v3)]) (rest := [.ref l0]) rfl rfl ⟨Nat.le_of_ble_eq_true rfl, Nat.le_of_ble_eq_true rfl⟩ (Nat.le_of_ble_eq_true rfl) (fun l D A => c_X11_algName l D A e7) ?_
  obtain ⟨_, f10, h⟩ := bO_some h
  obtain ⟨M10, e10, h⟩ := bO_some h
  refine ww_callVV0 10 X dX10_makeSealedHead_10 mY_X10_startHead mL_X10_238 (rcv_spec f10) ⟨_, _, rfl⟩ (by decide) (As := [.ref v7]) (rest := []) rfl rfl ⟨Nat.le_of_ble_eq_true rfl, Nat.le_of_ble_eq_true rfl⟩ (Nat.le_of_ble_eq_true rfl) (fun l D A => c_X10_startHead l D A e10) ?_
  refine ww_aload_n 13 X dX10_makeSealedHead_13 0 rfl rfl ?_
  obtain ⟨v14, e14, h⟩ := bO_some h
  refine ww_getR 14 X dX10_makeSealedHead_14 fG_X10_14 e14 ?_
  refine ww_ldsw 17 X (j := 58) dX10_makeSealedHead_17 rfl ?_
  obtain ⟨_, f20, h⟩ := bO_some h
  obtain ⟨M20, e20, h⟩ := bO_some h
  refine ww_callVV0 20 X dX10_makeSealedHead_20 mY_X0_putText mL_X10_251 (rcv_spec f20) ⟨_, _, rfl⟩ (by decide) (As := [.ref (G.1 58)]) (rest := []) rfl rfl ⟨Nat.le_of_ble_eq_true rfl, Nat.le_of_ble_eq_true rfl⟩ (Nat.le_of_ble_eq_true rfl) (fun l D A => c_X0_putText l D A e20) ?_
  refine ww_aload_n 23 X dX10_makeSealedHead_23 0 rfl rfl ?_
  obtain ⟨v24, e24, h⟩ := bO_some h
  refine ww_getR 24 X dX10_makeSealedHead_24 fG_X10_14 e24 ?_
  refine ww_aload_n 27 X dX10_makeSealedHead_27 0 rfl rfl ?_
  obtain ⟨v28, e28, h⟩ := bO_some h
  refine ww_getI 28 X dX10_makeSealedHead_28 fG_X10_97 e28 ?_
  obtain ⟨v31, M31, e31, h⟩ := bP_some h
  refine ww_callSRN0 31 X dX10_makeSealedHead_31 mY_X11_wayName mL_X10_196 (As := [.int v28]) (rest := [.ref v24]) rfl rfl ⟨Nat.le_of_ble_eq_true rfl, Nat.le_of_ble_eq_true rfl⟩ (Nat.le_of_ble_eq_true rfl) (fun l D A => c_X11_wayName l D A e31) ?_
  obtain ⟨_, f34, h⟩ := bO_some h
  obtain ⟨M34, e34, h⟩ := bO_some h
  refine ww_callVV0 34 X dX10_makeSealedHead_34 mY_X0_putText mL_X10_251 (rcv_spec f34) ⟨_, _, rfl⟩ (by decide) (As := [.ref v31]) (rest := []) rfl rfl ⟨Nat.le_of_ble_eq_true rfl, Nat.le_of_ble_eq_true rfl⟩ (Nat.le_of_ble_eq_true rfl) (fun l D A => c_X0_putText l D A e34) ?_
  refine ww_aload_n 37 X dX10_makeSealedHead_37 0 rfl rfl ?_
  obtain ⟨v38, e38, h⟩ := bO_some h
  refine ww_getR 38 X dX10_makeSealedHead_38 fG_X10_14 e38 ?_
  refine ww_bipush 41 X (v := (34 : Int32)) dX10_makeSealedHead_41 (by decide) ?_
  obtain ⟨_, f43, h⟩ := bO_some h
  obtain ⟨M43, e43, h⟩ := bO_some h
  refine ww_callVV0 43 X dX10_makeSealedHead_43 mY_X0_put mL_X10_246 (rcv_spec f43) ⟨_, _, rfl⟩ (by decide) (As := [.int (34 : Int32)]) (rest := []) rfl rfl ⟨Nat.le_of_ble_eq_true rfl, Nat.le_of_ble_eq_true rfl⟩ (Nat.le_of_ble_eq_true rfl) (fun l D A => c_X0_put l D A e43) ?_
  refine ww_aload_n 46 X dX10_makeSealedHead_46 0 rfl rfl ?_
  refine ww_aload_n 47 X dX10_makeSealedHead_47 1 rfl rfl ?_
  obtain ⟨_, f48, h⟩ := bO_some h
  obtain ⟨M48, e48, h⟩ := bO_some h
  refine ww_callVV0 48 X dX10_makeSealedHead_48 mY_X10_putKid mL_X10_242 (rcv_spec f48) ⟨_, _, rfl⟩ (by decide) (As := [.ref l1]) (rest := []) rfl rfl ⟨Nat.le_of_ble_eq_true rfl, Nat.le_of_ble_eq_true rfl⟩ (Nat.le_of_ble_eq_true rfl) (fun l D A => c_X10_putKid l D A e48) ?_
  refine ww_aload_n 51 X dX10_makeSealedHead_51 0 rfl rfl ?_
  obtain ⟨v52, e52, h⟩ := bO_some h
  refine ww_getI 52 X dX10_makeSealedHead_52 fG_X10_190 e52 ?_
  refine ww_iconst 55 X (v := (4 : Int32)) dX10_makeSealedHead_55 (by decide) ?_
  refine ww_icmp_lt 56 105 X dX10_makeSealedHead_56 (by decide) (fun q => ?_) (fun q => ?_)
  · replace h := (if_pos q).symm.trans h
    refine ww_aload_n 105 X dX10_makeSealedHead_105 0 rfl rfl ?_
    obtain ⟨v106, e106, h⟩ := bO_some h
    refine ww_getR 106 X dX10_makeSealedHead_106 fG_X10_14 e106 ?_
    refine ww_bipush 109 X (v := (125 : Int32)) dX10_makeSealedHead_109 (by decide) ?_
    obtain ⟨_, f111, h⟩ := bO_some h
    obtain ⟨M111, e111, h⟩ := bO_some h
    refine ww_callVV0 111 X dX10_makeSealedHead_111 mY_X0_put mL_X10_246 (rcv_spec f111) ⟨_, _, rfl⟩ (by decide) (As := [.int (125 : Int32)]) (rest := []) rfl rfl ⟨Nat.le_of_ble_eq_true rfl, Nat.le_of_ble_eq_true rfl⟩ (Nat.le_of_ble_eq_true rfl) (fun l D A => c_X0_put l D A e111) ?_
    exact ww_vretE 114 X hQ dX10_makeSealedHead_114 h
  · replace h := (if_neg q).symm.trans h
    refine ww_aload_n 59 X dX10_makeSealedHead_59 0 rfl rfl ?_
    obtain ⟨v60, e60, h⟩ := bO_some h
    refine ww_getR 60 X dX10_makeSealedHead_60 fG_X10_14 e60 ?_
    refine ww_ldsw 63 X (j := 63) dX10_makeSealedHead_63 rfl ?_
    obtain ⟨_, f66, h⟩ := bO_some h
    obtain ⟨M66, e66, h⟩ := bO_some h
    refine ww_callVV0 66 X dX10_makeSealedHead_66 mY_X0_putText mL_X10_251 (rcv_spec f66) ⟨_, _, rfl⟩ (by decide) (As := [.ref (G.1 63)]) (rest := []) rfl rfl ⟨Nat.le_of_ble_eq_true rfl, Nat.le_of_ble_eq_true rfl⟩ (Nat.le_of_ble_eq_true rfl) (fun l D A => c_X0_putText l D A e66) ?_
    refine ww_aload_n 69 X dX10_makeSealedHead_69 0 rfl rfl ?_
    obtain ⟨v70, e70, h⟩ := bO_some h
    refine ww_getR 70 X dX10_makeSealedHead_70 fG_X10_28 e70 ?_
    refine ww_aload_n 73 X dX10_makeSealedHead_73 0 rfl rfl ?_
    obtain ⟨v74, e74, h⟩ := bO_some h
    refine ww_getR 74 X dX10_makeSealedHead_74 fG_X10_14 e74 ?_
    obtain ⟨M77, e77, h⟩ := bO_some h
    refine ww_callSV0 77 X dX10_makeSealedHead_77 mY_X5_putPointMembers mL_X10_264 (As := [.ref v70, .ref v74]) (rest := []) rfl rfl ⟨Nat.le_of_ble_eq_true rfl, Nat.le_of_ble_eq_true rfl⟩ (Nat.le_of_ble_eq_true rfl) (fun l D A => c_X5_putPointMembers l D A e77) ?_
    refine ww_aload_n 80 X dX10_makeSealedHead_80 0 rfl rfl ?_
    obtain ⟨v81, e81, h⟩ := bO_some h
    refine ww_getR 81 X dX10_makeSealedHead_81 fG_X10_14 e81 ?_
    refine ww_bipush 84 X (v := (125 : Int32)) dX10_makeSealedHead_84 (by decide) ?_
    obtain ⟨_, f86, h⟩ := bO_some h
    obtain ⟨M86, e86, h⟩ := bO_some h
    refine ww_callVV0 86 X dX10_makeSealedHead_86 mY_X0_put mL_X10_246 (rcv_spec f86) ⟨_, _, rfl⟩ (by decide) (As := [.int (125 : Int32)]) (rest := []) rfl rfl ⟨Nat.le_of_ble_eq_true rfl, Nat.le_of_ble_eq_true rfl⟩ (Nat.le_of_ble_eq_true rfl) (fun l D A => c_X0_put l D A e86) ?_
    refine ww_aload_n 89 X dX10_makeSealedHead_89 0 rfl rfl ?_
    refine ww_ldsw 90 X (j := 64) dX10_makeSealedHead_90 rfl ?_
    refine ww_aload_n 93 X dX10_makeSealedHead_93 2 rfl rfl ?_
    obtain ⟨_, f94, h⟩ := bO_some h
    obtain ⟨M94, e94, h⟩ := bO_some h
    refine ww_callVV0 94 X dX10_makeSealedHead_94 mY_X10_putParty mL_X10_270 (rcv_spec f94) ⟨_, _, rfl⟩ (by decide) (As := [.ref (G.1 64), .ref l2]) (rest := []) rfl rfl ⟨Nat.le_of_ble_eq_true rfl, Nat.le_of_ble_eq_true rfl⟩ (Nat.le_of_ble_eq_true rfl) (fun l D A => c_X10_putParty l D A e94) ?_
    refine ww_aload_n 97 X dX10_makeSealedHead_97 0 rfl rfl ?_
    refine ww_ldsw 98 X (j := 65) dX10_makeSealedHead_98 rfl ?_
    refine ww_aload_nN 101 X dX10_makeSealedHead_101 3 rfl rfl ?_
    obtain ⟨_, f102, h⟩ := bO_some h
    obtain ⟨M102, e102, h⟩ := bO_some h
    refine ww_callVV0 102 X dX10_makeSealedHead_102 mY_X10_putParty mL_X10_270 (rcv_spec f102) ⟨_, _, rfl⟩ (by decide) (As := [.ref (G.1 65), .null]) (rest := []) rfl rfl ⟨Nat.le_of_ble_eq_true rfl, Nat.le_of_ble_eq_true rfl⟩ (Nat.le_of_ble_eq_true rfl) (fun l D A => c_X10_putParty_n2 l D A e102) ?_
    refine ww_aload_n 105 X dX10_makeSealedHead_105 0 rfl rfl ?_
    obtain ⟨v106, e106, h⟩ := bO_some h
    refine ww_getR 106 X dX10_makeSealedHead_106 fG_X10_14 e106 ?_
    refine ww_bipush 109 X (v := (125 : Int32)) dX10_makeSealedHead_109 (by decide) ?_
    obtain ⟨_, f111, h⟩ := bO_some h
    obtain ⟨M111, e111, h⟩ := bO_some h
    refine ww_callVV0 111 X dX10_makeSealedHead_111 mY_X0_put mL_X10_246 (rcv_spec f111) ⟨_, _, rfl⟩ (by decide) (As := [.int (125 : Int32)]) (rest := []) rfl rfl ⟨Nat.le_of_ble_eq_true rfl, Nat.le_of_ble_eq_true rfl⟩ (Nat.le_of_ble_eq_true rfl) (fun l D A => c_X0_put l D A e111) ?_
    exact ww_vretE 114 X hQ dX10_makeSealedHead_114 h
theorem c_X10_makeSealedHead_n3 {G : mG} {F sz : Nat} {M0 : mM} (l : Launch) (D : mD) (A : Nat → Prop) {l0 : Nat} {l1 : Nat} {l2 : Nat} {M : mM} (h : P_X10_makeSealedHead_n3 G F l0 l1 l2 M = some M0) : mMetV l D G A yX10_makeSealedHead cX10_makeSealedHead 4 none 7 154 0 0 [.ref l0, .ref l1, .ref l2, .null] M sz M0 sz := mMetV_of l D G A (by decide) (Nat.le_of_ble_eq_true rfl) (fun x X hQ => wP_X10_makeSealedHead_n3 X hQ h)
/-! SealedTokens$Token.makeSealedHead(LSealedTokens$Key;LSealedTokens$Bytes;LSealedTokens$Bytes;)V -/
abbrev rmX10_makeSealedHead_n2_n3 : Room := { frames := 7, cells := 0, slots := 0, locals := 154 }
set_option maxHeartbeats 4000000 in
set_option maxRecDepth 100000 in
theorem wP_X10_makeSealedHead_n2_n3 {G : mG} {F : Nat} {x : mXT} {sz : Nat} {M0 : mM} (X : mCX G RX10 cX10_makeSealedHead 4 none "makeSealedHead" rmX10_makeSealedHead_n2_n3 x) (hQ : mQV x M0 (sz, 0, 0)) {l0 : Nat} {l1 : Nat} {M : mM} (h : P_X10_makeSealedHead_n2_n3 G F l0 l1 M = some M0) : WW x (sz, 0, 0) M 0 [(0, .ref l0), (1, .ref l1), (2, .null), (3, .null)] [] := by
  unfold P_X10_makeSealedHead_n2_n3 at h
  refine ww_aload_n 0 X dX10_makeSealedHead_0 0 rfl rfl ?_
  refine ww_iconst 1 X (v := (5 : Int32)) dX10_makeSealedHead_1 (by decide) ?_
  refine ww_aload_n 2 X dX10_makeSealedHead_2 0 rfl rfl ?_
  obtain ⟨v3, e3, h⟩ := bO_some h
  refine ww_getI 3 X dX10_makeSealedHead_3 fG_X10_190 e3 ?_
  refine ww_iadd 6 X dX10_makeSealedHead_6 ?_
  obtain ⟨v7, M7, e7, h⟩ := bP_some h
  refine ww_callSRN0 7 X dX10_makeSealedHead_7 mY_X11_algName mL_X10_192 (As := [.int ((5 : Int32) + v3)]) (rest := [.ref l0]) rfl rfl ⟨Nat.le_of_ble_eq_true rfl, Nat.le_of_ble_eq_true rfl⟩ (Nat.le_of_ble_eq_true rfl) (fun l D A => c_X11_algName l D A e7) ?_
  obtain ⟨_, f10, h⟩ := bO_some h
  obtain ⟨M10, e10, h⟩ := bO_some h
  refine ww_callVV0 10 X dX10_makeSealedHead_10 mY_X10_startHead mL_X10_238 (rcv_spec f10) ⟨_, _, rfl⟩ (by decide) (As := [.ref v7]) (rest := []) rfl rfl ⟨Nat.le_of_ble_eq_true rfl, Nat.le_of_ble_eq_true rfl⟩ (Nat.le_of_ble_eq_true rfl) (fun l D A => c_X10_startHead l D A e10) ?_
  refine ww_aload_n 13 X dX10_makeSealedHead_13 0 rfl rfl ?_
  obtain ⟨v14, e14, h⟩ := bO_some h
  refine ww_getR 14 X dX10_makeSealedHead_14 fG_X10_14 e14 ?_
  refine ww_ldsw 17 X (j := 58) dX10_makeSealedHead_17 rfl ?_
  obtain ⟨_, f20, h⟩ := bO_some h
  obtain ⟨M20, e20, h⟩ := bO_some h
  refine ww_callVV0 20 X dX10_makeSealedHead_20 mY_X0_putText mL_X10_251 (rcv_spec f20) ⟨_, _, rfl⟩ (by decide) (As := [.ref (G.1 58)]) (rest := []) rfl rfl ⟨Nat.le_of_ble_eq_true rfl, Nat.le_of_ble_eq_true rfl⟩ (Nat.le_of_ble_eq_true rfl) (fun l D A => c_X0_putText l D A e20) ?_
  refine ww_aload_n 23 X dX10_makeSealedHead_23 0 rfl rfl ?_
  obtain ⟨v24, e24, h⟩ := bO_some h
  refine ww_getR 24 X dX10_makeSealedHead_24 fG_X10_14 e24 ?_
  refine ww_aload_n 27 X dX10_makeSealedHead_27 0 rfl rfl ?_
  obtain ⟨v28, e28, h⟩ := bO_some h
  refine ww_getI 28 X dX10_makeSealedHead_28 fG_X10_97 e28 ?_
  obtain ⟨v31, M31, e31, h⟩ := bP_some h
  refine ww_callSRN0 31 X dX10_makeSealedHead_31 mY_X11_wayName mL_X10_196 (As := [.int v28]) (rest := [.ref v24]) rfl rfl ⟨Nat.le_of_ble_eq_true rfl, Nat.le_of_ble_eq_true rfl⟩ (Nat.le_of_ble_eq_true rfl) (fun l D A => c_X11_wayName l D A e31) ?_
  obtain ⟨_, f34, h⟩ := bO_some h
  obtain ⟨M34, e34, h⟩ := bO_some h
  refine ww_callVV0 34 X dX10_makeSealedHead_34 mY_X0_putText mL_X10_251 (rcv_spec f34) ⟨_, _, rfl⟩ (by decide) (As := [.ref v31]) (rest := []) rfl rfl ⟨Nat.le_of_ble_eq_true rfl, Nat.le_of_ble_eq_true rfl⟩ (Nat.le_of_ble_eq_true rfl) (fun l D A => c_X0_putText l D A e34) ?_
  refine ww_aload_n 37 X dX10_makeSealedHead_37 0 rfl rfl ?_
  obtain ⟨v38, e38, h⟩ := bO_some h
  refine ww_getR 38 X dX10_makeSealedHead_38 fG_X10_14 e38 ?_
  refine ww_bipush 41 X (v := (34 : Int32)) dX10_makeSealedHead_41 (by decide) ?_
  obtain ⟨_, f43, h⟩ := bO_some h
  obtain ⟨M43, e43, h⟩ := bO_some h
  refine ww_callVV0 43 X dX10_makeSealedHead_43 mY_X0_put mL_X10_246 (rcv_spec f43) ⟨_, _, rfl⟩ (by decide) (As := [.int (34 : Int32)]) (rest := []) rfl rfl ⟨Nat.le_of_ble_eq_true rfl, Nat.le_of_ble_eq_true rfl⟩ (Nat.le_of_ble_eq_true rfl) (fun l D A => c_X0_put l D A e43) ?_
  refine ww_aload_n 46 X dX10_makeSealedHead_46 0 rfl rfl ?_
  refine ww_aload_n 47 X dX10_makeSealedHead_47 1 rfl rfl ?_
  obtain ⟨_, f48, h⟩ := bO_some h
  obtain ⟨M48, e48, h⟩ := bO_some h
  refine ww_callVV0 48 X dX10_makeSealedHead_48 mY_X10_putKid mL_X10_242 (rcv_spec f48) ⟨_, _, rfl⟩ (by decide) (As := [.ref l1]) (rest := []) rfl rfl ⟨Nat.le_of_ble_eq_true rfl, Nat.le_of_ble_eq_true rfl⟩ (Nat.le_of_ble_eq_true rfl) (fun l D A => c_X10_putKid l D A e48) ?_
  refine ww_aload_n 51 X dX10_makeSealedHead_51 0 rfl rfl ?_
  obtain ⟨v52, e52, h⟩ := bO_some h
  refine ww_getI 52 X dX10_makeSealedHead_52 fG_X10_190 e52 ?_
  refine ww_iconst 55 X (v := (4 : Int32)) dX10_makeSealedHead_55 (by decide) ?_
  refine ww_icmp_lt 56 105 X dX10_makeSealedHead_56 (by decide) (fun q => ?_) (fun q => ?_)
  · replace h := (if_pos q).symm.trans h
    refine ww_aload_n 105 X dX10_makeSealedHead_105 0 rfl rfl ?_
    obtain ⟨v106, e106, h⟩ := bO_some h
    refine ww_getR 106 X dX10_makeSealedHead_106 fG_X10_14 e106 ?_
    refine ww_bipush 109 X (v := (125 : Int32)) dX10_makeSealedHead_109 (by decide) ?_
    obtain ⟨_, f111, h⟩ := bO_some h
    obtain ⟨M111, e111, h⟩ := bO_some h
    refine ww_callVV0 111 X dX10_makeSealedHead_111 mY_X0_put mL_X10_246 (rcv_spec f111) ⟨_, _, rfl⟩ (by decide) (As := [.int (125 : Int32)]) (rest := []) rfl rfl ⟨Nat.le_of_ble_eq_true rfl, Nat.le_of_ble_eq_true rfl⟩ (Nat.le_of_ble_eq_true rfl) (fun l D A => c_X0_put l D A e111) ?_
    exact ww_vretE 114 X hQ dX10_makeSealedHead_114 h
  · replace h := (if_neg q).symm.trans h
    refine ww_aload_n 59 X dX10_makeSealedHead_59 0 rfl rfl ?_
    obtain ⟨v60, e60, h⟩ := bO_some h
    refine ww_getR 60 X dX10_makeSealedHead_60 fG_X10_14 e60 ?_
    refine ww_ldsw 63 X (j := 63) dX10_makeSealedHead_63 rfl ?_
    obtain ⟨_, f66, h⟩ := bO_some h
    obtain ⟨M66, e66, h⟩ := bO_some h
    refine ww_callVV0 66 X dX10_makeSealedHead_66 mY_X0_putText mL_X10_251 (rcv_spec f66) ⟨_, _, rfl⟩ (by decide) (As := [.ref (G.1 63)]) (rest := []) rfl rfl ⟨Nat.le_of_ble_eq_true rfl, Nat.le_of_ble_eq_true rfl⟩ (Nat.le_of_ble_eq_true rfl) (fun l D A => c_X0_putText l D A e66) ?_
    refine ww_aload_n 69 X dX10_makeSealedHead_69 0 rfl rfl ?_
    obtain ⟨v70, e70, h⟩ := bO_some h
    refine ww_getR 70 X dX10_makeSealedHead_70 fG_X10_28 e70 ?_
    refine ww_aload_n 73 X dX10_makeSealedHead_73 0 rfl rfl ?_
    obtain ⟨v74, e74, h⟩ := bO_some h
    refine ww_getR 74 X dX10_makeSealedHead_74 fG_X10_14 e74 ?_
    obtain ⟨M77, e77, h⟩ := bO_some h
    refine ww_callSV0 77 X dX10_makeSealedHead_77 mY_X5_putPointMembers mL_X10_264 (As := [.ref v70, .ref v74]) (rest := []) rfl rfl ⟨Nat.le_of_ble_eq_true rfl, Nat.le_of_ble_eq_true rfl⟩ (Nat.le_of_ble_eq_true rfl) (fun l D A => c_X5_putPointMembers l D A e77) ?_
    refine ww_aload_n 80 X dX10_makeSealedHead_80 0 rfl rfl ?_
    obtain ⟨v81, e81, h⟩ := bO_some h
    refine ww_getR 81 X dX10_makeSealedHead_81 fG_X10_14 e81 ?_
    refine ww_bipush 84 X (v := (125 : Int32)) dX10_makeSealedHead_84 (by decide) ?_
    obtain ⟨_, f86, h⟩ := bO_some h
    obtain ⟨M86, e86, h⟩ := bO_some h
    refine ww_callVV0 86 X dX10_makeSealedHead_86 mY_X0_put mL_X10_246 (rcv_spec f86) ⟨_, _, rfl⟩ (by decide) (As := [.int (125 : Int32)]) (rest := []) rfl rfl ⟨Nat.le_of_ble_eq_true rfl, Nat.le_of_ble_eq_true rfl⟩ (Nat.le_of_ble_eq_true rfl) (fun l D A => c_X0_put l D A e86) ?_
    refine ww_aload_n 89 X dX10_makeSealedHead_89 0 rfl rfl ?_
    refine ww_ldsw 90 X (j := 64) dX10_makeSealedHead_90 rfl ?_
    refine ww_aload_nN 93 X dX10_makeSealedHead_93 2 rfl rfl ?_
    obtain ⟨_, f94, h⟩ := bO_some h
    obtain ⟨M94, e94, h⟩ := bO_some h
    refine ww_callVV0 94 X dX10_makeSealedHead_94 mY_X10_putParty mL_X10_270 (rcv_spec f94) ⟨_, _, rfl⟩ (by decide) (As := [.ref (G.1 64), .null]) (rest := []) rfl rfl ⟨Nat.le_of_ble_eq_true rfl, Nat.le_of_ble_eq_true rfl⟩ (Nat.le_of_ble_eq_true rfl) (fun l D A => c_X10_putParty_n2 l D A e94) ?_
    refine ww_aload_n 97 X dX10_makeSealedHead_97 0 rfl rfl ?_
    refine ww_ldsw 98 X (j := 65) dX10_makeSealedHead_98 rfl ?_
    refine ww_aload_nN 101 X dX10_makeSealedHead_101 3 rfl rfl ?_
    obtain ⟨_, f102, h⟩ := bO_some h
    obtain ⟨M102, e102, h⟩ := bO_some h
    refine ww_callVV0 102 X dX10_makeSealedHead_102 mY_X10_putParty mL_X10_270 (rcv_spec f102) ⟨_, _, rfl⟩ (by decide) (As := [.ref (G.1 65), .null]) (rest := []) rfl rfl ⟨Nat.le_of_ble_eq_true rfl, Nat.le_of_ble_eq_true rfl⟩ (Nat.le_of_ble_eq_true rfl) (fun l D A => c_X10_putParty_n2 l D A e102) ?_
    refine ww_aload_n 105 X dX10_makeSealedHead_105 0 rfl rfl ?_
    obtain ⟨v106, e106, h⟩ := bO_some h
    refine ww_getR 106 X dX10_makeSealedHead_106 fG_X10_14 e106 ?_
    refine ww_bipush 109 X (v := (125 : Int32)) dX10_makeSealedHead_109 (by decide) ?_
    obtain ⟨_, f111, h⟩ := bO_some h
    obtain ⟨M111, e111, h⟩ := bO_some h
    refine ww_callVV0 111 X dX10_makeSealedHead_111 mY_X0_put mL_X10_246 (rcv_spec f111) ⟨_, _, rfl⟩ (by decide) (As := [.int (125 : Int32)]) (rest := []) rfl rfl ⟨Nat.le_of_ble_eq_true rfl, Nat.le_of_ble_eq_true rfl⟩ (Nat.le_of_ble_eq_true rfl) (fun l D A => c_X0_put l D A e111) ?_
    exact ww_vretE 114 X hQ dX10_makeSealedHead_114 h
theorem c_X10_makeSealedHead_n2_n3 {G : mG} {F sz : Nat} {M0 : mM} (l : Launch) (D : mD) (A : Nat → Prop) {l0 : Nat} {l1 : Nat} {M : mM} (h : P_X10_makeSealedHead_n2_n3 G F l0 l1 M = some M0) : mMetV l D G A yX10_makeSealedHead cX10_makeSealedHead 4 none 7 154 0 0 [.ref l0, .ref l1, .null, .null] M sz M0 sz := mMetV_of l D G A (by decide) (Nat.le_of_ble_eq_true rfl) (fun x X hQ => wP_X10_makeSealedHead_n2_n3 X hQ h)
/-! SealedTokens$Token.draw(IILSealedTokens$Bytes;)Z -/
theorem dX10_draw_0 : decode cX10_draw 0 = .ok (.aload_n 0, 1) := by decide +kernel
theorem dX10_draw_1 : decode cX10_draw 1 = .ok (.iload_n 1, 1) := by decide +kernel
theorem dX10_draw_2 : decode cX10_draw 2 = .ok (.putfield 190, 3) := by decide +kernel
theorem dX10_draw_5 : decode cX10_draw 5 = .ok (.aload_n 0, 1) := by decide +kernel
theorem dX10_draw_6 : decode cX10_draw 6 = .ok (.iload_n 2, 1) := by decide +kernel
theorem dX10_draw_7 : decode cX10_draw 7 = .ok (.putfield 97, 3) := by decide +kernel
theorem dX10_draw_10 : decode cX10_draw 10 = .ok (.aload_n 0, 1) := by decide +kernel
theorem dX10_draw_11 : decode cX10_draw 11 = .ok (.getfield 190, 3) := by decide +kernel
theorem dX10_draw_14 : decode cX10_draw 14 = .ok (.iconst 4, 1) := by decide +kernel
theorem dX10_draw_15 : decode cX10_draw 15 = .ok (.if_icmp .lt 8, 3) := by decide +kernel
theorem dX10_draw_18 : decode cX10_draw 18 = .ok (.bipush 32, 2) := by decide +kernel
theorem dX10_draw_20 : decode cX10_draw 20 = .ok (.goto 4, 3) := by decide +kernel
theorem dX10_draw_23 : decode cX10_draw 23 = .ok (.iconst 0, 1) := by decide +kernel
theorem dX10_draw_24 : decode cX10_draw 24 = .ok (.istore 4, 2) := by decide +kernel
theorem dX10_draw_26 : decode cX10_draw 26 = .ok (.aload_n 0, 1) := by decide +kernel
theorem dX10_draw_27 : decode cX10_draw 27 = .ok (.getfield 190, 3) := by decide +kernel
theorem dX10_draw_30 : decode cX10_draw 30 = .ok (.ifCond .eq 11, 3) := by decide +kernel
theorem dX10_draw_33 : decode cX10_draw 33 = .ok (.aload_n 0, 1) := by decide +kernel
theorem dX10_draw_34 : decode cX10_draw 34 = .ok (.getfield 190, 3) := by decide +kernel
theorem dX10_draw_37 : decode cX10_draw 37 = .ok (.iconst 4, 1) := by decide +kernel
theorem dX10_draw_38 : decode cX10_draw 38 = .ok (.if_icmp .ne 7, 3) := by decide +kernel
theorem dX10_draw_41 : decode cX10_draw 41 = .ok (.iconst 0, 1) := by decide +kernel
theorem dX10_draw_42 : decode cX10_draw 42 = .ok (.goto 11, 3) := by decide +kernel
theorem dX10_draw_45 : decode cX10_draw 45 = .ok (.getstatic 279, 3) := by decide +kernel
theorem dX10_draw_48 : decode cX10_draw 48 = .ok (.aload_n 0, 1) := by decide +kernel
theorem dX10_draw_49 : decode cX10_draw 49 = .ok (.getfield 97, 3) := by decide +kernel
theorem dX10_draw_52 : decode cX10_draw 52 = .ok (.iaload, 1) := by decide +kernel
theorem dX10_draw_53 : decode cX10_draw 53 = .ok (.istore 5, 2) := by decide +kernel
theorem dX10_draw_55 : decode cX10_draw 55 = .ok (.aload_n 0, 1) := by decide +kernel
theorem dX10_draw_56 : decode cX10_draw 56 = .ok (.getfield 190, 3) := by decide +kernel
theorem dX10_draw_59 : decode cX10_draw 59 = .ok (.iconst 3, 1) := by decide +kernel
theorem dX10_draw_60 : decode cX10_draw 60 = .ok (.if_icmp .ne 8, 3) := by decide +kernel
theorem dX10_draw_63 : decode cX10_draw 63 = .ok (.bipush 32, 2) := by decide +kernel
theorem dX10_draw_65 : decode cX10_draw 65 = .ok (.goto 4, 3) := by decide +kernel
theorem dX10_draw_68 : decode cX10_draw 68 = .ok (.iconst 0, 1) := by decide +kernel
theorem dX10_draw_69 : decode cX10_draw 69 = .ok (.istore 6, 2) := by decide +kernel
theorem dX10_draw_71 : decode cX10_draw 71 = .ok (.aload_n 3, 1) := by decide +kernel
theorem dX10_draw_72 : decode cX10_draw 72 = .ok (.getfield 60, 3) := by decide +kernel
theorem dX10_draw_75 : decode cX10_draw 75 = .ok (.iload 4, 2) := by decide +kernel
theorem dX10_draw_77 : decode cX10_draw 77 = .ok (.iload 5, 2) := by decide +kernel
theorem dX10_draw_79 : decode cX10_draw 79 = .ok (.iadd, 1) := by decide +kernel
theorem dX10_draw_80 : decode cX10_draw 80 = .ok (.iload 6, 2) := by decide +kernel
theorem dX10_draw_82 : decode cX10_draw 82 = .ok (.iadd, 1) := by decide +kernel
theorem dX10_draw_83 : decode cX10_draw 83 = .ok (.getstatic 94, 3) := by decide +kernel
theorem dX10_draw_86 : decode cX10_draw 86 = .ok (.aload_n 0, 1) := by decide +kernel
theorem dX10_draw_87 : decode cX10_draw 87 = .ok (.getfield 97, 3) := by decide +kernel
theorem dX10_draw_90 : decode cX10_draw 90 = .ok (.iaload, 1) := by decide +kernel
theorem dX10_draw_91 : decode cX10_draw 91 = .ok (.iadd, 1) := by decide +kernel
theorem dX10_draw_92 : decode cX10_draw 92 = .ok (.if_icmp .ge 5, 3) := by decide +kernel
theorem dX10_draw_95 : decode cX10_draw 95 = .ok (.iconst 0, 1) := by decide +kernel
theorem dX10_draw_96 : decode cX10_draw 96 = .ok (.ireturn, 1) := by decide +kernel
theorem dX10_draw_97 : decode cX10_draw 97 = .ok (.aload_n 0, 1) := by decide +kernel
theorem dX10_draw_98 : decode cX10_draw 98 = .ok (.getfield 31, 3) := by decide +kernel
theorem dX10_draw_101 : decode cX10_draw 101 = .ok (.invokevirtual 81, 3) := by decide +kernel
theorem dX10_draw_104 : decode cX10_draw 104 = .ok (.aload_n 0, 1) := by decide +kernel
theorem dX10_draw_105 : decode cX10_draw 105 = .ok (.getfield 31, 3) := by decide +kernel
theorem dX10_draw_108 : decode cX10_draw 108 = .ok (.aload_n 3, 1) := by decide +kernel
theorem dX10_draw_109 : decode cX10_draw 109 = .ok (.iconst 0, 1) := by decide +kernel
theorem dX10_draw_110 : decode cX10_draw 110 = .ok (.iload 4, 2) := by decide +kernel
theorem dX10_draw_112 : decode cX10_draw 112 = .ok (.invokevirtual 282, 3) := by decide +kernel
theorem dX10_draw_115 : decode cX10_draw 115 = .ok (.aload_n 0, 1) := by decide +kernel
theorem dX10_draw_116 : decode cX10_draw 116 = .ok (.getfield 39, 3) := by decide +kernel
theorem dX10_draw_119 : decode cX10_draw 119 = .ok (.invokevirtual 81, 3) := by decide +kernel
theorem dX10_draw_122 : decode cX10_draw 122 = .ok (.aload_n 0, 1) := by decide +kernel
theorem dX10_draw_123 : decode cX10_draw 123 = .ok (.getfield 39, 3) := by decide +kernel
theorem dX10_draw_126 : decode cX10_draw 126 = .ok (.aload_n 3, 1) := by decide +kernel
theorem dX10_draw_127 : decode cX10_draw 127 = .ok (.iload 4, 2) := by decide +kernel
theorem dX10_draw_129 : decode cX10_draw 129 = .ok (.iload 5, 2) := by decide +kernel
theorem dX10_draw_131 : decode cX10_draw 131 = .ok (.invokevirtual 282, 3) := by decide +kernel
theorem dX10_draw_134 : decode cX10_draw 134 = .ok (.aload_n 0, 1) := by decide +kernel
theorem dX10_draw_135 : decode cX10_draw 135 = .ok (.getfield 36, 3) := by decide +kernel
theorem dX10_draw_138 : decode cX10_draw 138 = .ok (.invokevirtual 81, 3) := by decide +kernel
theorem dX10_draw_141 : decode cX10_draw 141 = .ok (.aload_n 0, 1) := by decide +kernel
theorem dX10_draw_142 : decode cX10_draw 142 = .ok (.getfield 36, 3) := by decide +kernel
theorem dX10_draw_145 : decode cX10_draw 145 = .ok (.aload_n 3, 1) := by decide +kernel
theorem dX10_draw_146 : decode cX10_draw 146 = .ok (.iload 4, 2) := by decide +kernel
theorem dX10_draw_148 : decode cX10_draw 148 = .ok (.iload 5, 2) := by decide +kernel
theorem dX10_draw_150 : decode cX10_draw 150 = .ok (.iadd, 1) := by decide +kernel
theorem dX10_draw_151 : decode cX10_draw 151 = .ok (.iload 6, 2) := by decide +kernel
theorem dX10_draw_153 : decode cX10_draw 153 = .ok (.invokevirtual 282, 3) := by decide +kernel
theorem dX10_draw_156 : decode cX10_draw 156 = .ok (.aload_n 0, 1) := by decide +kernel
theorem dX10_draw_157 : decode cX10_draw 157 = .ok (.getfield 47, 3) := by decide +kernel
theorem dX10_draw_160 : decode cX10_draw 160 = .ok (.invokevirtual 81, 3) := by decide +kernel
theorem dX10_draw_163 : decode cX10_draw 163 = .ok (.aload_n 0, 1) := by decide +kernel
theorem dX10_draw_164 : decode cX10_draw 164 = .ok (.getfield 47, 3) := by decide +kernel
theorem dX10_draw_167 : decode cX10_draw 167 = .ok (.aload_n 3, 1) := by decide +kernel
theorem dX10_draw_168 : decode cX10_draw 168 = .ok (.iload 4, 2) := by decide +kernel
theorem dX10_draw_170 : decode cX10_draw 170 = .ok (.iload 5, 2) := by decide +kernel
theorem dX10_draw_172 : decode cX10_draw 172 = .ok (.iadd, 1) := by decide +kernel
theorem dX10_draw_173 : decode cX10_draw 173 = .ok (.iload 6, 2) := by decide +kernel
theorem dX10_draw_175 : decode cX10_draw 175 = .ok (.iadd, 1) := by decide +kernel
theorem dX10_draw_176 : decode cX10_draw 176 = .ok (.getstatic 94, 3) := by decide +kernel
theorem dX10_draw_179 : decode cX10_draw 179 = .ok (.aload_n 0, 1) := by decide +kernel
theorem dX10_draw_180 : decode cX10_draw 180 = .ok (.getfield 97, 3) := by decide +kernel
theorem dX10_draw_183 : decode cX10_draw 183 = .ok (.iaload, 1) := by decide +kernel
theorem dX10_draw_184 : decode cX10_draw 184 = .ok (.invokevirtual 282, 3) := by decide +kernel
theorem dX10_draw_187 : decode cX10_draw 187 = .ok (.iconst 1, 1) := by decide +kernel
theorem dX10_draw_188 : decode cX10_draw 188 = .ok (.ireturn, 1) := by decide +kernel
abbrev rmX10_draw : Room := { frames := 2, cells := 0, slots := 0, locals := 84 }
set_option maxHeartbeats 4000000 in
set_option maxRecDepth 100000 in
theorem wB_X10_draw_69 {G : mG} {F : Nat} {x : mXT} {sz : Nat} {r0 : Int32} {M0 : mM} (X : mCX G RX10 cX10_draw 7 (some .boolean) "draw" rmX10_draw x) (hQ : mQI x r0 M0 (sz, 0, 0)) {l0 : Nat} {l3 : Nat} {l4 : Int32} {l5 : Int32} {sk0 : Int32} {M : mM} (h : B_X10_draw_69 G F l0 l3 l4 l5 sk0 M = some (r0, M0)) : WW x (sz, 0, 0) M 69 [(0, .ref l0), (3, .ref l3), (4, .int l4), (5, .int l5)] [.int sk0] := by
  unfold B_X10_draw_69 at h
  refine ww_istore 69 X dX10_draw_69 (lv' := [(0, .ref l0), (3, .ref l3), (4, .int l4), (5, .int l5), (6, .int sk0)]) (by decide) [1, 2, 3, 4, 0] rfl ?_
  refine ww_aload_n 71 X dX10_draw_71 1 rfl rfl ?_
  obtain ⟨v72, e72, h⟩ := bO_some h
  refine ww_getI 72 X dX10_draw_72 fG_X10_60 e72 ?_
  refine ww_iload 75 X dX10_draw_75 2 rfl ?_
  refine ww_iload 77 X dX10_draw_77 3 rfl ?_
  refine ww_iadd 79 X dX10_draw_79 ?_
  refine ww_iload 80 X dX10_draw_80 4 rfl ?_
  refine ww_iadd 82 X dX10_draw_82 ?_
  refine ww_gets 83 X dX10_draw_83 gS_X10_94 ?_
  refine ww_aload_n 86 X dX10_draw_86 0 rfl rfl ?_
  obtain ⟨v87, e87, h⟩ := bO_some h
  refine ww_getI 87 X dX10_draw_87 fG_X10_97 e87 ?_
  obtain ⟨v90, e90, h⟩ := bO_some h
  refine ww_iald 90 X dX10_draw_90 e90 ?_
  refine ww_iadd 91 X dX10_draw_91 ?_
  refine ww_icmp_ge 92 97 X dX10_draw_92 (by decide) (fun q => ?_) (fun q => ?_)
  · replace h := (if_pos q).symm.trans h
    refine ww_aload_n 97 X dX10_draw_97 0 rfl rfl ?_
    obtain ⟨v98, e98, h⟩ := bO_some h
    refine ww_getR 98 X dX10_draw_98 fG_X10_31 e98 ?_
    obtain ⟨_, f101, h⟩ := bO_some h
    obtain ⟨M101, e101, h⟩ := bO_some h
    refine ww_callVV0 101 X dX10_draw_101 mY_X0_clear mL_X10_81 (rcv_spec f101) ⟨_, _, rfl⟩ (by decide) (As := []) (rest := []) rfl rfl ⟨Nat.le_of_ble_eq_true rfl, Nat.le_of_ble_eq_true rfl⟩ (Nat.le_of_ble_eq_true rfl) (fun l D A => c_X0_clear l D A e101) ?_
    refine ww_aload_n 104 X dX10_draw_104 0 rfl rfl ?_
    obtain ⟨v105, e105, h⟩ := bO_some h
    refine ww_getR 105 X dX10_draw_105 fG_X10_31 e105 ?_
    refine ww_aload_n 108 X dX10_draw_108 1 rfl rfl ?_
    refine ww_iconst 109 X (v := (0 : Int32)) dX10_draw_109 (by decide) ?_
    refine ww_iload 110 X dX10_draw_110 2 rfl ?_
    obtain ⟨_, f112, h⟩ := bO_some h
    obtain ⟨M112, e112, h⟩ := bO_some h
    refine ww_callVV0 112 X dX10_draw_112 mY_X0_putPart mL_X10_282 (rcv_spec f112) ⟨_, _, rfl⟩ (by decide) (As := [.ref l3, .int (0 : Int32), .int l4]) (rest := []) rfl rfl ⟨Nat.le_of_ble_eq_true rfl, Nat.le_of_ble_eq_true rfl⟩ (Nat.le_of_ble_eq_true rfl) (fun l D A => c_X0_putPart l D A e112) ?_
    refine ww_aload_n 115 X dX10_draw_115 0 rfl rfl ?_
    obtain ⟨v116, e116, h⟩ := bO_some h
    refine ww_getR 116 X dX10_draw_116 fG_X10_39 e116 ?_
    obtain ⟨_, f119, h⟩ := bO_some h
    obtain ⟨M119, e119, h⟩ := bO_some h
    refine ww_callVV0 119 X dX10_draw_119 mY_X0_clear mL_X10_81 (rcv_spec f119) ⟨_, _, rfl⟩ (by decide) (As := []) (rest := []) rfl rfl ⟨Nat.le_of_ble_eq_true rfl, Nat.le_of_ble_eq_true rfl⟩ (Nat.le_of_ble_eq_true rfl) (fun l D A => c_X0_clear l D A e119) ?_
    refine ww_aload_n 122 X dX10_draw_122 0 rfl rfl ?_
    obtain ⟨v123, e123, h⟩ := bO_some h
    refine ww_getR 123 X dX10_draw_123 fG_X10_39 e123 ?_
    refine ww_aload_n 126 X dX10_draw_126 1 rfl rfl ?_
    refine ww_iload 127 X dX10_draw_127 2 rfl ?_
    refine ww_iload 129 X dX10_draw_129 3 rfl ?_
    obtain ⟨_, f131, h⟩ := bO_some h
    obtain ⟨M131, e131, h⟩ := bO_some h
    refine ww_callVV0 131 X dX10_draw_131 mY_X0_putPart mL_X10_282 (rcv_spec f131) ⟨_, _, rfl⟩ (by decide) (As := [.ref l3, .int l4, .int l5]) (rest := []) rfl rfl ⟨Nat.le_of_ble_eq_true rfl, Nat.le_of_ble_eq_true rfl⟩ (Nat.le_of_ble_eq_true rfl) (fun l D A => c_X0_putPart l D A e131) ?_
    refine ww_aload_n 134 X dX10_draw_134 0 rfl rfl ?_
    obtain ⟨v135, e135, h⟩ := bO_some h
    refine ww_getR 135 X dX10_draw_135 fG_X10_36 e135 ?_
    obtain ⟨_, f138, h⟩ := bO_some h
    obtain ⟨M138, e138, h⟩ := bO_some h
    refine ww_callVV0 138 X dX10_draw_138 mY_X0_clear mL_X10_81 (rcv_spec f138) ⟨_, _, rfl⟩ (by decide) (As := []) (rest := []) rfl rfl ⟨Nat.le_of_ble_eq_true rfl, Nat.le_of_ble_eq_true rfl⟩ (Nat.le_of_ble_eq_true rfl) (fun l D A => c_X0_clear l D A e138) ?_
    refine ww_aload_n 141 X dX10_draw_141 0 rfl rfl ?_
    obtain ⟨v142, e142, h⟩ := bO_some h
    refine ww_getR 142 X dX10_draw_142 fG_X10_36 e142 ?_
    refine ww_aload_n 145 X dX10_draw_145 1 rfl rfl ?_
    refine ww_iload 146 X dX10_draw_146 2 rfl ?_
    refine ww_iload 148 X dX10_draw_148 3 rfl ?_
    refine ww_iadd 150 X dX10_draw_150 ?_
    refine ww_iload 151 X dX10_draw_151 4 rfl ?_
    obtain ⟨_, f153, h⟩ := bO_some h
    obtain ⟨M153, e153, h⟩ := bO_some h
    refine ww_callVV0 153 X dX10_draw_153 mY_X0_putPart mL_X10_282 (rcv_spec f153) ⟨_, _, rfl⟩ (by decide) (As := [.ref l3, .int (l4 + l5), .int sk0]) (rest := []) rfl rfl ⟨Nat.le_of_ble_eq_true rfl, Nat.le_of_ble_eq_true rfl⟩ (Nat.le_of_ble_eq_true rfl) (fun l D A => c_X0_putPart l D A e153) ?_
    refine ww_aload_n 156 X dX10_draw_156 0 rfl rfl ?_
    obtain ⟨v157, e157, h⟩ := bO_some h
    refine ww_getR 157 X dX10_draw_157 fG_X10_47 e157 ?_
    obtain ⟨_, f160, h⟩ := bO_some h
    obtain ⟨M160, e160, h⟩ := bO_some h
    refine ww_callVV0 160 X dX10_draw_160 mY_X0_clear mL_X10_81 (rcv_spec f160) ⟨_, _, rfl⟩ (by decide) (As := []) (rest := []) rfl rfl ⟨Nat.le_of_ble_eq_true rfl, Nat.le_of_ble_eq_true rfl⟩ (Nat.le_of_ble_eq_true rfl) (fun l D A => c_X0_clear l D A e160) ?_
    refine ww_aload_n 163 X dX10_draw_163 0 rfl rfl ?_
    obtain ⟨v164, e164, h⟩ := bO_some h
    refine ww_getR 164 X dX10_draw_164 fG_X10_47 e164 ?_
    refine ww_aload_n 167 X dX10_draw_167 1 rfl rfl ?_
    refine ww_iload 168 X dX10_draw_168 2 rfl ?_
    refine ww_iload 170 X dX10_draw_170 3 rfl ?_
    refine ww_iadd 172 X dX10_draw_172 ?_
    refine ww_iload 173 X dX10_draw_173 4 rfl ?_
    refine ww_iadd 175 X dX10_draw_175 ?_
    refine ww_gets 176 X dX10_draw_176 gS_X10_94 ?_
    refine ww_aload_n 179 X dX10_draw_179 0 rfl rfl ?_
    obtain ⟨v180, e180, h⟩ := bO_some h
    refine ww_getI 180 X dX10_draw_180 fG_X10_97 e180 ?_
    obtain ⟨v183, e183, h⟩ := bO_some h
    refine ww_iald 183 X dX10_draw_183 e183 ?_
    obtain ⟨_, f184, h⟩ := bO_some h
    obtain ⟨M184, e184, h⟩ := bO_some h
    refine ww_callVV0 184 X dX10_draw_184 mY_X0_putPart mL_X10_282 (rcv_spec f184) ⟨_, _, rfl⟩ (by decide) (As := [.ref l3, .int ((l4 + l5) + sk0), .int v183]) (rest := []) rfl rfl ⟨Nat.le_of_ble_eq_true rfl, Nat.le_of_ble_eq_true rfl⟩ (Nat.le_of_ble_eq_true rfl) (fun l D A => c_X0_putPart l D A e184) ?_
    refine ww_iconst 187 X (v := (1 : Int32)) dX10_draw_187 (by decide) ?_
    exact ww_zretE 188 X hQ dX10_draw_188 h
  · replace h := (if_neg q).symm.trans h
    refine ww_iconst 95 X (v := (0 : Int32)) dX10_draw_95 (by decide) ?_
    exact ww_zretE 96 X hQ dX10_draw_96 h
set_option maxHeartbeats 4000000 in
set_option maxRecDepth 100000 in
theorem wB_X10_draw_24 {G : mG} {F : Nat} {x : mXT} {sz : Nat} {r0 : Int32} {M0 : mM} (X : mCX G RX10 cX10_draw 7 (some .boolean) "draw" rmX10_draw x) (hQ : mQI x r0 M0 (sz, 0, 0)) {l0 : Nat} {l3 : Nat} {sk0 : Int32} {M : mM} (h : B_X10_draw_24 G F l0 l3 sk0 M = some (r0, M0)) : WW x (sz, 0, 0) M 24 [(0, .ref l0), (3, .ref l3)] [.int sk0] := by
  unfold B_X10_draw_24 at h
  refine ww_istore 24 X dX10_draw_24 (lv' := [(0, .ref l0), (3, .ref l3), (4, .int sk0)]) (by decide) [1, 2, 0] rfl ?_
  refine ww_aload_n 26 X dX10_draw_26 0 rfl rfl ?_
  obtain ⟨v27, e27, h⟩ := bO_some h
  refine ww_getI 27 X dX10_draw_27 fG_X10_190 e27 ?_
  refine ww_if_eq 30 41 X dX10_draw_30 (by decide) (fun q => ?_) (fun q => ?_)
  · replace h := (if_pos q).symm.trans h
    refine ww_iconst 41 X (v := (0 : Int32)) dX10_draw_41 (by decide) ?_
    refine ww_goto 42 53 X dX10_draw_42 (by decide) ?_
    refine ww_istore 53 X dX10_draw_53 (lv' := [(0, .ref l0), (3, .ref l3), (4, .int sk0), (5, .int (0 : Int32))]) (by decide) [1, 2, 3, 0] rfl ?_
    refine ww_aload_n 55 X dX10_draw_55 0 rfl rfl ?_
    obtain ⟨v56, e56, h⟩ := bO_some h
    refine ww_getI 56 X dX10_draw_56 fG_X10_190 e56 ?_
    refine ww_iconst 59 X (v := (3 : Int32)) dX10_draw_59 (by decide) ?_
    refine ww_icmp_ne 60 68 X dX10_draw_60 (by decide) (fun q => ?_) (fun q => ?_)
    · replace h := (if_neg q).symm.trans h
      refine ww_iconst 68 X (v := (0 : Int32)) dX10_draw_68 (by decide) ?_
      exact (wB_X10_draw_69 X hQ h)
    · replace h := (if_pos q).symm.trans h
      refine ww_bipush 63 X (v := (32 : Int32)) dX10_draw_63 (by decide) ?_
      refine ww_goto 65 69 X dX10_draw_65 (by decide) ?_
      exact (wB_X10_draw_69 X hQ h)
  · replace h := (if_neg q).symm.trans h
    refine ww_aload_n 33 X dX10_draw_33 0 rfl rfl ?_
    obtain ⟨v34, e34, h⟩ := bO_some h
    refine ww_getI 34 X dX10_draw_34 fG_X10_190 e34 ?_
    refine ww_iconst 37 X (v := (4 : Int32)) dX10_draw_37 (by decide) ?_
    refine ww_icmp_ne 38 45 X dX10_draw_38 (by decide) (fun q => ?_) (fun q => ?_)
    · replace h := (if_neg q).symm.trans h
      refine ww_gets 45 X dX10_draw_45 gS_X10_279 ?_
      refine ww_aload_n 48 X dX10_draw_48 0 rfl rfl ?_
      obtain ⟨v49, e49, h⟩ := bO_some h
      refine ww_getI 49 X dX10_draw_49 fG_X10_97 e49 ?_
      obtain ⟨v52, e52, h⟩ := bO_some h
      refine ww_iald 52 X dX10_draw_52 e52 ?_
      refine ww_istore 53 X dX10_draw_53 (lv' := [(0, .ref l0), (3, .ref l3), (4, .int sk0), (5, .int v52)]) (by decide) [1, 2, 3, 0] rfl ?_
      refine ww_aload_n 55 X dX10_draw_55 0 rfl rfl ?_
      obtain ⟨v56, e56, h⟩ := bO_some h
      refine ww_getI 56 X dX10_draw_56 fG_X10_190 e56 ?_
      refine ww_iconst 59 X (v := (3 : Int32)) dX10_draw_59 (by decide) ?_
      refine ww_icmp_ne 60 68 X dX10_draw_60 (by decide) (fun q => ?_) (fun q => ?_)
      · replace h := (if_neg q).symm.trans h
        refine ww_iconst 68 X (v := (0 : Int32)) dX10_draw_68 (by decide) ?_
        exact (wB_X10_draw_69 X hQ h)
      · replace h := (if_pos q).symm.trans h
        refine ww_bipush 63 X (v := (32 : Int32)) dX10_draw_63 (by decide) ?_
        refine ww_goto 65 69 X dX10_draw_65 (by decide) ?_
        exact (wB_X10_draw_69 X hQ h)
    · replace h := (if_pos q).symm.trans h
      refine ww_iconst 41 X (v := (0 : Int32)) dX10_draw_41 (by decide) ?_
      refine ww_goto 42 53 X dX10_draw_42 (by decide) ?_
      refine ww_istore 53 X dX10_draw_53 (lv' := [(0, .ref l0), (3, .ref l3), (4, .int sk0), (5, .int (0 : Int32))]) (by decide) [1, 2, 3, 0] rfl ?_
      refine ww_aload_n 55 X dX10_draw_55 0 rfl rfl ?_
      obtain ⟨v56, e56, h⟩ := bO_some h
      refine ww_getI 56 X dX10_draw_56 fG_X10_190 e56 ?_
      refine ww_iconst 59 X (v := (3 : Int32)) dX10_draw_59 (by decide) ?_
      refine ww_icmp_ne 60 68 X dX10_draw_60 (by decide) (fun q => ?_) (fun q => ?_)
      · replace h := (if_neg q).symm.trans h
        refine ww_iconst 68 X (v := (0 : Int32)) dX10_draw_68 (by decide) ?_
        exact (wB_X10_draw_69 X hQ h)
      · replace h := (if_pos q).symm.trans h
        refine ww_bipush 63 X (v := (32 : Int32)) dX10_draw_63 (by decide) ?_
        refine ww_goto 65 69 X dX10_draw_65 (by decide) ?_
        exact (wB_X10_draw_69 X hQ h)
set_option maxHeartbeats 4000000 in
set_option maxRecDepth 100000 in
theorem wP_X10_draw {G : mG} {F : Nat} {x : mXT} {sz : Nat} {r0 : Int32} {M0 : mM} (X : mCX G RX10 cX10_draw 7 (some .boolean) "draw" rmX10_draw x) (hQ : mQI x r0 M0 (sz, 0, 0)) {l0 : Nat} {l1 : Int32} {l2 : Int32} {l3 : Nat} {M : mM} (h : P_X10_draw G F l0 l1 l2 l3 M = some (r0, M0)) : WW x (sz, 0, 0) M 0 [(0, .ref l0), (1, .int l1), (2, .int l2), (3, .ref l3)] [] := by
  unfold P_X10_draw at h
  refine ww_aload_n 0 X dX10_draw_0 0 rfl rfl ?_
  refine ww_iload_n 1 X dX10_draw_1 1 rfl rfl ?_
  obtain ⟨M2, e2, h⟩ := bO_some h
  refine ww_putI 2 X dX10_draw_2 (fP_X10_190 _) e2 ?_
  refine ww_aload_n 5 X dX10_draw_5 0 rfl rfl ?_
  refine ww_iload_n 6 X dX10_draw_6 2 rfl rfl ?_
  obtain ⟨M7, e7, h⟩ := bO_some h
  refine ww_putI 7 X dX10_draw_7 (fP_X10_97 _) e7 ?_
  refine ww_aload_n 10 X dX10_draw_10 0 rfl rfl ?_
  obtain ⟨v11, e11, h⟩ := bO_some h
  refine ww_getI 11 X dX10_draw_11 fG_X10_190 e11 ?_
  refine ww_iconst 14 X (v := (4 : Int32)) dX10_draw_14 (by decide) ?_
  refine ww_icmp_lt 15 23 X dX10_draw_15 (by decide) (fun q => ?_) (fun q => ?_)
  · replace h := (if_pos q).symm.trans h
    refine ww_iconst 23 X (v := (0 : Int32)) dX10_draw_23 (by decide) ?_
    exact ww_sub [0, 3] rfl (wB_X10_draw_24 X hQ h)
  · replace h := (if_neg q).symm.trans h
    refine ww_bipush 18 X (v := (32 : Int32)) dX10_draw_18 (by decide) ?_
    refine ww_goto 20 24 X dX10_draw_20 (by decide) ?_
    exact ww_sub [0, 3] rfl (wB_X10_draw_24 X hQ h)
theorem c_X10_draw {G : mG} {F sz : Nat} {r0 : Int32} {M0 : mM} (l : Launch) (D : mD) (A : Nat → Prop) {l0 : Nat} {l1 : Int32} {l2 : Int32} {l3 : Nat} {M : mM} (h : P_X10_draw G F l0 l1 l2 l3 M = some (r0, M0)) : mMetI l D G A yX10_draw cX10_draw 7 (some .boolean) 2 84 0 0 [.ref l0, .int l1, .int l2, .ref l3] M sz r0 M0 sz := mMetI_of l D G A (by decide) (Nat.le_of_ble_eq_true rfl) (fun x X hQ => wP_X10_draw X hQ h)
/-! SealedTokens$Token.sealedLetters(I)I -/
theorem dX10_sealedLetters_0 : decode cX10_sealedLetters 0 = .ok (.aload_n 0, 1) := by decide +kernel
theorem dX10_sealedLetters_1 : decode cX10_sealedLetters 1 = .ok (.getfield 14, 3) := by decide +kernel
theorem dX10_sealedLetters_4 : decode cX10_sealedLetters 4 = .ok (.getfield 60, 3) := by decide +kernel
theorem dX10_sealedLetters_7 : decode cX10_sealedLetters 7 = .ok (.invokestatic 285, 3) := by decide +kernel
theorem dX10_sealedLetters_10 : decode cX10_sealedLetters 10 = .ok (.aload_n 0, 1) := by decide +kernel
theorem dX10_sealedLetters_11 : decode cX10_sealedLetters 11 = .ok (.getfield 44, 3) := by decide +kernel
theorem dX10_sealedLetters_14 : decode cX10_sealedLetters 14 = .ok (.getfield 60, 3) := by decide +kernel
theorem dX10_sealedLetters_17 : decode cX10_sealedLetters 17 = .ok (.invokestatic 285, 3) := by decide +kernel
theorem dX10_sealedLetters_20 : decode cX10_sealedLetters 20 = .ok (.iadd, 1) := by decide +kernel
theorem dX10_sealedLetters_21 : decode cX10_sealedLetters 21 = .ok (.aload_n 0, 1) := by decide +kernel
theorem dX10_sealedLetters_22 : decode cX10_sealedLetters 22 = .ok (.getfield 47, 3) := by decide +kernel
theorem dX10_sealedLetters_25 : decode cX10_sealedLetters 25 = .ok (.getfield 60, 3) := by decide +kernel
theorem dX10_sealedLetters_28 : decode cX10_sealedLetters 28 = .ok (.invokestatic 285, 3) := by decide +kernel
theorem dX10_sealedLetters_31 : decode cX10_sealedLetters 31 = .ok (.iadd, 1) := by decide +kernel
theorem dX10_sealedLetters_32 : decode cX10_sealedLetters 32 = .ok (.aload_n 0, 1) := by decide +kernel
theorem dX10_sealedLetters_33 : decode cX10_sealedLetters 33 = .ok (.getfield 97, 3) := by decide +kernel
theorem dX10_sealedLetters_36 : decode cX10_sealedLetters 36 = .ok (.iload_n 1, 1) := by decide +kernel
theorem dX10_sealedLetters_37 : decode cX10_sealedLetters 37 = .ok (.invokestatic 288, 3) := by decide +kernel
theorem dX10_sealedLetters_40 : decode cX10_sealedLetters 40 = .ok (.invokestatic 285, 3) := by decide +kernel
theorem dX10_sealedLetters_43 : decode cX10_sealedLetters 43 = .ok (.iadd, 1) := by decide +kernel
theorem dX10_sealedLetters_44 : decode cX10_sealedLetters 44 = .ok (.getstatic 100, 3) := by decide +kernel
theorem dX10_sealedLetters_47 : decode cX10_sealedLetters 47 = .ok (.aload_n 0, 1) := by decide +kernel
theorem dX10_sealedLetters_48 : decode cX10_sealedLetters 48 = .ok (.getfield 97, 3) := by decide +kernel
theorem dX10_sealedLetters_51 : decode cX10_sealedLetters 51 = .ok (.iaload, 1) := by decide +kernel
theorem dX10_sealedLetters_52 : decode cX10_sealedLetters 52 = .ok (.invokestatic 285, 3) := by decide +kernel
theorem dX10_sealedLetters_55 : decode cX10_sealedLetters 55 = .ok (.iadd, 1) := by decide +kernel
theorem dX10_sealedLetters_56 : decode cX10_sealedLetters 56 = .ok (.iconst 4, 1) := by decide +kernel
theorem dX10_sealedLetters_57 : decode cX10_sealedLetters 57 = .ok (.iadd, 1) := by decide +kernel
theorem dX10_sealedLetters_58 : decode cX10_sealedLetters 58 = .ok (.ireturn, 1) := by decide +kernel
abbrev rmX10_sealedLetters : Room := { frames := 1, cells := 0, slots := 0, locals := 21 }
set_option maxHeartbeats 4000000 in
set_option maxRecDepth 100000 in
theorem wP_X10_sealedLetters {G : mG} {F : Nat} {x : mXT} {sz : Nat} {r0 : Int32} {M0 : mM} (X : mCX G RX10 cX10_sealedLetters 2 (some .int) "sealedLetters" rmX10_sealedLetters x) (hQ : mQI x r0 M0 (sz, 0, 0)) {l0 : Nat} {l1 : Int32} {M : mM} (h : P_X10_sealedLetters G F l0 l1 M = some (r0, M0)) : WW x (sz, 0, 0) M 0 [(0, .ref l0), (1, .int l1)] [] := by
  unfold P_X10_sealedLetters at h
  refine ww_aload_n 0 X dX10_sealedLetters_0 0 rfl rfl ?_
  obtain ⟨v1, e1, h⟩ := bO_some h
  refine ww_getR 1 X dX10_sealedLetters_1 fG_X10_14 e1 ?_
  obtain ⟨v4, e4, h⟩ := bO_some h
  refine ww_getI 4 X dX10_sealedLetters_4 fG_X10_60 e4 ?_
  obtain ⟨v7, M7, e7, h⟩ := bP_some h
  refine ww_callSI0 7 X dX10_sealedLetters_7 mY_X0_lettersFor mL_X10_285 (As := [.int v4]) (rest := []) rfl rfl ⟨Nat.le_of_ble_eq_true rfl, Nat.le_of_ble_eq_true rfl⟩ (Nat.le_of_ble_eq_true rfl) (fun l D A => c_X0_lettersFor l D A e7) ?_
  refine ww_aload_n 10 X dX10_sealedLetters_10 0 rfl rfl ?_
  obtain ⟨v11, e11, h⟩ := bO_some h
  refine ww_getR 11 X dX10_sealedLetters_11 fG_X10_44 e11 ?_
  obtain ⟨v14, e14, h⟩ := bO_some h
  refine ww_getI 14 X dX10_sealedLetters_14 fG_X10_60 e14 ?_
  obtain ⟨v17, M17, e17, h⟩ := bP_some h
  refine ww_callSI0 17 X dX10_sealedLetters_17 mY_X0_lettersFor mL_X10_285 (As := [.int v14]) (rest := [.int v7]) rfl rfl ⟨Nat.le_of_ble_eq_true rfl, Nat.le_of_ble_eq_true rfl⟩ (Nat.le_of_ble_eq_true rfl) (fun l D A => c_X0_lettersFor l D A e17) ?_
  refine ww_iadd 20 X dX10_sealedLetters_20 ?_
  refine ww_aload_n 21 X dX10_sealedLetters_21 0 rfl rfl ?_
  obtain ⟨v22, e22, h⟩ := bO_some h
  refine ww_getR 22 X dX10_sealedLetters_22 fG_X10_47 e22 ?_
  obtain ⟨v25, e25, h⟩ := bO_some h
  refine ww_getI 25 X dX10_sealedLetters_25 fG_X10_60 e25 ?_
  obtain ⟨v28, M28, e28, h⟩ := bP_some h
  refine ww_callSI0 28 X dX10_sealedLetters_28 mY_X0_lettersFor mL_X10_285 (As := [.int v25]) (rest := [.int (v7 + v17)]) rfl rfl ⟨Nat.le_of_ble_eq_true rfl, Nat.le_of_ble_eq_true rfl⟩ (Nat.le_of_ble_eq_true rfl) (fun l D A => c_X0_lettersFor l D A e28) ?_
  refine ww_iadd 31 X dX10_sealedLetters_31 ?_
  refine ww_aload_n 32 X dX10_sealedLetters_32 0 rfl rfl ?_
  obtain ⟨v33, e33, h⟩ := bO_some h
  refine ww_getI 33 X dX10_sealedLetters_33 fG_X10_97 e33 ?_
  refine ww_iload_n 36 X dX10_sealedLetters_36 1 rfl rfl ?_
  obtain ⟨v37, M37, e37, h⟩ := bP_some h
  refine ww_callSI0 37 X dX10_sealedLetters_37 mY_X2_sealedBytes mL_X10_288 (As := [.int v33, .int l1]) (rest := [.int ((v7 + v17) + v28)]) rfl rfl ⟨Nat.le_of_ble_eq_true rfl, Nat.le_of_ble_eq_true rfl⟩ (Nat.le_of_ble_eq_true rfl) (fun l D A => c_X2_sealedBytes l D A e37) ?_
  obtain ⟨v40, M40, e40, h⟩ := bP_some h
  refine ww_callSI0 40 X dX10_sealedLetters_40 mY_X0_lettersFor mL_X10_285 (As := [.int v37]) (rest := [.int ((v7 + v17) + v28)]) rfl rfl ⟨Nat.le_of_ble_eq_true rfl, Nat.le_of_ble_eq_true rfl⟩ (Nat.le_of_ble_eq_true rfl) (fun l D A => c_X0_lettersFor l D A e40) ?_
  refine ww_iadd 43 X dX10_sealedLetters_43 ?_
  refine ww_gets 44 X dX10_sealedLetters_44 gS_X10_100 ?_
  refine ww_aload_n 47 X dX10_sealedLetters_47 0 rfl rfl ?_
  obtain ⟨v48, e48, h⟩ := bO_some h
  refine ww_getI 48 X dX10_sealedLetters_48 fG_X10_97 e48 ?_
  obtain ⟨v51, e51, h⟩ := bO_some h
  refine ww_iald 51 X dX10_sealedLetters_51 e51 ?_
  obtain ⟨v52, M52, e52, h⟩ := bP_some h
  refine ww_callSI0 52 X dX10_sealedLetters_52 mY_X0_lettersFor mL_X10_285 (As := [.int v51]) (rest := [.int (((v7 + v17) + v28) + v40)]) rfl rfl ⟨Nat.le_of_ble_eq_true rfl, Nat.le_of_ble_eq_true rfl⟩ (Nat.le_of_ble_eq_true rfl) (fun l D A => c_X0_lettersFor l D A e52) ?_
  refine ww_iadd 55 X dX10_sealedLetters_55 ?_
  refine ww_iconst 56 X (v := (4 : Int32)) dX10_sealedLetters_56 (by decide) ?_
  refine ww_iadd 57 X dX10_sealedLetters_57 ?_
  exact ww_iretE 58 X hQ dX10_sealedLetters_58 h
theorem c_X10_sealedLetters {G : mG} {F sz : Nat} {r0 : Int32} {M0 : mM} (l : Launch) (D : mD) (A : Nat → Prop) {l0 : Nat} {l1 : Int32} {M : mM} (h : P_X10_sealedLetters G F l0 l1 M = some (r0, M0)) : mMetI l D G A yX10_sealedLetters cX10_sealedLetters 2 (some .int) 1 21 0 0 [.ref l0, .int l1] M sz r0 M0 sz := mMetI_of l D G A (by decide) (Nat.le_of_ble_eq_true rfl) (fun x X hQ => wP_X10_sealedLetters X hQ h)
/-! SealedTokens.feed(IIIII)I -/
theorem dX11_feed_0 : decode cX11_feed 0 = .ok (.aload_n 0, 1) := by decide +kernel
theorem dX11_feed_1 : decode cX11_feed 1 = .ok (.getfield 18, 3) := by decide +kernel
theorem dX11_feed_4 : decode cX11_feed 4 = .ok (.getfield 113, 3) := by decide +kernel
theorem dX11_feed_7 : decode cX11_feed 7 = .ok (.bipush 20, 2) := by decide +kernel
theorem dX11_feed_9 : decode cX11_feed 9 = .ok (.iadd, 1) := by decide +kernel
theorem dX11_feed_10 : decode cX11_feed 10 = .ok (.sipush 8192, 3) := by decide +kernel
theorem dX11_feed_13 : decode cX11_feed 13 = .ok (.if_icmp .le 6, 3) := by decide +kernel
theorem dX11_feed_16 : decode cX11_feed 16 = .ok (.bipush (-2), 2) := by decide +kernel
theorem dX11_feed_18 : decode cX11_feed 18 = .ok (.ireturn, 1) := by decide +kernel
theorem dX11_feed_19 : decode cX11_feed 19 = .ok (.aload_n 0, 1) := by decide +kernel
theorem dX11_feed_20 : decode cX11_feed 20 = .ok (.getfield 18, 3) := by decide +kernel
theorem dX11_feed_23 : decode cX11_feed 23 = .ok (.iload_n 1, 1) := by decide +kernel
theorem dX11_feed_24 : decode cX11_feed 24 = .ok (.invokevirtual 117, 3) := by decide +kernel
theorem dX11_feed_27 : decode cX11_feed 27 = .ok (.aload_n 0, 1) := by decide +kernel
theorem dX11_feed_28 : decode cX11_feed 28 = .ok (.getfield 18, 3) := by decide +kernel
theorem dX11_feed_31 : decode cX11_feed 31 = .ok (.iload_n 2, 1) := by decide +kernel
theorem dX11_feed_32 : decode cX11_feed 32 = .ok (.invokevirtual 117, 3) := by decide +kernel
theorem dX11_feed_35 : decode cX11_feed 35 = .ok (.aload_n 0, 1) := by decide +kernel
theorem dX11_feed_36 : decode cX11_feed 36 = .ok (.getfield 18, 3) := by decide +kernel
theorem dX11_feed_39 : decode cX11_feed 39 = .ok (.iload_n 3, 1) := by decide +kernel
theorem dX11_feed_40 : decode cX11_feed 40 = .ok (.invokevirtual 117, 3) := by decide +kernel
theorem dX11_feed_43 : decode cX11_feed 43 = .ok (.aload_n 0, 1) := by decide +kernel
theorem dX11_feed_44 : decode cX11_feed 44 = .ok (.getfield 18, 3) := by decide +kernel
theorem dX11_feed_47 : decode cX11_feed 47 = .ok (.iload 4, 2) := by decide +kernel
theorem dX11_feed_49 : decode cX11_feed 49 = .ok (.invokevirtual 117, 3) := by decide +kernel
theorem dX11_feed_52 : decode cX11_feed 52 = .ok (.aload_n 0, 1) := by decide +kernel
theorem dX11_feed_53 : decode cX11_feed 53 = .ok (.getfield 18, 3) := by decide +kernel
theorem dX11_feed_56 : decode cX11_feed 56 = .ok (.iload 5, 2) := by decide +kernel
theorem dX11_feed_58 : decode cX11_feed 58 = .ok (.invokevirtual 117, 3) := by decide +kernel
theorem dX11_feed_61 : decode cX11_feed 61 = .ok (.aload_n 0, 1) := by decide +kernel
theorem dX11_feed_62 : decode cX11_feed 62 = .ok (.getfield 18, 3) := by decide +kernel
theorem dX11_feed_65 : decode cX11_feed 65 = .ok (.getfield 113, 3) := by decide +kernel
theorem dX11_feed_68 : decode cX11_feed 68 = .ok (.ireturn, 1) := by decide +kernel
abbrev rmX11_feed : Room := { frames := 2, cells := 0, slots := 0, locals := 42 }
set_option maxHeartbeats 4000000 in
set_option maxRecDepth 100000 in
theorem wP_X11_feed {G : mG} {F : Nat} {x : mXT} {sz : Nat} {r0 : Int32} {M0 : mM} (X : mCX G RX11 cX11_feed 6 (some .int) "feed" rmX11_feed x) (hQ : mQI x r0 M0 (sz, 0, 0)) {l0 : Nat} {l1 : Int32} {l2 : Int32} {l3 : Int32} {l4 : Int32} {l5 : Int32} {M : mM} (h : P_X11_feed G F l0 l1 l2 l3 l4 l5 M = some (r0, M0)) : WW x (sz, 0, 0) M 0 [(0, .ref l0), (1, .int l1), (2, .int l2), (3, .int l3), (4, .int l4), (5, .int l5)] [] := by
  unfold P_X11_feed at h
  refine ww_aload_n 0 X dX11_feed_0 0 rfl rfl ?_
  obtain ⟨v1, e1, h⟩ := bO_some h
  refine ww_getR 1 X dX11_feed_1 fG_X11_18 e1 ?_
  obtain ⟨v4, e4, h⟩ := bO_some h
  refine ww_getI 4 X dX11_feed_4 fG_X11_113 e4 ?_
  refine ww_bipush 7 X (v := (20 : Int32)) dX11_feed_7 (by decide) ?_
  refine ww_iadd 9 X dX11_feed_9 ?_
  refine ww_sipush 10 X (v := (8192 : Int32)) dX11_feed_10 (by decide) ?_
  refine ww_icmp_le 13 19 X dX11_feed_13 (by decide) (fun q => ?_) (fun q => ?_)
  · replace h := (if_pos q).symm.trans h
    refine ww_aload_n 19 X dX11_feed_19 0 rfl rfl ?_
    obtain ⟨v20, e20, h⟩ := bO_some h
    refine ww_getR 20 X dX11_feed_20 fG_X11_18 e20 ?_
    refine ww_iload_n 23 X dX11_feed_23 1 rfl rfl ?_
    obtain ⟨_, f24, h⟩ := bO_some h
    obtain ⟨M24, e24, h⟩ := bO_some h
    refine ww_callVV0 24 X dX11_feed_24 mY_X0_putWord mL_X11_117 (rcv_spec f24) ⟨_, _, rfl⟩ (by decide) (As := [.int l1]) (rest := []) rfl rfl ⟨Nat.le_of_ble_eq_true rfl, Nat.le_of_ble_eq_true rfl⟩ (Nat.le_of_ble_eq_true rfl) (fun l D A => c_X0_putWord l D A e24) ?_
    refine ww_aload_n 27 X dX11_feed_27 0 rfl rfl ?_
    obtain ⟨v28, e28, h⟩ := bO_some h
    refine ww_getR 28 X dX11_feed_28 fG_X11_18 e28 ?_
    refine ww_iload_n 31 X dX11_feed_31 2 rfl rfl ?_
    obtain ⟨_, f32, h⟩ := bO_some h
    obtain ⟨M32, e32, h⟩ := bO_some h
    refine ww_callVV0 32 X dX11_feed_32 mY_X0_putWord mL_X11_117 (rcv_spec f32) ⟨_, _, rfl⟩ (by decide) (As := [.int l2]) (rest := []) rfl rfl ⟨Nat.le_of_ble_eq_true rfl, Nat.le_of_ble_eq_true rfl⟩ (Nat.le_of_ble_eq_true rfl) (fun l D A => c_X0_putWord l D A e32) ?_
    refine ww_aload_n 35 X dX11_feed_35 0 rfl rfl ?_
    obtain ⟨v36, e36, h⟩ := bO_some h
    refine ww_getR 36 X dX11_feed_36 fG_X11_18 e36 ?_
    refine ww_iload_n 39 X dX11_feed_39 3 rfl rfl ?_
    obtain ⟨_, f40, h⟩ := bO_some h
    obtain ⟨M40, e40, h⟩ := bO_some h
    refine ww_callVV0 40 X dX11_feed_40 mY_X0_putWord mL_X11_117 (rcv_spec f40) ⟨_, _, rfl⟩ (by decide) (As := [.int l3]) (rest := []) rfl rfl ⟨Nat.le_of_ble_eq_true rfl, Nat.le_of_ble_eq_true rfl⟩ (Nat.le_of_ble_eq_true rfl) (fun l D A => c_X0_putWord l D A e40) ?_
    refine ww_aload_n 43 X dX11_feed_43 0 rfl rfl ?_
    obtain ⟨v44, e44, h⟩ := bO_some h
    refine ww_getR 44 X dX11_feed_44 fG_X11_18 e44 ?_
    refine ww_iload 47 X dX11_feed_47 4 rfl ?_
    obtain ⟨_, f49, h⟩ := bO_some h
    obtain ⟨M49, e49, h⟩ := bO_some h
    refine ww_callVV0 49 X dX11_feed_49 mY_X0_putWord mL_X11_117 (rcv_spec f49) ⟨_, _, rfl⟩ (by decide) (As := [.int l4]) (rest := []) rfl rfl ⟨Nat.le_of_ble_eq_true rfl, Nat.le_of_ble_eq_true rfl⟩ (Nat.le_of_ble_eq_true rfl) (fun l D A => c_X0_putWord l D A e49) ?_
    refine ww_aload_n 52 X dX11_feed_52 0 rfl rfl ?_
    obtain ⟨v53, e53, h⟩ := bO_some h
    refine ww_getR 53 X dX11_feed_53 fG_X11_18 e53 ?_
    refine ww_iload 56 X dX11_feed_56 5 rfl ?_
    obtain ⟨_, f58, h⟩ := bO_some h
    obtain ⟨M58, e58, h⟩ := bO_some h
    refine ww_callVV0 58 X dX11_feed_58 mY_X0_putWord mL_X11_117 (rcv_spec f58) ⟨_, _, rfl⟩ (by decide) (As := [.int l5]) (rest := []) rfl rfl ⟨Nat.le_of_ble_eq_true rfl, Nat.le_of_ble_eq_true rfl⟩ (Nat.le_of_ble_eq_true rfl) (fun l D A => c_X0_putWord l D A e58) ?_
    refine ww_aload_n 61 X dX11_feed_61 0 rfl rfl ?_
    obtain ⟨v62, e62, h⟩ := bO_some h
    refine ww_getR 62 X dX11_feed_62 fG_X11_18 e62 ?_
    obtain ⟨v65, e65, h⟩ := bO_some h
    refine ww_getI 65 X dX11_feed_65 fG_X11_113 e65 ?_
    exact ww_iretE 68 X hQ dX11_feed_68 h
  · replace h := (if_neg q).symm.trans h
    refine ww_bipush 16 X (v := (-2 : Int32)) dX11_feed_16 (by decide) ?_
    exact ww_iretE 18 X hQ dX11_feed_18 h
theorem c_X11_feed {G : mG} {F sz : Nat} {r0 : Int32} {M0 : mM} (l : Launch) (D : mD) (A : Nat → Prop) {l0 : Nat} {l1 : Int32} {l2 : Int32} {l3 : Int32} {l4 : Int32} {l5 : Int32} {M : mM} (h : P_X11_feed G F l0 l1 l2 l3 l4 l5 M = some (r0, M0)) : mMetI l D G A yX11_feed cX11_feed 6 (some .int) 2 42 0 0 [.ref l0, .int l1, .int l2, .int l3, .int l4, .int l5] M sz r0 M0 sz := mMetI_of l D G A (by decide) (Nat.le_of_ble_eq_true rfl) (fun x X hQ => wP_X11_feed X hQ h)
/-! SealedTokens.end(I)I -/
theorem dX11_end_0 : decode cX11_end 0 = .ok (.iload_n 1, 1) := by decide +kernel
theorem dX11_end_1 : decode cX11_end 1 = .ok (.ifCond .lt 14, 3) := by decide +kernel
theorem dX11_end_4 : decode cX11_end 4 = .ok (.iload_n 1, 1) := by decide +kernel
theorem dX11_end_5 : decode cX11_end 5 = .ok (.aload_n 0, 1) := by decide +kernel
theorem dX11_end_6 : decode cX11_end 6 = .ok (.getfield 18, 3) := by decide +kernel
theorem dX11_end_9 : decode cX11_end 9 = .ok (.getfield 113, 3) := by decide +kernel
theorem dX11_end_12 : decode cX11_end 12 = .ok (.if_icmp .le 6, 3) := by decide +kernel
theorem dX11_end_15 : decode cX11_end 15 = .ok (.bipush (-2), 2) := by decide +kernel
theorem dX11_end_17 : decode cX11_end 17 = .ok (.ireturn, 1) := by decide +kernel
theorem dX11_end_18 : decode cX11_end 18 = .ok (.aload_n 0, 1) := by decide +kernel
theorem dX11_end_19 : decode cX11_end 19 = .ok (.getfield 18, 3) := by decide +kernel
theorem dX11_end_22 : decode cX11_end 22 = .ok (.iload_n 1, 1) := by decide +kernel
theorem dX11_end_23 : decode cX11_end 23 = .ok (.invokevirtual 120, 3) := by decide +kernel
theorem dX11_end_26 : decode cX11_end 26 = .ok (.iload_n 1, 1) := by decide +kernel
theorem dX11_end_27 : decode cX11_end 27 = .ok (.ireturn, 1) := by decide +kernel
abbrev rmX11_end : Room := { frames := 2, cells := 0, slots := 0, locals := 42 }
set_option maxHeartbeats 4000000 in
set_option maxRecDepth 100000 in
theorem wP_X11_end {G : mG} {F : Nat} {x : mXT} {sz : Nat} {r0 : Int32} {M0 : mM} (X : mCX G RX11 cX11_end 2 (some .int) "end" rmX11_end x) (hQ : mQI x r0 M0 (sz, 0, 0)) {l0 : Nat} {l1 : Int32} {M : mM} (h : P_X11_end G F l0 l1 M = some (r0, M0)) : WW x (sz, 0, 0) M 0 [(0, .ref l0), (1, .int l1)] [] := by
  unfold P_X11_end at h
  refine ww_iload_n 0 X dX11_end_0 1 rfl rfl ?_
  refine ww_if_lt 1 15 X dX11_end_1 (by decide) (fun q => ?_) (fun q => ?_)
  · replace h := (if_pos q).symm.trans h
    refine ww_bipush 15 X (v := (-2 : Int32)) dX11_end_15 (by decide) ?_
    exact ww_iretE 17 X hQ dX11_end_17 h
  · replace h := (if_neg q).symm.trans h
    refine ww_iload_n 4 X dX11_end_4 1 rfl rfl ?_
    refine ww_aload_n 5 X dX11_end_5 0 rfl rfl ?_
    obtain ⟨v6, e6, h⟩ := bO_some h
    refine ww_getR 6 X dX11_end_6 fG_X11_18 e6 ?_
    obtain ⟨v9, e9, h⟩ := bO_some h
    refine ww_getI 9 X dX11_end_9 fG_X11_113 e9 ?_
    refine ww_icmp_le 12 18 X dX11_end_12 (by decide) (fun q => ?_) (fun q => ?_)
    · replace h := (if_pos q).symm.trans h
      refine ww_aload_n 18 X dX11_end_18 0 rfl rfl ?_
      obtain ⟨v19, e19, h⟩ := bO_some h
      refine ww_getR 19 X dX11_end_19 fG_X11_18 e19 ?_
      refine ww_iload_n 22 X dX11_end_22 1 rfl rfl ?_
      obtain ⟨_, f23, h⟩ := bO_some h
      obtain ⟨M23, e23, h⟩ := bO_some h
      refine ww_callVV0 23 X dX11_end_23 mY_X0_cutTo mL_X11_120 (rcv_spec f23) ⟨_, _, rfl⟩ (by decide) (As := [.int l1]) (rest := []) rfl rfl ⟨Nat.le_of_ble_eq_true rfl, Nat.le_of_ble_eq_true rfl⟩ (Nat.le_of_ble_eq_true rfl) (fun l D A => c_X0_cutTo l D A e23) ?_
      refine ww_iload_n 26 X dX11_end_26 1 rfl rfl ?_
      exact ww_iretE 27 X hQ dX11_end_27 h
    · replace h := (if_neg q).symm.trans h
      refine ww_bipush 15 X (v := (-2 : Int32)) dX11_end_15 (by decide) ?_
      exact ww_iretE 17 X hQ dX11_end_17 h
theorem c_X11_end {G : mG} {F sz : Nat} {r0 : Int32} {M0 : mM} (l : Launch) (D : mD) (A : Nat → Prop) {l0 : Nat} {l1 : Int32} {M : mM} (h : P_X11_end G F l0 l1 M = some (r0, M0)) : mMetI l D G A yX11_end cX11_end 2 (some .int) 2 42 0 0 [.ref l0, .int l1] M sz r0 M0 sz := mMetI_of l D G A (by decide) (Nat.le_of_ble_eq_true rfl) (fun x X hQ => wP_X11_end X hQ h)
/-! SealedTokens.isRow(I)Z -/
theorem dX11_isRow_0 : decode cX11_isRow 0 = .ok (.iload_n 1, 1) := by decide +kernel
theorem dX11_isRow_1 : decode cX11_isRow 1 = .ok (.ifCond .lt 13, 3) := by decide +kernel
theorem dX11_isRow_4 : decode cX11_isRow 4 = .ok (.iload_n 1, 1) := by decide +kernel
theorem dX11_isRow_5 : decode cX11_isRow 5 = .ok (.bipush 8, 2) := by decide +kernel
theorem dX11_isRow_7 : decode cX11_isRow 7 = .ok (.if_icmp .ge 7, 3) := by decide +kernel
theorem dX11_isRow_10 : decode cX11_isRow 10 = .ok (.iconst 1, 1) := by decide +kernel
theorem dX11_isRow_11 : decode cX11_isRow 11 = .ok (.goto 4, 3) := by decide +kernel
theorem dX11_isRow_14 : decode cX11_isRow 14 = .ok (.iconst 0, 1) := by decide +kernel
theorem dX11_isRow_15 : decode cX11_isRow 15 = .ok (.ireturn, 1) := by decide +kernel
abbrev rmX11_isRow : Room := { frames := 0, cells := 0, slots := 0, locals := 0 }
set_option maxHeartbeats 4000000 in
set_option maxRecDepth 100000 in
theorem wP_X11_isRow {G : mG} {F : Nat} {x : mXT} {sz : Nat} {r0 : Int32} {M0 : mM} (X : mCX G RX11 cX11_isRow 2 (some .boolean) "isRow" rmX11_isRow x) (hQ : mQI x r0 M0 (sz, 0, 0)) {l0 : Nat} {l1 : Int32} {M : mM} (h : P_X11_isRow G F l0 l1 M = some (r0, M0)) : WW x (sz, 0, 0) M 0 [(0, .ref l0), (1, .int l1)] [] := by
  unfold P_X11_isRow at h
  refine ww_iload_n 0 X dX11_isRow_0 1 rfl rfl ?_
  refine ww_if_lt 1 14 X dX11_isRow_1 (by decide) (fun q => ?_) (fun q => ?_)
  · replace h := (if_pos q).symm.trans h
    refine ww_iconst 14 X (v := (0 : Int32)) dX11_isRow_14 (by decide) ?_
    exact ww_zretE 15 X hQ dX11_isRow_15 h
  · replace h := (if_neg q).symm.trans h
    refine ww_iload_n 4 X dX11_isRow_4 1 rfl rfl ?_
    refine ww_bipush 5 X (v := (8 : Int32)) dX11_isRow_5 (by decide) ?_
    refine ww_icmp_ge 7 14 X dX11_isRow_7 (by decide) (fun q => ?_) (fun q => ?_)
    · replace h := (if_pos q).symm.trans h
      refine ww_iconst 14 X (v := (0 : Int32)) dX11_isRow_14 (by decide) ?_
      exact ww_zretE 15 X hQ dX11_isRow_15 h
    · replace h := (if_neg q).symm.trans h
      refine ww_iconst 10 X (v := (1 : Int32)) dX11_isRow_10 (by decide) ?_
      refine ww_goto 11 15 X dX11_isRow_11 (by decide) ?_
      exact ww_zretE 15 X hQ dX11_isRow_15 h
theorem c_X11_isRow {G : mG} {F sz : Nat} {r0 : Int32} {M0 : mM} (l : Launch) (D : mD) (A : Nat → Prop) {l0 : Nat} {l1 : Int32} {M : mM} (h : P_X11_isRow G F l0 l1 M = some (r0, M0)) : mMetI l D G A yX11_isRow cX11_isRow 2 (some .boolean) 0 0 0 0 [.ref l0, .int l1] M sz r0 M0 sz := mMetI_of l D G A (by decide) (Nat.le_of_ble_eq_true rfl) (fun x X hQ => wP_X11_isRow X hQ h)
/-! SealedTokens.row(I)I -/
theorem dX11_row_0 : decode cX11_row 0 = .ok (.aload_n 0, 1) := by decide +kernel
theorem dX11_row_1 : decode cX11_row 1 = .ok (.iload_n 1, 1) := by decide +kernel
theorem dX11_row_2 : decode cX11_row 2 = .ok (.invokevirtual 123, 3) := by decide +kernel
theorem dX11_row_5 : decode cX11_row 5 = .ok (.ifCond .ne 6, 3) := by decide +kernel
theorem dX11_row_8 : decode cX11_row 8 = .ok (.bipush (-2), 2) := by decide +kernel
theorem dX11_row_10 : decode cX11_row 10 = .ok (.ireturn, 1) := by decide +kernel
theorem dX11_row_11 : decode cX11_row 11 = .ok (.aload_n 0, 1) := by decide +kernel
theorem dX11_row_12 : decode cX11_row 12 = .ok (.getfield 11, 3) := by decide +kernel
theorem dX11_row_15 : decode cX11_row 15 = .ok (.iload_n 1, 1) := by decide +kernel
theorem dX11_row_16 : decode cX11_row 16 = .ok (.aaload, 1) := by decide +kernel
theorem dX11_row_17 : decode cX11_row 17 = .ok (.aload_n 0, 1) := by decide +kernel
theorem dX11_row_18 : decode cX11_row 18 = .ok (.getfield 18, 3) := by decide +kernel
theorem dX11_row_21 : decode cX11_row 21 = .ok (.invokevirtual 127, 3) := by decide +kernel
theorem dX11_row_24 : decode cX11_row 24 = .ok (.aload_n 0, 1) := by decide +kernel
theorem dX11_row_25 : decode cX11_row 25 = .ok (.getfield 18, 3) := by decide +kernel
theorem dX11_row_28 : decode cX11_row 28 = .ok (.invokevirtual 131, 3) := by decide +kernel
theorem dX11_row_31 : decode cX11_row 31 = .ok (.aload_n 0, 1) := by decide +kernel
theorem dX11_row_32 : decode cX11_row 32 = .ok (.getfield 11, 3) := by decide +kernel
theorem dX11_row_35 : decode cX11_row 35 = .ok (.iload_n 1, 1) := by decide +kernel
theorem dX11_row_36 : decode cX11_row 36 = .ok (.aaload, 1) := by decide +kernel
theorem dX11_row_37 : decode cX11_row 37 = .ok (.getfield 113, 3) := by decide +kernel
theorem dX11_row_40 : decode cX11_row 40 = .ok (.ireturn, 1) := by decide +kernel
abbrev rmX11_row : Room := { frames := 3, cells := 0, slots := 0, locals := 105 }
set_option maxHeartbeats 4000000 in
set_option maxRecDepth 100000 in
theorem wP_X11_row {G : mG} {F : Nat} {x : mXT} {sz : Nat} {r0 : Int32} {M0 : mM} (X : mCX G RX11 cX11_row 2 (some .int) "row" rmX11_row x) (hQ : mQI x r0 M0 (sz, 0, 0)) {l0 : Nat} {l1 : Int32} {M : mM} (h : P_X11_row G F l0 l1 M = some (r0, M0)) : WW x (sz, 0, 0) M 0 [(0, .ref l0), (1, .int l1)] [] := by
  unfold P_X11_row at h
  refine ww_aload_n 0 X dX11_row_0 0 rfl rfl ?_
  refine ww_iload_n 1 X dX11_row_1 1 rfl rfl ?_
  obtain ⟨_, f2, h⟩ := bO_some h
  obtain ⟨v2, M2, e2, h⟩ := bP_some h
  refine ww_callVI0 2 X dX11_row_2 mY_X11_isRow mL_X11_123 (rcv_spec f2) ⟨_, _, rfl⟩ (by decide) (As := [.int l1]) (rest := []) rfl rfl ⟨Nat.le_of_ble_eq_true rfl, Nat.le_of_ble_eq_true rfl⟩ (Nat.le_of_ble_eq_true rfl) (fun l D A => c_X11_isRow l D A e2) ?_
  refine ww_if_ne 5 11 X dX11_row_5 (by decide) (fun q => ?_) (fun q => ?_)
  · replace h := (if_neg q).symm.trans h
    refine ww_aload_n 11 X dX11_row_11 0 rfl rfl ?_
    obtain ⟨v12, e12, h⟩ := bO_some h
    refine ww_getR 12 X dX11_row_12 fG_X11_11 e12 ?_
    refine ww_iload_n 15 X dX11_row_15 1 rfl rfl ?_
    obtain ⟨v16, e16, h⟩ := bO_some h
    refine ww_aald4 16 X dX11_row_16 e16 ?_
    refine ww_aload_n 17 X dX11_row_17 0 rfl rfl ?_
    obtain ⟨v18, e18, h⟩ := bO_some h
    refine ww_getR 18 X dX11_row_18 fG_X11_18 e18 ?_
    obtain ⟨_, f21, h⟩ := bO_some h
    obtain ⟨M21, e21, h⟩ := bO_some h
    refine ww_callVV0 21 X dX11_row_21 mY_X0_become mL_X11_127 (rcv_spec f21) ⟨_, _, rfl⟩ (by decide) (As := [.ref v18]) (rest := []) rfl rfl ⟨Nat.le_of_ble_eq_true rfl, Nat.le_of_ble_eq_true rfl⟩ (Nat.le_of_ble_eq_true rfl) (fun l D A => c_X0_become l D A e21) ?_
    refine ww_aload_n 24 X dX11_row_24 0 rfl rfl ?_
    obtain ⟨v25, e25, h⟩ := bO_some h
    refine ww_getR 25 X dX11_row_25 fG_X11_18 e25 ?_
    obtain ⟨_, f28, h⟩ := bO_some h
    obtain ⟨M28, e28, h⟩ := bO_some h
    refine ww_callVV0 28 X dX11_row_28 mY_X0_clear mL_X11_131 (rcv_spec f28) ⟨_, _, rfl⟩ (by decide) (As := []) (rest := []) rfl rfl ⟨Nat.le_of_ble_eq_true rfl, Nat.le_of_ble_eq_true rfl⟩ (Nat.le_of_ble_eq_true rfl) (fun l D A => c_X0_clear l D A e28) ?_
    refine ww_aload_n 31 X dX11_row_31 0 rfl rfl ?_
    obtain ⟨v32, e32, h⟩ := bO_some h
    refine ww_getR 32 X dX11_row_32 fG_X11_11 e32 ?_
    refine ww_iload_n 35 X dX11_row_35 1 rfl rfl ?_
    obtain ⟨v36, e36, h⟩ := bO_some h
    refine ww_aald4 36 X dX11_row_36 e36 ?_
    obtain ⟨v37, e37, h⟩ := bO_some h
    refine ww_getI 37 X dX11_row_37 fG_X11_113 e37 ?_
    exact ww_iretE 40 X hQ dX11_row_40 h
  · replace h := (if_pos q).symm.trans h
    refine ww_bipush 8 X (v := (-2 : Int32)) dX11_row_8 (by decide) ?_
    exact ww_iretE 10 X hQ dX11_row_10 h
theorem c_X11_row {G : mG} {F sz : Nat} {r0 : Int32} {M0 : mM} (l : Launch) (D : mD) (A : Nat → Prop) {l0 : Nat} {l1 : Int32} {M : mM} (h : P_X11_row G F l0 l1 M = some (r0, M0)) : mMetI l D G A yX11_row cX11_row 2 (some .int) 3 105 0 0 [.ref l0, .int l1] M sz r0 M0 sz := mMetI_of l D G A (by decide) (Nat.le_of_ble_eq_true rfl) (fun x X hQ => wP_X11_row X hQ h)
/-! SealedTokens.keep(I)I -/
theorem dX11_keep_0 : decode cX11_keep 0 = .ok (.aload_n 0, 1) := by decide +kernel
theorem dX11_keep_1 : decode cX11_keep 1 = .ok (.iload_n 1, 1) := by decide +kernel
theorem dX11_keep_2 : decode cX11_keep 2 = .ok (.invokevirtual 123, 3) := by decide +kernel
theorem dX11_keep_5 : decode cX11_keep 5 = .ok (.ifCond .ne 6, 3) := by decide +kernel
theorem dX11_keep_8 : decode cX11_keep 8 = .ok (.bipush (-2), 2) := by decide +kernel
theorem dX11_keep_10 : decode cX11_keep 10 = .ok (.ireturn, 1) := by decide +kernel
theorem dX11_keep_11 : decode cX11_keep 11 = .ok (.aload_n 0, 1) := by decide +kernel
theorem dX11_keep_12 : decode cX11_keep 12 = .ok (.getfield 11, 3) := by decide +kernel
theorem dX11_keep_15 : decode cX11_keep 15 = .ok (.iload_n 1, 1) := by decide +kernel
theorem dX11_keep_16 : decode cX11_keep 16 = .ok (.aaload, 1) := by decide +kernel
theorem dX11_keep_17 : decode cX11_keep 17 = .ok (.aload_n 0, 1) := by decide +kernel
theorem dX11_keep_18 : decode cX11_keep 18 = .ok (.getfield 22, 3) := by decide +kernel
theorem dX11_keep_21 : decode cX11_keep 21 = .ok (.invokevirtual 127, 3) := by decide +kernel
theorem dX11_keep_24 : decode cX11_keep 24 = .ok (.aload_n 0, 1) := by decide +kernel
theorem dX11_keep_25 : decode cX11_keep 25 = .ok (.getfield 11, 3) := by decide +kernel
theorem dX11_keep_28 : decode cX11_keep 28 = .ok (.iload_n 1, 1) := by decide +kernel
theorem dX11_keep_29 : decode cX11_keep 29 = .ok (.aaload, 1) := by decide +kernel
theorem dX11_keep_30 : decode cX11_keep 30 = .ok (.getfield 113, 3) := by decide +kernel
theorem dX11_keep_33 : decode cX11_keep 33 = .ok (.ireturn, 1) := by decide +kernel
abbrev rmX11_keep : Room := { frames := 3, cells := 0, slots := 0, locals := 105 }
set_option maxHeartbeats 4000000 in
set_option maxRecDepth 100000 in
theorem wP_X11_keep {G : mG} {F : Nat} {x : mXT} {sz : Nat} {r0 : Int32} {M0 : mM} (X : mCX G RX11 cX11_keep 2 (some .int) "keep" rmX11_keep x) (hQ : mQI x r0 M0 (sz, 0, 0)) {l0 : Nat} {l1 : Int32} {M : mM} (h : P_X11_keep G F l0 l1 M = some (r0, M0)) : WW x (sz, 0, 0) M 0 [(0, .ref l0), (1, .int l1)] [] := by
  unfold P_X11_keep at h
  refine ww_aload_n 0 X dX11_keep_0 0 rfl rfl ?_
  refine ww_iload_n 1 X dX11_keep_1 1 rfl rfl ?_
  obtain ⟨_, f2, h⟩ := bO_some h
  obtain ⟨v2, M2, e2, h⟩ := bP_some h
  refine ww_callVI0 2 X dX11_keep_2 mY_X11_isRow mL_X11_123 (rcv_spec f2) ⟨_, _, rfl⟩ (by decide) (As := [.int l1]) (rest := []) rfl rfl ⟨Nat.le_of_ble_eq_true rfl, Nat.le_of_ble_eq_true rfl⟩ (Nat.le_of_ble_eq_true rfl) (fun l D A => c_X11_isRow l D A e2) ?_
  refine ww_if_ne 5 11 X dX11_keep_5 (by decide) (fun q => ?_) (fun q => ?_)
  · replace h := (if_neg q).symm.trans h
    refine ww_aload_n 11 X dX11_keep_11 0 rfl rfl ?_
    obtain ⟨v12, e12, h⟩ := bO_some h
    refine ww_getR 12 X dX11_keep_12 fG_X11_11 e12 ?_
    refine ww_iload_n 15 X dX11_keep_15 1 rfl rfl ?_
    obtain ⟨v16, e16, h⟩ := bO_some h
    refine ww_aald4 16 X dX11_keep_16 e16 ?_
    refine ww_aload_n 17 X dX11_keep_17 0 rfl rfl ?_
    obtain ⟨v18, e18, h⟩ := bO_some h
    refine ww_getR 18 X dX11_keep_18 fG_X11_22 e18 ?_
    obtain ⟨_, f21, h⟩ := bO_some h
    obtain ⟨M21, e21, h⟩ := bO_some h
    refine ww_callVV0 21 X dX11_keep_21 mY_X0_become mL_X11_127 (rcv_spec f21) ⟨_, _, rfl⟩ (by decide) (As := [.ref v18]) (rest := []) rfl rfl ⟨Nat.le_of_ble_eq_true rfl, Nat.le_of_ble_eq_true rfl⟩ (Nat.le_of_ble_eq_true rfl) (fun l D A => c_X0_become l D A e21) ?_
    refine ww_aload_n 24 X dX11_keep_24 0 rfl rfl ?_
    obtain ⟨v25, e25, h⟩ := bO_some h
    refine ww_getR 25 X dX11_keep_25 fG_X11_11 e25 ?_
    refine ww_iload_n 28 X dX11_keep_28 1 rfl rfl ?_
    obtain ⟨v29, e29, h⟩ := bO_some h
    refine ww_aald4 29 X dX11_keep_29 e29 ?_
    obtain ⟨v30, e30, h⟩ := bO_some h
    refine ww_getI 30 X dX11_keep_30 fG_X11_113 e30 ?_
    exact ww_iretE 33 X hQ dX11_keep_33 h
  · replace h := (if_pos q).symm.trans h
    refine ww_bipush 8 X (v := (-2 : Int32)) dX11_keep_8 (by decide) ?_
    exact ww_iretE 10 X hQ dX11_keep_10 h
theorem c_X11_keep {G : mG} {F sz : Nat} {r0 : Int32} {M0 : mM} (l : Launch) (D : mD) (A : Nat → Prop) {l0 : Nat} {l1 : Int32} {M : mM} (h : P_X11_keep G F l0 l1 M = some (r0, M0)) : mMetI l D G A yX11_keep cX11_keep 2 (some .int) 3 105 0 0 [.ref l0, .int l1] M sz r0 M0 sz := mMetI_of l D G A (by decide) (Nat.le_of_ble_eq_true rfl) (fun x X hQ => wP_X11_keep X hQ h)
/-! SealedTokens.poke(III)I -/
theorem dX11_poke_0 : decode cX11_poke 0 = .ok (.aload_n 0, 1) := by decide +kernel
theorem dX11_poke_1 : decode cX11_poke 1 = .ok (.iload_n 1, 1) := by decide +kernel
theorem dX11_poke_2 : decode cX11_poke 2 = .ok (.invokevirtual 123, 3) := by decide +kernel
theorem dX11_poke_5 : decode cX11_poke 5 = .ok (.ifCond .eq 31, 3) := by decide +kernel
theorem dX11_poke_8 : decode cX11_poke 8 = .ok (.iload_n 3, 1) := by decide +kernel
theorem dX11_poke_9 : decode cX11_poke 9 = .ok (.ifCond .lt 27, 3) := by decide +kernel
theorem dX11_poke_12 : decode cX11_poke 12 = .ok (.iload_n 3, 1) := by decide +kernel
theorem dX11_poke_13 : decode cX11_poke 13 = .ok (.sipush 255, 3) := by decide +kernel
theorem dX11_poke_16 : decode cX11_poke 16 = .ok (.if_icmp .gt 20, 3) := by decide +kernel
theorem dX11_poke_19 : decode cX11_poke 19 = .ok (.iload_n 2, 1) := by decide +kernel
theorem dX11_poke_20 : decode cX11_poke 20 = .ok (.ifCond .lt 16, 3) := by decide +kernel
theorem dX11_poke_23 : decode cX11_poke 23 = .ok (.iload_n 2, 1) := by decide +kernel
theorem dX11_poke_24 : decode cX11_poke 24 = .ok (.aload_n 0, 1) := by decide +kernel
theorem dX11_poke_25 : decode cX11_poke 25 = .ok (.getfield 11, 3) := by decide +kernel
theorem dX11_poke_28 : decode cX11_poke 28 = .ok (.iload_n 1, 1) := by decide +kernel
theorem dX11_poke_29 : decode cX11_poke 29 = .ok (.aaload, 1) := by decide +kernel
theorem dX11_poke_30 : decode cX11_poke 30 = .ok (.getfield 113, 3) := by decide +kernel
theorem dX11_poke_33 : decode cX11_poke 33 = .ok (.if_icmp .lt 6, 3) := by decide +kernel
theorem dX11_poke_36 : decode cX11_poke 36 = .ok (.bipush (-2), 2) := by decide +kernel
theorem dX11_poke_38 : decode cX11_poke 38 = .ok (.ireturn, 1) := by decide +kernel
theorem dX11_poke_39 : decode cX11_poke 39 = .ok (.aload_n 0, 1) := by decide +kernel
theorem dX11_poke_40 : decode cX11_poke 40 = .ok (.getfield 11, 3) := by decide +kernel
theorem dX11_poke_43 : decode cX11_poke 43 = .ok (.iload_n 1, 1) := by decide +kernel
theorem dX11_poke_44 : decode cX11_poke 44 = .ok (.aaload, 1) := by decide +kernel
theorem dX11_poke_45 : decode cX11_poke 45 = .ok (.getfield 134, 3) := by decide +kernel
theorem dX11_poke_48 : decode cX11_poke 48 = .ok (.iload_n 2, 1) := by decide +kernel
theorem dX11_poke_49 : decode cX11_poke 49 = .ok (.dup2, 1) := by decide +kernel
theorem dX11_poke_50 : decode cX11_poke 50 = .ok (.iaload, 1) := by decide +kernel
theorem dX11_poke_51 : decode cX11_poke 51 = .ok (.iload_n 3, 1) := by decide +kernel
theorem dX11_poke_52 : decode cX11_poke 52 = .ok (.ixor, 1) := by decide +kernel
theorem dX11_poke_53 : decode cX11_poke 53 = .ok (.iastore, 1) := by decide +kernel
theorem dX11_poke_54 : decode cX11_poke 54 = .ok (.aload_n 0, 1) := by decide +kernel
theorem dX11_poke_55 : decode cX11_poke 55 = .ok (.getfield 11, 3) := by decide +kernel
theorem dX11_poke_58 : decode cX11_poke 58 = .ok (.iload_n 1, 1) := by decide +kernel
theorem dX11_poke_59 : decode cX11_poke 59 = .ok (.aaload, 1) := by decide +kernel
theorem dX11_poke_60 : decode cX11_poke 60 = .ok (.getfield 134, 3) := by decide +kernel
theorem dX11_poke_63 : decode cX11_poke 63 = .ok (.iload_n 2, 1) := by decide +kernel
theorem dX11_poke_64 : decode cX11_poke 64 = .ok (.iaload, 1) := by decide +kernel
theorem dX11_poke_65 : decode cX11_poke 65 = .ok (.ireturn, 1) := by decide +kernel
abbrev rmX11_poke : Room := { frames := 1, cells := 0, slots := 0, locals := 21 }
set_option maxHeartbeats 4000000 in
set_option maxRecDepth 100000 in
theorem wP_X11_poke {G : mG} {F : Nat} {x : mXT} {sz : Nat} {r0 : Int32} {M0 : mM} (X : mCX G RX11 cX11_poke 4 (some .int) "poke" rmX11_poke x) (hQ : mQI x r0 M0 (sz, 0, 0)) {l0 : Nat} {l1 : Int32} {l2 : Int32} {l3 : Int32} {M : mM} (h : P_X11_poke G F l0 l1 l2 l3 M = some (r0, M0)) : WW x (sz, 0, 0) M 0 [(0, .ref l0), (1, .int l1), (2, .int l2), (3, .int l3)] [] := by
  unfold P_X11_poke at h
  refine ww_aload_n 0 X dX11_poke_0 0 rfl rfl ?_
  refine ww_iload_n 1 X dX11_poke_1 1 rfl rfl ?_
  obtain ⟨_, f2, h⟩ := bO_some h
  obtain ⟨v2, M2, e2, h⟩ := bP_some h
  refine ww_callVI0 2 X dX11_poke_2 mY_X11_isRow mL_X11_123 (rcv_spec f2) ⟨_, _, rfl⟩ (by decide) (As := [.int l1]) (rest := []) rfl rfl ⟨Nat.le_of_ble_eq_true rfl, Nat.le_of_ble_eq_true rfl⟩ (Nat.le_of_ble_eq_true rfl) (fun l D A => c_X11_isRow l D A e2) ?_
  refine ww_if_eq 5 36 X dX11_poke_5 (by decide) (fun q => ?_) (fun q => ?_)
  · replace h := (if_pos q).symm.trans h
    refine ww_bipush 36 X (v := (-2 : Int32)) dX11_poke_36 (by decide) ?_
    exact ww_iretE 38 X hQ dX11_poke_38 h
  · replace h := (if_neg q).symm.trans h
    refine ww_iload_n 8 X dX11_poke_8 3 rfl rfl ?_
    refine ww_if_lt 9 36 X dX11_poke_9 (by decide) (fun q => ?_) (fun q => ?_)
    · replace h := (if_pos q).symm.trans h
      refine ww_bipush 36 X (v := (-2 : Int32)) dX11_poke_36 (by decide) ?_
      exact ww_iretE 38 X hQ dX11_poke_38 h
    · replace h := (if_neg q).symm.trans h
      refine ww_iload_n 12 X dX11_poke_12 3 rfl rfl ?_
      refine ww_sipush 13 X (v := (255 : Int32)) dX11_poke_13 (by decide) ?_
      refine ww_icmp_gt 16 36 X dX11_poke_16 (by decide) (fun q => ?_) (fun q => ?_)
      · replace h := (if_pos q).symm.trans h
        refine ww_bipush 36 X (v := (-2 : Int32)) dX11_poke_36 (by decide) ?_
        exact ww_iretE 38 X hQ dX11_poke_38 h
      · replace h := (if_neg q).symm.trans h
        refine ww_iload_n 19 X dX11_poke_19 2 rfl rfl ?_
        refine ww_if_lt 20 36 X dX11_poke_20 (by decide) (fun q => ?_) (fun q => ?_)
        · replace h := (if_pos q).symm.trans h
          refine ww_bipush 36 X (v := (-2 : Int32)) dX11_poke_36 (by decide) ?_
          exact ww_iretE 38 X hQ dX11_poke_38 h
        · replace h := (if_neg q).symm.trans h
          refine ww_iload_n 23 X dX11_poke_23 2 rfl rfl ?_
          refine ww_aload_n 24 X dX11_poke_24 0 rfl rfl ?_
          obtain ⟨v25, e25, h⟩ := bO_some h
          refine ww_getR 25 X dX11_poke_25 fG_X11_11 e25 ?_
          refine ww_iload_n 28 X dX11_poke_28 1 rfl rfl ?_
          obtain ⟨v29, e29, h⟩ := bO_some h
          refine ww_aald4 29 X dX11_poke_29 e29 ?_
          obtain ⟨v30, e30, h⟩ := bO_some h
          refine ww_getI 30 X dX11_poke_30 fG_X11_113 e30 ?_
          refine ww_icmp_lt 33 39 X dX11_poke_33 (by decide) (fun q => ?_) (fun q => ?_)
          · replace h := (if_pos q).symm.trans h
            refine ww_aload_n 39 X dX11_poke_39 0 rfl rfl ?_
            obtain ⟨v40, e40, h⟩ := bO_some h
            refine ww_getR 40 X dX11_poke_40 fG_X11_11 e40 ?_
            refine ww_iload_n 43 X dX11_poke_43 1 rfl rfl ?_
            obtain ⟨v44, e44, h⟩ := bO_some h
            refine ww_aald4 44 X dX11_poke_44 e44 ?_
            obtain ⟨v45, e45, h⟩ := bO_some h
            refine ww_getR 45 X dX11_poke_45 fG_X11_134 e45 ?_
            refine ww_iload_n 48 X dX11_poke_48 2 rfl rfl ?_
            refine ww_dup2_11 49 X dX11_poke_49 rfl rfl ?_
            obtain ⟨v50, e50, h⟩ := bO_some h
            refine ww_iald 50 X dX11_poke_50 e50 ?_
            refine ww_iload_n 51 X dX11_poke_51 3 rfl rfl ?_
            refine ww_ixor 52 X dX11_poke_52 ?_
            obtain ⟨M53, e53, h⟩ := bO_some h
            refine ww_iast 53 X dX11_poke_53 e53 ?_
            refine ww_aload_n 54 X dX11_poke_54 0 rfl rfl ?_
            obtain ⟨v55, e55, h⟩ := bO_some h
            refine ww_getR 55 X dX11_poke_55 fG_X11_11 e55 ?_
            refine ww_iload_n 58 X dX11_poke_58 1 rfl rfl ?_
            obtain ⟨v59, e59, h⟩ := bO_some h
            refine ww_aald4 59 X dX11_poke_59 e59 ?_
            obtain ⟨v60, e60, h⟩ := bO_some h
            refine ww_getR 60 X dX11_poke_60 fG_X11_134 e60 ?_
            refine ww_iload_n 63 X dX11_poke_63 2 rfl rfl ?_
            obtain ⟨v64, e64, h⟩ := bO_some h
            refine ww_iald 64 X dX11_poke_64 e64 ?_
            exact ww_iretE 65 X hQ dX11_poke_65 h
          · replace h := (if_neg q).symm.trans h
            refine ww_bipush 36 X (v := (-2 : Int32)) dX11_poke_36 (by decide) ?_
            exact ww_iretE 38 X hQ dX11_poke_38 h
theorem c_X11_poke {G : mG} {F sz : Nat} {r0 : Int32} {M0 : mM} (l : Launch) (D : mD) (A : Nat → Prop) {l0 : Nat} {l1 : Int32} {l2 : Int32} {l3 : Int32} {M : mM} (h : P_X11_poke G F l0 l1 l2 l3 M = some (r0, M0)) : mMetI l D G A yX11_poke cX11_poke 4 (some .int) 1 21 0 0 [.ref l0, .int l1, .int l2, .int l3] M sz r0 M0 sz := mMetI_of l D G A (by decide) (Nat.le_of_ble_eq_true rfl) (fun x X hQ => wP_X11_poke X hQ h)
/-! SealedTokens.size(I)I -/
theorem dX11_size_0 : decode cX11_size 0 = .ok (.iload_n 1, 1) := by decide +kernel
theorem dX11_size_1 : decode cX11_size 1 = .ok (.iconst (-1), 1) := by decide +kernel
theorem dX11_size_2 : decode cX11_size 2 = .ok (.if_icmp .ne 11, 3) := by decide +kernel
theorem dX11_size_5 : decode cX11_size 5 = .ok (.aload_n 0, 1) := by decide +kernel
theorem dX11_size_6 : decode cX11_size 6 = .ok (.getfield 22, 3) := by decide +kernel
theorem dX11_size_9 : decode cX11_size 9 = .ok (.getfield 113, 3) := by decide +kernel
theorem dX11_size_12 : decode cX11_size 12 = .ok (.ireturn, 1) := by decide +kernel
theorem dX11_size_13 : decode cX11_size 13 = .ok (.aload_n 0, 1) := by decide +kernel
theorem dX11_size_14 : decode cX11_size 14 = .ok (.iload_n 1, 1) := by decide +kernel
theorem dX11_size_15 : decode cX11_size 15 = .ok (.invokevirtual 123, 3) := by decide +kernel
theorem dX11_size_18 : decode cX11_size 18 = .ok (.ifCond .eq 15, 3) := by decide +kernel
theorem dX11_size_21 : decode cX11_size 21 = .ok (.aload_n 0, 1) := by decide +kernel
theorem dX11_size_22 : decode cX11_size 22 = .ok (.getfield 11, 3) := by decide +kernel
theorem dX11_size_25 : decode cX11_size 25 = .ok (.iload_n 1, 1) := by decide +kernel
theorem dX11_size_26 : decode cX11_size 26 = .ok (.aaload, 1) := by decide +kernel
theorem dX11_size_27 : decode cX11_size 27 = .ok (.getfield 113, 3) := by decide +kernel
theorem dX11_size_30 : decode cX11_size 30 = .ok (.goto 5, 3) := by decide +kernel
theorem dX11_size_33 : decode cX11_size 33 = .ok (.bipush (-2), 2) := by decide +kernel
theorem dX11_size_35 : decode cX11_size 35 = .ok (.ireturn, 1) := by decide +kernel
abbrev rmX11_size : Room := { frames := 1, cells := 0, slots := 0, locals := 21 }
set_option maxHeartbeats 4000000 in
set_option maxRecDepth 100000 in
theorem wP_X11_size {G : mG} {F : Nat} {x : mXT} {sz : Nat} {r0 : Int32} {M0 : mM} (X : mCX G RX11 cX11_size 2 (some .int) "size" rmX11_size x) (hQ : mQI x r0 M0 (sz, 0, 0)) {l0 : Nat} {l1 : Int32} {M : mM} (h : P_X11_size G F l0 l1 M = some (r0, M0)) : WW x (sz, 0, 0) M 0 [(0, .ref l0), (1, .int l1)] [] := by
  unfold P_X11_size at h
  refine ww_iload_n 0 X dX11_size_0 1 rfl rfl ?_
  refine ww_iconst 1 X (v := (-1 : Int32)) dX11_size_1 (by decide) ?_
  refine ww_icmp_ne 2 13 X dX11_size_2 (by decide) (fun q => ?_) (fun q => ?_)
  · replace h := (if_neg q).symm.trans h
    refine ww_aload_n 13 X dX11_size_13 0 rfl rfl ?_
    refine ww_iload_n 14 X dX11_size_14 1 rfl rfl ?_
    obtain ⟨_, f15, h⟩ := bO_some h
    obtain ⟨v15, M15, e15, h⟩ := bP_some h
    refine ww_callVI0 15 X dX11_size_15 mY_X11_isRow mL_X11_123 (rcv_spec f15) ⟨_, _, rfl⟩ (by decide) (As := [.int l1]) (rest := []) rfl rfl ⟨Nat.le_of_ble_eq_true rfl, Nat.le_of_ble_eq_true rfl⟩ (Nat.le_of_ble_eq_true rfl) (fun l D A => c_X11_isRow l D A e15) ?_
    refine ww_if_eq 18 33 X dX11_size_18 (by decide) (fun q => ?_) (fun q => ?_)
    · replace h := (if_pos q).symm.trans h
      refine ww_bipush 33 X (v := (-2 : Int32)) dX11_size_33 (by decide) ?_
      exact ww_iretE 35 X hQ dX11_size_35 h
    · replace h := (if_neg q).symm.trans h
      refine ww_aload_n 21 X dX11_size_21 0 rfl rfl ?_
      obtain ⟨v22, e22, h⟩ := bO_some h
      refine ww_getR 22 X dX11_size_22 fG_X11_11 e22 ?_
      refine ww_iload_n 25 X dX11_size_25 1 rfl rfl ?_
      obtain ⟨v26, e26, h⟩ := bO_some h
      refine ww_aald4 26 X dX11_size_26 e26 ?_
      obtain ⟨v27, e27, h⟩ := bO_some h
      refine ww_getI 27 X dX11_size_27 fG_X11_113 e27 ?_
      refine ww_goto 30 35 X dX11_size_30 (by decide) ?_
      exact ww_iretE 35 X hQ dX11_size_35 h
  · replace h := (if_pos q).symm.trans h
    refine ww_aload_n 5 X dX11_size_5 0 rfl rfl ?_
    obtain ⟨v6, e6, h⟩ := bO_some h
    refine ww_getR 6 X dX11_size_6 fG_X11_22 e6 ?_
    obtain ⟨v9, e9, h⟩ := bO_some h
    refine ww_getI 9 X dX11_size_9 fG_X11_113 e9 ?_
    exact ww_iretE 12 X hQ dX11_size_12 h
theorem c_X11_size {G : mG} {F sz : Nat} {r0 : Int32} {M0 : mM} (l : Launch) (D : mD) (A : Nat → Prop) {l0 : Nat} {l1 : Int32} {M : mM} (h : P_X11_size G F l0 l1 M = some (r0, M0)) : mMetI l D G A yX11_size cX11_size 2 (some .int) 1 21 0 0 [.ref l0, .int l1] M sz r0 M0 sz := mMetI_of l D G A (by decide) (Nat.le_of_ble_eq_true rfl) (fun x X hQ => wP_X11_size X hQ h)
/-! SealedTokens.out(I)I -/
theorem dX11_out_0 : decode cX11_out 0 = .ok (.aload_n 0, 1) := by decide +kernel
theorem dX11_out_1 : decode cX11_out 1 = .ok (.getfield 22, 3) := by decide +kernel
theorem dX11_out_4 : decode cX11_out 4 = .ok (.iload_n 1, 1) := by decide +kernel
theorem dX11_out_5 : decode cX11_out 5 = .ok (.invokevirtual 138, 3) := by decide +kernel
theorem dX11_out_8 : decode cX11_out 8 = .ok (.ireturn, 1) := by decide +kernel
abbrev rmX11_out : Room := { frames := 1, cells := 0, slots := 0, locals := 21 }
set_option maxHeartbeats 4000000 in
set_option maxRecDepth 100000 in
theorem wP_X11_out {G : mG} {F : Nat} {x : mXT} {sz : Nat} {r0 : Int32} {M0 : mM} (X : mCX G RX11 cX11_out 2 (some .int) "out" rmX11_out x) (hQ : mQI x r0 M0 (sz, 0, 0)) {l0 : Nat} {l1 : Int32} {M : mM} (h : P_X11_out G F l0 l1 M = some (r0, M0)) : WW x (sz, 0, 0) M 0 [(0, .ref l0), (1, .int l1)] [] := by
  unfold P_X11_out at h
  refine ww_aload_n 0 X dX11_out_0 0 rfl rfl ?_
  obtain ⟨v1, e1, h⟩ := bO_some h
  refine ww_getR 1 X dX11_out_1 fG_X11_22 e1 ?_
  refine ww_iload_n 4 X dX11_out_4 1 rfl rfl ?_
  obtain ⟨_, f5, h⟩ := bO_some h
  obtain ⟨v5, M5, e5, h⟩ := bP_some h
  refine ww_callVI0 5 X dX11_out_5 mY_X0_peek mL_X11_138 (rcv_spec f5) ⟨_, _, rfl⟩ (by decide) (As := [.int l1]) (rest := []) rfl rfl ⟨Nat.le_of_ble_eq_true rfl, Nat.le_of_ble_eq_true rfl⟩ (Nat.le_of_ble_eq_true rfl) (fun l D A => c_X0_peek l D A e5) ?_
  exact ww_iretE 8 X hQ dX11_out_8 h
theorem c_X11_out {G : mG} {F sz : Nat} {r0 : Int32} {M0 : mM} (l : Launch) (D : mD) (A : Nat → Prop) {l0 : Nat} {l1 : Int32} {M : mM} (h : P_X11_out G F l0 l1 M = some (r0, M0)) : mMetI l D G A yX11_out cX11_out 2 (some .int) 1 21 0 0 [.ref l0, .int l1] M sz r0 M0 sz := mMetI_of l D G A (by decide) (Nat.le_of_ble_eq_true rfl) (fun x X hQ => wP_X11_out X hQ h)
/-! SealedTokens.json(I)I -/
theorem dX11_json_0 : decode cX11_json 0 = .ok (.aload_n 0, 1) := by decide +kernel
theorem dX11_json_1 : decode cX11_json 1 = .ok (.iload_n 1, 1) := by decide +kernel
theorem dX11_json_2 : decode cX11_json 2 = .ok (.invokevirtual 123, 3) := by decide +kernel
theorem dX11_json_5 : decode cX11_json 5 = .ok (.ifCond .ne 6, 3) := by decide +kernel
theorem dX11_json_8 : decode cX11_json 8 = .ok (.bipush (-2), 2) := by decide +kernel
theorem dX11_json_10 : decode cX11_json 10 = .ok (.ireturn, 1) := by decide +kernel
theorem dX11_json_11 : decode cX11_json 11 = .ok (.aload_n 0, 1) := by decide +kernel
theorem dX11_json_12 : decode cX11_json 12 = .ok (.getfield 52, 3) := by decide +kernel
theorem dX11_json_15 : decode cX11_json 15 = .ok (.aload_n 0, 1) := by decide +kernel
theorem dX11_json_16 : decode cX11_json 16 = .ok (.getfield 11, 3) := by decide +kernel
theorem dX11_json_19 : decode cX11_json 19 = .ok (.iload_n 1, 1) := by decide +kernel
theorem dX11_json_20 : decode cX11_json 20 = .ok (.aaload, 1) := by decide +kernel
theorem dX11_json_21 : decode cX11_json 21 = .ok (.aload_n 0, 1) := by decide +kernel
theorem dX11_json_22 : decode cX11_json 22 = .ok (.getfield 44, 3) := by decide +kernel
theorem dX11_json_25 : decode cX11_json 25 = .ok (.invokevirtual 142, 3) := by decide +kernel
theorem dX11_json_28 : decode cX11_json 28 = .ok (.istore_n 2, 1) := by decide +kernel
theorem dX11_json_29 : decode cX11_json 29 = .ok (.iload_n 2, 1) := by decide +kernel
theorem dX11_json_30 : decode cX11_json 30 = .ok (.iconst (-1), 1) := by decide +kernel
theorem dX11_json_31 : decode cX11_json 31 = .ok (.if_icmp .eq 8, 3) := by decide +kernel
theorem dX11_json_34 : decode cX11_json 34 = .ok (.bipush (-100), 2) := by decide +kernel
theorem dX11_json_36 : decode cX11_json 36 = .ok (.iload_n 2, 1) := by decide +kernel
theorem dX11_json_37 : decode cX11_json 37 = .ok (.isub, 1) := by decide +kernel
theorem dX11_json_38 : decode cX11_json 38 = .ok (.ireturn, 1) := by decide +kernel
theorem dX11_json_39 : decode cX11_json 39 = .ok (.aload_n 0, 1) := by decide +kernel
theorem dX11_json_40 : decode cX11_json 40 = .ok (.getfield 44, 3) := by decide +kernel
theorem dX11_json_43 : decode cX11_json 43 = .ok (.astore_n 3, 1) := by decide +kernel
theorem dX11_json_44 : decode cX11_json 44 = .ok (.aload_n 0, 1) := by decide +kernel
theorem dX11_json_45 : decode cX11_json 45 = .ok (.aload_n 0, 1) := by decide +kernel
theorem dX11_json_46 : decode cX11_json 46 = .ok (.getfield 40, 3) := by decide +kernel
theorem dX11_json_49 : decode cX11_json 49 = .ok (.putfield 44, 3) := by decide +kernel
theorem dX11_json_52 : decode cX11_json 52 = .ok (.aload_n 0, 1) := by decide +kernel
theorem dX11_json_53 : decode cX11_json 53 = .ok (.aload_n 3, 1) := by decide +kernel
theorem dX11_json_54 : decode cX11_json 54 = .ok (.putfield 40, 3) := by decide +kernel
theorem dX11_json_57 : decode cX11_json 57 = .ok (.aload_n 0, 1) := by decide +kernel
theorem dX11_json_58 : decode cX11_json 58 = .ok (.getfield 40, 3) := by decide +kernel
theorem dX11_json_61 : decode cX11_json 61 = .ok (.getfield 146, 3) := by decide +kernel
theorem dX11_json_64 : decode cX11_json 64 = .ok (.ireturn, 1) := by decide +kernel
abbrev rmX11_json : Room := { frames := 9, cells := 0, slots := 0, locals := 202 }
set_option maxHeartbeats 4000000 in
set_option maxRecDepth 100000 in
theorem wP_X11_json {G : mG} {F : Nat} {x : mXT} {sz : Nat} {r0 : Int32} {M0 : mM} (X : mCX G RX11 cX11_json 4 (some .int) "json" rmX11_json x) (hQ : mQI x r0 M0 (sz, 0, 0)) {l0 : Nat} {l1 : Int32} {M : mM} (h : P_X11_json G F l0 l1 M = some (r0, M0)) : WW x (sz, 0, 0) M 0 [(0, .ref l0), (1, .int l1)] [] := by
  unfold P_X11_json at h
  refine ww_aload_n 0 X dX11_json_0 0 rfl rfl ?_
  refine ww_iload_n 1 X dX11_json_1 1 rfl rfl ?_
  obtain ⟨_, f2, h⟩ := bO_some h
  obtain ⟨v2, M2, e2, h⟩ := bP_some h
  refine ww_callVI0 2 X dX11_json_2 mY_X11_isRow mL_X11_123 (rcv_spec f2) ⟨_, _, rfl⟩ (by decide) (As := [.int l1]) (rest := []) rfl rfl ⟨Nat.le_of_ble_eq_true rfl, Nat.le_of_ble_eq_true rfl⟩ (Nat.le_of_ble_eq_true rfl) (fun l D A => c_X11_isRow l D A e2) ?_
  refine ww_if_ne 5 11 X dX11_json_5 (by decide) (fun q => ?_) (fun q => ?_)
  · replace h := (if_neg q).symm.trans h
    refine ww_aload_n 11 X dX11_json_11 0 rfl rfl ?_
    obtain ⟨v12, e12, h⟩ := bO_some h
    refine ww_getR 12 X dX11_json_12 fG_X11_52 e12 ?_
    refine ww_aload_n 15 X dX11_json_15 0 rfl rfl ?_
    obtain ⟨v16, e16, h⟩ := bO_some h
    refine ww_getR 16 X dX11_json_16 fG_X11_11 e16 ?_
    refine ww_iload_n 19 X dX11_json_19 1 rfl rfl ?_
    obtain ⟨v20, e20, h⟩ := bO_some h
    refine ww_aald4 20 X dX11_json_20 e20 ?_
    refine ww_aload_n 21 X dX11_json_21 0 rfl rfl ?_
    obtain ⟨v22, e22, h⟩ := bO_some h
    refine ww_getR 22 X dX11_json_22 fG_X11_44 e22 ?_
    obtain ⟨_, f25, h⟩ := bO_some h
    obtain ⟨v25, M25, e25, h⟩ := bP_some h
    refine ww_callVI0 25 X dX11_json_25 mY_X7_read mL_X11_142 (rcv_spec f25) ⟨_, _, rfl⟩ (by decide) (As := [.ref v20, .ref v22]) (rest := []) rfl rfl ⟨Nat.le_of_ble_eq_true rfl, Nat.le_of_ble_eq_true rfl⟩ (Nat.le_of_ble_eq_true rfl) (fun l D A => c_X7_read l D A e25) ?_
    refine ww_istore_n 28 X dX11_json_28 (lv' := [(0, .ref l0), (1, .int l1), (2, .int v25)]) rfl (by decide) [1, 2, 0] rfl ?_
    refine ww_iload_n 29 X dX11_json_29 2 rfl rfl ?_
    refine ww_iconst 30 X (v := (-1 : Int32)) dX11_json_30 (by decide) ?_
    refine ww_icmp_eq 31 39 X dX11_json_31 (by decide) (fun q => ?_) (fun q => ?_)
    · replace h := (if_pos q).symm.trans h
      refine ww_aload_n 39 X dX11_json_39 0 rfl rfl ?_
      obtain ⟨v40, e40, h⟩ := bO_some h
      refine ww_getR 40 X dX11_json_40 fG_X11_44 e40 ?_
      refine ww_astore_n 43 X dX11_json_43 (lv' := [(0, .ref l0), (1, .int l1), (2, .int v25), (3, .ref v40)]) rfl (by decide) [1, 2, 3, 0] rfl ?_
      refine ww_aload_n 44 X dX11_json_44 0 rfl rfl ?_
      refine ww_aload_n 45 X dX11_json_45 0 rfl rfl ?_
      obtain ⟨v46, e46, h⟩ := bO_some h
      refine ww_getR 46 X dX11_json_46 fG_X11_40 e46 ?_
      obtain ⟨M49, e49, h⟩ := bO_some h
      refine ww_putR 49 X dX11_json_49 (fP_X11_44 _) e49 rfl rfl ?_
      refine ww_aload_n 52 X dX11_json_52 0 rfl rfl ?_
      refine ww_aload_n 53 X dX11_json_53 3 rfl rfl ?_
      obtain ⟨M54, e54, h⟩ := bO_some h
      refine ww_putR 54 X dX11_json_54 (fP_X11_40 _) e54 rfl rfl ?_
      refine ww_aload_n 57 X dX11_json_57 0 rfl rfl ?_
      obtain ⟨v58, e58, h⟩ := bO_some h
      refine ww_getR 58 X dX11_json_58 fG_X11_40 e58 ?_
      obtain ⟨v61, e61, h⟩ := bO_some h
      refine ww_getI 61 X dX11_json_61 fG_X11_146 e61 ?_
      exact ww_iretE 64 X hQ dX11_json_64 h
    · replace h := (if_neg q).symm.trans h
      refine ww_bipush 34 X (v := (-100 : Int32)) dX11_json_34 (by decide) ?_
      refine ww_iload_n 36 X dX11_json_36 2 rfl rfl ?_
      refine ww_isub 37 X dX11_json_37 ?_
      exact ww_iretE 38 X hQ dX11_json_38 h
  · replace h := (if_pos q).symm.trans h
    refine ww_bipush 8 X (v := (-2 : Int32)) dX11_json_8 (by decide) ?_
    exact ww_iretE 10 X hQ dX11_json_10 h
theorem c_X11_json {G : mG} {F sz : Nat} {r0 : Int32} {M0 : mM} (l : Launch) (D : mD) (A : Nat → Prop) {l0 : Nat} {l1 : Int32} {M : mM} (h : P_X11_json G F l0 l1 M = some (r0, M0)) : mMetI l D G A yX11_json cX11_json 4 (some .int) 9 202 0 0 [.ref l0, .int l1] M sz r0 M0 sz := mMetI_of l D G A (by decide) (Nat.le_of_ble_eq_true rfl) (fun x X hQ => wP_X11_json X hQ h)
/-! SealedTokens.value(II)I -/
theorem dX11_value_0 : decode cX11_value 0 = .ok (.aload_n 0, 1) := by decide +kernel
theorem dX11_value_1 : decode cX11_value 1 = .ok (.getfield 40, 3) := by decide +kernel
theorem dX11_value_4 : decode cX11_value 4 = .ok (.iload_n 1, 1) := by decide +kernel
theorem dX11_value_5 : decode cX11_value 5 = .ok (.invokevirtual 149, 3) := by decide +kernel
theorem dX11_value_8 : decode cX11_value 8 = .ok (.ifCond .ne 6, 3) := by decide +kernel
theorem dX11_value_11 : decode cX11_value 11 = .ok (.bipush (-2), 2) := by decide +kernel
theorem dX11_value_13 : decode cX11_value 13 = .ok (.ireturn, 1) := by decide +kernel
theorem dX11_value_14 : decode cX11_value 14 = .ok (.iload_n 2, 1) := by decide +kernel
theorem dX11_value_15 : decode cX11_value 15 = .ok (.tableswitch 108 0 4 #[33, 43, 78, 88, 98], 33) := by decide +kernel
theorem dX11_value_48 : decode cX11_value 48 = .ok (.aload_n 0, 1) := by decide +kernel
theorem dX11_value_49 : decode cX11_value 49 = .ok (.getfield 40, 3) := by decide +kernel
theorem dX11_value_52 : decode cX11_value 52 = .ok (.getfield 152, 3) := by decide +kernel
theorem dX11_value_55 : decode cX11_value 55 = .ok (.iload_n 1, 1) := by decide +kernel
theorem dX11_value_56 : decode cX11_value 56 = .ok (.iaload, 1) := by decide +kernel
theorem dX11_value_57 : decode cX11_value 57 = .ok (.ireturn, 1) := by decide +kernel
theorem dX11_value_58 : decode cX11_value 58 = .ok (.aload_n 0, 1) := by decide +kernel
theorem dX11_value_59 : decode cX11_value 59 = .ok (.getfield 40, 3) := by decide +kernel
theorem dX11_value_62 : decode cX11_value 62 = .ok (.getfield 152, 3) := by decide +kernel
theorem dX11_value_65 : decode cX11_value 65 = .ok (.iload_n 1, 1) := by decide +kernel
theorem dX11_value_66 : decode cX11_value 66 = .ok (.iaload, 1) := by decide +kernel
theorem dX11_value_67 : decode cX11_value 67 = .ok (.iconst 5, 1) := by decide +kernel
theorem dX11_value_68 : decode cX11_value 68 = .ok (.if_icmp .lt 15, 3) := by decide +kernel
theorem dX11_value_71 : decode cX11_value 71 = .ok (.aload_n 0, 1) := by decide +kernel
theorem dX11_value_72 : decode cX11_value 72 = .ok (.getfield 40, 3) := by decide +kernel
theorem dX11_value_75 : decode cX11_value 75 = .ok (.getfield 155, 3) := by decide +kernel
theorem dX11_value_78 : decode cX11_value 78 = .ok (.iload_n 1, 1) := by decide +kernel
theorem dX11_value_79 : decode cX11_value 79 = .ok (.iaload, 1) := by decide +kernel
theorem dX11_value_80 : decode cX11_value 80 = .ok (.goto 12, 3) := by decide +kernel
theorem dX11_value_83 : decode cX11_value 83 = .ok (.aload_n 0, 1) := by decide +kernel
theorem dX11_value_84 : decode cX11_value 84 = .ok (.getfield 40, 3) := by decide +kernel
theorem dX11_value_87 : decode cX11_value 87 = .ok (.getfield 158, 3) := by decide +kernel
theorem dX11_value_90 : decode cX11_value 90 = .ok (.iload_n 1, 1) := by decide +kernel
theorem dX11_value_91 : decode cX11_value 91 = .ok (.iaload, 1) := by decide +kernel
theorem dX11_value_92 : decode cX11_value 92 = .ok (.ireturn, 1) := by decide +kernel
theorem dX11_value_93 : decode cX11_value 93 = .ok (.aload_n 0, 1) := by decide +kernel
theorem dX11_value_94 : decode cX11_value 94 = .ok (.getfield 40, 3) := by decide +kernel
theorem dX11_value_97 : decode cX11_value 97 = .ok (.getfield 161, 3) := by decide +kernel
theorem dX11_value_100 : decode cX11_value 100 = .ok (.iload_n 1, 1) := by decide +kernel
theorem dX11_value_101 : decode cX11_value 101 = .ok (.iaload, 1) := by decide +kernel
theorem dX11_value_102 : decode cX11_value 102 = .ok (.ireturn, 1) := by decide +kernel
theorem dX11_value_103 : decode cX11_value 103 = .ok (.aload_n 0, 1) := by decide +kernel
theorem dX11_value_104 : decode cX11_value 104 = .ok (.getfield 40, 3) := by decide +kernel
theorem dX11_value_107 : decode cX11_value 107 = .ok (.getfield 164, 3) := by decide +kernel
theorem dX11_value_110 : decode cX11_value 110 = .ok (.iload_n 1, 1) := by decide +kernel
theorem dX11_value_111 : decode cX11_value 111 = .ok (.iaload, 1) := by decide +kernel
theorem dX11_value_112 : decode cX11_value 112 = .ok (.ireturn, 1) := by decide +kernel
theorem dX11_value_113 : decode cX11_value 113 = .ok (.aload_n 0, 1) := by decide +kernel
theorem dX11_value_114 : decode cX11_value 114 = .ok (.getfield 40, 3) := by decide +kernel
theorem dX11_value_117 : decode cX11_value 117 = .ok (.getfield 167, 3) := by decide +kernel
theorem dX11_value_120 : decode cX11_value 120 = .ok (.iload_n 1, 1) := by decide +kernel
theorem dX11_value_121 : decode cX11_value 121 = .ok (.iaload, 1) := by decide +kernel
theorem dX11_value_122 : decode cX11_value 122 = .ok (.ireturn, 1) := by decide +kernel
theorem dX11_value_123 : decode cX11_value 123 = .ok (.bipush (-2), 2) := by decide +kernel
theorem dX11_value_125 : decode cX11_value 125 = .ok (.ireturn, 1) := by decide +kernel
abbrev rmX11_value : Room := { frames := 1, cells := 0, slots := 0, locals := 21 }
set_option maxHeartbeats 4000000 in
set_option maxRecDepth 100000 in
theorem wP_X11_value {G : mG} {F : Nat} {x : mXT} {sz : Nat} {r0 : Int32} {M0 : mM} (X : mCX G RX11 cX11_value 3 (some .int) "value" rmX11_value x) (hQ : mQI x r0 M0 (sz, 0, 0)) {l0 : Nat} {l1 : Int32} {l2 : Int32} {M : mM} (h : P_X11_value G F l0 l1 l2 M = some (r0, M0)) : WW x (sz, 0, 0) M 0 [(0, .ref l0), (1, .int l1), (2, .int l2)] [] := by
  unfold P_X11_value at h
  refine ww_aload_n 0 X dX11_value_0 0 rfl rfl ?_
  obtain ⟨v1, e1, h⟩ := bO_some h
  refine ww_getR 1 X dX11_value_1 fG_X11_40 e1 ?_
  refine ww_iload_n 4 X dX11_value_4 1 rfl rfl ?_
  obtain ⟨_, f5, h⟩ := bO_some h
  obtain ⟨v5, M5, e5, h⟩ := bP_some h
  refine ww_callVI0 5 X dX11_value_5 mY_X9_has mL_X11_149 (rcv_spec f5) ⟨_, _, rfl⟩ (by decide) (As := [.int l1]) (rest := []) rfl rfl ⟨Nat.le_of_ble_eq_true rfl, Nat.le_of_ble_eq_true rfl⟩ (Nat.le_of_ble_eq_true rfl) (fun l D A => c_X9_has l D A e5) ?_
  refine ww_if_ne 8 14 X dX11_value_8 (by decide) (fun q => ?_) (fun q => ?_)
  · replace h := (if_neg q).symm.trans h
    refine ww_iload_n 14 X dX11_value_14 2 rfl rfl ?_
    by_cases q0 : l2 = (0 : Int32)
    · replace h := (if_pos q0).symm.trans h
      refine ww_tableIn 15 48 X dX11_value_15 (off := 33) (by rw [q0]; decide) (by rw [q0]; decide) (by rw [q0]; decide) (by decide) ?_
      refine ww_aload_n 48 X dX11_value_48 0 rfl rfl ?_
      obtain ⟨v49, e49, h⟩ := bO_some h
      refine ww_getR 49 X dX11_value_49 fG_X11_40 e49 ?_
      obtain ⟨v52, e52, h⟩ := bO_some h
      refine ww_getR 52 X dX11_value_52 fG_X11_152 e52 ?_
      refine ww_iload_n 55 X dX11_value_55 1 rfl rfl ?_
      obtain ⟨v56, e56, h⟩ := bO_some h
      refine ww_iald 56 X dX11_value_56 e56 ?_
      exact ww_iretE 57 X hQ dX11_value_57 h
    · replace h := (if_neg q0).symm.trans h
      by_cases q1 : l2 = (1 : Int32)
      · replace h := (if_pos q1).symm.trans h
        refine ww_tableIn 15 58 X dX11_value_15 (off := 43) (by rw [q1]; decide) (by rw [q1]; decide) (by rw [q1]; decide) (by decide) ?_
        refine ww_aload_n 58 X dX11_value_58 0 rfl rfl ?_
        obtain ⟨v59, e59, h⟩ := bO_some h
        refine ww_getR 59 X dX11_value_59 fG_X11_40 e59 ?_
        obtain ⟨v62, e62, h⟩ := bO_some h
        refine ww_getR 62 X dX11_value_62 fG_X11_152 e62 ?_
        refine ww_iload_n 65 X dX11_value_65 1 rfl rfl ?_
        obtain ⟨v66, e66, h⟩ := bO_some h
        refine ww_iald 66 X dX11_value_66 e66 ?_
        refine ww_iconst 67 X (v := (5 : Int32)) dX11_value_67 (by decide) ?_
        refine ww_icmp_lt 68 83 X dX11_value_68 (by decide) (fun q => ?_) (fun q => ?_)
        · replace h := (if_pos q).symm.trans h
          refine ww_aload_n 83 X dX11_value_83 0 rfl rfl ?_
          obtain ⟨v84, e84, h⟩ := bO_some h
          refine ww_getR 84 X dX11_value_84 fG_X11_40 e84 ?_
          obtain ⟨v87, e87, h⟩ := bO_some h
          refine ww_getR 87 X dX11_value_87 fG_X11_158 e87 ?_
          refine ww_iload_n 90 X dX11_value_90 1 rfl rfl ?_
          obtain ⟨v91, e91, h⟩ := bO_some h
          refine ww_iald 91 X dX11_value_91 e91 ?_
          exact ww_iretE 92 X hQ dX11_value_92 h
        · replace h := (if_neg q).symm.trans h
          refine ww_aload_n 71 X dX11_value_71 0 rfl rfl ?_
          obtain ⟨v72, e72, h⟩ := bO_some h
          refine ww_getR 72 X dX11_value_72 fG_X11_40 e72 ?_
          obtain ⟨v75, e75, h⟩ := bO_some h
          refine ww_getR 75 X dX11_value_75 fG_X11_155 e75 ?_
          refine ww_iload_n 78 X dX11_value_78 1 rfl rfl ?_
          obtain ⟨v79, e79, h⟩ := bO_some h
          refine ww_iald 79 X dX11_value_79 e79 ?_
          refine ww_goto 80 92 X dX11_value_80 (by decide) ?_
          exact ww_iretE 92 X hQ dX11_value_92 h
      · replace h := (if_neg q1).symm.trans h
        by_cases q2 : l2 = (2 : Int32)
        · replace h := (if_pos q2).symm.trans h
          refine ww_tableIn 15 93 X dX11_value_15 (off := 78) (by rw [q2]; decide) (by rw [q2]; decide) (by rw [q2]; decide) (by decide) ?_
          refine ww_aload_n 93 X dX11_value_93 0 rfl rfl ?_
          obtain ⟨v94, e94, h⟩ := bO_some h
          refine ww_getR 94 X dX11_value_94 fG_X11_40 e94 ?_
          obtain ⟨v97, e97, h⟩ := bO_some h
          refine ww_getR 97 X dX11_value_97 fG_X11_161 e97 ?_
          refine ww_iload_n 100 X dX11_value_100 1 rfl rfl ?_
          obtain ⟨v101, e101, h⟩ := bO_some h
          refine ww_iald 101 X dX11_value_101 e101 ?_
          exact ww_iretE 102 X hQ dX11_value_102 h
        · replace h := (if_neg q2).symm.trans h
          by_cases q3 : l2 = (3 : Int32)
          · replace h := (if_pos q3).symm.trans h
            refine ww_tableIn 15 103 X dX11_value_15 (off := 88) (by rw [q3]; decide) (by rw [q3]; decide) (by rw [q3]; decide) (by decide) ?_
            refine ww_aload_n 103 X dX11_value_103 0 rfl rfl ?_
            obtain ⟨v104, e104, h⟩ := bO_some h
            refine ww_getR 104 X dX11_value_104 fG_X11_40 e104 ?_
            obtain ⟨v107, e107, h⟩ := bO_some h
            refine ww_getR 107 X dX11_value_107 fG_X11_164 e107 ?_
            refine ww_iload_n 110 X dX11_value_110 1 rfl rfl ?_
            obtain ⟨v111, e111, h⟩ := bO_some h
            refine ww_iald 111 X dX11_value_111 e111 ?_
            exact ww_iretE 112 X hQ dX11_value_112 h
          · replace h := (if_neg q3).symm.trans h
            by_cases q4 : l2 = (4 : Int32)
            · replace h := (if_pos q4).symm.trans h
              refine ww_tableIn 15 113 X dX11_value_15 (off := 98) (by rw [q4]; decide) (by rw [q4]; decide) (by rw [q4]; decide) (by decide) ?_
              refine ww_aload_n 113 X dX11_value_113 0 rfl rfl ?_
              obtain ⟨v114, e114, h⟩ := bO_some h
              refine ww_getR 114 X dX11_value_114 fG_X11_40 e114 ?_
              obtain ⟨v117, e117, h⟩ := bO_some h
              refine ww_getR 117 X dX11_value_117 fG_X11_167 e117 ?_
              refine ww_iload_n 120 X dX11_value_120 1 rfl rfl ?_
              obtain ⟨v121, e121, h⟩ := bO_some h
              refine ww_iald 121 X dX11_value_121 e121 ?_
              exact ww_iretE 122 X hQ dX11_value_122 h
            · replace h := (if_neg q4).symm.trans h
              have z0 := lv_neT q0 (show (0 : Int32).toInt = 0 by decide)
              have z1 := lv_neT q1 (show (1 : Int32).toInt = 1 by decide)
              have z2 := lv_neT q2 (show (2 : Int32).toInt = 2 by decide)
              have z3 := lv_neT q3 (show (3 : Int32).toInt = 3 by decide)
              have z4 := lv_neT q4 (show (4 : Int32).toInt = 4 by decide)
              refine ww_tableOut 15 123 X dX11_value_15 (by omega) (by decide) ?_
              refine ww_bipush 123 X (v := (-2 : Int32)) dX11_value_123 (by decide) ?_
              exact ww_iretE 125 X hQ dX11_value_125 h
  · replace h := (if_pos q).symm.trans h
    refine ww_bipush 11 X (v := (-2 : Int32)) dX11_value_11 (by decide) ?_
    exact ww_iretE 13 X hQ dX11_value_13 h
theorem c_X11_value {G : mG} {F sz : Nat} {r0 : Int32} {M0 : mM} (l : Launch) (D : mD) (A : Nat → Prop) {l0 : Nat} {l1 : Int32} {l2 : Int32} {M : mM} (h : P_X11_value G F l0 l1 l2 M = some (r0, M0)) : mMetI l D G A yX11_value cX11_value 3 (some .int) 1 21 0 0 [.ref l0, .int l1, .int l2] M sz r0 M0 sz := mMetI_of l D G A (by decide) (Nat.le_of_ble_eq_true rfl) (fun x X hQ => wP_X11_value X hQ h)
/-! SealedTokens.show(LSealedTokens$Bytes;II)I -/
theorem dX11_show_0 : decode cX11_show 0 = .ok (.aload_n 0, 1) := by decide +kernel
theorem dX11_show_1 : decode cX11_show 1 = .ok (.getfield 22, 3) := by decide +kernel
theorem dX11_show_4 : decode cX11_show 4 = .ok (.invokevirtual 131, 3) := by decide +kernel
theorem dX11_show_7 : decode cX11_show 7 = .ok (.aload_n 0, 1) := by decide +kernel
theorem dX11_show_8 : decode cX11_show 8 = .ok (.getfield 22, 3) := by decide +kernel
theorem dX11_show_11 : decode cX11_show 11 = .ok (.aload_n 1, 1) := by decide +kernel
theorem dX11_show_12 : decode cX11_show 12 = .ok (.iload_n 2, 1) := by decide +kernel
theorem dX11_show_13 : decode cX11_show 13 = .ok (.iload_n 3, 1) := by decide +kernel
theorem dX11_show_14 : decode cX11_show 14 = .ok (.invokevirtual 385, 3) := by decide +kernel
theorem dX11_show_17 : decode cX11_show 17 = .ok (.aload_n 0, 1) := by decide +kernel
theorem dX11_show_18 : decode cX11_show 18 = .ok (.getfield 22, 3) := by decide +kernel
theorem dX11_show_21 : decode cX11_show 21 = .ok (.getfield 113, 3) := by decide +kernel
theorem dX11_show_24 : decode cX11_show 24 = .ok (.ireturn, 1) := by decide +kernel
abbrev rmX11_show : Room := { frames := 2, cells := 0, slots := 0, locals := 84 }
set_option maxHeartbeats 4000000 in
set_option maxRecDepth 100000 in
theorem wP_X11_show {G : mG} {F : Nat} {x : mXT} {sz : Nat} {r0 : Int32} {M0 : mM} (X : mCX G RX11 cX11_show 4 (some .int) "show" rmX11_show x) (hQ : mQI x r0 M0 (sz, 0, 0)) {l0 : Nat} {l1 : Nat} {l2 : Int32} {l3 : Int32} {M : mM} (h : P_X11_show G F l0 l1 l2 l3 M = some (r0, M0)) : WW x (sz, 0, 0) M 0 [(0, .ref l0), (1, .ref l1), (2, .int l2), (3, .int l3)] [] := by
  unfold P_X11_show at h
  refine ww_aload_n 0 X dX11_show_0 0 rfl rfl ?_
  obtain ⟨v1, e1, h⟩ := bO_some h
  refine ww_getR 1 X dX11_show_1 fG_X11_22 e1 ?_
  obtain ⟨_, f4, h⟩ := bO_some h
  obtain ⟨M4, e4, h⟩ := bO_some h
  refine ww_callVV0 4 X dX11_show_4 mY_X0_clear mL_X11_131 (rcv_spec f4) ⟨_, _, rfl⟩ (by decide) (As := []) (rest := []) rfl rfl ⟨Nat.le_of_ble_eq_true rfl, Nat.le_of_ble_eq_true rfl⟩ (Nat.le_of_ble_eq_true rfl) (fun l D A => c_X0_clear l D A e4) ?_
  refine ww_aload_n 7 X dX11_show_7 0 rfl rfl ?_
  obtain ⟨v8, e8, h⟩ := bO_some h
  refine ww_getR 8 X dX11_show_8 fG_X11_22 e8 ?_
  refine ww_aload_n 11 X dX11_show_11 1 rfl rfl ?_
  refine ww_iload_n 12 X dX11_show_12 2 rfl rfl ?_
  refine ww_iload_n 13 X dX11_show_13 3 rfl rfl ?_
  obtain ⟨_, f14, h⟩ := bO_some h
  obtain ⟨M14, e14, h⟩ := bO_some h
  refine ww_callVV0 14 X dX11_show_14 mY_X0_putPart mL_X11_385 (rcv_spec f14) ⟨_, _, rfl⟩ (by decide) (As := [.ref l1, .int l2, .int l3]) (rest := []) rfl rfl ⟨Nat.le_of_ble_eq_true rfl, Nat.le_of_ble_eq_true rfl⟩ (Nat.le_of_ble_eq_true rfl) (fun l D A => c_X0_putPart l D A e14) ?_
  refine ww_aload_n 17 X dX11_show_17 0 rfl rfl ?_
  obtain ⟨v18, e18, h⟩ := bO_some h
  refine ww_getR 18 X dX11_show_18 fG_X11_22 e18 ?_
  obtain ⟨v21, e21, h⟩ := bO_some h
  refine ww_getI 21 X dX11_show_21 fG_X11_113 e21 ?_
  exact ww_iretE 24 X hQ dX11_show_24 h
theorem c_X11_show {G : mG} {F sz : Nat} {r0 : Int32} {M0 : mM} (l : Launch) (D : mD) (A : Nat → Prop) {l0 : Nat} {l1 : Nat} {l2 : Int32} {l3 : Int32} {M : mM} (h : P_X11_show G F l0 l1 l2 l3 M = some (r0, M0)) : mMetI l D G A yX11_show cX11_show 4 (some .int) 2 84 0 0 [.ref l0, .ref l1, .int l2, .int l3] M sz r0 M0 sz := mMetI_of l D G A (by decide) (Nat.le_of_ble_eq_true rfl) (fun x X hQ => wP_X11_show X hQ h)
