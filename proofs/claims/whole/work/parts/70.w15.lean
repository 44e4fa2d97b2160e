/-! SealedTokensModel.multiply(II)I -/
theorem dX13_multiply_0 : decode cX13_multiply 0 = .ok (.iload_n 1, 1) := by decide +kernel
theorem dX13_multiply_1 : decode cX13_multiply 1 = .ok (.invokestatic 332, 3) := by decide +kernel
theorem dX13_multiply_4 : decode cX13_multiply 4 = .ok (.ifCond .eq 37, 3) := by decide +kernel
theorem dX13_multiply_7 : decode cX13_multiply 7 = .ok (.aload_n 0, 1) := by decide +kernel
theorem dX13_multiply_8 : decode cX13_multiply 8 = .ok (.getfield 17, 3) := by decide +kernel
theorem dX13_multiply_11 : decode cX13_multiply 11 = .ok (.iload_n 1, 1) := by decide +kernel
theorem dX13_multiply_12 : decode cX13_multiply 12 = .ok (.iaload, 1) := by decide +kernel
theorem dX13_multiply_13 : decode cX13_multiply 13 = .ok (.bipush 32, 2) := by decide +kernel
theorem dX13_multiply_15 : decode cX13_multiply 15 = .ok (.if_icmp .ne 26, 3) := by decide +kernel
theorem dX13_multiply_18 : decode cX13_multiply 18 = .ok (.iload_n 2, 1) := by decide +kernel
theorem dX13_multiply_19 : decode cX13_multiply 19 = .ok (.iconst (-1), 1) := by decide +kernel
theorem dX13_multiply_20 : decode cX13_multiply 20 = .ok (.if_icmp .eq 24, 3) := by decide +kernel
theorem dX13_multiply_23 : decode cX13_multiply 23 = .ok (.iload_n 2, 1) := by decide +kernel
theorem dX13_multiply_24 : decode cX13_multiply 24 = .ok (.invokestatic 332, 3) := by decide +kernel
theorem dX13_multiply_27 : decode cX13_multiply 27 = .ok (.ifCond .eq 14, 3) := by decide +kernel
theorem dX13_multiply_30 : decode cX13_multiply 30 = .ok (.aload_n 0, 1) := by decide +kernel
theorem dX13_multiply_31 : decode cX13_multiply 31 = .ok (.getfield 17, 3) := by decide +kernel
theorem dX13_multiply_34 : decode cX13_multiply 34 = .ok (.iload_n 2, 1) := by decide +kernel
theorem dX13_multiply_35 : decode cX13_multiply 35 = .ok (.iaload, 1) := by decide +kernel
theorem dX13_multiply_36 : decode cX13_multiply 36 = .ok (.bipush 64, 2) := by decide +kernel
theorem dX13_multiply_38 : decode cX13_multiply 38 = .ok (.if_icmp .eq 6, 3) := by decide +kernel
theorem dX13_multiply_41 : decode cX13_multiply 41 = .ok (.bipush (-2), 2) := by decide +kernel
theorem dX13_multiply_43 : decode cX13_multiply 43 = .ok (.ireturn, 1) := by decide +kernel
theorem dX13_multiply_44 : decode cX13_multiply 44 = .ok (.iload_n 2, 1) := by decide +kernel
theorem dX13_multiply_45 : decode cX13_multiply 45 = .ok (.iconst (-1), 1) := by decide +kernel
theorem dX13_multiply_46 : decode cX13_multiply 46 = .ok (.if_icmp .ne 15, 3) := by decide +kernel
theorem dX13_multiply_49 : decode cX13_multiply 49 = .ok (.aload_n 0, 1) := by decide +kernel
theorem dX13_multiply_50 : decode cX13_multiply 50 = .ok (.aload_n 0, 1) := by decide +kernel
theorem dX13_multiply_51 : decode cX13_multiply 51 = .ok (.getfield 147, 3) := by decide +kernel
theorem dX13_multiply_54 : decode cX13_multiply 54 = .ok (.iconst 0, 1) := by decide +kernel
theorem dX13_multiply_55 : decode cX13_multiply 55 = .ok (.invokevirtual 766, 3) := by decide +kernel
theorem dX13_multiply_58 : decode cX13_multiply 58 = .ok (.goto 16, 3) := by decide +kernel
theorem dX13_multiply_61 : decode cX13_multiply 61 = .ok (.aload_n 0, 1) := by decide +kernel
theorem dX13_multiply_62 : decode cX13_multiply 62 = .ok (.aload_n 0, 1) := by decide +kernel
theorem dX13_multiply_63 : decode cX13_multiply 63 = .ok (.getfield 14, 3) := by decide +kernel
theorem dX13_multiply_66 : decode cX13_multiply 66 = .ok (.sipush 8192, 3) := by decide +kernel
theorem dX13_multiply_69 : decode cX13_multiply 69 = .ok (.iload_n 2, 1) := by decide +kernel
theorem dX13_multiply_70 : decode cX13_multiply 70 = .ok (.imul, 1) := by decide +kernel
theorem dX13_multiply_71 : decode cX13_multiply 71 = .ok (.invokevirtual 766, 3) := by decide +kernel
theorem dX13_multiply_74 : decode cX13_multiply 74 = .ok (.istore_n 3, 1) := by decide +kernel
theorem dX13_multiply_75 : decode cX13_multiply 75 = .ok (.iload_n 3, 1) := by decide +kernel
theorem dX13_multiply_76 : decode cX13_multiply 76 = .ok (.ifCond .ne 6, 3) := by decide +kernel
theorem dX13_multiply_79 : decode cX13_multiply 79 = .ok (.bipush (-2), 2) := by decide +kernel
theorem dX13_multiply_81 : decode cX13_multiply 81 = .ok (.ireturn, 1) := by decide +kernel
theorem dX13_multiply_82 : decode cX13_multiply 82 = .ok (.aload_n 0, 1) := by decide +kernel
theorem dX13_multiply_83 : decode cX13_multiply 83 = .ok (.aload_n 0, 1) := by decide +kernel
theorem dX13_multiply_84 : decode cX13_multiply 84 = .ok (.getfield 14, 3) := by decide +kernel
theorem dX13_multiply_87 : decode cX13_multiply 87 = .ok (.sipush 8192, 3) := by decide +kernel
theorem dX13_multiply_90 : decode cX13_multiply 90 = .ok (.iload_n 1, 1) := by decide +kernel
theorem dX13_multiply_91 : decode cX13_multiply 91 = .ok (.imul, 1) := by decide +kernel
theorem dX13_multiply_92 : decode cX13_multiply 92 = .ok (.invokevirtual 770, 3) := by decide +kernel
theorem dX13_multiply_95 : decode cX13_multiply 95 = .ok (.aload_n 0, 1) := by decide +kernel
theorem dX13_multiply_96 : decode cX13_multiply 96 = .ok (.aload_n 0, 1) := by decide +kernel
theorem dX13_multiply_97 : decode cX13_multiply 97 = .ok (.getfield 186, 3) := by decide +kernel
theorem dX13_multiply_100 : decode cX13_multiply 100 = .ok (.iconst 0, 1) := by decide +kernel
theorem dX13_multiply_101 : decode cX13_multiply 101 = .ok (.invokevirtual 772, 3) := by decide +kernel
theorem dX13_multiply_104 : decode cX13_multiply 104 = .ok (.ifCond .eq 17, 3) := by decide +kernel
theorem dX13_multiply_107 : decode cX13_multiply 107 = .ok (.aload_n 0, 1) := by decide +kernel
theorem dX13_multiply_108 : decode cX13_multiply 108 = .ok (.aload_n 0, 1) := by decide +kernel
theorem dX13_multiply_109 : decode cX13_multiply 109 = .ok (.getfield 186, 3) := by decide +kernel
theorem dX13_multiply_112 : decode cX13_multiply 112 = .ok (.iconst 0, 1) := by decide +kernel
theorem dX13_multiply_113 : decode cX13_multiply 113 = .ok (.bipush 64, 2) := by decide +kernel
theorem dX13_multiply_115 : decode cX13_multiply 115 = .ok (.invokevirtual 463, 3) := by decide +kernel
theorem dX13_multiply_118 : decode cX13_multiply 118 = .ok (.goto 4, 3) := by decide +kernel
theorem dX13_multiply_121 : decode cX13_multiply 121 = .ok (.iconst (-1), 1) := by decide +kernel
theorem dX13_multiply_122 : decode cX13_multiply 122 = .ok (.ireturn, 1) := by decide +kernel
abbrev rmX13_multiply : Room := { frames := 5, cells := 0, slots := 0, locals := 123 }
set_option maxHeartbeats 4000000 in
set_option maxRecDepth 100000 in
theorem wB_X13_multiply_74 {G : mG} {F : Nat} {x : mXT} {sz : Nat} {r0 : Int32} {M0 : mM} (X : mCX G RX13 cX13_multiply 4 (some .int) "multiply" rmX13_multiply x) (hQ : mQI x r0 M0 (sz, 0, 0)) {l0 : Nat} {l1 : Int32} {sk0 : Int32} {M : mM} (h : B_X13_multiply_74 G F l0 l1 sk0 M = some (r0, M0)) : WW x (sz, 0, 0) M 74 [(0, .ref l0), (1, .int l1)] [.int sk0] := by
  unfold B_X13_multiply_74 at h
  refine ww_istore_n 74 X dX13_multiply_74 (lv' := [(0, .ref l0), (1, .int l1), (3, .int sk0)]) rfl (by decide) [1, 2, 0] rfl ?_
  refine ww_iload_n 75 X dX13_multiply_75 2 rfl rfl ?_
  refine ww_if_ne 76 82 X dX13_multiply_76 (by decide) (fun q => ?_) (fun q => ?_)
  · replace h := (if_neg q).symm.trans h
    refine ww_aload_n 82 X dX13_multiply_82 0 rfl rfl ?_
    refine ww_aload_n 83 X dX13_multiply_83 0 rfl rfl ?_
    obtain ⟨v84, e84, h⟩ := bO_some h
    refine ww_getR 84 X dX13_multiply_84 fG_X13_14 e84 ?_
    refine ww_sipush 87 X (v := (8192 : Int32)) dX13_multiply_87 (by decide) ?_
    refine ww_iload_n 90 X dX13_multiply_90 1 rfl rfl ?_
    refine ww_imul 91 X dX13_multiply_91 ?_
    obtain ⟨_, f92, h⟩ := bO_some h
    obtain ⟨M92, e92, h⟩ := bO_some h
    refine ww_callVV0 92 X dX13_multiply_92 mY_X13_times_ mL_X13_770 (rcv_spec f92) ⟨_, _, rfl⟩ (by decide) (As := [.ref v84, .int ((8192 : Int32) * l1)]) (rest := []) rfl rfl ⟨Nat.le_of_ble_eq_true rfl, Nat.le_of_ble_eq_true rfl⟩ (Nat.le_of_ble_eq_true rfl) (fun l D A => c_X13_times_ l D A e92) ?_
    refine ww_aload_n 95 X dX13_multiply_95 0 rfl rfl ?_
    refine ww_aload_n 96 X dX13_multiply_96 0 rfl rfl ?_
    obtain ⟨v97, e97, h⟩ := bO_some h
    refine ww_getR 97 X dX13_multiply_97 fG_X13_186 e97 ?_
    refine ww_iconst 100 X (v := (0 : Int32)) dX13_multiply_100 (by decide) ?_
    obtain ⟨_, f101, h⟩ := bO_some h
    obtain ⟨v101, M101, e101, h⟩ := bP_some h
    refine ww_callVI0 101 X dX13_multiply_101 mY_X13_getPoint mL_X13_772 (rcv_spec f101) ⟨_, _, rfl⟩ (by decide) (As := [.ref v97, .int (0 : Int32)]) (rest := []) rfl rfl ⟨Nat.le_of_ble_eq_true rfl, Nat.le_of_ble_eq_true rfl⟩ (Nat.le_of_ble_eq_true rfl) (fun l D A => c_X13_getPoint l D A e101) ?_
    refine ww_if_eq 104 121 X dX13_multiply_104 (by decide) (fun q => ?_) (fun q => ?_)
    · replace h := (if_pos q).symm.trans h
      refine ww_iconst 121 X (v := (-1 : Int32)) dX13_multiply_121 (by decide) ?_
      exact ww_iretE 122 X hQ dX13_multiply_122 h
    · replace h := (if_neg q).symm.trans h
      refine ww_aload_n 107 X dX13_multiply_107 0 rfl rfl ?_
      refine ww_aload_n 108 X dX13_multiply_108 0 rfl rfl ?_
      obtain ⟨v109, e109, h⟩ := bO_some h
      refine ww_getR 109 X dX13_multiply_109 fG_X13_186 e109 ?_
      refine ww_iconst 112 X (v := (0 : Int32)) dX13_multiply_112 (by decide) ?_
      refine ww_bipush 113 X (v := (64 : Int32)) dX13_multiply_113 (by decide) ?_
      obtain ⟨_, f115, h⟩ := bO_some h
      obtain ⟨v115, M115, e115, h⟩ := bP_some h
      refine ww_callVI0 115 X dX13_multiply_115 mY_X13_tell mL_X13_463 (rcv_spec f115) ⟨_, _, rfl⟩ (by decide) (As := [.ref v109, .int (0 : Int32), .int (64 : Int32)]) (rest := []) rfl rfl ⟨Nat.le_of_ble_eq_true rfl, Nat.le_of_ble_eq_true rfl⟩ (Nat.le_of_ble_eq_true rfl) (fun l D A => c_X13_tell l D A e115) ?_
      refine ww_goto 118 122 X dX13_multiply_118 (by decide) ?_
      exact ww_iretE 122 X hQ dX13_multiply_122 h
  · replace h := (if_pos q).symm.trans h
    refine ww_bipush 79 X (v := (-2 : Int32)) dX13_multiply_79 (by decide) ?_
    exact ww_iretE 81 X hQ dX13_multiply_81 h
set_option maxHeartbeats 4000000 in
set_option maxRecDepth 100000 in
theorem wB_X13_multiply_44 {G : mG} {F : Nat} {x : mXT} {sz : Nat} {r0 : Int32} {M0 : mM} (X : mCX G RX13 cX13_multiply 4 (some .int) "multiply" rmX13_multiply x) (hQ : mQI x r0 M0 (sz, 0, 0)) {l0 : Nat} {l1 : Int32} {l2 : Int32} {M : mM} (h : B_X13_multiply_44 G F l0 l1 l2 M = some (r0, M0)) : WW x (sz, 0, 0) M 44 [(0, .ref l0), (1, .int l1), (2, .int l2)] [] := by
  unfold B_X13_multiply_44 at h
  refine ww_iload_n 44 X dX13_multiply_44 2 rfl rfl ?_
  refine ww_iconst 45 X (v := (-1 : Int32)) dX13_multiply_45 (by decide) ?_
  refine ww_icmp_ne 46 61 X dX13_multiply_46 (by decide) (fun q => ?_) (fun q => ?_)
  · replace h := (if_neg q).symm.trans h
    refine ww_aload_n 61 X dX13_multiply_61 0 rfl rfl ?_
    refine ww_aload_n 62 X dX13_multiply_62 0 rfl rfl ?_
    obtain ⟨v63, e63, h⟩ := bO_some h
    refine ww_getR 63 X dX13_multiply_63 fG_X13_14 e63 ?_
    refine ww_sipush 66 X (v := (8192 : Int32)) dX13_multiply_66 (by decide) ?_
    refine ww_iload_n 69 X dX13_multiply_69 2 rfl rfl ?_
    refine ww_imul 70 X dX13_multiply_70 ?_
    obtain ⟨_, f71, h⟩ := bO_some h
    obtain ⟨v71, M71, e71, h⟩ := bP_some h
    refine ww_callVI0 71 X dX13_multiply_71 mY_X13_setPoint mL_X13_766 (rcv_spec f71) ⟨_, _, rfl⟩ (by decide) (As := [.ref v63, .int ((8192 : Int32) * l2)]) (rest := []) rfl rfl ⟨Nat.le_of_ble_eq_true rfl, Nat.le_of_ble_eq_true rfl⟩ (Nat.le_of_ble_eq_true rfl) (fun l D A => c_X13_setPoint l D A e71) ?_
    exact ww_sub [0, 1] rfl (wB_X13_multiply_74 X hQ h)
  · replace h := (if_pos q).symm.trans h
    refine ww_aload_n 49 X dX13_multiply_49 0 rfl rfl ?_
    refine ww_aload_n 50 X dX13_multiply_50 0 rfl rfl ?_
    obtain ⟨v51, e51, h⟩ := bO_some h
    refine ww_getR 51 X dX13_multiply_51 fG_X13_147 e51 ?_
    refine ww_iconst 54 X (v := (0 : Int32)) dX13_multiply_54 (by decide) ?_
    obtain ⟨_, f55, h⟩ := bO_some h
    obtain ⟨v55, M55, e55, h⟩ := bP_some h
    refine ww_callVI0 55 X dX13_multiply_55 mY_X13_setPoint mL_X13_766 (rcv_spec f55) ⟨_, _, rfl⟩ (by decide) (As := [.ref v51, .int (0 : Int32)]) (rest := []) rfl rfl ⟨Nat.le_of_ble_eq_true rfl, Nat.le_of_ble_eq_true rfl⟩ (Nat.le_of_ble_eq_true rfl) (fun l D A => c_X13_setPoint l D A e55) ?_
    refine ww_goto 58 74 X dX13_multiply_58 (by decide) ?_
    exact ww_sub [0, 1] rfl (wB_X13_multiply_74 X hQ h)
set_option maxHeartbeats 4000000 in
set_option maxRecDepth 100000 in
theorem wP_X13_multiply {G : mG} {F : Nat} {x : mXT} {sz : Nat} {r0 : Int32} {M0 : mM} (X : mCX G RX13 cX13_multiply 4 (some .int) "multiply" rmX13_multiply x) (hQ : mQI x r0 M0 (sz, 0, 0)) {l0 : Nat} {l1 : Int32} {l2 : Int32} {M : mM} (h : P_X13_multiply G F l0 l1 l2 M = some (r0, M0)) : WW x (sz, 0, 0) M 0 [(0, .ref l0), (1, .int l1), (2, .int l2)] [] := by
  unfold P_X13_multiply at h
  refine ww_iload_n 0 X dX13_multiply_0 1 rfl rfl ?_
  obtain ⟨v1, M1, e1, h⟩ := bP_some h
  refine ww_callSI0 1 X dX13_multiply_1 mY_X13_isRow mL_X13_332 (As := [.int l1]) (rest := []) rfl rfl ⟨Nat.le_of_ble_eq_true rfl, Nat.le_of_ble_eq_true rfl⟩ (Nat.le_of_ble_eq_true rfl) (fun l D A => c_X13_isRow l D A e1) ?_
  refine ww_if_eq 4 41 X dX13_multiply_4 (by decide) (fun q => ?_) (fun q => ?_)
  · replace h := (if_pos q).symm.trans h
    refine ww_bipush 41 X (v := (-2 : Int32)) dX13_multiply_41 (by decide) ?_
    exact ww_iretE 43 X hQ dX13_multiply_43 h
  · replace h := (if_neg q).symm.trans h
    refine ww_aload_n 7 X dX13_multiply_7 0 rfl rfl ?_
    obtain ⟨v8, e8, h⟩ := bO_some h
    refine ww_getR 8 X dX13_multiply_8 fG_X13_17 e8 ?_
    refine ww_iload_n 11 X dX13_multiply_11 1 rfl rfl ?_
    obtain ⟨v12, e12, h⟩ := bO_some h
    refine ww_iald 12 X dX13_multiply_12 e12 ?_
    refine ww_bipush 13 X (v := (32 : Int32)) dX13_multiply_13 (by decide) ?_
    refine ww_icmp_ne 15 41 X dX13_multiply_15 (by decide) (fun q => ?_) (fun q => ?_)
    · replace h := (if_neg q).symm.trans h
      refine ww_bipush 41 X (v := (-2 : Int32)) dX13_multiply_41 (by decide) ?_
      exact ww_iretE 43 X hQ dX13_multiply_43 h
    · replace h := (if_pos q).symm.trans h
      refine ww_iload_n 18 X dX13_multiply_18 2 rfl rfl ?_
      refine ww_iconst 19 X (v := (-1 : Int32)) dX13_multiply_19 (by decide) ?_
      refine ww_icmp_eq 20 44 X dX13_multiply_20 (by decide) (fun q => ?_) (fun q => ?_)
      · replace h := (if_pos q).symm.trans h
        exact (wB_X13_multiply_44 X hQ h)
      · replace h := (if_neg q).symm.trans h
        refine ww_iload_n 23 X dX13_multiply_23 2 rfl rfl ?_
        obtain ⟨v24, M24, e24, h⟩ := bP_some h
        refine ww_callSI0 24 X dX13_multiply_24 mY_X13_isRow mL_X13_332 (As := [.int l2]) (rest := []) rfl rfl ⟨Nat.le_of_ble_eq_true rfl, Nat.le_of_ble_eq_true rfl⟩ (Nat.le_of_ble_eq_true rfl) (fun l D A => c_X13_isRow l D A e24) ?_
        refine ww_if_eq 27 41 X dX13_multiply_27 (by decide) (fun q => ?_) (fun q => ?_)
        · replace h := (if_pos q).symm.trans h
          refine ww_bipush 41 X (v := (-2 : Int32)) dX13_multiply_41 (by decide) ?_
          exact ww_iretE 43 X hQ dX13_multiply_43 h
        · replace h := (if_neg q).symm.trans h
          refine ww_aload_n 30 X dX13_multiply_30 0 rfl rfl ?_
          obtain ⟨v31, e31, h⟩ := bO_some h
          refine ww_getR 31 X dX13_multiply_31 fG_X13_17 e31 ?_
          refine ww_iload_n 34 X dX13_multiply_34 2 rfl rfl ?_
          obtain ⟨v35, e35, h⟩ := bO_some h
          refine ww_iald 35 X dX13_multiply_35 e35 ?_
          refine ww_bipush 36 X (v := (64 : Int32)) dX13_multiply_36 (by decide) ?_
          refine ww_icmp_eq 38 44 X dX13_multiply_38 (by decide) (fun q => ?_) (fun q => ?_)
          · replace h := (if_pos q).symm.trans h
            exact (wB_X13_multiply_44 X hQ h)
          · replace h := (if_neg q).symm.trans h
            refine ww_bipush 41 X (v := (-2 : Int32)) dX13_multiply_41 (by decide) ?_
            exact ww_iretE 43 X hQ dX13_multiply_43 h
theorem c_X13_multiply {G : mG} {F sz : Nat} {r0 : Int32} {M0 : mM} (l : Launch) (D : mD) (A : Nat → Prop) {l0 : Nat} {l1 : Int32} {l2 : Int32} {M : mM} (h : P_X13_multiply G F l0 l1 l2 M = some (r0, M0)) : mMetI l D G A yX13_multiply cX13_multiply 4 (some .int) 5 123 0 0 [.ref l0, .int l1, .int l2] M sz r0 M0 sz := mMetI_of l D G A (by decide) (Nat.le_of_ble_eq_true rfl) (fun x X hQ => wP_X13_multiply X hQ h)
/-! SealedTokensModel.isSecret([BI)Z -/
theorem dX13_isSecret_0 : decode cX13_isSecret 0 = .ok (.aload_n 0, 1) := by decide +kernel
theorem dX13_isSecret_1 : decode cX13_isSecret 1 = .ok (.getfield 129, 3) := by decide +kernel
theorem dX13_isSecret_4 : decode cX13_isSecret 4 = .ok (.aload_n 1, 1) := by decide +kernel
theorem dX13_isSecret_5 : decode cX13_isSecret 5 = .ok (.iload_n 2, 1) := by decide +kernel
theorem dX13_isSecret_6 : decode cX13_isSecret 6 = .ok (.bipush 32, 2) := by decide +kernel
theorem dX13_isSecret_8 : decode cX13_isSecret 8 = .ok (.aload_n 0, 1) := by decide +kernel
theorem dX13_isSecret_9 : decode cX13_isSecret 9 = .ok (.getfield 132, 3) := by decide +kernel
theorem dX13_isSecret_12 : decode cX13_isSecret 12 = .ok (.invokevirtual 726, 3) := by decide +kernel
theorem dX13_isSecret_15 : decode cX13_isSecret 15 = .ok (.aload_n 0, 1) := by decide +kernel
theorem dX13_isSecret_16 : decode cX13_isSecret 16 = .ok (.getfield 129, 3) := by decide +kernel
theorem dX13_isSecret_19 : decode cX13_isSecret 19 = .ok (.aload_n 0, 1) := by decide +kernel
theorem dX13_isSecret_20 : decode cX13_isSecret 20 = .ok (.getfield 132, 3) := by decide +kernel
theorem dX13_isSecret_23 : decode cX13_isSecret 23 = .ok (.invokevirtual 749, 3) := by decide +kernel
theorem dX13_isSecret_26 : decode cX13_isSecret 26 = .ok (.ifCond .ne 28, 3) := by decide +kernel
theorem dX13_isSecret_29 : decode cX13_isSecret 29 = .ok (.aload_n 0, 1) := by decide +kernel
theorem dX13_isSecret_30 : decode cX13_isSecret 30 = .ok (.getfield 129, 3) := by decide +kernel
theorem dX13_isSecret_33 : decode cX13_isSecret 33 = .ok (.aload_n 0, 1) := by decide +kernel
theorem dX13_isSecret_34 : decode cX13_isSecret 34 = .ok (.getfield 132, 3) := by decide +kernel
theorem dX13_isSecret_37 : decode cX13_isSecret 37 = .ok (.aload_n 0, 1) := by decide +kernel
theorem dX13_isSecret_38 : decode cX13_isSecret 38 = .ok (.getfield 129, 3) := by decide +kernel
theorem dX13_isSecret_41 : decode cX13_isSecret 41 = .ok (.getfield 729, 3) := by decide +kernel
theorem dX13_isSecret_44 : decode cX13_isSecret 44 = .ok (.invokevirtual 732, 3) := by decide +kernel
theorem dX13_isSecret_47 : decode cX13_isSecret 47 = .ok (.ifCond .ge 7, 3) := by decide +kernel
theorem dX13_isSecret_50 : decode cX13_isSecret 50 = .ok (.iconst 1, 1) := by decide +kernel
theorem dX13_isSecret_51 : decode cX13_isSecret 51 = .ok (.goto 4, 3) := by decide +kernel
theorem dX13_isSecret_54 : decode cX13_isSecret 54 = .ok (.iconst 0, 1) := by decide +kernel
theorem dX13_isSecret_55 : decode cX13_isSecret 55 = .ok (.ireturn, 1) := by decide +kernel
abbrev rmX13_isSecret : Room := { frames := 1, cells := 0, slots := 0, locals := 25 }
set_option maxHeartbeats 4000000 in
set_option maxRecDepth 100000 in
theorem wP_X13_isSecret {G : mG} {F : Nat} {x : mXT} {sz : Nat} {r0 : Int32} {M0 : mM} (X : mCX G RX13 cX13_isSecret 3 (some .boolean) "isSecret" rmX13_isSecret x) (hQ : mQI x r0 M0 (sz, 0, 0)) {l0 : Nat} {l1 : Nat} {l2 : Int32} {M : mM} (h : P_X13_isSecret G F l0 l1 l2 M = some (r0, M0)) : WW x (sz, 0, 0) M 0 [(0, .ref l0), (1, .ref l1), (2, .int l2)] [] := by
  unfold P_X13_isSecret at h
  refine ww_aload_n 0 X dX13_isSecret_0 0 rfl rfl ?_
  obtain ⟨v1, e1, h⟩ := bO_some h
  refine ww_getR 1 X dX13_isSecret_1 fG_X13_129 e1 ?_
  refine ww_aload_n 4 X dX13_isSecret_4 1 rfl rfl ?_
  refine ww_iload_n 5 X dX13_isSecret_5 2 rfl rfl ?_
  refine ww_bipush 6 X (v := (32 : Int32)) dX13_isSecret_6 (by decide) ?_
  refine ww_aload_n 8 X dX13_isSecret_8 0 rfl rfl ?_
  obtain ⟨v9, e9, h⟩ := bO_some h
  refine ww_getR 9 X dX13_isSecret_9 fG_X13_132 e9 ?_
  obtain ⟨_, f12, h⟩ := bO_some h
  obtain ⟨M12, e12, h⟩ := bO_some h
  refine ww_callVV0 12 X dX13_isSecret_12 mY_X12_load mL_X13_726 (rcv_spec f12) ⟨_, _, rfl⟩ (by decide) (As := [.ref l1, .int l2, .int (32 : Int32), .ref v9]) (rest := []) rfl rfl ⟨Nat.le_of_ble_eq_true rfl, Nat.le_of_ble_eq_true rfl⟩ (Nat.le_of_ble_eq_true rfl) (fun l D A => c_X12_load l D A e12) ?_
  refine ww_aload_n 15 X dX13_isSecret_15 0 rfl rfl ?_
  obtain ⟨v16, e16, h⟩ := bO_some h
  refine ww_getR 16 X dX13_isSecret_16 fG_X13_129 e16 ?_
  refine ww_aload_n 19 X dX13_isSecret_19 0 rfl rfl ?_
  obtain ⟨v20, e20, h⟩ := bO_some h
  refine ww_getR 20 X dX13_isSecret_20 fG_X13_132 e20 ?_
  obtain ⟨_, f23, h⟩ := bO_some h
  obtain ⟨v23, M23, e23, h⟩ := bP_some h
  refine ww_callVI0 23 X dX13_isSecret_23 mY_X12_isZero mL_X13_749 (rcv_spec f23) ⟨_, _, rfl⟩ (by decide) (As := [.ref v20]) (rest := []) rfl rfl ⟨Nat.le_of_ble_eq_true rfl, Nat.le_of_ble_eq_true rfl⟩ (Nat.le_of_ble_eq_true rfl) (fun l D A => c_X12_isZero l D A e23) ?_
  refine ww_if_ne 26 54 X dX13_isSecret_26 (by decide) (fun q => ?_) (fun q => ?_)
  · replace h := (if_neg q).symm.trans h
    refine ww_iconst 54 X (v := (0 : Int32)) dX13_isSecret_54 (by decide) ?_
    exact ww_zretE 55 X hQ dX13_isSecret_55 h
  · replace h := (if_pos q).symm.trans h
    refine ww_aload_n 29 X dX13_isSecret_29 0 rfl rfl ?_
    obtain ⟨v30, e30, h⟩ := bO_some h
    refine ww_getR 30 X dX13_isSecret_30 fG_X13_129 e30 ?_
    refine ww_aload_n 33 X dX13_isSecret_33 0 rfl rfl ?_
    obtain ⟨v34, e34, h⟩ := bO_some h
    refine ww_getR 34 X dX13_isSecret_34 fG_X13_132 e34 ?_
    refine ww_aload_n 37 X dX13_isSecret_37 0 rfl rfl ?_
    obtain ⟨v38, e38, h⟩ := bO_some h
    refine ww_getR 38 X dX13_isSecret_38 fG_X13_129 e38 ?_
    obtain ⟨v41, e41, h⟩ := bO_some h
    refine ww_getR 41 X dX13_isSecret_41 fG_X13_729 e41 ?_
    obtain ⟨_, f44, h⟩ := bO_some h
    obtain ⟨v44, M44, e44, h⟩ := bP_some h
    refine ww_callVI0 44 X dX13_isSecret_44 mY_X12_order mL_X13_732 (rcv_spec f44) ⟨_, _, rfl⟩ (by decide) (As := [.ref v34, .ref v41]) (rest := []) rfl rfl ⟨Nat.le_of_ble_eq_true rfl, Nat.le_of_ble_eq_true rfl⟩ (Nat.le_of_ble_eq_true rfl) (fun l D A => c_X12_order l D A e44) ?_
    refine ww_if_ge 47 54 X dX13_isSecret_47 (by decide) (fun q => ?_) (fun q => ?_)
    · replace h := (if_pos q).symm.trans h
      refine ww_iconst 54 X (v := (0 : Int32)) dX13_isSecret_54 (by decide) ?_
      exact ww_zretE 55 X hQ dX13_isSecret_55 h
    · replace h := (if_neg q).symm.trans h
      refine ww_iconst 50 X (v := (1 : Int32)) dX13_isSecret_50 (by decide) ?_
      refine ww_goto 51 55 X dX13_isSecret_51 (by decide) ?_
      exact ww_zretE 55 X hQ dX13_isSecret_55 h
theorem c_X13_isSecret {G : mG} {F sz : Nat} {r0 : Int32} {M0 : mM} (l : Launch) (D : mD) (A : Nat → Prop) {l0 : Nat} {l1 : Nat} {l2 : Int32} {M : mM} (h : P_X13_isSecret G F l0 l1 l2 M = some (r0, M0)) : mMetI l D G A yX13_isSecret cX13_isSecret 3 (some .boolean) 1 25 0 0 [.ref l0, .ref l1, .int l2] M sz r0 M0 sz := mMetI_of l D G A (by decide) (Nat.le_of_ble_eq_true rfl) (fun x X hQ => wP_X13_isSecret X hQ h)
/-! SealedTokensModel.deriveIt([BII[BII[BII[BIII)V -/
theorem dX13_deriveIt_0 : decode cX13_deriveIt 0 = .ok (.iconst 0, 1) := by decide +kernel
theorem dX13_deriveIt_1 : decode cX13_deriveIt 1 = .ok (.istore 14, 2) := by decide +kernel
theorem dX13_deriveIt_3 : decode cX13_deriveIt 3 = .ok (.bipush 32, 2) := by decide +kernel
theorem dX13_deriveIt_5 : decode cX13_deriveIt 5 = .ok (.iload 14, 2) := by decide +kernel
theorem dX13_deriveIt_7 : decode cX13_deriveIt 7 = .ok (.imul, 1) := by decide +kernel
theorem dX13_deriveIt_8 : decode cX13_deriveIt 8 = .ok (.iload 13, 2) := by decide +kernel
theorem dX13_deriveIt_10 : decode cX13_deriveIt 10 = .ok (.if_icmp .ge 148, 3) := by decide +kernel
theorem dX13_deriveIt_13 : decode cX13_deriveIt 13 = .ok (.aload_n 0, 1) := by decide +kernel
theorem dX13_deriveIt_14 : decode cX13_deriveIt 14 = .ok (.invokevirtual 570, 3) := by decide +kernel
theorem dX13_deriveIt_17 : decode cX13_deriveIt 17 = .ok (.aload_n 0, 1) := by decide +kernel
theorem dX13_deriveIt_18 : decode cX13_deriveIt 18 = .ok (.iload 14, 2) := by decide +kernel
theorem dX13_deriveIt_20 : decode cX13_deriveIt 20 = .ok (.iconst 1, 1) := by decide +kernel
theorem dX13_deriveIt_21 : decode cX13_deriveIt 21 = .ok (.iadd, 1) := by decide +kernel
theorem dX13_deriveIt_22 : decode cX13_deriveIt 22 = .ok (.i2l, 1) := by decide +kernel
theorem dX13_deriveIt_23 : decode cX13_deriveIt 23 = .ok (.iconst 4, 1) := by decide +kernel
theorem dX13_deriveIt_24 : decode cX13_deriveIt 24 = .ok (.invokevirtual 514, 3) := by decide +kernel
theorem dX13_deriveIt_27 : decode cX13_deriveIt 27 = .ok (.aload_n 0, 1) := by decide +kernel
theorem dX13_deriveIt_28 : decode cX13_deriveIt 28 = .ok (.aload_n 1, 1) := by decide +kernel
theorem dX13_deriveIt_29 : decode cX13_deriveIt 29 = .ok (.iload_n 2, 1) := by decide +kernel
theorem dX13_deriveIt_30 : decode cX13_deriveIt 30 = .ok (.iload_n 3, 1) := by decide +kernel
theorem dX13_deriveIt_31 : decode cX13_deriveIt 31 = .ok (.invokevirtual 573, 3) := by decide +kernel
theorem dX13_deriveIt_34 : decode cX13_deriveIt 34 = .ok (.aload_n 0, 1) := by decide +kernel
theorem dX13_deriveIt_35 : decode cX13_deriveIt 35 = .ok (.iload 6, 2) := by decide +kernel
theorem dX13_deriveIt_37 : decode cX13_deriveIt 37 = .ok (.i2l, 1) := by decide +kernel
theorem dX13_deriveIt_38 : decode cX13_deriveIt 38 = .ok (.iconst 4, 1) := by decide +kernel
theorem dX13_deriveIt_39 : decode cX13_deriveIt 39 = .ok (.invokevirtual 514, 3) := by decide +kernel
theorem dX13_deriveIt_42 : decode cX13_deriveIt 42 = .ok (.aload_n 0, 1) := by decide +kernel
theorem dX13_deriveIt_43 : decode cX13_deriveIt 43 = .ok (.aload 4, 2) := by decide +kernel
theorem dX13_deriveIt_45 : decode cX13_deriveIt 45 = .ok (.iload 5, 2) := by decide +kernel
theorem dX13_deriveIt_47 : decode cX13_deriveIt 47 = .ok (.iload 6, 2) := by decide +kernel
theorem dX13_deriveIt_49 : decode cX13_deriveIt 49 = .ok (.invokevirtual 573, 3) := by decide +kernel
theorem dX13_deriveIt_52 : decode cX13_deriveIt 52 = .ok (.aload_n 0, 1) := by decide +kernel
theorem dX13_deriveIt_53 : decode cX13_deriveIt 53 = .ok (.iload 9, 2) := by decide +kernel
theorem dX13_deriveIt_55 : decode cX13_deriveIt 55 = .ok (.i2l, 1) := by decide +kernel
theorem dX13_deriveIt_56 : decode cX13_deriveIt 56 = .ok (.iconst 4, 1) := by decide +kernel
theorem dX13_deriveIt_57 : decode cX13_deriveIt 57 = .ok (.invokevirtual 514, 3) := by decide +kernel
theorem dX13_deriveIt_60 : decode cX13_deriveIt 60 = .ok (.aload_n 0, 1) := by decide +kernel
theorem dX13_deriveIt_61 : decode cX13_deriveIt 61 = .ok (.aload 7, 2) := by decide +kernel
theorem dX13_deriveIt_63 : decode cX13_deriveIt 63 = .ok (.iload 8, 2) := by decide +kernel
theorem dX13_deriveIt_65 : decode cX13_deriveIt 65 = .ok (.iload 9, 2) := by decide +kernel
theorem dX13_deriveIt_67 : decode cX13_deriveIt 67 = .ok (.invokevirtual 573, 3) := by decide +kernel
theorem dX13_deriveIt_70 : decode cX13_deriveIt 70 = .ok (.aload_n 0, 1) := by decide +kernel
theorem dX13_deriveIt_71 : decode cX13_deriveIt 71 = .ok (.iload 12, 2) := by decide +kernel
theorem dX13_deriveIt_73 : decode cX13_deriveIt 73 = .ok (.i2l, 1) := by decide +kernel
theorem dX13_deriveIt_74 : decode cX13_deriveIt 74 = .ok (.iconst 4, 1) := by decide +kernel
theorem dX13_deriveIt_75 : decode cX13_deriveIt 75 = .ok (.invokevirtual 514, 3) := by decide +kernel
theorem dX13_deriveIt_78 : decode cX13_deriveIt 78 = .ok (.aload_n 0, 1) := by decide +kernel
theorem dX13_deriveIt_79 : decode cX13_deriveIt 79 = .ok (.aload 10, 2) := by decide +kernel
theorem dX13_deriveIt_81 : decode cX13_deriveIt 81 = .ok (.iload 11, 2) := by decide +kernel
theorem dX13_deriveIt_83 : decode cX13_deriveIt 83 = .ok (.iload 12, 2) := by decide +kernel
theorem dX13_deriveIt_85 : decode cX13_deriveIt 85 = .ok (.invokevirtual 573, 3) := by decide +kernel
theorem dX13_deriveIt_88 : decode cX13_deriveIt 88 = .ok (.aload_n 0, 1) := by decide +kernel
theorem dX13_deriveIt_89 : decode cX13_deriveIt 89 = .ok (.ldc2_w 510, 3) := by decide +kernel
theorem dX13_deriveIt_92 : decode cX13_deriveIt 92 = .ok (.iload 13, 2) := by decide +kernel
theorem dX13_deriveIt_94 : decode cX13_deriveIt 94 = .ok (.i2l, 1) := by decide +kernel
theorem dX13_deriveIt_95 : decode cX13_deriveIt 95 = .ok (.lmul, 1) := by decide +kernel
theorem dX13_deriveIt_96 : decode cX13_deriveIt 96 = .ok (.iconst 4, 1) := by decide +kernel
theorem dX13_deriveIt_97 : decode cX13_deriveIt 97 = .ok (.invokevirtual 514, 3) := by decide +kernel
theorem dX13_deriveIt_100 : decode cX13_deriveIt 100 = .ok (.aload_n 0, 1) := by decide +kernel
theorem dX13_deriveIt_101 : decode cX13_deriveIt 101 = .ok (.sipush 256, 3) := by decide +kernel
theorem dX13_deriveIt_104 : decode cX13_deriveIt 104 = .ok (.invokevirtual 576, 3) := by decide +kernel
theorem dX13_deriveIt_107 : decode cX13_deriveIt 107 = .ok (.istore 15, 2) := by decide +kernel
theorem dX13_deriveIt_109 : decode cX13_deriveIt 109 = .ok (.aload_n 0, 1) := by decide +kernel
theorem dX13_deriveIt_110 : decode cX13_deriveIt 110 = .ok (.getfield 76, 3) := by decide +kernel
theorem dX13_deriveIt_113 : decode cX13_deriveIt 113 = .ok (.iconst 0, 1) := by decide +kernel
theorem dX13_deriveIt_114 : decode cX13_deriveIt 114 = .ok (.aload_n 0, 1) := by decide +kernel
theorem dX13_deriveIt_115 : decode cX13_deriveIt 115 = .ok (.getfield 189, 3) := by decide +kernel
theorem dX13_deriveIt_118 : decode cX13_deriveIt 118 = .ok (.bipush 32, 2) := by decide +kernel
theorem dX13_deriveIt_120 : decode cX13_deriveIt 120 = .ok (.iload 14, 2) := by decide +kernel
theorem dX13_deriveIt_122 : decode cX13_deriveIt 122 = .ok (.imul, 1) := by decide +kernel
theorem dX13_deriveIt_123 : decode cX13_deriveIt 123 = .ok (.iload 13, 2) := by decide +kernel
theorem dX13_deriveIt_125 : decode cX13_deriveIt 125 = .ok (.bipush 32, 2) := by decide +kernel
theorem dX13_deriveIt_127 : decode cX13_deriveIt 127 = .ok (.iload 14, 2) := by decide +kernel
theorem dX13_deriveIt_129 : decode cX13_deriveIt 129 = .ok (.imul, 1) := by decide +kernel
theorem dX13_deriveIt_130 : decode cX13_deriveIt 130 = .ok (.isub, 1) := by decide +kernel
theorem dX13_deriveIt_131 : decode cX13_deriveIt 131 = .ok (.bipush 32, 2) := by decide +kernel
theorem dX13_deriveIt_133 : decode cX13_deriveIt 133 = .ok (.if_icmp .ge 14, 3) := by decide +kernel
theorem dX13_deriveIt_136 : decode cX13_deriveIt 136 = .ok (.iload 13, 2) := by decide +kernel
theorem dX13_deriveIt_138 : decode cX13_deriveIt 138 = .ok (.bipush 32, 2) := by decide +kernel
theorem dX13_deriveIt_140 : decode cX13_deriveIt 140 = .ok (.iload 14, 2) := by decide +kernel
theorem dX13_deriveIt_142 : decode cX13_deriveIt 142 = .ok (.imul, 1) := by decide +kernel
theorem dX13_deriveIt_143 : decode cX13_deriveIt 143 = .ok (.isub, 1) := by decide +kernel
theorem dX13_deriveIt_144 : decode cX13_deriveIt 144 = .ok (.goto 5, 3) := by decide +kernel
theorem dX13_deriveIt_147 : decode cX13_deriveIt 147 = .ok (.bipush 32, 2) := by decide +kernel
theorem dX13_deriveIt_149 : decode cX13_deriveIt 149 = .ok (.invokestatic 317, 3) := by decide +kernel
theorem dX13_deriveIt_152 : decode cX13_deriveIt 152 = .ok (.iinc 14 1, 3) := by decide +kernel
theorem dX13_deriveIt_155 : decode cX13_deriveIt 155 = .ok (.goto (-152), 3) := by decide +kernel
theorem dX13_deriveIt_158 : decode cX13_deriveIt 158 = .ok (.return_, 1) := by decide +kernel
abbrev rmX13_deriveIt : Room := { frames := 5, cells := 0, slots := 0, locals := 116 }
set_option maxHeartbeats 4000000 in
set_option maxRecDepth 100000 in
theorem wB_X13_deriveIt_3 {G : mG} {F : Nat} {x : mXT} {sz : Nat} {M0 : mM} (X : mCX G RX13 cX13_deriveIt 16 none "deriveIt" rmX13_deriveIt x) (hQ : mQV x M0 (sz, 0, 0)) : ∀ (n : Nat) (l0 : Nat) (l1 : Nat) (l2 : Int32) (l3 : Int32) (l4 : Nat) (l5 : Int32) (l6 : Int32) (l7 : Nat) (l8 : Int32) (l9 : Int32) (l10 : Nat) (l11 : Int32) (l12 : Int32) (l13 : Int32) (l14 : Int32) (M : mM), B_X13_deriveIt_3 G F n l0 l1 l2 l3 l4 l5 l6 l7 l8 l9 l10 l11 l12 l13 l14 M = some M0 → WW x (sz, 0, 0) M 3 [(0, .ref l0), (1, .ref l1), (2, .int l2), (3, .int l3), (4, .ref l4), (5, .int l5), (6, .int l6), (7, .ref l7), (8, .int l8), (9, .int l9), (10, .ref l10), (11, .int l11), (12, .int l12), (13, .int l13), (14, .int l14)] [] := by
  intro n
  induction n with
  | zero =>
    intro l0 l1 l2 l3 l4 l5 l6 l7 l8 l9 l10 l11 l12 l13 l14 M h
    exact nomatch (show (none : Option mM) = some M0 from h)
  | succ n ih =>
    intro l0 l1 l2 l3 l4 l5 l6 l7 l8 l9 l10 l11 l12 l13 l14 M h
    rw [B_X13_deriveIt_3] at h
    refine ww_bipush 3 X (v := (32 : Int32)) dX13_deriveIt_3 (by decide) ?_
    refine ww_iload 5 X dX13_deriveIt_5 14 rfl ?_
    refine ww_imul 7 X dX13_deriveIt_7 ?_
    refine ww_iload 8 X dX13_deriveIt_8 13 rfl ?_
    refine ww_icmp_ge 10 158 X dX13_deriveIt_10 (by decide) (fun q => ?_) (fun q => ?_)
    · replace h := (if_pos q).symm.trans h
      exact ww_vretE 158 X hQ dX13_deriveIt_158 h
    · replace h := (if_neg q).symm.trans h
      refine ww_aload_n 13 X dX13_deriveIt_13 0 rfl rfl ?_
      obtain ⟨_, f14, h⟩ := bO_some h
      obtain ⟨M14, e14, h⟩ := bO_some h
      refine ww_callVV0 14 X dX13_deriveIt_14 mY_X13_empty mL_X13_570 (rcv_spec f14) ⟨_, _, rfl⟩ (by decide) (As := []) (rest := []) rfl rfl ⟨Nat.le_of_ble_eq_true rfl, Nat.le_of_ble_eq_true rfl⟩ (Nat.le_of_ble_eq_true rfl) (fun l D A => c_X13_empty l D A e14) ?_
      refine ww_aload_n 17 X dX13_deriveIt_17 0 rfl rfl ?_
      refine ww_iload 18 X dX13_deriveIt_18 14 rfl ?_
      refine ww_iconst 20 X (v := (1 : Int32)) dX13_deriveIt_20 (by decide) ?_
      refine ww_iadd 21 X dX13_deriveIt_21 ?_
      refine ww_i2l 22 X dX13_deriveIt_22 ?_
      refine ww_iconst 23 X (v := (4 : Int32)) dX13_deriveIt_23 (by decide) ?_
      obtain ⟨_, f24, h⟩ := bO_some h
      obtain ⟨M24, e24, h⟩ := bO_some h
      refine ww_callVV0 24 X dX13_deriveIt_24 mY_X13_layNumber mL_X13_514 (rcv_spec f24) ⟨_, _, rfl⟩ (by decide) (As := [.long ((l14 + (1 : Int32)).toInt64), .int (4 : Int32)]) (rest := []) rfl rfl ⟨Nat.le_of_ble_eq_true rfl, Nat.le_of_ble_eq_true rfl⟩ (Nat.le_of_ble_eq_true rfl) (fun l D A => c_X13_layNumber l D A e24) ?_
      refine ww_aload_n 27 X dX13_deriveIt_27 0 rfl rfl ?_
      refine ww_aload_n 28 X dX13_deriveIt_28 1 rfl rfl ?_
      refine ww_iload_n 29 X dX13_deriveIt_29 2 rfl rfl ?_
      refine ww_iload_n 30 X dX13_deriveIt_30 3 rfl rfl ?_
      obtain ⟨_, f31, h⟩ := bO_some h
      obtain ⟨M31, e31, h⟩ := bO_some h
      refine ww_callVV0 31 X dX13_deriveIt_31 mY_X13_lay mL_X13_573 (rcv_spec f31) ⟨_, _, rfl⟩ (by decide) (As := [.ref l1, .int l2, .int l3]) (rest := []) rfl rfl ⟨Nat.le_of_ble_eq_true rfl, Nat.le_of_ble_eq_true rfl⟩ (Nat.le_of_ble_eq_true rfl) (fun l D A => c_X13_lay l D A e31) ?_
      refine ww_aload_n 34 X dX13_deriveIt_34 0 rfl rfl ?_
      refine ww_iload 35 X dX13_deriveIt_35 6 rfl ?_
      refine ww_i2l 37 X dX13_deriveIt_37 ?_
      refine ww_iconst 38 X (v := (4 : Int32)) dX13_deriveIt_38 (by decide) ?_
      obtain ⟨_, f39, h⟩ := bO_some h
      obtain ⟨M39, e39, h⟩ := bO_some h
      refine ww_callVV0 39 X dX13_deriveIt_39 mY_X13_layNumber mL_X13_514 (rcv_spec f39) ⟨_, _, rfl⟩ (by decide) (As := [.long (l6.toInt64), .int (4 : Int32)]) (rest := []) rfl rfl ⟨Nat.le_of_ble_eq_true rfl, Nat.le_of_ble_eq_true rfl⟩ (Nat.le_of_ble_eq_true rfl) (fun l D A => c_X13_layNumber l D A e39) ?_
      refine ww_aload_n 42 X dX13_deriveIt_42 0 rfl rfl ?_
      refine ww_aload 43 X dX13_deriveIt_43 4 rfl ?_
      refine ww_iload 45 X dX13_deriveIt_45 5 rfl ?_
      refine ww_iload 47 X dX13_deriveIt_47 6 rfl ?_
      obtain ⟨_, f49, h⟩ := bO_some h
      obtain ⟨M49, e49, h⟩ := bO_some h
      refine ww_callVV0 49 X dX13_deriveIt_49 mY_X13_lay mL_X13_573 (rcv_spec f49) ⟨_, _, rfl⟩ (by decide) (As := [.ref l4, .int l5, .int l6]) (rest := []) rfl rfl ⟨Nat.le_of_ble_eq_true rfl, Nat.le_of_ble_eq_true rfl⟩ (Nat.le_of_ble_eq_true rfl) (fun l D A => c_X13_lay l D A e49) ?_
      refine ww_aload_n 52 X dX13_deriveIt_52 0 rfl rfl ?_
      refine ww_iload 53 X dX13_deriveIt_53 9 rfl ?_
      refine ww_i2l 55 X dX13_deriveIt_55 ?_
      refine ww_iconst 56 X (v := (4 : Int32)) dX13_deriveIt_56 (by decide) ?_
      obtain ⟨_, f57, h⟩ := bO_some h
      obtain ⟨M57, e57, h⟩ := bO_some h
      refine ww_callVV0 57 X dX13_deriveIt_57 mY_X13_layNumber mL_X13_514 (rcv_spec f57) ⟨_, _, rfl⟩ (by decide) (As := [.long (l9.toInt64), .int (4 : Int32)]) (rest := []) rfl rfl ⟨Nat.le_of_ble_eq_true rfl, Nat.le_of_ble_eq_true rfl⟩ (Nat.le_of_ble_eq_true rfl) (fun l D A => c_X13_layNumber l D A e57) ?_
      refine ww_aload_n 60 X dX13_deriveIt_60 0 rfl rfl ?_
      refine ww_aload 61 X dX13_deriveIt_61 7 rfl ?_
      refine ww_iload 63 X dX13_deriveIt_63 8 rfl ?_
      refine ww_iload 65 X dX13_deriveIt_65 9 rfl ?_
      obtain ⟨_, f67, h⟩ := bO_some h
      obtain ⟨M67, e67, h⟩ := bO_some h
      refine ww_callVV0 67 X dX13_deriveIt_67 mY_X13_lay mL_X13_573 (rcv_spec f67) ⟨_, _, rfl⟩ (by decide) (As := [.ref l7, .int l8, .int l9]) (rest := []) rfl rfl ⟨Nat.le_of_ble_eq_true rfl, Nat.le_of_ble_eq_true rfl⟩ (Nat.le_of_ble_eq_true rfl) (fun l D A => c_X13_lay l D A e67) ?_
      refine ww_aload_n 70 X dX13_deriveIt_70 0 rfl rfl ?_
      refine ww_iload 71 X dX13_deriveIt_71 12 rfl ?_
      refine ww_i2l 73 X dX13_deriveIt_73 ?_
      refine ww_iconst 74 X (v := (4 : Int32)) dX13_deriveIt_74 (by decide) ?_
      obtain ⟨_, f75, h⟩ := bO_some h
      obtain ⟨M75, e75, h⟩ := bO_some h
      refine ww_callVV0 75 X dX13_deriveIt_75 mY_X13_layNumber mL_X13_514 (rcv_spec f75) ⟨_, _, rfl⟩ (by decide) (As := [.long (l12.toInt64), .int (4 : Int32)]) (rest := []) rfl rfl ⟨Nat.le_of_ble_eq_true rfl, Nat.le_of_ble_eq_true rfl⟩ (Nat.le_of_ble_eq_true rfl) (fun l D A => c_X13_layNumber l D A e75) ?_
      refine ww_aload_n 78 X dX13_deriveIt_78 0 rfl rfl ?_
      refine ww_aload 79 X dX13_deriveIt_79 10 rfl ?_
      refine ww_iload 81 X dX13_deriveIt_81 11 rfl ?_
      refine ww_iload 83 X dX13_deriveIt_83 12 rfl ?_
      obtain ⟨_, f85, h⟩ := bO_some h
      obtain ⟨M85, e85, h⟩ := bO_some h
      refine ww_callVV0 85 X dX13_deriveIt_85 mY_X13_lay mL_X13_573 (rcv_spec f85) ⟨_, _, rfl⟩ (by decide) (As := [.ref l10, .int l11, .int l12]) (rest := []) rfl rfl ⟨Nat.le_of_ble_eq_true rfl, Nat.le_of_ble_eq_true rfl⟩ (Nat.le_of_ble_eq_true rfl) (fun l D A => c_X13_lay l D A e85) ?_
      refine ww_aload_n 88 X dX13_deriveIt_88 0 rfl rfl ?_
      refine ww_ldc2 89 X (v := (8 : Int64)) dX13_deriveIt_89 kL_X13_510 ?_
      refine ww_iload 92 X dX13_deriveIt_92 13 rfl ?_
      refine ww_i2l 94 X dX13_deriveIt_94 ?_
      refine ww_lmul 95 X dX13_deriveIt_95 ?_
      refine ww_iconst 96 X (v := (4 : Int32)) dX13_deriveIt_96 (by decide) ?_
      obtain ⟨_, f97, h⟩ := bO_some h
      obtain ⟨M97, e97, h⟩ := bO_some h
      refine ww_callVV0 97 X dX13_deriveIt_97 mY_X13_layNumber mL_X13_514 (rcv_spec f97) ⟨_, _, rfl⟩ (by decide) (As := [.long ((8 : Int64) * (l13.toInt64)), .int (4 : Int32)]) (rest := []) rfl rfl ⟨Nat.le_of_ble_eq_true rfl, Nat.le_of_ble_eq_true rfl⟩ (Nat.le_of_ble_eq_true rfl) (fun l D A => c_X13_layNumber l D A e97) ?_
      refine ww_aload_n 100 X dX13_deriveIt_100 0 rfl rfl ?_
      refine ww_sipush 101 X (v := (256 : Int32)) dX13_deriveIt_101 (by decide) ?_
      obtain ⟨_, f104, h⟩ := bO_some h
      obtain ⟨v104, M104, e104, h⟩ := bP_some h
      refine ww_callVI0 104 X dX13_deriveIt_104 mY_X13_digestOf mL_X13_576 (rcv_spec f104) ⟨_, _, rfl⟩ (by decide) (As := [.int (256 : Int32)]) (rest := []) rfl rfl ⟨Nat.le_of_ble_eq_true rfl, Nat.le_of_ble_eq_true rfl⟩ (Nat.le_of_ble_eq_true rfl) (fun l D A => c_X13_digestOf l D A e104) ?_
      refine ww_istore 107 X dX13_deriveIt_107 (lv' := [(0, .ref l0), (1, .ref l1), (2, .int l2), (3, .int l3), (4, .ref l4), (5, .int l5), (6, .int l6), (7, .ref l7), (8, .int l8), (9, .int l9), (10, .ref l10), (11, .int l11), (12, .int l12), (13, .int l13), (14, .int l14), (15, .int v104)]) (by decide) [1, 2, 3, 4, 5, 6, 7, 8, 9, 10, 11, 12, 13, 14, 15, 0] rfl ?_
      refine ww_aload_n 109 X dX13_deriveIt_109 0 rfl rfl ?_
      obtain ⟨v110, e110, h⟩ := bO_some h
      refine ww_getR 110 X dX13_deriveIt_110 fG_X13_76 e110 ?_
      refine ww_iconst 113 X (v := (0 : Int32)) dX13_deriveIt_113 (by decide) ?_
      refine ww_aload_n 114 X dX13_deriveIt_114 0 rfl rfl ?_
      obtain ⟨v115, e115, h⟩ := bO_some h
      refine ww_getR 115 X dX13_deriveIt_115 fG_X13_189 e115 ?_
      refine ww_bipush 118 X (v := (32 : Int32)) dX13_deriveIt_118 (by decide) ?_
      refine ww_iload 120 X dX13_deriveIt_120 14 rfl ?_
      refine ww_imul 122 X dX13_deriveIt_122 ?_
      refine ww_iload 123 X dX13_deriveIt_123 13 rfl ?_
      refine ww_bipush 125 X (v := (32 : Int32)) dX13_deriveIt_125 (by decide) ?_
      refine ww_iload 127 X dX13_deriveIt_127 14 rfl ?_
      refine ww_imul 129 X dX13_deriveIt_129 ?_
      refine ww_isub 130 X dX13_deriveIt_130 ?_
      refine ww_bipush 131 X (v := (32 : Int32)) dX13_deriveIt_131 (by decide) ?_
      refine ww_icmp_ge 133 147 X dX13_deriveIt_133 (by decide) (fun q => ?_) (fun q => ?_)
      · replace h := (if_pos q).symm.trans h
        refine ww_bipush 147 X (v := (32 : Int32)) dX13_deriveIt_147 (by decide) ?_
        obtain ⟨M149, e149, h⟩ := bO_some h
        refine ww_callSV0 149 X dX13_deriveIt_149 mY_X13_move mL_X13_317 (As := [.ref v110, .int (0 : Int32), .ref v115, .int ((32 : Int32) * l14), .int (32 : Int32)]) (rest := []) rfl rfl ⟨Nat.le_of_ble_eq_true rfl, Nat.le_of_ble_eq_true rfl⟩ (Nat.le_of_ble_eq_true rfl) (fun l D A => c_X13_move l D A e149) ?_
        refine ww_iinc 152 X dX13_deriveIt_152 (lv' := [(0, .ref l0), (1, .ref l1), (2, .int l2), (3, .int l3), (4, .ref l4), (5, .int l5), (6, .int l6), (7, .ref l7), (8, .int l8), (9, .int l9), (10, .ref l10), (11, .int l11), (12, .int l12), (13, .int l13), (14, .int (l14 + 1)), (15, .int v104)]) 14 rfl rfl (by decide) [1, 2, 3, 4, 5, 6, 7, 8, 9, 10, 11, 12, 13, 14, 0, 15] rfl ?_
        refine ww_goto 155 3 X dX13_deriveIt_155 (by decide) ?_
        exact ww_sub [0, 1, 2, 3, 4, 5, 6, 7, 8, 9, 10, 11, 12, 13, 14] rfl (ih _ _ _ _ _ _ _ _ _ _ _ _ _ _ _ _ h)
      · replace h := (if_neg q).symm.trans h
        refine ww_iload 136 X dX13_deriveIt_136 13 rfl ?_
        refine ww_bipush 138 X (v := (32 : Int32)) dX13_deriveIt_138 (by decide) ?_
        refine ww_iload 140 X dX13_deriveIt_140 14 rfl ?_
        refine ww_imul 142 X dX13_deriveIt_142 ?_
        refine ww_isub 143 X dX13_deriveIt_143 ?_
        refine ww_goto 144 149 X dX13_deriveIt_144 (by decide) ?_
        obtain ⟨M149, e149, h⟩ := bO_some h
        refine ww_callSV0 149 X dX13_deriveIt_149 mY_X13_move mL_X13_317 (As := [.ref v110, .int (0 : Int32), .ref v115, .int ((32 : Int32) * l14), .int (l13 - ((32 : Int32) * l14))]) (rest := []) rfl rfl ⟨Nat.le_of_ble_eq_true rfl, Nat.le_of_ble_eq_true rfl⟩ (Nat.le_of_ble_eq_true rfl) (fun l D A => c_X13_move l D A e149) ?_
        refine ww_iinc 152 X dX13_deriveIt_152 (lv' := [(0, .ref l0), (1, .ref l1), (2, .int l2), (3, .int l3), (4, .ref l4), (5, .int l5), (6, .int l6), (7, .ref l7), (8, .int l8), (9, .int l9), (10, .ref l10), (11, .int l11), (12, .int l12), (13, .int l13), (14, .int (l14 + 1)), (15, .int v104)]) 14 rfl rfl (by decide) [1, 2, 3, 4, 5, 6, 7, 8, 9, 10, 11, 12, 13, 14, 0, 15] rfl ?_
        refine ww_goto 155 3 X dX13_deriveIt_155 (by decide) ?_
        exact ww_sub [0, 1, 2, 3, 4, 5, 6, 7, 8, 9, 10, 11, 12, 13, 14] rfl (ih _ _ _ _ _ _ _ _ _ _ _ _ _ _ _ _ h)
set_option maxHeartbeats 4000000 in
set_option maxRecDepth 100000 in
theorem wP_X13_deriveIt {G : mG} {F : Nat} {x : mXT} {sz : Nat} {M0 : mM} (X : mCX G RX13 cX13_deriveIt 16 none "deriveIt" rmX13_deriveIt x) (hQ : mQV x M0 (sz, 0, 0)) {l0 : Nat} {l1 : Nat} {l2 : Int32} {l3 : Int32} {l4 : Nat} {l5 : Int32} {l6 : Int32} {l7 : Nat} {l8 : Int32} {l9 : Int32} {l10 : Nat} {l11 : Int32} {l12 : Int32} {l13 : Int32} {M : mM} (h : P_X13_deriveIt G F l0 l1 l2 l3 l4 l5 l6 l7 l8 l9 l10 l11 l12 l13 M = some M0) : WW x (sz, 0, 0) M 0 [(0, .ref l0), (1, .ref l1), (2, .int l2), (3, .int l3), (4, .ref l4), (5, .int l5), (6, .int l6), (7, .ref l7), (8, .int l8), (9, .int l9), (10, .ref l10), (11, .int l11), (12, .int l12), (13, .int l13)] [] := by
  unfold P_X13_deriveIt at h
  refine ww_iconst 0 X (v := (0 : Int32)) dX13_deriveIt_0 (by decide) ?_
  refine ww_istore 1 X dX13_deriveIt_1 (lv' := [(0, .ref l0), (1, .ref l1), (2, .int l2), (3, .int l3), (4, .ref l4), (5, .int l5), (6, .int l6), (7, .ref l7), (8, .int l8), (9, .int l9), (10, .ref l10), (11, .int l11), (12, .int l12), (13, .int l13), (14, .int (0 : Int32))]) (by decide) [1, 2, 3, 4, 5, 6, 7, 8, 9, 10, 11, 12, 13, 14, 0] rfl ?_
  exact (wB_X13_deriveIt_3 X hQ F _ _ _ _ _ _ _ _ _ _ _ _ _ _ _ _ h)
theorem c_X13_deriveIt {G : mG} {F sz : Nat} {M0 : mM} (l : Launch) (D : mD) (A : Nat → Prop) {l0 : Nat} {l1 : Nat} {l2 : Int32} {l3 : Int32} {l4 : Nat} {l5 : Int32} {l6 : Int32} {l7 : Nat} {l8 : Int32} {l9 : Int32} {l10 : Nat} {l11 : Int32} {l12 : Int32} {l13 : Int32} {M : mM} (h : P_X13_deriveIt G F l0 l1 l2 l3 l4 l5 l6 l7 l8 l9 l10 l11 l12 l13 M = some M0) : mMetV l D G A yX13_deriveIt cX13_deriveIt 16 none 5 116 0 0 [.ref l0, .ref l1, .int l2, .int l3, .ref l4, .int l5, .int l6, .ref l7, .int l8, .int l9, .ref l10, .int l11, .int l12, .int l13] M sz M0 sz := mMetV_of l D G A (by decide) (Nat.le_of_ble_eq_true rfl) (fun x X hQ => wP_X13_deriveIt X hQ h)
/-! SealedTokensModel.derive(IIIII)I -/
theorem dX13_derive_0 : decode cX13_derive 0 = .ok (.iload_n 1, 1) := by decide +kernel
theorem dX13_derive_1 : decode cX13_derive 1 = .ok (.invokestatic 332, 3) := by decide +kernel
theorem dX13_derive_4 : decode cX13_derive 4 = .ok (.ifCond .eq 46, 3) := by decide +kernel
theorem dX13_derive_7 : decode cX13_derive 7 = .ok (.iload_n 2, 1) := by decide +kernel
theorem dX13_derive_8 : decode cX13_derive 8 = .ok (.invokestatic 332, 3) := by decide +kernel
theorem dX13_derive_11 : decode cX13_derive 11 = .ok (.ifCond .eq 39, 3) := by decide +kernel
theorem dX13_derive_14 : decode cX13_derive 14 = .ok (.iload_n 3, 1) := by decide +kernel
theorem dX13_derive_15 : decode cX13_derive 15 = .ok (.invokestatic 332, 3) := by decide +kernel
theorem dX13_derive_18 : decode cX13_derive 18 = .ok (.ifCond .eq 32, 3) := by decide +kernel
theorem dX13_derive_21 : decode cX13_derive 21 = .ok (.iload 4, 2) := by decide +kernel
theorem dX13_derive_23 : decode cX13_derive 23 = .ok (.invokestatic 332, 3) := by decide +kernel
theorem dX13_derive_26 : decode cX13_derive 26 = .ok (.ifCond .eq 24, 3) := by decide +kernel
theorem dX13_derive_29 : decode cX13_derive 29 = .ok (.iload 5, 2) := by decide +kernel
theorem dX13_derive_31 : decode cX13_derive 31 = .ok (.bipush 16, 2) := by decide +kernel
theorem dX13_derive_33 : decode cX13_derive 33 = .ok (.if_icmp .eq 20, 3) := by decide +kernel
theorem dX13_derive_36 : decode cX13_derive 36 = .ok (.iload 5, 2) := by decide +kernel
theorem dX13_derive_38 : decode cX13_derive 38 = .ok (.bipush 32, 2) := by decide +kernel
theorem dX13_derive_40 : decode cX13_derive 40 = .ok (.if_icmp .eq 13, 3) := by decide +kernel
theorem dX13_derive_43 : decode cX13_derive 43 = .ok (.iload 5, 2) := by decide +kernel
theorem dX13_derive_45 : decode cX13_derive 45 = .ok (.bipush 64, 2) := by decide +kernel
theorem dX13_derive_47 : decode cX13_derive 47 = .ok (.if_icmp .eq 6, 3) := by decide +kernel
theorem dX13_derive_50 : decode cX13_derive 50 = .ok (.bipush (-2), 2) := by decide +kernel
theorem dX13_derive_52 : decode cX13_derive 52 = .ok (.ireturn, 1) := by decide +kernel
theorem dX13_derive_53 : decode cX13_derive 53 = .ok (.aload_n 0, 1) := by decide +kernel
theorem dX13_derive_54 : decode cX13_derive 54 = .ok (.aload_n 0, 1) := by decide +kernel
theorem dX13_derive_55 : decode cX13_derive 55 = .ok (.getfield 14, 3) := by decide +kernel
theorem dX13_derive_58 : decode cX13_derive 58 = .ok (.sipush 8192, 3) := by decide +kernel
theorem dX13_derive_61 : decode cX13_derive 61 = .ok (.iload_n 1, 1) := by decide +kernel
theorem dX13_derive_62 : decode cX13_derive 62 = .ok (.imul, 1) := by decide +kernel
theorem dX13_derive_63 : decode cX13_derive 63 = .ok (.aload_n 0, 1) := by decide +kernel
theorem dX13_derive_64 : decode cX13_derive 64 = .ok (.getfield 17, 3) := by decide +kernel
theorem dX13_derive_67 : decode cX13_derive 67 = .ok (.iload_n 1, 1) := by decide +kernel
theorem dX13_derive_68 : decode cX13_derive 68 = .ok (.iaload, 1) := by decide +kernel
theorem dX13_derive_69 : decode cX13_derive 69 = .ok (.aload_n 0, 1) := by decide +kernel
theorem dX13_derive_70 : decode cX13_derive 70 = .ok (.getfield 14, 3) := by decide +kernel
theorem dX13_derive_73 : decode cX13_derive 73 = .ok (.sipush 8192, 3) := by decide +kernel
theorem dX13_derive_76 : decode cX13_derive 76 = .ok (.iload_n 2, 1) := by decide +kernel
theorem dX13_derive_77 : decode cX13_derive 77 = .ok (.imul, 1) := by decide +kernel
theorem dX13_derive_78 : decode cX13_derive 78 = .ok (.aload_n 0, 1) := by decide +kernel
theorem dX13_derive_79 : decode cX13_derive 79 = .ok (.getfield 17, 3) := by decide +kernel
theorem dX13_derive_82 : decode cX13_derive 82 = .ok (.iload_n 2, 1) := by decide +kernel
theorem dX13_derive_83 : decode cX13_derive 83 = .ok (.iaload, 1) := by decide +kernel
theorem dX13_derive_84 : decode cX13_derive 84 = .ok (.aload_n 0, 1) := by decide +kernel
theorem dX13_derive_85 : decode cX13_derive 85 = .ok (.getfield 14, 3) := by decide +kernel
theorem dX13_derive_88 : decode cX13_derive 88 = .ok (.sipush 8192, 3) := by decide +kernel
theorem dX13_derive_91 : decode cX13_derive 91 = .ok (.iload_n 3, 1) := by decide +kernel
theorem dX13_derive_92 : decode cX13_derive 92 = .ok (.imul, 1) := by decide +kernel
theorem dX13_derive_93 : decode cX13_derive 93 = .ok (.aload_n 0, 1) := by decide +kernel
theorem dX13_derive_94 : decode cX13_derive 94 = .ok (.getfield 17, 3) := by decide +kernel
theorem dX13_derive_97 : decode cX13_derive 97 = .ok (.iload_n 3, 1) := by decide +kernel
theorem dX13_derive_98 : decode cX13_derive 98 = .ok (.iaload, 1) := by decide +kernel
theorem dX13_derive_99 : decode cX13_derive 99 = .ok (.aload_n 0, 1) := by decide +kernel
theorem dX13_derive_100 : decode cX13_derive 100 = .ok (.getfield 14, 3) := by decide +kernel
theorem dX13_derive_103 : decode cX13_derive 103 = .ok (.sipush 8192, 3) := by decide +kernel
theorem dX13_derive_106 : decode cX13_derive 106 = .ok (.iload 4, 2) := by decide +kernel
theorem dX13_derive_108 : decode cX13_derive 108 = .ok (.imul, 1) := by decide +kernel
theorem dX13_derive_109 : decode cX13_derive 109 = .ok (.aload_n 0, 1) := by decide +kernel
theorem dX13_derive_110 : decode cX13_derive 110 = .ok (.getfield 17, 3) := by decide +kernel
theorem dX13_derive_113 : decode cX13_derive 113 = .ok (.iload 4, 2) := by decide +kernel
theorem dX13_derive_115 : decode cX13_derive 115 = .ok (.iaload, 1) := by decide +kernel
theorem dX13_derive_116 : decode cX13_derive 116 = .ok (.iload 5, 2) := by decide +kernel
theorem dX13_derive_118 : decode cX13_derive 118 = .ok (.invokevirtual 775, 3) := by decide +kernel
theorem dX13_derive_121 : decode cX13_derive 121 = .ok (.aload_n 0, 1) := by decide +kernel
theorem dX13_derive_122 : decode cX13_derive 122 = .ok (.aload_n 0, 1) := by decide +kernel
theorem dX13_derive_123 : decode cX13_derive 123 = .ok (.getfield 189, 3) := by decide +kernel
theorem dX13_derive_126 : decode cX13_derive 126 = .ok (.iconst 0, 1) := by decide +kernel
theorem dX13_derive_127 : decode cX13_derive 127 = .ok (.iload 5, 2) := by decide +kernel
theorem dX13_derive_129 : decode cX13_derive 129 = .ok (.invokevirtual 463, 3) := by decide +kernel
theorem dX13_derive_132 : decode cX13_derive 132 = .ok (.ireturn, 1) := by decide +kernel
abbrev rmX13_derive : Room := { frames := 6, cells := 0, slots := 0, locals := 151 }
set_option maxHeartbeats 4000000 in
set_option maxRecDepth 100000 in
theorem wB_X13_derive_53 {G : mG} {F : Nat} {x : mXT} {sz : Nat} {r0 : Int32} {M0 : mM} (X : mCX G RX13 cX13_derive 6 (some .int) "derive" rmX13_derive x) (hQ : mQI x r0 M0 (sz, 0, 0)) {l0 : Nat} {l1 : Int32} {l2 : Int32} {l3 : Int32} {l4 : Int32} {l5 : Int32} {M : mM} (h : B_X13_derive_53 G F l0 l1 l2 l3 l4 l5 M = some (r0, M0)) : WW x (sz, 0, 0) M 53 [(0, .ref l0), (1, .int l1), (2, .int l2), (3, .int l3), (4, .int l4), (5, .int l5)] [] := by
  unfold B_X13_derive_53 at h
  refine ww_aload_n 53 X dX13_derive_53 0 rfl rfl ?_
  refine ww_aload_n 54 X dX13_derive_54 0 rfl rfl ?_
  obtain ⟨v55, e55, h⟩ := bO_some h
  refine ww_getR 55 X dX13_derive_55 fG_X13_14 e55 ?_
  refine ww_sipush 58 X (v := (8192 : Int32)) dX13_derive_58 (by decide) ?_
  refine ww_iload_n 61 X dX13_derive_61 1 rfl rfl ?_
  refine ww_imul 62 X dX13_derive_62 ?_
  refine ww_aload_n 63 X dX13_derive_63 0 rfl rfl ?_
  obtain ⟨v64, e64, h⟩ := bO_some h
  refine ww_getR 64 X dX13_derive_64 fG_X13_17 e64 ?_
  refine ww_iload_n 67 X dX13_derive_67 1 rfl rfl ?_
  obtain ⟨v68, e68, h⟩ := bO_some h
  refine ww_iald 68 X dX13_derive_68 e68 ?_
  refine ww_aload_n 69 X dX13_derive_69 0 rfl rfl ?_
  obtain ⟨v70, e70, h⟩ := bO_some h
  refine ww_getR 70 X dX13_derive_70 fG_X13_14 e70 ?_
  refine ww_sipush 73 X (v := (8192 : Int32)) dX13_derive_73 (by decide) ?_
  refine ww_iload_n 76 X dX13_derive_76 2 rfl rfl ?_
  refine ww_imul 77 X dX13_derive_77 ?_
  refine ww_aload_n 78 X dX13_derive_78 0 rfl rfl ?_
  obtain ⟨v79, e79, h⟩ := bO_some h
  refine ww_getR 79 X dX13_derive_79 fG_X13_17 e79 ?_
  refine ww_iload_n 82 X dX13_derive_82 2 rfl rfl ?_
  obtain ⟨v83, e83, h⟩ := bO_some h
  refine ww_iald 83 X dX13_derive_83 e83 ?_
  refine ww_aload_n 84 X dX13_derive_84 0 rfl rfl ?_
  obtain ⟨v85, e85, h⟩ := bO_some h
  refine ww_getR 85 X dX13_derive_85 fG_X13_14 e85 ?_
  refine ww_sipush 88 X (v := (8192 : Int32)) dX13_derive_88 (by decide) ?_
  refine ww_iload_n 91 X dX13_derive_91 3 rfl rfl ?_
  refine ww_imul 92 X dX13_derive_92 ?_
  refine ww_aload_n 93 X dX13_derive_93 0 rfl rfl ?_
  obtain ⟨v94, e94, h⟩ := bO_some h
  refine ww_getR 94 X dX13_derive_94 fG_X13_17 e94 ?_
  refine ww_iload_n 97 X dX13_derive_97 3 rfl rfl ?_
  obtain ⟨v98, e98, h⟩ := bO_some h
  refine ww_iald 98 X dX13_derive_98 e98 ?_
  refine ww_aload_n 99 X dX13_derive_99 0 rfl rfl ?_
  obtain ⟨v100, e100, h⟩ := bO_some h
  refine ww_getR 100 X dX13_derive_100 fG_X13_14 e100 ?_
  refine ww_sipush 103 X (v := (8192 : Int32)) dX13_derive_103 (by decide) ?_
  refine ww_iload 106 X dX13_derive_106 4 rfl ?_
  refine ww_imul 108 X dX13_derive_108 ?_
  refine ww_aload_n 109 X dX13_derive_109 0 rfl rfl ?_
  obtain ⟨v110, e110, h⟩ := bO_some h
  refine ww_getR 110 X dX13_derive_110 fG_X13_17 e110 ?_
  refine ww_iload 113 X dX13_derive_113 4 rfl ?_
  obtain ⟨v115, e115, h⟩ := bO_some h
  refine ww_iald 115 X dX13_derive_115 e115 ?_
  refine ww_iload 116 X dX13_derive_116 5 rfl ?_
  obtain ⟨_, f118, h⟩ := bO_some h
  obtain ⟨M118, e118, h⟩ := bO_some h
  refine ww_callVV0 118 X dX13_derive_118 mY_X13_deriveIt mL_X13_775 (rcv_spec f118) ⟨_, _, rfl⟩ (by decide) (As := [.ref v55, .int ((8192 : Int32) * l1), .int v68, .ref v70, .int ((8192 : Int32) * l2), .int v83, .ref v85, .int ((8192 : Int32) * l3), .int v98, .ref v100, .int ((8192 : Int32) * l4), .int v115, .int l5]) (rest := []) rfl rfl ⟨Nat.le_of_ble_eq_true rfl, Nat.le_of_ble_eq_true rfl⟩ (Nat.le_of_ble_eq_true rfl) (fun l D A => c_X13_deriveIt l D A e118) ?_
  refine ww_aload_n 121 X dX13_derive_121 0 rfl rfl ?_
  refine ww_aload_n 122 X dX13_derive_122 0 rfl rfl ?_
  obtain ⟨v123, e123, h⟩ := bO_some h
  refine ww_getR 123 X dX13_derive_123 fG_X13_189 e123 ?_
  refine ww_iconst 126 X (v := (0 : Int32)) dX13_derive_126 (by decide) ?_
  refine ww_iload 127 X dX13_derive_127 5 rfl ?_
  obtain ⟨_, f129, h⟩ := bO_some h
  obtain ⟨v129, M129, e129, h⟩ := bP_some h
  refine ww_callVI0 129 X dX13_derive_129 mY_X13_tell mL_X13_463 (rcv_spec f129) ⟨_, _, rfl⟩ (by decide) (As := [.ref v123, .int (0 : Int32), .int l5]) (rest := []) rfl rfl ⟨Nat.le_of_ble_eq_true rfl, Nat.le_of_ble_eq_true rfl⟩ (Nat.le_of_ble_eq_true rfl) (fun l D A => c_X13_tell l D A e129) ?_
  exact ww_iretE 132 X hQ dX13_derive_132 h
set_option maxHeartbeats 4000000 in
set_option maxRecDepth 100000 in
theorem wP_X13_derive {G : mG} {F : Nat} {x : mXT} {sz : Nat} {r0 : Int32} {M0 : mM} (X : mCX G RX13 cX13_derive 6 (some .int) "derive" rmX13_derive x) (hQ : mQI x r0 M0 (sz, 0, 0)) {l0 : Nat} {l1 : Int32} {l2 : Int32} {l3 : Int32} {l4 : Int32} {l5 : Int32} {M : mM} (h : P_X13_derive G F l0 l1 l2 l3 l4 l5 M = some (r0, M0)) : WW x (sz, 0, 0) M 0 [(0, .ref l0), (1, .int l1), (2, .int l2), (3, .int l3), (4, .int l4), (5, .int l5)] [] := by
  unfold P_X13_derive at h
  refine ww_iload_n 0 X dX13_derive_0 1 rfl rfl ?_
  obtain ⟨v1, M1, e1, h⟩ := bP_some h
  refine ww_callSI0 1 X dX13_derive_1 mY_X13_isRow mL_X13_332 (As := [.int l1]) (rest := []) rfl rfl ⟨Nat.le_of_ble_eq_true rfl, Nat.le_of_ble_eq_true rfl⟩ (Nat.le_of_ble_eq_true rfl) (fun l D A => c_X13_isRow l D A e1) ?_
  refine ww_if_eq 4 50 X dX13_derive_4 (by decide) (fun q => ?_) (fun q => ?_)
  · replace h := (if_pos q).symm.trans h
    refine ww_bipush 50 X (v := (-2 : Int32)) dX13_derive_50 (by decide) ?_
    exact ww_iretE 52 X hQ dX13_derive_52 h
  · replace h := (if_neg q).symm.trans h
    refine ww_iload_n 7 X dX13_derive_7 2 rfl rfl ?_
    obtain ⟨v8, M8, e8, h⟩ := bP_some h
    refine ww_callSI0 8 X dX13_derive_8 mY_X13_isRow mL_X13_332 (As := [.int l2]) (rest := []) rfl rfl ⟨Nat.le_of_ble_eq_true rfl, Nat.le_of_ble_eq_true rfl⟩ (Nat.le_of_ble_eq_true rfl) (fun l D A => c_X13_isRow l D A e8) ?_
    refine ww_if_eq 11 50 X dX13_derive_11 (by decide) (fun q => ?_) (fun q => ?_)
    · replace h := (if_pos q).symm.trans h
      refine ww_bipush 50 X (v := (-2 : Int32)) dX13_derive_50 (by decide) ?_
      exact ww_iretE 52 X hQ dX13_derive_52 h
    · replace h := (if_neg q).symm.trans h
      refine ww_iload_n 14 X dX13_derive_14 3 rfl rfl ?_
      obtain ⟨v15, M15, e15, h⟩ := bP_some h
      refine ww_callSI0 15 X dX13_derive_15 mY_X13_isRow mL_X13_332 (As := [.int l3]) (rest := []) rfl rfl ⟨Nat.le_of_ble_eq_true rfl, Nat.le_of_ble_eq_true rfl⟩ (Nat.le_of_ble_eq_true rfl) (fun l D A => c_X13_isRow l D A e15) ?_
      refine ww_if_eq 18 50 X dX13_derive_18 (by decide) (fun q => ?_) (fun q => ?_)
      · replace h := (if_pos q).symm.trans h
        refine ww_bipush 50 X (v := (-2 : Int32)) dX13_derive_50 (by decide) ?_
        exact ww_iretE 52 X hQ dX13_derive_52 h
      · replace h := (if_neg q).symm.trans h
        refine ww_iload 21 X dX13_derive_21 4 rfl ?_
        obtain ⟨v23, M23, e23, h⟩ := bP_some h
        refine ww_callSI0 23 X dX13_derive_23 mY_X13_isRow mL_X13_332 (As := [.int l4]) (rest := []) rfl rfl ⟨Nat.le_of_ble_eq_true rfl, Nat.le_of_ble_eq_true rfl⟩ (Nat.le_of_ble_eq_true rfl) (fun l D A => c_X13_isRow l D A e23) ?_
        refine ww_if_eq 26 50 X dX13_derive_26 (by decide) (fun q => ?_) (fun q => ?_)
        · replace h := (if_pos q).symm.trans h
          refine ww_bipush 50 X (v := (-2 : Int32)) dX13_derive_50 (by decide) ?_
          exact ww_iretE 52 X hQ dX13_derive_52 h
        · replace h := (if_neg q).symm.trans h
          refine ww_iload 29 X dX13_derive_29 5 rfl ?_
          refine ww_bipush 31 X (v := (16 : Int32)) dX13_derive_31 (by decide) ?_
          refine ww_icmp_eq 33 53 X dX13_derive_33 (by decide) (fun q => ?_) (fun q => ?_)
          · replace h := (if_pos q).symm.trans h
            exact (wB_X13_derive_53 X hQ h)
          · replace h := (if_neg q).symm.trans h
            refine ww_iload 36 X dX13_derive_36 5 rfl ?_
            refine ww_bipush 38 X (v := (32 : Int32)) dX13_derive_38 (by decide) ?_
            refine ww_icmp_eq 40 53 X dX13_derive_40 (by decide) (fun q => ?_) (fun q => ?_)
            · replace h := (if_pos q).symm.trans h
              exact (wB_X13_derive_53 X hQ h)
            · replace h := (if_neg q).symm.trans h
              refine ww_iload 43 X dX13_derive_43 5 rfl ?_
              refine ww_bipush 45 X (v := (64 : Int32)) dX13_derive_45 (by decide) ?_
              refine ww_icmp_eq 47 53 X dX13_derive_47 (by decide) (fun q => ?_) (fun q => ?_)
              · replace h := (if_pos q).symm.trans h
                exact (wB_X13_derive_53 X hQ h)
              · replace h := (if_neg q).symm.trans h
                refine ww_bipush 50 X (v := (-2 : Int32)) dX13_derive_50 (by decide) ?_
                exact ww_iretE 52 X hQ dX13_derive_52 h
theorem c_X13_derive {G : mG} {F sz : Nat} {r0 : Int32} {M0 : mM} (l : Launch) (D : mD) (A : Nat → Prop) {l0 : Nat} {l1 : Int32} {l2 : Int32} {l3 : Int32} {l4 : Int32} {l5 : Int32} {M : mM} (h : P_X13_derive G F l0 l1 l2 l3 l4 l5 M = some (r0, M0)) : mMetI l D G A yX13_derive cX13_derive 6 (some .int) 6 151 0 0 [.ref l0, .int l1, .int l2, .int l3, .int l4, .int l5] M sz r0 M0 sz := mMetI_of l D G A (by decide) (Nat.le_of_ble_eq_true rfl) (fun x X hQ => wP_X13_derive X hQ h)
/-! SealedTokensModel.maskOn([BII[BII)V -/
theorem dX13_maskOn_0 : decode cX13_maskOn 0 = .ok (.iconst 0, 1) := by decide +kernel
theorem dX13_maskOn_1 : decode cX13_maskOn 1 = .ok (.istore 7, 2) := by decide +kernel
theorem dX13_maskOn_3 : decode cX13_maskOn 3 = .ok (.bipush 32, 2) := by decide +kernel
theorem dX13_maskOn_5 : decode cX13_maskOn 5 = .ok (.iload 7, 2) := by decide +kernel
theorem dX13_maskOn_7 : decode cX13_maskOn 7 = .ok (.imul, 1) := by decide +kernel
theorem dX13_maskOn_8 : decode cX13_maskOn 8 = .ok (.iload 6, 2) := by decide +kernel
theorem dX13_maskOn_10 : decode cX13_maskOn 10 = .ok (.if_icmp .ge 95, 3) := by decide +kernel
theorem dX13_maskOn_13 : decode cX13_maskOn 13 = .ok (.aload_n 0, 1) := by decide +kernel
theorem dX13_maskOn_14 : decode cX13_maskOn 14 = .ok (.invokevirtual 570, 3) := by decide +kernel
theorem dX13_maskOn_17 : decode cX13_maskOn 17 = .ok (.aload_n 0, 1) := by decide +kernel
theorem dX13_maskOn_18 : decode cX13_maskOn 18 = .ok (.aload_n 1, 1) := by decide +kernel
theorem dX13_maskOn_19 : decode cX13_maskOn 19 = .ok (.iload_n 2, 1) := by decide +kernel
theorem dX13_maskOn_20 : decode cX13_maskOn 20 = .ok (.iload_n 3, 1) := by decide +kernel
theorem dX13_maskOn_21 : decode cX13_maskOn 21 = .ok (.invokevirtual 573, 3) := by decide +kernel
theorem dX13_maskOn_24 : decode cX13_maskOn 24 = .ok (.aload_n 0, 1) := by decide +kernel
theorem dX13_maskOn_25 : decode cX13_maskOn 25 = .ok (.iload 7, 2) := by decide +kernel
theorem dX13_maskOn_27 : decode cX13_maskOn 27 = .ok (.i2l, 1) := by decide +kernel
theorem dX13_maskOn_28 : decode cX13_maskOn 28 = .ok (.iconst 4, 1) := by decide +kernel
theorem dX13_maskOn_29 : decode cX13_maskOn 29 = .ok (.invokevirtual 514, 3) := by decide +kernel
theorem dX13_maskOn_32 : decode cX13_maskOn 32 = .ok (.aload_n 0, 1) := by decide +kernel
theorem dX13_maskOn_33 : decode cX13_maskOn 33 = .ok (.sipush 256, 3) := by decide +kernel
theorem dX13_maskOn_36 : decode cX13_maskOn 36 = .ok (.invokevirtual 576, 3) := by decide +kernel
theorem dX13_maskOn_39 : decode cX13_maskOn 39 = .ok (.istore 8, 2) := by decide +kernel
theorem dX13_maskOn_41 : decode cX13_maskOn 41 = .ok (.bipush 32, 2) := by decide +kernel
theorem dX13_maskOn_43 : decode cX13_maskOn 43 = .ok (.iload 7, 2) := by decide +kernel
theorem dX13_maskOn_45 : decode cX13_maskOn 45 = .ok (.imul, 1) := by decide +kernel
theorem dX13_maskOn_46 : decode cX13_maskOn 46 = .ok (.istore 9, 2) := by decide +kernel
theorem dX13_maskOn_48 : decode cX13_maskOn 48 = .ok (.iload 9, 2) := by decide +kernel
theorem dX13_maskOn_50 : decode cX13_maskOn 50 = .ok (.iload 6, 2) := by decide +kernel
theorem dX13_maskOn_52 : decode cX13_maskOn 52 = .ok (.if_icmp .ge 47, 3) := by decide +kernel
theorem dX13_maskOn_55 : decode cX13_maskOn 55 = .ok (.iload 9, 2) := by decide +kernel
theorem dX13_maskOn_57 : decode cX13_maskOn 57 = .ok (.bipush 32, 2) := by decide +kernel
theorem dX13_maskOn_59 : decode cX13_maskOn 59 = .ok (.iload 7, 2) := by decide +kernel
theorem dX13_maskOn_61 : decode cX13_maskOn 61 = .ok (.imul, 1) := by decide +kernel
theorem dX13_maskOn_62 : decode cX13_maskOn 62 = .ok (.bipush 32, 2) := by decide +kernel
theorem dX13_maskOn_64 : decode cX13_maskOn 64 = .ok (.iadd, 1) := by decide +kernel
theorem dX13_maskOn_65 : decode cX13_maskOn 65 = .ok (.if_icmp .ge 34, 3) := by decide +kernel
theorem dX13_maskOn_68 : decode cX13_maskOn 68 = .ok (.aload 4, 2) := by decide +kernel
theorem dX13_maskOn_70 : decode cX13_maskOn 70 = .ok (.iload 5, 2) := by decide +kernel
theorem dX13_maskOn_72 : decode cX13_maskOn 72 = .ok (.iload 9, 2) := by decide +kernel
theorem dX13_maskOn_74 : decode cX13_maskOn 74 = .ok (.iadd, 1) := by decide +kernel
theorem dX13_maskOn_75 : decode cX13_maskOn 75 = .ok (.dup2, 1) := by decide +kernel
theorem dX13_maskOn_76 : decode cX13_maskOn 76 = .ok (.baload, 1) := by decide +kernel
theorem dX13_maskOn_77 : decode cX13_maskOn 77 = .ok (.aload_n 0, 1) := by decide +kernel
theorem dX13_maskOn_78 : decode cX13_maskOn 78 = .ok (.getfield 76, 3) := by decide +kernel
theorem dX13_maskOn_81 : decode cX13_maskOn 81 = .ok (.iload 9, 2) := by decide +kernel
theorem dX13_maskOn_83 : decode cX13_maskOn 83 = .ok (.bipush 32, 2) := by decide +kernel
theorem dX13_maskOn_85 : decode cX13_maskOn 85 = .ok (.iload 7, 2) := by decide +kernel
theorem dX13_maskOn_87 : decode cX13_maskOn 87 = .ok (.imul, 1) := by decide +kernel
theorem dX13_maskOn_88 : decode cX13_maskOn 88 = .ok (.isub, 1) := by decide +kernel
theorem dX13_maskOn_89 : decode cX13_maskOn 89 = .ok (.baload, 1) := by decide +kernel
theorem dX13_maskOn_90 : decode cX13_maskOn 90 = .ok (.ixor, 1) := by decide +kernel
theorem dX13_maskOn_91 : decode cX13_maskOn 91 = .ok (.i2b, 1) := by decide +kernel
theorem dX13_maskOn_92 : decode cX13_maskOn 92 = .ok (.bastore, 1) := by decide +kernel
theorem dX13_maskOn_93 : decode cX13_maskOn 93 = .ok (.iinc 9 1, 3) := by decide +kernel
theorem dX13_maskOn_96 : decode cX13_maskOn 96 = .ok (.goto (-48), 3) := by decide +kernel
theorem dX13_maskOn_99 : decode cX13_maskOn 99 = .ok (.iinc 7 1, 3) := by decide +kernel
theorem dX13_maskOn_102 : decode cX13_maskOn 102 = .ok (.goto (-99), 3) := by decide +kernel
theorem dX13_maskOn_105 : decode cX13_maskOn 105 = .ok (.return_, 1) := by decide +kernel
abbrev rmX13_maskOn : Room := { frames := 5, cells := 0, slots := 0, locals := 116 }
set_option maxHeartbeats 4000000 in
set_option maxRecDepth 100000 in
theorem wB_X13_maskOn_48 {G : mG} {F : Nat} {x : mXT} {sz : Nat} {M0 : mM} (X : mCX G RX13 cX13_maskOn 10 none "maskOn" rmX13_maskOn x) (hQ : mQV x M0 (sz, 0, 0)) (r3 : Nat → Nat → Int32 → Int32 → Nat → Int32 → Int32 → Int32 → mM → Option mM) (hr3 : ∀ (l0 : Nat) (l1 : Nat) (l2 : Int32) (l3 : Int32) (l4 : Nat) (l5 : Int32) (l6 : Int32) (l7 : Int32) (M : mM), r3 l0 l1 l2 l3 l4 l5 l6 l7 M = some M0 → WW x (sz, 0, 0) M 3 [(0, .ref l0), (1, .ref l1), (2, .int l2), (3, .int l3), (4, .ref l4), (5, .int l5), (6, .int l6), (7, .int l7)] []) : ∀ (n : Nat) (l0 : Nat) (l1 : Nat) (l2 : Int32) (l3 : Int32) (l4 : Nat) (l5 : Int32) (l6 : Int32) (l7 : Int32) (l9 : Int32) (M : mM), B_X13_maskOn_48 G F r3 n l0 l1 l2 l3 l4 l5 l6 l7 l9 M = some M0 → WW x (sz, 0, 0) M 48 [(0, .ref l0), (1, .ref l1), (2, .int l2), (3, .int l3), (4, .ref l4), (5, .int l5), (6, .int l6), (7, .int l7), (9, .int l9)] [] := by
  intro n
  induction n with
  | zero =>
    intro l0 l1 l2 l3 l4 l5 l6 l7 l9 M h
    exact nomatch (show (none : Option mM) = some M0 from h)
  | succ n ih =>
    intro l0 l1 l2 l3 l4 l5 l6 l7 l9 M h
    rw [B_X13_maskOn_48] at h
    refine ww_iload 48 X dX13_maskOn_48 8 rfl ?_
    refine ww_iload 50 X dX13_maskOn_50 6 rfl ?_
    refine ww_icmp_ge 52 99 X dX13_maskOn_52 (by decide) (fun q => ?_) (fun q => ?_)
    · replace h := (if_pos q).symm.trans h
      refine ww_iinc 99 X dX13_maskOn_99 (lv' := [(0, .ref l0), (1, .ref l1), (2, .int l2), (3, .int l3), (4, .ref l4), (5, .int l5), (6, .int l6), (7, .int (l7 + 1)), (9, .int l9)]) 7 rfl rfl (by decide) [1, 2, 3, 4, 5, 6, 7, 0, 8] rfl ?_
      refine ww_goto 102 3 X dX13_maskOn_102 (by decide) ?_
      exact ww_sub [0, 1, 2, 3, 4, 5, 6, 7] rfl (hr3 _ _ _ _ _ _ _ _ _ h)
    · replace h := (if_neg q).symm.trans h
      refine ww_iload 55 X dX13_maskOn_55 8 rfl ?_
      refine ww_bipush 57 X (v := (32 : Int32)) dX13_maskOn_57 (by decide) ?_
      refine ww_iload 59 X dX13_maskOn_59 7 rfl ?_
      refine ww_imul 61 X dX13_maskOn_61 ?_
      refine ww_bipush 62 X (v := (32 : Int32)) dX13_maskOn_62 (by decide) ?_
      refine ww_iadd 64 X dX13_maskOn_64 ?_
      refine ww_icmp_ge 65 99 X dX13_maskOn_65 (by decide) (fun q => ?_) (fun q => ?_)
      · replace h := (if_pos q).symm.trans h
        refine ww_iinc 99 X dX13_maskOn_99 (lv' := [(0, .ref l0), (1, .ref l1), (2, .int l2), (3, .int l3), (4, .ref l4), (5, .int l5), (6, .int l6), (7, .int (l7 + 1)), (9, .int l9)]) 7 rfl rfl (by decide) [1, 2, 3, 4, 5, 6, 7, 0, 8] rfl ?_
        refine ww_goto 102 3 X dX13_maskOn_102 (by decide) ?_
        exact ww_sub [0, 1, 2, 3, 4, 5, 6, 7] rfl (hr3 _ _ _ _ _ _ _ _ _ h)
      · replace h := (if_neg q).symm.trans h
        refine ww_aload 68 X dX13_maskOn_68 4 rfl ?_
        refine ww_iload 70 X dX13_maskOn_70 5 rfl ?_
        refine ww_iload 72 X dX13_maskOn_72 8 rfl ?_
        refine ww_iadd 74 X dX13_maskOn_74 ?_
        refine ww_dup2_11 75 X dX13_maskOn_75 rfl rfl ?_
        obtain ⟨v76, e76, h⟩ := bO_some h
        refine ww_bald 76 X dX13_maskOn_76 e76 ?_
        refine ww_aload_n 77 X dX13_maskOn_77 0 rfl rfl ?_
        obtain ⟨v78, e78, h⟩ := bO_some h
        refine ww_getR 78 X dX13_maskOn_78 fG_X13_76 e78 ?_
        refine ww_iload 81 X dX13_maskOn_81 8 rfl ?_
        refine ww_bipush 83 X (v := (32 : Int32)) dX13_maskOn_83 (by decide) ?_
        refine ww_iload 85 X dX13_maskOn_85 7 rfl ?_
        refine ww_imul 87 X dX13_maskOn_87 ?_
        refine ww_isub 88 X dX13_maskOn_88 ?_
        obtain ⟨v89, e89, h⟩ := bO_some h
        refine ww_bald 89 X dX13_maskOn_89 e89 ?_
        refine ww_ixor 90 X dX13_maskOn_90 ?_
        refine ww_i2b 91 X dX13_maskOn_91 ?_
        obtain ⟨M92, e92, h⟩ := bO_some h
        refine ww_bast 92 X dX13_maskOn_92 e92 ?_
        refine ww_iinc 93 X dX13_maskOn_93 (lv' := [(0, .ref l0), (1, .ref l1), (2, .int l2), (3, .int l3), (4, .ref l4), (5, .int l5), (6, .int l6), (7, .int l7), (9, .int (l9 + 1))]) 8 rfl rfl (by decide) [1, 2, 3, 4, 5, 6, 7, 8, 0] rfl ?_
        refine ww_goto 96 48 X dX13_maskOn_96 (by decide) ?_
        exact (ih _ _ _ _ _ _ _ _ _ _ h)
set_option maxHeartbeats 4000000 in
set_option maxRecDepth 100000 in
theorem wB_X13_maskOn_3 {G : mG} {F : Nat} {x : mXT} {sz : Nat} {M0 : mM} (X : mCX G RX13 cX13_maskOn 10 none "maskOn" rmX13_maskOn x) (hQ : mQV x M0 (sz, 0, 0)) : ∀ (n : Nat) (l0 : Nat) (l1 : Nat) (l2 : Int32) (l3 : Int32) (l4 : Nat) (l5 : Int32) (l6 : Int32) (l7 : Int32) (M : mM), B_X13_maskOn_3 G F n l0 l1 l2 l3 l4 l5 l6 l7 M = some M0 → WW x (sz, 0, 0) M 3 [(0, .ref l0), (1, .ref l1), (2, .int l2), (3, .int l3), (4, .ref l4), (5, .int l5), (6, .int l6), (7, .int l7)] [] := by
  intro n
  induction n with
  | zero =>
    intro l0 l1 l2 l3 l4 l5 l6 l7 M h
    exact nomatch (show (none : Option mM) = some M0 from h)
  | succ n ih =>
    intro l0 l1 l2 l3 l4 l5 l6 l7 M h
    rw [B_X13_maskOn_3] at h
    refine ww_bipush 3 X (v := (32 : Int32)) dX13_maskOn_3 (by decide) ?_
    refine ww_iload 5 X dX13_maskOn_5 7 rfl ?_
    refine ww_imul 7 X dX13_maskOn_7 ?_
    refine ww_iload 8 X dX13_maskOn_8 6 rfl ?_
    refine ww_icmp_ge 10 105 X dX13_maskOn_10 (by decide) (fun q => ?_) (fun q => ?_)
    · replace h := (if_pos q).symm.trans h
      exact ww_vretE 105 X hQ dX13_maskOn_105 h
    · replace h := (if_neg q).symm.trans h
      refine ww_aload_n 13 X dX13_maskOn_13 0 rfl rfl ?_
      obtain ⟨_, f14, h⟩ := bO_some h
      obtain ⟨M14, e14, h⟩ := bO_some h
      refine ww_callVV0 14 X dX13_maskOn_14 mY_X13_empty mL_X13_570 (rcv_spec f14) ⟨_, _, rfl⟩ (by decide) (As := []) (rest := []) rfl rfl ⟨Nat.le_of_ble_eq_true rfl, Nat.le_of_ble_eq_true rfl⟩ (Nat.le_of_ble_eq_true rfl) (fun l D A => c_X13_empty l D A e14) ?_
      refine ww_aload_n 17 X dX13_maskOn_17 0 rfl rfl ?_
      refine ww_aload_n 18 X dX13_maskOn_18 1 rfl rfl ?_
      refine ww_iload_n 19 X dX13_maskOn_19 2 rfl rfl ?_
      refine ww_iload_n 20 X dX13_maskOn_20 3 rfl rfl ?_
      obtain ⟨_, f21, h⟩ := bO_some h
      obtain ⟨M21, e21, h⟩ := bO_some h
      refine ww_callVV0 21 X dX13_maskOn_21 mY_X13_lay mL_X13_573 (rcv_spec f21) ⟨_, _, rfl⟩ (by decide) (As := [.ref l1, .int l2, .int l3]) (rest := []) rfl rfl ⟨Nat.le_of_ble_eq_true rfl, Nat.le_of_ble_eq_true rfl⟩ (Nat.le_of_ble_eq_true rfl) (fun l D A => c_X13_lay l D A e21) ?_
      refine ww_aload_n 24 X dX13_maskOn_24 0 rfl rfl ?_
      refine ww_iload 25 X dX13_maskOn_25 7 rfl ?_
      refine ww_i2l 27 X dX13_maskOn_27 ?_
      refine ww_iconst 28 X (v := (4 : Int32)) dX13_maskOn_28 (by decide) ?_
      obtain ⟨_, f29, h⟩ := bO_some h
      obtain ⟨M29, e29, h⟩ := bO_some h
      refine ww_callVV0 29 X dX13_maskOn_29 mY_X13_layNumber mL_X13_514 (rcv_spec f29) ⟨_, _, rfl⟩ (by decide) (As := [.long (l7.toInt64), .int (4 : Int32)]) (rest := []) rfl rfl ⟨Nat.le_of_ble_eq_true rfl, Nat.le_of_ble_eq_true rfl⟩ (Nat.le_of_ble_eq_true rfl) (fun l D A => c_X13_layNumber l D A e29) ?_
      refine ww_aload_n 32 X dX13_maskOn_32 0 rfl rfl ?_
      refine ww_sipush 33 X (v := (256 : Int32)) dX13_maskOn_33 (by decide) ?_
      obtain ⟨_, f36, h⟩ := bO_some h
      obtain ⟨v36, M36, e36, h⟩ := bP_some h
      refine ww_callVI0 36 X dX13_maskOn_36 mY_X13_digestOf mL_X13_576 (rcv_spec f36) ⟨_, _, rfl⟩ (by decide) (As := [.int (256 : Int32)]) (rest := []) rfl rfl ⟨Nat.le_of_ble_eq_true rfl, Nat.le_of_ble_eq_true rfl⟩ (Nat.le_of_ble_eq_true rfl) (fun l D A => c_X13_digestOf l D A e36) ?_
      refine ww_istore 39 X dX13_maskOn_39 (lv' := [(0, .ref l0), (1, .ref l1), (2, .int l2), (3, .int l3), (4, .ref l4), (5, .int l5), (6, .int l6), (7, .int l7), (8, .int v36)]) (by decide) [1, 2, 3, 4, 5, 6, 7, 8, 0] rfl ?_
      refine ww_bipush 41 X (v := (32 : Int32)) dX13_maskOn_41 (by decide) ?_
      refine ww_iload 43 X dX13_maskOn_43 7 rfl ?_
      refine ww_imul 45 X dX13_maskOn_45 ?_
      refine ww_istore 46 X dX13_maskOn_46 (lv' := [(0, .ref l0), (1, .ref l1), (2, .int l2), (3, .int l3), (4, .ref l4), (5, .int l5), (6, .int l6), (7, .int l7), (8, .int v36), (9, .int ((32 : Int32) * l7))]) (by decide) [1, 2, 3, 4, 5, 6, 7, 8, 9, 0] rfl ?_
      exact ww_sub [0, 1, 2, 3, 4, 5, 6, 7, 9] rfl (wB_X13_maskOn_48 X hQ _ ih F _ _ _ _ _ _ _ _ _ _ h)
set_option maxHeartbeats 4000000 in
set_option maxRecDepth 100000 in
theorem wP_X13_maskOn {G : mG} {F : Nat} {x : mXT} {sz : Nat} {M0 : mM} (X : mCX G RX13 cX13_maskOn 10 none "maskOn" rmX13_maskOn x) (hQ : mQV x M0 (sz, 0, 0)) {l0 : Nat} {l1 : Nat} {l2 : Int32} {l3 : Int32} {l4 : Nat} {l5 : Int32} {l6 : Int32} {M : mM} (h : P_X13_maskOn G F l0 l1 l2 l3 l4 l5 l6 M = some M0) : WW x (sz, 0, 0) M 0 [(0, .ref l0), (1, .ref l1), (2, .int l2), (3, .int l3), (4, .ref l4), (5, .int l5), (6, .int l6)] [] := by
  unfold P_X13_maskOn at h
  refine ww_iconst 0 X (v := (0 : Int32)) dX13_maskOn_0 (by decide) ?_
  refine ww_istore 1 X dX13_maskOn_1 (lv' := [(0, .ref l0), (1, .ref l1), (2, .int l2), (3, .int l3), (4, .ref l4), (5, .int l5), (6, .int l6), (7, .int (0 : Int32))]) (by decide) [1, 2, 3, 4, 5, 6, 7, 0] rfl ?_
  exact (wB_X13_maskOn_3 X hQ F _ _ _ _ _ _ _ _ _ h)
theorem c_X13_maskOn {G : mG} {F sz : Nat} {M0 : mM} (l : Launch) (D : mD) (A : Nat → Prop) {l0 : Nat} {l1 : Nat} {l2 : Int32} {l3 : Int32} {l4 : Nat} {l5 : Int32} {l6 : Int32} {M : mM} (h : P_X13_maskOn G F l0 l1 l2 l3 l4 l5 l6 M = some M0) : mMetV l D G A yX13_maskOn cX13_maskOn 10 none 5 116 0 0 [.ref l0, .ref l1, .int l2, .int l3, .ref l4, .int l5, .int l6] M sz M0 sz := mMetV_of l D G A (by decide) (Nat.le_of_ble_eq_true rfl) (fun x X hQ => wP_X13_maskOn X hQ h)
/-! SealedTokensModel.digestMessage()V -/
theorem dX13_digestMessage_0 : decode cX13_digestMessage 0 = .ok (.aload_n 0, 1) := by decide +kernel
theorem dX13_digestMessage_1 : decode cX13_digestMessage 1 = .ok (.invokevirtual 570, 3) := by decide +kernel
theorem dX13_digestMessage_4 : decode cX13_digestMessage 4 = .ok (.aload_n 0, 1) := by decide +kernel
theorem dX13_digestMessage_5 : decode cX13_digestMessage 5 = .ok (.aload_n 0, 1) := by decide +kernel
theorem dX13_digestMessage_6 : decode cX13_digestMessage 6 = .ok (.getfield 83, 3) := by decide +kernel
theorem dX13_digestMessage_9 : decode cX13_digestMessage 9 = .ok (.iconst 0, 1) := by decide +kernel
theorem dX13_digestMessage_10 : decode cX13_digestMessage 10 = .ok (.aload_n 0, 1) := by decide +kernel
theorem dX13_digestMessage_11 : decode cX13_digestMessage 11 = .ok (.getfield 579, 3) := by decide +kernel
theorem dX13_digestMessage_14 : decode cX13_digestMessage 14 = .ok (.invokevirtual 573, 3) := by decide +kernel
theorem dX13_digestMessage_17 : decode cX13_digestMessage 17 = .ok (.aload_n 0, 1) := by decide +kernel
theorem dX13_digestMessage_18 : decode cX13_digestMessage 18 = .ok (.sipush 256, 3) := by decide +kernel
theorem dX13_digestMessage_21 : decode cX13_digestMessage 21 = .ok (.invokevirtual 576, 3) := by decide +kernel
theorem dX13_digestMessage_24 : decode cX13_digestMessage 24 = .ok (.istore_n 1, 1) := by decide +kernel
theorem dX13_digestMessage_25 : decode cX13_digestMessage 25 = .ok (.return_, 1) := by decide +kernel
abbrev rmX13_digestMessage : Room := { frames := 5, cells := 0, slots := 0, locals := 116 }
set_option maxHeartbeats 4000000 in
set_option maxRecDepth 100000 in
theorem wP_X13_digestMessage {G : mG} {F : Nat} {x : mXT} {sz : Nat} {M0 : mM} (X : mCX G RX13 cX13_digestMessage 2 none "digestMessage" rmX13_digestMessage x) (hQ : mQV x M0 (sz, 0, 0)) {l0 : Nat} {M : mM} (h : P_X13_digestMessage G F l0 M = some M0) : WW x (sz, 0, 0) M 0 [(0, .ref l0)] [] := by
  unfold P_X13_digestMessage at h
  refine ww_aload_n 0 X dX13_digestMessage_0 0 rfl rfl ?_
  obtain ⟨_, f1, h⟩ := bO_some h
  obtain ⟨M1, e1, h⟩ := bO_some h
  refine ww_callVV0 1 X dX13_digestMessage_1 mY_X13_empty mL_X13_570 (rcv_spec f1) ⟨_, _, rfl⟩ (by decide) (As := []) (rest := []) rfl rfl ⟨Nat.le_of_ble_eq_true rfl, Nat.le_of_ble_eq_true rfl⟩ (Nat.le_of_ble_eq_true rfl) (fun l D A => c_X13_empty l D A e1) ?_
  refine ww_aload_n 4 X dX13_digestMessage_4 0 rfl rfl ?_
  refine ww_aload_n 5 X dX13_digestMessage_5 0 rfl rfl ?_
  obtain ⟨v6, e6, h⟩ := bO_some h
  refine ww_getR 6 X dX13_digestMessage_6 fG_X13_83 e6 ?_
  refine ww_iconst 9 X (v := (0 : Int32)) dX13_digestMessage_9 (by decide) ?_
  refine ww_aload_n 10 X dX13_digestMessage_10 0 rfl rfl ?_
  obtain ⟨v11, e11, h⟩ := bO_some h
  refine ww_getI 11 X dX13_digestMessage_11 fG_X13_579 e11 ?_
  obtain ⟨_, f14, h⟩ := bO_some h
  obtain ⟨M14, e14, h⟩ := bO_some h
  refine ww_callVV0 14 X dX13_digestMessage_14 mY_X13_lay mL_X13_573 (rcv_spec f14) ⟨_, _, rfl⟩ (by decide) (As := [.ref v6, .int (0 : Int32), .int v11]) (rest := []) rfl rfl ⟨Nat.le_of_ble_eq_true rfl, Nat.le_of_ble_eq_true rfl⟩ (Nat.le_of_ble_eq_true rfl) (fun l D A => c_X13_lay l D A e14) ?_
  refine ww_aload_n 17 X dX13_digestMessage_17 0 rfl rfl ?_
  refine ww_sipush 18 X (v := (256 : Int32)) dX13_digestMessage_18 (by decide) ?_
  obtain ⟨_, f21, h⟩ := bO_some h
  obtain ⟨v21, M21, e21, h⟩ := bP_some h
  refine ww_callVI0 21 X dX13_digestMessage_21 mY_X13_digestOf mL_X13_576 (rcv_spec f21) ⟨_, _, rfl⟩ (by decide) (As := [.int (256 : Int32)]) (rest := []) rfl rfl ⟨Nat.le_of_ble_eq_true rfl, Nat.le_of_ble_eq_true rfl⟩ (Nat.le_of_ble_eq_true rfl) (fun l D A => c_X13_digestOf l D A e21) ?_
  refine ww_istore_n 24 X dX13_digestMessage_24 (lv' := [(0, .ref l0), (1, .int v21)]) rfl (by decide) [1, 0] rfl ?_
  exact ww_vretE 25 X hQ dX13_digestMessage_25 h
theorem c_X13_digestMessage {G : mG} {F sz : Nat} {M0 : mM} (l : Launch) (D : mD) (A : Nat → Prop) {l0 : Nat} {M : mM} (h : P_X13_digestMessage G F l0 M = some M0) : mMetV l D G A yX13_digestMessage cX13_digestMessage 2 none 5 116 0 0 [.ref l0] M sz M0 sz := mMetV_of l D G A (by decide) (Nat.le_of_ble_eq_true rfl) (fun x X hQ => wP_X13_digestMessage X hQ h)
/-! SealedTokensModel.fillOut(I)V -/
theorem dX13_fillOut_0 : decode cX13_fillOut 0 = .ok (.aload_n 0, 1) := by decide +kernel
theorem dX13_fillOut_1 : decode cX13_fillOut 1 = .ok (.invokevirtual 779, 3) := by decide +kernel
theorem dX13_fillOut_4 : decode cX13_fillOut 4 = .ok (.aload_n 0, 1) := by decide +kernel
theorem dX13_fillOut_5 : decode cX13_fillOut 5 = .ok (.getfield 195, 3) := by decide +kernel
theorem dX13_fillOut_8 : decode cX13_fillOut 8 = .ok (.iconst 0, 1) := by decide +kernel
theorem dX13_fillOut_9 : decode cX13_fillOut 9 = .ok (.iconst 0, 1) := by decide +kernel
theorem dX13_fillOut_10 : decode cX13_fillOut 10 = .ok (.bastore, 1) := by decide +kernel
theorem dX13_fillOut_11 : decode cX13_fillOut 11 = .ok (.aload_n 0, 1) := by decide +kernel
theorem dX13_fillOut_12 : decode cX13_fillOut 12 = .ok (.getfield 195, 3) := by decide +kernel
theorem dX13_fillOut_15 : decode cX13_fillOut 15 = .ok (.iconst 1, 1) := by decide +kernel
theorem dX13_fillOut_16 : decode cX13_fillOut 16 = .ok (.iconst 1, 1) := by decide +kernel
theorem dX13_fillOut_17 : decode cX13_fillOut 17 = .ok (.bastore, 1) := by decide +kernel
theorem dX13_fillOut_18 : decode cX13_fillOut 18 = .ok (.iconst 2, 1) := by decide +kernel
theorem dX13_fillOut_19 : decode cX13_fillOut 19 = .ok (.istore_n 2, 1) := by decide +kernel
theorem dX13_fillOut_20 : decode cX13_fillOut 20 = .ok (.iload_n 2, 1) := by decide +kernel
theorem dX13_fillOut_21 : decode cX13_fillOut 21 = .ok (.iload_n 1, 1) := by decide +kernel
theorem dX13_fillOut_22 : decode cX13_fillOut 22 = .ok (.bipush 52, 2) := by decide +kernel
theorem dX13_fillOut_24 : decode cX13_fillOut 24 = .ok (.isub, 1) := by decide +kernel
theorem dX13_fillOut_25 : decode cX13_fillOut 25 = .ok (.if_icmp .ge 16, 3) := by decide +kernel
theorem dX13_fillOut_28 : decode cX13_fillOut 28 = .ok (.aload_n 0, 1) := by decide +kernel
theorem dX13_fillOut_29 : decode cX13_fillOut 29 = .ok (.getfield 195, 3) := by decide +kernel
theorem dX13_fillOut_32 : decode cX13_fillOut 32 = .ok (.iload_n 2, 1) := by decide +kernel
theorem dX13_fillOut_33 : decode cX13_fillOut 33 = .ok (.iconst (-1), 1) := by decide +kernel
theorem dX13_fillOut_34 : decode cX13_fillOut 34 = .ok (.bastore, 1) := by decide +kernel
theorem dX13_fillOut_35 : decode cX13_fillOut 35 = .ok (.iinc 2 1, 3) := by decide +kernel
theorem dX13_fillOut_38 : decode cX13_fillOut 38 = .ok (.goto (-18), 3) := by decide +kernel
theorem dX13_fillOut_41 : decode cX13_fillOut 41 = .ok (.aload_n 0, 1) := by decide +kernel
theorem dX13_fillOut_42 : decode cX13_fillOut 42 = .ok (.getfield 195, 3) := by decide +kernel
theorem dX13_fillOut_45 : decode cX13_fillOut 45 = .ok (.iload_n 1, 1) := by decide +kernel
theorem dX13_fillOut_46 : decode cX13_fillOut 46 = .ok (.bipush 52, 2) := by decide +kernel
theorem dX13_fillOut_48 : decode cX13_fillOut 48 = .ok (.isub, 1) := by decide +kernel
theorem dX13_fillOut_49 : decode cX13_fillOut 49 = .ok (.iconst 0, 1) := by decide +kernel
theorem dX13_fillOut_50 : decode cX13_fillOut 50 = .ok (.bastore, 1) := by decide +kernel
theorem dX13_fillOut_51 : decode cX13_fillOut 51 = .ok (.iconst 0, 1) := by decide +kernel
theorem dX13_fillOut_52 : decode cX13_fillOut 52 = .ok (.istore_n 2, 1) := by decide +kernel
theorem dX13_fillOut_53 : decode cX13_fillOut 53 = .ok (.iload_n 2, 1) := by decide +kernel
theorem dX13_fillOut_54 : decode cX13_fillOut 54 = .ok (.bipush 19, 2) := by decide +kernel
theorem dX13_fillOut_56 : decode cX13_fillOut 56 = .ok (.if_icmp .ge 51, 3) := by decide +kernel
theorem dX13_fillOut_59 : decode cX13_fillOut 59 = .ok (.aload_n 0, 1) := by decide +kernel
theorem dX13_fillOut_60 : decode cX13_fillOut 60 = .ok (.getfield 195, 3) := by decide +kernel
theorem dX13_fillOut_63 : decode cX13_fillOut 63 = .ok (.iload_n 1, 1) := by decide +kernel
theorem dX13_fillOut_64 : decode cX13_fillOut 64 = .ok (.bipush 51, 2) := by decide +kernel
theorem dX13_fillOut_66 : decode cX13_fillOut 66 = .ok (.isub, 1) := by decide +kernel
theorem dX13_fillOut_67 : decode cX13_fillOut 67 = .ok (.iload_n 2, 1) := by decide +kernel
theorem dX13_fillOut_68 : decode cX13_fillOut 68 = .ok (.iadd, 1) := by decide +kernel
theorem dX13_fillOut_69 : decode cX13_fillOut 69 = .ok (.bipush 16, 2) := by decide +kernel
theorem dX13_fillOut_71 : decode cX13_fillOut 71 = .ok (.ldc_w 782, 3) := by decide +kernel
theorem dX13_fillOut_74 : decode cX13_fillOut 74 = .ok (.iconst 2, 1) := by decide +kernel
theorem dX13_fillOut_75 : decode cX13_fillOut 75 = .ok (.iload_n 2, 1) := by decide +kernel
theorem dX13_fillOut_76 : decode cX13_fillOut 76 = .ok (.imul, 1) := by decide +kernel
theorem dX13_fillOut_77 : decode cX13_fillOut 77 = .ok (.invokevirtual 410, 3) := by decide +kernel
theorem dX13_fillOut_80 : decode cX13_fillOut 80 = .ok (.invokestatic 446, 3) := by decide +kernel
theorem dX13_fillOut_83 : decode cX13_fillOut 83 = .ok (.imul, 1) := by decide +kernel
theorem dX13_fillOut_84 : decode cX13_fillOut 84 = .ok (.ldc_w 782, 3) := by decide +kernel
theorem dX13_fillOut_87 : decode cX13_fillOut 87 = .ok (.iconst 2, 1) := by decide +kernel
theorem dX13_fillOut_88 : decode cX13_fillOut 88 = .ok (.iload_n 2, 1) := by decide +kernel
theorem dX13_fillOut_89 : decode cX13_fillOut 89 = .ok (.imul, 1) := by decide +kernel
theorem dX13_fillOut_90 : decode cX13_fillOut 90 = .ok (.iconst 1, 1) := by decide +kernel
theorem dX13_fillOut_91 : decode cX13_fillOut 91 = .ok (.iadd, 1) := by decide +kernel
theorem dX13_fillOut_92 : decode cX13_fillOut 92 = .ok (.invokevirtual 410, 3) := by decide +kernel
theorem dX13_fillOut_95 : decode cX13_fillOut 95 = .ok (.invokestatic 446, 3) := by decide +kernel
theorem dX13_fillOut_98 : decode cX13_fillOut 98 = .ok (.iadd, 1) := by decide +kernel
theorem dX13_fillOut_99 : decode cX13_fillOut 99 = .ok (.i2b, 1) := by decide +kernel
theorem dX13_fillOut_100 : decode cX13_fillOut 100 = .ok (.bastore, 1) := by decide +kernel
theorem dX13_fillOut_101 : decode cX13_fillOut 101 = .ok (.iinc 2 1, 3) := by decide +kernel
theorem dX13_fillOut_104 : decode cX13_fillOut 104 = .ok (.goto (-51), 3) := by decide +kernel
theorem dX13_fillOut_107 : decode cX13_fillOut 107 = .ok (.aload_n 0, 1) := by decide +kernel
theorem dX13_fillOut_108 : decode cX13_fillOut 108 = .ok (.getfield 76, 3) := by decide +kernel
theorem dX13_fillOut_111 : decode cX13_fillOut 111 = .ok (.iconst 0, 1) := by decide +kernel
theorem dX13_fillOut_112 : decode cX13_fillOut 112 = .ok (.aload_n 0, 1) := by decide +kernel
theorem dX13_fillOut_113 : decode cX13_fillOut 113 = .ok (.getfield 195, 3) := by decide +kernel
theorem dX13_fillOut_116 : decode cX13_fillOut 116 = .ok (.iload_n 1, 1) := by decide +kernel
theorem dX13_fillOut_117 : decode cX13_fillOut 117 = .ok (.bipush 32, 2) := by decide +kernel
theorem dX13_fillOut_119 : decode cX13_fillOut 119 = .ok (.isub, 1) := by decide +kernel
theorem dX13_fillOut_120 : decode cX13_fillOut 120 = .ok (.bipush 32, 2) := by decide +kernel
theorem dX13_fillOut_122 : decode cX13_fillOut 122 = .ok (.invokestatic 317, 3) := by decide +kernel
theorem dX13_fillOut_125 : decode cX13_fillOut 125 = .ok (.return_, 1) := by decide +kernel
abbrev rmX13_fillOut : Room := { frames := 6, cells := 0, slots := 0, locals := 137 }
set_option maxHeartbeats 4000000 in
set_option maxRecDepth 100000 in
theorem wB_X13_fillOut_53 {G : mG} {F : Nat} {x : mXT} {sz : Nat} {M0 : mM} (X : mCX G RX13 cX13_fillOut 3 none "fillOut" rmX13_fillOut x) (hQ : mQV x M0 (sz, 0, 0)) : ∀ (n : Nat) (l0 : Nat) (l1 : Int32) (l2 : Int32) (M : mM), B_X13_fillOut_53 G F n l0 l1 l2 M = some M0 → WW x (sz, 0, 0) M 53 [(0, .ref l0), (1, .int l1), (2, .int l2)] [] := by
  intro n
  induction n with
  | zero =>
    intro l0 l1 l2 M h
    exact nomatch (show (none : Option mM) = some M0 from h)
  | succ n ih =>
    intro l0 l1 l2 M h
    rw [B_X13_fillOut_53] at h
    refine ww_iload_n 53 X dX13_fillOut_53 2 rfl rfl ?_
    refine ww_bipush 54 X (v := (19 : Int32)) dX13_fillOut_54 (by decide) ?_
    refine ww_icmp_ge 56 107 X dX13_fillOut_56 (by decide) (fun q => ?_) (fun q => ?_)
    · replace h := (if_pos q).symm.trans h
      refine ww_aload_n 107 X dX13_fillOut_107 0 rfl rfl ?_
      obtain ⟨v108, e108, h⟩ := bO_some h
      refine ww_getR 108 X dX13_fillOut_108 fG_X13_76 e108 ?_
      refine ww_iconst 111 X (v := (0 : Int32)) dX13_fillOut_111 (by decide) ?_
      refine ww_aload_n 112 X dX13_fillOut_112 0 rfl rfl ?_
      obtain ⟨v113, e113, h⟩ := bO_some h
      refine ww_getR 113 X dX13_fillOut_113 fG_X13_195 e113 ?_
      refine ww_iload_n 116 X dX13_fillOut_116 1 rfl rfl ?_
      refine ww_bipush 117 X (v := (32 : Int32)) dX13_fillOut_117 (by decide) ?_
      refine ww_isub 119 X dX13_fillOut_119 ?_
      refine ww_bipush 120 X (v := (32 : Int32)) dX13_fillOut_120 (by decide) ?_
      obtain ⟨M122, e122, h⟩ := bO_some h
      refine ww_callSV0 122 X dX13_fillOut_122 mY_X13_move mL_X13_317 (As := [.ref v108, .int (0 : Int32), .ref v113, .int (l1 - (32 : Int32)), .int (32 : Int32)]) (rest := []) rfl rfl ⟨Nat.le_of_ble_eq_true rfl, Nat.le_of_ble_eq_true rfl⟩ (Nat.le_of_ble_eq_true rfl) (fun l D A => c_X13_move l D A e122) ?_
      exact ww_vretE 125 X hQ dX13_fillOut_125 h
    · replace h := (if_neg q).symm.trans h
      refine ww_aload_n 59 X dX13_fillOut_59 0 rfl rfl ?_
      obtain ⟨v60, e60, h⟩ := bO_some h
      refine ww_getR 60 X dX13_fillOut_60 fG_X13_195 e60 ?_
      refine ww_iload_n 63 X dX13_fillOut_63 1 rfl rfl ?_
      refine ww_bipush 64 X (v := (51 : Int32)) dX13_fillOut_64 (by decide) ?_
      refine ww_isub 66 X dX13_fillOut_66 ?_
      refine ww_iload_n 67 X dX13_fillOut_67 2 rfl rfl ?_
      refine ww_iadd 68 X dX13_fillOut_68 ?_
      refine ww_bipush 69 X (v := (16 : Int32)) dX13_fillOut_69 (by decide) ?_
      refine ww_ldsw 71 X (j := 113) dX13_fillOut_71 rfl ?_
      refine ww_iconst 74 X (v := (2 : Int32)) dX13_fillOut_74 (by decide) ?_
      refine ww_iload_n 75 X dX13_fillOut_75 2 rfl rfl ?_
      refine ww_imul 76 X dX13_fillOut_76 ?_
      obtain ⟨_, f77, h⟩ := bO_some h
      obtain ⟨v77, M77, e77, h⟩ := bP_some h
      refine ww_callVIs 77 X dX13_fillOut_77 mY_J0_charAt_5068e mL_X13_410 (rcs_spec f77) rfl (As := [.int ((2 : Int32) * l2)]) (rest := [.int (16 : Int32), .int ((l1 - (51 : Int32)) + l2), .ref v60]) rfl rfl ⟨Nat.le_of_ble_eq_true rfl, Nat.le_of_ble_eq_true rfl⟩ (Nat.le_of_ble_eq_true rfl) (fun l D A => c_J0_charAt_5068e l D A e77) ?_
      obtain ⟨v80, M80, e80, h⟩ := bP_some h
      refine ww_callSI0 80 X dX13_fillOut_80 mY_X13_hexOf mL_X13_446 (As := [.int v77]) (rest := [.int (16 : Int32), .int ((l1 - (51 : Int32)) + l2), .ref v60]) rfl rfl ⟨Nat.le_of_ble_eq_true rfl, Nat.le_of_ble_eq_true rfl⟩ (Nat.le_of_ble_eq_true rfl) (fun l D A => c_X13_hexOf l D A e80) ?_
      refine ww_imul 83 X dX13_fillOut_83 ?_
      refine ww_ldsw 84 X (j := 113) dX13_fillOut_84 rfl ?_
      refine ww_iconst 87 X (v := (2 : Int32)) dX13_fillOut_87 (by decide) ?_
      refine ww_iload_n 88 X dX13_fillOut_88 2 rfl rfl ?_
      refine ww_imul 89 X dX13_fillOut_89 ?_
      refine ww_iconst 90 X (v := (1 : Int32)) dX13_fillOut_90 (by decide) ?_
      refine ww_iadd 91 X dX13_fillOut_91 ?_
      obtain ⟨_, f92, h⟩ := bO_some h
      obtain ⟨v92, M92, e92, h⟩ := bP_some h
      refine ww_callVIs 92 X dX13_fillOut_92 mY_J0_charAt_5068e mL_X13_410 (rcs_spec f92) rfl (As := [.int (((2 : Int32) * l2) + (1 : Int32))]) (rest := [.int ((16 : Int32) * v80), .int ((l1 - (51 : Int32)) + l2), .ref v60]) rfl rfl ⟨Nat.le_of_ble_eq_true rfl, Nat.le_of_ble_eq_true rfl⟩ (Nat.le_of_ble_eq_true rfl) (fun l D A => c_J0_charAt_5068e l D A e92) ?_
      obtain ⟨v95, M95, e95, h⟩ := bP_some h
      refine ww_callSI0 95 X dX13_fillOut_95 mY_X13_hexOf mL_X13_446 (As := [.int v92]) (rest := [.int ((16 : Int32) * v80), .int ((l1 - (51 : Int32)) + l2), .ref v60]) rfl rfl ⟨Nat.le_of_ble_eq_true rfl, Nat.le_of_ble_eq_true rfl⟩ (Nat.le_of_ble_eq_true rfl) (fun l D A => c_X13_hexOf l D A e95) ?_
      refine ww_iadd 98 X dX13_fillOut_98 ?_
      refine ww_i2b 99 X dX13_fillOut_99 ?_
      obtain ⟨M100, e100, h⟩ := bO_some h
      refine ww_bast 100 X dX13_fillOut_100 e100 ?_
      refine ww_iinc 101 X dX13_fillOut_101 (lv' := [(0, .ref l0), (1, .int l1), (2, .int (l2 + 1))]) 2 rfl rfl (by decide) [1, 2, 0] rfl ?_
      refine ww_goto 104 53 X dX13_fillOut_104 (by decide) ?_
      exact (ih _ _ _ _ h)
set_option maxHeartbeats 4000000 in
set_option maxRecDepth 100000 in
theorem wB_X13_fillOut_20 {G : mG} {F : Nat} {x : mXT} {sz : Nat} {M0 : mM} (X : mCX G RX13 cX13_fillOut 3 none "fillOut" rmX13_fillOut x) (hQ : mQV x M0 (sz, 0, 0)) : ∀ (n : Nat) (l0 : Nat) (l1 : Int32) (l2 : Int32) (M : mM), B_X13_fillOut_20 G F n l0 l1 l2 M = some M0 → WW x (sz, 0, 0) M 20 [(0, .ref l0), (1, .int l1), (2, .int l2)] [] := by
  intro n
  induction n with
  | zero =>
    intro l0 l1 l2 M h
    exact nomatch (show (none : Option mM) = some M0 from h)
  | succ n ih =>
    intro l0 l1 l2 M h
    rw [B_X13_fillOut_20] at h
    refine ww_iload_n 20 X dX13_fillOut_20 2 rfl rfl ?_
    refine ww_iload_n 21 X dX13_fillOut_21 1 rfl rfl ?_
    refine ww_bipush 22 X (v := (52 : Int32)) dX13_fillOut_22 (by decide) ?_
    refine ww_isub 24 X dX13_fillOut_24 ?_
    refine ww_icmp_ge 25 41 X dX13_fillOut_25 (by decide) (fun q => ?_) (fun q => ?_)
    · replace h := (if_pos q).symm.trans h
      refine ww_aload_n 41 X dX13_fillOut_41 0 rfl rfl ?_
      obtain ⟨v42, e42, h⟩ := bO_some h
      refine ww_getR 42 X dX13_fillOut_42 fG_X13_195 e42 ?_
      refine ww_iload_n 45 X dX13_fillOut_45 1 rfl rfl ?_
      refine ww_bipush 46 X (v := (52 : Int32)) dX13_fillOut_46 (by decide) ?_
      refine ww_isub 48 X dX13_fillOut_48 ?_
      refine ww_iconst 49 X (v := (0 : Int32)) dX13_fillOut_49 (by decide) ?_
      obtain ⟨M50, e50, h⟩ := bO_some h
      refine ww_bast 50 X dX13_fillOut_50 e50 ?_
      refine ww_iconst 51 X (v := (0 : Int32)) dX13_fillOut_51 (by decide) ?_
      refine ww_istore_n 52 X dX13_fillOut_52 (lv' := [(0, .ref l0), (1, .int l1), (2, .int (0 : Int32))]) rfl (by decide) [1, 2, 0] rfl ?_
      exact (wB_X13_fillOut_53 X hQ F _ _ _ _ h)
    · replace h := (if_neg q).symm.trans h
      refine ww_aload_n 28 X dX13_fillOut_28 0 rfl rfl ?_
      obtain ⟨v29, e29, h⟩ := bO_some h
      refine ww_getR 29 X dX13_fillOut_29 fG_X13_195 e29 ?_
      refine ww_iload_n 32 X dX13_fillOut_32 2 rfl rfl ?_
      refine ww_iconst 33 X (v := (-1 : Int32)) dX13_fillOut_33 (by decide) ?_
      obtain ⟨M34, e34, h⟩ := bO_some h
      refine ww_bast 34 X dX13_fillOut_34 e34 ?_
      refine ww_iinc 35 X dX13_fillOut_35 (lv' := [(0, .ref l0), (1, .int l1), (2, .int (l2 + 1))]) 2 rfl rfl (by decide) [1, 2, 0] rfl ?_
      refine ww_goto 38 20 X dX13_fillOut_38 (by decide) ?_
      exact (ih _ _ _ _ h)
set_option maxHeartbeats 4000000 in
set_option maxRecDepth 100000 in
theorem wP_X13_fillOut {G : mG} {F : Nat} {x : mXT} {sz : Nat} {M0 : mM} (X : mCX G RX13 cX13_fillOut 3 none "fillOut" rmX13_fillOut x) (hQ : mQV x M0 (sz, 0, 0)) {l0 : Nat} {l1 : Int32} {M : mM} (h : P_X13_fillOut G F l0 l1 M = some M0) : WW x (sz, 0, 0) M 0 [(0, .ref l0), (1, .int l1)] [] := by
  unfold P_X13_fillOut at h
  refine ww_aload_n 0 X dX13_fillOut_0 0 rfl rfl ?_
  obtain ⟨_, f1, h⟩ := bO_some h
  obtain ⟨M1, e1, h⟩ := bO_some h
  refine ww_callVV0 1 X dX13_fillOut_1 mY_X13_digestMessage mL_X13_779 (rcv_spec f1) ⟨_, _, rfl⟩ (by decide) (As := []) (rest := []) rfl rfl ⟨Nat.le_of_ble_eq_true rfl, Nat.le_of_ble_eq_true rfl⟩ (Nat.le_of_ble_eq_true rfl) (fun l D A => c_X13_digestMessage l D A e1) ?_
  refine ww_aload_n 4 X dX13_fillOut_4 0 rfl rfl ?_
  obtain ⟨v5, e5, h⟩ := bO_some h
  refine ww_getR 5 X dX13_fillOut_5 fG_X13_195 e5 ?_
  refine ww_iconst 8 X (v := (0 : Int32)) dX13_fillOut_8 (by decide) ?_
  refine ww_iconst 9 X (v := (0 : Int32)) dX13_fillOut_9 (by decide) ?_
  obtain ⟨M10, e10, h⟩ := bO_some h
  refine ww_bast 10 X dX13_fillOut_10 e10 ?_
  refine ww_aload_n 11 X dX13_fillOut_11 0 rfl rfl ?_
  obtain ⟨v12, e12, h⟩ := bO_some h
  refine ww_getR 12 X dX13_fillOut_12 fG_X13_195 e12 ?_
  refine ww_iconst 15 X (v := (1 : Int32)) dX13_fillOut_15 (by decide) ?_
  refine ww_iconst 16 X (v := (1 : Int32)) dX13_fillOut_16 (by decide) ?_
  obtain ⟨M17, e17, h⟩ := bO_some h
  refine ww_bast 17 X dX13_fillOut_17 e17 ?_
  refine ww_iconst 18 X (v := (2 : Int32)) dX13_fillOut_18 (by decide) ?_
  refine ww_istore_n 19 X dX13_fillOut_19 (lv' := [(0, .ref l0), (1, .int l1), (2, .int (2 : Int32))]) rfl (by decide) [1, 2, 0] rfl ?_
  exact (wB_X13_fillOut_20 X hQ F _ _ _ _ h)
theorem c_X13_fillOut {G : mG} {F sz : Nat} {M0 : mM} (l : Launch) (D : mD) (A : Nat → Prop) {l0 : Nat} {l1 : Int32} {M : mM} (h : P_X13_fillOut G F l0 l1 M = some M0) : mMetV l D G A yX13_fillOut cX13_fillOut 3 none 6 137 0 0 [.ref l0, .int l1] M sz M0 sz := mMetV_of l D G A (by decide) (Nat.le_of_ble_eq_true rfl) (fun x X hQ => wP_X13_fillOut X hQ h)
/-! SealedTokensModel.bitsOf([BII)I -/
theorem dX13_bitsOf_0 : decode cX13_bitsOf 0 = .ok (.bipush 8, 2) := by decide +kernel
theorem dX13_bitsOf_2 : decode cX13_bitsOf 2 = .ok (.istore_n 3, 1) := by decide +kernel
theorem dX13_bitsOf_3 : decode cX13_bitsOf 3 = .ok (.aload_n 0, 1) := by decide +kernel
theorem dX13_bitsOf_4 : decode cX13_bitsOf 4 = .ok (.iload_n 1, 1) := by decide +kernel
theorem dX13_bitsOf_5 : decode cX13_bitsOf 5 = .ok (.baload, 1) := by decide +kernel
theorem dX13_bitsOf_6 : decode cX13_bitsOf 6 = .ok (.iload_n 3, 1) := by decide +kernel
theorem dX13_bitsOf_7 : decode cX13_bitsOf 7 = .ok (.iconst 1, 1) := by decide +kernel
theorem dX13_bitsOf_8 : decode cX13_bitsOf 8 = .ok (.isub, 1) := by decide +kernel
theorem dX13_bitsOf_9 : decode cX13_bitsOf 9 = .ok (.ishr, 1) := by decide +kernel
theorem dX13_bitsOf_10 : decode cX13_bitsOf 10 = .ok (.iconst 1, 1) := by decide +kernel
theorem dX13_bitsOf_11 : decode cX13_bitsOf 11 = .ok (.iand, 1) := by decide +kernel
theorem dX13_bitsOf_12 : decode cX13_bitsOf 12 = .ok (.ifCond .ne 9, 3) := by decide +kernel
theorem dX13_bitsOf_15 : decode cX13_bitsOf 15 = .ok (.iinc 3 (-1), 3) := by decide +kernel
theorem dX13_bitsOf_18 : decode cX13_bitsOf 18 = .ok (.goto (-15), 3) := by decide +kernel
theorem dX13_bitsOf_21 : decode cX13_bitsOf 21 = .ok (.bipush 8, 2) := by decide +kernel
theorem dX13_bitsOf_23 : decode cX13_bitsOf 23 = .ok (.iload_n 2, 1) := by decide +kernel
theorem dX13_bitsOf_24 : decode cX13_bitsOf 24 = .ok (.iconst 1, 1) := by decide +kernel
theorem dX13_bitsOf_25 : decode cX13_bitsOf 25 = .ok (.isub, 1) := by decide +kernel
theorem dX13_bitsOf_26 : decode cX13_bitsOf 26 = .ok (.imul, 1) := by decide +kernel
theorem dX13_bitsOf_27 : decode cX13_bitsOf 27 = .ok (.iload_n 3, 1) := by decide +kernel
theorem dX13_bitsOf_28 : decode cX13_bitsOf 28 = .ok (.iadd, 1) := by decide +kernel
theorem dX13_bitsOf_29 : decode cX13_bitsOf 29 = .ok (.ireturn, 1) := by decide +kernel
abbrev rmX13_bitsOf : Room := { frames := 0, cells := 0, slots := 0, locals := 0 }
set_option maxHeartbeats 4000000 in
set_option maxRecDepth 100000 in
theorem wB_X13_bitsOf_3 {G : mG} {F : Nat} {x : mXT} {sz : Nat} {r0 : Int32} {M0 : mM} (X : mCX G RX13 cX13_bitsOf 4 (some .int) "bitsOf" rmX13_bitsOf x) (hQ : mQI x r0 M0 (sz, 0, 0)) : ∀ (n : Nat) (l0 : Nat) (l1 : Int32) (l2 : Int32) (l3 : Int32) (M : mM), B_X13_bitsOf_3 G F n l0 l1 l2 l3 M = some (r0, M0) → WW x (sz, 0, 0) M 3 [(0, .ref l0), (1, .int l1), (2, .int l2), (3, .int l3)] [] := by
  intro n
  induction n with
  | zero =>
    intro l0 l1 l2 l3 M h
    exact nomatch (show (none : Option (Int32 × mM)) = some (r0, M0) from h)
  | succ n ih =>
    intro l0 l1 l2 l3 M h
    rw [B_X13_bitsOf_3] at h
    refine ww_aload_n 3 X dX13_bitsOf_3 0 rfl rfl ?_
    refine ww_iload_n 4 X dX13_bitsOf_4 1 rfl rfl ?_
    obtain ⟨v5, e5, h⟩ := bO_some h
    refine ww_bald 5 X dX13_bitsOf_5 e5 ?_
    refine ww_iload_n 6 X dX13_bitsOf_6 3 rfl rfl ?_
    refine ww_iconst 7 X (v := (1 : Int32)) dX13_bitsOf_7 (by decide) ?_
    refine ww_isub 8 X dX13_bitsOf_8 ?_
    refine ww_ishr 9 X dX13_bitsOf_9 ?_
    refine ww_iconst 10 X (v := (1 : Int32)) dX13_bitsOf_10 (by decide) ?_
    refine ww_iand 11 X dX13_bitsOf_11 ?_
    refine ww_if_ne 12 21 X dX13_bitsOf_12 (by decide) (fun q => ?_) (fun q => ?_)
    · replace h := (if_neg q).symm.trans h
      refine ww_bipush 21 X (v := (8 : Int32)) dX13_bitsOf_21 (by decide) ?_
      refine ww_iload_n 23 X dX13_bitsOf_23 2 rfl rfl ?_
      refine ww_iconst 24 X (v := (1 : Int32)) dX13_bitsOf_24 (by decide) ?_
      refine ww_isub 25 X dX13_bitsOf_25 ?_
      refine ww_imul 26 X dX13_bitsOf_26 ?_
      refine ww_iload_n 27 X dX13_bitsOf_27 3 rfl rfl ?_
      refine ww_iadd 28 X dX13_bitsOf_28 ?_
      exact ww_iretE 29 X hQ dX13_bitsOf_29 h
    · replace h := (if_pos q).symm.trans h
      refine ww_iinc 15 X dX13_bitsOf_15 (lv' := [(0, .ref l0), (1, .int l1), (2, .int l2), (3, .int (l3 + (-1)))]) 3 rfl rfl (by decide) [1, 2, 3, 0] rfl ?_
      refine ww_goto 18 3 X dX13_bitsOf_18 (by decide) ?_
      exact (ih _ _ _ _ _ h)
set_option maxHeartbeats 4000000 in
set_option maxRecDepth 100000 in
theorem wP_X13_bitsOf {G : mG} {F : Nat} {x : mXT} {sz : Nat} {r0 : Int32} {M0 : mM} (X : mCX G RX13 cX13_bitsOf 4 (some .int) "bitsOf" rmX13_bitsOf x) (hQ : mQI x r0 M0 (sz, 0, 0)) {l0 : Nat} {l1 : Int32} {l2 : Int32} {M : mM} (h : P_X13_bitsOf G F l0 l1 l2 M = some (r0, M0)) : WW x (sz, 0, 0) M 0 [(0, .ref l0), (1, .int l1), (2, .int l2)] [] := by
  unfold P_X13_bitsOf at h
  refine ww_bipush 0 X (v := (8 : Int32)) dX13_bitsOf_0 (by decide) ?_
  refine ww_istore_n 2 X dX13_bitsOf_2 (lv' := [(0, .ref l0), (1, .int l1), (2, .int l2), (3, .int (8 : Int32))]) rfl (by decide) [1, 2, 3, 0] rfl ?_
  exact (wB_X13_bitsOf_3 X hQ F _ _ _ _ _ h)
theorem c_X13_bitsOf {G : mG} {F sz : Nat} {r0 : Int32} {M0 : mM} (l : Launch) (D : mD) (A : Nat → Prop) {l0 : Nat} {l1 : Int32} {l2 : Int32} {M : mM} (h : P_X13_bitsOf G F l0 l1 l2 M = some (r0, M0)) : mMetI l D G A yX13_bitsOf cX13_bitsOf 4 (some .int) 0 0 0 0 [.ref l0, .int l1, .int l2] M sz r0 M0 sz := mMetI_of l D G A (by decide) (Nat.le_of_ble_eq_true rfl) (fun x X hQ => wP_X13_bitsOf X hQ h)
/-! SealedTokensModel.saltOut([BIII)V -/
theorem dX13_saltOut_0 : decode cX13_saltOut 0 = .ok (.aload_n 0, 1) := by decide +kernel
theorem dX13_saltOut_1 : decode cX13_saltOut 1 = .ok (.invokevirtual 779, 3) := by decide +kernel
theorem dX13_saltOut_4 : decode cX13_saltOut 4 = .ok (.iload_n 3, 1) := by decide +kernel
theorem dX13_saltOut_5 : decode cX13_saltOut 5 = .ok (.bipush 7, 2) := by decide +kernel
theorem dX13_saltOut_7 : decode cX13_saltOut 7 = .ok (.iadd, 1) := by decide +kernel
theorem dX13_saltOut_8 : decode cX13_saltOut 8 = .ok (.bipush 8, 2) := by decide +kernel
theorem dX13_saltOut_10 : decode cX13_saltOut 10 = .ok (.idiv, 1) := by decide +kernel
theorem dX13_saltOut_11 : decode cX13_saltOut 11 = .ok (.istore 5, 2) := by decide +kernel
theorem dX13_saltOut_13 : decode cX13_saltOut 13 = .ok (.iload 4, 2) := by decide +kernel
theorem dX13_saltOut_15 : decode cX13_saltOut 15 = .ok (.iload 5, 2) := by decide +kernel
theorem dX13_saltOut_17 : decode cX13_saltOut 17 = .ok (.isub, 1) := by decide +kernel
theorem dX13_saltOut_18 : decode cX13_saltOut 18 = .ok (.istore 6, 2) := by decide +kernel
theorem dX13_saltOut_20 : decode cX13_saltOut 20 = .ok (.iconst 0, 1) := by decide +kernel
theorem dX13_saltOut_21 : decode cX13_saltOut 21 = .ok (.istore 7, 2) := by decide +kernel
theorem dX13_saltOut_23 : decode cX13_saltOut 23 = .ok (.iload 7, 2) := by decide +kernel
theorem dX13_saltOut_25 : decode cX13_saltOut 25 = .ok (.iload 4, 2) := by decide +kernel
theorem dX13_saltOut_27 : decode cX13_saltOut 27 = .ok (.if_icmp .ge 17, 3) := by decide +kernel
theorem dX13_saltOut_30 : decode cX13_saltOut 30 = .ok (.aload_n 0, 1) := by decide +kernel
theorem dX13_saltOut_31 : decode cX13_saltOut 31 = .ok (.getfield 195, 3) := by decide +kernel
theorem dX13_saltOut_34 : decode cX13_saltOut 34 = .ok (.iload 7, 2) := by decide +kernel
theorem dX13_saltOut_36 : decode cX13_saltOut 36 = .ok (.iconst 0, 1) := by decide +kernel
theorem dX13_saltOut_37 : decode cX13_saltOut 37 = .ok (.bastore, 1) := by decide +kernel
theorem dX13_saltOut_38 : decode cX13_saltOut 38 = .ok (.iinc 7 1, 3) := by decide +kernel
theorem dX13_saltOut_41 : decode cX13_saltOut 41 = .ok (.goto (-18), 3) := by decide +kernel
theorem dX13_saltOut_44 : decode cX13_saltOut 44 = .ok (.aload_n 0, 1) := by decide +kernel
theorem dX13_saltOut_45 : decode cX13_saltOut 45 = .ok (.getfield 76, 3) := by decide +kernel
theorem dX13_saltOut_48 : decode cX13_saltOut 48 = .ok (.iconst 0, 1) := by decide +kernel
theorem dX13_saltOut_49 : decode cX13_saltOut 49 = .ok (.aload_n 0, 1) := by decide +kernel
theorem dX13_saltOut_50 : decode cX13_saltOut 50 = .ok (.getfield 192, 3) := by decide +kernel
theorem dX13_saltOut_53 : decode cX13_saltOut 53 = .ok (.iconst 0, 1) := by decide +kernel
theorem dX13_saltOut_54 : decode cX13_saltOut 54 = .ok (.bipush 32, 2) := by decide +kernel
theorem dX13_saltOut_56 : decode cX13_saltOut 56 = .ok (.invokestatic 317, 3) := by decide +kernel
theorem dX13_saltOut_59 : decode cX13_saltOut 59 = .ok (.aload_n 0, 1) := by decide +kernel
theorem dX13_saltOut_60 : decode cX13_saltOut 60 = .ok (.invokevirtual 570, 3) := by decide +kernel
theorem dX13_saltOut_63 : decode cX13_saltOut 63 = .ok (.aload_n 0, 1) := by decide +kernel
theorem dX13_saltOut_64 : decode cX13_saltOut 64 = .ok (.lconst 0, 1) := by decide +kernel
theorem dX13_saltOut_65 : decode cX13_saltOut 65 = .ok (.bipush 8, 2) := by decide +kernel
theorem dX13_saltOut_67 : decode cX13_saltOut 67 = .ok (.invokevirtual 514, 3) := by decide +kernel
theorem dX13_saltOut_70 : decode cX13_saltOut 70 = .ok (.aload_n 0, 1) := by decide +kernel
theorem dX13_saltOut_71 : decode cX13_saltOut 71 = .ok (.aload_n 0, 1) := by decide +kernel
theorem dX13_saltOut_72 : decode cX13_saltOut 72 = .ok (.getfield 192, 3) := by decide +kernel
theorem dX13_saltOut_75 : decode cX13_saltOut 75 = .ok (.iconst 0, 1) := by decide +kernel
theorem dX13_saltOut_76 : decode cX13_saltOut 76 = .ok (.bipush 32, 2) := by decide +kernel
theorem dX13_saltOut_78 : decode cX13_saltOut 78 = .ok (.invokevirtual 573, 3) := by decide +kernel
theorem dX13_saltOut_81 : decode cX13_saltOut 81 = .ok (.aload_n 0, 1) := by decide +kernel
theorem dX13_saltOut_82 : decode cX13_saltOut 82 = .ok (.aload_n 1, 1) := by decide +kernel
theorem dX13_saltOut_83 : decode cX13_saltOut 83 = .ok (.iload_n 2, 1) := by decide +kernel
theorem dX13_saltOut_84 : decode cX13_saltOut 84 = .ok (.bipush 32, 2) := by decide +kernel
theorem dX13_saltOut_86 : decode cX13_saltOut 86 = .ok (.invokevirtual 573, 3) := by decide +kernel
theorem dX13_saltOut_89 : decode cX13_saltOut 89 = .ok (.aload_n 0, 1) := by decide +kernel
theorem dX13_saltOut_90 : decode cX13_saltOut 90 = .ok (.sipush 256, 3) := by decide +kernel
theorem dX13_saltOut_93 : decode cX13_saltOut 93 = .ok (.invokevirtual 576, 3) := by decide +kernel
theorem dX13_saltOut_96 : decode cX13_saltOut 96 = .ok (.istore 7, 2) := by decide +kernel
theorem dX13_saltOut_98 : decode cX13_saltOut 98 = .ok (.aload_n 0, 1) := by decide +kernel
theorem dX13_saltOut_99 : decode cX13_saltOut 99 = .ok (.getfield 76, 3) := by decide +kernel
theorem dX13_saltOut_102 : decode cX13_saltOut 102 = .ok (.iconst 0, 1) := by decide +kernel
theorem dX13_saltOut_103 : decode cX13_saltOut 103 = .ok (.aload_n 0, 1) := by decide +kernel
theorem dX13_saltOut_104 : decode cX13_saltOut 104 = .ok (.getfield 195, 3) := by decide +kernel
theorem dX13_saltOut_107 : decode cX13_saltOut 107 = .ok (.iload 6, 2) := by decide +kernel
theorem dX13_saltOut_109 : decode cX13_saltOut 109 = .ok (.iload 5, 2) := by decide +kernel
theorem dX13_saltOut_111 : decode cX13_saltOut 111 = .ok (.iadd, 1) := by decide +kernel
theorem dX13_saltOut_112 : decode cX13_saltOut 112 = .ok (.bipush 33, 2) := by decide +kernel
theorem dX13_saltOut_114 : decode cX13_saltOut 114 = .ok (.isub, 1) := by decide +kernel
theorem dX13_saltOut_115 : decode cX13_saltOut 115 = .ok (.bipush 32, 2) := by decide +kernel
theorem dX13_saltOut_117 : decode cX13_saltOut 117 = .ok (.invokestatic 317, 3) := by decide +kernel
theorem dX13_saltOut_120 : decode cX13_saltOut 120 = .ok (.aload_n 0, 1) := by decide +kernel
theorem dX13_saltOut_121 : decode cX13_saltOut 121 = .ok (.getfield 195, 3) := by decide +kernel
theorem dX13_saltOut_124 : decode cX13_saltOut 124 = .ok (.iload 6, 2) := by decide +kernel
theorem dX13_saltOut_126 : decode cX13_saltOut 126 = .ok (.iload 5, 2) := by decide +kernel
theorem dX13_saltOut_128 : decode cX13_saltOut 128 = .ok (.iadd, 1) := by decide +kernel
theorem dX13_saltOut_129 : decode cX13_saltOut 129 = .ok (.bipush 66, 2) := by decide +kernel
theorem dX13_saltOut_131 : decode cX13_saltOut 131 = .ok (.isub, 1) := by decide +kernel
theorem dX13_saltOut_132 : decode cX13_saltOut 132 = .ok (.iconst 1, 1) := by decide +kernel
theorem dX13_saltOut_133 : decode cX13_saltOut 133 = .ok (.bastore, 1) := by decide +kernel
theorem dX13_saltOut_134 : decode cX13_saltOut 134 = .ok (.aload_n 1, 1) := by decide +kernel
theorem dX13_saltOut_135 : decode cX13_saltOut 135 = .ok (.iload_n 2, 1) := by decide +kernel
theorem dX13_saltOut_136 : decode cX13_saltOut 136 = .ok (.aload_n 0, 1) := by decide +kernel
theorem dX13_saltOut_137 : decode cX13_saltOut 137 = .ok (.getfield 195, 3) := by decide +kernel
theorem dX13_saltOut_140 : decode cX13_saltOut 140 = .ok (.iload 6, 2) := by decide +kernel
theorem dX13_saltOut_142 : decode cX13_saltOut 142 = .ok (.iload 5, 2) := by decide +kernel
theorem dX13_saltOut_144 : decode cX13_saltOut 144 = .ok (.iadd, 1) := by decide +kernel
theorem dX13_saltOut_145 : decode cX13_saltOut 145 = .ok (.bipush 65, 2) := by decide +kernel
theorem dX13_saltOut_147 : decode cX13_saltOut 147 = .ok (.isub, 1) := by decide +kernel
theorem dX13_saltOut_148 : decode cX13_saltOut 148 = .ok (.bipush 32, 2) := by decide +kernel
theorem dX13_saltOut_150 : decode cX13_saltOut 150 = .ok (.invokestatic 317, 3) := by decide +kernel
theorem dX13_saltOut_153 : decode cX13_saltOut 153 = .ok (.aload_n 0, 1) := by decide +kernel
theorem dX13_saltOut_154 : decode cX13_saltOut 154 = .ok (.aload_n 0, 1) := by decide +kernel
theorem dX13_saltOut_155 : decode cX13_saltOut 155 = .ok (.getfield 195, 3) := by decide +kernel
theorem dX13_saltOut_158 : decode cX13_saltOut 158 = .ok (.iload 6, 2) := by decide +kernel
theorem dX13_saltOut_160 : decode cX13_saltOut 160 = .ok (.iload 5, 2) := by decide +kernel
theorem dX13_saltOut_162 : decode cX13_saltOut 162 = .ok (.iadd, 1) := by decide +kernel
theorem dX13_saltOut_163 : decode cX13_saltOut 163 = .ok (.bipush 33, 2) := by decide +kernel
theorem dX13_saltOut_165 : decode cX13_saltOut 165 = .ok (.isub, 1) := by decide +kernel
theorem dX13_saltOut_166 : decode cX13_saltOut 166 = .ok (.bipush 32, 2) := by decide +kernel
theorem dX13_saltOut_168 : decode cX13_saltOut 168 = .ok (.aload_n 0, 1) := by decide +kernel
theorem dX13_saltOut_169 : decode cX13_saltOut 169 = .ok (.getfield 195, 3) := by decide +kernel
theorem dX13_saltOut_172 : decode cX13_saltOut 172 = .ok (.iload 6, 2) := by decide +kernel
theorem dX13_saltOut_174 : decode cX13_saltOut 174 = .ok (.iload 5, 2) := by decide +kernel
theorem dX13_saltOut_176 : decode cX13_saltOut 176 = .ok (.bipush 33, 2) := by decide +kernel
theorem dX13_saltOut_178 : decode cX13_saltOut 178 = .ok (.isub, 1) := by decide +kernel
theorem dX13_saltOut_179 : decode cX13_saltOut 179 = .ok (.invokevirtual 784, 3) := by decide +kernel
theorem dX13_saltOut_182 : decode cX13_saltOut 182 = .ok (.aload_n 0, 1) := by decide +kernel
theorem dX13_saltOut_183 : decode cX13_saltOut 183 = .ok (.getfield 195, 3) := by decide +kernel
theorem dX13_saltOut_186 : decode cX13_saltOut 186 = .ok (.iload 6, 2) := by decide +kernel
theorem dX13_saltOut_188 : decode cX13_saltOut 188 = .ok (.dup2, 1) := by decide +kernel
theorem dX13_saltOut_189 : decode cX13_saltOut 189 = .ok (.baload, 1) := by decide +kernel
theorem dX13_saltOut_190 : decode cX13_saltOut 190 = .ok (.sipush 255, 3) := by decide +kernel
theorem dX13_saltOut_193 : decode cX13_saltOut 193 = .ok (.bipush 8, 2) := by decide +kernel
theorem dX13_saltOut_195 : decode cX13_saltOut 195 = .ok (.iload 5, 2) := by decide +kernel
theorem dX13_saltOut_197 : decode cX13_saltOut 197 = .ok (.imul, 1) := by decide +kernel
theorem dX13_saltOut_198 : decode cX13_saltOut 198 = .ok (.iload_n 3, 1) := by decide +kernel
theorem dX13_saltOut_199 : decode cX13_saltOut 199 = .ok (.isub, 1) := by decide +kernel
theorem dX13_saltOut_200 : decode cX13_saltOut 200 = .ok (.ishr, 1) := by decide +kernel
theorem dX13_saltOut_201 : decode cX13_saltOut 201 = .ok (.i2b, 1) := by decide +kernel
theorem dX13_saltOut_202 : decode cX13_saltOut 202 = .ok (.iand, 1) := by decide +kernel
theorem dX13_saltOut_203 : decode cX13_saltOut 203 = .ok (.i2b, 1) := by decide +kernel
theorem dX13_saltOut_204 : decode cX13_saltOut 204 = .ok (.bastore, 1) := by decide +kernel
theorem dX13_saltOut_205 : decode cX13_saltOut 205 = .ok (.aload_n 0, 1) := by decide +kernel
theorem dX13_saltOut_206 : decode cX13_saltOut 206 = .ok (.getfield 195, 3) := by decide +kernel
theorem dX13_saltOut_209 : decode cX13_saltOut 209 = .ok (.iload 4, 2) := by decide +kernel
theorem dX13_saltOut_211 : decode cX13_saltOut 211 = .ok (.iconst 1, 1) := by decide +kernel
theorem dX13_saltOut_212 : decode cX13_saltOut 212 = .ok (.isub, 1) := by decide +kernel
theorem dX13_saltOut_213 : decode cX13_saltOut 213 = .ok (.bipush (-68), 2) := by decide +kernel
theorem dX13_saltOut_215 : decode cX13_saltOut 215 = .ok (.bastore, 1) := by decide +kernel
theorem dX13_saltOut_216 : decode cX13_saltOut 216 = .ok (.return_, 1) := by decide +kernel
abbrev rmX13_saltOut : Room := { frames := 6, cells := 0, slots := 0, locals := 145 }
set_option maxHeartbeats 4000000 in
set_option maxRecDepth 100000 in
theorem wB_X13_saltOut_23 {G : mG} {F : Nat} {x : mXT} {sz : Nat} {M0 : mM} (X : mCX G RX13 cX13_saltOut 8 none "saltOut" rmX13_saltOut x) (hQ : mQV x M0 (sz, 0, 0)) : ∀ (n : Nat) (l0 : Nat) (l1 : Nat) (l2 : Int32) (l3 : Int32) (l4 : Int32) (l5 : Int32) (l6 : Int32) (l7 : Int32) (M : mM), B_X13_saltOut_23 G F n l0 l1 l2 l3 l4 l5 l6 l7 M = some M0 → WW x (sz, 0, 0) M 23 [(0, .ref l0), (1, .ref l1), (2, .int l2), (3, .int l3), (4, .int l4), (5, .int l5), (6, .int l6), (7, .int l7)] [] := by
  intro n
  induction n with
  | zero =>
    intro l0 l1 l2 l3 l4 l5 l6 l7 M h
    exact nomatch (show (none : Option mM) = some M0 from h)
  | succ n ih =>
    intro l0 l1 l2 l3 l4 l5 l6 l7 M h
    rw [B_X13_saltOut_23] at h
    refine ww_iload 23 X dX13_saltOut_23 7 rfl ?_
    refine ww_iload 25 X dX13_saltOut_25 4 rfl ?_
    refine ww_icmp_ge 27 44 X dX13_saltOut_27 (by decide) (fun q => ?_) (fun q => ?_)
    · replace h := (if_pos q).symm.trans h
      refine ww_aload_n 44 X dX13_saltOut_44 0 rfl rfl ?_
      obtain ⟨v45, e45, h⟩ := bO_some h
      refine ww_getR 45 X dX13_saltOut_45 fG_X13_76 e45 ?_
      refine ww_iconst 48 X (v := (0 : Int32)) dX13_saltOut_48 (by decide) ?_
      refine ww_aload_n 49 X dX13_saltOut_49 0 rfl rfl ?_
      obtain ⟨v50, e50, h⟩ := bO_some h
      refine ww_getR 50 X dX13_saltOut_50 fG_X13_192 e50 ?_
      refine ww_iconst 53 X (v := (0 : Int32)) dX13_saltOut_53 (by decide) ?_
      refine ww_bipush 54 X (v := (32 : Int32)) dX13_saltOut_54 (by decide) ?_
      obtain ⟨M56, e56, h⟩ := bO_some h
      refine ww_callSV0 56 X dX13_saltOut_56 mY_X13_move mL_X13_317 (As := [.ref v45, .int (0 : Int32), .ref v50, .int (0 : Int32), .int (32 : Int32)]) (rest := []) rfl rfl ⟨Nat.le_of_ble_eq_true rfl, Nat.le_of_ble_eq_true rfl⟩ (Nat.le_of_ble_eq_true rfl) (fun l D A => c_X13_move l D A e56) ?_
      refine ww_aload_n 59 X dX13_saltOut_59 0 rfl rfl ?_
      obtain ⟨_, f60, h⟩ := bO_some h
      obtain ⟨M60, e60, h⟩ := bO_some h
      refine ww_callVV0 60 X dX13_saltOut_60 mY_X13_empty mL_X13_570 (rcv_spec f60) ⟨_, _, rfl⟩ (by decide) (As := []) (rest := []) rfl rfl ⟨Nat.le_of_ble_eq_true rfl, Nat.le_of_ble_eq_true rfl⟩ (Nat.le_of_ble_eq_true rfl) (fun l D A => c_X13_empty l D A e60) ?_
      refine ww_aload_n 63 X dX13_saltOut_63 0 rfl rfl ?_
      refine ww_lconst 64 X (v := (0 : Int64)) dX13_saltOut_64 (by decide) ?_
      refine ww_bipush 65 X (v := (8 : Int32)) dX13_saltOut_65 (by decide) ?_
      obtain ⟨_, f67, h⟩ := bO_some h
      obtain ⟨M67, e67, h⟩ := bO_some h
      refine ww_callVV0 67 X dX13_saltOut_67 mY_X13_layNumber mL_X13_514 (rcv_spec f67) ⟨_, _, rfl⟩ (by decide) (As := [.long (0 : Int64), .int (8 : Int32)]) (rest := []) rfl rfl ⟨Nat.le_of_ble_eq_true rfl, Nat.le_of_ble_eq_true rfl⟩ (Nat.le_of_ble_eq_true rfl) (fun l D A => c_X13_layNumber l D A e67) ?_
      refine ww_aload_n 70 X dX13_saltOut_70 0 rfl rfl ?_
      refine ww_aload_n 71 X dX13_saltOut_71 0 rfl rfl ?_
      obtain ⟨v72, e72, h⟩ := bO_some h
      refine ww_getR 72 X dX13_saltOut_72 fG_X13_192 e72 ?_
      refine ww_iconst 75 X (v := (0 : Int32)) dX13_saltOut_75 (by decide) ?_
      refine ww_bipush 76 X (v := (32 : Int32)) dX13_saltOut_76 (by decide) ?_
      obtain ⟨_, f78, h⟩ := bO_some h
      obtain ⟨M78, e78, h⟩ := bO_some h
      refine ww_callVV0 78 X dX13_saltOut_78 mY_X13_lay mL_X13_573 (rcv_spec f78) ⟨_, _, rfl⟩ (by decide) (As := [.ref v72, .int (0 : Int32), .int (32 : Int32)]) (rest := []) rfl rfl ⟨Nat.le_of_ble_eq_true rfl, Nat.le_of_ble_eq_true rfl⟩ (Nat.le_of_ble_eq_true rfl) (fun l D A => c_X13_lay l D A e78) ?_
      refine ww_aload_n 81 X dX13_saltOut_81 0 rfl rfl ?_
      refine ww_aload_n 82 X dX13_saltOut_82 1 rfl rfl ?_
      refine ww_iload_n 83 X dX13_saltOut_83 2 rfl rfl ?_
      refine ww_bipush 84 X (v := (32 : Int32)) dX13_saltOut_84 (by decide) ?_
      obtain ⟨_, f86, h⟩ := bO_some h
      obtain ⟨M86, e86, h⟩ := bO_some h
      refine ww_callVV0 86 X dX13_saltOut_86 mY_X13_lay mL_X13_573 (rcv_spec f86) ⟨_, _, rfl⟩ (by decide) (As := [.ref l1, .int l2, .int (32 : Int32)]) (rest := []) rfl rfl ⟨Nat.le_of_ble_eq_true rfl, Nat.le_of_ble_eq_true rfl⟩ (Nat.le_of_ble_eq_true rfl) (fun l D A => c_X13_lay l D A e86) ?_
      refine ww_aload_n 89 X dX13_saltOut_89 0 rfl rfl ?_
      refine ww_sipush 90 X (v := (256 : Int32)) dX13_saltOut_90 (by decide) ?_
      obtain ⟨_, f93, h⟩ := bO_some h
      obtain ⟨v93, M93, e93, h⟩ := bP_some h
      refine ww_callVI0 93 X dX13_saltOut_93 mY_X13_digestOf mL_X13_576 (rcv_spec f93) ⟨_, _, rfl⟩ (by decide) (As := [.int (256 : Int32)]) (rest := []) rfl rfl ⟨Nat.le_of_ble_eq_true rfl, Nat.le_of_ble_eq_true rfl⟩ (Nat.le_of_ble_eq_true rfl) (fun l D A => c_X13_digestOf l D A e93) ?_
      refine ww_istore 96 X dX13_saltOut_96 (lv' := [(0, .ref l0), (1, .ref l1), (2, .int l2), (3, .int l3), (4, .int l4), (5, .int l5), (6, .int l6), (7, .int v93)]) (by decide) [1, 2, 3, 4, 5, 6, 7, 0] rfl ?_
      refine ww_aload_n 98 X dX13_saltOut_98 0 rfl rfl ?_
      obtain ⟨v99, e99, h⟩ := bO_some h
      refine ww_getR 99 X dX13_saltOut_99 fG_X13_76 e99 ?_
      refine ww_iconst 102 X (v := (0 : Int32)) dX13_saltOut_102 (by decide) ?_
      refine ww_aload_n 103 X dX13_saltOut_103 0 rfl rfl ?_
      obtain ⟨v104, e104, h⟩ := bO_some h
      refine ww_getR 104 X dX13_saltOut_104 fG_X13_195 e104 ?_
      refine ww_iload 107 X dX13_saltOut_107 6 rfl ?_
      refine ww_iload 109 X dX13_saltOut_109 5 rfl ?_
      refine ww_iadd 111 X dX13_saltOut_111 ?_
      refine ww_bipush 112 X (v := (33 : Int32)) dX13_saltOut_112 (by decide) ?_
      refine ww_isub 114 X dX13_saltOut_114 ?_
      refine ww_bipush 115 X (v := (32 : Int32)) dX13_saltOut_115 (by decide) ?_
      obtain ⟨M117, e117, h⟩ := bO_some h
      refine ww_callSV0 117 X dX13_saltOut_117 mY_X13_move mL_X13_317 (As := [.ref v99, .int (0 : Int32), .ref v104, .int ((l6 + l5) - (33 : Int32)), .int (32 : Int32)]) (rest := []) rfl rfl ⟨Nat.le_of_ble_eq_true rfl, Nat.le_of_ble_eq_true rfl⟩ (Nat.le_of_ble_eq_true rfl) (fun l D A => c_X13_move l D A e117) ?_
      refine ww_aload_n 120 X dX13_saltOut_120 0 rfl rfl ?_
      obtain ⟨v121, e121, h⟩ := bO_some h
      refine ww_getR 121 X dX13_saltOut_121 fG_X13_195 e121 ?_
      refine ww_iload 124 X dX13_saltOut_124 6 rfl ?_
      refine ww_iload 126 X dX13_saltOut_126 5 rfl ?_
      refine ww_iadd 128 X dX13_saltOut_128 ?_
      refine ww_bipush 129 X (v := (66 : Int32)) dX13_saltOut_129 (by decide) ?_
      refine ww_isub 131 X dX13_saltOut_131 ?_
      refine ww_iconst 132 X (v := (1 : Int32)) dX13_saltOut_132 (by decide) ?_
      obtain ⟨M133, e133, h⟩ := bO_some h
      refine ww_bast 133 X dX13_saltOut_133 e133 ?_
      refine ww_aload_n 134 X dX13_saltOut_134 1 rfl rfl ?_
      refine ww_iload_n 135 X dX13_saltOut_135 2 rfl rfl ?_
      refine ww_aload_n 136 X dX13_saltOut_136 0 rfl rfl ?_
      obtain ⟨v137, e137, h⟩ := bO_some h
      refine ww_getR 137 X dX13_saltOut_137 fG_X13_195 e137 ?_
      refine ww_iload 140 X dX13_saltOut_140 6 rfl ?_
      refine ww_iload 142 X dX13_saltOut_142 5 rfl ?_
      refine ww_iadd 144 X dX13_saltOut_144 ?_
      refine ww_bipush 145 X (v := (65 : Int32)) dX13_saltOut_145 (by decide) ?_
      refine ww_isub 147 X dX13_saltOut_147 ?_
      refine ww_bipush 148 X (v := (32 : Int32)) dX13_saltOut_148 (by decide) ?_
      obtain ⟨M150, e150, h⟩ := bO_some h
      refine ww_callSV0 150 X dX13_saltOut_150 mY_X13_move mL_X13_317 (As := [.ref l1, .int l2, .ref v137, .int ((l6 + l5) - (65 : Int32)), .int (32 : Int32)]) (rest := []) rfl rfl ⟨Nat.le_of_ble_eq_true rfl, Nat.le_of_ble_eq_true rfl⟩ (Nat.le_of_ble_eq_true rfl) (fun l D A => c_X13_move l D A e150) ?_
      refine ww_aload_n 153 X dX13_saltOut_153 0 rfl rfl ?_
      refine ww_aload_n 154 X dX13_saltOut_154 0 rfl rfl ?_
      obtain ⟨v155, e155, h⟩ := bO_some h
      refine ww_getR 155 X dX13_saltOut_155 fG_X13_195 e155 ?_
      refine ww_iload 158 X dX13_saltOut_158 6 rfl ?_
      refine ww_iload 160 X dX13_saltOut_160 5 rfl ?_
      refine ww_iadd 162 X dX13_saltOut_162 ?_
      refine ww_bipush 163 X (v := (33 : Int32)) dX13_saltOut_163 (by decide) ?_
      refine ww_isub 165 X dX13_saltOut_165 ?_
      refine ww_bipush 166 X (v := (32 : Int32)) dX13_saltOut_166 (by decide) ?_
      refine ww_aload_n 168 X dX13_saltOut_168 0 rfl rfl ?_
      obtain ⟨v169, e169, h⟩ := bO_some h
      refine ww_getR 169 X dX13_saltOut_169 fG_X13_195 e169 ?_
      refine ww_iload 172 X dX13_saltOut_172 6 rfl ?_
      refine ww_iload 174 X dX13_saltOut_174 5 rfl ?_
      refine ww_bipush 176 X (v := (33 : Int32)) dX13_saltOut_176 (by decide) ?_
      refine ww_isub 178 X dX13_saltOut_178 ?_
      obtain ⟨_, f179, h⟩ := bO_some h
      obtain ⟨M179, e179, h⟩ := bO_some h
      refine ww_callVV0 179 X dX13_saltOut_179 mY_X13_maskOn mL_X13_784 (rcv_spec f179) ⟨_, _, rfl⟩ (by decide) (As := [.ref v155, .int ((l6 + l5) - (33 : Int32)), .int (32 : Int32), .ref v169, .int l6, .int (l5 - (33 : Int32))]) (rest := []) rfl rfl ⟨Nat.le_of_ble_eq_true rfl, Nat.le_of_ble_eq_true rfl⟩ (Nat.le_of_ble_eq_true rfl) (fun l D A => c_X13_maskOn l D A e179) ?_
      refine ww_aload_n 182 X dX13_saltOut_182 0 rfl rfl ?_
      obtain ⟨v183, e183, h⟩ := bO_some h
      refine ww_getR 183 X dX13_saltOut_183 fG_X13_195 e183 ?_
      refine ww_iload 186 X dX13_saltOut_186 6 rfl ?_
      refine ww_dup2_11 188 X dX13_saltOut_188 rfl rfl ?_
      obtain ⟨v189, e189, h⟩ := bO_some h
      refine ww_bald 189 X dX13_saltOut_189 e189 ?_
      refine ww_sipush 190 X (v := (255 : Int32)) dX13_saltOut_190 (by decide) ?_
      refine ww_bipush 193 X (v := (8 : Int32)) dX13_saltOut_193 (by decide) ?_
      refine ww_iload 195 X dX13_saltOut_195 5 rfl ?_
      refine ww_imul 197 X dX13_saltOut_197 ?_
      refine ww_iload_n 198 X dX13_saltOut_198 3 rfl rfl ?_
      refine ww_isub 199 X dX13_saltOut_199 ?_
      refine ww_ishr 200 X dX13_saltOut_200 ?_
      refine ww_i2b 201 X dX13_saltOut_201 ?_
      refine ww_iand 202 X dX13_saltOut_202 ?_
      refine ww_i2b 203 X dX13_saltOut_203 ?_
      obtain ⟨M204, e204, h⟩ := bO_some h
      refine ww_bast 204 X dX13_saltOut_204 e204 ?_
      refine ww_aload_n 205 X dX13_saltOut_205 0 rfl rfl ?_
      obtain ⟨v206, e206, h⟩ := bO_some h
      refine ww_getR 206 X dX13_saltOut_206 fG_X13_195 e206 ?_
      refine ww_iload 209 X dX13_saltOut_209 4 rfl ?_
      refine ww_iconst 211 X (v := (1 : Int32)) dX13_saltOut_211 (by decide) ?_
      refine ww_isub 212 X dX13_saltOut_212 ?_
      refine ww_bipush 213 X (v := (-68 : Int32)) dX13_saltOut_213 (by decide) ?_
      obtain ⟨M215, e215, h⟩ := bO_some h
      refine ww_bast 215 X dX13_saltOut_215 e215 ?_
      exact ww_vretE 216 X hQ dX13_saltOut_216 h
    · replace h := (if_neg q).symm.trans h
      refine ww_aload_n 30 X dX13_saltOut_30 0 rfl rfl ?_
      obtain ⟨v31, e31, h⟩ := bO_some h
      refine ww_getR 31 X dX13_saltOut_31 fG_X13_195 e31 ?_
      refine ww_iload 34 X dX13_saltOut_34 7 rfl ?_
      refine ww_iconst 36 X (v := (0 : Int32)) dX13_saltOut_36 (by decide) ?_
      obtain ⟨M37, e37, h⟩ := bO_some h
      refine ww_bast 37 X dX13_saltOut_37 e37 ?_
      refine ww_iinc 38 X dX13_saltOut_38 (lv' := [(0, .ref l0), (1, .ref l1), (2, .int l2), (3, .int l3), (4, .int l4), (5, .int l5), (6, .int l6), (7, .int (l7 + 1))]) 7 rfl rfl (by decide) [1, 2, 3, 4, 5, 6, 7, 0] rfl ?_
      refine ww_goto 41 23 X dX13_saltOut_41 (by decide) ?_
      exact (ih _ _ _ _ _ _ _ _ _ h)
set_option maxHeartbeats 4000000 in
set_option maxRecDepth 100000 in
theorem wP_X13_saltOut {G : mG} {F : Nat} {x : mXT} {sz : Nat} {M0 : mM} (X : mCX G RX13 cX13_saltOut 8 none "saltOut" rmX13_saltOut x) (hQ : mQV x M0 (sz, 0, 0)) {l0 : Nat} {l1 : Nat} {l2 : Int32} {l3 : Int32} {l4 : Int32} {M : mM} (h : P_X13_saltOut G F l0 l1 l2 l3 l4 M = some M0) : WW x (sz, 0, 0) M 0 [(0, .ref l0), (1, .ref l1), (2, .int l2), (3, .int l3), (4, .int l4)] [] := by
  unfold P_X13_saltOut at h
  refine ww_aload_n 0 X dX13_saltOut_0 0 rfl rfl ?_
  obtain ⟨_, f1, h⟩ := bO_some h
  obtain ⟨M1, e1, h⟩ := bO_some h
  refine ww_callVV0 1 X dX13_saltOut_1 mY_X13_digestMessage mL_X13_779 (rcv_spec f1) ⟨_, _, rfl⟩ (by decide) (As := []) (rest := []) rfl rfl ⟨Nat.le_of_ble_eq_true rfl, Nat.le_of_ble_eq_true rfl⟩ (Nat.le_of_ble_eq_true rfl) (fun l D A => c_X13_digestMessage l D A e1) ?_
  refine ww_iload_n 4 X dX13_saltOut_4 3 rfl rfl ?_
  refine ww_bipush 5 X (v := (7 : Int32)) dX13_saltOut_5 (by decide) ?_
  refine ww_iadd 7 X dX13_saltOut_7 ?_
  refine ww_bipush 8 X (v := (8 : Int32)) dX13_saltOut_8 (by decide) ?_
  refine ww_idiv 10 X (v := ((l3 + (7 : Int32)) / (8 : Int32))) dX13_saltOut_10 rfl ?_
  refine ww_istore 11 X dX13_saltOut_11 (lv' := [(0, .ref l0), (1, .ref l1), (2, .int l2), (3, .int l3), (4, .int l4), (5, .int ((l3 + (7 : Int32)) / (8 : Int32)))]) (by decide) [1, 2, 3, 4, 5, 0] rfl ?_
  refine ww_iload 13 X dX13_saltOut_13 4 rfl ?_
  refine ww_iload 15 X dX13_saltOut_15 5 rfl ?_
  refine ww_isub 17 X dX13_saltOut_17 ?_
  refine ww_istore 18 X dX13_saltOut_18 (lv' := [(0, .ref l0), (1, .ref l1), (2, .int l2), (3, .int l3), (4, .int l4), (5, .int ((l3 + (7 : Int32)) / (8 : Int32))), (6, .int (l4 - ((l3 + (7 : Int32)) / (8 : Int32))))]) (by decide) [1, 2, 3, 4, 5, 6, 0] rfl ?_
  refine ww_iconst 20 X (v := (0 : Int32)) dX13_saltOut_20 (by decide) ?_
  refine ww_istore 21 X dX13_saltOut_21 (lv' := [(0, .ref l0), (1, .ref l1), (2, .int l2), (3, .int l3), (4, .int l4), (5, .int ((l3 + (7 : Int32)) / (8 : Int32))), (6, .int (l4 - ((l3 + (7 : Int32)) / (8 : Int32)))), (7, .int (0 : Int32))]) (by decide) [1, 2, 3, 4, 5, 6, 7, 0] rfl ?_
  exact (wB_X13_saltOut_23 X hQ F _ _ _ _ _ _ _ _ _ h)
theorem c_X13_saltOut {G : mG} {F sz : Nat} {M0 : mM} (l : Launch) (D : mD) (A : Nat → Prop) {l0 : Nat} {l1 : Nat} {l2 : Int32} {l3 : Int32} {l4 : Int32} {M : mM} (h : P_X13_saltOut G F l0 l1 l2 l3 l4 M = some M0) : mMetV l D G A yX13_saltOut cX13_saltOut 8 none 6 145 0 0 [.ref l0, .ref l1, .int l2, .int l3, .int l4] M sz M0 sz := mMetV_of l D G A (by decide) (Nat.le_of_ble_eq_true rfl) (fun x X hQ => wP_X13_saltOut X hQ h)
/-! SealedTokensModel.isSalted(II)Z -/
theorem dX13_isSalted_0 : decode cX13_isSalted 0 = .ok (.iload_n 1, 1) := by decide +kernel
theorem dX13_isSalted_1 : decode cX13_isSalted 1 = .ok (.bipush 7, 2) := by decide +kernel
theorem dX13_isSalted_3 : decode cX13_isSalted 3 = .ok (.iadd, 1) := by decide +kernel
theorem dX13_isSalted_4 : decode cX13_isSalted 4 = .ok (.bipush 8, 2) := by decide +kernel
theorem dX13_isSalted_6 : decode cX13_isSalted 6 = .ok (.idiv, 1) := by decide +kernel
theorem dX13_isSalted_7 : decode cX13_isSalted 7 = .ok (.istore_n 3, 1) := by decide +kernel
theorem dX13_isSalted_8 : decode cX13_isSalted 8 = .ok (.iload_n 2, 1) := by decide +kernel
theorem dX13_isSalted_9 : decode cX13_isSalted 9 = .ok (.iload_n 3, 1) := by decide +kernel
theorem dX13_isSalted_10 : decode cX13_isSalted 10 = .ok (.isub, 1) := by decide +kernel
theorem dX13_isSalted_11 : decode cX13_isSalted 11 = .ok (.istore 4, 2) := by decide +kernel
theorem dX13_isSalted_13 : decode cX13_isSalted 13 = .ok (.iload 4, 2) := by decide +kernel
theorem dX13_isSalted_15 : decode cX13_isSalted 15 = .ok (.ifCond .le 12, 3) := by decide +kernel
theorem dX13_isSalted_18 : decode cX13_isSalted 18 = .ok (.aload_n 0, 1) := by decide +kernel
theorem dX13_isSalted_19 : decode cX13_isSalted 19 = .ok (.getfield 138, 3) := by decide +kernel
theorem dX13_isSalted_22 : decode cX13_isSalted 22 = .ok (.iconst 0, 1) := by decide +kernel
theorem dX13_isSalted_23 : decode cX13_isSalted 23 = .ok (.baload, 1) := by decide +kernel
theorem dX13_isSalted_24 : decode cX13_isSalted 24 = .ok (.ifCond .ne 40, 3) := by decide +kernel
theorem dX13_isSalted_27 : decode cX13_isSalted 27 = .ok (.aload_n 0, 1) := by decide +kernel
theorem dX13_isSalted_28 : decode cX13_isSalted 28 = .ok (.getfield 138, 3) := by decide +kernel
theorem dX13_isSalted_31 : decode cX13_isSalted 31 = .ok (.iload_n 2, 1) := by decide +kernel
theorem dX13_isSalted_32 : decode cX13_isSalted 32 = .ok (.iconst 1, 1) := by decide +kernel
theorem dX13_isSalted_33 : decode cX13_isSalted 33 = .ok (.isub, 1) := by decide +kernel
theorem dX13_isSalted_34 : decode cX13_isSalted 34 = .ok (.baload, 1) := by decide +kernel
theorem dX13_isSalted_35 : decode cX13_isSalted 35 = .ok (.bipush (-68), 2) := by decide +kernel
theorem dX13_isSalted_37 : decode cX13_isSalted 37 = .ok (.if_icmp .ne 27, 3) := by decide +kernel
theorem dX13_isSalted_40 : decode cX13_isSalted 40 = .ok (.aload_n 0, 1) := by decide +kernel
theorem dX13_isSalted_41 : decode cX13_isSalted 41 = .ok (.getfield 138, 3) := by decide +kernel
theorem dX13_isSalted_44 : decode cX13_isSalted 44 = .ok (.iload 4, 2) := by decide +kernel
theorem dX13_isSalted_46 : decode cX13_isSalted 46 = .ok (.baload, 1) := by decide +kernel
theorem dX13_isSalted_47 : decode cX13_isSalted 47 = .ok (.sipush 255, 3) := by decide +kernel
theorem dX13_isSalted_50 : decode cX13_isSalted 50 = .ok (.iand, 1) := by decide +kernel
theorem dX13_isSalted_51 : decode cX13_isSalted 51 = .ok (.bipush 8, 2) := by decide +kernel
theorem dX13_isSalted_53 : decode cX13_isSalted 53 = .ok (.bipush 8, 2) := by decide +kernel
theorem dX13_isSalted_55 : decode cX13_isSalted 55 = .ok (.iload_n 3, 1) := by decide +kernel
theorem dX13_isSalted_56 : decode cX13_isSalted 56 = .ok (.imul, 1) := by decide +kernel
theorem dX13_isSalted_57 : decode cX13_isSalted 57 = .ok (.iload_n 1, 1) := by decide +kernel
theorem dX13_isSalted_58 : decode cX13_isSalted 58 = .ok (.isub, 1) := by decide +kernel
theorem dX13_isSalted_59 : decode cX13_isSalted 59 = .ok (.isub, 1) := by decide +kernel
theorem dX13_isSalted_60 : decode cX13_isSalted 60 = .ok (.ishr, 1) := by decide +kernel
theorem dX13_isSalted_61 : decode cX13_isSalted 61 = .ok (.ifCond .eq 5, 3) := by decide +kernel
theorem dX13_isSalted_64 : decode cX13_isSalted 64 = .ok (.iconst 0, 1) := by decide +kernel
theorem dX13_isSalted_65 : decode cX13_isSalted 65 = .ok (.ireturn, 1) := by decide +kernel
theorem dX13_isSalted_66 : decode cX13_isSalted 66 = .ok (.aload_n 0, 1) := by decide +kernel
theorem dX13_isSalted_67 : decode cX13_isSalted 67 = .ok (.getfield 138, 3) := by decide +kernel
theorem dX13_isSalted_70 : decode cX13_isSalted 70 = .ok (.iconst 0, 1) := by decide +kernel
theorem dX13_isSalted_71 : decode cX13_isSalted 71 = .ok (.aload_n 0, 1) := by decide +kernel
theorem dX13_isSalted_72 : decode cX13_isSalted 72 = .ok (.getfield 195, 3) := by decide +kernel
theorem dX13_isSalted_75 : decode cX13_isSalted 75 = .ok (.iconst 0, 1) := by decide +kernel
theorem dX13_isSalted_76 : decode cX13_isSalted 76 = .ok (.iload_n 2, 1) := by decide +kernel
theorem dX13_isSalted_77 : decode cX13_isSalted 77 = .ok (.invokestatic 317, 3) := by decide +kernel
theorem dX13_isSalted_80 : decode cX13_isSalted 80 = .ok (.aload_n 0, 1) := by decide +kernel
theorem dX13_isSalted_81 : decode cX13_isSalted 81 = .ok (.aload_n 0, 1) := by decide +kernel
theorem dX13_isSalted_82 : decode cX13_isSalted 82 = .ok (.getfield 195, 3) := by decide +kernel
theorem dX13_isSalted_85 : decode cX13_isSalted 85 = .ok (.iload 4, 2) := by decide +kernel
theorem dX13_isSalted_87 : decode cX13_isSalted 87 = .ok (.iload_n 3, 1) := by decide +kernel
theorem dX13_isSalted_88 : decode cX13_isSalted 88 = .ok (.iadd, 1) := by decide +kernel
theorem dX13_isSalted_89 : decode cX13_isSalted 89 = .ok (.bipush 33, 2) := by decide +kernel
theorem dX13_isSalted_91 : decode cX13_isSalted 91 = .ok (.isub, 1) := by decide +kernel
theorem dX13_isSalted_92 : decode cX13_isSalted 92 = .ok (.bipush 32, 2) := by decide +kernel
theorem dX13_isSalted_94 : decode cX13_isSalted 94 = .ok (.aload_n 0, 1) := by decide +kernel
theorem dX13_isSalted_95 : decode cX13_isSalted 95 = .ok (.getfield 195, 3) := by decide +kernel
theorem dX13_isSalted_98 : decode cX13_isSalted 98 = .ok (.iload 4, 2) := by decide +kernel
theorem dX13_isSalted_100 : decode cX13_isSalted 100 = .ok (.iload_n 3, 1) := by decide +kernel
theorem dX13_isSalted_101 : decode cX13_isSalted 101 = .ok (.bipush 33, 2) := by decide +kernel
theorem dX13_isSalted_103 : decode cX13_isSalted 103 = .ok (.isub, 1) := by decide +kernel
theorem dX13_isSalted_104 : decode cX13_isSalted 104 = .ok (.invokevirtual 784, 3) := by decide +kernel
theorem dX13_isSalted_107 : decode cX13_isSalted 107 = .ok (.aload_n 0, 1) := by decide +kernel
theorem dX13_isSalted_108 : decode cX13_isSalted 108 = .ok (.getfield 195, 3) := by decide +kernel
theorem dX13_isSalted_111 : decode cX13_isSalted 111 = .ok (.iload 4, 2) := by decide +kernel
theorem dX13_isSalted_113 : decode cX13_isSalted 113 = .ok (.dup2, 1) := by decide +kernel
theorem dX13_isSalted_114 : decode cX13_isSalted 114 = .ok (.baload, 1) := by decide +kernel
theorem dX13_isSalted_115 : decode cX13_isSalted 115 = .ok (.sipush 255, 3) := by decide +kernel
theorem dX13_isSalted_118 : decode cX13_isSalted 118 = .ok (.bipush 8, 2) := by decide +kernel
theorem dX13_isSalted_120 : decode cX13_isSalted 120 = .ok (.iload_n 3, 1) := by decide +kernel
theorem dX13_isSalted_121 : decode cX13_isSalted 121 = .ok (.imul, 1) := by decide +kernel
theorem dX13_isSalted_122 : decode cX13_isSalted 122 = .ok (.iload_n 1, 1) := by decide +kernel
theorem dX13_isSalted_123 : decode cX13_isSalted 123 = .ok (.isub, 1) := by decide +kernel
theorem dX13_isSalted_124 : decode cX13_isSalted 124 = .ok (.ishr, 1) := by decide +kernel
theorem dX13_isSalted_125 : decode cX13_isSalted 125 = .ok (.i2b, 1) := by decide +kernel
theorem dX13_isSalted_126 : decode cX13_isSalted 126 = .ok (.iand, 1) := by decide +kernel
theorem dX13_isSalted_127 : decode cX13_isSalted 127 = .ok (.i2b, 1) := by decide +kernel
theorem dX13_isSalted_128 : decode cX13_isSalted 128 = .ok (.bastore, 1) := by decide +kernel
theorem dX13_isSalted_129 : decode cX13_isSalted 129 = .ok (.aload_n 0, 1) := by decide +kernel
theorem dX13_isSalted_130 : decode cX13_isSalted 130 = .ok (.getfield 195, 3) := by decide +kernel
theorem dX13_isSalted_133 : decode cX13_isSalted 133 = .ok (.iload 4, 2) := by decide +kernel
theorem dX13_isSalted_135 : decode cX13_isSalted 135 = .ok (.iload_n 3, 1) := by decide +kernel
theorem dX13_isSalted_136 : decode cX13_isSalted 136 = .ok (.iadd, 1) := by decide +kernel
theorem dX13_isSalted_137 : decode cX13_isSalted 137 = .ok (.bipush 66, 2) := by decide +kernel
theorem dX13_isSalted_139 : decode cX13_isSalted 139 = .ok (.isub, 1) := by decide +kernel
theorem dX13_isSalted_140 : decode cX13_isSalted 140 = .ok (.baload, 1) := by decide +kernel
theorem dX13_isSalted_141 : decode cX13_isSalted 141 = .ok (.iconst 1, 1) := by decide +kernel
theorem dX13_isSalted_142 : decode cX13_isSalted 142 = .ok (.if_icmp .ne 7, 3) := by decide +kernel
theorem dX13_isSalted_145 : decode cX13_isSalted 145 = .ok (.iconst 1, 1) := by decide +kernel
theorem dX13_isSalted_146 : decode cX13_isSalted 146 = .ok (.goto 4, 3) := by decide +kernel
theorem dX13_isSalted_149 : decode cX13_isSalted 149 = .ok (.iconst 0, 1) := by decide +kernel
theorem dX13_isSalted_150 : decode cX13_isSalted 150 = .ok (.istore 5, 2) := by decide +kernel
theorem dX13_isSalted_152 : decode cX13_isSalted 152 = .ok (.iload 4, 2) := by decide +kernel
theorem dX13_isSalted_154 : decode cX13_isSalted 154 = .ok (.istore 6, 2) := by decide +kernel
theorem dX13_isSalted_156 : decode cX13_isSalted 156 = .ok (.iload 6, 2) := by decide +kernel
theorem dX13_isSalted_158 : decode cX13_isSalted 158 = .ok (.iload 4, 2) := by decide +kernel
theorem dX13_isSalted_160 : decode cX13_isSalted 160 = .ok (.iload_n 3, 1) := by decide +kernel
theorem dX13_isSalted_161 : decode cX13_isSalted 161 = .ok (.iadd, 1) := by decide +kernel
theorem dX13_isSalted_162 : decode cX13_isSalted 162 = .ok (.bipush 66, 2) := by decide +kernel
theorem dX13_isSalted_164 : decode cX13_isSalted 164 = .ok (.isub, 1) := by decide +kernel
theorem dX13_isSalted_165 : decode cX13_isSalted 165 = .ok (.if_icmp .ge 31, 3) := by decide +kernel
theorem dX13_isSalted_168 : decode cX13_isSalted 168 = .ok (.iload 5, 2) := by decide +kernel
theorem dX13_isSalted_170 : decode cX13_isSalted 170 = .ok (.ifCond .eq 17, 3) := by decide +kernel
theorem dX13_isSalted_173 : decode cX13_isSalted 173 = .ok (.aload_n 0, 1) := by decide +kernel
theorem dX13_isSalted_174 : decode cX13_isSalted 174 = .ok (.getfield 195, 3) := by decide +kernel
theorem dX13_isSalted_177 : decode cX13_isSalted 177 = .ok (.iload 6, 2) := by decide +kernel
theorem dX13_isSalted_179 : decode cX13_isSalted 179 = .ok (.baload, 1) := by decide +kernel
theorem dX13_isSalted_180 : decode cX13_isSalted 180 = .ok (.ifCond .ne 7, 3) := by decide +kernel
theorem dX13_isSalted_183 : decode cX13_isSalted 183 = .ok (.iconst 1, 1) := by decide +kernel
theorem dX13_isSalted_184 : decode cX13_isSalted 184 = .ok (.goto 4, 3) := by decide +kernel
theorem dX13_isSalted_187 : decode cX13_isSalted 187 = .ok (.iconst 0, 1) := by decide +kernel
theorem dX13_isSalted_188 : decode cX13_isSalted 188 = .ok (.istore 5, 2) := by decide +kernel
theorem dX13_isSalted_190 : decode cX13_isSalted 190 = .ok (.iinc 6 1, 3) := by decide +kernel
theorem dX13_isSalted_193 : decode cX13_isSalted 193 = .ok (.goto (-37), 3) := by decide +kernel
theorem dX13_isSalted_196 : decode cX13_isSalted 196 = .ok (.aload_n 0, 1) := by decide +kernel
theorem dX13_isSalted_197 : decode cX13_isSalted 197 = .ok (.invokevirtual 779, 3) := by decide +kernel
theorem dX13_isSalted_200 : decode cX13_isSalted 200 = .ok (.aload_n 0, 1) := by decide +kernel
theorem dX13_isSalted_201 : decode cX13_isSalted 201 = .ok (.getfield 76, 3) := by decide +kernel
theorem dX13_isSalted_204 : decode cX13_isSalted 204 = .ok (.iconst 0, 1) := by decide +kernel
theorem dX13_isSalted_205 : decode cX13_isSalted 205 = .ok (.aload_n 0, 1) := by decide +kernel
theorem dX13_isSalted_206 : decode cX13_isSalted 206 = .ok (.getfield 192, 3) := by decide +kernel
theorem dX13_isSalted_209 : decode cX13_isSalted 209 = .ok (.iconst 0, 1) := by decide +kernel
theorem dX13_isSalted_210 : decode cX13_isSalted 210 = .ok (.bipush 32, 2) := by decide +kernel
theorem dX13_isSalted_212 : decode cX13_isSalted 212 = .ok (.invokestatic 317, 3) := by decide +kernel
theorem dX13_isSalted_215 : decode cX13_isSalted 215 = .ok (.aload_n 0, 1) := by decide +kernel
theorem dX13_isSalted_216 : decode cX13_isSalted 216 = .ok (.invokevirtual 570, 3) := by decide +kernel
theorem dX13_isSalted_219 : decode cX13_isSalted 219 = .ok (.aload_n 0, 1) := by decide +kernel
theorem dX13_isSalted_220 : decode cX13_isSalted 220 = .ok (.lconst 0, 1) := by decide +kernel
theorem dX13_isSalted_221 : decode cX13_isSalted 221 = .ok (.bipush 8, 2) := by decide +kernel
theorem dX13_isSalted_223 : decode cX13_isSalted 223 = .ok (.invokevirtual 514, 3) := by decide +kernel
theorem dX13_isSalted_226 : decode cX13_isSalted 226 = .ok (.aload_n 0, 1) := by decide +kernel
theorem dX13_isSalted_227 : decode cX13_isSalted 227 = .ok (.aload_n 0, 1) := by decide +kernel
theorem dX13_isSalted_228 : decode cX13_isSalted 228 = .ok (.getfield 192, 3) := by decide +kernel
theorem dX13_isSalted_231 : decode cX13_isSalted 231 = .ok (.iconst 0, 1) := by decide +kernel
theorem dX13_isSalted_232 : decode cX13_isSalted 232 = .ok (.bipush 32, 2) := by decide +kernel
theorem dX13_isSalted_234 : decode cX13_isSalted 234 = .ok (.invokevirtual 573, 3) := by decide +kernel
theorem dX13_isSalted_237 : decode cX13_isSalted 237 = .ok (.aload_n 0, 1) := by decide +kernel
theorem dX13_isSalted_238 : decode cX13_isSalted 238 = .ok (.aload_n 0, 1) := by decide +kernel
theorem dX13_isSalted_239 : decode cX13_isSalted 239 = .ok (.getfield 195, 3) := by decide +kernel
theorem dX13_isSalted_242 : decode cX13_isSalted 242 = .ok (.iload 4, 2) := by decide +kernel
theorem dX13_isSalted_244 : decode cX13_isSalted 244 = .ok (.iload_n 3, 1) := by decide +kernel
theorem dX13_isSalted_245 : decode cX13_isSalted 245 = .ok (.iadd, 1) := by decide +kernel
theorem dX13_isSalted_246 : decode cX13_isSalted 246 = .ok (.bipush 65, 2) := by decide +kernel
theorem dX13_isSalted_248 : decode cX13_isSalted 248 = .ok (.isub, 1) := by decide +kernel
theorem dX13_isSalted_249 : decode cX13_isSalted 249 = .ok (.bipush 32, 2) := by decide +kernel
theorem dX13_isSalted_251 : decode cX13_isSalted 251 = .ok (.invokevirtual 573, 3) := by decide +kernel
theorem dX13_isSalted_254 : decode cX13_isSalted 254 = .ok (.aload_n 0, 1) := by decide +kernel
theorem dX13_isSalted_255 : decode cX13_isSalted 255 = .ok (.sipush 256, 3) := by decide +kernel
theorem dX13_isSalted_258 : decode cX13_isSalted 258 = .ok (.invokevirtual 576, 3) := by decide +kernel
theorem dX13_isSalted_261 : decode cX13_isSalted 261 = .ok (.istore 6, 2) := by decide +kernel
theorem dX13_isSalted_263 : decode cX13_isSalted 263 = .ok (.iload 5, 2) := by decide +kernel
theorem dX13_isSalted_265 : decode cX13_isSalted 265 = .ok (.ifCond .eq 31, 3) := by decide +kernel
theorem dX13_isSalted_268 : decode cX13_isSalted 268 = .ok (.aload_n 0, 1) := by decide +kernel
theorem dX13_isSalted_269 : decode cX13_isSalted 269 = .ok (.getfield 76, 3) := by decide +kernel
theorem dX13_isSalted_272 : decode cX13_isSalted 272 = .ok (.iconst 0, 1) := by decide +kernel
theorem dX13_isSalted_273 : decode cX13_isSalted 273 = .ok (.aload_n 0, 1) := by decide +kernel
theorem dX13_isSalted_274 : decode cX13_isSalted 274 = .ok (.getfield 195, 3) := by decide +kernel
theorem dX13_isSalted_277 : decode cX13_isSalted 277 = .ok (.iload 4, 2) := by decide +kernel
theorem dX13_isSalted_279 : decode cX13_isSalted 279 = .ok (.iload_n 3, 1) := by decide +kernel
theorem dX13_isSalted_280 : decode cX13_isSalted 280 = .ok (.iadd, 1) := by decide +kernel
theorem dX13_isSalted_281 : decode cX13_isSalted 281 = .ok (.bipush 33, 2) := by decide +kernel
theorem dX13_isSalted_283 : decode cX13_isSalted 283 = .ok (.isub, 1) := by decide +kernel
theorem dX13_isSalted_284 : decode cX13_isSalted 284 = .ok (.bipush 32, 2) := by decide +kernel
theorem dX13_isSalted_286 : decode cX13_isSalted 286 = .ok (.invokestatic 420, 3) := by decide +kernel
theorem dX13_isSalted_289 : decode cX13_isSalted 289 = .ok (.ifCond .eq 7, 3) := by decide +kernel
theorem dX13_isSalted_292 : decode cX13_isSalted 292 = .ok (.iconst 1, 1) := by decide +kernel
theorem dX13_isSalted_293 : decode cX13_isSalted 293 = .ok (.goto 4, 3) := by decide +kernel
theorem dX13_isSalted_296 : decode cX13_isSalted 296 = .ok (.iconst 0, 1) := by decide +kernel
theorem dX13_isSalted_297 : decode cX13_isSalted 297 = .ok (.ireturn, 1) := by decide +kernel
abbrev rmX13_isSalted : Room := { frames := 6, cells := 0, slots := 0, locals := 145 }
set_option maxHeartbeats 4000000 in
set_option maxRecDepth 100000 in
theorem wB_X13_isSalted_156 {G : mG} {F : Nat} {x : mXT} {sz : Nat} {r0 : Int32} {M0 : mM} (X : mCX G RX13 cX13_isSalted 7 (some .boolean) "isSalted" rmX13_isSalted x) (hQ : mQI x r0 M0 (sz, 0, 0)) : ∀ (n : Nat) (l0 : Nat) (l3 : Int32) (l4 : Int32) (l5 : Int32) (l6 : Int32) (M : mM), B_X13_isSalted_156 G F n l0 l3 l4 l5 l6 M = some (r0, M0) → WW x (sz, 0, 0) M 156 [(0, .ref l0), (3, .int l3), (4, .int l4), (5, .int l5), (6, .int l6)] [] := by
  intro n
  induction n with
  | zero =>
    intro l0 l3 l4 l5 l6 M h
    exact nomatch (show (none : Option (Int32 × mM)) = some (r0, M0) from h)
  | succ n ih =>
    intro l0 l3 l4 l5 l6 M h
    rw [B_X13_isSalted_156] at h
    refine ww_iload 156 X dX13_isSalted_156 4 rfl ?_
    refine ww_iload 158 X dX13_isSalted_158 2 rfl ?_
    refine ww_iload_n 160 X dX13_isSalted_160 1 rfl rfl ?_
    refine ww_iadd 161 X dX13_isSalted_161 ?_
    refine ww_bipush 162 X (v := (66 : Int32)) dX13_isSalted_162 (by decide) ?_
    refine ww_isub 164 X dX13_isSalted_164 ?_
    refine ww_icmp_ge 165 196 X dX13_isSalted_165 (by decide) (fun q => ?_) (fun q => ?_)
    · replace h := (if_pos q).symm.trans h
      refine ww_aload_n 196 X dX13_isSalted_196 0 rfl rfl ?_
      obtain ⟨_, f197, h⟩ := bO_some h
      obtain ⟨M197, e197, h⟩ := bO_some h
      refine ww_callVV0 197 X dX13_isSalted_197 mY_X13_digestMessage mL_X13_779 (rcv_spec f197) ⟨_, _, rfl⟩ (by decide) (As := []) (rest := []) rfl rfl ⟨Nat.le_of_ble_eq_true rfl, Nat.le_of_ble_eq_true rfl⟩ (Nat.le_of_ble_eq_true rfl) (fun l D A => c_X13_digestMessage l D A e197) ?_
      refine ww_aload_n 200 X dX13_isSalted_200 0 rfl rfl ?_
      obtain ⟨v201, e201, h⟩ := bO_some h
      refine ww_getR 201 X dX13_isSalted_201 fG_X13_76 e201 ?_
      refine ww_iconst 204 X (v := (0 : Int32)) dX13_isSalted_204 (by decide) ?_
      refine ww_aload_n 205 X dX13_isSalted_205 0 rfl rfl ?_
      obtain ⟨v206, e206, h⟩ := bO_some h
      refine ww_getR 206 X dX13_isSalted_206 fG_X13_192 e206 ?_
      refine ww_iconst 209 X (v := (0 : Int32)) dX13_isSalted_209 (by decide) ?_
      refine ww_bipush 210 X (v := (32 : Int32)) dX13_isSalted_210 (by decide) ?_
      obtain ⟨M212, e212, h⟩ := bO_some h
      refine ww_callSV0 212 X dX13_isSalted_212 mY_X13_move mL_X13_317 (As := [.ref v201, .int (0 : Int32), .ref v206, .int (0 : Int32), .int (32 : Int32)]) (rest := []) rfl rfl ⟨Nat.le_of_ble_eq_true rfl, Nat.le_of_ble_eq_true rfl⟩ (Nat.le_of_ble_eq_true rfl) (fun l D A => c_X13_move l D A e212) ?_
      refine ww_aload_n 215 X dX13_isSalted_215 0 rfl rfl ?_
      obtain ⟨_, f216, h⟩ := bO_some h
      obtain ⟨M216, e216, h⟩ := bO_some h
      refine ww_callVV0 216 X dX13_isSalted_216 mY_X13_empty mL_X13_570 (rcv_spec f216) ⟨_, _, rfl⟩ (by decide) (As := []) (rest := []) rfl rfl ⟨Nat.le_of_ble_eq_true rfl, Nat.le_of_ble_eq_true rfl⟩ (Nat.le_of_ble_eq_true rfl) (fun l D A => c_X13_empty l D A e216) ?_
      refine ww_aload_n 219 X dX13_isSalted_219 0 rfl rfl ?_
      refine ww_lconst 220 X (v := (0 : Int64)) dX13_isSalted_220 (by decide) ?_
      refine ww_bipush 221 X (v := (8 : Int32)) dX13_isSalted_221 (by decide) ?_
      obtain ⟨_, f223, h⟩ := bO_some h
      obtain ⟨M223, e223, h⟩ := bO_some h
      refine ww_callVV0 223 X dX13_isSalted_223 mY_X13_layNumber mL_X13_514 (rcv_spec f223) ⟨_, _, rfl⟩ (by decide) (As := [.long (0 : Int64), .int (8 : Int32)]) (rest := []) rfl rfl ⟨Nat.le_of_ble_eq_true rfl, Nat.le_of_ble_eq_true rfl⟩ (Nat.le_of_ble_eq_true rfl) (fun l D A => c_X13_layNumber l D A e223) ?_
      refine ww_aload_n 226 X dX13_isSalted_226 0 rfl rfl ?_
      refine ww_aload_n 227 X dX13_isSalted_227 0 rfl rfl ?_
      obtain ⟨v228, e228, h⟩ := bO_some h
      refine ww_getR 228 X dX13_isSalted_228 fG_X13_192 e228 ?_
      refine ww_iconst 231 X (v := (0 : Int32)) dX13_isSalted_231 (by decide) ?_
      refine ww_bipush 232 X (v := (32 : Int32)) dX13_isSalted_232 (by decide) ?_
      obtain ⟨_, f234, h⟩ := bO_some h
      obtain ⟨M234, e234, h⟩ := bO_some h
      refine ww_callVV0 234 X dX13_isSalted_234 mY_X13_lay mL_X13_573 (rcv_spec f234) ⟨_, _, rfl⟩ (by decide) (As := [.ref v228, .int (0 : Int32), .int (32 : Int32)]) (rest := []) rfl rfl ⟨Nat.le_of_ble_eq_true rfl, Nat.le_of_ble_eq_true rfl⟩ (Nat.le_of_ble_eq_true rfl) (fun l D A => c_X13_lay l D A e234) ?_
      refine ww_aload_n 237 X dX13_isSalted_237 0 rfl rfl ?_
      refine ww_aload_n 238 X dX13_isSalted_238 0 rfl rfl ?_
      obtain ⟨v239, e239, h⟩ := bO_some h
      refine ww_getR 239 X dX13_isSalted_239 fG_X13_195 e239 ?_
      refine ww_iload 242 X dX13_isSalted_242 2 rfl ?_
      refine ww_iload_n 244 X dX13_isSalted_244 1 rfl rfl ?_
      refine ww_iadd 245 X dX13_isSalted_245 ?_
      refine ww_bipush 246 X (v := (65 : Int32)) dX13_isSalted_246 (by decide) ?_
      refine ww_isub 248 X dX13_isSalted_248 ?_
      refine ww_bipush 249 X (v := (32 : Int32)) dX13_isSalted_249 (by decide) ?_
      obtain ⟨_, f251, h⟩ := bO_some h
      obtain ⟨M251, e251, h⟩ := bO_some h
      refine ww_callVV0 251 X dX13_isSalted_251 mY_X13_lay mL_X13_573 (rcv_spec f251) ⟨_, _, rfl⟩ (by decide) (As := [.ref v239, .int ((l4 + l3) - (65 : Int32)), .int (32 : Int32)]) (rest := []) rfl rfl ⟨Nat.le_of_ble_eq_true rfl, Nat.le_of_ble_eq_true rfl⟩ (Nat.le_of_ble_eq_true rfl) (fun l D A => c_X13_lay l D A e251) ?_
      refine ww_aload_n 254 X dX13_isSalted_254 0 rfl rfl ?_
      refine ww_sipush 255 X (v := (256 : Int32)) dX13_isSalted_255 (by decide) ?_
      obtain ⟨_, f258, h⟩ := bO_some h
      obtain ⟨v258, M258, e258, h⟩ := bP_some h
      refine ww_callVI0 258 X dX13_isSalted_258 mY_X13_digestOf mL_X13_576 (rcv_spec f258) ⟨_, _, rfl⟩ (by decide) (As := [.int (256 : Int32)]) (rest := []) rfl rfl ⟨Nat.le_of_ble_eq_true rfl, Nat.le_of_ble_eq_true rfl⟩ (Nat.le_of_ble_eq_true rfl) (fun l D A => c_X13_digestOf l D A e258) ?_
      refine ww_istore 261 X dX13_isSalted_261 (lv' := [(0, .ref l0), (3, .int l3), (4, .int l4), (5, .int l5), (6, .int v258)]) (by decide) [1, 2, 3, 4, 0] rfl ?_
      refine ww_iload 263 X dX13_isSalted_263 3 rfl ?_
      refine ww_if_eq 265 296 X dX13_isSalted_265 (by decide) (fun q => ?_) (fun q => ?_)
      · replace h := (if_pos q).symm.trans h
        refine ww_iconst 296 X (v := (0 : Int32)) dX13_isSalted_296 (by decide) ?_
        exact ww_zretE 297 X hQ dX13_isSalted_297 h
      · replace h := (if_neg q).symm.trans h
        refine ww_aload_n 268 X dX13_isSalted_268 0 rfl rfl ?_
        obtain ⟨v269, e269, h⟩ := bO_some h
        refine ww_getR 269 X dX13_isSalted_269 fG_X13_76 e269 ?_
        refine ww_iconst 272 X (v := (0 : Int32)) dX13_isSalted_272 (by decide) ?_
        refine ww_aload_n 273 X dX13_isSalted_273 0 rfl rfl ?_
        obtain ⟨v274, e274, h⟩ := bO_some h
        refine ww_getR 274 X dX13_isSalted_274 fG_X13_195 e274 ?_
        refine ww_iload 277 X dX13_isSalted_277 2 rfl ?_
        refine ww_iload_n 279 X dX13_isSalted_279 1 rfl rfl ?_
        refine ww_iadd 280 X dX13_isSalted_280 ?_
        refine ww_bipush 281 X (v := (33 : Int32)) dX13_isSalted_281 (by decide) ?_
        refine ww_isub 283 X dX13_isSalted_283 ?_
        refine ww_bipush 284 X (v := (32 : Int32)) dX13_isSalted_284 (by decide) ?_
        obtain ⟨v286, M286, e286, h⟩ := bP_some h
        refine ww_callSI0 286 X dX13_isSalted_286 mY_X13_same mL_X13_420 (As := [.ref v269, .int (0 : Int32), .ref v274, .int ((l4 + l3) - (33 : Int32)), .int (32 : Int32)]) (rest := []) rfl rfl ⟨Nat.le_of_ble_eq_true rfl, Nat.le_of_ble_eq_true rfl⟩ (Nat.le_of_ble_eq_true rfl) (fun l D A => c_X13_same l D A e286) ?_
        refine ww_if_eq 289 296 X dX13_isSalted_289 (by decide) (fun q => ?_) (fun q => ?_)
        · replace h := (if_pos q).symm.trans h
          refine ww_iconst 296 X (v := (0 : Int32)) dX13_isSalted_296 (by decide) ?_
          exact ww_zretE 297 X hQ dX13_isSalted_297 h
        · replace h := (if_neg q).symm.trans h
          refine ww_iconst 292 X (v := (1 : Int32)) dX13_isSalted_292 (by decide) ?_
          refine ww_goto 293 297 X dX13_isSalted_293 (by decide) ?_
          exact ww_zretE 297 X hQ dX13_isSalted_297 h
    · replace h := (if_neg q).symm.trans h
      refine ww_iload 168 X dX13_isSalted_168 3 rfl ?_
      refine ww_if_eq 170 187 X dX13_isSalted_170 (by decide) (fun q => ?_) (fun q => ?_)
      · replace h := (if_pos q).symm.trans h
        refine ww_iconst 187 X (v := (0 : Int32)) dX13_isSalted_187 (by decide) ?_
        refine ww_istore 188 X dX13_isSalted_188 (lv' := [(0, .ref l0), (3, .int l3), (4, .int l4), (5, .int (0 : Int32)), (6, .int l6)]) (by decide) [1, 2, 3, 0, 4] rfl ?_
        refine ww_iinc 190 X dX13_isSalted_190 (lv' := [(0, .ref l0), (3, .int l3), (4, .int l4), (5, .int (0 : Int32)), (6, .int (l6 + 1))]) 4 rfl rfl (by decide) [1, 2, 3, 4, 0] rfl ?_
        refine ww_goto 193 156 X dX13_isSalted_193 (by decide) ?_
        exact (ih _ _ _ _ _ _ h)
      · replace h := (if_neg q).symm.trans h
        refine ww_aload_n 173 X dX13_isSalted_173 0 rfl rfl ?_
        obtain ⟨v174, e174, h⟩ := bO_some h
        refine ww_getR 174 X dX13_isSalted_174 fG_X13_195 e174 ?_
        refine ww_iload 177 X dX13_isSalted_177 4 rfl ?_
        obtain ⟨v179, e179, h⟩ := bO_some h
        refine ww_bald 179 X dX13_isSalted_179 e179 ?_
        refine ww_if_ne 180 187 X dX13_isSalted_180 (by decide) (fun q => ?_) (fun q => ?_)
        · replace h := (if_neg q).symm.trans h
          refine ww_iconst 187 X (v := (0 : Int32)) dX13_isSalted_187 (by decide) ?_
          refine ww_istore 188 X dX13_isSalted_188 (lv' := [(0, .ref l0), (3, .int l3), (4, .int l4), (5, .int (0 : Int32)), (6, .int l6)]) (by decide) [1, 2, 3, 0, 4] rfl ?_
          refine ww_iinc 190 X dX13_isSalted_190 (lv' := [(0, .ref l0), (3, .int l3), (4, .int l4), (5, .int (0 : Int32)), (6, .int (l6 + 1))]) 4 rfl rfl (by decide) [1, 2, 3, 4, 0] rfl ?_
          refine ww_goto 193 156 X dX13_isSalted_193 (by decide) ?_
          exact (ih _ _ _ _ _ _ h)
        · replace h := (if_pos q).symm.trans h
          refine ww_iconst 183 X (v := (1 : Int32)) dX13_isSalted_183 (by decide) ?_
          refine ww_goto 184 188 X dX13_isSalted_184 (by decide) ?_
          refine ww_istore 188 X dX13_isSalted_188 (lv' := [(0, .ref l0), (3, .int l3), (4, .int l4), (5, .int (1 : Int32)), (6, .int l6)]) (by decide) [1, 2, 3, 0, 4] rfl ?_
          refine ww_iinc 190 X dX13_isSalted_190 (lv' := [(0, .ref l0), (3, .int l3), (4, .int l4), (5, .int (1 : Int32)), (6, .int (l6 + 1))]) 4 rfl rfl (by decide) [1, 2, 3, 4, 0] rfl ?_
          refine ww_goto 193 156 X dX13_isSalted_193 (by decide) ?_
          exact (ih _ _ _ _ _ _ h)
set_option maxHeartbeats 4000000 in
set_option maxRecDepth 100000 in
theorem wB_X13_isSalted_27 {G : mG} {F : Nat} {x : mXT} {sz : Nat} {r0 : Int32} {M0 : mM} (X : mCX G RX13 cX13_isSalted 7 (some .boolean) "isSalted" rmX13_isSalted x) (hQ : mQI x r0 M0 (sz, 0, 0)) {l0 : Nat} {l1 : Int32} {l2 : Int32} {l3 : Int32} {l4 : Int32} {M : mM} (h : B_X13_isSalted_27 G F l0 l1 l2 l3 l4 M = some (r0, M0)) : WW x (sz, 0, 0) M 27 [(0, .ref l0), (1, .int l1), (2, .int l2), (3, .int l3), (4, .int l4)] [] := by
  unfold B_X13_isSalted_27 at h
  refine ww_aload_n 27 X dX13_isSalted_27 0 rfl rfl ?_
  obtain ⟨v28, e28, h⟩ := bO_some h
  refine ww_getR 28 X dX13_isSalted_28 fG_X13_138 e28 ?_
  refine ww_iload_n 31 X dX13_isSalted_31 2 rfl rfl ?_
  refine ww_iconst 32 X (v := (1 : Int32)) dX13_isSalted_32 (by decide) ?_
  refine ww_isub 33 X dX13_isSalted_33 ?_
  obtain ⟨v34, e34, h⟩ := bO_some h
  refine ww_bald 34 X dX13_isSalted_34 e34 ?_
  refine ww_bipush 35 X (v := (-68 : Int32)) dX13_isSalted_35 (by decide) ?_
  refine ww_icmp_ne 37 64 X dX13_isSalted_37 (by decide) (fun q => ?_) (fun q => ?_)
  · replace h := (if_neg q).symm.trans h
    refine ww_iconst 64 X (v := (0 : Int32)) dX13_isSalted_64 (by decide) ?_
    exact ww_zretE 65 X hQ dX13_isSalted_65 h
  · replace h := (if_pos q).symm.trans h
    refine ww_aload_n 40 X dX13_isSalted_40 0 rfl rfl ?_
    obtain ⟨v41, e41, h⟩ := bO_some h
    refine ww_getR 41 X dX13_isSalted_41 fG_X13_138 e41 ?_
    refine ww_iload 44 X dX13_isSalted_44 4 rfl ?_
    obtain ⟨v46, e46, h⟩ := bO_some h
    refine ww_bald 46 X dX13_isSalted_46 e46 ?_
    refine ww_sipush 47 X (v := (255 : Int32)) dX13_isSalted_47 (by decide) ?_
    refine ww_iand 50 X dX13_isSalted_50 ?_
    refine ww_bipush 51 X (v := (8 : Int32)) dX13_isSalted_51 (by decide) ?_
    refine ww_bipush 53 X (v := (8 : Int32)) dX13_isSalted_53 (by decide) ?_
    refine ww_iload_n 55 X dX13_isSalted_55 3 rfl rfl ?_
    refine ww_imul 56 X dX13_isSalted_56 ?_
    refine ww_iload_n 57 X dX13_isSalted_57 1 rfl rfl ?_
    refine ww_isub 58 X dX13_isSalted_58 ?_
    refine ww_isub 59 X dX13_isSalted_59 ?_
    refine ww_ishr 60 X dX13_isSalted_60 ?_
    refine ww_if_eq 61 66 X dX13_isSalted_61 (by decide) (fun q => ?_) (fun q => ?_)
    · replace h := (if_pos q).symm.trans h
      refine ww_aload_n 66 X dX13_isSalted_66 0 rfl rfl ?_
      obtain ⟨v67, e67, h⟩ := bO_some h
      refine ww_getR 67 X dX13_isSalted_67 fG_X13_138 e67 ?_
      refine ww_iconst 70 X (v := (0 : Int32)) dX13_isSalted_70 (by decide) ?_
      refine ww_aload_n 71 X dX13_isSalted_71 0 rfl rfl ?_
      obtain ⟨v72, e72, h⟩ := bO_some h
      refine ww_getR 72 X dX13_isSalted_72 fG_X13_195 e72 ?_
      refine ww_iconst 75 X (v := (0 : Int32)) dX13_isSalted_75 (by decide) ?_
      refine ww_iload_n 76 X dX13_isSalted_76 2 rfl rfl ?_
      obtain ⟨M77, e77, h⟩ := bO_some h
      refine ww_callSV0 77 X dX13_isSalted_77 mY_X13_move mL_X13_317 (As := [.ref v67, .int (0 : Int32), .ref v72, .int (0 : Int32), .int l2]) (rest := []) rfl rfl ⟨Nat.le_of_ble_eq_true rfl, Nat.le_of_ble_eq_true rfl⟩ (Nat.le_of_ble_eq_true rfl) (fun l D A => c_X13_move l D A e77) ?_
      refine ww_aload_n 80 X dX13_isSalted_80 0 rfl rfl ?_
      refine ww_aload_n 81 X dX13_isSalted_81 0 rfl rfl ?_
      obtain ⟨v82, e82, h⟩ := bO_some h
      refine ww_getR 82 X dX13_isSalted_82 fG_X13_195 e82 ?_
      refine ww_iload 85 X dX13_isSalted_85 4 rfl ?_
      refine ww_iload_n 87 X dX13_isSalted_87 3 rfl rfl ?_
      refine ww_iadd 88 X dX13_isSalted_88 ?_
      refine ww_bipush 89 X (v := (33 : Int32)) dX13_isSalted_89 (by decide) ?_
      refine ww_isub 91 X dX13_isSalted_91 ?_
      refine ww_bipush 92 X (v := (32 : Int32)) dX13_isSalted_92 (by decide) ?_
      refine ww_aload_n 94 X dX13_isSalted_94 0 rfl rfl ?_
      obtain ⟨v95, e95, h⟩ := bO_some h
      refine ww_getR 95 X dX13_isSalted_95 fG_X13_195 e95 ?_
      refine ww_iload 98 X dX13_isSalted_98 4 rfl ?_
      refine ww_iload_n 100 X dX13_isSalted_100 3 rfl rfl ?_
      refine ww_bipush 101 X (v := (33 : Int32)) dX13_isSalted_101 (by decide) ?_
      refine ww_isub 103 X dX13_isSalted_103 ?_
      obtain ⟨_, f104, h⟩ := bO_some h
      obtain ⟨M104, e104, h⟩ := bO_some h
      refine ww_callVV0 104 X dX13_isSalted_104 mY_X13_maskOn mL_X13_784 (rcv_spec f104) ⟨_, _, rfl⟩ (by decide) (As := [.ref v82, .int ((l4 + l3) - (33 : Int32)), .int (32 : Int32), .ref v95, .int l4, .int (l3 - (33 : Int32))]) (rest := []) rfl rfl ⟨Nat.le_of_ble_eq_true rfl, Nat.le_of_ble_eq_true rfl⟩ (Nat.le_of_ble_eq_true rfl) (fun l D A => c_X13_maskOn l D A e104) ?_
      refine ww_aload_n 107 X dX13_isSalted_107 0 rfl rfl ?_
      obtain ⟨v108, e108, h⟩ := bO_some h
      refine ww_getR 108 X dX13_isSalted_108 fG_X13_195 e108 ?_
      refine ww_iload 111 X dX13_isSalted_111 4 rfl ?_
      refine ww_dup2_11 113 X dX13_isSalted_113 rfl rfl ?_
      obtain ⟨v114, e114, h⟩ := bO_some h
      refine ww_bald 114 X dX13_isSalted_114 e114 ?_
      refine ww_sipush 115 X (v := (255 : Int32)) dX13_isSalted_115 (by decide) ?_
      refine ww_bipush 118 X (v := (8 : Int32)) dX13_isSalted_118 (by decide) ?_
      refine ww_iload_n 120 X dX13_isSalted_120 3 rfl rfl ?_
      refine ww_imul 121 X dX13_isSalted_121 ?_
      refine ww_iload_n 122 X dX13_isSalted_122 1 rfl rfl ?_
      refine ww_isub 123 X dX13_isSalted_123 ?_
      refine ww_ishr 124 X dX13_isSalted_124 ?_
      refine ww_i2b 125 X dX13_isSalted_125 ?_
      refine ww_iand 126 X dX13_isSalted_126 ?_
      refine ww_i2b 127 X dX13_isSalted_127 ?_
      obtain ⟨M128, e128, h⟩ := bO_some h
      refine ww_bast 128 X dX13_isSalted_128 e128 ?_
      refine ww_aload_n 129 X dX13_isSalted_129 0 rfl rfl ?_
      obtain ⟨v130, e130, h⟩ := bO_some h
      refine ww_getR 130 X dX13_isSalted_130 fG_X13_195 e130 ?_
      refine ww_iload 133 X dX13_isSalted_133 4 rfl ?_
      refine ww_iload_n 135 X dX13_isSalted_135 3 rfl rfl ?_
      refine ww_iadd 136 X dX13_isSalted_136 ?_
      refine ww_bipush 137 X (v := (66 : Int32)) dX13_isSalted_137 (by decide) ?_
      refine ww_isub 139 X dX13_isSalted_139 ?_
      obtain ⟨v140, e140, h⟩ := bO_some h
      refine ww_bald 140 X dX13_isSalted_140 e140 ?_
      refine ww_iconst 141 X (v := (1 : Int32)) dX13_isSalted_141 (by decide) ?_
      refine ww_icmp_ne 142 149 X dX13_isSalted_142 (by decide) (fun q => ?_) (fun q => ?_)
      · replace h := (if_neg q).symm.trans h
        refine ww_iconst 149 X (v := (0 : Int32)) dX13_isSalted_149 (by decide) ?_
        refine ww_istore 150 X dX13_isSalted_150 (lv' := [(0, .ref l0), (1, .int l1), (2, .int l2), (3, .int l3), (4, .int l4), (5, .int (0 : Int32))]) (by decide) [1, 2, 3, 4, 5, 0] rfl ?_
        refine ww_iload 152 X dX13_isSalted_152 4 rfl ?_
        refine ww_istore 154 X dX13_isSalted_154 (lv' := [(0, .ref l0), (1, .int l1), (2, .int l2), (3, .int l3), (4, .int l4), (5, .int (0 : Int32)), (6, .int l4)]) (by decide) [1, 2, 3, 4, 5, 6, 0] rfl ?_
        exact ww_sub [0, 3, 4, 5, 6] rfl (wB_X13_isSalted_156 X hQ F _ _ _ _ _ _ h)
      · replace h := (if_pos q).symm.trans h
        refine ww_iconst 145 X (v := (1 : Int32)) dX13_isSalted_145 (by decide) ?_
        refine ww_goto 146 150 X dX13_isSalted_146 (by decide) ?_
        refine ww_istore 150 X dX13_isSalted_150 (lv' := [(0, .ref l0), (1, .int l1), (2, .int l2), (3, .int l3), (4, .int l4), (5, .int (1 : Int32))]) (by decide) [1, 2, 3, 4, 5, 0] rfl ?_
        refine ww_iload 152 X dX13_isSalted_152 4 rfl ?_
        refine ww_istore 154 X dX13_isSalted_154 (lv' := [(0, .ref l0), (1, .int l1), (2, .int l2), (3, .int l3), (4, .int l4), (5, .int (1 : Int32)), (6, .int l4)]) (by decide) [1, 2, 3, 4, 5, 6, 0] rfl ?_
        exact ww_sub [0, 3, 4, 5, 6] rfl (wB_X13_isSalted_156 X hQ F _ _ _ _ _ _ h)
    · replace h := (if_neg q).symm.trans h
      refine ww_iconst 64 X (v := (0 : Int32)) dX13_isSalted_64 (by decide) ?_
      exact ww_zretE 65 X hQ dX13_isSalted_65 h
set_option maxHeartbeats 4000000 in
set_option maxRecDepth 100000 in
theorem wP_X13_isSalted {G : mG} {F : Nat} {x : mXT} {sz : Nat} {r0 : Int32} {M0 : mM} (X : mCX G RX13 cX13_isSalted 7 (some .boolean) "isSalted" rmX13_isSalted x) (hQ : mQI x r0 M0 (sz, 0, 0)) {l0 : Nat} {l1 : Int32} {l2 : Int32} {M : mM} (h : P_X13_isSalted G F l0 l1 l2 M = some (r0, M0)) : WW x (sz, 0, 0) M 0 [(0, .ref l0), (1, .int l1), (2, .int l2)] [] := by
  unfold P_X13_isSalted at h
  refine ww_iload_n 0 X dX13_isSalted_0 1 rfl rfl ?_
  refine ww_bipush 1 X (v := (7 : Int32)) dX13_isSalted_1 (by decide) ?_
  refine ww_iadd 3 X dX13_isSalted_3 ?_
  refine ww_bipush 4 X (v := (8 : Int32)) dX13_isSalted_4 (by decide) ?_
  refine ww_idiv 6 X (v := ((l1 + (7 : Int32)) / (8 : Int32))) dX13_isSalted_6 rfl ?_
  refine ww_istore_n 7 X dX13_isSalted_7 (lv' := [(0, .ref l0), (1, .int l1), (2, .int l2), (3, .int ((l1 + (7 : Int32)) / (8 : Int32)))]) rfl (by decide) [1, 2, 3, 0] rfl ?_
  refine ww_iload_n 8 X dX13_isSalted_8 2 rfl rfl ?_
  refine ww_iload_n 9 X dX13_isSalted_9 3 rfl rfl ?_
  refine ww_isub 10 X dX13_isSalted_10 ?_
  refine ww_istore 11 X dX13_isSalted_11 (lv' := [(0, .ref l0), (1, .int l1), (2, .int l2), (3, .int ((l1 + (7 : Int32)) / (8 : Int32))), (4, .int (l2 - ((l1 + (7 : Int32)) / (8 : Int32))))]) (by decide) [1, 2, 3, 4, 0] rfl ?_
  refine ww_iload 13 X dX13_isSalted_13 4 rfl ?_
  refine ww_if_le 15 27 X dX13_isSalted_15 (by decide) (fun q => ?_) (fun q => ?_)
  · replace h := (if_pos q).symm.trans h
    exact (wB_X13_isSalted_27 X hQ h)
  · replace h := (if_neg q).symm.trans h
    refine ww_aload_n 18 X dX13_isSalted_18 0 rfl rfl ?_
    obtain ⟨v19, e19, h⟩ := bO_some h
    refine ww_getR 19 X dX13_isSalted_19 fG_X13_138 e19 ?_
    refine ww_iconst 22 X (v := (0 : Int32)) dX13_isSalted_22 (by decide) ?_
    obtain ⟨v23, e23, h⟩ := bO_some h
    refine ww_bald 23 X dX13_isSalted_23 e23 ?_
    refine ww_if_ne 24 64 X dX13_isSalted_24 (by decide) (fun q => ?_) (fun q => ?_)
    · replace h := (if_neg q).symm.trans h
      refine ww_iconst 64 X (v := (0 : Int32)) dX13_isSalted_64 (by decide) ?_
      exact ww_zretE 65 X hQ dX13_isSalted_65 h
    · replace h := (if_pos q).symm.trans h
      exact (wB_X13_isSalted_27 X hQ h)
theorem c_X13_isSalted {G : mG} {F sz : Nat} {r0 : Int32} {M0 : mM} (l : Launch) (D : mD) (A : Nat → Prop) {l0 : Nat} {l1 : Int32} {l2 : Int32} {M : mM} (h : P_X13_isSalted G F l0 l1 l2 M = some (r0, M0)) : mMetI l D G A yX13_isSalted cX13_isSalted 7 (some .boolean) 6 145 0 0 [.ref l0, .int l1, .int l2] M sz r0 M0 sz := mMetI_of l D G A (by decide) (Nat.le_of_ble_eq_true rfl) (fun x X hQ => wP_X13_isSalted X hQ h)
/-! SealedTokensModel.isSaid(IILjava/lang/String;)Z -/
theorem dX13_isSaid_0 : decode cX13_isSaid 0 = .ok (.iload_n 2, 1) := by decide +kernel
theorem dX13_isSaid_1 : decode cX13_isSaid 1 = .ok (.aload_n 3, 1) := by decide +kernel
theorem dX13_isSaid_2 : decode cX13_isSaid 2 = .ok (.invokevirtual 405, 3) := by decide +kernel
theorem dX13_isSaid_5 : decode cX13_isSaid 5 = .ok (.if_icmp .ne 7, 3) := by decide +kernel
theorem dX13_isSaid_8 : decode cX13_isSaid 8 = .ok (.iconst 1, 1) := by decide +kernel
theorem dX13_isSaid_9 : decode cX13_isSaid 9 = .ok (.goto 4, 3) := by decide +kernel
theorem dX13_isSaid_12 : decode cX13_isSaid 12 = .ok (.iconst 0, 1) := by decide +kernel
theorem dX13_isSaid_13 : decode cX13_isSaid 13 = .ok (.istore 4, 2) := by decide +kernel
theorem dX13_isSaid_15 : decode cX13_isSaid 15 = .ok (.iconst 0, 1) := by decide +kernel
theorem dX13_isSaid_16 : decode cX13_isSaid 16 = .ok (.istore 5, 2) := by decide +kernel
theorem dX13_isSaid_18 : decode cX13_isSaid 18 = .ok (.iload 5, 2) := by decide +kernel
theorem dX13_isSaid_20 : decode cX13_isSaid 20 = .ok (.iload_n 2, 1) := by decide +kernel
theorem dX13_isSaid_21 : decode cX13_isSaid 21 = .ok (.if_icmp .ge 39, 3) := by decide +kernel
theorem dX13_isSaid_24 : decode cX13_isSaid 24 = .ok (.iload 4, 2) := by decide +kernel
theorem dX13_isSaid_26 : decode cX13_isSaid 26 = .ok (.ifCond .eq 34, 3) := by decide +kernel
theorem dX13_isSaid_29 : decode cX13_isSaid 29 = .ok (.aload_n 0, 1) := by decide +kernel
theorem dX13_isSaid_30 : decode cX13_isSaid 30 = .ok (.getfield 51, 3) := by decide +kernel
theorem dX13_isSaid_33 : decode cX13_isSaid 33 = .ok (.iload_n 1, 1) := by decide +kernel
theorem dX13_isSaid_34 : decode cX13_isSaid 34 = .ok (.iload 5, 2) := by decide +kernel
theorem dX13_isSaid_36 : decode cX13_isSaid 36 = .ok (.iadd, 1) := by decide +kernel
theorem dX13_isSaid_37 : decode cX13_isSaid 37 = .ok (.baload, 1) := by decide +kernel
theorem dX13_isSaid_38 : decode cX13_isSaid 38 = .ok (.aload_n 3, 1) := by decide +kernel
theorem dX13_isSaid_39 : decode cX13_isSaid 39 = .ok (.iload 5, 2) := by decide +kernel
theorem dX13_isSaid_41 : decode cX13_isSaid 41 = .ok (.invokevirtual 410, 3) := by decide +kernel
theorem dX13_isSaid_44 : decode cX13_isSaid 44 = .ok (.if_icmp .ne 7, 3) := by decide +kernel
theorem dX13_isSaid_47 : decode cX13_isSaid 47 = .ok (.iconst 1, 1) := by decide +kernel
theorem dX13_isSaid_48 : decode cX13_isSaid 48 = .ok (.goto 4, 3) := by decide +kernel
theorem dX13_isSaid_51 : decode cX13_isSaid 51 = .ok (.iconst 0, 1) := by decide +kernel
theorem dX13_isSaid_52 : decode cX13_isSaid 52 = .ok (.istore 4, 2) := by decide +kernel
theorem dX13_isSaid_54 : decode cX13_isSaid 54 = .ok (.iinc 5 1, 3) := by decide +kernel
theorem dX13_isSaid_57 : decode cX13_isSaid 57 = .ok (.goto (-39), 3) := by decide +kernel
theorem dX13_isSaid_60 : decode cX13_isSaid 60 = .ok (.iload 4, 2) := by decide +kernel
theorem dX13_isSaid_62 : decode cX13_isSaid 62 = .ok (.ireturn, 1) := by decide +kernel
abbrev rmX13_isSaid : Room := { frames := 4, cells := 0, slots := 0, locals := 85 }
set_option maxHeartbeats 4000000 in
set_option maxRecDepth 100000 in
theorem wB_X13_isSaid_18 {G : mG} {F : Nat} {x : mXT} {sz : Nat} {r0 : Int32} {M0 : mM} (X : mCX G RX13 cX13_isSaid 6 (some .boolean) "isSaid" rmX13_isSaid x) (hQ : mQI x r0 M0 (sz, 0, 0)) : ∀ (n : Nat) (l0 : Nat) (l1 : Int32) (l2 : Int32) (l3 : Nat) (l4 : Int32) (l5 : Int32) (M : mM), B_X13_isSaid_18 G F n l0 l1 l2 l3 l4 l5 M = some (r0, M0) → WW x (sz, 0, 0) M 18 [(0, .ref l0), (1, .int l1), (2, .int l2), (3, .ref l3), (4, .int l4), (5, .int l5)] [] := by
  intro n
  induction n with
  | zero =>
    intro l0 l1 l2 l3 l4 l5 M h
    exact nomatch (show (none : Option (Int32 × mM)) = some (r0, M0) from h)
  | succ n ih =>
    intro l0 l1 l2 l3 l4 l5 M h
    rw [B_X13_isSaid_18] at h
    refine ww_iload 18 X dX13_isSaid_18 5 rfl ?_
    refine ww_iload_n 20 X dX13_isSaid_20 2 rfl rfl ?_
    refine ww_icmp_ge 21 60 X dX13_isSaid_21 (by decide) (fun q => ?_) (fun q => ?_)
    · replace h := (if_pos q).symm.trans h
      refine ww_iload 60 X dX13_isSaid_60 4 rfl ?_
      exact ww_zretE 62 X hQ dX13_isSaid_62 h
    · replace h := (if_neg q).symm.trans h
      refine ww_iload 24 X dX13_isSaid_24 4 rfl ?_
      refine ww_if_eq 26 60 X dX13_isSaid_26 (by decide) (fun q => ?_) (fun q => ?_)
      · replace h := (if_pos q).symm.trans h
        refine ww_iload 60 X dX13_isSaid_60 4 rfl ?_
        exact ww_zretE 62 X hQ dX13_isSaid_62 h
      · replace h := (if_neg q).symm.trans h
        refine ww_aload_n 29 X dX13_isSaid_29 0 rfl rfl ?_
        obtain ⟨v30, e30, h⟩ := bO_some h
        refine ww_getR 30 X dX13_isSaid_30 fG_X13_51 e30 ?_
        refine ww_iload_n 33 X dX13_isSaid_33 1 rfl rfl ?_
        refine ww_iload 34 X dX13_isSaid_34 5 rfl ?_
        refine ww_iadd 36 X dX13_isSaid_36 ?_
        obtain ⟨v37, e37, h⟩ := bO_some h
        refine ww_bald 37 X dX13_isSaid_37 e37 ?_
        refine ww_aload_n 38 X dX13_isSaid_38 3 rfl rfl ?_
        refine ww_iload 39 X dX13_isSaid_39 5 rfl ?_
        obtain ⟨_, f41, h⟩ := bO_some h
        obtain ⟨v41, M41, e41, h⟩ := bP_some h
        refine ww_callVIs 41 X dX13_isSaid_41 mY_J0_charAt_5068e mL_X13_410 (rcs_spec f41) rfl (As := [.int l5]) (rest := [.int v37]) rfl rfl ⟨Nat.le_of_ble_eq_true rfl, Nat.le_of_ble_eq_true rfl⟩ (Nat.le_of_ble_eq_true rfl) (fun l D A => c_J0_charAt_5068e l D A e41) ?_
        refine ww_icmp_ne 44 51 X dX13_isSaid_44 (by decide) (fun q => ?_) (fun q => ?_)
        · replace h := (if_neg q).symm.trans h
          refine ww_iconst 51 X (v := (0 : Int32)) dX13_isSaid_51 (by decide) ?_
          refine ww_istore 52 X dX13_isSaid_52 (lv' := [(0, .ref l0), (1, .int l1), (2, .int l2), (3, .ref l3), (4, .int (0 : Int32)), (5, .int l5)]) (by decide) [1, 2, 3, 4, 0, 5] rfl ?_
          refine ww_iinc 54 X dX13_isSaid_54 (lv' := [(0, .ref l0), (1, .int l1), (2, .int l2), (3, .ref l3), (4, .int (0 : Int32)), (5, .int (l5 + 1))]) 5 rfl rfl (by decide) [1, 2, 3, 4, 5, 0] rfl ?_
          refine ww_goto 57 18 X dX13_isSaid_57 (by decide) ?_
          exact (ih _ _ _ _ _ _ _ h)
        · replace h := (if_pos q).symm.trans h
          refine ww_iconst 47 X (v := (1 : Int32)) dX13_isSaid_47 (by decide) ?_
          refine ww_goto 48 52 X dX13_isSaid_48 (by decide) ?_
          refine ww_istore 52 X dX13_isSaid_52 (lv' := [(0, .ref l0), (1, .int l1), (2, .int l2), (3, .ref l3), (4, .int (1 : Int32)), (5, .int l5)]) (by decide) [1, 2, 3, 4, 0, 5] rfl ?_
          refine ww_iinc 54 X dX13_isSaid_54 (lv' := [(0, .ref l0), (1, .int l1), (2, .int l2), (3, .ref l3), (4, .int (1 : Int32)), (5, .int (l5 + 1))]) 5 rfl rfl (by decide) [1, 2, 3, 4, 5, 0] rfl ?_
          refine ww_goto 57 18 X dX13_isSaid_57 (by decide) ?_
          exact (ih _ _ _ _ _ _ _ h)
set_option maxHeartbeats 4000000 in
set_option maxRecDepth 100000 in
theorem wP_X13_isSaid {G : mG} {F : Nat} {x : mXT} {sz : Nat} {r0 : Int32} {M0 : mM} (X : mCX G RX13 cX13_isSaid 6 (some .boolean) "isSaid" rmX13_isSaid x) (hQ : mQI x r0 M0 (sz, 0, 0)) {l0 : Nat} {l1 : Int32} {l2 : Int32} {l3 : Nat} {M : mM} (h : P_X13_isSaid G F l0 l1 l2 l3 M = some (r0, M0)) : WW x (sz, 0, 0) M 0 [(0, .ref l0), (1, .int l1), (2, .int l2), (3, .ref l3)] [] := by
  unfold P_X13_isSaid at h
  refine ww_iload_n 0 X dX13_isSaid_0 2 rfl rfl ?_
  refine ww_aload_n 1 X dX13_isSaid_1 3 rfl rfl ?_
  obtain ⟨_, f2, h⟩ := bO_some h
  obtain ⟨v2, M2, e2, h⟩ := bP_some h
  refine ww_callVIs 2 X dX13_isSaid_2 mY_J0_length_8abf5 mL_X13_405 (rcs_spec f2) rfl (As := []) (rest := [.int l2]) rfl rfl ⟨Nat.le_of_ble_eq_true rfl, Nat.le_of_ble_eq_true rfl⟩ (Nat.le_of_ble_eq_true rfl) (fun l D A => c_J0_length_8abf5 l D A e2) ?_
  refine ww_icmp_ne 5 12 X dX13_isSaid_5 (by decide) (fun q => ?_) (fun q => ?_)
  · replace h := (if_neg q).symm.trans h
    refine ww_iconst 12 X (v := (0 : Int32)) dX13_isSaid_12 (by decide) ?_
    refine ww_istore 13 X dX13_isSaid_13 (lv' := [(0, .ref l0), (1, .int l1), (2, .int l2), (3, .ref l3), (4, .int (0 : Int32))]) (by decide) [1, 2, 3, 4, 0] rfl ?_
    refine ww_iconst 15 X (v := (0 : Int32)) dX13_isSaid_15 (by decide) ?_
    refine ww_istore 16 X dX13_isSaid_16 (lv' := [(0, .ref l0), (1, .int l1), (2, .int l2), (3, .ref l3), (4, .int (0 : Int32)), (5, .int (0 : Int32))]) (by decide) [1, 2, 3, 4, 5, 0] rfl ?_
    exact (wB_X13_isSaid_18 X hQ F _ _ _ _ _ _ _ h)
  · replace h := (if_pos q).symm.trans h
    refine ww_iconst 8 X (v := (1 : Int32)) dX13_isSaid_8 (by decide) ?_
    refine ww_goto 9 13 X dX13_isSaid_9 (by decide) ?_
    refine ww_istore 13 X dX13_isSaid_13 (lv' := [(0, .ref l0), (1, .int l1), (2, .int l2), (3, .ref l3), (4, .int (1 : Int32))]) (by decide) [1, 2, 3, 4, 0] rfl ?_
    refine ww_iconst 15 X (v := (0 : Int32)) dX13_isSaid_15 (by decide) ?_
    refine ww_istore 16 X dX13_isSaid_16 (lv' := [(0, .ref l0), (1, .int l1), (2, .int l2), (3, .ref l3), (4, .int (1 : Int32)), (5, .int (0 : Int32))]) (by decide) [1, 2, 3, 4, 5, 0] rfl ?_
    exact (wB_X13_isSaid_18 X hQ F _ _ _ _ _ _ _ h)
theorem c_X13_isSaid {G : mG} {F sz : Nat} {r0 : Int32} {M0 : mM} (l : Launch) (D : mD) (A : Nat → Prop) {l0 : Nat} {l1 : Int32} {l2 : Int32} {l3 : Nat} {M : mM} (h : P_X13_isSaid G F l0 l1 l2 l3 M = some (r0, M0)) : mMetI l D G A yX13_isSaid cX13_isSaid 6 (some .boolean) 4 85 0 0 [.ref l0, .int l1, .int l2, .ref l3] M sz r0 M0 sz := mMetI_of l D G A (by decide) (Nat.le_of_ble_eq_true rfl) (fun x X hQ => wP_X13_isSaid X hQ h)
/-! SealedTokensModel.memberOf(IILjava/lang/String;)I -/
theorem dX13_memberOf_0 : decode cX13_memberOf 0 = .ok (.sipush 600, 3) := by decide +kernel
theorem dX13_memberOf_3 : decode cX13_memberOf 3 = .ok (.iload_n 1, 1) := by decide +kernel
theorem dX13_memberOf_4 : decode cX13_memberOf 4 = .ok (.imul, 1) := by decide +kernel
theorem dX13_memberOf_5 : decode cX13_memberOf 5 = .ok (.istore 4, 2) := by decide +kernel
theorem dX13_memberOf_7 : decode cX13_memberOf 7 = .ok (.iload 4, 2) := by decide +kernel
theorem dX13_memberOf_9 : decode cX13_memberOf 9 = .ok (.iload_n 2, 1) := by decide +kernel
theorem dX13_memberOf_10 : decode cX13_memberOf 10 = .ok (.iadd, 1) := by decide +kernel
theorem dX13_memberOf_11 : decode cX13_memberOf 11 = .ok (.iconst 1, 1) := by decide +kernel
theorem dX13_memberOf_12 : decode cX13_memberOf 12 = .ok (.iadd, 1) := by decide +kernel
theorem dX13_memberOf_13 : decode cX13_memberOf 13 = .ok (.istore 5, 2) := by decide +kernel
theorem dX13_memberOf_15 : decode cX13_memberOf 15 = .ok (.iload 5, 2) := by decide +kernel
theorem dX13_memberOf_17 : decode cX13_memberOf 17 = .ok (.iload 4, 2) := by decide +kernel
theorem dX13_memberOf_19 : decode cX13_memberOf 19 = .ok (.aload_n 0, 1) := by decide +kernel
theorem dX13_memberOf_20 : decode cX13_memberOf 20 = .ok (.getfield 54, 3) := by decide +kernel
theorem dX13_memberOf_23 : decode cX13_memberOf 23 = .ok (.iload_n 1, 1) := by decide +kernel
theorem dX13_memberOf_24 : decode cX13_memberOf 24 = .ok (.iaload, 1) := by decide +kernel
theorem dX13_memberOf_25 : decode cX13_memberOf 25 = .ok (.iadd, 1) := by decide +kernel
theorem dX13_memberOf_26 : decode cX13_memberOf 26 = .ok (.if_icmp .ge 48, 3) := by decide +kernel
theorem dX13_memberOf_29 : decode cX13_memberOf 29 = .ok (.aload_n 0, 1) := by decide +kernel
theorem dX13_memberOf_30 : decode cX13_memberOf 30 = .ok (.getfield 27, 3) := by decide +kernel
theorem dX13_memberOf_33 : decode cX13_memberOf 33 = .ok (.iload 5, 2) := by decide +kernel
theorem dX13_memberOf_35 : decode cX13_memberOf 35 = .ok (.iaload, 1) := by decide +kernel
theorem dX13_memberOf_36 : decode cX13_memberOf 36 = .ok (.iload_n 2, 1) := by decide +kernel
theorem dX13_memberOf_37 : decode cX13_memberOf 37 = .ok (.if_icmp .ne 31, 3) := by decide +kernel
theorem dX13_memberOf_40 : decode cX13_memberOf 40 = .ok (.aload_n 0, 1) := by decide +kernel
theorem dX13_memberOf_41 : decode cX13_memberOf 41 = .ok (.aload_n 0, 1) := by decide +kernel
theorem dX13_memberOf_42 : decode cX13_memberOf 42 = .ok (.getfield 45, 3) := by decide +kernel
theorem dX13_memberOf_45 : decode cX13_memberOf 45 = .ok (.iload 5, 2) := by decide +kernel
theorem dX13_memberOf_47 : decode cX13_memberOf 47 = .ok (.iaload, 1) := by decide +kernel
theorem dX13_memberOf_48 : decode cX13_memberOf 48 = .ok (.aload_n 0, 1) := by decide +kernel
theorem dX13_memberOf_49 : decode cX13_memberOf 49 = .ok (.getfield 48, 3) := by decide +kernel
theorem dX13_memberOf_52 : decode cX13_memberOf 52 = .ok (.iload 5, 2) := by decide +kernel
theorem dX13_memberOf_54 : decode cX13_memberOf 54 = .ok (.iaload, 1) := by decide +kernel
theorem dX13_memberOf_55 : decode cX13_memberOf 55 = .ok (.aload_n 3, 1) := by decide +kernel
theorem dX13_memberOf_56 : decode cX13_memberOf 56 = .ok (.invokevirtual 788, 3) := by decide +kernel
theorem dX13_memberOf_59 : decode cX13_memberOf 59 = .ok (.ifCond .eq 9, 3) := by decide +kernel
theorem dX13_memberOf_62 : decode cX13_memberOf 62 = .ok (.iload 5, 2) := by decide +kernel
theorem dX13_memberOf_64 : decode cX13_memberOf 64 = .ok (.iload 4, 2) := by decide +kernel
theorem dX13_memberOf_66 : decode cX13_memberOf 66 = .ok (.isub, 1) := by decide +kernel
theorem dX13_memberOf_67 : decode cX13_memberOf 67 = .ok (.ireturn, 1) := by decide +kernel
theorem dX13_memberOf_68 : decode cX13_memberOf 68 = .ok (.iinc 5 1, 3) := by decide +kernel
theorem dX13_memberOf_71 : decode cX13_memberOf 71 = .ok (.goto (-56), 3) := by decide +kernel
theorem dX13_memberOf_74 : decode cX13_memberOf 74 = .ok (.iconst (-1), 1) := by decide +kernel
theorem dX13_memberOf_75 : decode cX13_memberOf 75 = .ok (.ireturn, 1) := by decide +kernel
abbrev rmX13_memberOf : Room := { frames := 5, cells := 0, slots := 0, locals := 110 }
set_option maxHeartbeats 4000000 in
set_option maxRecDepth 100000 in
theorem wB_X13_memberOf_15 {G : mG} {F : Nat} {x : mXT} {sz : Nat} {r0 : Int32} {M0 : mM} (X : mCX G RX13 cX13_memberOf 6 (some .int) "memberOf" rmX13_memberOf x) (hQ : mQI x r0 M0 (sz, 0, 0)) : ∀ (n : Nat) (l0 : Nat) (l1 : Int32) (l2 : Int32) (l3 : Nat) (l4 : Int32) (l5 : Int32) (M : mM), B_X13_memberOf_15 G F n l0 l1 l2 l3 l4 l5 M = some (r0, M0) → WW x (sz, 0, 0) M 15 [(0, .ref l0), (1, .int l1), (2, .int l2), (3, .ref l3), (4, .int l4), (5, .int l5)] [] := by
  intro n
  induction n with
  | zero =>
    intro l0 l1 l2 l3 l4 l5 M h
    exact nomatch (show (none : Option (Int32 × mM)) = some (r0, M0) from h)
  | succ n ih =>
    intro l0 l1 l2 l3 l4 l5 M h
    rw [B_X13_memberOf_15] at h
    refine ww_iload 15 X dX13_memberOf_15 5 rfl ?_
    refine ww_iload 17 X dX13_memberOf_17 4 rfl ?_
    refine ww_aload_n 19 X dX13_memberOf_19 0 rfl rfl ?_
    obtain ⟨v20, e20, h⟩ := bO_some h
    refine ww_getR 20 X dX13_memberOf_20 fG_X13_54 e20 ?_
    refine ww_iload_n 23 X dX13_memberOf_23 1 rfl rfl ?_
    obtain ⟨v24, e24, h⟩ := bO_some h
    refine ww_iald 24 X dX13_memberOf_24 e24 ?_
    refine ww_iadd 25 X dX13_memberOf_25 ?_
    refine ww_icmp_ge 26 74 X dX13_memberOf_26 (by decide) (fun q => ?_) (fun q => ?_)
    · replace h := (if_pos q).symm.trans h
      refine ww_iconst 74 X (v := (-1 : Int32)) dX13_memberOf_74 (by decide) ?_
      exact ww_iretE 75 X hQ dX13_memberOf_75 h
    · replace h := (if_neg q).symm.trans h
      refine ww_aload_n 29 X dX13_memberOf_29 0 rfl rfl ?_
      obtain ⟨v30, e30, h⟩ := bO_some h
      refine ww_getR 30 X dX13_memberOf_30 fG_X13_27 e30 ?_
      refine ww_iload 33 X dX13_memberOf_33 5 rfl ?_
      obtain ⟨v35, e35, h⟩ := bO_some h
      refine ww_iald 35 X dX13_memberOf_35 e35 ?_
      refine ww_iload_n 36 X dX13_memberOf_36 2 rfl rfl ?_
      refine ww_icmp_ne 37 68 X dX13_memberOf_37 (by decide) (fun q => ?_) (fun q => ?_)
      · replace h := (if_neg q).symm.trans h
        refine ww_iinc 68 X dX13_memberOf_68 (lv' := [(0, .ref l0), (1, .int l1), (2, .int l2), (3, .ref l3), (4, .int l4), (5, .int (l5 + 1))]) 5 rfl rfl (by decide) [1, 2, 3, 4, 5, 0] rfl ?_
        refine ww_goto 71 15 X dX13_memberOf_71 (by decide) ?_
        exact (ih _ _ _ _ _ _ _ h)
      · replace h := (if_pos q).symm.trans h
        refine ww_aload_n 40 X dX13_memberOf_40 0 rfl rfl ?_
        refine ww_aload_n 41 X dX13_memberOf_41 0 rfl rfl ?_
        obtain ⟨v42, e42, h⟩ := bO_some h
        refine ww_getR 42 X dX13_memberOf_42 fG_X13_45 e42 ?_
        refine ww_iload 45 X dX13_memberOf_45 5 rfl ?_
        obtain ⟨v47, e47, h⟩ := bO_some h
        refine ww_iald 47 X dX13_memberOf_47 e47 ?_
        refine ww_aload_n 48 X dX13_memberOf_48 0 rfl rfl ?_
        obtain ⟨v49, e49, h⟩ := bO_some h
        refine ww_getR 49 X dX13_memberOf_49 fG_X13_48 e49 ?_
        refine ww_iload 52 X dX13_memberOf_52 5 rfl ?_
        obtain ⟨v54, e54, h⟩ := bO_some h
        refine ww_iald 54 X dX13_memberOf_54 e54 ?_
        refine ww_aload_n 55 X dX13_memberOf_55 3 rfl rfl ?_
        obtain ⟨_, f56, h⟩ := bO_some h
        obtain ⟨v56, M56, e56, h⟩ := bP_some h
        refine ww_callVI0 56 X dX13_memberOf_56 mY_X13_isSaid mL_X13_788 (rcv_spec f56) ⟨_, _, rfl⟩ (by decide) (As := [.int v47, .int v54, .ref l3]) (rest := []) rfl rfl ⟨Nat.le_of_ble_eq_true rfl, Nat.le_of_ble_eq_true rfl⟩ (Nat.le_of_ble_eq_true rfl) (fun l D A => c_X13_isSaid l D A e56) ?_
        refine ww_if_eq 59 68 X dX13_memberOf_59 (by decide) (fun q => ?_) (fun q => ?_)
        · replace h := (if_pos q).symm.trans h
          refine ww_iinc 68 X dX13_memberOf_68 (lv' := [(0, .ref l0), (1, .int l1), (2, .int l2), (3, .ref l3), (4, .int l4), (5, .int (l5 + 1))]) 5 rfl rfl (by decide) [1, 2, 3, 4, 5, 0] rfl ?_
          refine ww_goto 71 15 X dX13_memberOf_71 (by decide) ?_
          exact (ih _ _ _ _ _ _ _ h)
        · replace h := (if_neg q).symm.trans h
          refine ww_iload 62 X dX13_memberOf_62 5 rfl ?_
          refine ww_iload 64 X dX13_memberOf_64 4 rfl ?_
          refine ww_isub 66 X dX13_memberOf_66 ?_
          exact ww_iretE 67 X hQ dX13_memberOf_67 h
set_option maxHeartbeats 4000000 in
set_option maxRecDepth 100000 in
theorem wP_X13_memberOf {G : mG} {F : Nat} {x : mXT} {sz : Nat} {r0 : Int32} {M0 : mM} (X : mCX G RX13 cX13_memberOf 6 (some .int) "memberOf" rmX13_memberOf x) (hQ : mQI x r0 M0 (sz, 0, 0)) {l0 : Nat} {l1 : Int32} {l2 : Int32} {l3 : Nat} {M : mM} (h : P_X13_memberOf G F l0 l1 l2 l3 M = some (r0, M0)) : WW x (sz, 0, 0) M 0 [(0, .ref l0), (1, .int l1), (2, .int l2), (3, .ref l3)] [] := by
  unfold P_X13_memberOf at h
  refine ww_sipush 0 X (v := (600 : Int32)) dX13_memberOf_0 (by decide) ?_
  refine ww_iload_n 3 X dX13_memberOf_3 1 rfl rfl ?_
  refine ww_imul 4 X dX13_memberOf_4 ?_
  refine ww_istore 5 X dX13_memberOf_5 (lv' := [(0, .ref l0), (1, .int l1), (2, .int l2), (3, .ref l3), (4, .int ((600 : Int32) * l1))]) (by decide) [1, 2, 3, 4, 0] rfl ?_
  refine ww_iload 7 X dX13_memberOf_7 4 rfl ?_
  refine ww_iload_n 9 X dX13_memberOf_9 2 rfl rfl ?_
  refine ww_iadd 10 X dX13_memberOf_10 ?_
  refine ww_iconst 11 X (v := (1 : Int32)) dX13_memberOf_11 (by decide) ?_
  refine ww_iadd 12 X dX13_memberOf_12 ?_
  refine ww_istore 13 X dX13_memberOf_13 (lv' := [(0, .ref l0), (1, .int l1), (2, .int l2), (3, .ref l3), (4, .int ((600 : Int32) * l1)), (5, .int ((((600 : Int32) * l1) + l2) + (1 : Int32)))]) (by decide) [1, 2, 3, 4, 5, 0] rfl ?_
  exact (wB_X13_memberOf_15 X hQ F _ _ _ _ _ _ _ h)
theorem c_X13_memberOf {G : mG} {F sz : Nat} {r0 : Int32} {M0 : mM} (l : Launch) (D : mD) (A : Nat → Prop) {l0 : Nat} {l1 : Int32} {l2 : Int32} {l3 : Nat} {M : mM} (h : P_X13_memberOf G F l0 l1 l2 l3 M = some (r0, M0)) : mMetI l D G A yX13_memberOf cX13_memberOf 6 (some .int) 5 110 0 0 [.ref l0, .int l1, .int l2, .ref l3] M sz r0 M0 sz := mMetI_of l D G A (by decide) (Nat.le_of_ble_eq_true rfl) (fun x X hQ => wP_X13_memberOf X hQ h)
/-! SealedTokensModel.isString(II)Z -/
theorem dX13_isString_0 : decode cX13_isString 0 = .ok (.iload_n 2, 1) := by decide +kernel
theorem dX13_isString_1 : decode cX13_isString 1 = .ok (.ifCond .lt 23, 3) := by decide +kernel
theorem dX13_isString_4 : decode cX13_isString 4 = .ok (.aload_n 0, 1) := by decide +kernel
theorem dX13_isString_5 : decode cX13_isString 5 = .ok (.getfield 24, 3) := by decide +kernel
theorem dX13_isString_8 : decode cX13_isString 8 = .ok (.sipush 600, 3) := by decide +kernel
theorem dX13_isString_11 : decode cX13_isString 11 = .ok (.iload_n 1, 1) := by decide +kernel
theorem dX13_isString_12 : decode cX13_isString 12 = .ok (.imul, 1) := by decide +kernel
theorem dX13_isString_13 : decode cX13_isString 13 = .ok (.iload_n 2, 1) := by decide +kernel
theorem dX13_isString_14 : decode cX13_isString 14 = .ok (.iadd, 1) := by decide +kernel
theorem dX13_isString_15 : decode cX13_isString 15 = .ok (.iaload, 1) := by decide +kernel
theorem dX13_isString_16 : decode cX13_isString 16 = .ok (.iconst 4, 1) := by decide +kernel
theorem dX13_isString_17 : decode cX13_isString 17 = .ok (.if_icmp .ne 7, 3) := by decide +kernel
theorem dX13_isString_20 : decode cX13_isString 20 = .ok (.iconst 1, 1) := by decide +kernel
theorem dX13_isString_21 : decode cX13_isString 21 = .ok (.goto 4, 3) := by decide +kernel
theorem dX13_isString_24 : decode cX13_isString 24 = .ok (.iconst 0, 1) := by decide +kernel
theorem dX13_isString_25 : decode cX13_isString 25 = .ok (.ireturn, 1) := by decide +kernel
abbrev rmX13_isString : Room := { frames := 0, cells := 0, slots := 0, locals := 0 }
set_option maxHeartbeats 4000000 in
set_option maxRecDepth 100000 in
theorem wP_X13_isString {G : mG} {F : Nat} {x : mXT} {sz : Nat} {r0 : Int32} {M0 : mM} (X : mCX G RX13 cX13_isString 3 (some .boolean) "isString" rmX13_isString x) (hQ : mQI x r0 M0 (sz, 0, 0)) {l0 : Nat} {l1 : Int32} {l2 : Int32} {M : mM} (h : P_X13_isString G F l0 l1 l2 M = some (r0, M0)) : WW x (sz, 0, 0) M 0 [(0, .ref l0), (1, .int l1), (2, .int l2)] [] := by
  unfold P_X13_isString at h
  refine ww_iload_n 0 X dX13_isString_0 2 rfl rfl ?_
  refine ww_if_lt 1 24 X dX13_isString_1 (by decide) (fun q => ?_) (fun q => ?_)
  · replace h := (if_pos q).symm.trans h
    refine ww_iconst 24 X (v := (0 : Int32)) dX13_isString_24 (by decide) ?_
    exact ww_zretE 25 X hQ dX13_isString_25 h
  · replace h := (if_neg q).symm.trans h
    refine ww_aload_n 4 X dX13_isString_4 0 rfl rfl ?_
    obtain ⟨v5, e5, h⟩ := bO_some h
    refine ww_getR 5 X dX13_isString_5 fG_X13_24 e5 ?_
    refine ww_sipush 8 X (v := (600 : Int32)) dX13_isString_8 (by decide) ?_
    refine ww_iload_n 11 X dX13_isString_11 1 rfl rfl ?_
    refine ww_imul 12 X dX13_isString_12 ?_
    refine ww_iload_n 13 X dX13_isString_13 2 rfl rfl ?_
    refine ww_iadd 14 X dX13_isString_14 ?_
    obtain ⟨v15, e15, h⟩ := bO_some h
    refine ww_iald 15 X dX13_isString_15 e15 ?_
    refine ww_iconst 16 X (v := (4 : Int32)) dX13_isString_16 (by decide) ?_
    refine ww_icmp_ne 17 24 X dX13_isString_17 (by decide) (fun q => ?_) (fun q => ?_)
    · replace h := (if_neg q).symm.trans h
      refine ww_iconst 24 X (v := (0 : Int32)) dX13_isString_24 (by decide) ?_
      exact ww_zretE 25 X hQ dX13_isString_25 h
    · replace h := (if_pos q).symm.trans h
      refine ww_iconst 20 X (v := (1 : Int32)) dX13_isString_20 (by decide) ?_
      refine ww_goto 21 25 X dX13_isString_21 (by decide) ?_
      exact ww_zretE 25 X hQ dX13_isString_25 h
theorem c_X13_isString {G : mG} {F sz : Nat} {r0 : Int32} {M0 : mM} (l : Launch) (D : mD) (A : Nat → Prop) {l0 : Nat} {l1 : Int32} {l2 : Int32} {M : mM} (h : P_X13_isString G F l0 l1 l2 M = some (r0, M0)) : mMetI l D G A yX13_isString cX13_isString 3 (some .boolean) 0 0 0 0 [.ref l0, .int l1, .int l2] M sz r0 M0 sz := mMetI_of l D G A (by decide) (Nat.le_of_ble_eq_true rfl) (fun x X hQ => wP_X13_isString X hQ h)
/-! SealedTokensModel.says(IILjava/lang/String;)Z -/
theorem dX13_says_0 : decode cX13_says 0 = .ok (.aload_n 0, 1) := by decide +kernel
theorem dX13_says_1 : decode cX13_says 1 = .ok (.iload_n 1, 1) := by decide +kernel
theorem dX13_says_2 : decode cX13_says 2 = .ok (.iload_n 2, 1) := by decide +kernel
theorem dX13_says_3 : decode cX13_says 3 = .ok (.invokevirtual 792, 3) := by decide +kernel
theorem dX13_says_6 : decode cX13_says 6 = .ok (.ifCond .eq 39, 3) := by decide +kernel
theorem dX13_says_9 : decode cX13_says 9 = .ok (.aload_n 0, 1) := by decide +kernel
theorem dX13_says_10 : decode cX13_says 10 = .ok (.aload_n 0, 1) := by decide +kernel
theorem dX13_says_11 : decode cX13_says 11 = .ok (.getfield 39, 3) := by decide +kernel
theorem dX13_says_14 : decode cX13_says 14 = .ok (.sipush 600, 3) := by decide +kernel
theorem dX13_says_17 : decode cX13_says 17 = .ok (.iload_n 1, 1) := by decide +kernel
theorem dX13_says_18 : decode cX13_says 18 = .ok (.imul, 1) := by decide +kernel
theorem dX13_says_19 : decode cX13_says 19 = .ok (.iload_n 2, 1) := by decide +kernel
theorem dX13_says_20 : decode cX13_says 20 = .ok (.iadd, 1) := by decide +kernel
theorem dX13_says_21 : decode cX13_says 21 = .ok (.iaload, 1) := by decide +kernel
theorem dX13_says_22 : decode cX13_says 22 = .ok (.aload_n 0, 1) := by decide +kernel
theorem dX13_says_23 : decode cX13_says 23 = .ok (.getfield 42, 3) := by decide +kernel
theorem dX13_says_26 : decode cX13_says 26 = .ok (.sipush 600, 3) := by decide +kernel
theorem dX13_says_29 : decode cX13_says 29 = .ok (.iload_n 1, 1) := by decide +kernel
theorem dX13_says_30 : decode cX13_says 30 = .ok (.imul, 1) := by decide +kernel
theorem dX13_says_31 : decode cX13_says 31 = .ok (.iload_n 2, 1) := by decide +kernel
theorem dX13_says_32 : decode cX13_says 32 = .ok (.iadd, 1) := by decide +kernel
theorem dX13_says_33 : decode cX13_says 33 = .ok (.iaload, 1) := by decide +kernel
theorem dX13_says_34 : decode cX13_says 34 = .ok (.aload_n 3, 1) := by decide +kernel
theorem dX13_says_35 : decode cX13_says 35 = .ok (.invokevirtual 788, 3) := by decide +kernel
theorem dX13_says_38 : decode cX13_says 38 = .ok (.ifCond .eq 7, 3) := by decide +kernel
theorem dX13_says_41 : decode cX13_says 41 = .ok (.iconst 1, 1) := by decide +kernel
theorem dX13_says_42 : decode cX13_says 42 = .ok (.goto 4, 3) := by decide +kernel
theorem dX13_says_45 : decode cX13_says 45 = .ok (.iconst 0, 1) := by decide +kernel
theorem dX13_says_46 : decode cX13_says 46 = .ok (.ireturn, 1) := by decide +kernel
abbrev rmX13_says : Room := { frames := 5, cells := 0, slots := 0, locals := 110 }
set_option maxHeartbeats 4000000 in
set_option maxRecDepth 100000 in
theorem wP_X13_says {G : mG} {F : Nat} {x : mXT} {sz : Nat} {r0 : Int32} {M0 : mM} (X : mCX G RX13 cX13_says 4 (some .boolean) "says" rmX13_says x) (hQ : mQI x r0 M0 (sz, 0, 0)) {l0 : Nat} {l1 : Int32} {l2 : Int32} {l3 : Nat} {M : mM} (h : P_X13_says G F l0 l1 l2 l3 M = some (r0, M0)) : WW x (sz, 0, 0) M 0 [(0, .ref l0), (1, .int l1), (2, .int l2), (3, .ref l3)] [] := by
  unfold P_X13_says at h
  refine ww_aload_n 0 X dX13_says_0 0 rfl rfl ?_
  refine ww_iload_n 1 X dX13_says_1 1 rfl rfl ?_
  refine ww_iload_n 2 X dX13_says_2 2 rfl rfl ?_
  obtain ⟨_, f3, h⟩ := bO_some h
  obtain ⟨v3, M3, e3, h⟩ := bP_some h
  refine ww_callVI0 3 X dX13_says_3 mY_X13_isString mL_X13_792 (rcv_spec f3) ⟨_, _, rfl⟩ (by decide) (As := [.int l1, .int l2]) (rest := []) rfl rfl ⟨Nat.le_of_ble_eq_true rfl, Nat.le_of_ble_eq_true rfl⟩ (Nat.le_of_ble_eq_true rfl) (fun l D A => c_X13_isString l D A e3) ?_
  refine ww_if_eq 6 45 X dX13_says_6 (by decide) (fun q => ?_) (fun q => ?_)
  · replace h := (if_pos q).symm.trans h
    refine ww_iconst 45 X (v := (0 : Int32)) dX13_says_45 (by decide) ?_
    exact ww_zretE 46 X hQ dX13_says_46 h
  · replace h := (if_neg q).symm.trans h
    refine ww_aload_n 9 X dX13_says_9 0 rfl rfl ?_
    refine ww_aload_n 10 X dX13_says_10 0 rfl rfl ?_
    obtain ⟨v11, e11, h⟩ := bO_some h
    refine ww_getR 11 X dX13_says_11 fG_X13_39 e11 ?_
    refine ww_sipush 14 X (v := (600 : Int32)) dX13_says_14 (by decide) ?_
    refine ww_iload_n 17 X dX13_says_17 1 rfl rfl ?_
    refine ww_imul 18 X dX13_says_18 ?_
    refine ww_iload_n 19 X dX13_says_19 2 rfl rfl ?_
    refine ww_iadd 20 X dX13_says_20 ?_
    obtain ⟨v21, e21, h⟩ := bO_some h
    refine ww_iald 21 X dX13_says_21 e21 ?_
    refine ww_aload_n 22 X dX13_says_22 0 rfl rfl ?_
    obtain ⟨v23, e23, h⟩ := bO_some h
    refine ww_getR 23 X dX13_says_23 fG_X13_42 e23 ?_
    refine ww_sipush 26 X (v := (600 : Int32)) dX13_says_26 (by decide) ?_
    refine ww_iload_n 29 X dX13_says_29 1 rfl rfl ?_
    refine ww_imul 30 X dX13_says_30 ?_
    refine ww_iload_n 31 X dX13_says_31 2 rfl rfl ?_
    refine ww_iadd 32 X dX13_says_32 ?_
    obtain ⟨v33, e33, h⟩ := bO_some h
    refine ww_iald 33 X dX13_says_33 e33 ?_
    refine ww_aload_n 34 X dX13_says_34 3 rfl rfl ?_
    obtain ⟨_, f35, h⟩ := bO_some h
    obtain ⟨v35, M35, e35, h⟩ := bP_some h
    refine ww_callVI0 35 X dX13_says_35 mY_X13_isSaid mL_X13_788 (rcv_spec f35) ⟨_, _, rfl⟩ (by decide) (As := [.int v21, .int v33, .ref l3]) (rest := []) rfl rfl ⟨Nat.le_of_ble_eq_true rfl, Nat.le_of_ble_eq_true rfl⟩ (Nat.le_of_ble_eq_true rfl) (fun l D A => c_X13_isSaid l D A e35) ?_
    refine ww_if_eq 38 45 X dX13_says_38 (by decide) (fun q => ?_) (fun q => ?_)
    · replace h := (if_pos q).symm.trans h
      refine ww_iconst 45 X (v := (0 : Int32)) dX13_says_45 (by decide) ?_
      exact ww_zretE 46 X hQ dX13_says_46 h
    · replace h := (if_neg q).symm.trans h
      refine ww_iconst 41 X (v := (1 : Int32)) dX13_says_41 (by decide) ?_
      refine ww_goto 42 46 X dX13_says_42 (by decide) ?_
      exact ww_zretE 46 X hQ dX13_says_46 h
theorem c_X13_says {G : mG} {F sz : Nat} {r0 : Int32} {M0 : mM} (l : Launch) (D : mD) (A : Nat → Prop) {l0 : Nat} {l1 : Int32} {l2 : Int32} {l3 : Nat} {M : mM} (h : P_X13_says G F l0 l1 l2 l3 M = some (r0, M0)) : mMetI l D G A yX13_says cX13_says 4 (some .boolean) 5 110 0 0 [.ref l0, .int l1, .int l2, .ref l3] M sz r0 M0 sz := mMetI_of l D G A (by decide) (Nat.le_of_ble_eq_true rfl) (fun x X hQ => wP_X13_says X hQ h)
/-! SealedTokensModel.bytesOf(IILjava/lang/String;[B)I -/
theorem dX13_bytesOf_0 : decode cX13_bytesOf 0 = .ok (.aload_n 0, 1) := by decide +kernel
theorem dX13_bytesOf_1 : decode cX13_bytesOf 1 = .ok (.iload_n 1, 1) := by decide +kernel
theorem dX13_bytesOf_2 : decode cX13_bytesOf 2 = .ok (.iload_n 2, 1) := by decide +kernel
theorem dX13_bytesOf_3 : decode cX13_bytesOf 3 = .ok (.aload_n 3, 1) := by decide +kernel
theorem dX13_bytesOf_4 : decode cX13_bytesOf 4 = .ok (.invokevirtual 796, 3) := by decide +kernel
theorem dX13_bytesOf_7 : decode cX13_bytesOf 7 = .ok (.istore 5, 2) := by decide +kernel
theorem dX13_bytesOf_9 : decode cX13_bytesOf 9 = .ok (.aload_n 0, 1) := by decide +kernel
theorem dX13_bytesOf_10 : decode cX13_bytesOf 10 = .ok (.iload_n 1, 1) := by decide +kernel
theorem dX13_bytesOf_11 : decode cX13_bytesOf 11 = .ok (.iload 5, 2) := by decide +kernel
theorem dX13_bytesOf_13 : decode cX13_bytesOf 13 = .ok (.invokevirtual 792, 3) := by decide +kernel
theorem dX13_bytesOf_16 : decode cX13_bytesOf 16 = .ok (.ifCond .eq 43, 3) := by decide +kernel
theorem dX13_bytesOf_19 : decode cX13_bytesOf 19 = .ok (.aload_n 0, 1) := by decide +kernel
theorem dX13_bytesOf_20 : decode cX13_bytesOf 20 = .ok (.aload_n 0, 1) := by decide +kernel
theorem dX13_bytesOf_21 : decode cX13_bytesOf 21 = .ok (.getfield 51, 3) := by decide +kernel
theorem dX13_bytesOf_24 : decode cX13_bytesOf 24 = .ok (.aload_n 0, 1) := by decide +kernel
theorem dX13_bytesOf_25 : decode cX13_bytesOf 25 = .ok (.getfield 39, 3) := by decide +kernel
theorem dX13_bytesOf_28 : decode cX13_bytesOf 28 = .ok (.sipush 600, 3) := by decide +kernel
theorem dX13_bytesOf_31 : decode cX13_bytesOf 31 = .ok (.iload_n 1, 1) := by decide +kernel
theorem dX13_bytesOf_32 : decode cX13_bytesOf 32 = .ok (.imul, 1) := by decide +kernel
theorem dX13_bytesOf_33 : decode cX13_bytesOf 33 = .ok (.iload 5, 2) := by decide +kernel
theorem dX13_bytesOf_35 : decode cX13_bytesOf 35 = .ok (.iadd, 1) := by decide +kernel
theorem dX13_bytesOf_36 : decode cX13_bytesOf 36 = .ok (.iaload, 1) := by decide +kernel
theorem dX13_bytesOf_37 : decode cX13_bytesOf 37 = .ok (.aload_n 0, 1) := by decide +kernel
theorem dX13_bytesOf_38 : decode cX13_bytesOf 38 = .ok (.getfield 42, 3) := by decide +kernel
theorem dX13_bytesOf_41 : decode cX13_bytesOf 41 = .ok (.sipush 600, 3) := by decide +kernel
theorem dX13_bytesOf_44 : decode cX13_bytesOf 44 = .ok (.iload_n 1, 1) := by decide +kernel
theorem dX13_bytesOf_45 : decode cX13_bytesOf 45 = .ok (.imul, 1) := by decide +kernel
theorem dX13_bytesOf_46 : decode cX13_bytesOf 46 = .ok (.iload 5, 2) := by decide +kernel
theorem dX13_bytesOf_48 : decode cX13_bytesOf 48 = .ok (.iadd, 1) := by decide +kernel
theorem dX13_bytesOf_49 : decode cX13_bytesOf 49 = .ok (.iaload, 1) := by decide +kernel
theorem dX13_bytesOf_50 : decode cX13_bytesOf 50 = .ok (.aload 4, 2) := by decide +kernel
theorem dX13_bytesOf_52 : decode cX13_bytesOf 52 = .ok (.iconst 0, 1) := by decide +kernel
theorem dX13_bytesOf_53 : decode cX13_bytesOf 53 = .ok (.invokevirtual 503, 3) := by decide +kernel
theorem dX13_bytesOf_56 : decode cX13_bytesOf 56 = .ok (.goto 4, 3) := by decide +kernel
theorem dX13_bytesOf_59 : decode cX13_bytesOf 59 = .ok (.iconst (-1), 1) := by decide +kernel
theorem dX13_bytesOf_60 : decode cX13_bytesOf 60 = .ok (.ireturn, 1) := by decide +kernel
abbrev rmX13_bytesOf : Room := { frames := 6, cells := 0, slots := 0, locals := 135 }
set_option maxHeartbeats 4000000 in
set_option maxRecDepth 100000 in
theorem wP_X13_bytesOf {G : mG} {F : Nat} {x : mXT} {sz : Nat} {r0 : Int32} {M0 : mM} (X : mCX G RX13 cX13_bytesOf 6 (some .int) "bytesOf" rmX13_bytesOf x) (hQ : mQI x r0 M0 (sz, 0, 0)) {l0 : Nat} {l1 : Int32} {l2 : Int32} {l3 : Nat} {l4 : Nat} {M : mM} (h : P_X13_bytesOf G F l0 l1 l2 l3 l4 M = some (r0, M0)) : WW x (sz, 0, 0) M 0 [(0, .ref l0), (1, .int l1), (2, .int l2), (3, .ref l3), (4, .ref l4)] [] := by
  unfold P_X13_bytesOf at h
  refine ww_aload_n 0 X dX13_bytesOf_0 0 rfl rfl ?_
  refine ww_iload_n 1 X dX13_bytesOf_1 1 rfl rfl ?_
  refine ww_iload_n 2 X dX13_bytesOf_2 2 rfl rfl ?_
  refine ww_aload_n 3 X dX13_bytesOf_3 3 rfl rfl ?_
  obtain ⟨_, f4, h⟩ := bO_some h
  obtain ⟨v4, M4, e4, h⟩ := bP_some h
  refine ww_callVI0 4 X dX13_bytesOf_4 mY_X13_memberOf mL_X13_796 (rcv_spec f4) ⟨_, _, rfl⟩ (by decide) (As := [.int l1, .int l2, .ref l3]) (rest := []) rfl rfl ⟨Nat.le_of_ble_eq_true rfl, Nat.le_of_ble_eq_true rfl⟩ (Nat.le_of_ble_eq_true rfl) (fun l D A => c_X13_memberOf l D A e4) ?_
  refine ww_istore 7 X dX13_bytesOf_7 (lv' := [(0, .ref l0), (1, .int l1), (2, .int l2), (3, .ref l3), (4, .ref l4), (5, .int v4)]) (by decide) [1, 2, 3, 4, 5, 0] rfl ?_
  refine ww_aload_n 9 X dX13_bytesOf_9 0 rfl rfl ?_
  refine ww_iload_n 10 X dX13_bytesOf_10 1 rfl rfl ?_
  refine ww_iload 11 X dX13_bytesOf_11 5 rfl ?_
  obtain ⟨_, f13, h⟩ := bO_some h
  obtain ⟨v13, M13, e13, h⟩ := bP_some h
  refine ww_callVI0 13 X dX13_bytesOf_13 mY_X13_isString mL_X13_792 (rcv_spec f13) ⟨_, _, rfl⟩ (by decide) (As := [.int l1, .int v4]) (rest := []) rfl rfl ⟨Nat.le_of_ble_eq_true rfl, Nat.le_of_ble_eq_true rfl⟩ (Nat.le_of_ble_eq_true rfl) (fun l D A => c_X13_isString l D A e13) ?_
  refine ww_if_eq 16 59 X dX13_bytesOf_16 (by decide) (fun q => ?_) (fun q => ?_)
  · replace h := (if_pos q).symm.trans h
    refine ww_iconst 59 X (v := (-1 : Int32)) dX13_bytesOf_59 (by decide) ?_
    exact ww_iretE 60 X hQ dX13_bytesOf_60 h
  · replace h := (if_neg q).symm.trans h
    refine ww_aload_n 19 X dX13_bytesOf_19 0 rfl rfl ?_
    refine ww_aload_n 20 X dX13_bytesOf_20 0 rfl rfl ?_
    obtain ⟨v21, e21, h⟩ := bO_some h
    refine ww_getR 21 X dX13_bytesOf_21 fG_X13_51 e21 ?_
    refine ww_aload_n 24 X dX13_bytesOf_24 0 rfl rfl ?_
    obtain ⟨v25, e25, h⟩ := bO_some h
    refine ww_getR 25 X dX13_bytesOf_25 fG_X13_39 e25 ?_
    refine ww_sipush 28 X (v := (600 : Int32)) dX13_bytesOf_28 (by decide) ?_
    refine ww_iload_n 31 X dX13_bytesOf_31 1 rfl rfl ?_
    refine ww_imul 32 X dX13_bytesOf_32 ?_
    refine ww_iload 33 X dX13_bytesOf_33 5 rfl ?_
    refine ww_iadd 35 X dX13_bytesOf_35 ?_
    obtain ⟨v36, e36, h⟩ := bO_some h
    refine ww_iald 36 X dX13_bytesOf_36 e36 ?_
    refine ww_aload_n 37 X dX13_bytesOf_37 0 rfl rfl ?_
    obtain ⟨v38, e38, h⟩ := bO_some h
    refine ww_getR 38 X dX13_bytesOf_38 fG_X13_42 e38 ?_
    refine ww_sipush 41 X (v := (600 : Int32)) dX13_bytesOf_41 (by decide) ?_
    refine ww_iload_n 44 X dX13_bytesOf_44 1 rfl rfl ?_
    refine ww_imul 45 X dX13_bytesOf_45 ?_
    refine ww_iload 46 X dX13_bytesOf_46 5 rfl ?_
    refine ww_iadd 48 X dX13_bytesOf_48 ?_
    obtain ⟨v49, e49, h⟩ := bO_some h
    refine ww_iald 49 X dX13_bytesOf_49 e49 ?_
    refine ww_aload 50 X dX13_bytesOf_50 4 rfl ?_
    refine ww_iconst 52 X (v := (0 : Int32)) dX13_bytesOf_52 (by decide) ?_
    obtain ⟨_, f53, h⟩ := bO_some h
    obtain ⟨v53, M53, e53, h⟩ := bP_some h
    refine ww_callVI0 53 X dX13_bytesOf_53 mY_X13_unletter mL_X13_503 (rcv_spec f53) ⟨_, _, rfl⟩ (by decide) (As := [.ref v21, .int v36, .int v49, .ref l4, .int (0 : Int32)]) (rest := []) rfl rfl ⟨Nat.le_of_ble_eq_true rfl, Nat.le_of_ble_eq_true rfl⟩ (Nat.le_of_ble_eq_true rfl) (fun l D A => c_X13_unletter l D A e53) ?_
    refine ww_goto 56 60 X dX13_bytesOf_56 (by decide) ?_
    exact ww_iretE 60 X hQ dX13_bytesOf_60 h
theorem c_X13_bytesOf {G : mG} {F sz : Nat} {r0 : Int32} {M0 : mM} (l : Launch) (D : mD) (A : Nat → Prop) {l0 : Nat} {l1 : Int32} {l2 : Int32} {l3 : Nat} {l4 : Nat} {M : mM} (h : P_X13_bytesOf G F l0 l1 l2 l3 l4 M = some (r0, M0)) : mMetI l D G A yX13_bytesOf cX13_bytesOf 6 (some .int) 6 135 0 0 [.ref l0, .int l1, .int l2, .ref l3, .ref l4] M sz r0 M0 sz := mMetI_of l D G A (by decide) (Nat.le_of_ble_eq_true rfl) (fun x X hQ => wP_X13_bytesOf X hQ h)
/-! SealedTokensModel.isOdd(ILjava/lang/String;)Z -/
theorem dX13_isOdd_0 : decode cX13_isOdd 0 = .ok (.aload_n 0, 1) := by decide +kernel
theorem dX13_isOdd_1 : decode cX13_isOdd 1 = .ok (.iload_n 1, 1) := by decide +kernel
theorem dX13_isOdd_2 : decode cX13_isOdd 2 = .ok (.iconst 0, 1) := by decide +kernel
theorem dX13_isOdd_3 : decode cX13_isOdd 3 = .ok (.aload_n 2, 1) := by decide +kernel
theorem dX13_isOdd_4 : decode cX13_isOdd 4 = .ok (.invokevirtual 796, 3) := by decide +kernel
theorem dX13_isOdd_7 : decode cX13_isOdd 7 = .ok (.istore_n 3, 1) := by decide +kernel
theorem dX13_isOdd_8 : decode cX13_isOdd 8 = .ok (.iload_n 3, 1) := by decide +kernel
theorem dX13_isOdd_9 : decode cX13_isOdd 9 = .ok (.ifCond .lt 16, 3) := by decide +kernel
theorem dX13_isOdd_12 : decode cX13_isOdd 12 = .ok (.aload_n 0, 1) := by decide +kernel
theorem dX13_isOdd_13 : decode cX13_isOdd 13 = .ok (.iload_n 1, 1) := by decide +kernel
theorem dX13_isOdd_14 : decode cX13_isOdd 14 = .ok (.iload_n 3, 1) := by decide +kernel
theorem dX13_isOdd_15 : decode cX13_isOdd 15 = .ok (.invokevirtual 792, 3) := by decide +kernel
theorem dX13_isOdd_18 : decode cX13_isOdd 18 = .ok (.ifCond .ne 7, 3) := by decide +kernel
theorem dX13_isOdd_21 : decode cX13_isOdd 21 = .ok (.iconst 1, 1) := by decide +kernel
theorem dX13_isOdd_22 : decode cX13_isOdd 22 = .ok (.goto 4, 3) := by decide +kernel
theorem dX13_isOdd_25 : decode cX13_isOdd 25 = .ok (.iconst 0, 1) := by decide +kernel
theorem dX13_isOdd_26 : decode cX13_isOdd 26 = .ok (.ireturn, 1) := by decide +kernel
abbrev rmX13_isOdd : Room := { frames := 6, cells := 0, slots := 0, locals := 135 }
set_option maxHeartbeats 4000000 in
set_option maxRecDepth 100000 in
theorem wP_X13_isOdd {G : mG} {F : Nat} {x : mXT} {sz : Nat} {r0 : Int32} {M0 : mM} (X : mCX G RX13 cX13_isOdd 4 (some .boolean) "isOdd" rmX13_isOdd x) (hQ : mQI x r0 M0 (sz, 0, 0)) {l0 : Nat} {l1 : Int32} {l2 : Nat} {M : mM} (h : P_X13_isOdd G F l0 l1 l2 M = some (r0, M0)) : WW x (sz, 0, 0) M 0 [(0, .ref l0), (1, .int l1), (2, .ref l2)] [] := by
  unfold P_X13_isOdd at h
  refine ww_aload_n 0 X dX13_isOdd_0 0 rfl rfl ?_
  refine ww_iload_n 1 X dX13_isOdd_1 1 rfl rfl ?_
  refine ww_iconst 2 X (v := (0 : Int32)) dX13_isOdd_2 (by decide) ?_
  refine ww_aload_n 3 X dX13_isOdd_3 2 rfl rfl ?_
  obtain ⟨_, f4, h⟩ := bO_some h
  obtain ⟨v4, M4, e4, h⟩ := bP_some h
  refine ww_callVI0 4 X dX13_isOdd_4 mY_X13_memberOf mL_X13_796 (rcv_spec f4) ⟨_, _, rfl⟩ (by decide) (As := [.int l1, .int (0 : Int32), .ref l2]) (rest := []) rfl rfl ⟨Nat.le_of_ble_eq_true rfl, Nat.le_of_ble_eq_true rfl⟩ (Nat.le_of_ble_eq_true rfl) (fun l D A => c_X13_memberOf l D A e4) ?_
  refine ww_istore_n 7 X dX13_isOdd_7 (lv' := [(0, .ref l0), (1, .int l1), (2, .ref l2), (3, .int v4)]) rfl (by decide) [1, 2, 3, 0] rfl ?_
  refine ww_iload_n 8 X dX13_isOdd_8 3 rfl rfl ?_
  refine ww_if_lt 9 25 X dX13_isOdd_9 (by decide) (fun q => ?_) (fun q => ?_)
  · replace h := (if_pos q).symm.trans h
    refine ww_iconst 25 X (v := (0 : Int32)) dX13_isOdd_25 (by decide) ?_
    exact ww_zretE 26 X hQ dX13_isOdd_26 h
  · replace h := (if_neg q).symm.trans h
    refine ww_aload_n 12 X dX13_isOdd_12 0 rfl rfl ?_
    refine ww_iload_n 13 X dX13_isOdd_13 1 rfl rfl ?_
    refine ww_iload_n 14 X dX13_isOdd_14 3 rfl rfl ?_
    obtain ⟨_, f15, h⟩ := bO_some h
    obtain ⟨v15, M15, e15, h⟩ := bP_some h
    refine ww_callVI0 15 X dX13_isOdd_15 mY_X13_isString mL_X13_792 (rcv_spec f15) ⟨_, _, rfl⟩ (by decide) (As := [.int l1, .int v4]) (rest := []) rfl rfl ⟨Nat.le_of_ble_eq_true rfl, Nat.le_of_ble_eq_true rfl⟩ (Nat.le_of_ble_eq_true rfl) (fun l D A => c_X13_isString l D A e15) ?_
    refine ww_if_ne 18 25 X dX13_isOdd_18 (by decide) (fun q => ?_) (fun q => ?_)
    · replace h := (if_neg q).symm.trans h
      refine ww_iconst 25 X (v := (0 : Int32)) dX13_isOdd_25 (by decide) ?_
      exact ww_zretE 26 X hQ dX13_isOdd_26 h
    · replace h := (if_pos q).symm.trans h
      refine ww_iconst 21 X (v := (1 : Int32)) dX13_isOdd_21 (by decide) ?_
      refine ww_goto 22 26 X dX13_isOdd_22 (by decide) ?_
      exact ww_zretE 26 X hQ dX13_isOdd_26 h
theorem c_X13_isOdd {G : mG} {F sz : Nat} {r0 : Int32} {M0 : mM} (l : Launch) (D : mD) (A : Nat → Prop) {l0 : Nat} {l1 : Int32} {l2 : Nat} {M : mM} (h : P_X13_isOdd G F l0 l1 l2 M = some (r0, M0)) : mMetI l D G A yX13_isOdd cX13_isOdd 4 (some .boolean) 6 135 0 0 [.ref l0, .int l1, .ref l2] M sz r0 M0 sz := mMetI_of l D G A (by decide) (Nat.le_of_ble_eq_true rfl) (fun x X hQ => wP_X13_isOdd X hQ h)
/-! SealedTokensModel.isLessThan([BI[BI)Z -/
theorem dX13_isLessThan_0 : decode cX13_isLessThan 0 = .ok (.iload_n 2, 1) := by decide +kernel
theorem dX13_isLessThan_1 : decode cX13_isLessThan 1 = .ok (.iload 4, 2) := by decide +kernel
theorem dX13_isLessThan_3 : decode cX13_isLessThan 3 = .ok (.if_icmp .eq 15, 3) := by decide +kernel
theorem dX13_isLessThan_6 : decode cX13_isLessThan 6 = .ok (.iload_n 2, 1) := by decide +kernel
theorem dX13_isLessThan_7 : decode cX13_isLessThan 7 = .ok (.iload 4, 2) := by decide +kernel
theorem dX13_isLessThan_9 : decode cX13_isLessThan 9 = .ok (.if_icmp .ge 7, 3) := by decide +kernel
theorem dX13_isLessThan_12 : decode cX13_isLessThan 12 = .ok (.iconst 1, 1) := by decide +kernel
theorem dX13_isLessThan_13 : decode cX13_isLessThan 13 = .ok (.goto 4, 3) := by decide +kernel
theorem dX13_isLessThan_16 : decode cX13_isLessThan 16 = .ok (.iconst 0, 1) := by decide +kernel
theorem dX13_isLessThan_17 : decode cX13_isLessThan 17 = .ok (.ireturn, 1) := by decide +kernel
theorem dX13_isLessThan_18 : decode cX13_isLessThan 18 = .ok (.iconst 0, 1) := by decide +kernel
theorem dX13_isLessThan_19 : decode cX13_isLessThan 19 = .ok (.istore 5, 2) := by decide +kernel
theorem dX13_isLessThan_21 : decode cX13_isLessThan 21 = .ok (.iload 5, 2) := by decide +kernel
theorem dX13_isLessThan_23 : decode cX13_isLessThan 23 = .ok (.iload_n 2, 1) := by decide +kernel
theorem dX13_isLessThan_24 : decode cX13_isLessThan 24 = .ok (.if_icmp .ge 20, 3) := by decide +kernel
theorem dX13_isLessThan_27 : decode cX13_isLessThan 27 = .ok (.aload_n 1, 1) := by decide +kernel
theorem dX13_isLessThan_28 : decode cX13_isLessThan 28 = .ok (.iload 5, 2) := by decide +kernel
theorem dX13_isLessThan_30 : decode cX13_isLessThan 30 = .ok (.baload, 1) := by decide +kernel
theorem dX13_isLessThan_31 : decode cX13_isLessThan 31 = .ok (.aload_n 3, 1) := by decide +kernel
theorem dX13_isLessThan_32 : decode cX13_isLessThan 32 = .ok (.iload 5, 2) := by decide +kernel
theorem dX13_isLessThan_34 : decode cX13_isLessThan 34 = .ok (.baload, 1) := by decide +kernel
theorem dX13_isLessThan_35 : decode cX13_isLessThan 35 = .ok (.if_icmp .ne 9, 3) := by decide +kernel
theorem dX13_isLessThan_38 : decode cX13_isLessThan 38 = .ok (.iinc 5 1, 3) := by decide +kernel
theorem dX13_isLessThan_41 : decode cX13_isLessThan 41 = .ok (.goto (-20), 3) := by decide +kernel
theorem dX13_isLessThan_44 : decode cX13_isLessThan 44 = .ok (.iload 5, 2) := by decide +kernel
theorem dX13_isLessThan_46 : decode cX13_isLessThan 46 = .ok (.iload_n 2, 1) := by decide +kernel
theorem dX13_isLessThan_47 : decode cX13_isLessThan 47 = .ok (.if_icmp .ge 26, 3) := by decide +kernel
theorem dX13_isLessThan_50 : decode cX13_isLessThan 50 = .ok (.aload_n 1, 1) := by decide +kernel
theorem dX13_isLessThan_51 : decode cX13_isLessThan 51 = .ok (.iload 5, 2) := by decide +kernel
theorem dX13_isLessThan_53 : decode cX13_isLessThan 53 = .ok (.baload, 1) := by decide +kernel
theorem dX13_isLessThan_54 : decode cX13_isLessThan 54 = .ok (.sipush 255, 3) := by decide +kernel
theorem dX13_isLessThan_57 : decode cX13_isLessThan 57 = .ok (.iand, 1) := by decide +kernel
theorem dX13_isLessThan_58 : decode cX13_isLessThan 58 = .ok (.aload_n 3, 1) := by decide +kernel
theorem dX13_isLessThan_59 : decode cX13_isLessThan 59 = .ok (.iload 5, 2) := by decide +kernel
theorem dX13_isLessThan_61 : decode cX13_isLessThan 61 = .ok (.baload, 1) := by decide +kernel
theorem dX13_isLessThan_62 : decode cX13_isLessThan 62 = .ok (.sipush 255, 3) := by decide +kernel
theorem dX13_isLessThan_65 : decode cX13_isLessThan 65 = .ok (.iand, 1) := by decide +kernel
theorem dX13_isLessThan_66 : decode cX13_isLessThan 66 = .ok (.if_icmp .ge 7, 3) := by decide +kernel
theorem dX13_isLessThan_69 : decode cX13_isLessThan 69 = .ok (.iconst 1, 1) := by decide +kernel
theorem dX13_isLessThan_70 : decode cX13_isLessThan 70 = .ok (.goto 4, 3) := by decide +kernel
theorem dX13_isLessThan_73 : decode cX13_isLessThan 73 = .ok (.iconst 0, 1) := by decide +kernel
theorem dX13_isLessThan_74 : decode cX13_isLessThan 74 = .ok (.ireturn, 1) := by decide +kernel
abbrev rmX13_isLessThan : Room := { frames := 0, cells := 0, slots := 0, locals := 0 }
set_option maxHeartbeats 4000000 in
set_option maxRecDepth 100000 in
theorem wB_X13_isLessThan_44 {G : mG} {F : Nat} {x : mXT} {sz : Nat} {r0 : Int32} {M0 : mM} (X : mCX G RX13 cX13_isLessThan 6 (some .boolean) "isLessThan" rmX13_isLessThan x) (hQ : mQI x r0 M0 (sz, 0, 0)) {l1 : Nat} {l2 : Int32} {l3 : Nat} {l5 : Int32} {M : mM} (h : B_X13_isLessThan_44 G F l1 l2 l3 l5 M = some (r0, M0)) : WW x (sz, 0, 0) M 44 [(1, .ref l1), (2, .int l2), (3, .ref l3), (5, .int l5)] [] := by
  unfold B_X13_isLessThan_44 at h
  refine ww_iload 44 X dX13_isLessThan_44 3 rfl ?_
  refine ww_iload_n 46 X dX13_isLessThan_46 1 rfl rfl ?_
  refine ww_icmp_ge 47 73 X dX13_isLessThan_47 (by decide) (fun q => ?_) (fun q => ?_)
  · replace h := (if_pos q).symm.trans h
    refine ww_iconst 73 X (v := (0 : Int32)) dX13_isLessThan_73 (by decide) ?_
    exact ww_zretE 74 X hQ dX13_isLessThan_74 h
  · replace h := (if_neg q).symm.trans h
    refine ww_aload_n 50 X dX13_isLessThan_50 0 rfl rfl ?_
    refine ww_iload 51 X dX13_isLessThan_51 3 rfl ?_
    obtain ⟨v53, e53, h⟩ := bO_some h
    refine ww_bald 53 X dX13_isLessThan_53 e53 ?_
    refine ww_sipush 54 X (v := (255 : Int32)) dX13_isLessThan_54 (by decide) ?_
    refine ww_iand 57 X dX13_isLessThan_57 ?_
    refine ww_aload_n 58 X dX13_isLessThan_58 2 rfl rfl ?_
    refine ww_iload 59 X dX13_isLessThan_59 3 rfl ?_
    obtain ⟨v61, e61, h⟩ := bO_some h
    refine ww_bald 61 X dX13_isLessThan_61 e61 ?_
    refine ww_sipush 62 X (v := (255 : Int32)) dX13_isLessThan_62 (by decide) ?_
    refine ww_iand 65 X dX13_isLessThan_65 ?_
    refine ww_icmp_ge 66 73 X dX13_isLessThan_66 (by decide) (fun q => ?_) (fun q => ?_)
    · replace h := (if_pos q).symm.trans h
      refine ww_iconst 73 X (v := (0 : Int32)) dX13_isLessThan_73 (by decide) ?_
      exact ww_zretE 74 X hQ dX13_isLessThan_74 h
    · replace h := (if_neg q).symm.trans h
      refine ww_iconst 69 X (v := (1 : Int32)) dX13_isLessThan_69 (by decide) ?_
      refine ww_goto 70 74 X dX13_isLessThan_70 (by decide) ?_
      exact ww_zretE 74 X hQ dX13_isLessThan_74 h
set_option maxHeartbeats 4000000 in
set_option maxRecDepth 100000 in
theorem wB_X13_isLessThan_21 {G : mG} {F : Nat} {x : mXT} {sz : Nat} {r0 : Int32} {M0 : mM} (X : mCX G RX13 cX13_isLessThan 6 (some .boolean) "isLessThan" rmX13_isLessThan x) (hQ : mQI x r0 M0 (sz, 0, 0)) : ∀ (n : Nat) (l1 : Nat) (l2 : Int32) (l3 : Nat) (l5 : Int32) (M : mM), B_X13_isLessThan_21 G F n l1 l2 l3 l5 M = some (r0, M0) → WW x (sz, 0, 0) M 21 [(1, .ref l1), (2, .int l2), (3, .ref l3), (5, .int l5)] [] := by
  intro n
  induction n with
  | zero =>
    intro l1 l2 l3 l5 M h
    exact nomatch (show (none : Option (Int32 × mM)) = some (r0, M0) from h)
  | succ n ih =>
    intro l1 l2 l3 l5 M h
    rw [B_X13_isLessThan_21] at h
    refine ww_iload 21 X dX13_isLessThan_21 3 rfl ?_
    refine ww_iload_n 23 X dX13_isLessThan_23 1 rfl rfl ?_
    refine ww_icmp_ge 24 44 X dX13_isLessThan_24 (by decide) (fun q => ?_) (fun q => ?_)
    · replace h := (if_pos q).symm.trans h
      exact (wB_X13_isLessThan_44 X hQ h)
    · replace h := (if_neg q).symm.trans h
      refine ww_aload_n 27 X dX13_isLessThan_27 0 rfl rfl ?_
      refine ww_iload 28 X dX13_isLessThan_28 3 rfl ?_
      obtain ⟨v30, e30, h⟩ := bO_some h
      refine ww_bald 30 X dX13_isLessThan_30 e30 ?_
      refine ww_aload_n 31 X dX13_isLessThan_31 2 rfl rfl ?_
      refine ww_iload 32 X dX13_isLessThan_32 3 rfl ?_
      obtain ⟨v34, e34, h⟩ := bO_some h
      refine ww_bald 34 X dX13_isLessThan_34 e34 ?_
      refine ww_icmp_ne 35 44 X dX13_isLessThan_35 (by decide) (fun q => ?_) (fun q => ?_)
      · replace h := (if_neg q).symm.trans h
        exact (wB_X13_isLessThan_44 X hQ h)
      · replace h := (if_pos q).symm.trans h
        refine ww_iinc 38 X dX13_isLessThan_38 (lv' := [(1, .ref l1), (2, .int l2), (3, .ref l3), (5, .int (l5 + 1))]) 3 rfl rfl (by decide) [1, 2, 3, 0] rfl ?_
        refine ww_goto 41 21 X dX13_isLessThan_41 (by decide) ?_
        exact (ih _ _ _ _ _ h)
set_option maxHeartbeats 4000000 in
set_option maxRecDepth 100000 in
theorem wP_X13_isLessThan {G : mG} {F : Nat} {x : mXT} {sz : Nat} {r0 : Int32} {M0 : mM} (X : mCX G RX13 cX13_isLessThan 6 (some .boolean) "isLessThan" rmX13_isLessThan x) (hQ : mQI x r0 M0 (sz, 0, 0)) {l0 : Nat} {l1 : Nat} {l2 : Int32} {l3 : Nat} {l4 : Int32} {M : mM} (h : P_X13_isLessThan G F l0 l1 l2 l3 l4 M = some (r0, M0)) : WW x (sz, 0, 0) M 0 [(0, .ref l0), (1, .ref l1), (2, .int l2), (3, .ref l3), (4, .int l4)] [] := by
  unfold P_X13_isLessThan at h
  refine ww_iload_n 0 X dX13_isLessThan_0 2 rfl rfl ?_
  refine ww_iload 1 X dX13_isLessThan_1 4 rfl ?_
  refine ww_icmp_eq 3 18 X dX13_isLessThan_3 (by decide) (fun q => ?_) (fun q => ?_)
  · replace h := (if_pos q).symm.trans h
    refine ww_iconst 18 X (v := (0 : Int32)) dX13_isLessThan_18 (by decide) ?_
    refine ww_istore 19 X dX13_isLessThan_19 (lv' := [(0, .ref l0), (1, .ref l1), (2, .int l2), (3, .ref l3), (4, .int l4), (5, .int (0 : Int32))]) (by decide) [1, 2, 3, 4, 5, 0] rfl ?_
    exact ww_sub [1, 2, 3, 5] rfl (wB_X13_isLessThan_21 X hQ F _ _ _ _ _ h)
  · replace h := (if_neg q).symm.trans h
    refine ww_iload_n 6 X dX13_isLessThan_6 2 rfl rfl ?_
    refine ww_iload 7 X dX13_isLessThan_7 4 rfl ?_
    refine ww_icmp_ge 9 16 X dX13_isLessThan_9 (by decide) (fun q => ?_) (fun q => ?_)
    · replace h := (if_pos q).symm.trans h
      refine ww_iconst 16 X (v := (0 : Int32)) dX13_isLessThan_16 (by decide) ?_
      exact ww_zretE 17 X hQ dX13_isLessThan_17 h
    · replace h := (if_neg q).symm.trans h
      refine ww_iconst 12 X (v := (1 : Int32)) dX13_isLessThan_12 (by decide) ?_
      refine ww_goto 13 17 X dX13_isLessThan_13 (by decide) ?_
      exact ww_zretE 17 X hQ dX13_isLessThan_17 h
theorem c_X13_isLessThan {G : mG} {F sz : Nat} {r0 : Int32} {M0 : mM} (l : Launch) (D : mD) (A : Nat → Prop) {l0 : Nat} {l1 : Nat} {l2 : Int32} {l3 : Nat} {l4 : Int32} {M : mM} (h : P_X13_isLessThan G F l0 l1 l2 l3 l4 M = some (r0, M0)) : mMetI l D G A yX13_isLessThan cX13_isLessThan 6 (some .boolean) 0 0 0 0 [.ref l0, .ref l1, .int l2, .ref l3, .int l4] M sz r0 M0 sz := mMetI_of l D G A (by decide) (Nat.le_of_ble_eq_true rfl) (fun x X hQ => wP_X13_isLessThan X hQ h)
/-! SealedTokensModel.isRsa()Z -/
theorem dX13_isRsa_0 : decode cX13_isRsa 0 = .ok (.aload_n 0, 1) := by decide +kernel
theorem dX13_isRsa_1 : decode cX13_isRsa 1 = .ok (.getfield 838, 3) := by decide +kernel
theorem dX13_isRsa_4 : decode cX13_isRsa 4 = .ok (.bipush 64, 2) := by decide +kernel
theorem dX13_isRsa_6 : decode cX13_isRsa 6 = .ok (.if_icmp .lt 42, 3) := by decide +kernel
theorem dX13_isRsa_9 : decode cX13_isRsa 9 = .ok (.aload_n 0, 1) := by decide +kernel
theorem dX13_isRsa_10 : decode cX13_isRsa 10 = .ok (.getfield 838, 3) := by decide +kernel
theorem dX13_isRsa_13 : decode cX13_isRsa 13 = .ok (.sipush 128, 3) := by decide +kernel
theorem dX13_isRsa_16 : decode cX13_isRsa 16 = .ok (.if_icmp .gt 32, 3) := by decide +kernel
theorem dX13_isRsa_19 : decode cX13_isRsa 19 = .ok (.aload_n 0, 1) := by decide +kernel
theorem dX13_isRsa_20 : decode cX13_isRsa 20 = .ok (.getfield 239, 3) := by decide +kernel
theorem dX13_isRsa_23 : decode cX13_isRsa 23 = .ok (.iconst 0, 1) := by decide +kernel
theorem dX13_isRsa_24 : decode cX13_isRsa 24 = .ok (.baload, 1) := by decide +kernel
theorem dX13_isRsa_25 : decode cX13_isRsa 25 = .ok (.ifCond .eq 23, 3) := by decide +kernel
theorem dX13_isRsa_28 : decode cX13_isRsa 28 = .ok (.aload_n 0, 1) := by decide +kernel
theorem dX13_isRsa_29 : decode cX13_isRsa 29 = .ok (.getfield 239, 3) := by decide +kernel
theorem dX13_isRsa_32 : decode cX13_isRsa 32 = .ok (.aload_n 0, 1) := by decide +kernel
theorem dX13_isRsa_33 : decode cX13_isRsa 33 = .ok (.getfield 838, 3) := by decide +kernel
theorem dX13_isRsa_36 : decode cX13_isRsa 36 = .ok (.iconst 1, 1) := by decide +kernel
theorem dX13_isRsa_37 : decode cX13_isRsa 37 = .ok (.isub, 1) := by decide +kernel
theorem dX13_isRsa_38 : decode cX13_isRsa 38 = .ok (.baload, 1) := by decide +kernel
theorem dX13_isRsa_39 : decode cX13_isRsa 39 = .ok (.iconst 2, 1) := by decide +kernel
theorem dX13_isRsa_40 : decode cX13_isRsa 40 = .ok (.irem, 1) := by decide +kernel
theorem dX13_isRsa_41 : decode cX13_isRsa 41 = .ok (.ifCond .eq 7, 3) := by decide +kernel
theorem dX13_isRsa_44 : decode cX13_isRsa 44 = .ok (.iconst 1, 1) := by decide +kernel
theorem dX13_isRsa_45 : decode cX13_isRsa 45 = .ok (.goto 4, 3) := by decide +kernel
theorem dX13_isRsa_48 : decode cX13_isRsa 48 = .ok (.iconst 0, 1) := by decide +kernel
theorem dX13_isRsa_49 : decode cX13_isRsa 49 = .ok (.istore_n 1, 1) := by decide +kernel
theorem dX13_isRsa_50 : decode cX13_isRsa 50 = .ok (.iload_n 1, 1) := by decide +kernel
theorem dX13_isRsa_51 : decode cX13_isRsa 51 = .ok (.ifCond .eq 84, 3) := by decide +kernel
theorem dX13_isRsa_54 : decode cX13_isRsa 54 = .ok (.aload_n 0, 1) := by decide +kernel
theorem dX13_isRsa_55 : decode cX13_isRsa 55 = .ok (.getfield 818, 3) := by decide +kernel
theorem dX13_isRsa_58 : decode cX13_isRsa 58 = .ok (.ifCond .le 77, 3) := by decide +kernel
theorem dX13_isRsa_61 : decode cX13_isRsa 61 = .ok (.aload_n 0, 1) := by decide +kernel
theorem dX13_isRsa_62 : decode cX13_isRsa 62 = .ok (.getfield 242, 3) := by decide +kernel
theorem dX13_isRsa_65 : decode cX13_isRsa 65 = .ok (.iconst 0, 1) := by decide +kernel
theorem dX13_isRsa_66 : decode cX13_isRsa 66 = .ok (.baload, 1) := by decide +kernel
theorem dX13_isRsa_67 : decode cX13_isRsa 67 = .ok (.ifCond .eq 68, 3) := by decide +kernel
theorem dX13_isRsa_70 : decode cX13_isRsa 70 = .ok (.aload_n 0, 1) := by decide +kernel
theorem dX13_isRsa_71 : decode cX13_isRsa 71 = .ok (.getfield 242, 3) := by decide +kernel
theorem dX13_isRsa_74 : decode cX13_isRsa 74 = .ok (.aload_n 0, 1) := by decide +kernel
theorem dX13_isRsa_75 : decode cX13_isRsa 75 = .ok (.getfield 818, 3) := by decide +kernel
theorem dX13_isRsa_78 : decode cX13_isRsa 78 = .ok (.iconst 1, 1) := by decide +kernel
theorem dX13_isRsa_79 : decode cX13_isRsa 79 = .ok (.isub, 1) := by decide +kernel
theorem dX13_isRsa_80 : decode cX13_isRsa 80 = .ok (.baload, 1) := by decide +kernel
theorem dX13_isRsa_81 : decode cX13_isRsa 81 = .ok (.iconst 2, 1) := by decide +kernel
theorem dX13_isRsa_82 : decode cX13_isRsa 82 = .ok (.irem, 1) := by decide +kernel
theorem dX13_isRsa_83 : decode cX13_isRsa 83 = .ok (.ifCond .eq 52, 3) := by decide +kernel
theorem dX13_isRsa_86 : decode cX13_isRsa 86 = .ok (.aload_n 0, 1) := by decide +kernel
theorem dX13_isRsa_87 : decode cX13_isRsa 87 = .ok (.getfield 818, 3) := by decide +kernel
theorem dX13_isRsa_90 : decode cX13_isRsa 90 = .ok (.iconst 1, 1) := by decide +kernel
theorem dX13_isRsa_91 : decode cX13_isRsa 91 = .ok (.if_icmp .gt 17, 3) := by decide +kernel
theorem dX13_isRsa_94 : decode cX13_isRsa 94 = .ok (.aload_n 0, 1) := by decide +kernel
theorem dX13_isRsa_95 : decode cX13_isRsa 95 = .ok (.getfield 242, 3) := by decide +kernel
theorem dX13_isRsa_98 : decode cX13_isRsa 98 = .ok (.iconst 0, 1) := by decide +kernel
theorem dX13_isRsa_99 : decode cX13_isRsa 99 = .ok (.baload, 1) := by decide +kernel
theorem dX13_isRsa_100 : decode cX13_isRsa 100 = .ok (.sipush 255, 3) := by decide +kernel
theorem dX13_isRsa_103 : decode cX13_isRsa 103 = .ok (.iand, 1) := by decide +kernel
theorem dX13_isRsa_104 : decode cX13_isRsa 104 = .ok (.iconst 3, 1) := by decide +kernel
theorem dX13_isRsa_105 : decode cX13_isRsa 105 = .ok (.if_icmp .lt 30, 3) := by decide +kernel
theorem dX13_isRsa_108 : decode cX13_isRsa 108 = .ok (.aload_n 0, 1) := by decide +kernel
theorem dX13_isRsa_109 : decode cX13_isRsa 109 = .ok (.aload_n 0, 1) := by decide +kernel
theorem dX13_isRsa_110 : decode cX13_isRsa 110 = .ok (.getfield 242, 3) := by decide +kernel
theorem dX13_isRsa_113 : decode cX13_isRsa 113 = .ok (.aload_n 0, 1) := by decide +kernel
theorem dX13_isRsa_114 : decode cX13_isRsa 114 = .ok (.getfield 818, 3) := by decide +kernel
theorem dX13_isRsa_117 : decode cX13_isRsa 117 = .ok (.aload_n 0, 1) := by decide +kernel
theorem dX13_isRsa_118 : decode cX13_isRsa 118 = .ok (.getfield 239, 3) := by decide +kernel
theorem dX13_isRsa_121 : decode cX13_isRsa 121 = .ok (.aload_n 0, 1) := by decide +kernel
theorem dX13_isRsa_122 : decode cX13_isRsa 122 = .ok (.getfield 838, 3) := by decide +kernel
theorem dX13_isRsa_125 : decode cX13_isRsa 125 = .ok (.invokevirtual 857, 3) := by decide +kernel
theorem dX13_isRsa_128 : decode cX13_isRsa 128 = .ok (.ifCond .eq 7, 3) := by decide +kernel
theorem dX13_isRsa_131 : decode cX13_isRsa 131 = .ok (.iconst 1, 1) := by decide +kernel
theorem dX13_isRsa_132 : decode cX13_isRsa 132 = .ok (.goto 4, 3) := by decide +kernel
theorem dX13_isRsa_135 : decode cX13_isRsa 135 = .ok (.iconst 0, 1) := by decide +kernel
theorem dX13_isRsa_136 : decode cX13_isRsa 136 = .ok (.istore_n 1, 1) := by decide +kernel
theorem dX13_isRsa_137 : decode cX13_isRsa 137 = .ok (.iload_n 1, 1) := by decide +kernel
theorem dX13_isRsa_138 : decode cX13_isRsa 138 = .ok (.ifCond .eq 10, 3) := by decide +kernel
theorem dX13_isRsa_141 : decode cX13_isRsa 141 = .ok (.aload_n 0, 1) := by decide +kernel
theorem dX13_isRsa_142 : decode cX13_isRsa 142 = .ok (.getfield 821, 3) := by decide +kernel
theorem dX13_isRsa_145 : decode cX13_isRsa 145 = .ok (.ifCond .ge 5, 3) := by decide +kernel
theorem dX13_isRsa_148 : decode cX13_isRsa 148 = .ok (.iload_n 1, 1) := by decide +kernel
theorem dX13_isRsa_149 : decode cX13_isRsa 149 = .ok (.ireturn, 1) := by decide +kernel
theorem dX13_isRsa_150 : decode cX13_isRsa 150 = .ok (.aload_n 0, 1) := by decide +kernel
theorem dX13_isRsa_151 : decode cX13_isRsa 151 = .ok (.getfield 821, 3) := by decide +kernel
theorem dX13_isRsa_154 : decode cX13_isRsa 154 = .ok (.ifCond .eq 35, 3) := by decide +kernel
theorem dX13_isRsa_157 : decode cX13_isRsa 157 = .ok (.aload_n 0, 1) := by decide +kernel
theorem dX13_isRsa_158 : decode cX13_isRsa 158 = .ok (.getfield 245, 3) := by decide +kernel
theorem dX13_isRsa_161 : decode cX13_isRsa 161 = .ok (.iconst 0, 1) := by decide +kernel
theorem dX13_isRsa_162 : decode cX13_isRsa 162 = .ok (.baload, 1) := by decide +kernel
theorem dX13_isRsa_163 : decode cX13_isRsa 163 = .ok (.ifCond .eq 26, 3) := by decide +kernel
theorem dX13_isRsa_166 : decode cX13_isRsa 166 = .ok (.aload_n 0, 1) := by decide +kernel
theorem dX13_isRsa_167 : decode cX13_isRsa 167 = .ok (.aload_n 0, 1) := by decide +kernel
theorem dX13_isRsa_168 : decode cX13_isRsa 168 = .ok (.getfield 245, 3) := by decide +kernel
theorem dX13_isRsa_171 : decode cX13_isRsa 171 = .ok (.aload_n 0, 1) := by decide +kernel
theorem dX13_isRsa_172 : decode cX13_isRsa 172 = .ok (.getfield 821, 3) := by decide +kernel
theorem dX13_isRsa_175 : decode cX13_isRsa 175 = .ok (.aload_n 0, 1) := by decide +kernel
theorem dX13_isRsa_176 : decode cX13_isRsa 176 = .ok (.getfield 239, 3) := by decide +kernel
theorem dX13_isRsa_179 : decode cX13_isRsa 179 = .ok (.aload_n 0, 1) := by decide +kernel
theorem dX13_isRsa_180 : decode cX13_isRsa 180 = .ok (.getfield 838, 3) := by decide +kernel
theorem dX13_isRsa_183 : decode cX13_isRsa 183 = .ok (.invokevirtual 857, 3) := by decide +kernel
theorem dX13_isRsa_186 : decode cX13_isRsa 186 = .ok (.ifCond .ne 5, 3) := by decide +kernel
theorem dX13_isRsa_189 : decode cX13_isRsa 189 = .ok (.iconst 0, 1) := by decide +kernel
theorem dX13_isRsa_190 : decode cX13_isRsa 190 = .ok (.ireturn, 1) := by decide +kernel
theorem dX13_isRsa_191 : decode cX13_isRsa 191 = .ok (.aload_n 0, 1) := by decide +kernel
theorem dX13_isRsa_192 : decode cX13_isRsa 192 = .ok (.getfield 122, 3) := by decide +kernel
theorem dX13_isRsa_195 : decode cX13_isRsa 195 = .ok (.aload_n 0, 1) := by decide +kernel
theorem dX13_isRsa_196 : decode cX13_isRsa 196 = .ok (.getfield 239, 3) := by decide +kernel
theorem dX13_isRsa_199 : decode cX13_isRsa 199 = .ok (.iconst 0, 1) := by decide +kernel
theorem dX13_isRsa_200 : decode cX13_isRsa 200 = .ok (.aload_n 0, 1) := by decide +kernel
theorem dX13_isRsa_201 : decode cX13_isRsa 201 = .ok (.getfield 838, 3) := by decide +kernel
theorem dX13_isRsa_204 : decode cX13_isRsa 204 = .ok (.invokevirtual 687, 3) := by decide +kernel
theorem dX13_isRsa_207 : decode cX13_isRsa 207 = .ok (.aload_n 0, 1) := by decide +kernel
theorem dX13_isRsa_208 : decode cX13_isRsa 208 = .ok (.getfield 122, 3) := by decide +kernel
theorem dX13_isRsa_211 : decode cX13_isRsa 211 = .ok (.aload_n 0, 1) := by decide +kernel
theorem dX13_isRsa_212 : decode cX13_isRsa 212 = .ok (.getfield 122, 3) := by decide +kernel
theorem dX13_isRsa_215 : decode cX13_isRsa 215 = .ok (.getfield 753, 3) := by decide +kernel
theorem dX13_isRsa_218 : decode cX13_isRsa 218 = .ok (.aload_n 0, 1) := by decide +kernel
theorem dX13_isRsa_219 : decode cX13_isRsa 219 = .ok (.getfield 122, 3) := by decide +kernel
theorem dX13_isRsa_222 : decode cX13_isRsa 222 = .ok (.getfield 753, 3) := by decide +kernel
theorem dX13_isRsa_225 : decode cX13_isRsa 225 = .ok (.aload_n 0, 1) := by decide +kernel
theorem dX13_isRsa_226 : decode cX13_isRsa 226 = .ok (.getfield 132, 3) := by decide +kernel
theorem dX13_isRsa_229 : decode cX13_isRsa 229 = .ok (.invokevirtual 740, 3) := by decide +kernel
theorem dX13_isRsa_232 : decode cX13_isRsa 232 = .ok (.aload_n 0, 1) := by decide +kernel
theorem dX13_isRsa_233 : decode cX13_isRsa 233 = .ok (.getfield 122, 3) := by decide +kernel
theorem dX13_isRsa_236 : decode cX13_isRsa 236 = .ok (.aload_n 0, 1) := by decide +kernel
theorem dX13_isRsa_237 : decode cX13_isRsa 237 = .ok (.getfield 132, 3) := by decide +kernel
theorem dX13_isRsa_240 : decode cX13_isRsa 240 = .ok (.aload_n 0, 1) := by decide +kernel
theorem dX13_isRsa_241 : decode cX13_isRsa 241 = .ok (.getfield 242, 3) := by decide +kernel
theorem dX13_isRsa_244 : decode cX13_isRsa 244 = .ok (.iconst 0, 1) := by decide +kernel
theorem dX13_isRsa_245 : decode cX13_isRsa 245 = .ok (.aload_n 0, 1) := by decide +kernel
theorem dX13_isRsa_246 : decode cX13_isRsa 246 = .ok (.getfield 818, 3) := by decide +kernel
theorem dX13_isRsa_249 : decode cX13_isRsa 249 = .ok (.aload_n 0, 1) := by decide +kernel
theorem dX13_isRsa_250 : decode cX13_isRsa 250 = .ok (.getfield 135, 3) := by decide +kernel
theorem dX13_isRsa_253 : decode cX13_isRsa 253 = .ok (.invokevirtual 698, 3) := by decide +kernel
theorem dX13_isRsa_256 : decode cX13_isRsa 256 = .ok (.aload_n 0, 1) := by decide +kernel
theorem dX13_isRsa_257 : decode cX13_isRsa 257 = .ok (.getfield 122, 3) := by decide +kernel
theorem dX13_isRsa_260 : decode cX13_isRsa 260 = .ok (.aload_n 0, 1) := by decide +kernel
theorem dX13_isRsa_261 : decode cX13_isRsa 261 = .ok (.getfield 135, 3) := by decide +kernel
theorem dX13_isRsa_264 : decode cX13_isRsa 264 = .ok (.aload_n 0, 1) := by decide +kernel
theorem dX13_isRsa_265 : decode cX13_isRsa 265 = .ok (.getfield 245, 3) := by decide +kernel
theorem dX13_isRsa_268 : decode cX13_isRsa 268 = .ok (.iconst 0, 1) := by decide +kernel
theorem dX13_isRsa_269 : decode cX13_isRsa 269 = .ok (.aload_n 0, 1) := by decide +kernel
theorem dX13_isRsa_270 : decode cX13_isRsa 270 = .ok (.getfield 821, 3) := by decide +kernel
theorem dX13_isRsa_273 : decode cX13_isRsa 273 = .ok (.aload_n 0, 1) := by decide +kernel
theorem dX13_isRsa_274 : decode cX13_isRsa 274 = .ok (.getfield 135, 3) := by decide +kernel
theorem dX13_isRsa_277 : decode cX13_isRsa 277 = .ok (.invokevirtual 698, 3) := by decide +kernel
theorem dX13_isRsa_280 : decode cX13_isRsa 280 = .ok (.aload_n 0, 1) := by decide +kernel
theorem dX13_isRsa_281 : decode cX13_isRsa 281 = .ok (.getfield 122, 3) := by decide +kernel
theorem dX13_isRsa_284 : decode cX13_isRsa 284 = .ok (.aload_n 0, 1) := by decide +kernel
theorem dX13_isRsa_285 : decode cX13_isRsa 285 = .ok (.getfield 132, 3) := by decide +kernel
theorem dX13_isRsa_288 : decode cX13_isRsa 288 = .ok (.aload_n 0, 1) := by decide +kernel
theorem dX13_isRsa_289 : decode cX13_isRsa 289 = .ok (.getfield 135, 3) := by decide +kernel
theorem dX13_isRsa_292 : decode cX13_isRsa 292 = .ok (.invokevirtual 732, 3) := by decide +kernel
theorem dX13_isRsa_295 : decode cX13_isRsa 295 = .ok (.ifCond .ne 7, 3) := by decide +kernel
theorem dX13_isRsa_298 : decode cX13_isRsa 298 = .ok (.iconst 1, 1) := by decide +kernel
theorem dX13_isRsa_299 : decode cX13_isRsa 299 = .ok (.goto 4, 3) := by decide +kernel
theorem dX13_isRsa_302 : decode cX13_isRsa 302 = .ok (.iconst 0, 1) := by decide +kernel
theorem dX13_isRsa_303 : decode cX13_isRsa 303 = .ok (.ireturn, 1) := by decide +kernel
abbrev rmX13_isRsa : Room := { frames := 3, cells := 0, slots := 0, locals := 85 }
set_option maxHeartbeats 4000000 in
set_option maxRecDepth 100000 in
theorem wB_X13_isRsa_136 {G : mG} {F : Nat} {x : mXT} {sz : Nat} {r0 : Int32} {M0 : mM} (X : mCX G RX13 cX13_isRsa 2 (some .boolean) "isRsa" rmX13_isRsa x) (hQ : mQI x r0 M0 (sz, 0, 0)) {l0 : Nat} {sk0 : Int32} {M : mM} (h : B_X13_isRsa_136 G F l0 sk0 M = some (r0, M0)) : WW x (sz, 0, 0) M 136 [(0, .ref l0)] [.int sk0] := by
  unfold B_X13_isRsa_136 at h
  refine ww_istore_n 136 X dX13_isRsa_136 (lv' := [(0, .ref l0), (1, .int sk0)]) rfl (by decide) [1, 0] rfl ?_
  refine ww_iload_n 137 X dX13_isRsa_137 1 rfl rfl ?_
  refine ww_if_eq 138 148 X dX13_isRsa_138 (by decide) (fun q => ?_) (fun q => ?_)
  · replace h := (if_pos q).symm.trans h
    refine ww_iload_n 148 X dX13_isRsa_148 1 rfl rfl ?_
    exact ww_zretE 149 X hQ dX13_isRsa_149 h
  · replace h := (if_neg q).symm.trans h
    refine ww_aload_n 141 X dX13_isRsa_141 0 rfl rfl ?_
    obtain ⟨v142, e142, h⟩ := bO_some h
    refine ww_getI 142 X dX13_isRsa_142 fG_X13_821 e142 ?_
    refine ww_if_ge 145 150 X dX13_isRsa_145 (by decide) (fun q => ?_) (fun q => ?_)
    · replace h := (if_pos q).symm.trans h
      refine ww_aload_n 150 X dX13_isRsa_150 0 rfl rfl ?_
      obtain ⟨v151, e151, h⟩ := bO_some h
      refine ww_getI 151 X dX13_isRsa_151 fG_X13_821 e151 ?_
      refine ww_if_eq 154 189 X dX13_isRsa_154 (by decide) (fun q => ?_) (fun q => ?_)
      · replace h := (if_pos q).symm.trans h
        refine ww_iconst 189 X (v := (0 : Int32)) dX13_isRsa_189 (by decide) ?_
        exact ww_zretE 190 X hQ dX13_isRsa_190 h
      · replace h := (if_neg q).symm.trans h
        refine ww_aload_n 157 X dX13_isRsa_157 0 rfl rfl ?_
        obtain ⟨v158, e158, h⟩ := bO_some h
        refine ww_getR 158 X dX13_isRsa_158 fG_X13_245 e158 ?_
        refine ww_iconst 161 X (v := (0 : Int32)) dX13_isRsa_161 (by decide) ?_
        obtain ⟨v162, e162, h⟩ := bO_some h
        refine ww_bald 162 X dX13_isRsa_162 e162 ?_
        refine ww_if_eq 163 189 X dX13_isRsa_163 (by decide) (fun q => ?_) (fun q => ?_)
        · replace h := (if_pos q).symm.trans h
          refine ww_iconst 189 X (v := (0 : Int32)) dX13_isRsa_189 (by decide) ?_
          exact ww_zretE 190 X hQ dX13_isRsa_190 h
        · replace h := (if_neg q).symm.trans h
          refine ww_aload_n 166 X dX13_isRsa_166 0 rfl rfl ?_
          refine ww_aload_n 167 X dX13_isRsa_167 0 rfl rfl ?_
          obtain ⟨v168, e168, h⟩ := bO_some h
          refine ww_getR 168 X dX13_isRsa_168 fG_X13_245 e168 ?_
          refine ww_aload_n 171 X dX13_isRsa_171 0 rfl rfl ?_
          obtain ⟨v172, e172, h⟩ := bO_some h
          refine ww_getI 172 X dX13_isRsa_172 fG_X13_821 e172 ?_
          refine ww_aload_n 175 X dX13_isRsa_175 0 rfl rfl ?_
          obtain ⟨v176, e176, h⟩ := bO_some h
          refine ww_getR 176 X dX13_isRsa_176 fG_X13_239 e176 ?_
          refine ww_aload_n 179 X dX13_isRsa_179 0 rfl rfl ?_
          obtain ⟨v180, e180, h⟩ := bO_some h
          refine ww_getI 180 X dX13_isRsa_180 fG_X13_838 e180 ?_
          obtain ⟨_, f183, h⟩ := bO_some h
          obtain ⟨v183, M183, e183, h⟩ := bP_some h
          refine ww_callVI0 183 X dX13_isRsa_183 mY_X13_isLessThan mL_X13_857 (rcv_spec f183) ⟨_, _, rfl⟩ (by decide) (As := [.ref v168, .int v172, .ref v176, .int v180]) (rest := []) rfl rfl ⟨Nat.le_of_ble_eq_true rfl, Nat.le_of_ble_eq_true rfl⟩ (Nat.le_of_ble_eq_true rfl) (fun l D A => c_X13_isLessThan l D A e183) ?_
          refine ww_if_ne 186 191 X dX13_isRsa_186 (by decide) (fun q => ?_) (fun q => ?_)
          · replace h := (if_neg q).symm.trans h
            refine ww_aload_n 191 X dX13_isRsa_191 0 rfl rfl ?_
            obtain ⟨v192, e192, h⟩ := bO_some h
            refine ww_getR 192 X dX13_isRsa_192 fG_X13_122 e192 ?_
            refine ww_aload_n 195 X dX13_isRsa_195 0 rfl rfl ?_
            obtain ⟨v196, e196, h⟩ := bO_some h
            refine ww_getR 196 X dX13_isRsa_196 fG_X13_239 e196 ?_
            refine ww_iconst 199 X (v := (0 : Int32)) dX13_isRsa_199 (by decide) ?_
            refine ww_aload_n 200 X dX13_isRsa_200 0 rfl rfl ?_
            obtain ⟨v201, e201, h⟩ := bO_some h
            refine ww_getI 201 X dX13_isRsa_201 fG_X13_838 e201 ?_
            obtain ⟨_, f204, h⟩ := bO_some h
            obtain ⟨M204, e204, h⟩ := bO_some h
            refine ww_callVV0 204 X dX13_isRsa_204 mY_X12_set mL_X13_687 (rcv_spec f204) ⟨_, _, rfl⟩ (by decide) (As := [.ref v196, .int (0 : Int32), .int v201]) (rest := []) rfl rfl ⟨Nat.le_of_ble_eq_true rfl, Nat.le_of_ble_eq_true rfl⟩ (Nat.le_of_ble_eq_true rfl) (fun l D A => c_X12_set l D A e204) ?_
            refine ww_aload_n 207 X dX13_isRsa_207 0 rfl rfl ?_
            obtain ⟨v208, e208, h⟩ := bO_some h
            refine ww_getR 208 X dX13_isRsa_208 fG_X13_122 e208 ?_
            refine ww_aload_n 211 X dX13_isRsa_211 0 rfl rfl ?_
            obtain ⟨v212, e212, h⟩ := bO_some h
            refine ww_getR 212 X dX13_isRsa_212 fG_X13_122 e212 ?_
            obtain ⟨v215, e215, h⟩ := bO_some h
            refine ww_getR 215 X dX13_isRsa_215 fG_X13_753 e215 ?_
            refine ww_aload_n 218 X dX13_isRsa_218 0 rfl rfl ?_
            obtain ⟨v219, e219, h⟩ := bO_some h
            refine ww_getR 219 X dX13_isRsa_219 fG_X13_122 e219 ?_
            obtain ⟨v222, e222, h⟩ := bO_some h
            refine ww_getR 222 X dX13_isRsa_222 fG_X13_753 e222 ?_
            refine ww_aload_n 225 X dX13_isRsa_225 0 rfl rfl ?_
            obtain ⟨v226, e226, h⟩ := bO_some h
            refine ww_getR 226 X dX13_isRsa_226 fG_X13_132 e226 ?_
            obtain ⟨_, f229, h⟩ := bO_some h
            obtain ⟨M229, e229, h⟩ := bO_some h
            refine ww_callVV0 229 X dX13_isRsa_229 mY_X12_add mL_X13_740 (rcv_spec f229) ⟨_, _, rfl⟩ (by decide) (As := [.ref v215, .ref v222, .ref v226]) (rest := []) rfl rfl ⟨Nat.le_of_ble_eq_true rfl, Nat.le_of_ble_eq_true rfl⟩ (Nat.le_of_ble_eq_true rfl) (fun l D A => c_X12_add l D A e229) ?_
            refine ww_aload_n 232 X dX13_isRsa_232 0 rfl rfl ?_
            obtain ⟨v233, e233, h⟩ := bO_some h
            refine ww_getR 233 X dX13_isRsa_233 fG_X13_122 e233 ?_
            refine ww_aload_n 236 X dX13_isRsa_236 0 rfl rfl ?_
            obtain ⟨v237, e237, h⟩ := bO_some h
            refine ww_getR 237 X dX13_isRsa_237 fG_X13_132 e237 ?_
            refine ww_aload_n 240 X dX13_isRsa_240 0 rfl rfl ?_
            obtain ⟨v241, e241, h⟩ := bO_some h
            refine ww_getR 241 X dX13_isRsa_241 fG_X13_242 e241 ?_
            refine ww_iconst 244 X (v := (0 : Int32)) dX13_isRsa_244 (by decide) ?_
            refine ww_aload_n 245 X dX13_isRsa_245 0 rfl rfl ?_
            obtain ⟨v246, e246, h⟩ := bO_some h
            refine ww_getI 246 X dX13_isRsa_246 fG_X13_818 e246 ?_
            refine ww_aload_n 249 X dX13_isRsa_249 0 rfl rfl ?_
            obtain ⟨v250, e250, h⟩ := bO_some h
            refine ww_getR 250 X dX13_isRsa_250 fG_X13_135 e250 ?_
            obtain ⟨_, f253, h⟩ := bO_some h
            obtain ⟨M253, e253, h⟩ := bO_some h
            refine ww_callVV0 253 X dX13_isRsa_253 mY_X12_power mL_X13_698 (rcv_spec f253) ⟨_, _, rfl⟩ (by decide) (As := [.ref v237, .ref v241, .int (0 : Int32), .int v246, .ref v250]) (rest := []) rfl rfl ⟨Nat.le_of_ble_eq_true rfl, Nat.le_of_ble_eq_true rfl⟩ (Nat.le_of_ble_eq_true rfl) (fun l D A => c_X12_power l D A e253) ?_
            refine ww_aload_n 256 X dX13_isRsa_256 0 rfl rfl ?_
            obtain ⟨v257, e257, h⟩ := bO_some h
            refine ww_getR 257 X dX13_isRsa_257 fG_X13_122 e257 ?_
            refine ww_aload_n 260 X dX13_isRsa_260 0 rfl rfl ?_
            obtain ⟨v261, e261, h⟩ := bO_some h
            refine ww_getR 261 X dX13_isRsa_261 fG_X13_135 e261 ?_
            refine ww_aload_n 264 X dX13_isRsa_264 0 rfl rfl ?_
            obtain ⟨v265, e265, h⟩ := bO_some h
            refine ww_getR 265 X dX13_isRsa_265 fG_X13_245 e265 ?_
            refine ww_iconst 268 X (v := (0 : Int32)) dX13_isRsa_268 (by decide) ?_
            refine ww_aload_n 269 X dX13_isRsa_269 0 rfl rfl ?_
            obtain ⟨v270, e270, h⟩ := bO_some h
            refine ww_getI 270 X dX13_isRsa_270 fG_X13_821 e270 ?_
            refine ww_aload_n 273 X dX13_isRsa_273 0 rfl rfl ?_
            obtain ⟨v274, e274, h⟩ := bO_some h
            refine ww_getR 274 X dX13_isRsa_274 fG_X13_135 e274 ?_
            obtain ⟨_, f277, h⟩ := bO_some h
            obtain ⟨M277, e277, h⟩ := bO_some h
            refine ww_callVV0 277 X dX13_isRsa_277 mY_X12_power mL_X13_698 (rcv_spec f277) ⟨_, _, rfl⟩ (by decide) (As := [.ref v261, .ref v265, .int (0 : Int32), .int v270, .ref v274]) (rest := []) rfl rfl ⟨Nat.le_of_ble_eq_true rfl, Nat.le_of_ble_eq_true rfl⟩ (Nat.le_of_ble_eq_true rfl) (fun l D A => c_X12_power l D A e277) ?_
            refine ww_aload_n 280 X dX13_isRsa_280 0 rfl rfl ?_
            obtain ⟨v281, e281, h⟩ := bO_some h
            refine ww_getR 281 X dX13_isRsa_281 fG_X13_122 e281 ?_
            refine ww_aload_n 284 X dX13_isRsa_284 0 rfl rfl ?_
            obtain ⟨v285, e285, h⟩ := bO_some h
            refine ww_getR 285 X dX13_isRsa_285 fG_X13_132 e285 ?_
            refine ww_aload_n 288 X dX13_isRsa_288 0 rfl rfl ?_
            obtain ⟨v289, e289, h⟩ := bO_some h
            refine ww_getR 289 X dX13_isRsa_289 fG_X13_135 e289 ?_
            obtain ⟨_, f292, h⟩ := bO_some h
            obtain ⟨v292, M292, e292, h⟩ := bP_some h
            refine ww_callVI0 292 X dX13_isRsa_292 mY_X12_order mL_X13_732 (rcv_spec f292) ⟨_, _, rfl⟩ (by decide) (As := [.ref v285, .ref v289]) (rest := []) rfl rfl ⟨Nat.le_of_ble_eq_true rfl, Nat.le_of_ble_eq_true rfl⟩ (Nat.le_of_ble_eq_true rfl) (fun l D A => c_X12_order l D A e292) ?_
            refine ww_if_ne 295 302 X dX13_isRsa_295 (by decide) (fun q => ?_) (fun q => ?_)
            · replace h := (if_neg q).symm.trans h
              refine ww_iconst 302 X (v := (0 : Int32)) dX13_isRsa_302 (by decide) ?_
              exact ww_zretE 303 X hQ dX13_isRsa_303 h
            · replace h := (if_pos q).symm.trans h
              refine ww_iconst 298 X (v := (1 : Int32)) dX13_isRsa_298 (by decide) ?_
              refine ww_goto 299 303 X dX13_isRsa_299 (by decide) ?_
              exact ww_zretE 303 X hQ dX13_isRsa_303 h
          · replace h := (if_pos q).symm.trans h
            refine ww_iconst 189 X (v := (0 : Int32)) dX13_isRsa_189 (by decide) ?_
            exact ww_zretE 190 X hQ dX13_isRsa_190 h
    · replace h := (if_neg q).symm.trans h
      refine ww_iload_n 148 X dX13_isRsa_148 1 rfl rfl ?_
      exact ww_zretE 149 X hQ dX13_isRsa_149 h
set_option maxHeartbeats 4000000 in
set_option maxRecDepth 100000 in
theorem wB_X13_isRsa_108 {G : mG} {F : Nat} {x : mXT} {sz : Nat} {r0 : Int32} {M0 : mM} (X : mCX G RX13 cX13_isRsa 2 (some .boolean) "isRsa" rmX13_isRsa x) (hQ : mQI x r0 M0 (sz, 0, 0)) {l0 : Nat} {M : mM} (h : B_X13_isRsa_108 G F l0 M = some (r0, M0)) : WW x (sz, 0, 0) M 108 [(0, .ref l0)] [] := by
  unfold B_X13_isRsa_108 at h
  refine ww_aload_n 108 X dX13_isRsa_108 0 rfl rfl ?_
  refine ww_aload_n 109 X dX13_isRsa_109 0 rfl rfl ?_
  obtain ⟨v110, e110, h⟩ := bO_some h
  refine ww_getR 110 X dX13_isRsa_110 fG_X13_242 e110 ?_
  refine ww_aload_n 113 X dX13_isRsa_113 0 rfl rfl ?_
  obtain ⟨v114, e114, h⟩ := bO_some h
  refine ww_getI 114 X dX13_isRsa_114 fG_X13_818 e114 ?_
  refine ww_aload_n 117 X dX13_isRsa_117 0 rfl rfl ?_
  obtain ⟨v118, e118, h⟩ := bO_some h
  refine ww_getR 118 X dX13_isRsa_118 fG_X13_239 e118 ?_
  refine ww_aload_n 121 X dX13_isRsa_121 0 rfl rfl ?_
  obtain ⟨v122, e122, h⟩ := bO_some h
  refine ww_getI 122 X dX13_isRsa_122 fG_X13_838 e122 ?_
  obtain ⟨_, f125, h⟩ := bO_some h
  obtain ⟨v125, M125, e125, h⟩ := bP_some h
  refine ww_callVI0 125 X dX13_isRsa_125 mY_X13_isLessThan mL_X13_857 (rcv_spec f125) ⟨_, _, rfl⟩ (by decide) (As := [.ref v110, .int v114, .ref v118, .int v122]) (rest := []) rfl rfl ⟨Nat.le_of_ble_eq_true rfl, Nat.le_of_ble_eq_true rfl⟩ (Nat.le_of_ble_eq_true rfl) (fun l D A => c_X13_isLessThan l D A e125) ?_
  refine ww_if_eq 128 135 X dX13_isRsa_128 (by decide) (fun q => ?_) (fun q => ?_)
  · replace h := (if_pos q).symm.trans h
    refine ww_iconst 135 X (v := (0 : Int32)) dX13_isRsa_135 (by decide) ?_
    exact (wB_X13_isRsa_136 X hQ h)
  · replace h := (if_neg q).symm.trans h
    refine ww_iconst 131 X (v := (1 : Int32)) dX13_isRsa_131 (by decide) ?_
    refine ww_goto 132 136 X dX13_isRsa_132 (by decide) ?_
    exact (wB_X13_isRsa_136 X hQ h)
set_option maxHeartbeats 4000000 in
set_option maxRecDepth 100000 in
theorem wB_X13_isRsa_49 {G : mG} {F : Nat} {x : mXT} {sz : Nat} {r0 : Int32} {M0 : mM} (X : mCX G RX13 cX13_isRsa 2 (some .boolean) "isRsa" rmX13_isRsa x) (hQ : mQI x r0 M0 (sz, 0, 0)) {l0 : Nat} {sk0 : Int32} {M : mM} (h : B_X13_isRsa_49 G F l0 sk0 M = some (r0, M0)) : WW x (sz, 0, 0) M 49 [(0, .ref l0)] [.int sk0] := by
  unfold B_X13_isRsa_49 at h
  refine ww_istore_n 49 X dX13_isRsa_49 (lv' := [(0, .ref l0), (1, .int sk0)]) rfl (by decide) [1, 0] rfl ?_
  refine ww_iload_n 50 X dX13_isRsa_50 1 rfl rfl ?_
  refine ww_if_eq 51 135 X dX13_isRsa_51 (by decide) (fun q => ?_) (fun q => ?_)
  · replace h := (if_pos q).symm.trans h
    refine ww_iconst 135 X (v := (0 : Int32)) dX13_isRsa_135 (by decide) ?_
    exact ww_sub [0] rfl (wB_X13_isRsa_136 X hQ h)
  · replace h := (if_neg q).symm.trans h
    refine ww_aload_n 54 X dX13_isRsa_54 0 rfl rfl ?_
    obtain ⟨v55, e55, h⟩ := bO_some h
    refine ww_getI 55 X dX13_isRsa_55 fG_X13_818 e55 ?_
    refine ww_if_le 58 135 X dX13_isRsa_58 (by decide) (fun q => ?_) (fun q => ?_)
    · replace h := (if_pos q).symm.trans h
      refine ww_iconst 135 X (v := (0 : Int32)) dX13_isRsa_135 (by decide) ?_
      exact ww_sub [0] rfl (wB_X13_isRsa_136 X hQ h)
    · replace h := (if_neg q).symm.trans h
      refine ww_aload_n 61 X dX13_isRsa_61 0 rfl rfl ?_
      obtain ⟨v62, e62, h⟩ := bO_some h
      refine ww_getR 62 X dX13_isRsa_62 fG_X13_242 e62 ?_
      refine ww_iconst 65 X (v := (0 : Int32)) dX13_isRsa_65 (by decide) ?_
      obtain ⟨v66, e66, h⟩ := bO_some h
      refine ww_bald 66 X dX13_isRsa_66 e66 ?_
      refine ww_if_eq 67 135 X dX13_isRsa_67 (by decide) (fun q => ?_) (fun q => ?_)
      · replace h := (if_pos q).symm.trans h
        refine ww_iconst 135 X (v := (0 : Int32)) dX13_isRsa_135 (by decide) ?_
        exact ww_sub [0] rfl (wB_X13_isRsa_136 X hQ h)
      · replace h := (if_neg q).symm.trans h
        refine ww_aload_n 70 X dX13_isRsa_70 0 rfl rfl ?_
        obtain ⟨v71, e71, h⟩ := bO_some h
        refine ww_getR 71 X dX13_isRsa_71 fG_X13_242 e71 ?_
        refine ww_aload_n 74 X dX13_isRsa_74 0 rfl rfl ?_
        obtain ⟨v75, e75, h⟩ := bO_some h
        refine ww_getI 75 X dX13_isRsa_75 fG_X13_818 e75 ?_
        refine ww_iconst 78 X (v := (1 : Int32)) dX13_isRsa_78 (by decide) ?_
        refine ww_isub 79 X dX13_isRsa_79 ?_
        obtain ⟨v80, e80, h⟩ := bO_some h
        refine ww_bald 80 X dX13_isRsa_80 e80 ?_
        refine ww_iconst 81 X (v := (2 : Int32)) dX13_isRsa_81 (by decide) ?_
        refine ww_irem 82 X (v := (v80 - v80 / (2 : Int32) * (2 : Int32))) dX13_isRsa_82 rfl ?_
        refine ww_if_eq 83 135 X dX13_isRsa_83 (by decide) (fun q => ?_) (fun q => ?_)
        · replace h := (if_pos q).symm.trans h
          refine ww_iconst 135 X (v := (0 : Int32)) dX13_isRsa_135 (by decide) ?_
          exact ww_sub [0] rfl (wB_X13_isRsa_136 X hQ h)
        · replace h := (if_neg q).symm.trans h
          refine ww_aload_n 86 X dX13_isRsa_86 0 rfl rfl ?_
          obtain ⟨v87, e87, h⟩ := bO_some h
          refine ww_getI 87 X dX13_isRsa_87 fG_X13_818 e87 ?_
          refine ww_iconst 90 X (v := (1 : Int32)) dX13_isRsa_90 (by decide) ?_
          refine ww_icmp_gt 91 108 X dX13_isRsa_91 (by decide) (fun q => ?_) (fun q => ?_)
          · replace h := (if_pos q).symm.trans h
            exact ww_sub [0] rfl (wB_X13_isRsa_108 X hQ h)
          · replace h := (if_neg q).symm.trans h
            refine ww_aload_n 94 X dX13_isRsa_94 0 rfl rfl ?_
            obtain ⟨v95, e95, h⟩ := bO_some h
            refine ww_getR 95 X dX13_isRsa_95 fG_X13_242 e95 ?_
            refine ww_iconst 98 X (v := (0 : Int32)) dX13_isRsa_98 (by decide) ?_
            obtain ⟨v99, e99, h⟩ := bO_some h
            refine ww_bald 99 X dX13_isRsa_99 e99 ?_
            refine ww_sipush 100 X (v := (255 : Int32)) dX13_isRsa_100 (by decide) ?_
            refine ww_iand 103 X dX13_isRsa_103 ?_
            refine ww_iconst 104 X (v := (3 : Int32)) dX13_isRsa_104 (by decide) ?_
            refine ww_icmp_lt 105 135 X dX13_isRsa_105 (by decide) (fun q => ?_) (fun q => ?_)
            · replace h := (if_pos q).symm.trans h
              refine ww_iconst 135 X (v := (0 : Int32)) dX13_isRsa_135 (by decide) ?_
              exact ww_sub [0] rfl (wB_X13_isRsa_136 X hQ h)
            · replace h := (if_neg q).symm.trans h
              exact ww_sub [0] rfl (wB_X13_isRsa_108 X hQ h)
set_option maxHeartbeats 4000000 in
set_option maxRecDepth 100000 in
theorem wP_X13_isRsa {G : mG} {F : Nat} {x : mXT} {sz : Nat} {r0 : Int32} {M0 : mM} (X : mCX G RX13 cX13_isRsa 2 (some .boolean) "isRsa" rmX13_isRsa x) (hQ : mQI x r0 M0 (sz, 0, 0)) {l0 : Nat} {M : mM} (h : P_X13_isRsa G F l0 M = some (r0, M0)) : WW x (sz, 0, 0) M 0 [(0, .ref l0)] [] := by
  unfold P_X13_isRsa at h
  refine ww_aload_n 0 X dX13_isRsa_0 0 rfl rfl ?_
  obtain ⟨v1, e1, h⟩ := bO_some h
  refine ww_getI 1 X dX13_isRsa_1 fG_X13_838 e1 ?_
  refine ww_bipush 4 X (v := (64 : Int32)) dX13_isRsa_4 (by decide) ?_
  refine ww_icmp_lt 6 48 X dX13_isRsa_6 (by decide) (fun q => ?_) (fun q => ?_)
  · replace h := (if_pos q).symm.trans h
    refine ww_iconst 48 X (v := (0 : Int32)) dX13_isRsa_48 (by decide) ?_
    exact (wB_X13_isRsa_49 X hQ h)
  · replace h := (if_neg q).symm.trans h
    refine ww_aload_n 9 X dX13_isRsa_9 0 rfl rfl ?_
    obtain ⟨v10, e10, h⟩ := bO_some h
    refine ww_getI 10 X dX13_isRsa_10 fG_X13_838 e10 ?_
    refine ww_sipush 13 X (v := (128 : Int32)) dX13_isRsa_13 (by decide) ?_
    refine ww_icmp_gt 16 48 X dX13_isRsa_16 (by decide) (fun q => ?_) (fun q => ?_)
    · replace h := (if_pos q).symm.trans h
      refine ww_iconst 48 X (v := (0 : Int32)) dX13_isRsa_48 (by decide) ?_
      exact (wB_X13_isRsa_49 X hQ h)
    · replace h := (if_neg q).symm.trans h
      refine ww_aload_n 19 X dX13_isRsa_19 0 rfl rfl ?_
      obtain ⟨v20, e20, h⟩ := bO_some h
      refine ww_getR 20 X dX13_isRsa_20 fG_X13_239 e20 ?_
      refine ww_iconst 23 X (v := (0 : Int32)) dX13_isRsa_23 (by decide) ?_
      obtain ⟨v24, e24, h⟩ := bO_some h
      refine ww_bald 24 X dX13_isRsa_24 e24 ?_
      refine ww_if_eq 25 48 X dX13_isRsa_25 (by decide) (fun q => ?_) (fun q => ?_)
      · replace h := (if_pos q).symm.trans h
        refine ww_iconst 48 X (v := (0 : Int32)) dX13_isRsa_48 (by decide) ?_
        exact (wB_X13_isRsa_49 X hQ h)
      · replace h := (if_neg q).symm.trans h
        refine ww_aload_n 28 X dX13_isRsa_28 0 rfl rfl ?_
        obtain ⟨v29, e29, h⟩ := bO_some h
        refine ww_getR 29 X dX13_isRsa_29 fG_X13_239 e29 ?_
        refine ww_aload_n 32 X dX13_isRsa_32 0 rfl rfl ?_
        obtain ⟨v33, e33, h⟩ := bO_some h
        refine ww_getI 33 X dX13_isRsa_33 fG_X13_838 e33 ?_
        refine ww_iconst 36 X (v := (1 : Int32)) dX13_isRsa_36 (by decide) ?_
        refine ww_isub 37 X dX13_isRsa_37 ?_
        obtain ⟨v38, e38, h⟩ := bO_some h
        refine ww_bald 38 X dX13_isRsa_38 e38 ?_
        refine ww_iconst 39 X (v := (2 : Int32)) dX13_isRsa_39 (by decide) ?_
        refine ww_irem 40 X (v := (v38 - v38 / (2 : Int32) * (2 : Int32))) dX13_isRsa_40 rfl ?_
        refine ww_if_eq 41 48 X dX13_isRsa_41 (by decide) (fun q => ?_) (fun q => ?_)
        · replace h := (if_pos q).symm.trans h
          refine ww_iconst 48 X (v := (0 : Int32)) dX13_isRsa_48 (by decide) ?_
          exact (wB_X13_isRsa_49 X hQ h)
        · replace h := (if_neg q).symm.trans h
          refine ww_iconst 44 X (v := (1 : Int32)) dX13_isRsa_44 (by decide) ?_
          refine ww_goto 45 49 X dX13_isRsa_45 (by decide) ?_
          exact (wB_X13_isRsa_49 X hQ h)
theorem c_X13_isRsa {G : mG} {F sz : Nat} {r0 : Int32} {M0 : mM} (l : Launch) (D : mD) (A : Nat → Prop) {l0 : Nat} {M : mM} (h : P_X13_isRsa G F l0 M = some (r0, M0)) : mMetI l D G A yX13_isRsa cX13_isRsa 2 (some .boolean) 3 85 0 0 [.ref l0] M sz r0 M0 sz := mMetI_of l D G A (by decide) (Nat.le_of_ble_eq_true rfl) (fun x X hQ => wP_X13_isRsa X hQ h)
/-! SealedTokensModel.isEc()Z -/
theorem dX13_isEc_0 : decode cX13_isEc 0 = .ok (.aload_n 0, 1) := by decide +kernel
theorem dX13_isEc_1 : decode cX13_isEc 1 = .ok (.getfield 838, 3) := by decide +kernel
theorem dX13_isEc_4 : decode cX13_isEc 4 = .ok (.bipush 32, 2) := by decide +kernel
theorem dX13_isEc_6 : decode cX13_isEc 6 = .ok (.if_icmp .ne 28, 3) := by decide +kernel
theorem dX13_isEc_9 : decode cX13_isEc 9 = .ok (.aload_n 0, 1) := by decide +kernel
theorem dX13_isEc_10 : decode cX13_isEc 10 = .ok (.getfield 818, 3) := by decide +kernel
theorem dX13_isEc_13 : decode cX13_isEc 13 = .ok (.bipush 32, 2) := by decide +kernel
theorem dX13_isEc_15 : decode cX13_isEc 15 = .ok (.if_icmp .ne 19, 3) := by decide +kernel
theorem dX13_isEc_18 : decode cX13_isEc 18 = .ok (.aload_n 0, 1) := by decide +kernel
theorem dX13_isEc_19 : decode cX13_isEc 19 = .ok (.getfield 821, 3) := by decide +kernel
theorem dX13_isEc_22 : decode cX13_isEc 22 = .ok (.ifCond .lt 14, 3) := by decide +kernel
theorem dX13_isEc_25 : decode cX13_isEc 25 = .ok (.aload_n 0, 1) := by decide +kernel
theorem dX13_isEc_26 : decode cX13_isEc 26 = .ok (.getfield 821, 3) := by decide +kernel
theorem dX13_isEc_29 : decode cX13_isEc 29 = .ok (.bipush 32, 2) := by decide +kernel
theorem dX13_isEc_31 : decode cX13_isEc 31 = .ok (.if_icmp .eq 5, 3) := by decide +kernel
theorem dX13_isEc_34 : decode cX13_isEc 34 = .ok (.iconst 0, 1) := by decide +kernel
theorem dX13_isEc_35 : decode cX13_isEc 35 = .ok (.ireturn, 1) := by decide +kernel
theorem dX13_isEc_36 : decode cX13_isEc 36 = .ok (.aload_n 0, 1) := by decide +kernel
theorem dX13_isEc_37 : decode cX13_isEc 37 = .ok (.getfield 239, 3) := by decide +kernel
theorem dX13_isEc_40 : decode cX13_isEc 40 = .ok (.iconst 0, 1) := by decide +kernel
theorem dX13_isEc_41 : decode cX13_isEc 41 = .ok (.aload_n 0, 1) := by decide +kernel
theorem dX13_isEc_42 : decode cX13_isEc 42 = .ok (.getfield 186, 3) := by decide +kernel
theorem dX13_isEc_45 : decode cX13_isEc 45 = .ok (.iconst 0, 1) := by decide +kernel
theorem dX13_isEc_46 : decode cX13_isEc 46 = .ok (.bipush 32, 2) := by decide +kernel
theorem dX13_isEc_48 : decode cX13_isEc 48 = .ok (.invokestatic 317, 3) := by decide +kernel
theorem dX13_isEc_51 : decode cX13_isEc 51 = .ok (.aload_n 0, 1) := by decide +kernel
theorem dX13_isEc_52 : decode cX13_isEc 52 = .ok (.getfield 242, 3) := by decide +kernel
theorem dX13_isEc_55 : decode cX13_isEc 55 = .ok (.iconst 0, 1) := by decide +kernel
theorem dX13_isEc_56 : decode cX13_isEc 56 = .ok (.aload_n 0, 1) := by decide +kernel
theorem dX13_isEc_57 : decode cX13_isEc 57 = .ok (.getfield 186, 3) := by decide +kernel
theorem dX13_isEc_60 : decode cX13_isEc 60 = .ok (.bipush 32, 2) := by decide +kernel
theorem dX13_isEc_62 : decode cX13_isEc 62 = .ok (.bipush 32, 2) := by decide +kernel
theorem dX13_isEc_64 : decode cX13_isEc 64 = .ok (.invokestatic 317, 3) := by decide +kernel
theorem dX13_isEc_67 : decode cX13_isEc 67 = .ok (.aload_n 0, 1) := by decide +kernel
theorem dX13_isEc_68 : decode cX13_isEc 68 = .ok (.aload_n 0, 1) := by decide +kernel
theorem dX13_isEc_69 : decode cX13_isEc 69 = .ok (.getfield 186, 3) := by decide +kernel
theorem dX13_isEc_72 : decode cX13_isEc 72 = .ok (.iconst 0, 1) := by decide +kernel
theorem dX13_isEc_73 : decode cX13_isEc 73 = .ok (.invokevirtual 766, 3) := by decide +kernel
theorem dX13_isEc_76 : decode cX13_isEc 76 = .ok (.ifCond .ne 5, 3) := by decide +kernel
theorem dX13_isEc_79 : decode cX13_isEc 79 = .ok (.iconst 0, 1) := by decide +kernel
theorem dX13_isEc_80 : decode cX13_isEc 80 = .ok (.ireturn, 1) := by decide +kernel
theorem dX13_isEc_81 : decode cX13_isEc 81 = .ok (.aload_n 0, 1) := by decide +kernel
theorem dX13_isEc_82 : decode cX13_isEc 82 = .ok (.getfield 821, 3) := by decide +kernel
theorem dX13_isEc_85 : decode cX13_isEc 85 = .ok (.ifCond .ge 5, 3) := by decide +kernel
theorem dX13_isEc_88 : decode cX13_isEc 88 = .ok (.iconst 1, 1) := by decide +kernel
theorem dX13_isEc_89 : decode cX13_isEc 89 = .ok (.ireturn, 1) := by decide +kernel
theorem dX13_isEc_90 : decode cX13_isEc 90 = .ok (.aload_n 0, 1) := by decide +kernel
theorem dX13_isEc_91 : decode cX13_isEc 91 = .ok (.aload_n 0, 1) := by decide +kernel
theorem dX13_isEc_92 : decode cX13_isEc 92 = .ok (.getfield 245, 3) := by decide +kernel
theorem dX13_isEc_95 : decode cX13_isEc 95 = .ok (.iconst 0, 1) := by decide +kernel
theorem dX13_isEc_96 : decode cX13_isEc 96 = .ok (.invokevirtual 861, 3) := by decide +kernel
theorem dX13_isEc_99 : decode cX13_isEc 99 = .ok (.ifCond .ne 5, 3) := by decide +kernel
theorem dX13_isEc_102 : decode cX13_isEc 102 = .ok (.iconst 0, 1) := by decide +kernel
theorem dX13_isEc_103 : decode cX13_isEc 103 = .ok (.ireturn, 1) := by decide +kernel
theorem dX13_isEc_104 : decode cX13_isEc 104 = .ok (.aload_n 0, 1) := by decide +kernel
theorem dX13_isEc_105 : decode cX13_isEc 105 = .ok (.aload_n 0, 1) := by decide +kernel
theorem dX13_isEc_106 : decode cX13_isEc 106 = .ok (.getfield 147, 3) := by decide +kernel
theorem dX13_isEc_109 : decode cX13_isEc 109 = .ok (.iconst 0, 1) := by decide +kernel
theorem dX13_isEc_110 : decode cX13_isEc 110 = .ok (.invokevirtual 766, 3) := by decide +kernel
theorem dX13_isEc_113 : decode cX13_isEc 113 = .ok (.istore_n 1, 1) := by decide +kernel
theorem dX13_isEc_114 : decode cX13_isEc 114 = .ok (.aload_n 0, 1) := by decide +kernel
theorem dX13_isEc_115 : decode cX13_isEc 115 = .ok (.aload_n 0, 1) := by decide +kernel
theorem dX13_isEc_116 : decode cX13_isEc 116 = .ok (.getfield 245, 3) := by decide +kernel
theorem dX13_isEc_119 : decode cX13_isEc 119 = .ok (.iconst 0, 1) := by decide +kernel
theorem dX13_isEc_120 : decode cX13_isEc 120 = .ok (.invokevirtual 770, 3) := by decide +kernel
theorem dX13_isEc_123 : decode cX13_isEc 123 = .ok (.iload_n 1, 1) := by decide +kernel
theorem dX13_isEc_124 : decode cX13_isEc 124 = .ok (.ifCond .eq 37, 3) := by decide +kernel
theorem dX13_isEc_127 : decode cX13_isEc 127 = .ok (.aload_n 0, 1) := by decide +kernel
theorem dX13_isEc_128 : decode cX13_isEc 128 = .ok (.aload_n 0, 1) := by decide +kernel
theorem dX13_isEc_129 : decode cX13_isEc 129 = .ok (.getfield 138, 3) := by decide +kernel
theorem dX13_isEc_132 : decode cX13_isEc 132 = .ok (.iconst 0, 1) := by decide +kernel
theorem dX13_isEc_133 : decode cX13_isEc 133 = .ok (.invokevirtual 772, 3) := by decide +kernel
theorem dX13_isEc_136 : decode cX13_isEc 136 = .ok (.ifCond .eq 25, 3) := by decide +kernel
theorem dX13_isEc_139 : decode cX13_isEc 139 = .ok (.aload_n 0, 1) := by decide +kernel
theorem dX13_isEc_140 : decode cX13_isEc 140 = .ok (.getfield 138, 3) := by decide +kernel
theorem dX13_isEc_143 : decode cX13_isEc 143 = .ok (.iconst 0, 1) := by decide +kernel
theorem dX13_isEc_144 : decode cX13_isEc 144 = .ok (.aload_n 0, 1) := by decide +kernel
theorem dX13_isEc_145 : decode cX13_isEc 145 = .ok (.getfield 186, 3) := by decide +kernel
theorem dX13_isEc_148 : decode cX13_isEc 148 = .ok (.iconst 0, 1) := by decide +kernel
theorem dX13_isEc_149 : decode cX13_isEc 149 = .ok (.bipush 64, 2) := by decide +kernel
theorem dX13_isEc_151 : decode cX13_isEc 151 = .ok (.invokestatic 420, 3) := by decide +kernel
theorem dX13_isEc_154 : decode cX13_isEc 154 = .ok (.ifCond .eq 7, 3) := by decide +kernel
theorem dX13_isEc_157 : decode cX13_isEc 157 = .ok (.iconst 1, 1) := by decide +kernel
theorem dX13_isEc_158 : decode cX13_isEc 158 = .ok (.goto 4, 3) := by decide +kernel
theorem dX13_isEc_161 : decode cX13_isEc 161 = .ok (.iconst 0, 1) := by decide +kernel
theorem dX13_isEc_162 : decode cX13_isEc 162 = .ok (.ireturn, 1) := by decide +kernel
abbrev rmX13_isEc : Room := { frames := 5, cells := 0, slots := 0, locals := 123 }
set_option maxHeartbeats 4000000 in
set_option maxRecDepth 100000 in
theorem wB_X13_isEc_36 {G : mG} {F : Nat} {x : mXT} {sz : Nat} {r0 : Int32} {M0 : mM} (X : mCX G RX13 cX13_isEc 2 (some .boolean) "isEc" rmX13_isEc x) (hQ : mQI x r0 M0 (sz, 0, 0)) {l0 : Nat} {M : mM} (h : B_X13_isEc_36 G F l0 M = some (r0, M0)) : WW x (sz, 0, 0) M 36 [(0, .ref l0)] [] := by
  unfold B_X13_isEc_36 at h
  refine ww_aload_n 36 X dX13_isEc_36 0 rfl rfl ?_
  obtain ⟨v37, e37, h⟩ := bO_some h
  refine ww_getR 37 X dX13_isEc_37 fG_X13_239 e37 ?_
  refine ww_iconst 40 X (v := (0 : Int32)) dX13_isEc_40 (by decide) ?_
  refine ww_aload_n 41 X dX13_isEc_41 0 rfl rfl ?_
  obtain ⟨v42, e42, h⟩ := bO_some h
  refine ww_getR 42 X dX13_isEc_42 fG_X13_186 e42 ?_
  refine ww_iconst 45 X (v := (0 : Int32)) dX13_isEc_45 (by decide) ?_
  refine ww_bipush 46 X (v := (32 : Int32)) dX13_isEc_46 (by decide) ?_
  obtain ⟨M48, e48, h⟩ := bO_some h
  refine ww_callSV0 48 X dX13_isEc_48 mY_X13_move mL_X13_317 (As := [.ref v37, .int (0 : Int32), .ref v42, .int (0 : Int32), .int (32 : Int32)]) (rest := []) rfl rfl ⟨Nat.le_of_ble_eq_true rfl, Nat.le_of_ble_eq_true rfl⟩ (Nat.le_of_ble_eq_true rfl) (fun l D A => c_X13_move l D A e48) ?_
  refine ww_aload_n 51 X dX13_isEc_51 0 rfl rfl ?_
  obtain ⟨v52, e52, h⟩ := bO_some h
  refine ww_getR 52 X dX13_isEc_52 fG_X13_242 e52 ?_
  refine ww_iconst 55 X (v := (0 : Int32)) dX13_isEc_55 (by decide) ?_
  refine ww_aload_n 56 X dX13_isEc_56 0 rfl rfl ?_
  obtain ⟨v57, e57, h⟩ := bO_some h
  refine ww_getR 57 X dX13_isEc_57 fG_X13_186 e57 ?_
  refine ww_bipush 60 X (v := (32 : Int32)) dX13_isEc_60 (by decide) ?_
  refine ww_bipush 62 X (v := (32 : Int32)) dX13_isEc_62 (by decide) ?_
  obtain ⟨M64, e64, h⟩ := bO_some h
  refine ww_callSV0 64 X dX13_isEc_64 mY_X13_move mL_X13_317 (As := [.ref v52, .int (0 : Int32), .ref v57, .int (32 : Int32), .int (32 : Int32)]) (rest := []) rfl rfl ⟨Nat.le_of_ble_eq_true rfl, Nat.le_of_ble_eq_true rfl⟩ (Nat.le_of_ble_eq_true rfl) (fun l D A => c_X13_move l D A e64) ?_
  refine ww_aload_n 67 X dX13_isEc_67 0 rfl rfl ?_
  refine ww_aload_n 68 X dX13_isEc_68 0 rfl rfl ?_
  obtain ⟨v69, e69, h⟩ := bO_some h
  refine ww_getR 69 X dX13_isEc_69 fG_X13_186 e69 ?_
  refine ww_iconst 72 X (v := (0 : Int32)) dX13_isEc_72 (by decide) ?_
  obtain ⟨_, f73, h⟩ := bO_some h
  obtain ⟨v73, M73, e73, h⟩ := bP_some h
  refine ww_callVI0 73 X dX13_isEc_73 mY_X13_setPoint mL_X13_766 (rcv_spec f73) ⟨_, _, rfl⟩ (by decide) (As := [.ref v69, .int (0 : Int32)]) (rest := []) rfl rfl ⟨Nat.le_of_ble_eq_true rfl, Nat.le_of_ble_eq_true rfl⟩ (Nat.le_of_ble_eq_true rfl) (fun l D A => c_X13_setPoint l D A e73) ?_
  refine ww_if_ne 76 81 X dX13_isEc_76 (by decide) (fun q => ?_) (fun q => ?_)
  · replace h := (if_neg q).symm.trans h
    refine ww_aload_n 81 X dX13_isEc_81 0 rfl rfl ?_
    obtain ⟨v82, e82, h⟩ := bO_some h
    refine ww_getI 82 X dX13_isEc_82 fG_X13_821 e82 ?_
    refine ww_if_ge 85 90 X dX13_isEc_85 (by decide) (fun q => ?_) (fun q => ?_)
    · replace h := (if_pos q).symm.trans h
      refine ww_aload_n 90 X dX13_isEc_90 0 rfl rfl ?_
      refine ww_aload_n 91 X dX13_isEc_91 0 rfl rfl ?_
      obtain ⟨v92, e92, h⟩ := bO_some h
      refine ww_getR 92 X dX13_isEc_92 fG_X13_245 e92 ?_
      refine ww_iconst 95 X (v := (0 : Int32)) dX13_isEc_95 (by decide) ?_
      obtain ⟨_, f96, h⟩ := bO_some h
      obtain ⟨v96, M96, e96, h⟩ := bP_some h
      refine ww_callVI0 96 X dX13_isEc_96 mY_X13_isSecret mL_X13_861 (rcv_spec f96) ⟨_, _, rfl⟩ (by decide) (As := [.ref v92, .int (0 : Int32)]) (rest := []) rfl rfl ⟨Nat.le_of_ble_eq_true rfl, Nat.le_of_ble_eq_true rfl⟩ (Nat.le_of_ble_eq_true rfl) (fun l D A => c_X13_isSecret l D A e96) ?_
      refine ww_if_ne 99 104 X dX13_isEc_99 (by decide) (fun q => ?_) (fun q => ?_)
      · replace h := (if_neg q).symm.trans h
        refine ww_aload_n 104 X dX13_isEc_104 0 rfl rfl ?_
        refine ww_aload_n 105 X dX13_isEc_105 0 rfl rfl ?_
        obtain ⟨v106, e106, h⟩ := bO_some h
        refine ww_getR 106 X dX13_isEc_106 fG_X13_147 e106 ?_
        refine ww_iconst 109 X (v := (0 : Int32)) dX13_isEc_109 (by decide) ?_
        obtain ⟨_, f110, h⟩ := bO_some h
        obtain ⟨v110, M110, e110, h⟩ := bP_some h
        refine ww_callVI0 110 X dX13_isEc_110 mY_X13_setPoint mL_X13_766 (rcv_spec f110) ⟨_, _, rfl⟩ (by decide) (As := [.ref v106, .int (0 : Int32)]) (rest := []) rfl rfl ⟨Nat.le_of_ble_eq_true rfl, Nat.le_of_ble_eq_true rfl⟩ (Nat.le_of_ble_eq_true rfl) (fun l D A => c_X13_setPoint l D A e110) ?_
        refine ww_istore_n 113 X dX13_isEc_113 (lv' := [(0, .ref l0), (1, .int v110)]) rfl (by decide) [1, 0] rfl ?_
        refine ww_aload_n 114 X dX13_isEc_114 0 rfl rfl ?_
        refine ww_aload_n 115 X dX13_isEc_115 0 rfl rfl ?_
        obtain ⟨v116, e116, h⟩ := bO_some h
        refine ww_getR 116 X dX13_isEc_116 fG_X13_245 e116 ?_
        refine ww_iconst 119 X (v := (0 : Int32)) dX13_isEc_119 (by decide) ?_
        obtain ⟨_, f120, h⟩ := bO_some h
        obtain ⟨M120, e120, h⟩ := bO_some h
        refine ww_callVV0 120 X dX13_isEc_120 mY_X13_times_ mL_X13_770 (rcv_spec f120) ⟨_, _, rfl⟩ (by decide) (As := [.ref v116, .int (0 : Int32)]) (rest := []) rfl rfl ⟨Nat.le_of_ble_eq_true rfl, Nat.le_of_ble_eq_true rfl⟩ (Nat.le_of_ble_eq_true rfl) (fun l D A => c_X13_times_ l D A e120) ?_
        refine ww_iload_n 123 X dX13_isEc_123 1 rfl rfl ?_
        refine ww_if_eq 124 161 X dX13_isEc_124 (by decide) (fun q => ?_) (fun q => ?_)
        · replace h := (if_pos q).symm.trans h
          refine ww_iconst 161 X (v := (0 : Int32)) dX13_isEc_161 (by decide) ?_
          exact ww_zretE 162 X hQ dX13_isEc_162 h
        · replace h := (if_neg q).symm.trans h
          refine ww_aload_n 127 X dX13_isEc_127 0 rfl rfl ?_
          refine ww_aload_n 128 X dX13_isEc_128 0 rfl rfl ?_
          obtain ⟨v129, e129, h⟩ := bO_some h
          refine ww_getR 129 X dX13_isEc_129 fG_X13_138 e129 ?_
          refine ww_iconst 132 X (v := (0 : Int32)) dX13_isEc_132 (by decide) ?_
          obtain ⟨_, f133, h⟩ := bO_some h
          obtain ⟨v133, M133, e133, h⟩ := bP_some h
          refine ww_callVI0 133 X dX13_isEc_133 mY_X13_getPoint mL_X13_772 (rcv_spec f133) ⟨_, _, rfl⟩ (by decide) (As := [.ref v129, .int (0 : Int32)]) (rest := []) rfl rfl ⟨Nat.le_of_ble_eq_true rfl, Nat.le_of_ble_eq_true rfl⟩ (Nat.le_of_ble_eq_true rfl) (fun l D A => c_X13_getPoint l D A e133) ?_
          refine ww_if_eq 136 161 X dX13_isEc_136 (by decide) (fun q => ?_) (fun q => ?_)
          · replace h := (if_pos q).symm.trans h
            refine ww_iconst 161 X (v := (0 : Int32)) dX13_isEc_161 (by decide) ?_
            exact ww_zretE 162 X hQ dX13_isEc_162 h
          · replace h := (if_neg q).symm.trans h
            refine ww_aload_n 139 X dX13_isEc_139 0 rfl rfl ?_
            obtain ⟨v140, e140, h⟩ := bO_some h
            refine ww_getR 140 X dX13_isEc_140 fG_X13_138 e140 ?_
            refine ww_iconst 143 X (v := (0 : Int32)) dX13_isEc_143 (by decide) ?_
            refine ww_aload_n 144 X dX13_isEc_144 0 rfl rfl ?_
            obtain ⟨v145, e145, h⟩ := bO_some h
            refine ww_getR 145 X dX13_isEc_145 fG_X13_186 e145 ?_
            refine ww_iconst 148 X (v := (0 : Int32)) dX13_isEc_148 (by decide) ?_
            refine ww_bipush 149 X (v := (64 : Int32)) dX13_isEc_149 (by decide) ?_
            obtain ⟨v151, M151, e151, h⟩ := bP_some h
            refine ww_callSI0 151 X dX13_isEc_151 mY_X13_same mL_X13_420 (As := [.ref v140, .int (0 : Int32), .ref v145, .int (0 : Int32), .int (64 : Int32)]) (rest := []) rfl rfl ⟨Nat.le_of_ble_eq_true rfl, Nat.le_of_ble_eq_true rfl⟩ (Nat.le_of_ble_eq_true rfl) (fun l D A => c_X13_same l D A e151) ?_
            refine ww_if_eq 154 161 X dX13_isEc_154 (by decide) (fun q => ?_) (fun q => ?_)
            · replace h := (if_pos q).symm.trans h
              refine ww_iconst 161 X (v := (0 : Int32)) dX13_isEc_161 (by decide) ?_
              exact ww_zretE 162 X hQ dX13_isEc_162 h
            · replace h := (if_neg q).symm.trans h
              refine ww_iconst 157 X (v := (1 : Int32)) dX13_isEc_157 (by decide) ?_
              refine ww_goto 158 162 X dX13_isEc_158 (by decide) ?_
              exact ww_zretE 162 X hQ dX13_isEc_162 h
      · replace h := (if_pos q).symm.trans h
        refine ww_iconst 102 X (v := (0 : Int32)) dX13_isEc_102 (by decide) ?_
        exact ww_zretE 103 X hQ dX13_isEc_103 h
    · replace h := (if_neg q).symm.trans h
      refine ww_iconst 88 X (v := (1 : Int32)) dX13_isEc_88 (by decide) ?_
      exact ww_zretE 89 X hQ dX13_isEc_89 h
  · replace h := (if_pos q).symm.trans h
    refine ww_iconst 79 X (v := (0 : Int32)) dX13_isEc_79 (by decide) ?_
    exact ww_zretE 80 X hQ dX13_isEc_80 h
set_option maxHeartbeats 4000000 in
set_option maxRecDepth 100000 in
theorem wP_X13_isEc {G : mG} {F : Nat} {x : mXT} {sz : Nat} {r0 : Int32} {M0 : mM} (X : mCX G RX13 cX13_isEc 2 (some .boolean) "isEc" rmX13_isEc x) (hQ : mQI x r0 M0 (sz, 0, 0)) {l0 : Nat} {M : mM} (h : P_X13_isEc G F l0 M = some (r0, M0)) : WW x (sz, 0, 0) M 0 [(0, .ref l0)] [] := by
  unfold P_X13_isEc at h
  refine ww_aload_n 0 X dX13_isEc_0 0 rfl rfl ?_
  obtain ⟨v1, e1, h⟩ := bO_some h
  refine ww_getI 1 X dX13_isEc_1 fG_X13_838 e1 ?_
  refine ww_bipush 4 X (v := (32 : Int32)) dX13_isEc_4 (by decide) ?_
  refine ww_icmp_ne 6 34 X dX13_isEc_6 (by decide) (fun q => ?_) (fun q => ?_)
  · replace h := (if_neg q).symm.trans h
    refine ww_iconst 34 X (v := (0 : Int32)) dX13_isEc_34 (by decide) ?_
    exact ww_zretE 35 X hQ dX13_isEc_35 h
  · replace h := (if_pos q).symm.trans h
    refine ww_aload_n 9 X dX13_isEc_9 0 rfl rfl ?_
    obtain ⟨v10, e10, h⟩ := bO_some h
    refine ww_getI 10 X dX13_isEc_10 fG_X13_818 e10 ?_
    refine ww_bipush 13 X (v := (32 : Int32)) dX13_isEc_13 (by decide) ?_
    refine ww_icmp_ne 15 34 X dX13_isEc_15 (by decide) (fun q => ?_) (fun q => ?_)
    · replace h := (if_neg q).symm.trans h
      refine ww_iconst 34 X (v := (0 : Int32)) dX13_isEc_34 (by decide) ?_
      exact ww_zretE 35 X hQ dX13_isEc_35 h
    · replace h := (if_pos q).symm.trans h
      refine ww_aload_n 18 X dX13_isEc_18 0 rfl rfl ?_
      obtain ⟨v19, e19, h⟩ := bO_some h
      refine ww_getI 19 X dX13_isEc_19 fG_X13_821 e19 ?_
      refine ww_if_lt 22 36 X dX13_isEc_22 (by decide) (fun q => ?_) (fun q => ?_)
      · replace h := (if_pos q).symm.trans h
        exact (wB_X13_isEc_36 X hQ h)
      · replace h := (if_neg q).symm.trans h
        refine ww_aload_n 25 X dX13_isEc_25 0 rfl rfl ?_
        obtain ⟨v26, e26, h⟩ := bO_some h
        refine ww_getI 26 X dX13_isEc_26 fG_X13_821 e26 ?_
        refine ww_bipush 29 X (v := (32 : Int32)) dX13_isEc_29 (by decide) ?_
        refine ww_icmp_eq 31 36 X dX13_isEc_31 (by decide) (fun q => ?_) (fun q => ?_)
        · replace h := (if_pos q).symm.trans h
          exact (wB_X13_isEc_36 X hQ h)
        · replace h := (if_neg q).symm.trans h
          refine ww_iconst 34 X (v := (0 : Int32)) dX13_isEc_34 (by decide) ?_
          exact ww_zretE 35 X hQ dX13_isEc_35 h
theorem c_X13_isEc {G : mG} {F sz : Nat} {r0 : Int32} {M0 : mM} (l : Launch) (D : mD) (A : Nat → Prop) {l0 : Nat} {M : mM} (h : P_X13_isEc G F l0 M = some (r0, M0)) : mMetI l D G A yX13_isEc cX13_isEc 2 (some .boolean) 5 123 0 0 [.ref l0] M sz r0 M0 sz := mMetI_of l D G A (by decide) (Nat.le_of_ble_eq_true rfl) (fun x X hQ => wP_X13_isEc X hQ h)
/-! SealedTokensModel.keepWord(II[BI)I -/
theorem dX13_keepWord_0 : decode cX13_keepWord 0 = .ok (.iload_n 2, 1) := by decide +kernel
theorem dX13_keepWord_1 : decode cX13_keepWord 1 = .ok (.ifCond .ge 5, 3) := by decide +kernel
theorem dX13_keepWord_4 : decode cX13_keepWord 4 = .ok (.iconst (-1), 1) := by decide +kernel
theorem dX13_keepWord_5 : decode cX13_keepWord 5 = .ok (.ireturn, 1) := by decide +kernel
theorem dX13_keepWord_6 : decode cX13_keepWord 6 = .ok (.sipush 600, 3) := by decide +kernel
theorem dX13_keepWord_9 : decode cX13_keepWord 9 = .ok (.iload_n 1, 1) := by decide +kernel
theorem dX13_keepWord_10 : decode cX13_keepWord 10 = .ok (.imul, 1) := by decide +kernel
theorem dX13_keepWord_11 : decode cX13_keepWord 11 = .ok (.iload_n 2, 1) := by decide +kernel
theorem dX13_keepWord_12 : decode cX13_keepWord 12 = .ok (.iadd, 1) := by decide +kernel
theorem dX13_keepWord_13 : decode cX13_keepWord 13 = .ok (.istore 5, 2) := by decide +kernel
theorem dX13_keepWord_15 : decode cX13_keepWord 15 = .ok (.aload_n 0, 1) := by decide +kernel
theorem dX13_keepWord_16 : decode cX13_keepWord 16 = .ok (.getfield 51, 3) := by decide +kernel
theorem dX13_keepWord_19 : decode cX13_keepWord 19 = .ok (.aload_n 0, 1) := by decide +kernel
theorem dX13_keepWord_20 : decode cX13_keepWord 20 = .ok (.getfield 39, 3) := by decide +kernel
theorem dX13_keepWord_23 : decode cX13_keepWord 23 = .ok (.iload 5, 2) := by decide +kernel
theorem dX13_keepWord_25 : decode cX13_keepWord 25 = .ok (.iaload, 1) := by decide +kernel
theorem dX13_keepWord_26 : decode cX13_keepWord 26 = .ok (.aload_n 3, 1) := by decide +kernel
theorem dX13_keepWord_27 : decode cX13_keepWord 27 = .ok (.iload 4, 2) := by decide +kernel
theorem dX13_keepWord_29 : decode cX13_keepWord 29 = .ok (.aload_n 0, 1) := by decide +kernel
theorem dX13_keepWord_30 : decode cX13_keepWord 30 = .ok (.getfield 42, 3) := by decide +kernel
theorem dX13_keepWord_33 : decode cX13_keepWord 33 = .ok (.iload 5, 2) := by decide +kernel
theorem dX13_keepWord_35 : decode cX13_keepWord 35 = .ok (.iaload, 1) := by decide +kernel
theorem dX13_keepWord_36 : decode cX13_keepWord 36 = .ok (.invokestatic 317, 3) := by decide +kernel
theorem dX13_keepWord_39 : decode cX13_keepWord 39 = .ok (.aload_n 0, 1) := by decide +kernel
theorem dX13_keepWord_40 : decode cX13_keepWord 40 = .ok (.getfield 42, 3) := by decide +kernel
theorem dX13_keepWord_43 : decode cX13_keepWord 43 = .ok (.iload 5, 2) := by decide +kernel
theorem dX13_keepWord_45 : decode cX13_keepWord 45 = .ok (.iaload, 1) := by decide +kernel
theorem dX13_keepWord_46 : decode cX13_keepWord 46 = .ok (.ireturn, 1) := by decide +kernel
abbrev rmX13_keepWord : Room := { frames := 1, cells := 0, slots := 0, locals := 25 }
set_option maxHeartbeats 4000000 in
set_option maxRecDepth 100000 in
theorem wP_X13_keepWord {G : mG} {F : Nat} {x : mXT} {sz : Nat} {r0 : Int32} {M0 : mM} (X : mCX G RX13 cX13_keepWord 6 (some .int) "keepWord" rmX13_keepWord x) (hQ : mQI x r0 M0 (sz, 0, 0)) {l0 : Nat} {l1 : Int32} {l2 : Int32} {l3 : Nat} {l4 : Int32} {M : mM} (h : P_X13_keepWord G F l0 l1 l2 l3 l4 M = some (r0, M0)) : WW x (sz, 0, 0) M 0 [(0, .ref l0), (1, .int l1), (2, .int l2), (3, .ref l3), (4, .int l4)] [] := by
  unfold P_X13_keepWord at h
  refine ww_iload_n 0 X dX13_keepWord_0 2 rfl rfl ?_
  refine ww_if_ge 1 6 X dX13_keepWord_1 (by decide) (fun q => ?_) (fun q => ?_)
  · replace h := (if_pos q).symm.trans h
    refine ww_sipush 6 X (v := (600 : Int32)) dX13_keepWord_6 (by decide) ?_
    refine ww_iload_n 9 X dX13_keepWord_9 1 rfl rfl ?_
    refine ww_imul 10 X dX13_keepWord_10 ?_
    refine ww_iload_n 11 X dX13_keepWord_11 2 rfl rfl ?_
    refine ww_iadd 12 X dX13_keepWord_12 ?_
    refine ww_istore 13 X dX13_keepWord_13 (lv' := [(0, .ref l0), (1, .int l1), (2, .int l2), (3, .ref l3), (4, .int l4), (5, .int (((600 : Int32) * l1) + l2))]) (by decide) [1, 2, 3, 4, 5, 0] rfl ?_
    refine ww_aload_n 15 X dX13_keepWord_15 0 rfl rfl ?_
    obtain ⟨v16, e16, h⟩ := bO_some h
    refine ww_getR 16 X dX13_keepWord_16 fG_X13_51 e16 ?_
    refine ww_aload_n 19 X dX13_keepWord_19 0 rfl rfl ?_
    obtain ⟨v20, e20, h⟩ := bO_some h
    refine ww_getR 20 X dX13_keepWord_20 fG_X13_39 e20 ?_
    refine ww_iload 23 X dX13_keepWord_23 5 rfl ?_
    obtain ⟨v25, e25, h⟩ := bO_some h
    refine ww_iald 25 X dX13_keepWord_25 e25 ?_
    refine ww_aload_n 26 X dX13_keepWord_26 3 rfl rfl ?_
    refine ww_iload 27 X dX13_keepWord_27 4 rfl ?_
    refine ww_aload_n 29 X dX13_keepWord_29 0 rfl rfl ?_
    obtain ⟨v30, e30, h⟩ := bO_some h
    refine ww_getR 30 X dX13_keepWord_30 fG_X13_42 e30 ?_
    refine ww_iload 33 X dX13_keepWord_33 5 rfl ?_
    obtain ⟨v35, e35, h⟩ := bO_some h
    refine ww_iald 35 X dX13_keepWord_35 e35 ?_
    obtain ⟨M36, e36, h⟩ := bO_some h
    refine ww_callSV0 36 X dX13_keepWord_36 mY_X13_move mL_X13_317 (As := [.ref v16, .int v25, .ref l3, .int l4, .int v35]) (rest := []) rfl rfl ⟨Nat.le_of_ble_eq_true rfl, Nat.le_of_ble_eq_true rfl⟩ (Nat.le_of_ble_eq_true rfl) (fun l D A => c_X13_move l D A e36) ?_
    refine ww_aload_n 39 X dX13_keepWord_39 0 rfl rfl ?_
    obtain ⟨v40, e40, h⟩ := bO_some h
    refine ww_getR 40 X dX13_keepWord_40 fG_X13_42 e40 ?_
    refine ww_iload 43 X dX13_keepWord_43 5 rfl ?_
    obtain ⟨v45, e45, h⟩ := bO_some h
    refine ww_iald 45 X dX13_keepWord_45 e45 ?_
    exact ww_iretE 46 X hQ dX13_keepWord_46 h
  · replace h := (if_neg q).symm.trans h
    refine ww_iconst 4 X (v := (-1 : Int32)) dX13_keepWord_4 (by decide) ?_
    exact ww_iretE 5 X hQ dX13_keepWord_5 h
theorem c_X13_keepWord {G : mG} {F sz : Nat} {r0 : Int32} {M0 : mM} (l : Launch) (D : mD) (A : Nat → Prop) {l0 : Nat} {l1 : Int32} {l2 : Int32} {l3 : Nat} {l4 : Int32} {M : mM} (h : P_X13_keepWord G F l0 l1 l2 l3 l4 M = some (r0, M0)) : mMetI l D G A yX13_keepWord cX13_keepWord 6 (some .int) 1 25 0 0 [.ref l0, .int l1, .int l2, .ref l3, .int l4] M sz r0 M0 sz := mMetI_of l D G A (by decide) (Nat.le_of_ble_eq_true rfl) (fun x X hQ => wP_X13_keepWord X hQ h)
/-! SealedTokensModel.keepKey(III)V -/
theorem dX13_keepKey_0 : decode cX13_keepKey 0 = .ok (.aload_n 0, 1) := by decide +kernel
theorem dX13_keepKey_1 : decode cX13_keepKey 1 = .ok (.getfield 198, 3) := by decide +kernel
theorem dX13_keepKey_4 : decode cX13_keepKey 4 = .ok (.iload_n 1, 1) := by decide +kernel
theorem dX13_keepKey_5 : decode cX13_keepKey 5 = .ok (.iconst 1, 1) := by decide +kernel
theorem dX13_keepKey_6 : decode cX13_keepKey 6 = .ok (.bastore, 1) := by decide +kernel
theorem dX13_keepKey_7 : decode cX13_keepKey 7 = .ok (.aload_n 0, 1) := by decide +kernel
theorem dX13_keepKey_8 : decode cX13_keepKey 8 = .ok (.getfield 202, 3) := by decide +kernel
theorem dX13_keepKey_11 : decode cX13_keepKey 11 = .ok (.iload_n 1, 1) := by decide +kernel
theorem dX13_keepKey_12 : decode cX13_keepKey 12 = .ok (.iload_n 2, 1) := by decide +kernel
theorem dX13_keepKey_13 : decode cX13_keepKey 13 = .ok (.iastore, 1) := by decide +kernel
theorem dX13_keepKey_14 : decode cX13_keepKey 14 = .ok (.aload_n 0, 1) := by decide +kernel
theorem dX13_keepKey_15 : decode cX13_keepKey 15 = .ok (.getfield 208, 3) := by decide +kernel
theorem dX13_keepKey_18 : decode cX13_keepKey 18 = .ok (.iload_n 1, 1) := by decide +kernel
theorem dX13_keepKey_19 : decode cX13_keepKey 19 = .ok (.aload_n 0, 1) := by decide +kernel
theorem dX13_keepKey_20 : decode cX13_keepKey 20 = .ok (.getfield 838, 3) := by decide +kernel
theorem dX13_keepKey_23 : decode cX13_keepKey 23 = .ok (.iastore, 1) := by decide +kernel
theorem dX13_keepKey_24 : decode cX13_keepKey 24 = .ok (.aload_n 0, 1) := by decide +kernel
theorem dX13_keepKey_25 : decode cX13_keepKey 25 = .ok (.getfield 239, 3) := by decide +kernel
theorem dX13_keepKey_28 : decode cX13_keepKey 28 = .ok (.iconst 0, 1) := by decide +kernel
theorem dX13_keepKey_29 : decode cX13_keepKey 29 = .ok (.aload_n 0, 1) := by decide +kernel
theorem dX13_keepKey_30 : decode cX13_keepKey 30 = .ok (.getfield 205, 3) := by decide +kernel
theorem dX13_keepKey_33 : decode cX13_keepKey 33 = .ok (.sipush 128, 3) := by decide +kernel
theorem dX13_keepKey_36 : decode cX13_keepKey 36 = .ok (.iload_n 1, 1) := by decide +kernel
theorem dX13_keepKey_37 : decode cX13_keepKey 37 = .ok (.imul, 1) := by decide +kernel
theorem dX13_keepKey_38 : decode cX13_keepKey 38 = .ok (.aload_n 0, 1) := by decide +kernel
theorem dX13_keepKey_39 : decode cX13_keepKey 39 = .ok (.getfield 838, 3) := by decide +kernel
theorem dX13_keepKey_42 : decode cX13_keepKey 42 = .ok (.invokestatic 317, 3) := by decide +kernel
theorem dX13_keepKey_45 : decode cX13_keepKey 45 = .ok (.aload_n 0, 1) := by decide +kernel
theorem dX13_keepKey_46 : decode cX13_keepKey 46 = .ok (.getfield 214, 3) := by decide +kernel
theorem dX13_keepKey_49 : decode cX13_keepKey 49 = .ok (.iload_n 1, 1) := by decide +kernel
theorem dX13_keepKey_50 : decode cX13_keepKey 50 = .ok (.aload_n 0, 1) := by decide +kernel
theorem dX13_keepKey_51 : decode cX13_keepKey 51 = .ok (.getfield 818, 3) := by decide +kernel
theorem dX13_keepKey_54 : decode cX13_keepKey 54 = .ok (.iastore, 1) := by decide +kernel
theorem dX13_keepKey_55 : decode cX13_keepKey 55 = .ok (.aload_n 0, 1) := by decide +kernel
theorem dX13_keepKey_56 : decode cX13_keepKey 56 = .ok (.getfield 242, 3) := by decide +kernel
theorem dX13_keepKey_59 : decode cX13_keepKey 59 = .ok (.iconst 0, 1) := by decide +kernel
theorem dX13_keepKey_60 : decode cX13_keepKey 60 = .ok (.aload_n 0, 1) := by decide +kernel
theorem dX13_keepKey_61 : decode cX13_keepKey 61 = .ok (.getfield 211, 3) := by decide +kernel
theorem dX13_keepKey_64 : decode cX13_keepKey 64 = .ok (.sipush 128, 3) := by decide +kernel
theorem dX13_keepKey_67 : decode cX13_keepKey 67 = .ok (.iload_n 1, 1) := by decide +kernel
theorem dX13_keepKey_68 : decode cX13_keepKey 68 = .ok (.imul, 1) := by decide +kernel
theorem dX13_keepKey_69 : decode cX13_keepKey 69 = .ok (.aload_n 0, 1) := by decide +kernel
theorem dX13_keepKey_70 : decode cX13_keepKey 70 = .ok (.getfield 818, 3) := by decide +kernel
theorem dX13_keepKey_73 : decode cX13_keepKey 73 = .ok (.invokestatic 317, 3) := by decide +kernel
theorem dX13_keepKey_76 : decode cX13_keepKey 76 = .ok (.aload_n 0, 1) := by decide +kernel
theorem dX13_keepKey_77 : decode cX13_keepKey 77 = .ok (.getfield 220, 3) := by decide +kernel
theorem dX13_keepKey_80 : decode cX13_keepKey 80 = .ok (.iload_n 1, 1) := by decide +kernel
theorem dX13_keepKey_81 : decode cX13_keepKey 81 = .ok (.iload_n 2, 1) := by decide +kernel
theorem dX13_keepKey_82 : decode cX13_keepKey 82 = .ok (.ifCond .ne 7, 3) := by decide +kernel
theorem dX13_keepKey_85 : decode cX13_keepKey 85 = .ok (.iconst 0, 1) := by decide +kernel
theorem dX13_keepKey_86 : decode cX13_keepKey 86 = .ok (.goto 18, 3) := by decide +kernel
theorem dX13_keepKey_89 : decode cX13_keepKey 89 = .ok (.aload_n 0, 1) := by decide +kernel
theorem dX13_keepKey_90 : decode cX13_keepKey 90 = .ok (.getfield 821, 3) := by decide +kernel
theorem dX13_keepKey_93 : decode cX13_keepKey 93 = .ok (.ifCond .ge 7, 3) := by decide +kernel
theorem dX13_keepKey_96 : decode cX13_keepKey 96 = .ok (.iconst 0, 1) := by decide +kernel
theorem dX13_keepKey_97 : decode cX13_keepKey 97 = .ok (.goto 7, 3) := by decide +kernel
theorem dX13_keepKey_100 : decode cX13_keepKey 100 = .ok (.aload_n 0, 1) := by decide +kernel
theorem dX13_keepKey_101 : decode cX13_keepKey 101 = .ok (.getfield 821, 3) := by decide +kernel
theorem dX13_keepKey_104 : decode cX13_keepKey 104 = .ok (.iastore, 1) := by decide +kernel
theorem dX13_keepKey_105 : decode cX13_keepKey 105 = .ok (.aload_n 0, 1) := by decide +kernel
theorem dX13_keepKey_106 : decode cX13_keepKey 106 = .ok (.getfield 245, 3) := by decide +kernel
theorem dX13_keepKey_109 : decode cX13_keepKey 109 = .ok (.iconst 0, 1) := by decide +kernel
theorem dX13_keepKey_110 : decode cX13_keepKey 110 = .ok (.aload_n 0, 1) := by decide +kernel
theorem dX13_keepKey_111 : decode cX13_keepKey 111 = .ok (.getfield 217, 3) := by decide +kernel
theorem dX13_keepKey_114 : decode cX13_keepKey 114 = .ok (.sipush 128, 3) := by decide +kernel
theorem dX13_keepKey_117 : decode cX13_keepKey 117 = .ok (.iload_n 1, 1) := by decide +kernel
theorem dX13_keepKey_118 : decode cX13_keepKey 118 = .ok (.imul, 1) := by decide +kernel
theorem dX13_keepKey_119 : decode cX13_keepKey 119 = .ok (.aload_n 0, 1) := by decide +kernel
theorem dX13_keepKey_120 : decode cX13_keepKey 120 = .ok (.getfield 220, 3) := by decide +kernel
theorem dX13_keepKey_123 : decode cX13_keepKey 123 = .ok (.iload_n 1, 1) := by decide +kernel
theorem dX13_keepKey_124 : decode cX13_keepKey 124 = .ok (.iaload, 1) := by decide +kernel
theorem dX13_keepKey_125 : decode cX13_keepKey 125 = .ok (.invokestatic 317, 3) := by decide +kernel
theorem dX13_keepKey_128 : decode cX13_keepKey 128 = .ok (.aload_n 0, 1) := by decide +kernel
theorem dX13_keepKey_129 : decode cX13_keepKey 129 = .ok (.iload_n 3, 1) := by decide +kernel
theorem dX13_keepKey_130 : decode cX13_keepKey 130 = .ok (.iconst 0, 1) := by decide +kernel
theorem dX13_keepKey_131 : decode cX13_keepKey 131 = .ok (.ldc_w 815, 3) := by decide +kernel
theorem dX13_keepKey_134 : decode cX13_keepKey 134 = .ok (.invokevirtual 796, 3) := by decide +kernel
theorem dX13_keepKey_137 : decode cX13_keepKey 137 = .ok (.istore 4, 2) := by decide +kernel
theorem dX13_keepKey_139 : decode cX13_keepKey 139 = .ok (.aload_n 0, 1) := by decide +kernel
theorem dX13_keepKey_140 : decode cX13_keepKey 140 = .ok (.getfield 223, 3) := by decide +kernel
theorem dX13_keepKey_143 : decode cX13_keepKey 143 = .ok (.iload_n 1, 1) := by decide +kernel
theorem dX13_keepKey_144 : decode cX13_keepKey 144 = .ok (.iload 4, 2) := by decide +kernel
theorem dX13_keepKey_146 : decode cX13_keepKey 146 = .ok (.ifCond .ge 7, 3) := by decide +kernel
theorem dX13_keepKey_149 : decode cX13_keepKey 149 = .ok (.iconst 0, 1) := by decide +kernel
theorem dX13_keepKey_150 : decode cX13_keepKey 150 = .ok (.goto 38, 3) := by decide +kernel
theorem dX13_keepKey_153 : decode cX13_keepKey 153 = .ok (.aload_n 0, 1) := by decide +kernel
theorem dX13_keepKey_154 : decode cX13_keepKey 154 = .ok (.iload_n 3, 1) := by decide +kernel
theorem dX13_keepKey_155 : decode cX13_keepKey 155 = .ok (.iload 4, 2) := by decide +kernel
theorem dX13_keepKey_157 : decode cX13_keepKey 157 = .ok (.ldc_w 864, 3) := by decide +kernel
theorem dX13_keepKey_160 : decode cX13_keepKey 160 = .ok (.invokevirtual 803, 3) := by decide +kernel
theorem dX13_keepKey_163 : decode cX13_keepKey 163 = .ok (.ifCond .eq 7, 3) := by decide +kernel
theorem dX13_keepKey_166 : decode cX13_keepKey 166 = .ok (.iconst 1, 1) := by decide +kernel
theorem dX13_keepKey_167 : decode cX13_keepKey 167 = .ok (.goto 21, 3) := by decide +kernel
theorem dX13_keepKey_170 : decode cX13_keepKey 170 = .ok (.aload_n 0, 1) := by decide +kernel
theorem dX13_keepKey_171 : decode cX13_keepKey 171 = .ok (.iload_n 3, 1) := by decide +kernel
theorem dX13_keepKey_172 : decode cX13_keepKey 172 = .ok (.iload 4, 2) := by decide +kernel
theorem dX13_keepKey_174 : decode cX13_keepKey 174 = .ok (.ldc_w 865, 3) := by decide +kernel
theorem dX13_keepKey_177 : decode cX13_keepKey 177 = .ok (.invokevirtual 803, 3) := by decide +kernel
theorem dX13_keepKey_180 : decode cX13_keepKey 180 = .ok (.ifCond .eq 7, 3) := by decide +kernel
theorem dX13_keepKey_183 : decode cX13_keepKey 183 = .ok (.iconst 2, 1) := by decide +kernel
theorem dX13_keepKey_184 : decode cX13_keepKey 184 = .ok (.goto 4, 3) := by decide +kernel
theorem dX13_keepKey_187 : decode cX13_keepKey 187 = .ok (.iconst 3, 1) := by decide +kernel
theorem dX13_keepKey_188 : decode cX13_keepKey 188 = .ok (.iastore, 1) := by decide +kernel
theorem dX13_keepKey_189 : decode cX13_keepKey 189 = .ok (.aload_n 0, 1) := by decide +kernel
theorem dX13_keepKey_190 : decode cX13_keepKey 190 = .ok (.getfield 230, 3) := by decide +kernel
theorem dX13_keepKey_193 : decode cX13_keepKey 193 = .ok (.iload_n 1, 1) := by decide +kernel
theorem dX13_keepKey_194 : decode cX13_keepKey 194 = .ok (.aload_n 0, 1) := by decide +kernel
theorem dX13_keepKey_195 : decode cX13_keepKey 195 = .ok (.iload_n 3, 1) := by decide +kernel
theorem dX13_keepKey_196 : decode cX13_keepKey 196 = .ok (.aload_n 0, 1) := by decide +kernel
theorem dX13_keepKey_197 : decode cX13_keepKey 197 = .ok (.iload_n 3, 1) := by decide +kernel
theorem dX13_keepKey_198 : decode cX13_keepKey 198 = .ok (.iconst 0, 1) := by decide +kernel
theorem dX13_keepKey_199 : decode cX13_keepKey 199 = .ok (.ldc_w 810, 3) := by decide +kernel
theorem dX13_keepKey_202 : decode cX13_keepKey 202 = .ok (.invokevirtual 796, 3) := by decide +kernel
theorem dX13_keepKey_205 : decode cX13_keepKey 205 = .ok (.aload_n 0, 1) := by decide +kernel
theorem dX13_keepKey_206 : decode cX13_keepKey 206 = .ok (.getfield 227, 3) := by decide +kernel
theorem dX13_keepKey_209 : decode cX13_keepKey 209 = .ok (.sipush 8200, 3) := by decide +kernel
theorem dX13_keepKey_212 : decode cX13_keepKey 212 = .ok (.iload_n 1, 1) := by decide +kernel
theorem dX13_keepKey_213 : decode cX13_keepKey 213 = .ok (.imul, 1) := by decide +kernel
theorem dX13_keepKey_214 : decode cX13_keepKey 214 = .ok (.invokevirtual 867, 3) := by decide +kernel
theorem dX13_keepKey_217 : decode cX13_keepKey 217 = .ok (.iastore, 1) := by decide +kernel
theorem dX13_keepKey_218 : decode cX13_keepKey 218 = .ok (.aload_n 0, 1) := by decide +kernel
theorem dX13_keepKey_219 : decode cX13_keepKey 219 = .ok (.getfield 236, 3) := by decide +kernel
theorem dX13_keepKey_222 : decode cX13_keepKey 222 = .ok (.iload_n 1, 1) := by decide +kernel
theorem dX13_keepKey_223 : decode cX13_keepKey 223 = .ok (.aload_n 0, 1) := by decide +kernel
theorem dX13_keepKey_224 : decode cX13_keepKey 224 = .ok (.iload_n 3, 1) := by decide +kernel
theorem dX13_keepKey_225 : decode cX13_keepKey 225 = .ok (.aload_n 0, 1) := by decide +kernel
theorem dX13_keepKey_226 : decode cX13_keepKey 226 = .ok (.iload_n 3, 1) := by decide +kernel
theorem dX13_keepKey_227 : decode cX13_keepKey 227 = .ok (.iconst 0, 1) := by decide +kernel
theorem dX13_keepKey_228 : decode cX13_keepKey 228 = .ok (.ldc_w 816, 3) := by decide +kernel
theorem dX13_keepKey_231 : decode cX13_keepKey 231 = .ok (.invokevirtual 796, 3) := by decide +kernel
theorem dX13_keepKey_234 : decode cX13_keepKey 234 = .ok (.aload_n 0, 1) := by decide +kernel
theorem dX13_keepKey_235 : decode cX13_keepKey 235 = .ok (.getfield 233, 3) := by decide +kernel
theorem dX13_keepKey_238 : decode cX13_keepKey 238 = .ok (.sipush 8200, 3) := by decide +kernel
theorem dX13_keepKey_241 : decode cX13_keepKey 241 = .ok (.iload_n 1, 1) := by decide +kernel
theorem dX13_keepKey_242 : decode cX13_keepKey 242 = .ok (.imul, 1) := by decide +kernel
theorem dX13_keepKey_243 : decode cX13_keepKey 243 = .ok (.invokevirtual 867, 3) := by decide +kernel
theorem dX13_keepKey_246 : decode cX13_keepKey 246 = .ok (.iastore, 1) := by decide +kernel
theorem dX13_keepKey_247 : decode cX13_keepKey 247 = .ok (.return_, 1) := by decide +kernel
abbrev rmX13_keepKey : Room := { frames := 6, cells := 0, slots := 0, locals := 135 }
set_option maxHeartbeats 4000000 in
set_option maxRecDepth 100000 in
theorem wB_X13_keepKey_188 {G : mG} {F : Nat} {x : mXT} {sz : Nat} {M0 : mM} (X : mCX G RX13 cX13_keepKey 5 none "keepKey" rmX13_keepKey x) (hQ : mQV x M0 (sz, 0, 0)) {l0 : Nat} {l1 : Int32} {l3 : Int32} {sk0 : Nat} {sk1 : Int32} {sk2 : Int32} {M : mM} (h : B_X13_keepKey_188 G F l0 l1 l3 sk0 sk1 sk2 M = some M0) : WW x (sz, 0, 0) M 188 [(0, .ref l0), (1, .int l1), (3, .int l3)] [.int sk2, .int sk1, .ref sk0] := by
  unfold B_X13_keepKey_188 at h
  obtain ⟨M188, e188, h⟩ := bO_some h
  refine ww_iast 188 X dX13_keepKey_188 e188 ?_
  refine ww_aload_n 189 X dX13_keepKey_189 0 rfl rfl ?_
  obtain ⟨v190, e190, h⟩ := bO_some h
  refine ww_getR 190 X dX13_keepKey_190 fG_X13_230 e190 ?_
  refine ww_iload_n 193 X dX13_keepKey_193 1 rfl rfl ?_
  refine ww_aload_n 194 X dX13_keepKey_194 0 rfl rfl ?_
  refine ww_iload_n 195 X dX13_keepKey_195 2 rfl rfl ?_
  refine ww_aload_n 196 X dX13_keepKey_196 0 rfl rfl ?_
  refine ww_iload_n 197 X dX13_keepKey_197 2 rfl rfl ?_
  refine ww_iconst 198 X (v := (0 : Int32)) dX13_keepKey_198 (by decide) ?_
  refine ww_ldsw 199 X (j := 88) dX13_keepKey_199 rfl ?_
  obtain ⟨_, f202, h⟩ := bO_some h
  obtain ⟨v202, M202, e202, h⟩ := bP_some h
  refine ww_callVI0 202 X dX13_keepKey_202 mY_X13_memberOf mL_X13_796 (rcv_spec f202) ⟨_, _, rfl⟩ (by decide) (As := [.int l3, .int (0 : Int32), .ref (G.1 88)]) (rest := [.int l3, .ref l0, .int l1, .ref v190]) rfl rfl ⟨Nat.le_of_ble_eq_true rfl, Nat.le_of_ble_eq_true rfl⟩ (Nat.le_of_ble_eq_true rfl) (fun l D A => c_X13_memberOf l D A e202) ?_
  refine ww_aload_n 205 X dX13_keepKey_205 0 rfl rfl ?_
  obtain ⟨v206, e206, h⟩ := bO_some h
  refine ww_getR 206 X dX13_keepKey_206 fG_X13_227 e206 ?_
  refine ww_sipush 209 X (v := (8200 : Int32)) dX13_keepKey_209 (by decide) ?_
  refine ww_iload_n 212 X dX13_keepKey_212 1 rfl rfl ?_
  refine ww_imul 213 X dX13_keepKey_213 ?_
  obtain ⟨_, f214, h⟩ := bO_some h
  obtain ⟨v214, M214, e214, h⟩ := bP_some h
  refine ww_callVI0 214 X dX13_keepKey_214 mY_X13_keepWord mL_X13_867 (rcv_spec f214) ⟨_, _, rfl⟩ (by decide) (As := [.int l3, .int v202, .ref v206, .int ((8200 : Int32) * l1)]) (rest := [.int l1, .ref v190]) rfl rfl ⟨Nat.le_of_ble_eq_true rfl, Nat.le_of_ble_eq_true rfl⟩ (Nat.le_of_ble_eq_true rfl) (fun l D A => c_X13_keepWord l D A e214) ?_
  obtain ⟨M217, e217, h⟩ := bO_some h
  refine ww_iast 217 X dX13_keepKey_217 e217 ?_
  refine ww_aload_n 218 X dX13_keepKey_218 0 rfl rfl ?_
  obtain ⟨v219, e219, h⟩ := bO_some h
  refine ww_getR 219 X dX13_keepKey_219 fG_X13_236 e219 ?_
  refine ww_iload_n 222 X dX13_keepKey_222 1 rfl rfl ?_
  refine ww_aload_n 223 X dX13_keepKey_223 0 rfl rfl ?_
  refine ww_iload_n 224 X dX13_keepKey_224 2 rfl rfl ?_
  refine ww_aload_n 225 X dX13_keepKey_225 0 rfl rfl ?_
  refine ww_iload_n 226 X dX13_keepKey_226 2 rfl rfl ?_
  refine ww_iconst 227 X (v := (0 : Int32)) dX13_keepKey_227 (by decide) ?_
  refine ww_ldsw 228 X (j := 90) dX13_keepKey_228 rfl ?_
  obtain ⟨_, f231, h⟩ := bO_some h
  obtain ⟨v231, M231, e231, h⟩ := bP_some h
  refine ww_callVI0 231 X dX13_keepKey_231 mY_X13_memberOf mL_X13_796 (rcv_spec f231) ⟨_, _, rfl⟩ (by decide) (As := [.int l3, .int (0 : Int32), .ref (G.1 90)]) (rest := [.int l3, .ref l0, .int l1, .ref v219]) rfl rfl ⟨Nat.le_of_ble_eq_true rfl, Nat.le_of_ble_eq_true rfl⟩ (Nat.le_of_ble_eq_true rfl) (fun l D A => c_X13_memberOf l D A e231) ?_
  refine ww_aload_n 234 X dX13_keepKey_234 0 rfl rfl ?_
  obtain ⟨v235, e235, h⟩ := bO_some h
  refine ww_getR 235 X dX13_keepKey_235 fG_X13_233 e235 ?_
  refine ww_sipush 238 X (v := (8200 : Int32)) dX13_keepKey_238 (by decide) ?_
  refine ww_iload_n 241 X dX13_keepKey_241 1 rfl rfl ?_
  refine ww_imul 242 X dX13_keepKey_242 ?_
  obtain ⟨_, f243, h⟩ := bO_some h
  obtain ⟨v243, M243, e243, h⟩ := bP_some h
  refine ww_callVI0 243 X dX13_keepKey_243 mY_X13_keepWord mL_X13_867 (rcv_spec f243) ⟨_, _, rfl⟩ (by decide) (As := [.int l3, .int v231, .ref v235, .int ((8200 : Int32) * l1)]) (rest := [.int l1, .ref v219]) rfl rfl ⟨Nat.le_of_ble_eq_true rfl, Nat.le_of_ble_eq_true rfl⟩ (Nat.le_of_ble_eq_true rfl) (fun l D A => c_X13_keepWord l D A e243) ?_
  obtain ⟨M246, e246, h⟩ := bO_some h
  refine ww_iast 246 X dX13_keepKey_246 e246 ?_
  exact ww_vretE 247 X hQ dX13_keepKey_247 h
set_option maxHeartbeats 4000000 in
set_option maxRecDepth 100000 in
theorem wB_X13_keepKey_104 {G : mG} {F : Nat} {x : mXT} {sz : Nat} {M0 : mM} (X : mCX G RX13 cX13_keepKey 5 none "keepKey" rmX13_keepKey x) (hQ : mQV x M0 (sz, 0, 0)) {l0 : Nat} {l1 : Int32} {l3 : Int32} {sk0 : Nat} {sk1 : Int32} {sk2 : Int32} {M : mM} (h : B_X13_keepKey_104 G F l0 l1 l3 sk0 sk1 sk2 M = some M0) : WW x (sz, 0, 0) M 104 [(0, .ref l0), (1, .int l1), (3, .int l3)] [.int sk2, .int sk1, .ref sk0] := by
  unfold B_X13_keepKey_104 at h
  obtain ⟨M104, e104, h⟩ := bO_some h
  refine ww_iast 104 X dX13_keepKey_104 e104 ?_
  refine ww_aload_n 105 X dX13_keepKey_105 0 rfl rfl ?_
  obtain ⟨v106, e106, h⟩ := bO_some h
  refine ww_getR 106 X dX13_keepKey_106 fG_X13_245 e106 ?_
  refine ww_iconst 109 X (v := (0 : Int32)) dX13_keepKey_109 (by decide) ?_
  refine ww_aload_n 110 X dX13_keepKey_110 0 rfl rfl ?_
  obtain ⟨v111, e111, h⟩ := bO_some h
  refine ww_getR 111 X dX13_keepKey_111 fG_X13_217 e111 ?_
  refine ww_sipush 114 X (v := (128 : Int32)) dX13_keepKey_114 (by decide) ?_
  refine ww_iload_n 117 X dX13_keepKey_117 1 rfl rfl ?_
  refine ww_imul 118 X dX13_keepKey_118 ?_
  refine ww_aload_n 119 X dX13_keepKey_119 0 rfl rfl ?_
  obtain ⟨v120, e120, h⟩ := bO_some h
  refine ww_getR 120 X dX13_keepKey_120 fG_X13_220 e120 ?_
  refine ww_iload_n 123 X dX13_keepKey_123 1 rfl rfl ?_
  obtain ⟨v124, e124, h⟩ := bO_some h
  refine ww_iald 124 X dX13_keepKey_124 e124 ?_
  obtain ⟨M125, e125, h⟩ := bO_some h
  refine ww_callSV0 125 X dX13_keepKey_125 mY_X13_move mL_X13_317 (As := [.ref v106, .int (0 : Int32), .ref v111, .int ((128 : Int32) * l1), .int v124]) (rest := []) rfl rfl ⟨Nat.le_of_ble_eq_true rfl, Nat.le_of_ble_eq_true rfl⟩ (Nat.le_of_ble_eq_true rfl) (fun l D A => c_X13_move l D A e125) ?_
  refine ww_aload_n 128 X dX13_keepKey_128 0 rfl rfl ?_
  refine ww_iload_n 129 X dX13_keepKey_129 2 rfl rfl ?_
  refine ww_iconst 130 X (v := (0 : Int32)) dX13_keepKey_130 (by decide) ?_
  refine ww_ldsw 131 X (j := 89) dX13_keepKey_131 rfl ?_
  obtain ⟨_, f134, h⟩ := bO_some h
  obtain ⟨v134, M134, e134, h⟩ := bP_some h
  refine ww_callVI0 134 X dX13_keepKey_134 mY_X13_memberOf mL_X13_796 (rcv_spec f134) ⟨_, _, rfl⟩ (by decide) (As := [.int l3, .int (0 : Int32), .ref (G.1 89)]) (rest := []) rfl rfl ⟨Nat.le_of_ble_eq_true rfl, Nat.le_of_ble_eq_true rfl⟩ (Nat.le_of_ble_eq_true rfl) (fun l D A => c_X13_memberOf l D A e134) ?_
  refine ww_istore 137 X dX13_keepKey_137 (lv' := [(0, .ref l0), (1, .int l1), (3, .int l3), (4, .int v134)]) (by decide) [1, 2, 3, 0] rfl ?_
  refine ww_aload_n 139 X dX13_keepKey_139 0 rfl rfl ?_
  obtain ⟨v140, e140, h⟩ := bO_some h
  refine ww_getR 140 X dX13_keepKey_140 fG_X13_223 e140 ?_
  refine ww_iload_n 143 X dX13_keepKey_143 1 rfl rfl ?_
  refine ww_iload 144 X dX13_keepKey_144 3 rfl ?_
  refine ww_if_ge 146 153 X dX13_keepKey_146 (by decide) (fun q => ?_) (fun q => ?_)
  · replace h := (if_pos q).symm.trans h
    refine ww_aload_n 153 X dX13_keepKey_153 0 rfl rfl ?_
    refine ww_iload_n 154 X dX13_keepKey_154 2 rfl rfl ?_
    refine ww_iload 155 X dX13_keepKey_155 3 rfl ?_
    refine ww_ldsw 157 X (j := 99) dX13_keepKey_157 rfl ?_
    obtain ⟨_, f160, h⟩ := bO_some h
    obtain ⟨v160, M160, e160, h⟩ := bP_some h
    refine ww_callVI0 160 X dX13_keepKey_160 mY_X13_says mL_X13_803 (rcv_spec f160) ⟨_, _, rfl⟩ (by decide) (As := [.int l3, .int v134, .ref (G.1 99)]) (rest := [.int l1, .ref v140]) rfl rfl ⟨Nat.le_of_ble_eq_true rfl, Nat.le_of_ble_eq_true rfl⟩ (Nat.le_of_ble_eq_true rfl) (fun l D A => c_X13_says l D A e160) ?_
    refine ww_if_eq 163 170 X dX13_keepKey_163 (by decide) (fun q => ?_) (fun q => ?_)
    · replace h := (if_pos q).symm.trans h
      refine ww_aload_n 170 X dX13_keepKey_170 0 rfl rfl ?_
      refine ww_iload_n 171 X dX13_keepKey_171 2 rfl rfl ?_
      refine ww_iload 172 X dX13_keepKey_172 3 rfl ?_
      refine ww_ldsw 174 X (j := 100) dX13_keepKey_174 rfl ?_
      obtain ⟨_, f177, h⟩ := bO_some h
      obtain ⟨v177, M177, e177, h⟩ := bP_some h
      refine ww_callVI0 177 X dX13_keepKey_177 mY_X13_says mL_X13_803 (rcv_spec f177) ⟨_, _, rfl⟩ (by decide) (As := [.int l3, .int v134, .ref (G.1 100)]) (rest := [.int l1, .ref v140]) rfl rfl ⟨Nat.le_of_ble_eq_true rfl, Nat.le_of_ble_eq_true rfl⟩ (Nat.le_of_ble_eq_true rfl) (fun l D A => c_X13_says l D A e177) ?_
      refine ww_if_eq 180 187 X dX13_keepKey_180 (by decide) (fun q => ?_) (fun q => ?_)
      · replace h := (if_pos q).symm.trans h
        refine ww_iconst 187 X (v := (3 : Int32)) dX13_keepKey_187 (by decide) ?_
        exact ww_sub [0, 1, 2] rfl (wB_X13_keepKey_188 X hQ h)
      · replace h := (if_neg q).symm.trans h
        refine ww_iconst 183 X (v := (2 : Int32)) dX13_keepKey_183 (by decide) ?_
        refine ww_goto 184 188 X dX13_keepKey_184 (by decide) ?_
        exact ww_sub [0, 1, 2] rfl (wB_X13_keepKey_188 X hQ h)
    · replace h := (if_neg q).symm.trans h
      refine ww_iconst 166 X (v := (1 : Int32)) dX13_keepKey_166 (by decide) ?_
      refine ww_goto 167 188 X dX13_keepKey_167 (by decide) ?_
      exact ww_sub [0, 1, 2] rfl (wB_X13_keepKey_188 X hQ h)
  · replace h := (if_neg q).symm.trans h
    refine ww_iconst 149 X (v := (0 : Int32)) dX13_keepKey_149 (by decide) ?_
    refine ww_goto 150 188 X dX13_keepKey_150 (by decide) ?_
    exact ww_sub [0, 1, 2] rfl (wB_X13_keepKey_188 X hQ h)
set_option maxHeartbeats 4000000 in
set_option maxRecDepth 100000 in
theorem wP_X13_keepKey {G : mG} {F : Nat} {x : mXT} {sz : Nat} {M0 : mM} (X : mCX G RX13 cX13_keepKey 5 none "keepKey" rmX13_keepKey x) (hQ : mQV x M0 (sz, 0, 0)) {l0 : Nat} {l1 : Int32} {l2 : Int32} {l3 : Int32} {M : mM} (h : P_X13_keepKey G F l0 l1 l2 l3 M = some M0) : WW x (sz, 0, 0) M 0 [(0, .ref l0), (1, .int l1), (2, .int l2), (3, .int l3)] [] := by
  unfold P_X13_keepKey at h
  refine ww_aload_n 0 X dX13_keepKey_0 0 rfl rfl ?_
  obtain ⟨v1, e1, h⟩ := bO_some h
  refine ww_getR 1 X dX13_keepKey_1 fG_X13_198 e1 ?_
  refine ww_iload_n 4 X dX13_keepKey_4 1 rfl rfl ?_
  refine ww_iconst 5 X (v := (1 : Int32)) dX13_keepKey_5 (by decide) ?_
  obtain ⟨M6, e6, h⟩ := bO_some h
  refine ww_zast 6 X dX13_keepKey_6 e6 ?_
  refine ww_aload_n 7 X dX13_keepKey_7 0 rfl rfl ?_
  obtain ⟨v8, e8, h⟩ := bO_some h
  refine ww_getR 8 X dX13_keepKey_8 fG_X13_202 e8 ?_
  refine ww_iload_n 11 X dX13_keepKey_11 1 rfl rfl ?_
  refine ww_iload_n 12 X dX13_keepKey_12 2 rfl rfl ?_
  obtain ⟨M13, e13, h⟩ := bO_some h
  refine ww_iast 13 X dX13_keepKey_13 e13 ?_
  refine ww_aload_n 14 X dX13_keepKey_14 0 rfl rfl ?_
  obtain ⟨v15, e15, h⟩ := bO_some h
  refine ww_getR 15 X dX13_keepKey_15 fG_X13_208 e15 ?_
  refine ww_iload_n 18 X dX13_keepKey_18 1 rfl rfl ?_
  refine ww_aload_n 19 X dX13_keepKey_19 0 rfl rfl ?_
  obtain ⟨v20, e20, h⟩ := bO_some h
  refine ww_getI 20 X dX13_keepKey_20 fG_X13_838 e20 ?_
  obtain ⟨M23, e23, h⟩ := bO_some h
  refine ww_iast 23 X dX13_keepKey_23 e23 ?_
  refine ww_aload_n 24 X dX13_keepKey_24 0 rfl rfl ?_
  obtain ⟨v25, e25, h⟩ := bO_some h
  refine ww_getR 25 X dX13_keepKey_25 fG_X13_239 e25 ?_
  refine ww_iconst 28 X (v := (0 : Int32)) dX13_keepKey_28 (by decide) ?_
  refine ww_aload_n 29 X dX13_keepKey_29 0 rfl rfl ?_
  obtain ⟨v30, e30, h⟩ := bO_some h
  refine ww_getR 30 X dX13_keepKey_30 fG_X13_205 e30 ?_
  refine ww_sipush 33 X (v := (128 : Int32)) dX13_keepKey_33 (by decide) ?_
  refine ww_iload_n 36 X dX13_keepKey_36 1 rfl rfl ?_
  refine ww_imul 37 X dX13_keepKey_37 ?_
  refine ww_aload_n 38 X dX13_keepKey_38 0 rfl rfl ?_
  obtain ⟨v39, e39, h⟩ := bO_some h
  refine ww_getI 39 X dX13_keepKey_39 fG_X13_838 e39 ?_
  obtain ⟨M42, e42, h⟩ := bO_some h
  refine ww_callSV0 42 X dX13_keepKey_42 mY_X13_move mL_X13_317 (As := [.ref v25, .int (0 : Int32), .ref v30, .int ((128 : Int32) * l1), .int v39]) (rest := []) rfl rfl ⟨Nat.le_of_ble_eq_true rfl, Nat.le_of_ble_eq_true rfl⟩ (Nat.le_of_ble_eq_true rfl) (fun l D A => c_X13_move l D A e42) ?_
  refine ww_aload_n 45 X dX13_keepKey_45 0 rfl rfl ?_
  obtain ⟨v46, e46, h⟩ := bO_some h
  refine ww_getR 46 X dX13_keepKey_46 fG_X13_214 e46 ?_
  refine ww_iload_n 49 X dX13_keepKey_49 1 rfl rfl ?_
  refine ww_aload_n 50 X dX13_keepKey_50 0 rfl rfl ?_
  obtain ⟨v51, e51, h⟩ := bO_some h
  refine ww_getI 51 X dX13_keepKey_51 fG_X13_818 e51 ?_
  obtain ⟨M54, e54, h⟩ := bO_some h
  refine ww_iast 54 X dX13_keepKey_54 e54 ?_
  refine ww_aload_n 55 X dX13_keepKey_55 0 rfl rfl ?_
  obtain ⟨v56, e56, h⟩ := bO_some h
  refine ww_getR 56 X dX13_keepKey_56 fG_X13_242 e56 ?_
  refine ww_iconst 59 X (v := (0 : Int32)) dX13_keepKey_59 (by decide) ?_
  refine ww_aload_n 60 X dX13_keepKey_60 0 rfl rfl ?_
  obtain ⟨v61, e61, h⟩ := bO_some h
  refine ww_getR 61 X dX13_keepKey_61 fG_X13_211 e61 ?_
  refine ww_sipush 64 X (v := (128 : Int32)) dX13_keepKey_64 (by decide) ?_
  refine ww_iload_n 67 X dX13_keepKey_67 1 rfl rfl ?_
  refine ww_imul 68 X dX13_keepKey_68 ?_
  refine ww_aload_n 69 X dX13_keepKey_69 0 rfl rfl ?_
  obtain ⟨v70, e70, h⟩ := bO_some h
  refine ww_getI 70 X dX13_keepKey_70 fG_X13_818 e70 ?_
  obtain ⟨M73, e73, h⟩ := bO_some h
  refine ww_callSV0 73 X dX13_keepKey_73 mY_X13_move mL_X13_317 (As := [.ref v56, .int (0 : Int32), .ref v61, .int ((128 : Int32) * l1), .int v70]) (rest := []) rfl rfl ⟨Nat.le_of_ble_eq_true rfl, Nat.le_of_ble_eq_true rfl⟩ (Nat.le_of_ble_eq_true rfl) (fun l D A => c_X13_move l D A e73) ?_
  refine ww_aload_n 76 X dX13_keepKey_76 0 rfl rfl ?_
  obtain ⟨v77, e77, h⟩ := bO_some h
  refine ww_getR 77 X dX13_keepKey_77 fG_X13_220 e77 ?_
  refine ww_iload_n 80 X dX13_keepKey_80 1 rfl rfl ?_
  refine ww_iload_n 81 X dX13_keepKey_81 2 rfl rfl ?_
  refine ww_if_ne 82 89 X dX13_keepKey_82 (by decide) (fun q => ?_) (fun q => ?_)
  · replace h := (if_neg q).symm.trans h
    refine ww_aload_n 89 X dX13_keepKey_89 0 rfl rfl ?_
    obtain ⟨v90, e90, h⟩ := bO_some h
    refine ww_getI 90 X dX13_keepKey_90 fG_X13_821 e90 ?_
    refine ww_if_ge 93 100 X dX13_keepKey_93 (by decide) (fun q => ?_) (fun q => ?_)
    · replace h := (if_pos q).symm.trans h
      refine ww_aload_n 100 X dX13_keepKey_100 0 rfl rfl ?_
      obtain ⟨v101, e101, h⟩ := bO_some h
      refine ww_getI 101 X dX13_keepKey_101 fG_X13_821 e101 ?_
      exact ww_sub [0, 1, 3] rfl (wB_X13_keepKey_104 X hQ h)
    · replace h := (if_neg q).symm.trans h
      refine ww_iconst 96 X (v := (0 : Int32)) dX13_keepKey_96 (by decide) ?_
      refine ww_goto 97 104 X dX13_keepKey_97 (by decide) ?_
      exact ww_sub [0, 1, 3] rfl (wB_X13_keepKey_104 X hQ h)
  · replace h := (if_pos q).symm.trans h
    refine ww_iconst 85 X (v := (0 : Int32)) dX13_keepKey_85 (by decide) ?_
    refine ww_goto 86 104 X dX13_keepKey_86 (by decide) ?_
    exact ww_sub [0, 1, 3] rfl (wB_X13_keepKey_104 X hQ h)
theorem c_X13_keepKey {G : mG} {F sz : Nat} {M0 : mM} (l : Launch) (D : mD) (A : Nat → Prop) {l0 : Nat} {l1 : Int32} {l2 : Int32} {l3 : Int32} {M : mM} (h : P_X13_keepKey G F l0 l1 l2 l3 M = some M0) : mMetV l D G A yX13_keepKey cX13_keepKey 5 none 6 135 0 0 [.ref l0, .int l1, .int l2, .int l3] M sz M0 sz := mMetV_of l D G A (by decide) (Nat.le_of_ble_eq_true rfl) (fun x X hQ => wP_X13_keepKey X hQ h)
/-! SealedTokensModel.key(I)I -/
theorem dX13_key_0 : decode cX13_key 0 = .ok (.iload_n 1, 1) := by decide +kernel
theorem dX13_key_1 : decode cX13_key 1 = .ok (.invokestatic 332, 3) := by decide +kernel
theorem dX13_key_4 : decode cX13_key 4 = .ok (.ifCond .ne 6, 3) := by decide +kernel
theorem dX13_key_7 : decode cX13_key 7 = .ok (.bipush (-2), 2) := by decide +kernel
theorem dX13_key_9 : decode cX13_key 9 = .ok (.ireturn, 1) := by decide +kernel
theorem dX13_key_10 : decode cX13_key 10 = .ok (.iconst 1, 1) := by decide +kernel
theorem dX13_key_11 : decode cX13_key 11 = .ok (.aload_n 0, 1) := by decide +kernel
theorem dX13_key_12 : decode cX13_key 12 = .ok (.getfield 449, 3) := by decide +kernel
theorem dX13_key_15 : decode cX13_key 15 = .ok (.isub, 1) := by decide +kernel
theorem dX13_key_16 : decode cX13_key 16 = .ok (.istore_n 2, 1) := by decide +kernel
theorem dX13_key_17 : decode cX13_key 17 = .ok (.aload_n 0, 1) := by decide +kernel
theorem dX13_key_18 : decode cX13_key 18 = .ok (.aload_n 0, 1) := by decide +kernel
theorem dX13_key_19 : decode cX13_key 19 = .ok (.getfield 14, 3) := by decide +kernel
theorem dX13_key_22 : decode cX13_key 22 = .ok (.sipush 8192, 3) := by decide +kernel
theorem dX13_key_25 : decode cX13_key 25 = .ok (.iload_n 1, 1) := by decide +kernel
theorem dX13_key_26 : decode cX13_key 26 = .ok (.imul, 1) := by decide +kernel
theorem dX13_key_27 : decode cX13_key 27 = .ok (.aload_n 0, 1) := by decide +kernel
theorem dX13_key_28 : decode cX13_key 28 = .ok (.getfield 17, 3) := by decide +kernel
theorem dX13_key_31 : decode cX13_key 31 = .ok (.iload_n 1, 1) := by decide +kernel
theorem dX13_key_32 : decode cX13_key 32 = .ok (.iaload, 1) := by decide +kernel
theorem dX13_key_33 : decode cX13_key 33 = .ok (.iload_n 2, 1) := by decide +kernel
theorem dX13_key_34 : decode cX13_key 34 = .ok (.invokevirtual 452, 3) := by decide +kernel
theorem dX13_key_37 : decode cX13_key 37 = .ok (.ifCond .ne 6, 3) := by decide +kernel
theorem dX13_key_40 : decode cX13_key 40 = .ok (.bipush (-11), 2) := by decide +kernel
theorem dX13_key_42 : decode cX13_key 42 = .ok (.ireturn, 1) := by decide +kernel
theorem dX13_key_43 : decode cX13_key 43 = .ok (.aload_n 0, 1) := by decide +kernel
theorem dX13_key_44 : decode cX13_key 44 = .ok (.getfield 24, 3) := by decide +kernel
theorem dX13_key_47 : decode cX13_key 47 = .ok (.sipush 600, 3) := by decide +kernel
theorem dX13_key_50 : decode cX13_key 50 = .ok (.iload_n 2, 1) := by decide +kernel
theorem dX13_key_51 : decode cX13_key 51 = .ok (.imul, 1) := by decide +kernel
theorem dX13_key_52 : decode cX13_key 52 = .ok (.iaload, 1) := by decide +kernel
theorem dX13_key_53 : decode cX13_key 53 = .ok (.bipush 6, 2) := by decide +kernel
theorem dX13_key_55 : decode cX13_key 55 = .ok (.if_icmp .eq 6, 3) := by decide +kernel
theorem dX13_key_58 : decode cX13_key 58 = .ok (.bipush (-12), 2) := by decide +kernel
theorem dX13_key_60 : decode cX13_key 60 = .ok (.ireturn, 1) := by decide +kernel
theorem dX13_key_61 : decode cX13_key 61 = .ok (.aload_n 0, 1) := by decide +kernel
theorem dX13_key_62 : decode cX13_key 62 = .ok (.iload_n 2, 1) := by decide +kernel
theorem dX13_key_63 : decode cX13_key 63 = .ok (.iconst 0, 1) := by decide +kernel
theorem dX13_key_64 : decode cX13_key 64 = .ok (.ldc_w 800, 3) := by decide +kernel
theorem dX13_key_67 : decode cX13_key 67 = .ok (.invokevirtual 796, 3) := by decide +kernel
theorem dX13_key_70 : decode cX13_key 70 = .ok (.istore_n 3, 1) := by decide +kernel
theorem dX13_key_71 : decode cX13_key 71 = .ok (.aload_n 0, 1) := by decide +kernel
theorem dX13_key_72 : decode cX13_key 72 = .ok (.iload_n 2, 1) := by decide +kernel
theorem dX13_key_73 : decode cX13_key 73 = .ok (.iload_n 3, 1) := by decide +kernel
theorem dX13_key_74 : decode cX13_key 74 = .ok (.ldc_w 801, 3) := by decide +kernel
theorem dX13_key_77 : decode cX13_key 77 = .ok (.invokevirtual 803, 3) := by decide +kernel
theorem dX13_key_80 : decode cX13_key 80 = .ok (.ifCond .eq 7, 3) := by decide +kernel
theorem dX13_key_83 : decode cX13_key 83 = .ok (.iconst 0, 1) := by decide +kernel
theorem dX13_key_84 : decode cX13_key 84 = .ok (.goto 36, 3) := by decide +kernel
theorem dX13_key_87 : decode cX13_key 87 = .ok (.aload_n 0, 1) := by decide +kernel
theorem dX13_key_88 : decode cX13_key 88 = .ok (.iload_n 2, 1) := by decide +kernel
theorem dX13_key_89 : decode cX13_key 89 = .ok (.iload_n 3, 1) := by decide +kernel
theorem dX13_key_90 : decode cX13_key 90 = .ok (.ldc_w 806, 3) := by decide +kernel
theorem dX13_key_93 : decode cX13_key 93 = .ok (.invokevirtual 803, 3) := by decide +kernel
theorem dX13_key_96 : decode cX13_key 96 = .ok (.ifCond .eq 7, 3) := by decide +kernel
theorem dX13_key_99 : decode cX13_key 99 = .ok (.iconst 1, 1) := by decide +kernel
theorem dX13_key_100 : decode cX13_key 100 = .ok (.goto 20, 3) := by decide +kernel
theorem dX13_key_103 : decode cX13_key 103 = .ok (.aload_n 0, 1) := by decide +kernel
theorem dX13_key_104 : decode cX13_key 104 = .ok (.iload_n 2, 1) := by decide +kernel
theorem dX13_key_105 : decode cX13_key 105 = .ok (.iload_n 3, 1) := by decide +kernel
theorem dX13_key_106 : decode cX13_key 106 = .ok (.ldc_w 808, 3) := by decide +kernel
theorem dX13_key_109 : decode cX13_key 109 = .ok (.invokevirtual 803, 3) := by decide +kernel
theorem dX13_key_112 : decode cX13_key 112 = .ok (.ifCond .eq 7, 3) := by decide +kernel
theorem dX13_key_115 : decode cX13_key 115 = .ok (.iconst 2, 1) := by decide +kernel
theorem dX13_key_116 : decode cX13_key 116 = .ok (.goto 4, 3) := by decide +kernel
theorem dX13_key_119 : decode cX13_key 119 = .ok (.iconst (-1), 1) := by decide +kernel
theorem dX13_key_120 : decode cX13_key 120 = .ok (.istore 4, 2) := by decide +kernel
theorem dX13_key_122 : decode cX13_key 122 = .ok (.iload 4, 2) := by decide +kernel
theorem dX13_key_124 : decode cX13_key 124 = .ok (.ifCond .ge 6, 3) := by decide +kernel
theorem dX13_key_127 : decode cX13_key 127 = .ok (.bipush (-13), 2) := by decide +kernel
theorem dX13_key_129 : decode cX13_key 129 = .ok (.ireturn, 1) := by decide +kernel
theorem dX13_key_130 : decode cX13_key 130 = .ok (.aload_n 0, 1) := by decide +kernel
theorem dX13_key_131 : decode cX13_key 131 = .ok (.iload_n 2, 1) := by decide +kernel
theorem dX13_key_132 : decode cX13_key 132 = .ok (.ldc_w 810, 3) := by decide +kernel
theorem dX13_key_135 : decode cX13_key 135 = .ok (.invokevirtual 811, 3) := by decide +kernel
theorem dX13_key_138 : decode cX13_key 138 = .ok (.ifCond .ne 25, 3) := by decide +kernel
theorem dX13_key_141 : decode cX13_key 141 = .ok (.aload_n 0, 1) := by decide +kernel
theorem dX13_key_142 : decode cX13_key 142 = .ok (.iload_n 2, 1) := by decide +kernel
theorem dX13_key_143 : decode cX13_key 143 = .ok (.ldc_w 815, 3) := by decide +kernel
theorem dX13_key_146 : decode cX13_key 146 = .ok (.invokevirtual 811, 3) := by decide +kernel
theorem dX13_key_149 : decode cX13_key 149 = .ok (.ifCond .ne 14, 3) := by decide +kernel
theorem dX13_key_152 : decode cX13_key 152 = .ok (.aload_n 0, 1) := by decide +kernel
theorem dX13_key_153 : decode cX13_key 153 = .ok (.iload_n 2, 1) := by decide +kernel
theorem dX13_key_154 : decode cX13_key 154 = .ok (.ldc_w 816, 3) := by decide +kernel
theorem dX13_key_157 : decode cX13_key 157 = .ok (.invokevirtual 811, 3) := by decide +kernel
theorem dX13_key_160 : decode cX13_key 160 = .ok (.ifCond .eq 6, 3) := by decide +kernel
theorem dX13_key_163 : decode cX13_key 163 = .ok (.bipush (-14), 2) := by decide +kernel
theorem dX13_key_165 : decode cX13_key 165 = .ok (.ireturn, 1) := by decide +kernel
theorem dX13_key_166 : decode cX13_key 166 = .ok (.aload_n 0, 1) := by decide +kernel
theorem dX13_key_167 : decode cX13_key 167 = .ok (.iconst 0, 1) := by decide +kernel
theorem dX13_key_168 : decode cX13_key 168 = .ok (.putfield 818, 3) := by decide +kernel
theorem dX13_key_171 : decode cX13_key 171 = .ok (.aload_n 0, 1) := by decide +kernel
theorem dX13_key_172 : decode cX13_key 172 = .ok (.iconst 0, 1) := by decide +kernel
theorem dX13_key_173 : decode cX13_key 173 = .ok (.putfield 821, 3) := by decide +kernel
theorem dX13_key_176 : decode cX13_key 176 = .ok (.iload 4, 2) := by decide +kernel
theorem dX13_key_178 : decode cX13_key 178 = .ok (.iconst 2, 1) := by decide +kernel
theorem dX13_key_179 : decode cX13_key 179 = .ok (.if_icmp .ne 23, 3) := by decide +kernel
theorem dX13_key_182 : decode cX13_key 182 = .ok (.aload_n 0, 1) := by decide +kernel
theorem dX13_key_183 : decode cX13_key 183 = .ok (.iload_n 2, 1) := by decide +kernel
theorem dX13_key_184 : decode cX13_key 184 = .ok (.aload_n 0, 1) := by decide +kernel
theorem dX13_key_185 : decode cX13_key 185 = .ok (.iload_n 2, 1) := by decide +kernel
theorem dX13_key_186 : decode cX13_key 186 = .ok (.iconst 0, 1) := by decide +kernel
theorem dX13_key_187 : decode cX13_key 187 = .ok (.ldc_w 824, 3) := by decide +kernel
theorem dX13_key_190 : decode cX13_key 190 = .ok (.invokevirtual 796, 3) := by decide +kernel
theorem dX13_key_193 : decode cX13_key 193 = .ok (.ldc_w 826, 3) := by decide +kernel
theorem dX13_key_196 : decode cX13_key 196 = .ok (.invokevirtual 803, 3) := by decide +kernel
theorem dX13_key_199 : decode cX13_key 199 = .ok (.ifCond .eq 7, 3) := by decide +kernel
theorem dX13_key_202 : decode cX13_key 202 = .ok (.iconst 1, 1) := by decide +kernel
theorem dX13_key_203 : decode cX13_key 203 = .ok (.goto 4, 3) := by decide +kernel
theorem dX13_key_206 : decode cX13_key 206 = .ok (.iconst 0, 1) := by decide +kernel
theorem dX13_key_207 : decode cX13_key 207 = .ok (.istore 5, 2) := by decide +kernel
theorem dX13_key_209 : decode cX13_key 209 = .ok (.aload_n 0, 1) := by decide +kernel
theorem dX13_key_210 : decode cX13_key 210 = .ok (.aload_n 0, 1) := by decide +kernel
theorem dX13_key_211 : decode cX13_key 211 = .ok (.iload_n 2, 1) := by decide +kernel
theorem dX13_key_212 : decode cX13_key 212 = .ok (.iconst 0, 1) := by decide +kernel
theorem dX13_key_213 : decode cX13_key 213 = .ok (.iload 4, 2) := by decide +kernel
theorem dX13_key_215 : decode cX13_key 215 = .ok (.ifCond .ne 9, 3) := by decide +kernel
theorem dX13_key_218 : decode cX13_key 218 = .ok (.ldc_w 828, 3) := by decide +kernel
theorem dX13_key_221 : decode cX13_key 221 = .ok (.goto 18, 3) := by decide +kernel
theorem dX13_key_224 : decode cX13_key 224 = .ok (.iload 4, 2) := by decide +kernel
theorem dX13_key_226 : decode cX13_key 226 = .ok (.iconst 1, 1) := by decide +kernel
theorem dX13_key_227 : decode cX13_key 227 = .ok (.if_icmp .ne 9, 3) := by decide +kernel
theorem dX13_key_230 : decode cX13_key 230 = .ok (.ldc_w 830, 3) := by decide +kernel
theorem dX13_key_233 : decode cX13_key 233 = .ok (.goto 6, 3) := by decide +kernel
theorem dX13_key_236 : decode cX13_key 236 = .ok (.ldc_w 832, 3) := by decide +kernel
theorem dX13_key_239 : decode cX13_key 239 = .ok (.aload_n 0, 1) := by decide +kernel
theorem dX13_key_240 : decode cX13_key 240 = .ok (.getfield 239, 3) := by decide +kernel
theorem dX13_key_243 : decode cX13_key 243 = .ok (.invokevirtual 834, 3) := by decide +kernel
theorem dX13_key_246 : decode cX13_key 246 = .ok (.putfield 838, 3) := by decide +kernel
theorem dX13_key_249 : decode cX13_key 249 = .ok (.iload 5, 2) := by decide +kernel
theorem dX13_key_251 : decode cX13_key 251 = .ok (.ifCond .eq 14, 3) := by decide +kernel
theorem dX13_key_254 : decode cX13_key 254 = .ok (.aload_n 0, 1) := by decide +kernel
theorem dX13_key_255 : decode cX13_key 255 = .ok (.getfield 838, 3) := by decide +kernel
theorem dX13_key_258 : decode cX13_key 258 = .ok (.ifCond .lt 7, 3) := by decide +kernel
theorem dX13_key_261 : decode cX13_key 261 = .ok (.iconst 1, 1) := by decide +kernel
theorem dX13_key_262 : decode cX13_key 262 = .ok (.goto 4, 3) := by decide +kernel
theorem dX13_key_265 : decode cX13_key 265 = .ok (.iconst 0, 1) := by decide +kernel
theorem dX13_key_266 : decode cX13_key 266 = .ok (.istore 5, 2) := by decide +kernel
theorem dX13_key_268 : decode cX13_key 268 = .ok (.iload 4, 2) := by decide +kernel
theorem dX13_key_270 : decode cX13_key 270 = .ok (.ifCond .eq 120, 3) := by decide +kernel
theorem dX13_key_273 : decode cX13_key 273 = .ok (.aload_n 0, 1) := by decide +kernel
theorem dX13_key_274 : decode cX13_key 274 = .ok (.aload_n 0, 1) := by decide +kernel
theorem dX13_key_275 : decode cX13_key 275 = .ok (.iload_n 2, 1) := by decide +kernel
theorem dX13_key_276 : decode cX13_key 276 = .ok (.iconst 0, 1) := by decide +kernel
theorem dX13_key_277 : decode cX13_key 277 = .ok (.iload 4, 2) := by decide +kernel
theorem dX13_key_279 : decode cX13_key 279 = .ok (.iconst 1, 1) := by decide +kernel
theorem dX13_key_280 : decode cX13_key 280 = .ok (.if_icmp .ne 9, 3) := by decide +kernel
theorem dX13_key_283 : decode cX13_key 283 = .ok (.ldc_w 841, 3) := by decide +kernel
theorem dX13_key_286 : decode cX13_key 286 = .ok (.goto 6, 3) := by decide +kernel
theorem dX13_key_289 : decode cX13_key 289 = .ok (.ldc_w 843, 3) := by decide +kernel
theorem dX13_key_292 : decode cX13_key 292 = .ok (.aload_n 0, 1) := by decide +kernel
theorem dX13_key_293 : decode cX13_key 293 = .ok (.getfield 242, 3) := by decide +kernel
theorem dX13_key_296 : decode cX13_key 296 = .ok (.invokevirtual 834, 3) := by decide +kernel
theorem dX13_key_299 : decode cX13_key 299 = .ok (.putfield 818, 3) := by decide +kernel
theorem dX13_key_302 : decode cX13_key 302 = .ok (.aload_n 0, 1) := by decide +kernel
theorem dX13_key_303 : decode cX13_key 303 = .ok (.iload_n 2, 1) := by decide +kernel
theorem dX13_key_304 : decode cX13_key 304 = .ok (.iconst 0, 1) := by decide +kernel
theorem dX13_key_305 : decode cX13_key 305 = .ok (.ldc_w 845, 3) := by decide +kernel
theorem dX13_key_308 : decode cX13_key 308 = .ok (.invokevirtual 796, 3) := by decide +kernel
theorem dX13_key_311 : decode cX13_key 311 = .ok (.ifCond .lt 7, 3) := by decide +kernel
theorem dX13_key_314 : decode cX13_key 314 = .ok (.iconst 1, 1) := by decide +kernel
theorem dX13_key_315 : decode cX13_key 315 = .ok (.goto 4, 3) := by decide +kernel
theorem dX13_key_318 : decode cX13_key 318 = .ok (.iconst 0, 1) := by decide +kernel
theorem dX13_key_319 : decode cX13_key 319 = .ok (.istore 6, 2) := by decide +kernel
theorem dX13_key_321 : decode cX13_key 321 = .ok (.aload_n 0, 1) := by decide +kernel
theorem dX13_key_322 : decode cX13_key 322 = .ok (.iload 6, 2) := by decide +kernel
theorem dX13_key_324 : decode cX13_key 324 = .ok (.ifCond .eq 19, 3) := by decide +kernel
theorem dX13_key_327 : decode cX13_key 327 = .ok (.aload_n 0, 1) := by decide +kernel
theorem dX13_key_328 : decode cX13_key 328 = .ok (.iload_n 2, 1) := by decide +kernel
theorem dX13_key_329 : decode cX13_key 329 = .ok (.iconst 0, 1) := by decide +kernel
theorem dX13_key_330 : decode cX13_key 330 = .ok (.ldc_w 845, 3) := by decide +kernel
theorem dX13_key_333 : decode cX13_key 333 = .ok (.aload_n 0, 1) := by decide +kernel
theorem dX13_key_334 : decode cX13_key 334 = .ok (.getfield 245, 3) := by decide +kernel
theorem dX13_key_337 : decode cX13_key 337 = .ok (.invokevirtual 834, 3) := by decide +kernel
theorem dX13_key_340 : decode cX13_key 340 = .ok (.goto 4, 3) := by decide +kernel
theorem dX13_key_343 : decode cX13_key 343 = .ok (.iconst 0, 1) := by decide +kernel
theorem dX13_key_344 : decode cX13_key 344 = .ok (.putfield 821, 3) := by decide +kernel
theorem dX13_key_347 : decode cX13_key 347 = .ok (.iload 5, 2) := by decide +kernel
theorem dX13_key_349 : decode cX13_key 349 = .ok (.ifCond .eq 21, 3) := by decide +kernel
theorem dX13_key_352 : decode cX13_key 352 = .ok (.aload_n 0, 1) := by decide +kernel
theorem dX13_key_353 : decode cX13_key 353 = .ok (.getfield 818, 3) := by decide +kernel
theorem dX13_key_356 : decode cX13_key 356 = .ok (.ifCond .lt 14, 3) := by decide +kernel
theorem dX13_key_359 : decode cX13_key 359 = .ok (.aload_n 0, 1) := by decide +kernel
theorem dX13_key_360 : decode cX13_key 360 = .ok (.getfield 821, 3) := by decide +kernel
theorem dX13_key_363 : decode cX13_key 363 = .ok (.ifCond .lt 7, 3) := by decide +kernel
theorem dX13_key_366 : decode cX13_key 366 = .ok (.iconst 1, 1) := by decide +kernel
theorem dX13_key_367 : decode cX13_key 367 = .ok (.goto 4, 3) := by decide +kernel
theorem dX13_key_370 : decode cX13_key 370 = .ok (.iconst 0, 1) := by decide +kernel
theorem dX13_key_371 : decode cX13_key 371 = .ok (.istore 5, 2) := by decide +kernel
theorem dX13_key_373 : decode cX13_key 373 = .ok (.aload_n 0, 1) := by decide +kernel
theorem dX13_key_374 : decode cX13_key 374 = .ok (.iload 6, 2) := by decide +kernel
theorem dX13_key_376 : decode cX13_key 376 = .ok (.ifCond .eq 10, 3) := by decide +kernel
theorem dX13_key_379 : decode cX13_key 379 = .ok (.aload_n 0, 1) := by decide +kernel
theorem dX13_key_380 : decode cX13_key 380 = .ok (.getfield 821, 3) := by decide +kernel
theorem dX13_key_383 : decode cX13_key 383 = .ok (.goto 4, 3) := by decide +kernel
theorem dX13_key_386 : decode cX13_key 386 = .ok (.iconst (-1), 1) := by decide +kernel
theorem dX13_key_387 : decode cX13_key 387 = .ok (.putfield 821, 3) := by decide +kernel
theorem dX13_key_390 : decode cX13_key 390 = .ok (.iload 5, 2) := by decide +kernel
theorem dX13_key_392 : decode cX13_key 392 = .ok (.ifCond .ne 6, 3) := by decide +kernel
theorem dX13_key_395 : decode cX13_key 395 = .ok (.bipush (-15), 2) := by decide +kernel
theorem dX13_key_397 : decode cX13_key 397 = .ok (.ireturn, 1) := by decide +kernel
theorem dX13_key_398 : decode cX13_key 398 = .ok (.iload 4, 2) := by decide +kernel
theorem dX13_key_400 : decode cX13_key 400 = .ok (.ifCond .ne 24, 3) := by decide +kernel
theorem dX13_key_403 : decode cX13_key 403 = .ok (.aload_n 0, 1) := by decide +kernel
theorem dX13_key_404 : decode cX13_key 404 = .ok (.getfield 838, 3) := by decide +kernel
theorem dX13_key_407 : decode cX13_key 407 = .ok (.iconst 1, 1) := by decide +kernel
theorem dX13_key_408 : decode cX13_key 408 = .ok (.if_icmp .lt 39, 3) := by decide +kernel
theorem dX13_key_411 : decode cX13_key 411 = .ok (.aload_n 0, 1) := by decide +kernel
theorem dX13_key_412 : decode cX13_key 412 = .ok (.getfield 838, 3) := by decide +kernel
theorem dX13_key_415 : decode cX13_key 415 = .ok (.sipush 128, 3) := by decide +kernel
theorem dX13_key_418 : decode cX13_key 418 = .ok (.if_icmp .gt 29, 3) := by decide +kernel
theorem dX13_key_421 : decode cX13_key 421 = .ok (.goto 29, 3) := by decide +kernel
theorem dX13_key_424 : decode cX13_key 424 = .ok (.iload 4, 2) := by decide +kernel
theorem dX13_key_426 : decode cX13_key 426 = .ok (.iconst 1, 1) := by decide +kernel
theorem dX13_key_427 : decode cX13_key 427 = .ok (.if_icmp .ne 13, 3) := by decide +kernel
theorem dX13_key_430 : decode cX13_key 430 = .ok (.aload_n 0, 1) := by decide +kernel
theorem dX13_key_431 : decode cX13_key 431 = .ok (.invokevirtual 847, 3) := by decide +kernel
theorem dX13_key_434 : decode cX13_key 434 = .ok (.ifCond .eq 13, 3) := by decide +kernel
theorem dX13_key_437 : decode cX13_key 437 = .ok (.goto 13, 3) := by decide +kernel
theorem dX13_key_440 : decode cX13_key 440 = .ok (.aload_n 0, 1) := by decide +kernel
theorem dX13_key_441 : decode cX13_key 441 = .ok (.invokevirtual 850, 3) := by decide +kernel
theorem dX13_key_444 : decode cX13_key 444 = .ok (.ifCond .ne 6, 3) := by decide +kernel
theorem dX13_key_447 : decode cX13_key 447 = .ok (.bipush (-16), 2) := by decide +kernel
theorem dX13_key_449 : decode cX13_key 449 = .ok (.ireturn, 1) := by decide +kernel
theorem dX13_key_450 : decode cX13_key 450 = .ok (.iconst 0, 1) := by decide +kernel
theorem dX13_key_451 : decode cX13_key 451 = .ok (.istore 6, 2) := by decide +kernel
theorem dX13_key_453 : decode cX13_key 453 = .ok (.iload 6, 2) := by decide +kernel
theorem dX13_key_455 : decode cX13_key 455 = .ok (.bipush 16, 2) := by decide +kernel
theorem dX13_key_457 : decode cX13_key 457 = .ok (.if_icmp .ge 19, 3) := by decide +kernel
theorem dX13_key_460 : decode cX13_key 460 = .ok (.aload_n 0, 1) := by decide +kernel
theorem dX13_key_461 : decode cX13_key 461 = .ok (.getfield 198, 3) := by decide +kernel
theorem dX13_key_464 : decode cX13_key 464 = .ok (.iload 6, 2) := by decide +kernel
theorem dX13_key_466 : decode cX13_key 466 = .ok (.baload, 1) := by decide +kernel
theorem dX13_key_467 : decode cX13_key 467 = .ok (.ifCond .eq 9, 3) := by decide +kernel
theorem dX13_key_470 : decode cX13_key 470 = .ok (.iinc 6 1, 3) := by decide +kernel
theorem dX13_key_473 : decode cX13_key 473 = .ok (.goto (-20), 3) := by decide +kernel
theorem dX13_key_476 : decode cX13_key 476 = .ok (.iload 6, 2) := by decide +kernel
theorem dX13_key_478 : decode cX13_key 478 = .ok (.bipush 16, 2) := by decide +kernel
theorem dX13_key_480 : decode cX13_key 480 = .ok (.if_icmp .ne 6, 3) := by decide +kernel
theorem dX13_key_483 : decode cX13_key 483 = .ok (.bipush (-17), 2) := by decide +kernel
theorem dX13_key_485 : decode cX13_key 485 = .ok (.ireturn, 1) := by decide +kernel
theorem dX13_key_486 : decode cX13_key 486 = .ok (.aload_n 0, 1) := by decide +kernel
theorem dX13_key_487 : decode cX13_key 487 = .ok (.iload 6, 2) := by decide +kernel
theorem dX13_key_489 : decode cX13_key 489 = .ok (.iload 4, 2) := by decide +kernel
theorem dX13_key_491 : decode cX13_key 491 = .ok (.iload_n 2, 1) := by decide +kernel
theorem dX13_key_492 : decode cX13_key 492 = .ok (.invokevirtual 853, 3) := by decide +kernel
theorem dX13_key_495 : decode cX13_key 495 = .ok (.iload 6, 2) := by decide +kernel
theorem dX13_key_497 : decode cX13_key 497 = .ok (.ireturn, 1) := by decide +kernel
abbrev rmX13_key : Room := { frames := 362, cells := 0, slots := 0, locals := 8556 }
set_option maxHeartbeats 4000000 in
set_option maxRecDepth 100000 in
theorem wB_X13_key_453 {G : mG} {F : Nat} {x : mXT} {sz : Nat} {r0 : Int32} {M0 : mM} (X : mCX G RX13 cX13_key 7 (some .int) "key" rmX13_key x) (hQ : mQI x r0 M0 (sz, 0, 0)) : ∀ (n : Nat) (l0 : Nat) (l2 : Int32) (l4 : Int32) (l6 : Int32) (M : mM), B_X13_key_453 G F n l0 l2 l4 l6 M = some (r0, M0) → WW x (sz, 0, 0) M 453 [(0, .ref l0), (2, .int l2), (4, .int l4), (6, .int l6)] [] := by
  intro n
  induction n with
  | zero =>
    intro l0 l2 l4 l6 M h
    exact nomatch (show (none : Option (Int32 × mM)) = some (r0, M0) from h)
  | succ n ih =>
    intro l0 l2 l4 l6 M h
    rw [B_X13_key_453] at h
    refine ww_iload 453 X dX13_key_453 3 rfl ?_
    refine ww_bipush 455 X (v := (16 : Int32)) dX13_key_455 (by decide) ?_
    refine ww_icmp_ge 457 476 X dX13_key_457 (by decide) (fun q => ?_) (fun q => ?_)
    · replace h := (if_pos q).symm.trans h
      refine ww_iload 476 X dX13_key_476 3 rfl ?_
      refine ww_bipush 478 X (v := (16 : Int32)) dX13_key_478 (by decide) ?_
      refine ww_icmp_ne 480 486 X dX13_key_480 (by decide) (fun q => ?_) (fun q => ?_)
      · replace h := (if_neg q).symm.trans h
        refine ww_aload_n 486 X dX13_key_486 0 rfl rfl ?_
        refine ww_iload 487 X dX13_key_487 3 rfl ?_
        refine ww_iload 489 X dX13_key_489 2 rfl ?_
        refine ww_iload_n 491 X dX13_key_491 1 rfl rfl ?_
        obtain ⟨_, f492, h⟩ := bO_some h
        obtain ⟨M492, e492, h⟩ := bO_some h
        refine ww_callVV0 492 X dX13_key_492 mY_X13_keepKey mL_X13_853 (rcv_spec f492) ⟨_, _, rfl⟩ (by decide) (As := [.int l6, .int l4, .int l2]) (rest := []) rfl rfl ⟨Nat.le_of_ble_eq_true rfl, Nat.le_of_ble_eq_true rfl⟩ (Nat.le_of_ble_eq_true rfl) (fun l D A => c_X13_keepKey l D A e492) ?_
        refine ww_iload 495 X dX13_key_495 3 rfl ?_
        exact ww_iretE 497 X hQ dX13_key_497 h
      · replace h := (if_pos q).symm.trans h
        refine ww_bipush 483 X (v := (-17 : Int32)) dX13_key_483 (by decide) ?_
        exact ww_iretE 485 X hQ dX13_key_485 h
    · replace h := (if_neg q).symm.trans h
      refine ww_aload_n 460 X dX13_key_460 0 rfl rfl ?_
      obtain ⟨v461, e461, h⟩ := bO_some h
      refine ww_getR 461 X dX13_key_461 fG_X13_198 e461 ?_
      refine ww_iload 464 X dX13_key_464 3 rfl ?_
      obtain ⟨v466, e466, h⟩ := bO_some h
      refine ww_zald 466 X dX13_key_466 e466 ?_
      refine ww_if_eq 467 476 X dX13_key_467 (by decide) (fun q => ?_) (fun q => ?_)
      · replace h := (if_pos q).symm.trans h
        refine ww_iload 476 X dX13_key_476 3 rfl ?_
        refine ww_bipush 478 X (v := (16 : Int32)) dX13_key_478 (by decide) ?_
        refine ww_icmp_ne 480 486 X dX13_key_480 (by decide) (fun q => ?_) (fun q => ?_)
        · replace h := (if_neg q).symm.trans h
          refine ww_aload_n 486 X dX13_key_486 0 rfl rfl ?_
          refine ww_iload 487 X dX13_key_487 3 rfl ?_
          refine ww_iload 489 X dX13_key_489 2 rfl ?_
          refine ww_iload_n 491 X dX13_key_491 1 rfl rfl ?_
          obtain ⟨_, f492, h⟩ := bO_some h
          obtain ⟨M492, e492, h⟩ := bO_some h
          refine ww_callVV0 492 X dX13_key_492 mY_X13_keepKey mL_X13_853 (rcv_spec f492) ⟨_, _, rfl⟩ (by decide) (As := [.int l6, .int l4, .int l2]) (rest := []) rfl rfl ⟨Nat.le_of_ble_eq_true rfl, Nat.le_of_ble_eq_true rfl⟩ (Nat.le_of_ble_eq_true rfl) (fun l D A => c_X13_keepKey l D A e492) ?_
          refine ww_iload 495 X dX13_key_495 3 rfl ?_
          exact ww_iretE 497 X hQ dX13_key_497 h
        · replace h := (if_pos q).symm.trans h
          refine ww_bipush 483 X (v := (-17 : Int32)) dX13_key_483 (by decide) ?_
          exact ww_iretE 485 X hQ dX13_key_485 h
      · replace h := (if_neg q).symm.trans h
        refine ww_iinc 470 X dX13_key_470 (lv' := [(0, .ref l0), (2, .int l2), (4, .int l4), (6, .int (l6 + 1))]) 3 rfl rfl (by decide) [1, 2, 3, 0] rfl ?_
        refine ww_goto 473 453 X dX13_key_473 (by decide) ?_
        exact (ih _ _ _ _ _ h)
set_option maxHeartbeats 4000000 in
set_option maxRecDepth 100000 in
theorem wB_X13_key_390 {G : mG} {F : Nat} {x : mXT} {sz : Nat} {r0 : Int32} {M0 : mM} (X : mCX G RX13 cX13_key 7 (some .int) "key" rmX13_key x) (hQ : mQI x r0 M0 (sz, 0, 0)) {l0 : Nat} {l2 : Int32} {l4 : Int32} {l5 : Int32} {M : mM} (h : B_X13_key_390 G F l0 l2 l4 l5 M = some (r0, M0)) : WW x (sz, 0, 0) M 390 [(0, .ref l0), (2, .int l2), (4, .int l4), (5, .int l5)] [] := by
  unfold B_X13_key_390 at h
  refine ww_iload 390 X dX13_key_390 3 rfl ?_
  refine ww_if_ne 392 398 X dX13_key_392 (by decide) (fun q => ?_) (fun q => ?_)
  · replace h := (if_neg q).symm.trans h
    refine ww_iload 398 X dX13_key_398 2 rfl ?_
    refine ww_if_ne 400 424 X dX13_key_400 (by decide) (fun q => ?_) (fun q => ?_)
    · replace h := (if_neg q).symm.trans h
      refine ww_iload 424 X dX13_key_424 2 rfl ?_
      refine ww_iconst 426 X (v := (1 : Int32)) dX13_key_426 (by decide) ?_
      refine ww_icmp_ne 427 440 X dX13_key_427 (by decide) (fun q => ?_) (fun q => ?_)
      · replace h := (if_neg q).symm.trans h
        refine ww_aload_n 440 X dX13_key_440 0 rfl rfl ?_
        obtain ⟨_, f441, h⟩ := bO_some h
        obtain ⟨v441, M441, e441, h⟩ := bP_some h
        refine ww_callVI0 441 X dX13_key_441 mY_X13_isEc mL_X13_850 (rcv_spec f441) ⟨_, _, rfl⟩ (by decide) (As := []) (rest := []) rfl rfl ⟨Nat.le_of_ble_eq_true rfl, Nat.le_of_ble_eq_true rfl⟩ (Nat.le_of_ble_eq_true rfl) (fun l D A => c_X13_isEc l D A e441) ?_
        refine ww_if_ne 444 450 X dX13_key_444 (by decide) (fun q => ?_) (fun q => ?_)
        · replace h := (if_neg q).symm.trans h
          refine ww_iconst 450 X (v := (0 : Int32)) dX13_key_450 (by decide) ?_
          refine ww_istore 451 X dX13_key_451 (lv' := [(0, .ref l0), (2, .int l2), (4, .int l4), (5, .int l5), (6, .int (0 : Int32))]) (by decide) [1, 2, 3, 4, 0] rfl ?_
          exact ww_sub [0, 1, 2, 4] rfl (wB_X13_key_453 X hQ F _ _ _ _ _ h)
        · replace h := (if_pos q).symm.trans h
          refine ww_bipush 447 X (v := (-16 : Int32)) dX13_key_447 (by decide) ?_
          exact ww_iretE 449 X hQ dX13_key_449 h
      · replace h := (if_pos q).symm.trans h
        refine ww_aload_n 430 X dX13_key_430 0 rfl rfl ?_
        obtain ⟨_, f431, h⟩ := bO_some h
        obtain ⟨v431, M431, e431, h⟩ := bP_some h
        refine ww_callVI0 431 X dX13_key_431 mY_X13_isRsa mL_X13_847 (rcv_spec f431) ⟨_, _, rfl⟩ (by decide) (As := []) (rest := []) rfl rfl ⟨Nat.le_of_ble_eq_true rfl, Nat.le_of_ble_eq_true rfl⟩ (Nat.le_of_ble_eq_true rfl) (fun l D A => c_X13_isRsa l D A e431) ?_
        refine ww_if_eq 434 447 X dX13_key_434 (by decide) (fun q => ?_) (fun q => ?_)
        · replace h := (if_pos q).symm.trans h
          refine ww_bipush 447 X (v := (-16 : Int32)) dX13_key_447 (by decide) ?_
          exact ww_iretE 449 X hQ dX13_key_449 h
        · replace h := (if_neg q).symm.trans h
          refine ww_goto 437 450 X dX13_key_437 (by decide) ?_
          refine ww_iconst 450 X (v := (0 : Int32)) dX13_key_450 (by decide) ?_
          refine ww_istore 451 X dX13_key_451 (lv' := [(0, .ref l0), (2, .int l2), (4, .int l4), (5, .int l5), (6, .int (0 : Int32))]) (by decide) [1, 2, 3, 4, 0] rfl ?_
          exact ww_sub [0, 1, 2, 4] rfl (wB_X13_key_453 X hQ F _ _ _ _ _ h)
    · replace h := (if_pos q).symm.trans h
      refine ww_aload_n 403 X dX13_key_403 0 rfl rfl ?_
      obtain ⟨v404, e404, h⟩ := bO_some h
      refine ww_getI 404 X dX13_key_404 fG_X13_838 e404 ?_
      refine ww_iconst 407 X (v := (1 : Int32)) dX13_key_407 (by decide) ?_
      refine ww_icmp_lt 408 447 X dX13_key_408 (by decide) (fun q => ?_) (fun q => ?_)
      · replace h := (if_pos q).symm.trans h
        refine ww_bipush 447 X (v := (-16 : Int32)) dX13_key_447 (by decide) ?_
        exact ww_iretE 449 X hQ dX13_key_449 h
      · replace h := (if_neg q).symm.trans h
        refine ww_aload_n 411 X dX13_key_411 0 rfl rfl ?_
        obtain ⟨v412, e412, h⟩ := bO_some h
        refine ww_getI 412 X dX13_key_412 fG_X13_838 e412 ?_
        refine ww_sipush 415 X (v := (128 : Int32)) dX13_key_415 (by decide) ?_
        refine ww_icmp_gt 418 447 X dX13_key_418 (by decide) (fun q => ?_) (fun q => ?_)
        · replace h := (if_pos q).symm.trans h
          refine ww_bipush 447 X (v := (-16 : Int32)) dX13_key_447 (by decide) ?_
          exact ww_iretE 449 X hQ dX13_key_449 h
        · replace h := (if_neg q).symm.trans h
          refine ww_goto 421 450 X dX13_key_421 (by decide) ?_
          refine ww_iconst 450 X (v := (0 : Int32)) dX13_key_450 (by decide) ?_
          refine ww_istore 451 X dX13_key_451 (lv' := [(0, .ref l0), (2, .int l2), (4, .int l4), (5, .int l5), (6, .int (0 : Int32))]) (by decide) [1, 2, 3, 4, 0] rfl ?_
          exact ww_sub [0, 1, 2, 4] rfl (wB_X13_key_453 X hQ F _ _ _ _ _ h)
  · replace h := (if_pos q).symm.trans h
    refine ww_bipush 395 X (v := (-15 : Int32)) dX13_key_395 (by decide) ?_
    exact ww_iretE 397 X hQ dX13_key_397 h
set_option maxHeartbeats 4000000 in
set_option maxRecDepth 100000 in
theorem wB_X13_key_370 {G : mG} {F : Nat} {x : mXT} {sz : Nat} {r0 : Int32} {M0 : mM} (X : mCX G RX13 cX13_key 7 (some .int) "key" rmX13_key x) (hQ : mQI x r0 M0 (sz, 0, 0)) {l0 : Nat} {l2 : Int32} {l4 : Int32} {l6 : Int32} {M : mM} (h : B_X13_key_370 G F l0 l2 l4 l6 M = some (r0, M0)) : WW x (sz, 0, 0) M 370 [(0, .ref l0), (2, .int l2), (4, .int l4), (6, .int l6)] [] := by
  unfold B_X13_key_370 at h
  refine ww_iconst 370 X (v := (0 : Int32)) dX13_key_370 (by decide) ?_
  refine ww_istore 371 X dX13_key_371 (lv' := [(0, .ref l0), (2, .int l2), (4, .int l4), (5, .int (0 : Int32)), (6, .int l6)]) (by decide) [1, 2, 3, 0, 4] rfl ?_
  refine ww_aload_n 373 X dX13_key_373 0 rfl rfl ?_
  refine ww_iload 374 X dX13_key_374 4 rfl ?_
  refine ww_if_eq 376 386 X dX13_key_376 (by decide) (fun q => ?_) (fun q => ?_)
  · replace h := (if_pos q).symm.trans h
    refine ww_iconst 386 X (v := (-1 : Int32)) dX13_key_386 (by decide) ?_
    obtain ⟨M387, e387, h⟩ := bO_some h
    refine ww_putI 387 X dX13_key_387 (fP_X13_821 _) e387 ?_
    exact ww_sub [0, 1, 2, 3] rfl (wB_X13_key_390 X hQ h)
  · replace h := (if_neg q).symm.trans h
    refine ww_aload_n 379 X dX13_key_379 0 rfl rfl ?_
    obtain ⟨v380, e380, h⟩ := bO_some h
    refine ww_getI 380 X dX13_key_380 fG_X13_821 e380 ?_
    refine ww_goto 383 387 X dX13_key_383 (by decide) ?_
    obtain ⟨M387, e387, h⟩ := bO_some h
    refine ww_putI 387 X dX13_key_387 (fP_X13_821 _) e387 ?_
    exact ww_sub [0, 1, 2, 3] rfl (wB_X13_key_390 X hQ h)
set_option maxHeartbeats 4000000 in
set_option maxRecDepth 100000 in
theorem wB_X13_key_344 {G : mG} {F : Nat} {x : mXT} {sz : Nat} {r0 : Int32} {M0 : mM} (X : mCX G RX13 cX13_key 7 (some .int) "key" rmX13_key x) (hQ : mQI x r0 M0 (sz, 0, 0)) {l0 : Nat} {l2 : Int32} {l4 : Int32} {l5 : Int32} {l6 : Int32} {sk0 : Nat} {sk1 : Int32} {M : mM} (h : B_X13_key_344 G F l0 l2 l4 l5 l6 sk0 sk1 M = some (r0, M0)) : WW x (sz, 0, 0) M 344 [(0, .ref l0), (2, .int l2), (4, .int l4), (5, .int l5), (6, .int l6)] [.int sk1, .ref sk0] := by
  unfold B_X13_key_344 at h
  obtain ⟨M344, e344, h⟩ := bO_some h
  refine ww_putI 344 X dX13_key_344 (fP_X13_821 _) e344 ?_
  refine ww_iload 347 X dX13_key_347 3 rfl ?_
  refine ww_if_eq 349 370 X dX13_key_349 (by decide) (fun q => ?_) (fun q => ?_)
  · replace h := (if_pos q).symm.trans h
    exact ww_sub [0, 1, 2, 4] rfl (wB_X13_key_370 X hQ h)
  · replace h := (if_neg q).symm.trans h
    refine ww_aload_n 352 X dX13_key_352 0 rfl rfl ?_
    obtain ⟨v353, e353, h⟩ := bO_some h
    refine ww_getI 353 X dX13_key_353 fG_X13_818 e353 ?_
    refine ww_if_lt 356 370 X dX13_key_356 (by decide) (fun q => ?_) (fun q => ?_)
    · replace h := (if_pos q).symm.trans h
      exact ww_sub [0, 1, 2, 4] rfl (wB_X13_key_370 X hQ h)
    · replace h := (if_neg q).symm.trans h
      refine ww_aload_n 359 X dX13_key_359 0 rfl rfl ?_
      obtain ⟨v360, e360, h⟩ := bO_some h
      refine ww_getI 360 X dX13_key_360 fG_X13_821 e360 ?_
      refine ww_if_lt 363 370 X dX13_key_363 (by decide) (fun q => ?_) (fun q => ?_)
      · replace h := (if_pos q).symm.trans h
        exact ww_sub [0, 1, 2, 4] rfl (wB_X13_key_370 X hQ h)
      · replace h := (if_neg q).symm.trans h
        refine ww_iconst 366 X (v := (1 : Int32)) dX13_key_366 (by decide) ?_
        refine ww_goto 367 371 X dX13_key_367 (by decide) ?_
        refine ww_istore 371 X dX13_key_371 (lv' := [(0, .ref l0), (2, .int l2), (4, .int l4), (5, .int (1 : Int32)), (6, .int l6)]) (by decide) [1, 2, 3, 0, 4] rfl ?_
        refine ww_aload_n 373 X dX13_key_373 0 rfl rfl ?_
        refine ww_iload 374 X dX13_key_374 4 rfl ?_
        refine ww_if_eq 376 386 X dX13_key_376 (by decide) (fun q => ?_) (fun q => ?_)
        · replace h := (if_pos q).symm.trans h
          refine ww_iconst 386 X (v := (-1 : Int32)) dX13_key_386 (by decide) ?_
          obtain ⟨M387, e387, h⟩ := bO_some h
          refine ww_putI 387 X dX13_key_387 (fP_X13_821 _) e387 ?_
          exact ww_sub [0, 1, 2, 3] rfl (wB_X13_key_390 X hQ h)
        · replace h := (if_neg q).symm.trans h
          refine ww_aload_n 379 X dX13_key_379 0 rfl rfl ?_
          obtain ⟨v380, e380, h⟩ := bO_some h
          refine ww_getI 380 X dX13_key_380 fG_X13_821 e380 ?_
          refine ww_goto 383 387 X dX13_key_383 (by decide) ?_
          obtain ⟨M387, e387, h⟩ := bO_some h
          refine ww_putI 387 X dX13_key_387 (fP_X13_821 _) e387 ?_
          exact ww_sub [0, 1, 2, 3] rfl (wB_X13_key_390 X hQ h)
set_option maxHeartbeats 4000000 in
set_option maxRecDepth 100000 in
theorem wB_X13_key_319 {G : mG} {F : Nat} {x : mXT} {sz : Nat} {r0 : Int32} {M0 : mM} (X : mCX G RX13 cX13_key 7 (some .int) "key" rmX13_key x) (hQ : mQI x r0 M0 (sz, 0, 0)) {l0 : Nat} {l2 : Int32} {l4 : Int32} {l5 : Int32} {sk0 : Int32} {M : mM} (h : B_X13_key_319 G F l0 l2 l4 l5 sk0 M = some (r0, M0)) : WW x (sz, 0, 0) M 319 [(0, .ref l0), (2, .int l2), (4, .int l4), (5, .int l5)] [.int sk0] := by
  unfold B_X13_key_319 at h
  refine ww_istore 319 X dX13_key_319 (lv' := [(0, .ref l0), (2, .int l2), (4, .int l4), (5, .int l5), (6, .int sk0)]) (by decide) [1, 2, 3, 4, 0] rfl ?_
  refine ww_aload_n 321 X dX13_key_321 0 rfl rfl ?_
  refine ww_iload 322 X dX13_key_322 4 rfl ?_
  refine ww_if_eq 324 343 X dX13_key_324 (by decide) (fun q => ?_) (fun q => ?_)
  · replace h := (if_pos q).symm.trans h
    refine ww_iconst 343 X (v := (0 : Int32)) dX13_key_343 (by decide) ?_
    exact (wB_X13_key_344 X hQ h)
  · replace h := (if_neg q).symm.trans h
    refine ww_aload_n 327 X dX13_key_327 0 rfl rfl ?_
    refine ww_iload_n 328 X dX13_key_328 1 rfl rfl ?_
    refine ww_iconst 329 X (v := (0 : Int32)) dX13_key_329 (by decide) ?_
    refine ww_ldsw 330 X (j := 98) dX13_key_330 rfl ?_
    refine ww_aload_n 333 X dX13_key_333 0 rfl rfl ?_
    obtain ⟨v334, e334, h⟩ := bO_some h
    refine ww_getR 334 X dX13_key_334 fG_X13_245 e334 ?_
    obtain ⟨_, f337, h⟩ := bO_some h
    obtain ⟨v337, M337, e337, h⟩ := bP_some h
    refine ww_callVI0 337 X dX13_key_337 mY_X13_bytesOf mL_X13_834 (rcv_spec f337) ⟨_, _, rfl⟩ (by decide) (As := [.int l2, .int (0 : Int32), .ref (G.1 98), .ref v334]) (rest := [.ref l0]) rfl rfl ⟨Nat.le_of_ble_eq_true rfl, Nat.le_of_ble_eq_true rfl⟩ (Nat.le_of_ble_eq_true rfl) (fun l D A => c_X13_bytesOf l D A e337) ?_
    refine ww_goto 340 344 X dX13_key_340 (by decide) ?_
    exact (wB_X13_key_344 X hQ h)
set_option maxHeartbeats 4000000 in
set_option maxRecDepth 100000 in
theorem wB_X13_key_292 {G : mG} {F : Nat} {x : mXT} {sz : Nat} {r0 : Int32} {M0 : mM} (X : mCX G RX13 cX13_key 7 (some .int) "key" rmX13_key x) (hQ : mQI x r0 M0 (sz, 0, 0)) {l0 : Nat} {l2 : Int32} {l4 : Int32} {l5 : Int32} {sk0 : Nat} {sk1 : Nat} {sk2 : Int32} {sk3 : Int32} {sk4 : Nat} {M : mM} (h : B_X13_key_292 G F l0 l2 l4 l5 sk0 sk1 sk2 sk3 sk4 M = some (r0, M0)) : WW x (sz, 0, 0) M 292 [(0, .ref l0), (2, .int l2), (4, .int l4), (5, .int l5)] [.ref sk4, .int sk3, .int sk2, .ref sk1, .ref sk0] := by
  unfold B_X13_key_292 at h
  refine ww_aload_n 292 X dX13_key_292 0 rfl rfl ?_
  obtain ⟨v293, e293, h⟩ := bO_some h
  refine ww_getR 293 X dX13_key_293 fG_X13_242 e293 ?_
  obtain ⟨_, f296, h⟩ := bO_some h
  obtain ⟨v296, M296, e296, h⟩ := bP_some h
  refine ww_callVI0 296 X dX13_key_296 mY_X13_bytesOf mL_X13_834 (rcv_spec f296) ⟨_, _, rfl⟩ (by decide) (As := [.int sk2, .int sk3, .ref sk4, .ref v293]) (rest := [.ref sk0]) rfl rfl ⟨Nat.le_of_ble_eq_true rfl, Nat.le_of_ble_eq_true rfl⟩ (Nat.le_of_ble_eq_true rfl) (fun l D A => c_X13_bytesOf l D A e296) ?_
  obtain ⟨M299, e299, h⟩ := bO_some h
  refine ww_putI 299 X dX13_key_299 (fP_X13_818 _) e299 ?_
  refine ww_aload_n 302 X dX13_key_302 0 rfl rfl ?_
  refine ww_iload_n 303 X dX13_key_303 1 rfl rfl ?_
  refine ww_iconst 304 X (v := (0 : Int32)) dX13_key_304 (by decide) ?_
  refine ww_ldsw 305 X (j := 98) dX13_key_305 rfl ?_
  obtain ⟨_, f308, h⟩ := bO_some h
  obtain ⟨v308, M308, e308, h⟩ := bP_some h
  refine ww_callVI0 308 X dX13_key_308 mY_X13_memberOf mL_X13_796 (rcv_spec f308) ⟨_, _, rfl⟩ (by decide) (As := [.int l2, .int (0 : Int32), .ref (G.1 98)]) (rest := []) rfl rfl ⟨Nat.le_of_ble_eq_true rfl, Nat.le_of_ble_eq_true rfl⟩ (Nat.le_of_ble_eq_true rfl) (fun l D A => c_X13_memberOf l D A e308) ?_
  refine ww_if_lt 311 318 X dX13_key_311 (by decide) (fun q => ?_) (fun q => ?_)
  · replace h := (if_pos q).symm.trans h
    refine ww_iconst 318 X (v := (0 : Int32)) dX13_key_318 (by decide) ?_
    exact (wB_X13_key_319 X hQ h)
  · replace h := (if_neg q).symm.trans h
    refine ww_iconst 314 X (v := (1 : Int32)) dX13_key_314 (by decide) ?_
    refine ww_goto 315 319 X dX13_key_315 (by decide) ?_
    exact (wB_X13_key_319 X hQ h)
set_option maxHeartbeats 4000000 in
set_option maxRecDepth 100000 in
theorem wB_X13_key_266 {G : mG} {F : Nat} {x : mXT} {sz : Nat} {r0 : Int32} {M0 : mM} (X : mCX G RX13 cX13_key 7 (some .int) "key" rmX13_key x) (hQ : mQI x r0 M0 (sz, 0, 0)) {l0 : Nat} {l2 : Int32} {l4 : Int32} {sk0 : Int32} {M : mM} (h : B_X13_key_266 G F l0 l2 l4 sk0 M = some (r0, M0)) : WW x (sz, 0, 0) M 266 [(0, .ref l0), (2, .int l2), (4, .int l4)] [.int sk0] := by
  unfold B_X13_key_266 at h
  refine ww_istore 266 X dX13_key_266 (lv' := [(0, .ref l0), (2, .int l2), (4, .int l4), (5, .int sk0)]) (by decide) [1, 2, 3, 0] rfl ?_
  refine ww_iload 268 X dX13_key_268 2 rfl ?_
  refine ww_if_eq 270 390 X dX13_key_270 (by decide) (fun q => ?_) (fun q => ?_)
  · replace h := (if_pos q).symm.trans h
    exact (wB_X13_key_390 X hQ h)
  · replace h := (if_neg q).symm.trans h
    refine ww_aload_n 273 X dX13_key_273 0 rfl rfl ?_
    refine ww_aload_n 274 X dX13_key_274 0 rfl rfl ?_
    refine ww_iload_n 275 X dX13_key_275 1 rfl rfl ?_
    refine ww_iconst 276 X (v := (0 : Int32)) dX13_key_276 (by decide) ?_
    refine ww_iload 277 X dX13_key_277 2 rfl ?_
    refine ww_iconst 279 X (v := (1 : Int32)) dX13_key_279 (by decide) ?_
    refine ww_icmp_ne 280 289 X dX13_key_280 (by decide) (fun q => ?_) (fun q => ?_)
    · replace h := (if_neg q).symm.trans h
      refine ww_ldsw 289 X (j := 97) dX13_key_289 rfl ?_
      exact (wB_X13_key_292 X hQ h)
    · replace h := (if_pos q).symm.trans h
      refine ww_ldsw 283 X (j := 96) dX13_key_283 rfl ?_
      refine ww_goto 286 292 X dX13_key_286 (by decide) ?_
      exact (wB_X13_key_292 X hQ h)
set_option maxHeartbeats 4000000 in
set_option maxRecDepth 100000 in
theorem wB_X13_key_239 {G : mG} {F : Nat} {x : mXT} {sz : Nat} {r0 : Int32} {M0 : mM} (X : mCX G RX13 cX13_key 7 (some .int) "key" rmX13_key x) (hQ : mQI x r0 M0 (sz, 0, 0)) {l0 : Nat} {l2 : Int32} {l4 : Int32} {l5 : Int32} {sk0 : Nat} {sk1 : Nat} {sk2 : Int32} {sk3 : Int32} {sk4 : Nat} {M : mM} (h : B_X13_key_239 G F l0 l2 l4 l5 sk0 sk1 sk2 sk3 sk4 M = some (r0, M0)) : WW x (sz, 0, 0) M 239 [(0, .ref l0), (2, .int l2), (4, .int l4), (5, .int l5)] [.ref sk4, .int sk3, .int sk2, .ref sk1, .ref sk0] := by
  unfold B_X13_key_239 at h
  refine ww_aload_n 239 X dX13_key_239 0 rfl rfl ?_
  obtain ⟨v240, e240, h⟩ := bO_some h
  refine ww_getR 240 X dX13_key_240 fG_X13_239 e240 ?_
  obtain ⟨_, f243, h⟩ := bO_some h
  obtain ⟨v243, M243, e243, h⟩ := bP_some h
  refine ww_callVI0 243 X dX13_key_243 mY_X13_bytesOf mL_X13_834 (rcv_spec f243) ⟨_, _, rfl⟩ (by decide) (As := [.int sk2, .int sk3, .ref sk4, .ref v240]) (rest := [.ref sk0]) rfl rfl ⟨Nat.le_of_ble_eq_true rfl, Nat.le_of_ble_eq_true rfl⟩ (Nat.le_of_ble_eq_true rfl) (fun l D A => c_X13_bytesOf l D A e243) ?_
  obtain ⟨M246, e246, h⟩ := bO_some h
  refine ww_putI 246 X dX13_key_246 (fP_X13_838 _) e246 ?_
  refine ww_iload 249 X dX13_key_249 3 rfl ?_
  refine ww_if_eq 251 265 X dX13_key_251 (by decide) (fun q => ?_) (fun q => ?_)
  · replace h := (if_pos q).symm.trans h
    refine ww_iconst 265 X (v := (0 : Int32)) dX13_key_265 (by decide) ?_
    exact ww_sub [0, 1, 2] rfl (wB_X13_key_266 X hQ h)
  · replace h := (if_neg q).symm.trans h
    refine ww_aload_n 254 X dX13_key_254 0 rfl rfl ?_
    obtain ⟨v255, e255, h⟩ := bO_some h
    refine ww_getI 255 X dX13_key_255 fG_X13_838 e255 ?_
    refine ww_if_lt 258 265 X dX13_key_258 (by decide) (fun q => ?_) (fun q => ?_)
    · replace h := (if_pos q).symm.trans h
      refine ww_iconst 265 X (v := (0 : Int32)) dX13_key_265 (by decide) ?_
      exact ww_sub [0, 1, 2] rfl (wB_X13_key_266 X hQ h)
    · replace h := (if_neg q).symm.trans h
      refine ww_iconst 261 X (v := (1 : Int32)) dX13_key_261 (by decide) ?_
      refine ww_goto 262 266 X dX13_key_262 (by decide) ?_
      exact ww_sub [0, 1, 2] rfl (wB_X13_key_266 X hQ h)
set_option maxHeartbeats 4000000 in
set_option maxRecDepth 100000 in
theorem wB_X13_key_207 {G : mG} {F : Nat} {x : mXT} {sz : Nat} {r0 : Int32} {M0 : mM} (X : mCX G RX13 cX13_key 7 (some .int) "key" rmX13_key x) (hQ : mQI x r0 M0 (sz, 0, 0)) {l0 : Nat} {l2 : Int32} {l4 : Int32} {sk0 : Int32} {M : mM} (h : B_X13_key_207 G F l0 l2 l4 sk0 M = some (r0, M0)) : WW x (sz, 0, 0) M 207 [(0, .ref l0), (2, .int l2), (4, .int l4)] [.int sk0] := by
  unfold B_X13_key_207 at h
  refine ww_istore 207 X dX13_key_207 (lv' := [(0, .ref l0), (2, .int l2), (4, .int l4), (5, .int sk0)]) (by decide) [1, 2, 3, 0] rfl ?_
  refine ww_aload_n 209 X dX13_key_209 0 rfl rfl ?_
  refine ww_aload_n 210 X dX13_key_210 0 rfl rfl ?_
  refine ww_iload_n 211 X dX13_key_211 1 rfl rfl ?_
  refine ww_iconst 212 X (v := (0 : Int32)) dX13_key_212 (by decide) ?_
  refine ww_iload 213 X dX13_key_213 2 rfl ?_
  refine ww_if_ne 215 224 X dX13_key_215 (by decide) (fun q => ?_) (fun q => ?_)
  · replace h := (if_neg q).symm.trans h
    refine ww_iload 224 X dX13_key_224 2 rfl ?_
    refine ww_iconst 226 X (v := (1 : Int32)) dX13_key_226 (by decide) ?_
    refine ww_icmp_ne 227 236 X dX13_key_227 (by decide) (fun q => ?_) (fun q => ?_)
    · replace h := (if_neg q).symm.trans h
      refine ww_ldsw 236 X (j := 95) dX13_key_236 rfl ?_
      exact (wB_X13_key_239 X hQ h)
    · replace h := (if_pos q).symm.trans h
      refine ww_ldsw 230 X (j := 94) dX13_key_230 rfl ?_
      refine ww_goto 233 239 X dX13_key_233 (by decide) ?_
      exact (wB_X13_key_239 X hQ h)
  · replace h := (if_pos q).symm.trans h
    refine ww_ldsw 218 X (j := 93) dX13_key_218 rfl ?_
    refine ww_goto 221 239 X dX13_key_221 (by decide) ?_
    exact (wB_X13_key_239 X hQ h)
set_option maxHeartbeats 4000000 in
set_option maxRecDepth 100000 in
theorem wB_X13_key_120 {G : mG} {F : Nat} {x : mXT} {sz : Nat} {r0 : Int32} {M0 : mM} (X : mCX G RX13 cX13_key 7 (some .int) "key" rmX13_key x) (hQ : mQI x r0 M0 (sz, 0, 0)) {l0 : Nat} {l2 : Int32} {sk0 : Int32} {M : mM} (h : B_X13_key_120 G F l0 l2 sk0 M = some (r0, M0)) : WW x (sz, 0, 0) M 120 [(0, .ref l0), (2, .int l2)] [.int sk0] := by
  unfold B_X13_key_120 at h
  refine ww_istore 120 X dX13_key_120 (lv' := [(0, .ref l0), (2, .int l2), (4, .int sk0)]) (by decide) [1, 2, 0] rfl ?_
  refine ww_iload 122 X dX13_key_122 2 rfl ?_
  refine ww_if_ge 124 130 X dX13_key_124 (by decide) (fun q => ?_) (fun q => ?_)
  · replace h := (if_pos q).symm.trans h
    refine ww_aload_n 130 X dX13_key_130 0 rfl rfl ?_
    refine ww_iload_n 131 X dX13_key_131 1 rfl rfl ?_
    refine ww_ldsw 132 X (j := 88) dX13_key_132 rfl ?_
    obtain ⟨_, f135, h⟩ := bO_some h
    obtain ⟨v135, M135, e135, h⟩ := bP_some h
    refine ww_callVI0 135 X dX13_key_135 mY_X13_isOdd mL_X13_811 (rcv_spec f135) ⟨_, _, rfl⟩ (by decide) (As := [.int l2, .ref (G.1 88)]) (rest := []) rfl rfl ⟨Nat.le_of_ble_eq_true rfl, Nat.le_of_ble_eq_true rfl⟩ (Nat.le_of_ble_eq_true rfl) (fun l D A => c_X13_isOdd l D A e135) ?_
    refine ww_if_ne 138 163 X dX13_key_138 (by decide) (fun q => ?_) (fun q => ?_)
    · replace h := (if_neg q).symm.trans h
      refine ww_bipush 163 X (v := (-14 : Int32)) dX13_key_163 (by decide) ?_
      exact ww_iretE 165 X hQ dX13_key_165 h
    · replace h := (if_pos q).symm.trans h
      refine ww_aload_n 141 X dX13_key_141 0 rfl rfl ?_
      refine ww_iload_n 142 X dX13_key_142 1 rfl rfl ?_
      refine ww_ldsw 143 X (j := 89) dX13_key_143 rfl ?_
      obtain ⟨_, f146, h⟩ := bO_some h
      obtain ⟨v146, M146, e146, h⟩ := bP_some h
      refine ww_callVI0 146 X dX13_key_146 mY_X13_isOdd mL_X13_811 (rcv_spec f146) ⟨_, _, rfl⟩ (by decide) (As := [.int l2, .ref (G.1 89)]) (rest := []) rfl rfl ⟨Nat.le_of_ble_eq_true rfl, Nat.le_of_ble_eq_true rfl⟩ (Nat.le_of_ble_eq_true rfl) (fun l D A => c_X13_isOdd l D A e146) ?_
      refine ww_if_ne 149 163 X dX13_key_149 (by decide) (fun q => ?_) (fun q => ?_)
      · replace h := (if_neg q).symm.trans h
        refine ww_bipush 163 X (v := (-14 : Int32)) dX13_key_163 (by decide) ?_
        exact ww_iretE 165 X hQ dX13_key_165 h
      · replace h := (if_pos q).symm.trans h
        refine ww_aload_n 152 X dX13_key_152 0 rfl rfl ?_
        refine ww_iload_n 153 X dX13_key_153 1 rfl rfl ?_
        refine ww_ldsw 154 X (j := 90) dX13_key_154 rfl ?_
        obtain ⟨_, f157, h⟩ := bO_some h
        obtain ⟨v157, M157, e157, h⟩ := bP_some h
        refine ww_callVI0 157 X dX13_key_157 mY_X13_isOdd mL_X13_811 (rcv_spec f157) ⟨_, _, rfl⟩ (by decide) (As := [.int l2, .ref (G.1 90)]) (rest := []) rfl rfl ⟨Nat.le_of_ble_eq_true rfl, Nat.le_of_ble_eq_true rfl⟩ (Nat.le_of_ble_eq_true rfl) (fun l D A => c_X13_isOdd l D A e157) ?_
        refine ww_if_eq 160 166 X dX13_key_160 (by decide) (fun q => ?_) (fun q => ?_)
        · replace h := (if_pos q).symm.trans h
          refine ww_aload_n 166 X dX13_key_166 0 rfl rfl ?_
          refine ww_iconst 167 X (v := (0 : Int32)) dX13_key_167 (by decide) ?_
          obtain ⟨M168, e168, h⟩ := bO_some h
          refine ww_putI 168 X dX13_key_168 (fP_X13_818 _) e168 ?_
          refine ww_aload_n 171 X dX13_key_171 0 rfl rfl ?_
          refine ww_iconst 172 X (v := (0 : Int32)) dX13_key_172 (by decide) ?_
          obtain ⟨M173, e173, h⟩ := bO_some h
          refine ww_putI 173 X dX13_key_173 (fP_X13_821 _) e173 ?_
          refine ww_iload 176 X dX13_key_176 2 rfl ?_
          refine ww_iconst 178 X (v := (2 : Int32)) dX13_key_178 (by decide) ?_
          refine ww_icmp_ne 179 202 X dX13_key_179 (by decide) (fun q => ?_) (fun q => ?_)
          · replace h := (if_neg q).symm.trans h
            refine ww_iconst 202 X (v := (1 : Int32)) dX13_key_202 (by decide) ?_
            refine ww_goto 203 207 X dX13_key_203 (by decide) ?_
            exact (wB_X13_key_207 X hQ h)
          · replace h := (if_pos q).symm.trans h
            refine ww_aload_n 182 X dX13_key_182 0 rfl rfl ?_
            refine ww_iload_n 183 X dX13_key_183 1 rfl rfl ?_
            refine ww_aload_n 184 X dX13_key_184 0 rfl rfl ?_
            refine ww_iload_n 185 X dX13_key_185 1 rfl rfl ?_
            refine ww_iconst 186 X (v := (0 : Int32)) dX13_key_186 (by decide) ?_
            refine ww_ldsw 187 X (j := 91) dX13_key_187 rfl ?_
            obtain ⟨_, f190, h⟩ := bO_some h
            obtain ⟨v190, M190, e190, h⟩ := bP_some h
            refine ww_callVI0 190 X dX13_key_190 mY_X13_memberOf mL_X13_796 (rcv_spec f190) ⟨_, _, rfl⟩ (by decide) (As := [.int l2, .int (0 : Int32), .ref (G.1 91)]) (rest := [.int l2, .ref l0]) rfl rfl ⟨Nat.le_of_ble_eq_true rfl, Nat.le_of_ble_eq_true rfl⟩ (Nat.le_of_ble_eq_true rfl) (fun l D A => c_X13_memberOf l D A e190) ?_
            refine ww_ldsw 193 X (j := 92) dX13_key_193 rfl ?_
            obtain ⟨_, f196, h⟩ := bO_some h
            obtain ⟨v196, M196, e196, h⟩ := bP_some h
            refine ww_callVI0 196 X dX13_key_196 mY_X13_says mL_X13_803 (rcv_spec f196) ⟨_, _, rfl⟩ (by decide) (As := [.int l2, .int v190, .ref (G.1 92)]) (rest := []) rfl rfl ⟨Nat.le_of_ble_eq_true rfl, Nat.le_of_ble_eq_true rfl⟩ (Nat.le_of_ble_eq_true rfl) (fun l D A => c_X13_says l D A e196) ?_
            refine ww_if_eq 199 206 X dX13_key_199 (by decide) (fun q => ?_) (fun q => ?_)
            · replace h := (if_pos q).symm.trans h
              refine ww_iconst 206 X (v := (0 : Int32)) dX13_key_206 (by decide) ?_
              exact (wB_X13_key_207 X hQ h)
            · replace h := (if_neg q).symm.trans h
              refine ww_iconst 202 X (v := (1 : Int32)) dX13_key_202 (by decide) ?_
              refine ww_goto 203 207 X dX13_key_203 (by decide) ?_
              exact (wB_X13_key_207 X hQ h)
        · replace h := (if_neg q).symm.trans h
          refine ww_bipush 163 X (v := (-14 : Int32)) dX13_key_163 (by decide) ?_
          exact ww_iretE 165 X hQ dX13_key_165 h
  · replace h := (if_neg q).symm.trans h
    refine ww_bipush 127 X (v := (-13 : Int32)) dX13_key_127 (by decide) ?_
    exact ww_iretE 129 X hQ dX13_key_129 h
set_option maxHeartbeats 4000000 in
set_option maxRecDepth 100000 in
theorem wP_X13_key {G : mG} {F : Nat} {x : mXT} {sz : Nat} {r0 : Int32} {M0 : mM} (X : mCX G RX13 cX13_key 7 (some .int) "key" rmX13_key x) (hQ : mQI x r0 M0 (sz, 0, 0)) {l0 : Nat} {l1 : Int32} {M : mM} (h : P_X13_key G F l0 l1 M = some (r0, M0)) : WW x (sz, 0, 0) M 0 [(0, .ref l0), (1, .int l1)] [] := by
  unfold P_X13_key at h
  refine ww_iload_n 0 X dX13_key_0 1 rfl rfl ?_
  obtain ⟨v1, M1, e1, h⟩ := bP_some h
  refine ww_callSI0 1 X dX13_key_1 mY_X13_isRow mL_X13_332 (As := [.int l1]) (rest := []) rfl rfl ⟨Nat.le_of_ble_eq_true rfl, Nat.le_of_ble_eq_true rfl⟩ (Nat.le_of_ble_eq_true rfl) (fun l D A => c_X13_isRow l D A e1) ?_
  refine ww_if_ne 4 10 X dX13_key_4 (by decide) (fun q => ?_) (fun q => ?_)
  · replace h := (if_neg q).symm.trans h
    refine ww_iconst 10 X (v := (1 : Int32)) dX13_key_10 (by decide) ?_
    refine ww_aload_n 11 X dX13_key_11 0 rfl rfl ?_
    obtain ⟨v12, e12, h⟩ := bO_some h
    refine ww_getI 12 X dX13_key_12 fG_X13_449 e12 ?_
    refine ww_isub 15 X dX13_key_15 ?_
    refine ww_istore_n 16 X dX13_key_16 (lv' := [(0, .ref l0), (1, .int l1), (2, .int ((1 : Int32) - v12))]) rfl (by decide) [1, 2, 0] rfl ?_
    refine ww_aload_n 17 X dX13_key_17 0 rfl rfl ?_
    refine ww_aload_n 18 X dX13_key_18 0 rfl rfl ?_
    obtain ⟨v19, e19, h⟩ := bO_some h
    refine ww_getR 19 X dX13_key_19 fG_X13_14 e19 ?_
    refine ww_sipush 22 X (v := (8192 : Int32)) dX13_key_22 (by decide) ?_
    refine ww_iload_n 25 X dX13_key_25 1 rfl rfl ?_
    refine ww_imul 26 X dX13_key_26 ?_
    refine ww_aload_n 27 X dX13_key_27 0 rfl rfl ?_
    obtain ⟨v28, e28, h⟩ := bO_some h
    refine ww_getR 28 X dX13_key_28 fG_X13_17 e28 ?_
    refine ww_iload_n 31 X dX13_key_31 1 rfl rfl ?_
    obtain ⟨v32, e32, h⟩ := bO_some h
    refine ww_iald 32 X dX13_key_32 e32 ?_
    refine ww_iload_n 33 X dX13_key_33 2 rfl rfl ?_
    obtain ⟨_, f34, h⟩ := bO_some h
    obtain ⟨v34, M34, e34, h⟩ := bP_some h
    refine ww_callVI0 34 X dX13_key_34 mY_X13_read mL_X13_452 (rcv_spec f34) ⟨_, _, rfl⟩ (by decide) (As := [.ref v19, .int ((8192 : Int32) * l1), .int v32, .int ((1 : Int32) - v12)]) (rest := []) rfl rfl ⟨Nat.le_of_ble_eq_true rfl, Nat.le_of_ble_eq_true rfl⟩ (Nat.le_of_ble_eq_true rfl) (fun l D A => c_X13_read l D A e34) ?_
    refine ww_if_ne 37 43 X dX13_key_37 (by decide) (fun q => ?_) (fun q => ?_)
    · replace h := (if_neg q).symm.trans h
      refine ww_aload_n 43 X dX13_key_43 0 rfl rfl ?_
      obtain ⟨v44, e44, h⟩ := bO_some h
      refine ww_getR 44 X dX13_key_44 fG_X13_24 e44 ?_
      refine ww_sipush 47 X (v := (600 : Int32)) dX13_key_47 (by decide) ?_
      refine ww_iload_n 50 X dX13_key_50 2 rfl rfl ?_
      refine ww_imul 51 X dX13_key_51 ?_
      obtain ⟨v52, e52, h⟩ := bO_some h
      refine ww_iald 52 X dX13_key_52 e52 ?_
      refine ww_bipush 53 X (v := (6 : Int32)) dX13_key_53 (by decide) ?_
      refine ww_icmp_eq 55 61 X dX13_key_55 (by decide) (fun q => ?_) (fun q => ?_)
      · replace h := (if_pos q).symm.trans h
        refine ww_aload_n 61 X dX13_key_61 0 rfl rfl ?_
        refine ww_iload_n 62 X dX13_key_62 2 rfl rfl ?_
        refine ww_iconst 63 X (v := (0 : Int32)) dX13_key_63 (by decide) ?_
        refine ww_ldsw 64 X (j := 84) dX13_key_64 rfl ?_
        obtain ⟨_, f67, h⟩ := bO_some h
        obtain ⟨v67, M67, e67, h⟩ := bP_some h
        refine ww_callVI0 67 X dX13_key_67 mY_X13_memberOf mL_X13_796 (rcv_spec f67) ⟨_, _, rfl⟩ (by decide) (As := [.int ((1 : Int32) - v12), .int (0 : Int32), .ref (G.1 84)]) (rest := []) rfl rfl ⟨Nat.le_of_ble_eq_true rfl, Nat.le_of_ble_eq_true rfl⟩ (Nat.le_of_ble_eq_true rfl) (fun l D A => c_X13_memberOf l D A e67) ?_
        refine ww_istore_n 70 X dX13_key_70 (lv' := [(0, .ref l0), (1, .int l1), (2, .int ((1 : Int32) - v12)), (3, .int v67)]) rfl (by decide) [1, 2, 3, 0] rfl ?_
        refine ww_aload_n 71 X dX13_key_71 0 rfl rfl ?_
        refine ww_iload_n 72 X dX13_key_72 2 rfl rfl ?_
        refine ww_iload_n 73 X dX13_key_73 3 rfl rfl ?_
        refine ww_ldsw 74 X (j := 85) dX13_key_74 rfl ?_
        obtain ⟨_, f77, h⟩ := bO_some h
        obtain ⟨v77, M77, e77, h⟩ := bP_some h
        refine ww_callVI0 77 X dX13_key_77 mY_X13_says mL_X13_803 (rcv_spec f77) ⟨_, _, rfl⟩ (by decide) (As := [.int ((1 : Int32) - v12), .int v67, .ref (G.1 85)]) (rest := []) rfl rfl ⟨Nat.le_of_ble_eq_true rfl, Nat.le_of_ble_eq_true rfl⟩ (Nat.le_of_ble_eq_true rfl) (fun l D A => c_X13_says l D A e77) ?_
        refine ww_if_eq 80 87 X dX13_key_80 (by decide) (fun q => ?_) (fun q => ?_)
        · replace h := (if_pos q).symm.trans h
          refine ww_aload_n 87 X dX13_key_87 0 rfl rfl ?_
          refine ww_iload_n 88 X dX13_key_88 2 rfl rfl ?_
          refine ww_iload_n 89 X dX13_key_89 3 rfl rfl ?_
          refine ww_ldsw 90 X (j := 86) dX13_key_90 rfl ?_
          obtain ⟨_, f93, h⟩ := bO_some h
          obtain ⟨v93, M93, e93, h⟩ := bP_some h
          refine ww_callVI0 93 X dX13_key_93 mY_X13_says mL_X13_803 (rcv_spec f93) ⟨_, _, rfl⟩ (by decide) (As := [.int ((1 : Int32) - v12), .int v67, .ref (G.1 86)]) (rest := []) rfl rfl ⟨Nat.le_of_ble_eq_true rfl, Nat.le_of_ble_eq_true rfl⟩ (Nat.le_of_ble_eq_true rfl) (fun l D A => c_X13_says l D A e93) ?_
          refine ww_if_eq 96 103 X dX13_key_96 (by decide) (fun q => ?_) (fun q => ?_)
          · replace h := (if_pos q).symm.trans h
            refine ww_aload_n 103 X dX13_key_103 0 rfl rfl ?_
            refine ww_iload_n 104 X dX13_key_104 2 rfl rfl ?_
            refine ww_iload_n 105 X dX13_key_105 3 rfl rfl ?_
            refine ww_ldsw 106 X (j := 87) dX13_key_106 rfl ?_
            obtain ⟨_, f109, h⟩ := bO_some h
            obtain ⟨v109, M109, e109, h⟩ := bP_some h
            refine ww_callVI0 109 X dX13_key_109 mY_X13_says mL_X13_803 (rcv_spec f109) ⟨_, _, rfl⟩ (by decide) (As := [.int ((1 : Int32) - v12), .int v67, .ref (G.1 87)]) (rest := []) rfl rfl ⟨Nat.le_of_ble_eq_true rfl, Nat.le_of_ble_eq_true rfl⟩ (Nat.le_of_ble_eq_true rfl) (fun l D A => c_X13_says l D A e109) ?_
            refine ww_if_eq 112 119 X dX13_key_112 (by decide) (fun q => ?_) (fun q => ?_)
            · replace h := (if_pos q).symm.trans h
              refine ww_iconst 119 X (v := (-1 : Int32)) dX13_key_119 (by decide) ?_
              exact ww_sub [0, 2] rfl (wB_X13_key_120 X hQ h)
            · replace h := (if_neg q).symm.trans h
              refine ww_iconst 115 X (v := (2 : Int32)) dX13_key_115 (by decide) ?_
              refine ww_goto 116 120 X dX13_key_116 (by decide) ?_
              exact ww_sub [0, 2] rfl (wB_X13_key_120 X hQ h)
          · replace h := (if_neg q).symm.trans h
            refine ww_iconst 99 X (v := (1 : Int32)) dX13_key_99 (by decide) ?_
            refine ww_goto 100 120 X dX13_key_100 (by decide) ?_
            exact ww_sub [0, 2] rfl (wB_X13_key_120 X hQ h)
        · replace h := (if_neg q).symm.trans h
          refine ww_iconst 83 X (v := (0 : Int32)) dX13_key_83 (by decide) ?_
          refine ww_goto 84 120 X dX13_key_84 (by decide) ?_
          exact ww_sub [0, 2] rfl (wB_X13_key_120 X hQ h)
      · replace h := (if_neg q).symm.trans h
        refine ww_bipush 58 X (v := (-12 : Int32)) dX13_key_58 (by decide) ?_
        exact ww_iretE 60 X hQ dX13_key_60 h
    · replace h := (if_pos q).symm.trans h
      refine ww_bipush 40 X (v := (-11 : Int32)) dX13_key_40 (by decide) ?_
      exact ww_iretE 42 X hQ dX13_key_42 h
  · replace h := (if_pos q).symm.trans h
    refine ww_bipush 7 X (v := (-2 : Int32)) dX13_key_7 (by decide) ?_
    exact ww_iretE 9 X hQ dX13_key_9 h
theorem c_X13_key {G : mG} {F sz : Nat} {r0 : Int32} {M0 : mM} (l : Launch) (D : mD) (A : Nat → Prop) {l0 : Nat} {l1 : Int32} {M : mM} (h : P_X13_key G F l0 l1 M = some (r0, M0)) : mMetI l D G A yX13_key cX13_key 7 (some .int) 362 8556 0 0 [.ref l0, .int l1] M sz r0 M0 sz := mMetI_of l D G A (by decide) (Nat.le_of_ble_eq_true rfl) (fun x X hQ => wP_X13_key X hQ h)
