/-! SealedTokensModel.read([BIII)Z -/
theorem dX13_read_0 : decode cX13_read 0 = .ok (.aload_n 0, 1) := by decide +kernel
theorem dX13_read_1 : decode cX13_read 1 = .ok (.aload_n 1, 1) := by decide +kernel
theorem dX13_read_2 : decode cX13_read 2 = .ok (.putfield 342, 3) := by decide +kernel
theorem dX13_read_5 : decode cX13_read 5 = .ok (.aload_n 0, 1) := by decide +kernel
theorem dX13_read_6 : decode cX13_read 6 = .ok (.iload_n 2, 1) := by decide +kernel
theorem dX13_read_7 : decode cX13_read 7 = .ok (.putfield 345, 3) := by decide +kernel
theorem dX13_read_10 : decode cX13_read 10 = .ok (.aload_n 0, 1) := by decide +kernel
theorem dX13_read_11 : decode cX13_read 11 = .ok (.iload_n 3, 1) := by decide +kernel
theorem dX13_read_12 : decode cX13_read 12 = .ok (.putfield 339, 3) := by decide +kernel
theorem dX13_read_15 : decode cX13_read 15 = .ok (.aload_n 0, 1) := by decide +kernel
theorem dX13_read_16 : decode cX13_read 16 = .ok (.iconst 0, 1) := by decide +kernel
theorem dX13_read_17 : decode cX13_read 17 = .ok (.putfield 336, 3) := by decide +kernel
theorem dX13_read_20 : decode cX13_read 20 = .ok (.aload_n 0, 1) := by decide +kernel
theorem dX13_read_21 : decode cX13_read 21 = .ok (.iconst (-1), 1) := by decide +kernel
theorem dX13_read_22 : decode cX13_read 22 = .ok (.putfield 348, 3) := by decide +kernel
theorem dX13_read_25 : decode cX13_read 25 = .ok (.aload_n 0, 1) := by decide +kernel
theorem dX13_read_26 : decode cX13_read 26 = .ok (.iload 4, 2) := by decide +kernel
theorem dX13_read_28 : decode cX13_read 28 = .ok (.putfield 355, 3) := by decide +kernel
theorem dX13_read_31 : decode cX13_read 31 = .ok (.aload_n 0, 1) := by decide +kernel
theorem dX13_read_32 : decode cX13_read 32 = .ok (.getfield 54, 3) := by decide +kernel
theorem dX13_read_35 : decode cX13_read 35 = .ok (.iload 4, 2) := by decide +kernel
theorem dX13_read_37 : decode cX13_read 37 = .ok (.iconst 0, 1) := by decide +kernel
theorem dX13_read_38 : decode cX13_read 38 = .ok (.iastore, 1) := by decide +kernel
theorem dX13_read_39 : decode cX13_read 39 = .ok (.aload_n 0, 1) := by decide +kernel
theorem dX13_read_40 : decode cX13_read 40 = .ok (.sipush 8200, 3) := by decide +kernel
theorem dX13_read_43 : decode cX13_read 43 = .ok (.iload 4, 2) := by decide +kernel
theorem dX13_read_45 : decode cX13_read 45 = .ok (.imul, 1) := by decide +kernel
theorem dX13_read_46 : decode cX13_read 46 = .ok (.putfield 358, 3) := by decide +kernel
theorem dX13_read_49 : decode cX13_read 49 = .ok (.aload_n 0, 1) := by decide +kernel
theorem dX13_read_50 : decode cX13_read 50 = .ok (.iconst 0, 1) := by decide +kernel
theorem dX13_read_51 : decode cX13_read 51 = .ok (.putfield 361, 3) := by decide +kernel
theorem dX13_read_54 : decode cX13_read 54 = .ok (.aload_n 0, 1) := by decide +kernel
theorem dX13_read_55 : decode cX13_read 55 = .ok (.invokevirtual 364, 3) := by decide +kernel
theorem dX13_read_58 : decode cX13_read 58 = .ok (.aload_n 0, 1) := by decide +kernel
theorem dX13_read_59 : decode cX13_read 59 = .ok (.iconst (-1), 1) := by decide +kernel
theorem dX13_read_60 : decode cX13_read 60 = .ok (.iconst 0, 1) := by decide +kernel
theorem dX13_read_61 : decode cX13_read 61 = .ok (.invokevirtual 367, 3) := by decide +kernel
theorem dX13_read_64 : decode cX13_read 64 = .ok (.aload_n 0, 1) := by decide +kernel
theorem dX13_read_65 : decode cX13_read 65 = .ok (.invokevirtual 371, 3) := by decide +kernel
theorem dX13_read_68 : decode cX13_read 68 = .ok (.ifCond .eq 26, 3) := by decide +kernel
theorem dX13_read_71 : decode cX13_read 71 = .ok (.aload_n 0, 1) := by decide +kernel
theorem dX13_read_72 : decode cX13_read 72 = .ok (.invokevirtual 364, 3) := by decide +kernel
theorem dX13_read_75 : decode cX13_read 75 = .ok (.aload_n 0, 1) := by decide +kernel
theorem dX13_read_76 : decode cX13_read 76 = .ok (.getfield 336, 3) := by decide +kernel
theorem dX13_read_79 : decode cX13_read 79 = .ok (.aload_n 0, 1) := by decide +kernel
theorem dX13_read_80 : decode cX13_read 80 = .ok (.getfield 339, 3) := by decide +kernel
theorem dX13_read_83 : decode cX13_read 83 = .ok (.if_icmp .ge 11, 3) := by decide +kernel
theorem dX13_read_86 : decode cX13_read 86 = .ok (.aload_n 0, 1) := by decide +kernel
theorem dX13_read_87 : decode cX13_read 87 = .ok (.aload_n 0, 1) := by decide +kernel
theorem dX13_read_88 : decode cX13_read 88 = .ok (.getfield 336, 3) := by decide +kernel
theorem dX13_read_91 : decode cX13_read 91 = .ok (.invokevirtual 375, 3) := by decide +kernel
theorem dX13_read_94 : decode cX13_read 94 = .ok (.aload_n 0, 1) := by decide +kernel
theorem dX13_read_95 : decode cX13_read 95 = .ok (.invokevirtual 371, 3) := by decide +kernel
theorem dX13_read_98 : decode cX13_read 98 = .ok (.ireturn, 1) := by decide +kernel
abbrev rmX13_read : Room := { frames := 361, cells := 0, slots := 0, locals := 8532 }
set_option maxHeartbeats 4000000 in
set_option maxRecDepth 100000 in
theorem wP_X13_read {G : mG} {F : Nat} {x : mXT} {sz : Nat} {r0 : Int32} {M0 : mM} (X : mCX G RX13 cX13_read 5 (some .boolean) "read" rmX13_read x) (hQ : mQI x r0 M0 (sz, 0, 0)) {l0 : Nat} {l1 : Nat} {l2 : Int32} {l3 : Int32} {l4 : Int32} {M : mM} (h : P_X13_read G F l0 l1 l2 l3 l4 M = some (r0, M0)) : WW x (sz, 0, 0) M 0 [(0, .ref l0), (1, .ref l1), (2, .int l2), (3, .int l3), (4, .int l4)] [] := by
  unfold P_X13_read at h
  refine ww_aload_n 0 X dX13_read_0 0 rfl rfl ?_
  refine ww_aload_n 1 X dX13_read_1 1 rfl rfl ?_
  obtain ⟨M2, e2, h⟩ := bO_some h
  refine ww_putR 2 X dX13_read_2 (fP_X13_342 _) e2 rfl rfl ?_
  refine ww_aload_n 5 X dX13_read_5 0 rfl rfl ?_
  refine ww_iload_n 6 X dX13_read_6 2 rfl rfl ?_
  obtain ⟨M7, e7, h⟩ := bO_some h
  refine ww_putI 7 X dX13_read_7 (fP_X13_345 _) e7 ?_
  refine ww_aload_n 10 X dX13_read_10 0 rfl rfl ?_
  refine ww_iload_n 11 X dX13_read_11 3 rfl rfl ?_
  obtain ⟨M12, e12, h⟩ := bO_some h
  refine ww_putI 12 X dX13_read_12 (fP_X13_339 _) e12 ?_
  refine ww_aload_n 15 X dX13_read_15 0 rfl rfl ?_
  refine ww_iconst 16 X (v := (0 : Int32)) dX13_read_16 (by decide) ?_
  obtain ⟨M17, e17, h⟩ := bO_some h
  refine ww_putI 17 X dX13_read_17 (fP_X13_336 _) e17 ?_
  refine ww_aload_n 20 X dX13_read_20 0 rfl rfl ?_
  refine ww_iconst 21 X (v := (-1 : Int32)) dX13_read_21 (by decide) ?_
  obtain ⟨M22, e22, h⟩ := bO_some h
  refine ww_putI 22 X dX13_read_22 (fP_X13_348 _) e22 ?_
  refine ww_aload_n 25 X dX13_read_25 0 rfl rfl ?_
  refine ww_iload 26 X dX13_read_26 4 rfl ?_
  obtain ⟨M28, e28, h⟩ := bO_some h
  refine ww_putI 28 X dX13_read_28 (fP_X13_355 _) e28 ?_
  refine ww_aload_n 31 X dX13_read_31 0 rfl rfl ?_
  obtain ⟨v32, e32, h⟩ := bO_some h
  refine ww_getR 32 X dX13_read_32 fG_X13_54 e32 ?_
  refine ww_iload 35 X dX13_read_35 4 rfl ?_
  refine ww_iconst 37 X (v := (0 : Int32)) dX13_read_37 (by decide) ?_
  obtain ⟨M38, e38, h⟩ := bO_some h
  refine ww_iast 38 X dX13_read_38 e38 ?_
  refine ww_aload_n 39 X dX13_read_39 0 rfl rfl ?_
  refine ww_sipush 40 X (v := (8200 : Int32)) dX13_read_40 (by decide) ?_
  refine ww_iload 43 X dX13_read_43 4 rfl ?_
  refine ww_imul 45 X dX13_read_45 ?_
  obtain ⟨M46, e46, h⟩ := bO_some h
  refine ww_putI 46 X dX13_read_46 (fP_X13_358 _) e46 ?_
  refine ww_aload_n 49 X dX13_read_49 0 rfl rfl ?_
  refine ww_iconst 50 X (v := (0 : Int32)) dX13_read_50 (by decide) ?_
  obtain ⟨M51, e51, h⟩ := bO_some h
  refine ww_putI 51 X dX13_read_51 (fP_X13_361 _) e51 ?_
  refine ww_aload_n 54 X dX13_read_54 0 rfl rfl ?_
  obtain ⟨_, f55, h⟩ := bO_some h
  obtain ⟨M55, e55, h⟩ := bO_some h
  refine ww_callVV0 55 X dX13_read_55 mY_X13_blanks mL_X13_364 (rcv_spec f55) ⟨_, _, rfl⟩ (by decide) (As := []) (rest := []) rfl rfl ⟨Nat.le_of_ble_eq_true rfl, Nat.le_of_ble_eq_true rfl⟩ (Nat.le_of_ble_eq_true rfl) (fun l D A => c_X13_blanks l D A e55) ?_
  refine ww_aload_n 58 X dX13_read_58 0 rfl rfl ?_
  refine ww_iconst 59 X (v := (-1 : Int32)) dX13_read_59 (by decide) ?_
  refine ww_iconst 60 X (v := (0 : Int32)) dX13_read_60 (by decide) ?_
  obtain ⟨_, f61, h⟩ := bO_some h
  obtain ⟨M61, e61, h⟩ := bO_some h
  refine ww_callVV0 61 X dX13_read_61 mY_X13_readValue mL_X13_367 (rcv_spec f61) ⟨_, _, rfl⟩ (by decide) (As := [.int (-1 : Int32), .int (0 : Int32)]) (rest := []) rfl rfl ⟨Nat.le_of_ble_eq_true rfl, Nat.le_of_ble_eq_true rfl⟩ (Nat.le_of_ble_eq_true rfl) (fun l D A => c_X13_readValue l D A e61) ?_
  refine ww_aload_n 64 X dX13_read_64 0 rfl rfl ?_
  obtain ⟨_, f65, h⟩ := bO_some h
  obtain ⟨v65, M65, e65, h⟩ := bP_some h
  refine ww_callVI0 65 X dX13_read_65 mY_X13_good mL_X13_371 (rcv_spec f65) ⟨_, _, rfl⟩ (by decide) (As := []) (rest := []) rfl rfl ⟨Nat.le_of_ble_eq_true rfl, Nat.le_of_ble_eq_true rfl⟩ (Nat.le_of_ble_eq_true rfl) (fun l D A => c_X13_good l D A e65) ?_
  refine ww_if_eq 68 94 X dX13_read_68 (by decide) (fun q => ?_) (fun q => ?_)
  · replace h := (if_pos q).symm.trans h
    refine ww_aload_n 94 X dX13_read_94 0 rfl rfl ?_
    obtain ⟨_, f95, h⟩ := bO_some h
    obtain ⟨v95, M95, e95, h⟩ := bP_some h
    refine ww_callVI0 95 X dX13_read_95 mY_X13_good mL_X13_371 (rcv_spec f95) ⟨_, _, rfl⟩ (by decide) (As := []) (rest := []) rfl rfl ⟨Nat.le_of_ble_eq_true rfl, Nat.le_of_ble_eq_true rfl⟩ (Nat.le_of_ble_eq_true rfl) (fun l D A => c_X13_good l D A e95) ?_
    exact ww_zretE 98 X hQ dX13_read_98 h
  · replace h := (if_neg q).symm.trans h
    refine ww_aload_n 71 X dX13_read_71 0 rfl rfl ?_
    obtain ⟨_, f72, h⟩ := bO_some h
    obtain ⟨M72, e72, h⟩ := bO_some h
    refine ww_callVV0 72 X dX13_read_72 mY_X13_blanks mL_X13_364 (rcv_spec f72) ⟨_, _, rfl⟩ (by decide) (As := []) (rest := []) rfl rfl ⟨Nat.le_of_ble_eq_true rfl, Nat.le_of_ble_eq_true rfl⟩ (Nat.le_of_ble_eq_true rfl) (fun l D A => c_X13_blanks l D A e72) ?_
    refine ww_aload_n 75 X dX13_read_75 0 rfl rfl ?_
    obtain ⟨v76, e76, h⟩ := bO_some h
    refine ww_getI 76 X dX13_read_76 fG_X13_336 e76 ?_
    refine ww_aload_n 79 X dX13_read_79 0 rfl rfl ?_
    obtain ⟨v80, e80, h⟩ := bO_some h
    refine ww_getI 80 X dX13_read_80 fG_X13_339 e80 ?_
    refine ww_icmp_ge 83 94 X dX13_read_83 (by decide) (fun q => ?_) (fun q => ?_)
    · replace h := (if_pos q).symm.trans h
      refine ww_aload_n 94 X dX13_read_94 0 rfl rfl ?_
      obtain ⟨_, f95, h⟩ := bO_some h
      obtain ⟨v95, M95, e95, h⟩ := bP_some h
      refine ww_callVI0 95 X dX13_read_95 mY_X13_good mL_X13_371 (rcv_spec f95) ⟨_, _, rfl⟩ (by decide) (As := []) (rest := []) rfl rfl ⟨Nat.le_of_ble_eq_true rfl, Nat.le_of_ble_eq_true rfl⟩ (Nat.le_of_ble_eq_true rfl) (fun l D A => c_X13_good l D A e95) ?_
      exact ww_zretE 98 X hQ dX13_read_98 h
    · replace h := (if_neg q).symm.trans h
      refine ww_aload_n 86 X dX13_read_86 0 rfl rfl ?_
      refine ww_aload_n 87 X dX13_read_87 0 rfl rfl ?_
      obtain ⟨v88, e88, h⟩ := bO_some h
      refine ww_getI 88 X dX13_read_88 fG_X13_336 e88 ?_
      obtain ⟨_, f91, h⟩ := bO_some h
      obtain ⟨M91, e91, h⟩ := bO_some h
      refine ww_callVV0 91 X dX13_read_91 mY_X13_fail mL_X13_375 (rcv_spec f91) ⟨_, _, rfl⟩ (by decide) (As := [.int v88]) (rest := []) rfl rfl ⟨Nat.le_of_ble_eq_true rfl, Nat.le_of_ble_eq_true rfl⟩ (Nat.le_of_ble_eq_true rfl) (fun l D A => c_X13_fail l D A e91) ?_
      refine ww_aload_n 94 X dX13_read_94 0 rfl rfl ?_
      obtain ⟨_, f95, h⟩ := bO_some h
      obtain ⟨v95, M95, e95, h⟩ := bP_some h
      refine ww_callVI0 95 X dX13_read_95 mY_X13_good mL_X13_371 (rcv_spec f95) ⟨_, _, rfl⟩ (by decide) (As := []) (rest := []) rfl rfl ⟨Nat.le_of_ble_eq_true rfl, Nat.le_of_ble_eq_true rfl⟩ (Nat.le_of_ble_eq_true rfl) (fun l D A => c_X13_good l D A e95) ?_
      exact ww_zretE 98 X hQ dX13_read_98 h
theorem c_X13_read {G : mG} {F sz : Nat} {r0 : Int32} {M0 : mM} (l : Launch) (D : mD) (A : Nat → Prop) {l0 : Nat} {l1 : Nat} {l2 : Int32} {l3 : Int32} {l4 : Int32} {M : mM} (h : P_X13_read G F l0 l1 l2 l3 l4 M = some (r0, M0)) : mMetI l D G A yX13_read cX13_read 5 (some .boolean) 361 8532 0 0 [.ref l0, .ref l1, .int l2, .int l3, .int l4] M sz r0 M0 sz := mMetI_of l D G A (by decide) (Nat.le_of_ble_eq_true rfl) (fun x X hQ => wP_X13_read X hQ h)
/-! SealedTokensModel.json(I)I -/
theorem dX13_json_0 : decode cX13_json 0 = .ok (.iload_n 1, 1) := by decide +kernel
theorem dX13_json_1 : decode cX13_json 1 = .ok (.invokestatic 332, 3) := by decide +kernel
theorem dX13_json_4 : decode cX13_json 4 = .ok (.ifCond .ne 6, 3) := by decide +kernel
theorem dX13_json_7 : decode cX13_json 7 = .ok (.bipush (-2), 2) := by decide +kernel
theorem dX13_json_9 : decode cX13_json 9 = .ok (.ireturn, 1) := by decide +kernel
theorem dX13_json_10 : decode cX13_json 10 = .ok (.aload_n 0, 1) := by decide +kernel
theorem dX13_json_11 : decode cX13_json 11 = .ok (.aload_n 0, 1) := by decide +kernel
theorem dX13_json_12 : decode cX13_json 12 = .ok (.getfield 14, 3) := by decide +kernel
theorem dX13_json_15 : decode cX13_json 15 = .ok (.sipush 8192, 3) := by decide +kernel
theorem dX13_json_18 : decode cX13_json 18 = .ok (.iload_n 1, 1) := by decide +kernel
theorem dX13_json_19 : decode cX13_json 19 = .ok (.imul, 1) := by decide +kernel
theorem dX13_json_20 : decode cX13_json 20 = .ok (.aload_n 0, 1) := by decide +kernel
theorem dX13_json_21 : decode cX13_json 21 = .ok (.getfield 17, 3) := by decide +kernel
theorem dX13_json_24 : decode cX13_json 24 = .ok (.iload_n 1, 1) := by decide +kernel
theorem dX13_json_25 : decode cX13_json 25 = .ok (.iaload, 1) := by decide +kernel
theorem dX13_json_26 : decode cX13_json 26 = .ok (.iconst 1, 1) := by decide +kernel
theorem dX13_json_27 : decode cX13_json 27 = .ok (.aload_n 0, 1) := by decide +kernel
theorem dX13_json_28 : decode cX13_json 28 = .ok (.getfield 449, 3) := by decide +kernel
theorem dX13_json_31 : decode cX13_json 31 = .ok (.isub, 1) := by decide +kernel
theorem dX13_json_32 : decode cX13_json 32 = .ok (.invokevirtual 452, 3) := by decide +kernel
theorem dX13_json_35 : decode cX13_json 35 = .ok (.ifCond .ne 11, 3) := by decide +kernel
theorem dX13_json_38 : decode cX13_json 38 = .ok (.bipush (-100), 2) := by decide +kernel
theorem dX13_json_40 : decode cX13_json 40 = .ok (.aload_n 0, 1) := by decide +kernel
theorem dX13_json_41 : decode cX13_json 41 = .ok (.getfield 348, 3) := by decide +kernel
theorem dX13_json_44 : decode cX13_json 44 = .ok (.isub, 1) := by decide +kernel
theorem dX13_json_45 : decode cX13_json 45 = .ok (.ireturn, 1) := by decide +kernel
theorem dX13_json_46 : decode cX13_json 46 = .ok (.aload_n 0, 1) := by decide +kernel
theorem dX13_json_47 : decode cX13_json 47 = .ok (.iconst 1, 1) := by decide +kernel
theorem dX13_json_48 : decode cX13_json 48 = .ok (.aload_n 0, 1) := by decide +kernel
theorem dX13_json_49 : decode cX13_json 49 = .ok (.getfield 449, 3) := by decide +kernel
theorem dX13_json_52 : decode cX13_json 52 = .ok (.isub, 1) := by decide +kernel
theorem dX13_json_53 : decode cX13_json 53 = .ok (.putfield 449, 3) := by decide +kernel
theorem dX13_json_56 : decode cX13_json 56 = .ok (.aload_n 0, 1) := by decide +kernel
theorem dX13_json_57 : decode cX13_json 57 = .ok (.iconst 1, 1) := by decide +kernel
theorem dX13_json_58 : decode cX13_json 58 = .ok (.putfield 456, 3) := by decide +kernel
theorem dX13_json_61 : decode cX13_json 61 = .ok (.aload_n 0, 1) := by decide +kernel
theorem dX13_json_62 : decode cX13_json 62 = .ok (.getfield 54, 3) := by decide +kernel
theorem dX13_json_65 : decode cX13_json 65 = .ok (.aload_n 0, 1) := by decide +kernel
theorem dX13_json_66 : decode cX13_json 66 = .ok (.getfield 449, 3) := by decide +kernel
theorem dX13_json_69 : decode cX13_json 69 = .ok (.iaload, 1) := by decide +kernel
theorem dX13_json_70 : decode cX13_json 70 = .ok (.ireturn, 1) := by decide +kernel
abbrev rmX13_json : Room := { frames := 362, cells := 0, slots := 0, locals := 8556 }
set_option maxHeartbeats 4000000 in
set_option maxRecDepth 100000 in
theorem wP_X13_json {G : mG} {F : Nat} {x : mXT} {sz : Nat} {r0 : Int32} {M0 : mM} (X : mCX G RX13 cX13_json 2 (some .int) "json" rmX13_json x) (hQ : mQI x r0 M0 (sz, 0, 0)) {l0 : Nat} {l1 : Int32} {M : mM} (h : P_X13_json G F l0 l1 M = some (r0, M0)) : WW x (sz, 0, 0) M 0 [(0, .ref l0), (1, .int l1)] [] := by
  unfold P_X13_json at h
  refine ww_iload_n 0 X dX13_json_0 1 rfl rfl ?_
  obtain ⟨v1, M1, e1, h⟩ := bP_some h
  refine ww_callSI0 1 X dX13_json_1 mY_X13_isRow mL_X13_332 (As := [.int l1]) (rest := []) rfl rfl ⟨Nat.le_of_ble_eq_true rfl, Nat.le_of_ble_eq_true rfl⟩ (Nat.le_of_ble_eq_true rfl) (fun l D A => c_X13_isRow l D A e1) ?_
  refine ww_if_ne 4 10 X dX13_json_4 (by decide) (fun q => ?_) (fun q => ?_)
  · replace h := (if_neg q).symm.trans h
    refine ww_aload_n 10 X dX13_json_10 0 rfl rfl ?_
    refine ww_aload_n 11 X dX13_json_11 0 rfl rfl ?_
    obtain ⟨v12, e12, h⟩ := bO_some h
    refine ww_getR 12 X dX13_json_12 fG_X13_14 e12 ?_
    refine ww_sipush 15 X (v := (8192 : Int32)) dX13_json_15 (by decide) ?_
    refine ww_iload_n 18 X dX13_json_18 1 rfl rfl ?_
    refine ww_imul 19 X dX13_json_19 ?_
    refine ww_aload_n 20 X dX13_json_20 0 rfl rfl ?_
    obtain ⟨v21, e21, h⟩ := bO_some h
    refine ww_getR 21 X dX13_json_21 fG_X13_17 e21 ?_
    refine ww_iload_n 24 X dX13_json_24 1 rfl rfl ?_
    obtain ⟨v25, e25, h⟩ := bO_some h
    refine ww_iald 25 X dX13_json_25 e25 ?_
    refine ww_iconst 26 X (v := (1 : Int32)) dX13_json_26 (by decide) ?_
    refine ww_aload_n 27 X dX13_json_27 0 rfl rfl ?_
    obtain ⟨v28, e28, h⟩ := bO_some h
    refine ww_getI 28 X dX13_json_28 fG_X13_449 e28 ?_
    refine ww_isub 31 X dX13_json_31 ?_
    obtain ⟨_, f32, h⟩ := bO_some h
    obtain ⟨v32, M32, e32, h⟩ := bP_some h
    refine ww_callVI0 32 X dX13_json_32 mY_X13_read mL_X13_452 (rcv_spec f32) ⟨_, _, rfl⟩ (by decide) (As := [.ref v12, .int ((8192 : Int32) * l1), .int v25, .int ((1 : Int32) - v28)]) (rest := []) rfl rfl ⟨Nat.le_of_ble_eq_true rfl, Nat.le_of_ble_eq_true rfl⟩ (Nat.le_of_ble_eq_true rfl) (fun l D A => c_X13_read l D A e32) ?_
    refine ww_if_ne 35 46 X dX13_json_35 (by decide) (fun q => ?_) (fun q => ?_)
    · replace h := (if_neg q).symm.trans h
      refine ww_aload_n 46 X dX13_json_46 0 rfl rfl ?_
      refine ww_iconst 47 X (v := (1 : Int32)) dX13_json_47 (by decide) ?_
      refine ww_aload_n 48 X dX13_json_48 0 rfl rfl ?_
      obtain ⟨v49, e49, h⟩ := bO_some h
      refine ww_getI 49 X dX13_json_49 fG_X13_449 e49 ?_
      refine ww_isub 52 X dX13_json_52 ?_
      obtain ⟨M53, e53, h⟩ := bO_some h
      refine ww_putI 53 X dX13_json_53 (fP_X13_449 _) e53 ?_
      refine ww_aload_n 56 X dX13_json_56 0 rfl rfl ?_
      refine ww_iconst 57 X (v := (1 : Int32)) dX13_json_57 (by decide) ?_
      obtain ⟨M58, e58, h⟩ := bO_some h
      refine ww_putZ 58 X dX13_json_58 (fP_X13_456 _) e58 ?_
      refine ww_aload_n 61 X dX13_json_61 0 rfl rfl ?_
      obtain ⟨v62, e62, h⟩ := bO_some h
      refine ww_getR 62 X dX13_json_62 fG_X13_54 e62 ?_
      refine ww_aload_n 65 X dX13_json_65 0 rfl rfl ?_
      obtain ⟨v66, e66, h⟩ := bO_some h
      refine ww_getI 66 X dX13_json_66 fG_X13_449 e66 ?_
      obtain ⟨v69, e69, h⟩ := bO_some h
      refine ww_iald 69 X dX13_json_69 e69 ?_
      exact ww_iretE 70 X hQ dX13_json_70 h
    · replace h := (if_pos q).symm.trans h
      refine ww_bipush 38 X (v := (-100 : Int32)) dX13_json_38 (by decide) ?_
      refine ww_aload_n 40 X dX13_json_40 0 rfl rfl ?_
      obtain ⟨v41, e41, h⟩ := bO_some h
      refine ww_getI 41 X dX13_json_41 fG_X13_348 e41 ?_
      refine ww_isub 44 X dX13_json_44 ?_
      exact ww_iretE 45 X hQ dX13_json_45 h
  · replace h := (if_pos q).symm.trans h
    refine ww_bipush 7 X (v := (-2 : Int32)) dX13_json_7 (by decide) ?_
    exact ww_iretE 9 X hQ dX13_json_9 h
theorem c_X13_json {G : mG} {F sz : Nat} {r0 : Int32} {M0 : mM} (l : Launch) (D : mD) (A : Nat → Prop) {l0 : Nat} {l1 : Int32} {M : mM} (h : P_X13_json G F l0 l1 M = some (r0, M0)) : mMetI l D G A yX13_json cX13_json 2 (some .int) 362 8556 0 0 [.ref l0, .int l1] M sz r0 M0 sz := mMetI_of l D G A (by decide) (Nat.le_of_ble_eq_true rfl) (fun x X hQ => wP_X13_json X hQ h)
/-! SealedTokensModel.isValue(I)Z -/
theorem dX13_isValue_0 : decode cX13_isValue 0 = .ok (.aload_n 0, 1) := by decide +kernel
theorem dX13_isValue_1 : decode cX13_isValue 1 = .ok (.getfield 456, 3) := by decide +kernel
theorem dX13_isValue_4 : decode cX13_isValue 4 = .ok (.ifCond .eq 24, 3) := by decide +kernel
theorem dX13_isValue_7 : decode cX13_isValue 7 = .ok (.iload_n 1, 1) := by decide +kernel
theorem dX13_isValue_8 : decode cX13_isValue 8 = .ok (.ifCond .lt 20, 3) := by decide +kernel
theorem dX13_isValue_11 : decode cX13_isValue 11 = .ok (.iload_n 1, 1) := by decide +kernel
theorem dX13_isValue_12 : decode cX13_isValue 12 = .ok (.aload_n 0, 1) := by decide +kernel
theorem dX13_isValue_13 : decode cX13_isValue 13 = .ok (.getfield 54, 3) := by decide +kernel
theorem dX13_isValue_16 : decode cX13_isValue 16 = .ok (.aload_n 0, 1) := by decide +kernel
theorem dX13_isValue_17 : decode cX13_isValue 17 = .ok (.getfield 449, 3) := by decide +kernel
theorem dX13_isValue_20 : decode cX13_isValue 20 = .ok (.iaload, 1) := by decide +kernel
theorem dX13_isValue_21 : decode cX13_isValue 21 = .ok (.if_icmp .ge 7, 3) := by decide +kernel
theorem dX13_isValue_24 : decode cX13_isValue 24 = .ok (.iconst 1, 1) := by decide +kernel
theorem dX13_isValue_25 : decode cX13_isValue 25 = .ok (.goto 4, 3) := by decide +kernel
theorem dX13_isValue_28 : decode cX13_isValue 28 = .ok (.iconst 0, 1) := by decide +kernel
theorem dX13_isValue_29 : decode cX13_isValue 29 = .ok (.ireturn, 1) := by decide +kernel
abbrev rmX13_isValue : Room := { frames := 0, cells := 0, slots := 0, locals := 0 }
set_option maxHeartbeats 4000000 in
set_option maxRecDepth 100000 in
theorem wP_X13_isValue {G : mG} {F : Nat} {x : mXT} {sz : Nat} {r0 : Int32} {M0 : mM} (X : mCX G RX13 cX13_isValue 2 (some .boolean) "isValue" rmX13_isValue x) (hQ : mQI x r0 M0 (sz, 0, 0)) {l0 : Nat} {l1 : Int32} {M : mM} (h : P_X13_isValue G F l0 l1 M = some (r0, M0)) : WW x (sz, 0, 0) M 0 [(0, .ref l0), (1, .int l1)] [] := by
  unfold P_X13_isValue at h
  refine ww_aload_n 0 X dX13_isValue_0 0 rfl rfl ?_
  obtain ⟨v1, e1, h⟩ := bO_some h
  refine ww_getI 1 X dX13_isValue_1 fG_X13_456 e1 ?_
  refine ww_if_eq 4 28 X dX13_isValue_4 (by decide) (fun q => ?_) (fun q => ?_)
  · replace h := (if_pos q).symm.trans h
    refine ww_iconst 28 X (v := (0 : Int32)) dX13_isValue_28 (by decide) ?_
    exact ww_zretE 29 X hQ dX13_isValue_29 h
  · replace h := (if_neg q).symm.trans h
    refine ww_iload_n 7 X dX13_isValue_7 1 rfl rfl ?_
    refine ww_if_lt 8 28 X dX13_isValue_8 (by decide) (fun q => ?_) (fun q => ?_)
    · replace h := (if_pos q).symm.trans h
      refine ww_iconst 28 X (v := (0 : Int32)) dX13_isValue_28 (by decide) ?_
      exact ww_zretE 29 X hQ dX13_isValue_29 h
    · replace h := (if_neg q).symm.trans h
      refine ww_iload_n 11 X dX13_isValue_11 1 rfl rfl ?_
      refine ww_aload_n 12 X dX13_isValue_12 0 rfl rfl ?_
      obtain ⟨v13, e13, h⟩ := bO_some h
      refine ww_getR 13 X dX13_isValue_13 fG_X13_54 e13 ?_
      refine ww_aload_n 16 X dX13_isValue_16 0 rfl rfl ?_
      obtain ⟨v17, e17, h⟩ := bO_some h
      refine ww_getI 17 X dX13_isValue_17 fG_X13_449 e17 ?_
      obtain ⟨v20, e20, h⟩ := bO_some h
      refine ww_iald 20 X dX13_isValue_20 e20 ?_
      refine ww_icmp_ge 21 28 X dX13_isValue_21 (by decide) (fun q => ?_) (fun q => ?_)
      · replace h := (if_pos q).symm.trans h
        refine ww_iconst 28 X (v := (0 : Int32)) dX13_isValue_28 (by decide) ?_
        exact ww_zretE 29 X hQ dX13_isValue_29 h
      · replace h := (if_neg q).symm.trans h
        refine ww_iconst 24 X (v := (1 : Int32)) dX13_isValue_24 (by decide) ?_
        refine ww_goto 25 29 X dX13_isValue_25 (by decide) ?_
        exact ww_zretE 29 X hQ dX13_isValue_29 h
theorem c_X13_isValue {G : mG} {F sz : Nat} {r0 : Int32} {M0 : mM} (l : Launch) (D : mD) (A : Nat → Prop) {l0 : Nat} {l1 : Int32} {M : mM} (h : P_X13_isValue G F l0 l1 M = some (r0, M0)) : mMetI l D G A yX13_isValue cX13_isValue 2 (some .boolean) 0 0 0 0 [.ref l0, .int l1] M sz r0 M0 sz := mMetI_of l D G A (by decide) (Nat.le_of_ble_eq_true rfl) (fun x X hQ => wP_X13_isValue X hQ h)
/-! SealedTokensModel.value(II)I -/
theorem dX13_value_0 : decode cX13_value 0 = .ok (.aload_n 0, 1) := by decide +kernel
theorem dX13_value_1 : decode cX13_value 1 = .ok (.iload_n 1, 1) := by decide +kernel
theorem dX13_value_2 : decode cX13_value 2 = .ok (.invokevirtual 460, 3) := by decide +kernel
theorem dX13_value_5 : decode cX13_value 5 = .ok (.ifCond .eq 12, 3) := by decide +kernel
theorem dX13_value_8 : decode cX13_value 8 = .ok (.iload_n 2, 1) := by decide +kernel
theorem dX13_value_9 : decode cX13_value 9 = .ok (.ifCond .lt 8, 3) := by decide +kernel
theorem dX13_value_12 : decode cX13_value 12 = .ok (.iload_n 2, 1) := by decide +kernel
theorem dX13_value_13 : decode cX13_value 13 = .ok (.iconst 4, 1) := by decide +kernel
theorem dX13_value_14 : decode cX13_value 14 = .ok (.if_icmp .le 6, 3) := by decide +kernel
theorem dX13_value_17 : decode cX13_value 17 = .ok (.bipush (-2), 2) := by decide +kernel
theorem dX13_value_19 : decode cX13_value 19 = .ok (.ireturn, 1) := by decide +kernel
theorem dX13_value_20 : decode cX13_value 20 = .ok (.sipush 600, 3) := by decide +kernel
theorem dX13_value_23 : decode cX13_value 23 = .ok (.aload_n 0, 1) := by decide +kernel
theorem dX13_value_24 : decode cX13_value 24 = .ok (.getfield 449, 3) := by decide +kernel
theorem dX13_value_27 : decode cX13_value 27 = .ok (.imul, 1) := by decide +kernel
theorem dX13_value_28 : decode cX13_value 28 = .ok (.iload_n 1, 1) := by decide +kernel
theorem dX13_value_29 : decode cX13_value 29 = .ok (.iadd, 1) := by decide +kernel
theorem dX13_value_30 : decode cX13_value 30 = .ok (.istore_n 3, 1) := by decide +kernel
theorem dX13_value_31 : decode cX13_value 31 = .ok (.iload_n 2, 1) := by decide +kernel
theorem dX13_value_32 : decode cX13_value 32 = .ok (.tableswitch 92 0 3 #[32, 39, 65, 72], 32) := by decide +kernel
theorem dX13_value_64 : decode cX13_value 64 = .ok (.aload_n 0, 1) := by decide +kernel
theorem dX13_value_65 : decode cX13_value 65 = .ok (.getfield 24, 3) := by decide +kernel
theorem dX13_value_68 : decode cX13_value 68 = .ok (.iload_n 3, 1) := by decide +kernel
theorem dX13_value_69 : decode cX13_value 69 = .ok (.iaload, 1) := by decide +kernel
theorem dX13_value_70 : decode cX13_value 70 = .ok (.ireturn, 1) := by decide +kernel
theorem dX13_value_71 : decode cX13_value 71 = .ok (.aload_n 0, 1) := by decide +kernel
theorem dX13_value_72 : decode cX13_value 72 = .ok (.getfield 24, 3) := by decide +kernel
theorem dX13_value_75 : decode cX13_value 75 = .ok (.iload_n 3, 1) := by decide +kernel
theorem dX13_value_76 : decode cX13_value 76 = .ok (.iaload, 1) := by decide +kernel
theorem dX13_value_77 : decode cX13_value 77 = .ok (.iconst 5, 1) := by decide +kernel
theorem dX13_value_78 : decode cX13_value 78 = .ok (.if_icmp .ge 12, 3) := by decide +kernel
theorem dX13_value_81 : decode cX13_value 81 = .ok (.aload_n 0, 1) := by decide +kernel
theorem dX13_value_82 : decode cX13_value 82 = .ok (.getfield 42, 3) := by decide +kernel
theorem dX13_value_85 : decode cX13_value 85 = .ok (.iload_n 3, 1) := by decide +kernel
theorem dX13_value_86 : decode cX13_value 86 = .ok (.iaload, 1) := by decide +kernel
theorem dX13_value_87 : decode cX13_value 87 = .ok (.goto 9, 3) := by decide +kernel
theorem dX13_value_90 : decode cX13_value 90 = .ok (.aload_n 0, 1) := by decide +kernel
theorem dX13_value_91 : decode cX13_value 91 = .ok (.getfield 36, 3) := by decide +kernel
theorem dX13_value_94 : decode cX13_value 94 = .ok (.iload_n 3, 1) := by decide +kernel
theorem dX13_value_95 : decode cX13_value 95 = .ok (.iaload, 1) := by decide +kernel
theorem dX13_value_96 : decode cX13_value 96 = .ok (.ireturn, 1) := by decide +kernel
theorem dX13_value_97 : decode cX13_value 97 = .ok (.aload_n 0, 1) := by decide +kernel
theorem dX13_value_98 : decode cX13_value 98 = .ok (.getfield 27, 3) := by decide +kernel
theorem dX13_value_101 : decode cX13_value 101 = .ok (.iload_n 3, 1) := by decide +kernel
theorem dX13_value_102 : decode cX13_value 102 = .ok (.iaload, 1) := by decide +kernel
theorem dX13_value_103 : decode cX13_value 103 = .ok (.ireturn, 1) := by decide +kernel
theorem dX13_value_104 : decode cX13_value 104 = .ok (.aload_n 0, 1) := by decide +kernel
theorem dX13_value_105 : decode cX13_value 105 = .ok (.getfield 27, 3) := by decide +kernel
theorem dX13_value_108 : decode cX13_value 108 = .ok (.iload_n 3, 1) := by decide +kernel
theorem dX13_value_109 : decode cX13_value 109 = .ok (.iaload, 1) := by decide +kernel
theorem dX13_value_110 : decode cX13_value 110 = .ok (.ifCond .ge 7, 3) := by decide +kernel
theorem dX13_value_113 : decode cX13_value 113 = .ok (.iconst 0, 1) := by decide +kernel
theorem dX13_value_114 : decode cX13_value 114 = .ok (.goto 9, 3) := by decide +kernel
theorem dX13_value_117 : decode cX13_value 117 = .ok (.aload_n 0, 1) := by decide +kernel
theorem dX13_value_118 : decode cX13_value 118 = .ok (.getfield 30, 3) := by decide +kernel
theorem dX13_value_121 : decode cX13_value 121 = .ok (.iload_n 3, 1) := by decide +kernel
theorem dX13_value_122 : decode cX13_value 122 = .ok (.iaload, 1) := by decide +kernel
theorem dX13_value_123 : decode cX13_value 123 = .ok (.ireturn, 1) := by decide +kernel
theorem dX13_value_124 : decode cX13_value 124 = .ok (.aload_n 0, 1) := by decide +kernel
theorem dX13_value_125 : decode cX13_value 125 = .ok (.getfield 33, 3) := by decide +kernel
theorem dX13_value_128 : decode cX13_value 128 = .ok (.iload_n 3, 1) := by decide +kernel
theorem dX13_value_129 : decode cX13_value 129 = .ok (.iaload, 1) := by decide +kernel
theorem dX13_value_130 : decode cX13_value 130 = .ok (.ireturn, 1) := by decide +kernel
abbrev rmX13_value : Room := { frames := 1, cells := 0, slots := 0, locals := 21 }
set_option maxHeartbeats 4000000 in
set_option maxRecDepth 100000 in
theorem wP_X13_value {G : mG} {F : Nat} {x : mXT} {sz : Nat} {r0 : Int32} {M0 : mM} (X : mCX G RX13 cX13_value 4 (some .int) "value" rmX13_value x) (hQ : mQI x r0 M0 (sz, 0, 0)) {l0 : Nat} {l1 : Int32} {l2 : Int32} {M : mM} (h : P_X13_value G F l0 l1 l2 M = some (r0, M0)) : WW x (sz, 0, 0) M 0 [(0, .ref l0), (1, .int l1), (2, .int l2)] [] := by
  unfold P_X13_value at h
  refine ww_aload_n 0 X dX13_value_0 0 rfl rfl ?_
  refine ww_iload_n 1 X dX13_value_1 1 rfl rfl ?_
  obtain ⟨_, f2, h⟩ := bO_some h
  obtain ⟨v2, M2, e2, h⟩ := bP_some h
  refine ww_callVI0 2 X dX13_value_2 mY_X13_isValue mL_X13_460 (rcv_spec f2) ⟨_, _, rfl⟩ (by decide) (As := [.int l1]) (rest := []) rfl rfl ⟨Nat.le_of_ble_eq_true rfl, Nat.le_of_ble_eq_true rfl⟩ (Nat.le_of_ble_eq_true rfl) (fun l D A => c_X13_isValue l D A e2) ?_
  refine ww_if_eq 5 17 X dX13_value_5 (by decide) (fun q => ?_) (fun q => ?_)
  · replace h := (if_pos q).symm.trans h
    refine ww_bipush 17 X (v := (-2 : Int32)) dX13_value_17 (by decide) ?_
    exact ww_iretE 19 X hQ dX13_value_19 h
  · replace h := (if_neg q).symm.trans h
    refine ww_iload_n 8 X dX13_value_8 2 rfl rfl ?_
    refine ww_if_lt 9 17 X dX13_value_9 (by decide) (fun q => ?_) (fun q => ?_)
    · replace h := (if_pos q).symm.trans h
      refine ww_bipush 17 X (v := (-2 : Int32)) dX13_value_17 (by decide) ?_
      exact ww_iretE 19 X hQ dX13_value_19 h
    · replace h := (if_neg q).symm.trans h
      refine ww_iload_n 12 X dX13_value_12 2 rfl rfl ?_
      refine ww_iconst 13 X (v := (4 : Int32)) dX13_value_13 (by decide) ?_
      refine ww_icmp_le 14 20 X dX13_value_14 (by decide) (fun q => ?_) (fun q => ?_)
      · replace h := (if_pos q).symm.trans h
        refine ww_sipush 20 X (v := (600 : Int32)) dX13_value_20 (by decide) ?_
        refine ww_aload_n 23 X dX13_value_23 0 rfl rfl ?_
        obtain ⟨v24, e24, h⟩ := bO_some h
        refine ww_getI 24 X dX13_value_24 fG_X13_449 e24 ?_
        refine ww_imul 27 X dX13_value_27 ?_
        refine ww_iload_n 28 X dX13_value_28 1 rfl rfl ?_
        refine ww_iadd 29 X dX13_value_29 ?_
        refine ww_istore_n 30 X dX13_value_30 (lv' := [(0, .ref l0), (1, .int l1), (2, .int l2), (3, .int (((600 : Int32) * v24) + l1))]) rfl (by decide) [1, 2, 3, 0] rfl ?_
        refine ww_iload_n 31 X dX13_value_31 2 rfl rfl ?_
        by_cases q0 : l2 = (0 : Int32)
        · replace h := (if_pos q0).symm.trans h
          refine ww_tableIn 32 64 X dX13_value_32 (off := 32) (by rw [q0]; decide) (by rw [q0]; decide) (by rw [q0]; decide) (by decide) ?_
          refine ww_aload_n 64 X dX13_value_64 0 rfl rfl ?_
          obtain ⟨v65, e65, h⟩ := bO_some h
          refine ww_getR 65 X dX13_value_65 fG_X13_24 e65 ?_
          refine ww_iload_n 68 X dX13_value_68 3 rfl rfl ?_
          obtain ⟨v69, e69, h⟩ := bO_some h
          refine ww_iald 69 X dX13_value_69 e69 ?_
          exact ww_iretE 70 X hQ dX13_value_70 h
        · replace h := (if_neg q0).symm.trans h
          by_cases q1 : l2 = (1 : Int32)
          · replace h := (if_pos q1).symm.trans h
            refine ww_tableIn 32 71 X dX13_value_32 (off := 39) (by rw [q1]; decide) (by rw [q1]; decide) (by rw [q1]; decide) (by decide) ?_
            refine ww_aload_n 71 X dX13_value_71 0 rfl rfl ?_
            obtain ⟨v72, e72, h⟩ := bO_some h
            refine ww_getR 72 X dX13_value_72 fG_X13_24 e72 ?_
            refine ww_iload_n 75 X dX13_value_75 3 rfl rfl ?_
            obtain ⟨v76, e76, h⟩ := bO_some h
            refine ww_iald 76 X dX13_value_76 e76 ?_
            refine ww_iconst 77 X (v := (5 : Int32)) dX13_value_77 (by decide) ?_
            refine ww_icmp_ge 78 90 X dX13_value_78 (by decide) (fun q => ?_) (fun q => ?_)
            · replace h := (if_pos q).symm.trans h
              refine ww_aload_n 90 X dX13_value_90 0 rfl rfl ?_
              obtain ⟨v91, e91, h⟩ := bO_some h
              refine ww_getR 91 X dX13_value_91 fG_X13_36 e91 ?_
              refine ww_iload_n 94 X dX13_value_94 3 rfl rfl ?_
              obtain ⟨v95, e95, h⟩ := bO_some h
              refine ww_iald 95 X dX13_value_95 e95 ?_
              exact ww_iretE 96 X hQ dX13_value_96 h
            · replace h := (if_neg q).symm.trans h
              refine ww_aload_n 81 X dX13_value_81 0 rfl rfl ?_
              obtain ⟨v82, e82, h⟩ := bO_some h
              refine ww_getR 82 X dX13_value_82 fG_X13_42 e82 ?_
              refine ww_iload_n 85 X dX13_value_85 3 rfl rfl ?_
              obtain ⟨v86, e86, h⟩ := bO_some h
              refine ww_iald 86 X dX13_value_86 e86 ?_
              refine ww_goto 87 96 X dX13_value_87 (by decide) ?_
              exact ww_iretE 96 X hQ dX13_value_96 h
          · replace h := (if_neg q1).symm.trans h
            by_cases q2 : l2 = (2 : Int32)
            · replace h := (if_pos q2).symm.trans h
              refine ww_tableIn 32 97 X dX13_value_32 (off := 65) (by rw [q2]; decide) (by rw [q2]; decide) (by rw [q2]; decide) (by decide) ?_
              refine ww_aload_n 97 X dX13_value_97 0 rfl rfl ?_
              obtain ⟨v98, e98, h⟩ := bO_some h
              refine ww_getR 98 X dX13_value_98 fG_X13_27 e98 ?_
              refine ww_iload_n 101 X dX13_value_101 3 rfl rfl ?_
              obtain ⟨v102, e102, h⟩ := bO_some h
              refine ww_iald 102 X dX13_value_102 e102 ?_
              exact ww_iretE 103 X hQ dX13_value_103 h
            · replace h := (if_neg q2).symm.trans h
              by_cases q3 : l2 = (3 : Int32)
              · replace h := (if_pos q3).symm.trans h
                refine ww_tableIn 32 104 X dX13_value_32 (off := 72) (by rw [q3]; decide) (by rw [q3]; decide) (by rw [q3]; decide) (by decide) ?_
                refine ww_aload_n 104 X dX13_value_104 0 rfl rfl ?_
                obtain ⟨v105, e105, h⟩ := bO_some h
                refine ww_getR 105 X dX13_value_105 fG_X13_27 e105 ?_
                refine ww_iload_n 108 X dX13_value_108 3 rfl rfl ?_
                obtain ⟨v109, e109, h⟩ := bO_some h
                refine ww_iald 109 X dX13_value_109 e109 ?_
                refine ww_if_ge 110 117 X dX13_value_110 (by decide) (fun q => ?_) (fun q => ?_)
                · replace h := (if_pos q).symm.trans h
                  refine ww_aload_n 117 X dX13_value_117 0 rfl rfl ?_
                  obtain ⟨v118, e118, h⟩ := bO_some h
                  refine ww_getR 118 X dX13_value_118 fG_X13_30 e118 ?_
                  refine ww_iload_n 121 X dX13_value_121 3 rfl rfl ?_
                  obtain ⟨v122, e122, h⟩ := bO_some h
                  refine ww_iald 122 X dX13_value_122 e122 ?_
                  exact ww_iretE 123 X hQ dX13_value_123 h
                · replace h := (if_neg q).symm.trans h
                  refine ww_iconst 113 X (v := (0 : Int32)) dX13_value_113 (by decide) ?_
                  refine ww_goto 114 123 X dX13_value_114 (by decide) ?_
                  exact ww_iretE 123 X hQ dX13_value_123 h
              · replace h := (if_neg q3).symm.trans h
                have z0 := lv_neT q0 (show (0 : Int32).toInt = 0 by decide)
                have z1 := lv_neT q1 (show (1 : Int32).toInt = 1 by decide)
                have z2 := lv_neT q2 (show (2 : Int32).toInt = 2 by decide)
                have z3 := lv_neT q3 (show (3 : Int32).toInt = 3 by decide)
                refine ww_tableOut 32 124 X dX13_value_32 (by omega) (by decide) ?_
                refine ww_aload_n 124 X dX13_value_124 0 rfl rfl ?_
                obtain ⟨v125, e125, h⟩ := bO_some h
                refine ww_getR 125 X dX13_value_125 fG_X13_33 e125 ?_
                refine ww_iload_n 128 X dX13_value_128 3 rfl rfl ?_
                obtain ⟨v129, e129, h⟩ := bO_some h
                refine ww_iald 129 X dX13_value_129 e129 ?_
                exact ww_iretE 130 X hQ dX13_value_130 h
      · replace h := (if_neg q).symm.trans h
        refine ww_bipush 17 X (v := (-2 : Int32)) dX13_value_17 (by decide) ?_
        exact ww_iretE 19 X hQ dX13_value_19 h
theorem c_X13_value {G : mG} {F sz : Nat} {r0 : Int32} {M0 : mM} (l : Launch) (D : mD) (A : Nat → Prop) {l0 : Nat} {l1 : Int32} {l2 : Int32} {M : mM} (h : P_X13_value G F l0 l1 l2 M = some (r0, M0)) : mMetI l D G A yX13_value cX13_value 4 (some .int) 1 21 0 0 [.ref l0, .int l1, .int l2] M sz r0 M0 sz := mMetI_of l D G A (by decide) (Nat.le_of_ble_eq_true rfl) (fun x X hQ => wP_X13_value X hQ h)
/-! SealedTokensModel.text(I)I -/
theorem dX13_text_0 : decode cX13_text 0 = .ok (.sipush 600, 3) := by decide +kernel
theorem dX13_text_3 : decode cX13_text 3 = .ok (.aload_n 0, 1) := by decide +kernel
theorem dX13_text_4 : decode cX13_text 4 = .ok (.getfield 449, 3) := by decide +kernel
theorem dX13_text_7 : decode cX13_text 7 = .ok (.imul, 1) := by decide +kernel
theorem dX13_text_8 : decode cX13_text 8 = .ok (.iload_n 1, 1) := by decide +kernel
theorem dX13_text_9 : decode cX13_text 9 = .ok (.iadd, 1) := by decide +kernel
theorem dX13_text_10 : decode cX13_text 10 = .ok (.istore_n 2, 1) := by decide +kernel
theorem dX13_text_11 : decode cX13_text 11 = .ok (.aload_n 0, 1) := by decide +kernel
theorem dX13_text_12 : decode cX13_text 12 = .ok (.iload_n 1, 1) := by decide +kernel
theorem dX13_text_13 : decode cX13_text 13 = .ok (.invokevirtual 460, 3) := by decide +kernel
theorem dX13_text_16 : decode cX13_text 16 = .ok (.ifCond .eq 46, 3) := by decide +kernel
theorem dX13_text_19 : decode cX13_text 19 = .ok (.aload_n 0, 1) := by decide +kernel
theorem dX13_text_20 : decode cX13_text 20 = .ok (.getfield 24, 3) := by decide +kernel
theorem dX13_text_23 : decode cX13_text 23 = .ok (.iload_n 2, 1) := by decide +kernel
theorem dX13_text_24 : decode cX13_text 24 = .ok (.iaload, 1) := by decide +kernel
theorem dX13_text_25 : decode cX13_text 25 = .ok (.iconst 3, 1) := by decide +kernel
theorem dX13_text_26 : decode cX13_text 26 = .ok (.if_icmp .eq 13, 3) := by decide +kernel
theorem dX13_text_29 : decode cX13_text 29 = .ok (.aload_n 0, 1) := by decide +kernel
theorem dX13_text_30 : decode cX13_text 30 = .ok (.getfield 24, 3) := by decide +kernel
theorem dX13_text_33 : decode cX13_text 33 = .ok (.iload_n 2, 1) := by decide +kernel
theorem dX13_text_34 : decode cX13_text 34 = .ok (.iaload, 1) := by decide +kernel
theorem dX13_text_35 : decode cX13_text 35 = .ok (.iconst 4, 1) := by decide +kernel
theorem dX13_text_36 : decode cX13_text 36 = .ok (.if_icmp .ne 26, 3) := by decide +kernel
theorem dX13_text_39 : decode cX13_text 39 = .ok (.aload_n 0, 1) := by decide +kernel
theorem dX13_text_40 : decode cX13_text 40 = .ok (.aload_n 0, 1) := by decide +kernel
theorem dX13_text_41 : decode cX13_text 41 = .ok (.getfield 51, 3) := by decide +kernel
theorem dX13_text_44 : decode cX13_text 44 = .ok (.aload_n 0, 1) := by decide +kernel
theorem dX13_text_45 : decode cX13_text 45 = .ok (.getfield 39, 3) := by decide +kernel
theorem dX13_text_48 : decode cX13_text 48 = .ok (.iload_n 2, 1) := by decide +kernel
theorem dX13_text_49 : decode cX13_text 49 = .ok (.iaload, 1) := by decide +kernel
theorem dX13_text_50 : decode cX13_text 50 = .ok (.aload_n 0, 1) := by decide +kernel
theorem dX13_text_51 : decode cX13_text 51 = .ok (.getfield 42, 3) := by decide +kernel
theorem dX13_text_54 : decode cX13_text 54 = .ok (.iload_n 2, 1) := by decide +kernel
theorem dX13_text_55 : decode cX13_text 55 = .ok (.iaload, 1) := by decide +kernel
theorem dX13_text_56 : decode cX13_text 56 = .ok (.invokevirtual 463, 3) := by decide +kernel
theorem dX13_text_59 : decode cX13_text 59 = .ok (.goto 5, 3) := by decide +kernel
theorem dX13_text_62 : decode cX13_text 62 = .ok (.bipush (-2), 2) := by decide +kernel
theorem dX13_text_64 : decode cX13_text 64 = .ok (.ireturn, 1) := by decide +kernel
abbrev rmX13_text : Room := { frames := 2, cells := 0, slots := 0, locals := 48 }
set_option maxHeartbeats 4000000 in
set_option maxRecDepth 100000 in
theorem wB_X13_text_39 {G : mG} {F : Nat} {x : mXT} {sz : Nat} {r0 : Int32} {M0 : mM} (X : mCX G RX13 cX13_text 3 (some .int) "text" rmX13_text x) (hQ : mQI x r0 M0 (sz, 0, 0)) {l0 : Nat} {l2 : Int32} {M : mM} (h : B_X13_text_39 G F l0 l2 M = some (r0, M0)) : WW x (sz, 0, 0) M 39 [(0, .ref l0), (2, .int l2)] [] := by
  unfold B_X13_text_39 at h
  refine ww_aload_n 39 X dX13_text_39 0 rfl rfl ?_
  refine ww_aload_n 40 X dX13_text_40 0 rfl rfl ?_
  obtain ⟨v41, e41, h⟩ := bO_some h
  refine ww_getR 41 X dX13_text_41 fG_X13_51 e41 ?_
  refine ww_aload_n 44 X dX13_text_44 0 rfl rfl ?_
  obtain ⟨v45, e45, h⟩ := bO_some h
  refine ww_getR 45 X dX13_text_45 fG_X13_39 e45 ?_
  refine ww_iload_n 48 X dX13_text_48 1 rfl rfl ?_
  obtain ⟨v49, e49, h⟩ := bO_some h
  refine ww_iald 49 X dX13_text_49 e49 ?_
  refine ww_aload_n 50 X dX13_text_50 0 rfl rfl ?_
  obtain ⟨v51, e51, h⟩ := bO_some h
  refine ww_getR 51 X dX13_text_51 fG_X13_42 e51 ?_
  refine ww_iload_n 54 X dX13_text_54 1 rfl rfl ?_
  obtain ⟨v55, e55, h⟩ := bO_some h
  refine ww_iald 55 X dX13_text_55 e55 ?_
  obtain ⟨_, f56, h⟩ := bO_some h
  obtain ⟨v56, M56, e56, h⟩ := bP_some h
  refine ww_callVI0 56 X dX13_text_56 mY_X13_tell mL_X13_463 (rcv_spec f56) ⟨_, _, rfl⟩ (by decide) (As := [.ref v41, .int v49, .int v55]) (rest := []) rfl rfl ⟨Nat.le_of_ble_eq_true rfl, Nat.le_of_ble_eq_true rfl⟩ (Nat.le_of_ble_eq_true rfl) (fun l D A => c_X13_tell l D A e56) ?_
  refine ww_goto 59 64 X dX13_text_59 (by decide) ?_
  exact ww_iretE 64 X hQ dX13_text_64 h
set_option maxHeartbeats 4000000 in
set_option maxRecDepth 100000 in
theorem wP_X13_text {G : mG} {F : Nat} {x : mXT} {sz : Nat} {r0 : Int32} {M0 : mM} (X : mCX G RX13 cX13_text 3 (some .int) "text" rmX13_text x) (hQ : mQI x r0 M0 (sz, 0, 0)) {l0 : Nat} {l1 : Int32} {M : mM} (h : P_X13_text G F l0 l1 M = some (r0, M0)) : WW x (sz, 0, 0) M 0 [(0, .ref l0), (1, .int l1)] [] := by
  unfold P_X13_text at h
  refine ww_sipush 0 X (v := (600 : Int32)) dX13_text_0 (by decide) ?_
  refine ww_aload_n 3 X dX13_text_3 0 rfl rfl ?_
  obtain ⟨v4, e4, h⟩ := bO_some h
  refine ww_getI 4 X dX13_text_4 fG_X13_449 e4 ?_
  refine ww_imul 7 X dX13_text_7 ?_
  refine ww_iload_n 8 X dX13_text_8 1 rfl rfl ?_
  refine ww_iadd 9 X dX13_text_9 ?_
  refine ww_istore_n 10 X dX13_text_10 (lv' := [(0, .ref l0), (1, .int l1), (2, .int (((600 : Int32) * v4) + l1))]) rfl (by decide) [1, 2, 0] rfl ?_
  refine ww_aload_n 11 X dX13_text_11 0 rfl rfl ?_
  refine ww_iload_n 12 X dX13_text_12 1 rfl rfl ?_
  obtain ⟨_, f13, h⟩ := bO_some h
  obtain ⟨v13, M13, e13, h⟩ := bP_some h
  refine ww_callVI0 13 X dX13_text_13 mY_X13_isValue mL_X13_460 (rcv_spec f13) ⟨_, _, rfl⟩ (by decide) (As := [.int l1]) (rest := []) rfl rfl ⟨Nat.le_of_ble_eq_true rfl, Nat.le_of_ble_eq_true rfl⟩ (Nat.le_of_ble_eq_true rfl) (fun l D A => c_X13_isValue l D A e13) ?_
  refine ww_if_eq 16 62 X dX13_text_16 (by decide) (fun q => ?_) (fun q => ?_)
  · replace h := (if_pos q).symm.trans h
    refine ww_bipush 62 X (v := (-2 : Int32)) dX13_text_62 (by decide) ?_
    exact ww_iretE 64 X hQ dX13_text_64 h
  · replace h := (if_neg q).symm.trans h
    refine ww_aload_n 19 X dX13_text_19 0 rfl rfl ?_
    obtain ⟨v20, e20, h⟩ := bO_some h
    refine ww_getR 20 X dX13_text_20 fG_X13_24 e20 ?_
    refine ww_iload_n 23 X dX13_text_23 2 rfl rfl ?_
    obtain ⟨v24, e24, h⟩ := bO_some h
    refine ww_iald 24 X dX13_text_24 e24 ?_
    refine ww_iconst 25 X (v := (3 : Int32)) dX13_text_25 (by decide) ?_
    refine ww_icmp_eq 26 39 X dX13_text_26 (by decide) (fun q => ?_) (fun q => ?_)
    · replace h := (if_pos q).symm.trans h
      exact ww_sub [0, 2] rfl (wB_X13_text_39 X hQ h)
    · replace h := (if_neg q).symm.trans h
      refine ww_aload_n 29 X dX13_text_29 0 rfl rfl ?_
      obtain ⟨v30, e30, h⟩ := bO_some h
      refine ww_getR 30 X dX13_text_30 fG_X13_24 e30 ?_
      refine ww_iload_n 33 X dX13_text_33 2 rfl rfl ?_
      obtain ⟨v34, e34, h⟩ := bO_some h
      refine ww_iald 34 X dX13_text_34 e34 ?_
      refine ww_iconst 35 X (v := (4 : Int32)) dX13_text_35 (by decide) ?_
      refine ww_icmp_ne 36 62 X dX13_text_36 (by decide) (fun q => ?_) (fun q => ?_)
      · replace h := (if_neg q).symm.trans h
        refine ww_bipush 62 X (v := (-2 : Int32)) dX13_text_62 (by decide) ?_
        exact ww_iretE 64 X hQ dX13_text_64 h
      · replace h := (if_pos q).symm.trans h
        exact ww_sub [0, 2] rfl (wB_X13_text_39 X hQ h)
theorem c_X13_text {G : mG} {F sz : Nat} {r0 : Int32} {M0 : mM} (l : Launch) (D : mD) (A : Nat → Prop) {l0 : Nat} {l1 : Int32} {M : mM} (h : P_X13_text G F l0 l1 M = some (r0, M0)) : mMetI l D G A yX13_text cX13_text 3 (some .int) 2 48 0 0 [.ref l0, .int l1] M sz r0 M0 sz := mMetI_of l D G A (by decide) (Nat.le_of_ble_eq_true rfl) (fun x X hQ => wP_X13_text X hQ h)
/-! SealedTokensModel.name(I)I -/
theorem dX13_name_0 : decode cX13_name 0 = .ok (.sipush 600, 3) := by decide +kernel
theorem dX13_name_3 : decode cX13_name 3 = .ok (.aload_n 0, 1) := by decide +kernel
theorem dX13_name_4 : decode cX13_name 4 = .ok (.getfield 449, 3) := by decide +kernel
theorem dX13_name_7 : decode cX13_name 7 = .ok (.imul, 1) := by decide +kernel
theorem dX13_name_8 : decode cX13_name 8 = .ok (.iload_n 1, 1) := by decide +kernel
theorem dX13_name_9 : decode cX13_name 9 = .ok (.iadd, 1) := by decide +kernel
theorem dX13_name_10 : decode cX13_name 10 = .ok (.istore_n 2, 1) := by decide +kernel
theorem dX13_name_11 : decode cX13_name 11 = .ok (.aload_n 0, 1) := by decide +kernel
theorem dX13_name_12 : decode cX13_name 12 = .ok (.iload_n 1, 1) := by decide +kernel
theorem dX13_name_13 : decode cX13_name 13 = .ok (.invokevirtual 460, 3) := by decide +kernel
theorem dX13_name_16 : decode cX13_name 16 = .ok (.ifCond .eq 35, 3) := by decide +kernel
theorem dX13_name_19 : decode cX13_name 19 = .ok (.aload_n 0, 1) := by decide +kernel
theorem dX13_name_20 : decode cX13_name 20 = .ok (.getfield 48, 3) := by decide +kernel
theorem dX13_name_23 : decode cX13_name 23 = .ok (.iload_n 2, 1) := by decide +kernel
theorem dX13_name_24 : decode cX13_name 24 = .ok (.iaload, 1) := by decide +kernel
theorem dX13_name_25 : decode cX13_name 25 = .ok (.ifCond .lt 26, 3) := by decide +kernel
theorem dX13_name_28 : decode cX13_name 28 = .ok (.aload_n 0, 1) := by decide +kernel
theorem dX13_name_29 : decode cX13_name 29 = .ok (.aload_n 0, 1) := by decide +kernel
theorem dX13_name_30 : decode cX13_name 30 = .ok (.getfield 51, 3) := by decide +kernel
theorem dX13_name_33 : decode cX13_name 33 = .ok (.aload_n 0, 1) := by decide +kernel
theorem dX13_name_34 : decode cX13_name 34 = .ok (.getfield 45, 3) := by decide +kernel
theorem dX13_name_37 : decode cX13_name 37 = .ok (.iload_n 2, 1) := by decide +kernel
theorem dX13_name_38 : decode cX13_name 38 = .ok (.iaload, 1) := by decide +kernel
theorem dX13_name_39 : decode cX13_name 39 = .ok (.aload_n 0, 1) := by decide +kernel
theorem dX13_name_40 : decode cX13_name 40 = .ok (.getfield 48, 3) := by decide +kernel
theorem dX13_name_43 : decode cX13_name 43 = .ok (.iload_n 2, 1) := by decide +kernel
theorem dX13_name_44 : decode cX13_name 44 = .ok (.iaload, 1) := by decide +kernel
theorem dX13_name_45 : decode cX13_name 45 = .ok (.invokevirtual 463, 3) := by decide +kernel
theorem dX13_name_48 : decode cX13_name 48 = .ok (.goto 5, 3) := by decide +kernel
theorem dX13_name_51 : decode cX13_name 51 = .ok (.bipush (-2), 2) := by decide +kernel
theorem dX13_name_53 : decode cX13_name 53 = .ok (.ireturn, 1) := by decide +kernel
abbrev rmX13_name : Room := { frames := 2, cells := 0, slots := 0, locals := 48 }
set_option maxHeartbeats 4000000 in
set_option maxRecDepth 100000 in
theorem wP_X13_name {G : mG} {F : Nat} {x : mXT} {sz : Nat} {r0 : Int32} {M0 : mM} (X : mCX G RX13 cX13_name 3 (some .int) "name" rmX13_name x) (hQ : mQI x r0 M0 (sz, 0, 0)) {l0 : Nat} {l1 : Int32} {M : mM} (h : P_X13_name G F l0 l1 M = some (r0, M0)) : WW x (sz, 0, 0) M 0 [(0, .ref l0), (1, .int l1)] [] := by
  unfold P_X13_name at h
  refine ww_sipush 0 X (v := (600 : Int32)) dX13_name_0 (by decide) ?_
  refine ww_aload_n 3 X dX13_name_3 0 rfl rfl ?_
  obtain ⟨v4, e4, h⟩ := bO_some h
  refine ww_getI 4 X dX13_name_4 fG_X13_449 e4 ?_
  refine ww_imul 7 X dX13_name_7 ?_
  refine ww_iload_n 8 X dX13_name_8 1 rfl rfl ?_
  refine ww_iadd 9 X dX13_name_9 ?_
  refine ww_istore_n 10 X dX13_name_10 (lv' := [(0, .ref l0), (1, .int l1), (2, .int (((600 : Int32) * v4) + l1))]) rfl (by decide) [1, 2, 0] rfl ?_
  refine ww_aload_n 11 X dX13_name_11 0 rfl rfl ?_
  refine ww_iload_n 12 X dX13_name_12 1 rfl rfl ?_
  obtain ⟨_, f13, h⟩ := bO_some h
  obtain ⟨v13, M13, e13, h⟩ := bP_some h
  refine ww_callVI0 13 X dX13_name_13 mY_X13_isValue mL_X13_460 (rcv_spec f13) ⟨_, _, rfl⟩ (by decide) (As := [.int l1]) (rest := []) rfl rfl ⟨Nat.le_of_ble_eq_true rfl, Nat.le_of_ble_eq_true rfl⟩ (Nat.le_of_ble_eq_true rfl) (fun l D A => c_X13_isValue l D A e13) ?_
  refine ww_if_eq 16 51 X dX13_name_16 (by decide) (fun q => ?_) (fun q => ?_)
  · replace h := (if_pos q).symm.trans h
    refine ww_bipush 51 X (v := (-2 : Int32)) dX13_name_51 (by decide) ?_
    exact ww_iretE 53 X hQ dX13_name_53 h
  · replace h := (if_neg q).symm.trans h
    refine ww_aload_n 19 X dX13_name_19 0 rfl rfl ?_
    obtain ⟨v20, e20, h⟩ := bO_some h
    refine ww_getR 20 X dX13_name_20 fG_X13_48 e20 ?_
    refine ww_iload_n 23 X dX13_name_23 2 rfl rfl ?_
    obtain ⟨v24, e24, h⟩ := bO_some h
    refine ww_iald 24 X dX13_name_24 e24 ?_
    refine ww_if_lt 25 51 X dX13_name_25 (by decide) (fun q => ?_) (fun q => ?_)
    · replace h := (if_pos q).symm.trans h
      refine ww_bipush 51 X (v := (-2 : Int32)) dX13_name_51 (by decide) ?_
      exact ww_iretE 53 X hQ dX13_name_53 h
    · replace h := (if_neg q).symm.trans h
      refine ww_aload_n 28 X dX13_name_28 0 rfl rfl ?_
      refine ww_aload_n 29 X dX13_name_29 0 rfl rfl ?_
      obtain ⟨v30, e30, h⟩ := bO_some h
      refine ww_getR 30 X dX13_name_30 fG_X13_51 e30 ?_
      refine ww_aload_n 33 X dX13_name_33 0 rfl rfl ?_
      obtain ⟨v34, e34, h⟩ := bO_some h
      refine ww_getR 34 X dX13_name_34 fG_X13_45 e34 ?_
      refine ww_iload_n 37 X dX13_name_37 2 rfl rfl ?_
      obtain ⟨v38, e38, h⟩ := bO_some h
      refine ww_iald 38 X dX13_name_38 e38 ?_
      refine ww_aload_n 39 X dX13_name_39 0 rfl rfl ?_
      obtain ⟨v40, e40, h⟩ := bO_some h
      refine ww_getR 40 X dX13_name_40 fG_X13_48 e40 ?_
      refine ww_iload_n 43 X dX13_name_43 2 rfl rfl ?_
      obtain ⟨v44, e44, h⟩ := bO_some h
      refine ww_iald 44 X dX13_name_44 e44 ?_
      obtain ⟨_, f45, h⟩ := bO_some h
      obtain ⟨v45, M45, e45, h⟩ := bP_some h
      refine ww_callVI0 45 X dX13_name_45 mY_X13_tell mL_X13_463 (rcv_spec f45) ⟨_, _, rfl⟩ (by decide) (As := [.ref v30, .int v38, .int v44]) (rest := []) rfl rfl ⟨Nat.le_of_ble_eq_true rfl, Nat.le_of_ble_eq_true rfl⟩ (Nat.le_of_ble_eq_true rfl) (fun l D A => c_X13_tell l D A e45) ?_
      refine ww_goto 48 53 X dX13_name_48 (by decide) ?_
      exact ww_iretE 53 X hQ dX13_name_53 h
theorem c_X13_name {G : mG} {F sz : Nat} {r0 : Int32} {M0 : mM} (l : Launch) (D : mD) (A : Nat → Prop) {l0 : Nat} {l1 : Int32} {M : mM} (h : P_X13_name G F l0 l1 M = some (r0, M0)) : mMetI l D G A yX13_name cX13_name 3 (some .int) 2 48 0 0 [.ref l0, .int l1] M sz r0 M0 sz := mMetI_of l D G A (by decide) (Nat.le_of_ble_eq_true rfl) (fun x X hQ => wP_X13_name X hQ h)
/-! SealedTokensModel.member(II)I -/
theorem dX13_member_0 : decode cX13_member 0 = .ok (.aload_n 0, 1) := by decide +kernel
theorem dX13_member_1 : decode cX13_member 1 = .ok (.iload_n 1, 1) := by decide +kernel
theorem dX13_member_2 : decode cX13_member 2 = .ok (.invokevirtual 460, 3) := by decide +kernel
theorem dX13_member_5 : decode cX13_member 5 = .ok (.ifCond .eq 30, 3) := by decide +kernel
theorem dX13_member_8 : decode cX13_member 8 = .ok (.aload_n 0, 1) := by decide +kernel
theorem dX13_member_9 : decode cX13_member 9 = .ok (.getfield 24, 3) := by decide +kernel
theorem dX13_member_12 : decode cX13_member 12 = .ok (.sipush 600, 3) := by decide +kernel
theorem dX13_member_15 : decode cX13_member 15 = .ok (.aload_n 0, 1) := by decide +kernel
theorem dX13_member_16 : decode cX13_member 16 = .ok (.getfield 449, 3) := by decide +kernel
theorem dX13_member_19 : decode cX13_member 19 = .ok (.imul, 1) := by decide +kernel
theorem dX13_member_20 : decode cX13_member 20 = .ok (.iload_n 1, 1) := by decide +kernel
theorem dX13_member_21 : decode cX13_member 21 = .ok (.iadd, 1) := by decide +kernel
theorem dX13_member_22 : decode cX13_member 22 = .ok (.iaload, 1) := by decide +kernel
theorem dX13_member_23 : decode cX13_member 23 = .ok (.bipush 6, 2) := by decide +kernel
theorem dX13_member_25 : decode cX13_member 25 = .ok (.if_icmp .ne 10, 3) := by decide +kernel
theorem dX13_member_28 : decode cX13_member 28 = .ok (.iload_n 2, 1) := by decide +kernel
theorem dX13_member_29 : decode cX13_member 29 = .ok (.invokestatic 332, 3) := by decide +kernel
theorem dX13_member_32 : decode cX13_member 32 = .ok (.ifCond .ne 6, 3) := by decide +kernel
theorem dX13_member_35 : decode cX13_member 35 = .ok (.bipush (-2), 2) := by decide +kernel
theorem dX13_member_37 : decode cX13_member 37 = .ok (.ireturn, 1) := by decide +kernel
theorem dX13_member_38 : decode cX13_member 38 = .ok (.iload_n 1, 1) := by decide +kernel
theorem dX13_member_39 : decode cX13_member 39 = .ok (.iconst 1, 1) := by decide +kernel
theorem dX13_member_40 : decode cX13_member 40 = .ok (.iadd, 1) := by decide +kernel
theorem dX13_member_41 : decode cX13_member 41 = .ok (.istore_n 3, 1) := by decide +kernel
theorem dX13_member_42 : decode cX13_member 42 = .ok (.iload_n 3, 1) := by decide +kernel
theorem dX13_member_43 : decode cX13_member 43 = .ok (.aload_n 0, 1) := by decide +kernel
theorem dX13_member_44 : decode cX13_member 44 = .ok (.getfield 54, 3) := by decide +kernel
theorem dX13_member_47 : decode cX13_member 47 = .ok (.aload_n 0, 1) := by decide +kernel
theorem dX13_member_48 : decode cX13_member 48 = .ok (.getfield 449, 3) := by decide +kernel
theorem dX13_member_51 : decode cX13_member 51 = .ok (.iaload, 1) := by decide +kernel
theorem dX13_member_52 : decode cX13_member 52 = .ok (.if_icmp .ge 82, 3) := by decide +kernel
theorem dX13_member_55 : decode cX13_member 55 = .ok (.sipush 600, 3) := by decide +kernel
theorem dX13_member_58 : decode cX13_member 58 = .ok (.aload_n 0, 1) := by decide +kernel
theorem dX13_member_59 : decode cX13_member 59 = .ok (.getfield 449, 3) := by decide +kernel
theorem dX13_member_62 : decode cX13_member 62 = .ok (.imul, 1) := by decide +kernel
theorem dX13_member_63 : decode cX13_member 63 = .ok (.iload_n 3, 1) := by decide +kernel
theorem dX13_member_64 : decode cX13_member 64 = .ok (.iadd, 1) := by decide +kernel
theorem dX13_member_65 : decode cX13_member 65 = .ok (.istore 4, 2) := by decide +kernel
theorem dX13_member_67 : decode cX13_member 67 = .ok (.aload_n 0, 1) := by decide +kernel
theorem dX13_member_68 : decode cX13_member 68 = .ok (.getfield 27, 3) := by decide +kernel
theorem dX13_member_71 : decode cX13_member 71 = .ok (.iload 4, 2) := by decide +kernel
theorem dX13_member_73 : decode cX13_member 73 = .ok (.iaload, 1) := by decide +kernel
theorem dX13_member_74 : decode cX13_member 74 = .ok (.iload_n 1, 1) := by decide +kernel
theorem dX13_member_75 : decode cX13_member 75 = .ok (.if_icmp .ne 53, 3) := by decide +kernel
theorem dX13_member_78 : decode cX13_member 78 = .ok (.aload_n 0, 1) := by decide +kernel
theorem dX13_member_79 : decode cX13_member 79 = .ok (.getfield 48, 3) := by decide +kernel
theorem dX13_member_82 : decode cX13_member 82 = .ok (.iload 4, 2) := by decide +kernel
theorem dX13_member_84 : decode cX13_member 84 = .ok (.iaload, 1) := by decide +kernel
theorem dX13_member_85 : decode cX13_member 85 = .ok (.aload_n 0, 1) := by decide +kernel
theorem dX13_member_86 : decode cX13_member 86 = .ok (.getfield 17, 3) := by decide +kernel
theorem dX13_member_89 : decode cX13_member 89 = .ok (.iload_n 2, 1) := by decide +kernel
theorem dX13_member_90 : decode cX13_member 90 = .ok (.iaload, 1) := by decide +kernel
theorem dX13_member_91 : decode cX13_member 91 = .ok (.if_icmp .ne 37, 3) := by decide +kernel
theorem dX13_member_94 : decode cX13_member 94 = .ok (.aload_n 0, 1) := by decide +kernel
theorem dX13_member_95 : decode cX13_member 95 = .ok (.getfield 51, 3) := by decide +kernel
theorem dX13_member_98 : decode cX13_member 98 = .ok (.aload_n 0, 1) := by decide +kernel
theorem dX13_member_99 : decode cX13_member 99 = .ok (.getfield 45, 3) := by decide +kernel
theorem dX13_member_102 : decode cX13_member 102 = .ok (.iload 4, 2) := by decide +kernel
theorem dX13_member_104 : decode cX13_member 104 = .ok (.iaload, 1) := by decide +kernel
theorem dX13_member_105 : decode cX13_member 105 = .ok (.aload_n 0, 1) := by decide +kernel
theorem dX13_member_106 : decode cX13_member 106 = .ok (.getfield 14, 3) := by decide +kernel
theorem dX13_member_109 : decode cX13_member 109 = .ok (.sipush 8192, 3) := by decide +kernel
theorem dX13_member_112 : decode cX13_member 112 = .ok (.iload_n 2, 1) := by decide +kernel
theorem dX13_member_113 : decode cX13_member 113 = .ok (.imul, 1) := by decide +kernel
theorem dX13_member_114 : decode cX13_member 114 = .ok (.aload_n 0, 1) := by decide +kernel
theorem dX13_member_115 : decode cX13_member 115 = .ok (.getfield 17, 3) := by decide +kernel
theorem dX13_member_118 : decode cX13_member 118 = .ok (.iload_n 2, 1) := by decide +kernel
theorem dX13_member_119 : decode cX13_member 119 = .ok (.iaload, 1) := by decide +kernel
theorem dX13_member_120 : decode cX13_member 120 = .ok (.invokestatic 420, 3) := by decide +kernel
theorem dX13_member_123 : decode cX13_member 123 = .ok (.ifCond .eq 5, 3) := by decide +kernel
theorem dX13_member_126 : decode cX13_member 126 = .ok (.iload_n 3, 1) := by decide +kernel
theorem dX13_member_127 : decode cX13_member 127 = .ok (.ireturn, 1) := by decide +kernel
theorem dX13_member_128 : decode cX13_member 128 = .ok (.iinc 3 1, 3) := by decide +kernel
theorem dX13_member_131 : decode cX13_member 131 = .ok (.goto (-89), 3) := by decide +kernel
theorem dX13_member_134 : decode cX13_member 134 = .ok (.iconst (-1), 1) := by decide +kernel
theorem dX13_member_135 : decode cX13_member 135 = .ok (.ireturn, 1) := by decide +kernel
abbrev rmX13_member : Room := { frames := 1, cells := 0, slots := 0, locals := 26 }
set_option maxHeartbeats 4000000 in
set_option maxRecDepth 100000 in
theorem wB_X13_member_42 {G : mG} {F : Nat} {x : mXT} {sz : Nat} {r0 : Int32} {M0 : mM} (X : mCX G RX13 cX13_member 5 (some .int) "member" rmX13_member x) (hQ : mQI x r0 M0 (sz, 0, 0)) : ∀ (n : Nat) (l0 : Nat) (l1 : Int32) (l2 : Int32) (l3 : Int32) (M : mM), B_X13_member_42 G F n l0 l1 l2 l3 M = some (r0, M0) → WW x (sz, 0, 0) M 42 [(0, .ref l0), (1, .int l1), (2, .int l2), (3, .int l3)] [] := by
  intro n
  induction n with
  | zero =>
    intro l0 l1 l2 l3 M h
    exact nomatch (show (none : Option (Int32 × mM)) = some (r0, M0) from h)
  | succ n ih =>
    intro l0 l1 l2 l3 M h
    rw [B_X13_member_42] at h
    refine ww_iload_n 42 X dX13_member_42 3 rfl rfl ?_
    refine ww_aload_n 43 X dX13_member_43 0 rfl rfl ?_
    obtain ⟨v44, e44, h⟩ := bO_some h
    refine ww_getR 44 X dX13_member_44 fG_X13_54 e44 ?_
    refine ww_aload_n 47 X dX13_member_47 0 rfl rfl ?_
    obtain ⟨v48, e48, h⟩ := bO_some h
    refine ww_getI 48 X dX13_member_48 fG_X13_449 e48 ?_
    obtain ⟨v51, e51, h⟩ := bO_some h
    refine ww_iald 51 X dX13_member_51 e51 ?_
    refine ww_icmp_ge 52 134 X dX13_member_52 (by decide) (fun q => ?_) (fun q => ?_)
    · replace h := (if_pos q).symm.trans h
      refine ww_iconst 134 X (v := (-1 : Int32)) dX13_member_134 (by decide) ?_
      exact ww_iretE 135 X hQ dX13_member_135 h
    · replace h := (if_neg q).symm.trans h
      refine ww_sipush 55 X (v := (600 : Int32)) dX13_member_55 (by decide) ?_
      refine ww_aload_n 58 X dX13_member_58 0 rfl rfl ?_
      obtain ⟨v59, e59, h⟩ := bO_some h
      refine ww_getI 59 X dX13_member_59 fG_X13_449 e59 ?_
      refine ww_imul 62 X dX13_member_62 ?_
      refine ww_iload_n 63 X dX13_member_63 3 rfl rfl ?_
      refine ww_iadd 64 X dX13_member_64 ?_
      refine ww_istore 65 X dX13_member_65 (lv' := [(0, .ref l0), (1, .int l1), (2, .int l2), (3, .int l3), (4, .int (((600 : Int32) * v59) + l3))]) (by decide) [1, 2, 3, 4, 0] rfl ?_
      refine ww_aload_n 67 X dX13_member_67 0 rfl rfl ?_
      obtain ⟨v68, e68, h⟩ := bO_some h
      refine ww_getR 68 X dX13_member_68 fG_X13_27 e68 ?_
      refine ww_iload 71 X dX13_member_71 4 rfl ?_
      obtain ⟨v73, e73, h⟩ := bO_some h
      refine ww_iald 73 X dX13_member_73 e73 ?_
      refine ww_iload_n 74 X dX13_member_74 1 rfl rfl ?_
      refine ww_icmp_ne 75 128 X dX13_member_75 (by decide) (fun q => ?_) (fun q => ?_)
      · replace h := (if_neg q).symm.trans h
        refine ww_iinc 128 X dX13_member_128 (lv' := [(0, .ref l0), (1, .int l1), (2, .int l2), (3, .int (l3 + 1)), (4, .int (((600 : Int32) * v59) + l3))]) 3 rfl rfl (by decide) [1, 2, 3, 0, 4] rfl ?_
        refine ww_goto 131 42 X dX13_member_131 (by decide) ?_
        exact ww_sub [0, 1, 2, 3] rfl (ih _ _ _ _ _ h)
      · replace h := (if_pos q).symm.trans h
        refine ww_aload_n 78 X dX13_member_78 0 rfl rfl ?_
        obtain ⟨v79, e79, h⟩ := bO_some h
        refine ww_getR 79 X dX13_member_79 fG_X13_48 e79 ?_
        refine ww_iload 82 X dX13_member_82 4 rfl ?_
        obtain ⟨v84, e84, h⟩ := bO_some h
        refine ww_iald 84 X dX13_member_84 e84 ?_
        refine ww_aload_n 85 X dX13_member_85 0 rfl rfl ?_
        obtain ⟨v86, e86, h⟩ := bO_some h
        refine ww_getR 86 X dX13_member_86 fG_X13_17 e86 ?_
        refine ww_iload_n 89 X dX13_member_89 2 rfl rfl ?_
        obtain ⟨v90, e90, h⟩ := bO_some h
        refine ww_iald 90 X dX13_member_90 e90 ?_
        refine ww_icmp_ne 91 128 X dX13_member_91 (by decide) (fun q => ?_) (fun q => ?_)
        · replace h := (if_neg q).symm.trans h
          refine ww_iinc 128 X dX13_member_128 (lv' := [(0, .ref l0), (1, .int l1), (2, .int l2), (3, .int (l3 + 1)), (4, .int (((600 : Int32) * v59) + l3))]) 3 rfl rfl (by decide) [1, 2, 3, 0, 4] rfl ?_
          refine ww_goto 131 42 X dX13_member_131 (by decide) ?_
          exact ww_sub [0, 1, 2, 3] rfl (ih _ _ _ _ _ h)
        · replace h := (if_pos q).symm.trans h
          refine ww_aload_n 94 X dX13_member_94 0 rfl rfl ?_
          obtain ⟨v95, e95, h⟩ := bO_some h
          refine ww_getR 95 X dX13_member_95 fG_X13_51 e95 ?_
          refine ww_aload_n 98 X dX13_member_98 0 rfl rfl ?_
          obtain ⟨v99, e99, h⟩ := bO_some h
          refine ww_getR 99 X dX13_member_99 fG_X13_45 e99 ?_
          refine ww_iload 102 X dX13_member_102 4 rfl ?_
          obtain ⟨v104, e104, h⟩ := bO_some h
          refine ww_iald 104 X dX13_member_104 e104 ?_
          refine ww_aload_n 105 X dX13_member_105 0 rfl rfl ?_
          obtain ⟨v106, e106, h⟩ := bO_some h
          refine ww_getR 106 X dX13_member_106 fG_X13_14 e106 ?_
          refine ww_sipush 109 X (v := (8192 : Int32)) dX13_member_109 (by decide) ?_
          refine ww_iload_n 112 X dX13_member_112 2 rfl rfl ?_
          refine ww_imul 113 X dX13_member_113 ?_
          refine ww_aload_n 114 X dX13_member_114 0 rfl rfl ?_
          obtain ⟨v115, e115, h⟩ := bO_some h
          refine ww_getR 115 X dX13_member_115 fG_X13_17 e115 ?_
          refine ww_iload_n 118 X dX13_member_118 2 rfl rfl ?_
          obtain ⟨v119, e119, h⟩ := bO_some h
          refine ww_iald 119 X dX13_member_119 e119 ?_
          obtain ⟨v120, M120, e120, h⟩ := bP_some h
          refine ww_callSI0 120 X dX13_member_120 mY_X13_same mL_X13_420 (As := [.ref v95, .int v104, .ref v106, .int ((8192 : Int32) * l2), .int v119]) (rest := []) rfl rfl ⟨Nat.le_of_ble_eq_true rfl, Nat.le_of_ble_eq_true rfl⟩ (Nat.le_of_ble_eq_true rfl) (fun l D A => c_X13_same l D A e120) ?_
          refine ww_if_eq 123 128 X dX13_member_123 (by decide) (fun q => ?_) (fun q => ?_)
          · replace h := (if_pos q).symm.trans h
            refine ww_iinc 128 X dX13_member_128 (lv' := [(0, .ref l0), (1, .int l1), (2, .int l2), (3, .int (l3 + 1)), (4, .int (((600 : Int32) * v59) + l3))]) 3 rfl rfl (by decide) [1, 2, 3, 0, 4] rfl ?_
            refine ww_goto 131 42 X dX13_member_131 (by decide) ?_
            exact ww_sub [0, 1, 2, 3] rfl (ih _ _ _ _ _ h)
          · replace h := (if_neg q).symm.trans h
            refine ww_iload_n 126 X dX13_member_126 3 rfl rfl ?_
            exact ww_iretE 127 X hQ dX13_member_127 h
set_option maxHeartbeats 4000000 in
set_option maxRecDepth 100000 in
theorem wP_X13_member {G : mG} {F : Nat} {x : mXT} {sz : Nat} {r0 : Int32} {M0 : mM} (X : mCX G RX13 cX13_member 5 (some .int) "member" rmX13_member x) (hQ : mQI x r0 M0 (sz, 0, 0)) {l0 : Nat} {l1 : Int32} {l2 : Int32} {M : mM} (h : P_X13_member G F l0 l1 l2 M = some (r0, M0)) : WW x (sz, 0, 0) M 0 [(0, .ref l0), (1, .int l1), (2, .int l2)] [] := by
  unfold P_X13_member at h
  refine ww_aload_n 0 X dX13_member_0 0 rfl rfl ?_
  refine ww_iload_n 1 X dX13_member_1 1 rfl rfl ?_
  obtain ⟨_, f2, h⟩ := bO_some h
  obtain ⟨v2, M2, e2, h⟩ := bP_some h
  refine ww_callVI0 2 X dX13_member_2 mY_X13_isValue mL_X13_460 (rcv_spec f2) ⟨_, _, rfl⟩ (by decide) (As := [.int l1]) (rest := []) rfl rfl ⟨Nat.le_of_ble_eq_true rfl, Nat.le_of_ble_eq_true rfl⟩ (Nat.le_of_ble_eq_true rfl) (fun l D A => c_X13_isValue l D A e2) ?_
  refine ww_if_eq 5 35 X dX13_member_5 (by decide) (fun q => ?_) (fun q => ?_)
  · replace h := (if_pos q).symm.trans h
    refine ww_bipush 35 X (v := (-2 : Int32)) dX13_member_35 (by decide) ?_
    exact ww_iretE 37 X hQ dX13_member_37 h
  · replace h := (if_neg q).symm.trans h
    refine ww_aload_n 8 X dX13_member_8 0 rfl rfl ?_
    obtain ⟨v9, e9, h⟩ := bO_some h
    refine ww_getR 9 X dX13_member_9 fG_X13_24 e9 ?_
    refine ww_sipush 12 X (v := (600 : Int32)) dX13_member_12 (by decide) ?_
    refine ww_aload_n 15 X dX13_member_15 0 rfl rfl ?_
    obtain ⟨v16, e16, h⟩ := bO_some h
    refine ww_getI 16 X dX13_member_16 fG_X13_449 e16 ?_
    refine ww_imul 19 X dX13_member_19 ?_
    refine ww_iload_n 20 X dX13_member_20 1 rfl rfl ?_
    refine ww_iadd 21 X dX13_member_21 ?_
    obtain ⟨v22, e22, h⟩ := bO_some h
    refine ww_iald 22 X dX13_member_22 e22 ?_
    refine ww_bipush 23 X (v := (6 : Int32)) dX13_member_23 (by decide) ?_
    refine ww_icmp_ne 25 35 X dX13_member_25 (by decide) (fun q => ?_) (fun q => ?_)
    · replace h := (if_neg q).symm.trans h
      refine ww_bipush 35 X (v := (-2 : Int32)) dX13_member_35 (by decide) ?_
      exact ww_iretE 37 X hQ dX13_member_37 h
    · replace h := (if_pos q).symm.trans h
      refine ww_iload_n 28 X dX13_member_28 2 rfl rfl ?_
      obtain ⟨v29, M29, e29, h⟩ := bP_some h
      refine ww_callSI0 29 X dX13_member_29 mY_X13_isRow mL_X13_332 (As := [.int l2]) (rest := []) rfl rfl ⟨Nat.le_of_ble_eq_true rfl, Nat.le_of_ble_eq_true rfl⟩ (Nat.le_of_ble_eq_true rfl) (fun l D A => c_X13_isRow l D A e29) ?_
      refine ww_if_ne 32 38 X dX13_member_32 (by decide) (fun q => ?_) (fun q => ?_)
      · replace h := (if_neg q).symm.trans h
        refine ww_iload_n 38 X dX13_member_38 1 rfl rfl ?_
        refine ww_iconst 39 X (v := (1 : Int32)) dX13_member_39 (by decide) ?_
        refine ww_iadd 40 X dX13_member_40 ?_
        refine ww_istore_n 41 X dX13_member_41 (lv' := [(0, .ref l0), (1, .int l1), (2, .int l2), (3, .int (l1 + (1 : Int32)))]) rfl (by decide) [1, 2, 3, 0] rfl ?_
        exact (wB_X13_member_42 X hQ F _ _ _ _ _ h)
      · replace h := (if_pos q).symm.trans h
        refine ww_bipush 35 X (v := (-2 : Int32)) dX13_member_35 (by decide) ?_
        exact ww_iretE 37 X hQ dX13_member_37 h
theorem c_X13_member {G : mG} {F sz : Nat} {r0 : Int32} {M0 : mM} (l : Launch) (D : mD) (A : Nat → Prop) {l0 : Nat} {l1 : Int32} {l2 : Int32} {M : mM} (h : P_X13_member G F l0 l1 l2 M = some (r0, M0)) : mMetI l D G A yX13_member cX13_member 5 (some .int) 1 26 0 0 [.ref l0, .int l1, .int l2] M sz r0 M0 sz := mMetI_of l D G A (by decide) (Nat.le_of_ble_eq_true rfl) (fun x X hQ => wP_X13_member X hQ h)
/-! SealedTokensModel.say(I)V -/
theorem dX13_say_0 : decode cX13_say 0 = .ok (.aload_n 0, 1) := by decide +kernel
theorem dX13_say_1 : decode cX13_say 1 = .ok (.getfield 467, 3) := by decide +kernel
theorem dX13_say_4 : decode cX13_say 4 = .ok (.sipush 8192, 3) := by decide +kernel
theorem dX13_say_7 : decode cX13_say 7 = .ok (.if_icmp .ge 14, 3) := by decide +kernel
theorem dX13_say_10 : decode cX13_say 10 = .ok (.aload_n 0, 1) := by decide +kernel
theorem dX13_say_11 : decode cX13_say 11 = .ok (.getfield 57, 3) := by decide +kernel
theorem dX13_say_14 : decode cX13_say 14 = .ok (.aload_n 0, 1) := by decide +kernel
theorem dX13_say_15 : decode cX13_say 15 = .ok (.getfield 467, 3) := by decide +kernel
theorem dX13_say_18 : decode cX13_say 18 = .ok (.iload_n 1, 1) := by decide +kernel
theorem dX13_say_19 : decode cX13_say 19 = .ok (.i2b, 1) := by decide +kernel
theorem dX13_say_20 : decode cX13_say 20 = .ok (.bastore, 1) := by decide +kernel
theorem dX13_say_21 : decode cX13_say 21 = .ok (.aload_n 0, 1) := by decide +kernel
theorem dX13_say_22 : decode cX13_say 22 = .ok (.dup, 1) := by decide +kernel
theorem dX13_say_23 : decode cX13_say 23 = .ok (.getfield 467, 3) := by decide +kernel
theorem dX13_say_26 : decode cX13_say 26 = .ok (.iconst 1, 1) := by decide +kernel
theorem dX13_say_27 : decode cX13_say 27 = .ok (.iadd, 1) := by decide +kernel
theorem dX13_say_28 : decode cX13_say 28 = .ok (.putfield 467, 3) := by decide +kernel
theorem dX13_say_31 : decode cX13_say 31 = .ok (.return_, 1) := by decide +kernel
abbrev rmX13_say : Room := { frames := 0, cells := 0, slots := 0, locals := 0 }
set_option maxHeartbeats 4000000 in
set_option maxRecDepth 100000 in
theorem wP_X13_say {G : mG} {F : Nat} {x : mXT} {sz : Nat} {M0 : mM} (X : mCX G RX13 cX13_say 2 none "say" rmX13_say x) (hQ : mQV x M0 (sz, 0, 0)) {l0 : Nat} {l1 : Int32} {M : mM} (h : P_X13_say G F l0 l1 M = some M0) : WW x (sz, 0, 0) M 0 [(0, .ref l0), (1, .int l1)] [] := by
  unfold P_X13_say at h
  refine ww_aload_n 0 X dX13_say_0 0 rfl rfl ?_
  obtain ⟨v1, e1, h⟩ := bO_some h
  refine ww_getI 1 X dX13_say_1 fG_X13_467 e1 ?_
  refine ww_sipush 4 X (v := (8192 : Int32)) dX13_say_4 (by decide) ?_
  refine ww_icmp_ge 7 21 X dX13_say_7 (by decide) (fun q => ?_) (fun q => ?_)
  · replace h := (if_pos q).symm.trans h
    refine ww_aload_n 21 X dX13_say_21 0 rfl rfl ?_
    refine ww_dup 22 X dX13_say_22 rfl ?_
    obtain ⟨v23, e23, h⟩ := bO_some h
    refine ww_getI 23 X dX13_say_23 fG_X13_467 e23 ?_
    refine ww_iconst 26 X (v := (1 : Int32)) dX13_say_26 (by decide) ?_
    refine ww_iadd 27 X dX13_say_27 ?_
    obtain ⟨M28, e28, h⟩ := bO_some h
    refine ww_putI 28 X dX13_say_28 (fP_X13_467 _) e28 ?_
    exact ww_vretE 31 X hQ dX13_say_31 h
  · replace h := (if_neg q).symm.trans h
    refine ww_aload_n 10 X dX13_say_10 0 rfl rfl ?_
    obtain ⟨v11, e11, h⟩ := bO_some h
    refine ww_getR 11 X dX13_say_11 fG_X13_57 e11 ?_
    refine ww_aload_n 14 X dX13_say_14 0 rfl rfl ?_
    obtain ⟨v15, e15, h⟩ := bO_some h
    refine ww_getI 15 X dX13_say_15 fG_X13_467 e15 ?_
    refine ww_iload_n 18 X dX13_say_18 1 rfl rfl ?_
    refine ww_i2b 19 X dX13_say_19 ?_
    obtain ⟨M20, e20, h⟩ := bO_some h
    refine ww_bast 20 X dX13_say_20 e20 ?_
    refine ww_aload_n 21 X dX13_say_21 0 rfl rfl ?_
    refine ww_dup 22 X dX13_say_22 rfl ?_
    obtain ⟨v23, e23, h⟩ := bO_some h
    refine ww_getI 23 X dX13_say_23 fG_X13_467 e23 ?_
    refine ww_iconst 26 X (v := (1 : Int32)) dX13_say_26 (by decide) ?_
    refine ww_iadd 27 X dX13_say_27 ?_
    obtain ⟨M28, e28, h⟩ := bO_some h
    refine ww_putI 28 X dX13_say_28 (fP_X13_467 _) e28 ?_
    exact ww_vretE 31 X hQ dX13_say_31 h
theorem c_X13_say {G : mG} {F sz : Nat} {M0 : mM} (l : Launch) (D : mD) (A : Nat → Prop) {l0 : Nat} {l1 : Int32} {M : mM} (h : P_X13_say G F l0 l1 M = some M0) : mMetV l D G A yX13_say cX13_say 2 none 0 0 0 0 [.ref l0, .int l1] M sz M0 sz := mMetV_of l D G A (by decide) (Nat.le_of_ble_eq_true rfl) (fun x X hQ => wP_X13_say X hQ h)
/-! SealedTokensModel.sayAll(Ljava/lang/String;)V -/
theorem dX13_sayAll_0 : decode cX13_sayAll 0 = .ok (.iconst 0, 1) := by decide +kernel
theorem dX13_sayAll_1 : decode cX13_sayAll 1 = .ok (.istore_n 2, 1) := by decide +kernel
theorem dX13_sayAll_2 : decode cX13_sayAll 2 = .ok (.iload_n 2, 1) := by decide +kernel
theorem dX13_sayAll_3 : decode cX13_sayAll 3 = .ok (.aload_n 1, 1) := by decide +kernel
theorem dX13_sayAll_4 : decode cX13_sayAll 4 = .ok (.invokevirtual 405, 3) := by decide +kernel
theorem dX13_sayAll_7 : decode cX13_sayAll 7 = .ok (.if_icmp .ge 18, 3) := by decide +kernel
theorem dX13_sayAll_10 : decode cX13_sayAll 10 = .ok (.aload_n 0, 1) := by decide +kernel
theorem dX13_sayAll_11 : decode cX13_sayAll 11 = .ok (.aload_n 1, 1) := by decide +kernel
theorem dX13_sayAll_12 : decode cX13_sayAll 12 = .ok (.iload_n 2, 1) := by decide +kernel
theorem dX13_sayAll_13 : decode cX13_sayAll 13 = .ok (.invokevirtual 410, 3) := by decide +kernel
theorem dX13_sayAll_16 : decode cX13_sayAll 16 = .ok (.invokevirtual 470, 3) := by decide +kernel
theorem dX13_sayAll_19 : decode cX13_sayAll 19 = .ok (.iinc 2 1, 3) := by decide +kernel
theorem dX13_sayAll_22 : decode cX13_sayAll 22 = .ok (.goto (-20), 3) := by decide +kernel
theorem dX13_sayAll_25 : decode cX13_sayAll 25 = .ok (.return_, 1) := by decide +kernel
abbrev rmX13_sayAll : Room := { frames := 4, cells := 0, slots := 0, locals := 85 }
set_option maxHeartbeats 4000000 in
set_option maxRecDepth 100000 in
theorem wB_X13_sayAll_2 {G : mG} {F : Nat} {x : mXT} {sz : Nat} {M0 : mM} (X : mCX G RX13 cX13_sayAll 3 none "sayAll" rmX13_sayAll x) (hQ : mQV x M0 (sz, 0, 0)) : ∀ (n : Nat) (l0 : Nat) (l1 : Nat) (l2 : Int32) (M : mM), B_X13_sayAll_2 G F n l0 l1 l2 M = some M0 → WW x (sz, 0, 0) M 2 [(0, .ref l0), (1, .ref l1), (2, .int l2)] [] := by
  intro n
  induction n with
  | zero =>
    intro l0 l1 l2 M h
    exact nomatch (show (none : Option mM) = some M0 from h)
  | succ n ih =>
    intro l0 l1 l2 M h
    rw [B_X13_sayAll_2] at h
    refine ww_iload_n 2 X dX13_sayAll_2 2 rfl rfl ?_
    refine ww_aload_n 3 X dX13_sayAll_3 1 rfl rfl ?_
    obtain ⟨_, f4, h⟩ := bO_some h
    obtain ⟨v4, M4, e4, h⟩ := bP_some h
    refine ww_callVIs 4 X dX13_sayAll_4 mY_J0_length_8abf5 mL_X13_405 (rcs_spec f4) rfl (As := []) (rest := [.int l2]) rfl rfl ⟨Nat.le_of_ble_eq_true rfl, Nat.le_of_ble_eq_true rfl⟩ (Nat.le_of_ble_eq_true rfl) (fun l D A => c_J0_length_8abf5 l D A e4) ?_
    refine ww_icmp_ge 7 25 X dX13_sayAll_7 (by decide) (fun q => ?_) (fun q => ?_)
    · replace h := (if_pos q).symm.trans h
      exact ww_vretE 25 X hQ dX13_sayAll_25 h
    · replace h := (if_neg q).symm.trans h
      refine ww_aload_n 10 X dX13_sayAll_10 0 rfl rfl ?_
      refine ww_aload_n 11 X dX13_sayAll_11 1 rfl rfl ?_
      refine ww_iload_n 12 X dX13_sayAll_12 2 rfl rfl ?_
      obtain ⟨_, f13, h⟩ := bO_some h
      obtain ⟨v13, M13, e13, h⟩ := bP_some h
      refine ww_callVIs 13 X dX13_sayAll_13 mY_J0_charAt_5068e mL_X13_410 (rcs_spec f13) rfl (As := [.int l2]) (rest := [.ref l0]) rfl rfl ⟨Nat.le_of_ble_eq_true rfl, Nat.le_of_ble_eq_true rfl⟩ (Nat.le_of_ble_eq_true rfl) (fun l D A => c_J0_charAt_5068e l D A e13) ?_
      obtain ⟨_, f16, h⟩ := bO_some h
      obtain ⟨M16, e16, h⟩ := bO_some h
      refine ww_callVV0 16 X dX13_sayAll_16 mY_X13_say mL_X13_470 (rcv_spec f16) ⟨_, _, rfl⟩ (by decide) (As := [.int v13]) (rest := []) rfl rfl ⟨Nat.le_of_ble_eq_true rfl, Nat.le_of_ble_eq_true rfl⟩ (Nat.le_of_ble_eq_true rfl) (fun l D A => c_X13_say l D A e16) ?_
      refine ww_iinc 19 X dX13_sayAll_19 (lv' := [(0, .ref l0), (1, .ref l1), (2, .int (l2 + 1))]) 2 rfl rfl (by decide) [1, 2, 0] rfl ?_
      refine ww_goto 22 2 X dX13_sayAll_22 (by decide) ?_
      exact (ih _ _ _ _ h)
set_option maxHeartbeats 4000000 in
set_option maxRecDepth 100000 in
theorem wP_X13_sayAll {G : mG} {F : Nat} {x : mXT} {sz : Nat} {M0 : mM} (X : mCX G RX13 cX13_sayAll 3 none "sayAll" rmX13_sayAll x) (hQ : mQV x M0 (sz, 0, 0)) {l0 : Nat} {l1 : Nat} {M : mM} (h : P_X13_sayAll G F l0 l1 M = some M0) : WW x (sz, 0, 0) M 0 [(0, .ref l0), (1, .ref l1)] [] := by
  unfold P_X13_sayAll at h
  refine ww_iconst 0 X (v := (0 : Int32)) dX13_sayAll_0 (by decide) ?_
  refine ww_istore_n 1 X dX13_sayAll_1 (lv' := [(0, .ref l0), (1, .ref l1), (2, .int (0 : Int32))]) rfl (by decide) [1, 2, 0] rfl ?_
  exact (wB_X13_sayAll_2 X hQ F _ _ _ _ h)
theorem c_X13_sayAll {G : mG} {F sz : Nat} {M0 : mM} (l : Launch) (D : mD) (A : Nat → Prop) {l0 : Nat} {l1 : Nat} {M : mM} (h : P_X13_sayAll G F l0 l1 M = some M0) : mMetV l D G A yX13_sayAll cX13_sayAll 3 none 4 85 0 0 [.ref l0, .ref l1] M sz M0 sz := mMetV_of l D G A (by decide) (Nat.le_of_ble_eq_true rfl) (fun x X hQ => wP_X13_sayAll X hQ h)
/-! SealedTokensModel.sayString([BII)V -/
theorem dX13_sayString_0 : decode cX13_sayString 0 = .ok (.aload_n 0, 1) := by decide +kernel
theorem dX13_sayString_1 : decode cX13_sayString 1 = .ok (.bipush 34, 2) := by decide +kernel
theorem dX13_sayString_3 : decode cX13_sayString 3 = .ok (.invokevirtual 470, 3) := by decide +kernel
theorem dX13_sayString_6 : decode cX13_sayString 6 = .ok (.iconst 0, 1) := by decide +kernel
theorem dX13_sayString_7 : decode cX13_sayString 7 = .ok (.istore 4, 2) := by decide +kernel
theorem dX13_sayString_9 : decode cX13_sayString 9 = .ok (.iload 4, 2) := by decide +kernel
theorem dX13_sayString_11 : decode cX13_sayString 11 = .ok (.iload_n 3, 1) := by decide +kernel
theorem dX13_sayString_12 : decode cX13_sayString 12 = .ok (.if_icmp .ge 196, 3) := by decide +kernel
theorem dX13_sayString_15 : decode cX13_sayString 15 = .ok (.aload_n 1, 1) := by decide +kernel
theorem dX13_sayString_16 : decode cX13_sayString 16 = .ok (.iload_n 2, 1) := by decide +kernel
theorem dX13_sayString_17 : decode cX13_sayString 17 = .ok (.iload 4, 2) := by decide +kernel
theorem dX13_sayString_19 : decode cX13_sayString 19 = .ok (.iadd, 1) := by decide +kernel
theorem dX13_sayString_20 : decode cX13_sayString 20 = .ok (.baload, 1) := by decide +kernel
theorem dX13_sayString_21 : decode cX13_sayString 21 = .ok (.sipush 255, 3) := by decide +kernel
theorem dX13_sayString_24 : decode cX13_sayString 24 = .ok (.iand, 1) := by decide +kernel
theorem dX13_sayString_25 : decode cX13_sayString 25 = .ok (.istore 5, 2) := by decide +kernel
theorem dX13_sayString_27 : decode cX13_sayString 27 = .ok (.iload 5, 2) := by decide +kernel
theorem dX13_sayString_29 : decode cX13_sayString 29 = .ok (.bipush 34, 2) := by decide +kernel
theorem dX13_sayString_31 : decode cX13_sayString 31 = .ok (.if_icmp .ne 7, 3) := by decide +kernel
theorem dX13_sayString_34 : decode cX13_sayString 34 = .ok (.iconst 0, 1) := by decide +kernel
theorem dX13_sayString_35 : decode cX13_sayString 35 = .ok (.goto 71, 3) := by decide +kernel
theorem dX13_sayString_38 : decode cX13_sayString 38 = .ok (.iload 5, 2) := by decide +kernel
theorem dX13_sayString_40 : decode cX13_sayString 40 = .ok (.bipush 92, 2) := by decide +kernel
theorem dX13_sayString_42 : decode cX13_sayString 42 = .ok (.if_icmp .ne 7, 3) := by decide +kernel
theorem dX13_sayString_45 : decode cX13_sayString 45 = .ok (.iconst 1, 1) := by decide +kernel
theorem dX13_sayString_46 : decode cX13_sayString 46 = .ok (.goto 60, 3) := by decide +kernel
theorem dX13_sayString_49 : decode cX13_sayString 49 = .ok (.iload 5, 2) := by decide +kernel
theorem dX13_sayString_51 : decode cX13_sayString 51 = .ok (.bipush 8, 2) := by decide +kernel
theorem dX13_sayString_53 : decode cX13_sayString 53 = .ok (.if_icmp .ne 7, 3) := by decide +kernel
theorem dX13_sayString_56 : decode cX13_sayString 56 = .ok (.iconst 2, 1) := by decide +kernel
theorem dX13_sayString_57 : decode cX13_sayString 57 = .ok (.goto 49, 3) := by decide +kernel
theorem dX13_sayString_60 : decode cX13_sayString 60 = .ok (.iload 5, 2) := by decide +kernel
theorem dX13_sayString_62 : decode cX13_sayString 62 = .ok (.bipush 12, 2) := by decide +kernel
theorem dX13_sayString_64 : decode cX13_sayString 64 = .ok (.if_icmp .ne 7, 3) := by decide +kernel
theorem dX13_sayString_67 : decode cX13_sayString 67 = .ok (.iconst 3, 1) := by decide +kernel
theorem dX13_sayString_68 : decode cX13_sayString 68 = .ok (.goto 38, 3) := by decide +kernel
theorem dX13_sayString_71 : decode cX13_sayString 71 = .ok (.iload 5, 2) := by decide +kernel
theorem dX13_sayString_73 : decode cX13_sayString 73 = .ok (.bipush 10, 2) := by decide +kernel
theorem dX13_sayString_75 : decode cX13_sayString 75 = .ok (.if_icmp .ne 7, 3) := by decide +kernel
theorem dX13_sayString_78 : decode cX13_sayString 78 = .ok (.iconst 4, 1) := by decide +kernel
theorem dX13_sayString_79 : decode cX13_sayString 79 = .ok (.goto 27, 3) := by decide +kernel
theorem dX13_sayString_82 : decode cX13_sayString 82 = .ok (.iload 5, 2) := by decide +kernel
theorem dX13_sayString_84 : decode cX13_sayString 84 = .ok (.bipush 13, 2) := by decide +kernel
theorem dX13_sayString_86 : decode cX13_sayString 86 = .ok (.if_icmp .ne 7, 3) := by decide +kernel
theorem dX13_sayString_89 : decode cX13_sayString 89 = .ok (.iconst 5, 1) := by decide +kernel
theorem dX13_sayString_90 : decode cX13_sayString 90 = .ok (.goto 16, 3) := by decide +kernel
theorem dX13_sayString_93 : decode cX13_sayString 93 = .ok (.iload 5, 2) := by decide +kernel
theorem dX13_sayString_95 : decode cX13_sayString 95 = .ok (.bipush 9, 2) := by decide +kernel
theorem dX13_sayString_97 : decode cX13_sayString 97 = .ok (.if_icmp .ne 8, 3) := by decide +kernel
theorem dX13_sayString_100 : decode cX13_sayString 100 = .ok (.bipush 6, 2) := by decide +kernel
theorem dX13_sayString_102 : decode cX13_sayString 102 = .ok (.goto 4, 3) := by decide +kernel
theorem dX13_sayString_105 : decode cX13_sayString 105 = .ok (.iconst (-1), 1) := by decide +kernel
theorem dX13_sayString_106 : decode cX13_sayString 106 = .ok (.istore 6, 2) := by decide +kernel
theorem dX13_sayString_108 : decode cX13_sayString 108 = .ok (.iload 6, 2) := by decide +kernel
theorem dX13_sayString_110 : decode cX13_sayString 110 = .ok (.ifCond .lt 24, 3) := by decide +kernel
theorem dX13_sayString_113 : decode cX13_sayString 113 = .ok (.aload_n 0, 1) := by decide +kernel
theorem dX13_sayString_114 : decode cX13_sayString 114 = .ok (.bipush 92, 2) := by decide +kernel
theorem dX13_sayString_116 : decode cX13_sayString 116 = .ok (.invokevirtual 470, 3) := by decide +kernel
theorem dX13_sayString_119 : decode cX13_sayString 119 = .ok (.aload_n 0, 1) := by decide +kernel
theorem dX13_sayString_120 : decode cX13_sayString 120 = .ok (.ldc_w 473, 3) := by decide +kernel
theorem dX13_sayString_123 : decode cX13_sayString 123 = .ok (.iload 6, 2) := by decide +kernel
theorem dX13_sayString_125 : decode cX13_sayString 125 = .ok (.invokevirtual 410, 3) := by decide +kernel
theorem dX13_sayString_128 : decode cX13_sayString 128 = .ok (.invokevirtual 470, 3) := by decide +kernel
theorem dX13_sayString_131 : decode cX13_sayString 131 = .ok (.goto 71, 3) := by decide +kernel
theorem dX13_sayString_134 : decode cX13_sayString 134 = .ok (.iload 5, 2) := by decide +kernel
theorem dX13_sayString_136 : decode cX13_sayString 136 = .ok (.bipush 32, 2) := by decide +kernel
theorem dX13_sayString_138 : decode cX13_sayString 138 = .ok (.if_icmp .ge 58, 3) := by decide +kernel
theorem dX13_sayString_141 : decode cX13_sayString 141 = .ok (.aload_n 0, 1) := by decide +kernel
theorem dX13_sayString_142 : decode cX13_sayString 142 = .ok (.ldc_w 475, 3) := by decide +kernel
theorem dX13_sayString_145 : decode cX13_sayString 145 = .ok (.invokevirtual 477, 3) := by decide +kernel
theorem dX13_sayString_148 : decode cX13_sayString 148 = .ok (.aload_n 0, 1) := by decide +kernel
theorem dX13_sayString_149 : decode cX13_sayString 149 = .ok (.bipush 48, 2) := by decide +kernel
theorem dX13_sayString_151 : decode cX13_sayString 151 = .ok (.iload 5, 2) := by decide +kernel
theorem dX13_sayString_153 : decode cX13_sayString 153 = .ok (.bipush 16, 2) := by decide +kernel
theorem dX13_sayString_155 : decode cX13_sayString 155 = .ok (.idiv, 1) := by decide +kernel
theorem dX13_sayString_156 : decode cX13_sayString 156 = .ok (.iadd, 1) := by decide +kernel
theorem dX13_sayString_157 : decode cX13_sayString 157 = .ok (.invokevirtual 470, 3) := by decide +kernel
theorem dX13_sayString_160 : decode cX13_sayString 160 = .ok (.aload_n 0, 1) := by decide +kernel
theorem dX13_sayString_161 : decode cX13_sayString 161 = .ok (.iload 5, 2) := by decide +kernel
theorem dX13_sayString_163 : decode cX13_sayString 163 = .ok (.bipush 16, 2) := by decide +kernel
theorem dX13_sayString_165 : decode cX13_sayString 165 = .ok (.irem, 1) := by decide +kernel
theorem dX13_sayString_166 : decode cX13_sayString 166 = .ok (.bipush 10, 2) := by decide +kernel
theorem dX13_sayString_168 : decode cX13_sayString 168 = .ok (.if_icmp .ge 14, 3) := by decide +kernel
theorem dX13_sayString_171 : decode cX13_sayString 171 = .ok (.bipush 48, 2) := by decide +kernel
theorem dX13_sayString_173 : decode cX13_sayString 173 = .ok (.iload 5, 2) := by decide +kernel
theorem dX13_sayString_175 : decode cX13_sayString 175 = .ok (.bipush 16, 2) := by decide +kernel
theorem dX13_sayString_177 : decode cX13_sayString 177 = .ok (.irem, 1) := by decide +kernel
theorem dX13_sayString_178 : decode cX13_sayString 178 = .ok (.iadd, 1) := by decide +kernel
theorem dX13_sayString_179 : decode cX13_sayString 179 = .ok (.goto 11, 3) := by decide +kernel
theorem dX13_sayString_182 : decode cX13_sayString 182 = .ok (.bipush 87, 2) := by decide +kernel
theorem dX13_sayString_184 : decode cX13_sayString 184 = .ok (.iload 5, 2) := by decide +kernel
theorem dX13_sayString_186 : decode cX13_sayString 186 = .ok (.bipush 16, 2) := by decide +kernel
theorem dX13_sayString_188 : decode cX13_sayString 188 = .ok (.irem, 1) := by decide +kernel
theorem dX13_sayString_189 : decode cX13_sayString 189 = .ok (.iadd, 1) := by decide +kernel
theorem dX13_sayString_190 : decode cX13_sayString 190 = .ok (.invokevirtual 470, 3) := by decide +kernel
theorem dX13_sayString_193 : decode cX13_sayString 193 = .ok (.goto 9, 3) := by decide +kernel
theorem dX13_sayString_196 : decode cX13_sayString 196 = .ok (.aload_n 0, 1) := by decide +kernel
theorem dX13_sayString_197 : decode cX13_sayString 197 = .ok (.iload 5, 2) := by decide +kernel
theorem dX13_sayString_199 : decode cX13_sayString 199 = .ok (.invokevirtual 470, 3) := by decide +kernel
theorem dX13_sayString_202 : decode cX13_sayString 202 = .ok (.iinc 4 1, 3) := by decide +kernel
theorem dX13_sayString_205 : decode cX13_sayString 205 = .ok (.goto (-196), 3) := by decide +kernel
theorem dX13_sayString_208 : decode cX13_sayString 208 = .ok (.aload_n 0, 1) := by decide +kernel
theorem dX13_sayString_209 : decode cX13_sayString 209 = .ok (.bipush 34, 2) := by decide +kernel
theorem dX13_sayString_211 : decode cX13_sayString 211 = .ok (.invokevirtual 470, 3) := by decide +kernel
theorem dX13_sayString_214 : decode cX13_sayString 214 = .ok (.return_, 1) := by decide +kernel
abbrev rmX13_sayString : Room := { frames := 5, cells := 0, slots := 0, locals := 107 }
set_option maxHeartbeats 4000000 in
set_option maxRecDepth 100000 in
theorem wB_X13_sayString_106 {G : mG} {F : Nat} {x : mXT} {sz : Nat} {M0 : mM} (X : mCX G RX13 cX13_sayString 7 none "sayString" rmX13_sayString x) (hQ : mQV x M0 (sz, 0, 0)) (r9 : Nat → Nat → Int32 → Int32 → Int32 → mM → Option mM) (hr9 : ∀ (l0 : Nat) (l1 : Nat) (l2 : Int32) (l3 : Int32) (l4 : Int32) (M : mM), r9 l0 l1 l2 l3 l4 M = some M0 → WW x (sz, 0, 0) M 9 [(0, .ref l0), (1, .ref l1), (2, .int l2), (3, .int l3), (4, .int l4)] []) {l0 : Nat} {l1 : Nat} {l2 : Int32} {l3 : Int32} {l4 : Int32} {l5 : Int32} {sk0 : Int32} {M : mM} (h : B_X13_sayString_106 G F r9 l0 l1 l2 l3 l4 l5 sk0 M = some M0) : WW x (sz, 0, 0) M 106 [(0, .ref l0), (1, .ref l1), (2, .int l2), (3, .int l3), (4, .int l4), (5, .int l5)] [.int sk0] := by
  unfold B_X13_sayString_106 at h
  refine ww_istore 106 X dX13_sayString_106 (lv' := [(0, .ref l0), (1, .ref l1), (2, .int l2), (3, .int l3), (4, .int l4), (5, .int l5), (6, .int sk0)]) (by decide) [1, 2, 3, 4, 5, 6, 0] rfl ?_
  refine ww_iload 108 X dX13_sayString_108 6 rfl ?_
  refine ww_if_lt 110 134 X dX13_sayString_110 (by decide) (fun q => ?_) (fun q => ?_)
  · replace h := (if_pos q).symm.trans h
    refine ww_iload 134 X dX13_sayString_134 5 rfl ?_
    refine ww_bipush 136 X (v := (32 : Int32)) dX13_sayString_136 (by decide) ?_
    refine ww_icmp_ge 138 196 X dX13_sayString_138 (by decide) (fun q => ?_) (fun q => ?_)
    · replace h := (if_pos q).symm.trans h
      refine ww_aload_n 196 X dX13_sayString_196 0 rfl rfl ?_
      refine ww_iload 197 X dX13_sayString_197 5 rfl ?_
      obtain ⟨_, f199, h⟩ := bO_some h
      obtain ⟨M199, e199, h⟩ := bO_some h
      refine ww_callVV0 199 X dX13_sayString_199 mY_X13_say mL_X13_470 (rcv_spec f199) ⟨_, _, rfl⟩ (by decide) (As := [.int l5]) (rest := []) rfl rfl ⟨Nat.le_of_ble_eq_true rfl, Nat.le_of_ble_eq_true rfl⟩ (Nat.le_of_ble_eq_true rfl) (fun l D A => c_X13_say l D A e199) ?_
      refine ww_iinc 202 X dX13_sayString_202 (lv' := [(0, .ref l0), (1, .ref l1), (2, .int l2), (3, .int l3), (4, .int (l4 + 1)), (5, .int l5), (6, .int sk0)]) 4 rfl rfl (by decide) [1, 2, 3, 4, 0, 5, 6] rfl ?_
      refine ww_goto 205 9 X dX13_sayString_205 (by decide) ?_
      exact ww_sub [0, 1, 2, 3, 4] rfl (hr9 _ _ _ _ _ _ h)
    · replace h := (if_neg q).symm.trans h
      refine ww_aload_n 141 X dX13_sayString_141 0 rfl rfl ?_
      refine ww_ldsw 142 X (j := 83) dX13_sayString_142 rfl ?_
      obtain ⟨_, f145, h⟩ := bO_some h
      obtain ⟨M145, e145, h⟩ := bO_some h
      refine ww_callVV0 145 X dX13_sayString_145 mY_X13_sayAll mL_X13_477 (rcv_spec f145) ⟨_, _, rfl⟩ (by decide) (As := [.ref (G.1 83)]) (rest := []) rfl rfl ⟨Nat.le_of_ble_eq_true rfl, Nat.le_of_ble_eq_true rfl⟩ (Nat.le_of_ble_eq_true rfl) (fun l D A => c_X13_sayAll l D A e145) ?_
      refine ww_aload_n 148 X dX13_sayString_148 0 rfl rfl ?_
      refine ww_bipush 149 X (v := (48 : Int32)) dX13_sayString_149 (by decide) ?_
      refine ww_iload 151 X dX13_sayString_151 5 rfl ?_
      refine ww_bipush 153 X (v := (16 : Int32)) dX13_sayString_153 (by decide) ?_
      refine ww_idiv 155 X (v := (l5 / (16 : Int32))) dX13_sayString_155 rfl ?_
      refine ww_iadd 156 X dX13_sayString_156 ?_
      obtain ⟨_, f157, h⟩ := bO_some h
      obtain ⟨M157, e157, h⟩ := bO_some h
      refine ww_callVV0 157 X dX13_sayString_157 mY_X13_say mL_X13_470 (rcv_spec f157) ⟨_, _, rfl⟩ (by decide) (As := [.int ((48 : Int32) + (l5 / (16 : Int32)))]) (rest := []) rfl rfl ⟨Nat.le_of_ble_eq_true rfl, Nat.le_of_ble_eq_true rfl⟩ (Nat.le_of_ble_eq_true rfl) (fun l D A => c_X13_say l D A e157) ?_
      refine ww_aload_n 160 X dX13_sayString_160 0 rfl rfl ?_
      refine ww_iload 161 X dX13_sayString_161 5 rfl ?_
      refine ww_bipush 163 X (v := (16 : Int32)) dX13_sayString_163 (by decide) ?_
      refine ww_irem 165 X (v := (l5 - l5 / (16 : Int32) * (16 : Int32))) dX13_sayString_165 rfl ?_
      refine ww_bipush 166 X (v := (10 : Int32)) dX13_sayString_166 (by decide) ?_
      refine ww_icmp_ge 168 182 X dX13_sayString_168 (by decide) (fun q => ?_) (fun q => ?_)
      · replace h := (if_pos q).symm.trans h
        refine ww_bipush 182 X (v := (87 : Int32)) dX13_sayString_182 (by decide) ?_
        refine ww_iload 184 X dX13_sayString_184 5 rfl ?_
        refine ww_bipush 186 X (v := (16 : Int32)) dX13_sayString_186 (by decide) ?_
        refine ww_irem 188 X (v := (l5 - l5 / (16 : Int32) * (16 : Int32))) dX13_sayString_188 rfl ?_
        refine ww_iadd 189 X dX13_sayString_189 ?_
        obtain ⟨_, f190, h⟩ := bO_some h
        obtain ⟨M190, e190, h⟩ := bO_some h
        refine ww_callVV0 190 X dX13_sayString_190 mY_X13_say mL_X13_470 (rcv_spec f190) ⟨_, _, rfl⟩ (by decide) (As := [.int ((87 : Int32) + (l5 - l5 / (16 : Int32) * (16 : Int32)))]) (rest := []) rfl rfl ⟨Nat.le_of_ble_eq_true rfl, Nat.le_of_ble_eq_true rfl⟩ (Nat.le_of_ble_eq_true rfl) (fun l D A => c_X13_say l D A e190) ?_
        refine ww_goto 193 202 X dX13_sayString_193 (by decide) ?_
        refine ww_iinc 202 X dX13_sayString_202 (lv' := [(0, .ref l0), (1, .ref l1), (2, .int l2), (3, .int l3), (4, .int (l4 + 1)), (5, .int l5), (6, .int sk0)]) 4 rfl rfl (by decide) [1, 2, 3, 4, 0, 5, 6] rfl ?_
        refine ww_goto 205 9 X dX13_sayString_205 (by decide) ?_
        exact ww_sub [0, 1, 2, 3, 4] rfl (hr9 _ _ _ _ _ _ h)
      · replace h := (if_neg q).symm.trans h
        refine ww_bipush 171 X (v := (48 : Int32)) dX13_sayString_171 (by decide) ?_
        refine ww_iload 173 X dX13_sayString_173 5 rfl ?_
        refine ww_bipush 175 X (v := (16 : Int32)) dX13_sayString_175 (by decide) ?_
        refine ww_irem 177 X (v := (l5 - l5 / (16 : Int32) * (16 : Int32))) dX13_sayString_177 rfl ?_
        refine ww_iadd 178 X dX13_sayString_178 ?_
        refine ww_goto 179 190 X dX13_sayString_179 (by decide) ?_
        obtain ⟨_, f190, h⟩ := bO_some h
        obtain ⟨M190, e190, h⟩ := bO_some h
        refine ww_callVV0 190 X dX13_sayString_190 mY_X13_say mL_X13_470 (rcv_spec f190) ⟨_, _, rfl⟩ (by decide) (As := [.int ((48 : Int32) + (l5 - l5 / (16 : Int32) * (16 : Int32)))]) (rest := []) rfl rfl ⟨Nat.le_of_ble_eq_true rfl, Nat.le_of_ble_eq_true rfl⟩ (Nat.le_of_ble_eq_true rfl) (fun l D A => c_X13_say l D A e190) ?_
        refine ww_goto 193 202 X dX13_sayString_193 (by decide) ?_
        refine ww_iinc 202 X dX13_sayString_202 (lv' := [(0, .ref l0), (1, .ref l1), (2, .int l2), (3, .int l3), (4, .int (l4 + 1)), (5, .int l5), (6, .int sk0)]) 4 rfl rfl (by decide) [1, 2, 3, 4, 0, 5, 6] rfl ?_
        refine ww_goto 205 9 X dX13_sayString_205 (by decide) ?_
        exact ww_sub [0, 1, 2, 3, 4] rfl (hr9 _ _ _ _ _ _ h)
  · replace h := (if_neg q).symm.trans h
    refine ww_aload_n 113 X dX13_sayString_113 0 rfl rfl ?_
    refine ww_bipush 114 X (v := (92 : Int32)) dX13_sayString_114 (by decide) ?_
    obtain ⟨_, f116, h⟩ := bO_some h
    obtain ⟨M116, e116, h⟩ := bO_some h
    refine ww_callVV0 116 X dX13_sayString_116 mY_X13_say mL_X13_470 (rcv_spec f116) ⟨_, _, rfl⟩ (by decide) (As := [.int (92 : Int32)]) (rest := []) rfl rfl ⟨Nat.le_of_ble_eq_true rfl, Nat.le_of_ble_eq_true rfl⟩ (Nat.le_of_ble_eq_true rfl) (fun l D A => c_X13_say l D A e116) ?_
    refine ww_aload_n 119 X dX13_sayString_119 0 rfl rfl ?_
    refine ww_ldsw 120 X (j := 82) dX13_sayString_120 rfl ?_
    refine ww_iload 123 X dX13_sayString_123 6 rfl ?_
    obtain ⟨_, f125, h⟩ := bO_some h
    obtain ⟨v125, M125, e125, h⟩ := bP_some h
    refine ww_callVIs 125 X dX13_sayString_125 mY_J0_charAt_5068e mL_X13_410 (rcs_spec f125) rfl (As := [.int sk0]) (rest := [.ref l0]) rfl rfl ⟨Nat.le_of_ble_eq_true rfl, Nat.le_of_ble_eq_true rfl⟩ (Nat.le_of_ble_eq_true rfl) (fun l D A => c_J0_charAt_5068e l D A e125) ?_
    obtain ⟨_, f128, h⟩ := bO_some h
    obtain ⟨M128, e128, h⟩ := bO_some h
    refine ww_callVV0 128 X dX13_sayString_128 mY_X13_say mL_X13_470 (rcv_spec f128) ⟨_, _, rfl⟩ (by decide) (As := [.int v125]) (rest := []) rfl rfl ⟨Nat.le_of_ble_eq_true rfl, Nat.le_of_ble_eq_true rfl⟩ (Nat.le_of_ble_eq_true rfl) (fun l D A => c_X13_say l D A e128) ?_
    refine ww_goto 131 202 X dX13_sayString_131 (by decide) ?_
    refine ww_iinc 202 X dX13_sayString_202 (lv' := [(0, .ref l0), (1, .ref l1), (2, .int l2), (3, .int l3), (4, .int (l4 + 1)), (5, .int l5), (6, .int sk0)]) 4 rfl rfl (by decide) [1, 2, 3, 4, 0, 5, 6] rfl ?_
    refine ww_goto 205 9 X dX13_sayString_205 (by decide) ?_
    exact ww_sub [0, 1, 2, 3, 4] rfl (hr9 _ _ _ _ _ _ h)
set_option maxHeartbeats 4000000 in
set_option maxRecDepth 100000 in
theorem wB_X13_sayString_9 {G : mG} {F : Nat} {x : mXT} {sz : Nat} {M0 : mM} (X : mCX G RX13 cX13_sayString 7 none "sayString" rmX13_sayString x) (hQ : mQV x M0 (sz, 0, 0)) : ∀ (n : Nat) (l0 : Nat) (l1 : Nat) (l2 : Int32) (l3 : Int32) (l4 : Int32) (M : mM), B_X13_sayString_9 G F n l0 l1 l2 l3 l4 M = some M0 → WW x (sz, 0, 0) M 9 [(0, .ref l0), (1, .ref l1), (2, .int l2), (3, .int l3), (4, .int l4)] [] := by
  intro n
  induction n with
  | zero =>
    intro l0 l1 l2 l3 l4 M h
    exact nomatch (show (none : Option mM) = some M0 from h)
  | succ n ih =>
    intro l0 l1 l2 l3 l4 M h
    rw [B_X13_sayString_9] at h
    refine ww_iload 9 X dX13_sayString_9 4 rfl ?_
    refine ww_iload_n 11 X dX13_sayString_11 3 rfl rfl ?_
    refine ww_icmp_ge 12 208 X dX13_sayString_12 (by decide) (fun q => ?_) (fun q => ?_)
    · replace h := (if_pos q).symm.trans h
      refine ww_aload_n 208 X dX13_sayString_208 0 rfl rfl ?_
      refine ww_bipush 209 X (v := (34 : Int32)) dX13_sayString_209 (by decide) ?_
      obtain ⟨_, f211, h⟩ := bO_some h
      obtain ⟨M211, e211, h⟩ := bO_some h
      refine ww_callVV0 211 X dX13_sayString_211 mY_X13_say mL_X13_470 (rcv_spec f211) ⟨_, _, rfl⟩ (by decide) (As := [.int (34 : Int32)]) (rest := []) rfl rfl ⟨Nat.le_of_ble_eq_true rfl, Nat.le_of_ble_eq_true rfl⟩ (Nat.le_of_ble_eq_true rfl) (fun l D A => c_X13_say l D A e211) ?_
      exact ww_vretE 214 X hQ dX13_sayString_214 h
    · replace h := (if_neg q).symm.trans h
      refine ww_aload_n 15 X dX13_sayString_15 1 rfl rfl ?_
      refine ww_iload_n 16 X dX13_sayString_16 2 rfl rfl ?_
      refine ww_iload 17 X dX13_sayString_17 4 rfl ?_
      refine ww_iadd 19 X dX13_sayString_19 ?_
      obtain ⟨v20, e20, h⟩ := bO_some h
      refine ww_bald 20 X dX13_sayString_20 e20 ?_
      refine ww_sipush 21 X (v := (255 : Int32)) dX13_sayString_21 (by decide) ?_
      refine ww_iand 24 X dX13_sayString_24 ?_
      refine ww_istore 25 X dX13_sayString_25 (lv' := [(0, .ref l0), (1, .ref l1), (2, .int l2), (3, .int l3), (4, .int l4), (5, .int (v20 &&& (255 : Int32)))]) (by decide) [1, 2, 3, 4, 5, 0] rfl ?_
      refine ww_iload 27 X dX13_sayString_27 5 rfl ?_
      refine ww_bipush 29 X (v := (34 : Int32)) dX13_sayString_29 (by decide) ?_
      refine ww_icmp_ne 31 38 X dX13_sayString_31 (by decide) (fun q => ?_) (fun q => ?_)
      · replace h := (if_neg q).symm.trans h
        refine ww_iload 38 X dX13_sayString_38 5 rfl ?_
        refine ww_bipush 40 X (v := (92 : Int32)) dX13_sayString_40 (by decide) ?_
        refine ww_icmp_ne 42 49 X dX13_sayString_42 (by decide) (fun q => ?_) (fun q => ?_)
        · replace h := (if_neg q).symm.trans h
          refine ww_iload 49 X dX13_sayString_49 5 rfl ?_
          refine ww_bipush 51 X (v := (8 : Int32)) dX13_sayString_51 (by decide) ?_
          refine ww_icmp_ne 53 60 X dX13_sayString_53 (by decide) (fun q => ?_) (fun q => ?_)
          · replace h := (if_neg q).symm.trans h
            refine ww_iload 60 X dX13_sayString_60 5 rfl ?_
            refine ww_bipush 62 X (v := (12 : Int32)) dX13_sayString_62 (by decide) ?_
            refine ww_icmp_ne 64 71 X dX13_sayString_64 (by decide) (fun q => ?_) (fun q => ?_)
            · replace h := (if_neg q).symm.trans h
              refine ww_iload 71 X dX13_sayString_71 5 rfl ?_
              refine ww_bipush 73 X (v := (10 : Int32)) dX13_sayString_73 (by decide) ?_
              refine ww_icmp_ne 75 82 X dX13_sayString_75 (by decide) (fun q => ?_) (fun q => ?_)
              · replace h := (if_neg q).symm.trans h
                refine ww_iload 82 X dX13_sayString_82 5 rfl ?_
                refine ww_bipush 84 X (v := (13 : Int32)) dX13_sayString_84 (by decide) ?_
                refine ww_icmp_ne 86 93 X dX13_sayString_86 (by decide) (fun q => ?_) (fun q => ?_)
                · replace h := (if_neg q).symm.trans h
                  refine ww_iload 93 X dX13_sayString_93 5 rfl ?_
                  refine ww_bipush 95 X (v := (9 : Int32)) dX13_sayString_95 (by decide) ?_
                  refine ww_icmp_ne 97 105 X dX13_sayString_97 (by decide) (fun q => ?_) (fun q => ?_)
                  · replace h := (if_neg q).symm.trans h
                    refine ww_iconst 105 X (v := (-1 : Int32)) dX13_sayString_105 (by decide) ?_
                    exact (wB_X13_sayString_106 X hQ _ ih h)
                  · replace h := (if_pos q).symm.trans h
                    refine ww_bipush 100 X (v := (6 : Int32)) dX13_sayString_100 (by decide) ?_
                    refine ww_goto 102 106 X dX13_sayString_102 (by decide) ?_
                    exact (wB_X13_sayString_106 X hQ _ ih h)
                · replace h := (if_pos q).symm.trans h
                  refine ww_iconst 89 X (v := (5 : Int32)) dX13_sayString_89 (by decide) ?_
                  refine ww_goto 90 106 X dX13_sayString_90 (by decide) ?_
                  exact (wB_X13_sayString_106 X hQ _ ih h)
              · replace h := (if_pos q).symm.trans h
                refine ww_iconst 78 X (v := (4 : Int32)) dX13_sayString_78 (by decide) ?_
                refine ww_goto 79 106 X dX13_sayString_79 (by decide) ?_
                exact (wB_X13_sayString_106 X hQ _ ih h)
            · replace h := (if_pos q).symm.trans h
              refine ww_iconst 67 X (v := (3 : Int32)) dX13_sayString_67 (by decide) ?_
              refine ww_goto 68 106 X dX13_sayString_68 (by decide) ?_
              exact (wB_X13_sayString_106 X hQ _ ih h)
          · replace h := (if_pos q).symm.trans h
            refine ww_iconst 56 X (v := (2 : Int32)) dX13_sayString_56 (by decide) ?_
            refine ww_goto 57 106 X dX13_sayString_57 (by decide) ?_
            exact (wB_X13_sayString_106 X hQ _ ih h)
        · replace h := (if_pos q).symm.trans h
          refine ww_iconst 45 X (v := (1 : Int32)) dX13_sayString_45 (by decide) ?_
          refine ww_goto 46 106 X dX13_sayString_46 (by decide) ?_
          exact (wB_X13_sayString_106 X hQ _ ih h)
      · replace h := (if_pos q).symm.trans h
        refine ww_iconst 34 X (v := (0 : Int32)) dX13_sayString_34 (by decide) ?_
        refine ww_goto 35 106 X dX13_sayString_35 (by decide) ?_
        exact (wB_X13_sayString_106 X hQ _ ih h)
set_option maxHeartbeats 4000000 in
set_option maxRecDepth 100000 in
theorem wP_X13_sayString {G : mG} {F : Nat} {x : mXT} {sz : Nat} {M0 : mM} (X : mCX G RX13 cX13_sayString 7 none "sayString" rmX13_sayString x) (hQ : mQV x M0 (sz, 0, 0)) {l0 : Nat} {l1 : Nat} {l2 : Int32} {l3 : Int32} {M : mM} (h : P_X13_sayString G F l0 l1 l2 l3 M = some M0) : WW x (sz, 0, 0) M 0 [(0, .ref l0), (1, .ref l1), (2, .int l2), (3, .int l3)] [] := by
  unfold P_X13_sayString at h
  refine ww_aload_n 0 X dX13_sayString_0 0 rfl rfl ?_
  refine ww_bipush 1 X (v := (34 : Int32)) dX13_sayString_1 (by decide) ?_
  obtain ⟨_, f3, h⟩ := bO_some h
  obtain ⟨M3, e3, h⟩ := bO_some h
  refine ww_callVV0 3 X dX13_sayString_3 mY_X13_say mL_X13_470 (rcv_spec f3) ⟨_, _, rfl⟩ (by decide) (As := [.int (34 : Int32)]) (rest := []) rfl rfl ⟨Nat.le_of_ble_eq_true rfl, Nat.le_of_ble_eq_true rfl⟩ (Nat.le_of_ble_eq_true rfl) (fun l D A => c_X13_say l D A e3) ?_
  refine ww_iconst 6 X (v := (0 : Int32)) dX13_sayString_6 (by decide) ?_
  refine ww_istore 7 X dX13_sayString_7 (lv' := [(0, .ref l0), (1, .ref l1), (2, .int l2), (3, .int l3), (4, .int (0 : Int32))]) (by decide) [1, 2, 3, 4, 0] rfl ?_
  exact (wB_X13_sayString_9 X hQ F _ _ _ _ _ _ h)
theorem c_X13_sayString {G : mG} {F sz : Nat} {M0 : mM} (l : Launch) (D : mD) (A : Nat → Prop) {l0 : Nat} {l1 : Nat} {l2 : Int32} {l3 : Int32} {M : mM} (h : P_X13_sayString G F l0 l1 l2 l3 M = some M0) : mMetV l D G A yX13_sayString cX13_sayString 7 none 5 107 0 0 [.ref l0, .ref l1, .int l2, .int l3] M sz M0 sz := mMetV_of l D G A (by decide) (Nat.le_of_ble_eq_true rfl) (fun x X hQ => wP_X13_sayString X hQ h)
/-! SealedTokensModel.saved()I -/
theorem dX13_saved_0 : decode cX13_saved 0 = .ok (.aload_n 0, 1) := by decide +kernel
theorem dX13_saved_1 : decode cX13_saved 1 = .ok (.getfield 467, 3) := by decide +kernel
theorem dX13_saved_4 : decode cX13_saved 4 = .ok (.sipush 8192, 3) := by decide +kernel
theorem dX13_saved_7 : decode cX13_saved 7 = .ok (.if_icmp .le 8, 3) := by decide +kernel
theorem dX13_saved_10 : decode cX13_saved 10 = .ok (.bipush (-3), 2) := by decide +kernel
theorem dX13_saved_12 : decode cX13_saved 12 = .ok (.goto 16, 3) := by decide +kernel
theorem dX13_saved_15 : decode cX13_saved 15 = .ok (.aload_n 0, 1) := by decide +kernel
theorem dX13_saved_16 : decode cX13_saved 16 = .ok (.aload_n 0, 1) := by decide +kernel
theorem dX13_saved_17 : decode cX13_saved 17 = .ok (.getfield 57, 3) := by decide +kernel
theorem dX13_saved_20 : decode cX13_saved 20 = .ok (.iconst 0, 1) := by decide +kernel
theorem dX13_saved_21 : decode cX13_saved 21 = .ok (.aload_n 0, 1) := by decide +kernel
theorem dX13_saved_22 : decode cX13_saved 22 = .ok (.getfield 467, 3) := by decide +kernel
theorem dX13_saved_25 : decode cX13_saved 25 = .ok (.invokevirtual 463, 3) := by decide +kernel
theorem dX13_saved_28 : decode cX13_saved 28 = .ok (.ireturn, 1) := by decide +kernel
abbrev rmX13_saved : Room := { frames := 2, cells := 0, slots := 0, locals := 48 }
set_option maxHeartbeats 4000000 in
set_option maxRecDepth 100000 in
theorem wP_X13_saved {G : mG} {F : Nat} {x : mXT} {sz : Nat} {r0 : Int32} {M0 : mM} (X : mCX G RX13 cX13_saved 1 (some .int) "saved" rmX13_saved x) (hQ : mQI x r0 M0 (sz, 0, 0)) {l0 : Nat} {M : mM} (h : P_X13_saved G F l0 M = some (r0, M0)) : WW x (sz, 0, 0) M 0 [(0, .ref l0)] [] := by
  unfold P_X13_saved at h
  refine ww_aload_n 0 X dX13_saved_0 0 rfl rfl ?_
  obtain ⟨v1, e1, h⟩ := bO_some h
  refine ww_getI 1 X dX13_saved_1 fG_X13_467 e1 ?_
  refine ww_sipush 4 X (v := (8192 : Int32)) dX13_saved_4 (by decide) ?_
  refine ww_icmp_le 7 15 X dX13_saved_7 (by decide) (fun q => ?_) (fun q => ?_)
  · replace h := (if_pos q).symm.trans h
    refine ww_aload_n 15 X dX13_saved_15 0 rfl rfl ?_
    refine ww_aload_n 16 X dX13_saved_16 0 rfl rfl ?_
    obtain ⟨v17, e17, h⟩ := bO_some h
    refine ww_getR 17 X dX13_saved_17 fG_X13_57 e17 ?_
    refine ww_iconst 20 X (v := (0 : Int32)) dX13_saved_20 (by decide) ?_
    refine ww_aload_n 21 X dX13_saved_21 0 rfl rfl ?_
    obtain ⟨v22, e22, h⟩ := bO_some h
    refine ww_getI 22 X dX13_saved_22 fG_X13_467 e22 ?_
    obtain ⟨_, f25, h⟩ := bO_some h
    obtain ⟨v25, M25, e25, h⟩ := bP_some h
    refine ww_callVI0 25 X dX13_saved_25 mY_X13_tell mL_X13_463 (rcv_spec f25) ⟨_, _, rfl⟩ (by decide) (As := [.ref v17, .int (0 : Int32), .int v22]) (rest := []) rfl rfl ⟨Nat.le_of_ble_eq_true rfl, Nat.le_of_ble_eq_true rfl⟩ (Nat.le_of_ble_eq_true rfl) (fun l D A => c_X13_tell l D A e25) ?_
    exact ww_iretE 28 X hQ dX13_saved_28 h
  · replace h := (if_neg q).symm.trans h
    refine ww_bipush 10 X (v := (-3 : Int32)) dX13_saved_10 (by decide) ?_
    refine ww_goto 12 28 X dX13_saved_12 (by decide) ?_
    exact ww_iretE 28 X hQ dX13_saved_28 h
theorem c_X13_saved {G : mG} {F sz : Nat} {r0 : Int32} {M0 : mM} (l : Launch) (D : mD) (A : Nat → Prop) {l0 : Nat} {M : mM} (h : P_X13_saved G F l0 M = some (r0, M0)) : mMetI l D G A yX13_saved cX13_saved 1 (some .int) 2 48 0 0 [.ref l0] M sz r0 M0 sz := mMetI_of l D G A (by decide) (Nat.le_of_ble_eq_true rfl) (fun x X hQ => wP_X13_saved X hQ h)
/-! SealedTokensModel.sayValue(I)V -/
theorem dX13_sayValue_0 : decode cX13_sayValue 0 = .ok (.aload_n 0, 1) := by decide +kernel
theorem dX13_sayValue_1 : decode cX13_sayValue 1 = .ok (.getfield 24, 3) := by decide +kernel
theorem dX13_sayValue_4 : decode cX13_sayValue 4 = .ok (.iload_n 1, 1) := by decide +kernel
theorem dX13_sayValue_5 : decode cX13_sayValue 5 = .ok (.iaload, 1) := by decide +kernel
theorem dX13_sayValue_6 : decode cX13_sayValue 6 = .ok (.istore_n 2, 1) := by decide +kernel
theorem dX13_sayValue_7 : decode cX13_sayValue 7 = .ok (.iload_n 2, 1) := by decide +kernel
theorem dX13_sayValue_8 : decode cX13_sayValue 8 = .ok (.iconst 3, 1) := by decide +kernel
theorem dX13_sayValue_9 : decode cX13_sayValue 9 = .ok (.if_icmp .ge 34, 3) := by decide +kernel
theorem dX13_sayValue_12 : decode cX13_sayValue 12 = .ok (.aload_n 0, 1) := by decide +kernel
theorem dX13_sayValue_13 : decode cX13_sayValue 13 = .ok (.iload_n 2, 1) := by decide +kernel
theorem dX13_sayValue_14 : decode cX13_sayValue 14 = .ok (.ifCond .ne 9, 3) := by decide +kernel
theorem dX13_sayValue_17 : decode cX13_sayValue 17 = .ok (.ldc_w 393, 3) := by decide +kernel
theorem dX13_sayValue_20 : decode cX13_sayValue 20 = .ok (.goto 17, 3) := by decide +kernel
theorem dX13_sayValue_23 : decode cX13_sayValue 23 = .ok (.iload_n 2, 1) := by decide +kernel
theorem dX13_sayValue_24 : decode cX13_sayValue 24 = .ok (.iconst 1, 1) := by decide +kernel
theorem dX13_sayValue_25 : decode cX13_sayValue 25 = .ok (.if_icmp .ne 9, 3) := by decide +kernel
theorem dX13_sayValue_28 : decode cX13_sayValue 28 = .ok (.ldc_w 391, 3) := by decide +kernel
theorem dX13_sayValue_31 : decode cX13_sayValue 31 = .ok (.goto 6, 3) := by decide +kernel
theorem dX13_sayValue_34 : decode cX13_sayValue 34 = .ok (.ldc_w 389, 3) := by decide +kernel
theorem dX13_sayValue_37 : decode cX13_sayValue 37 = .ok (.invokevirtual 477, 3) := by decide +kernel
theorem dX13_sayValue_40 : decode cX13_sayValue 40 = .ok (.goto 223, 3) := by decide +kernel
theorem dX13_sayValue_43 : decode cX13_sayValue 43 = .ok (.iload_n 2, 1) := by decide +kernel
theorem dX13_sayValue_44 : decode cX13_sayValue 44 = .ok (.iconst 3, 1) := by decide +kernel
theorem dX13_sayValue_45 : decode cX13_sayValue 45 = .ok (.if_icmp .ne 41, 3) := by decide +kernel
theorem dX13_sayValue_48 : decode cX13_sayValue 48 = .ok (.iconst 0, 1) := by decide +kernel
theorem dX13_sayValue_49 : decode cX13_sayValue 49 = .ok (.istore_n 3, 1) := by decide +kernel
theorem dX13_sayValue_50 : decode cX13_sayValue 50 = .ok (.iload_n 3, 1) := by decide +kernel
theorem dX13_sayValue_51 : decode cX13_sayValue 51 = .ok (.aload_n 0, 1) := by decide +kernel
theorem dX13_sayValue_52 : decode cX13_sayValue 52 = .ok (.getfield 42, 3) := by decide +kernel
theorem dX13_sayValue_55 : decode cX13_sayValue 55 = .ok (.iload_n 1, 1) := by decide +kernel
theorem dX13_sayValue_56 : decode cX13_sayValue 56 = .ok (.iaload, 1) := by decide +kernel
theorem dX13_sayValue_57 : decode cX13_sayValue 57 = .ok (.if_icmp .ge 26, 3) := by decide +kernel
theorem dX13_sayValue_60 : decode cX13_sayValue 60 = .ok (.aload_n 0, 1) := by decide +kernel
theorem dX13_sayValue_61 : decode cX13_sayValue 61 = .ok (.aload_n 0, 1) := by decide +kernel
theorem dX13_sayValue_62 : decode cX13_sayValue 62 = .ok (.getfield 51, 3) := by decide +kernel
theorem dX13_sayValue_65 : decode cX13_sayValue 65 = .ok (.aload_n 0, 1) := by decide +kernel
theorem dX13_sayValue_66 : decode cX13_sayValue 66 = .ok (.getfield 39, 3) := by decide +kernel
theorem dX13_sayValue_69 : decode cX13_sayValue 69 = .ok (.iload_n 1, 1) := by decide +kernel
theorem dX13_sayValue_70 : decode cX13_sayValue 70 = .ok (.iaload, 1) := by decide +kernel
theorem dX13_sayValue_71 : decode cX13_sayValue 71 = .ok (.iload_n 3, 1) := by decide +kernel
theorem dX13_sayValue_72 : decode cX13_sayValue 72 = .ok (.iadd, 1) := by decide +kernel
theorem dX13_sayValue_73 : decode cX13_sayValue 73 = .ok (.baload, 1) := by decide +kernel
theorem dX13_sayValue_74 : decode cX13_sayValue 74 = .ok (.invokevirtual 470, 3) := by decide +kernel
theorem dX13_sayValue_77 : decode cX13_sayValue 77 = .ok (.iinc 3 1, 3) := by decide +kernel
theorem dX13_sayValue_80 : decode cX13_sayValue 80 = .ok (.goto (-30), 3) := by decide +kernel
theorem dX13_sayValue_83 : decode cX13_sayValue 83 = .ok (.goto 180, 3) := by decide +kernel
theorem dX13_sayValue_86 : decode cX13_sayValue 86 = .ok (.iload_n 2, 1) := by decide +kernel
theorem dX13_sayValue_87 : decode cX13_sayValue 87 = .ok (.iconst 4, 1) := by decide +kernel
theorem dX13_sayValue_88 : decode cX13_sayValue 88 = .ok (.if_icmp .ne 26, 3) := by decide +kernel
theorem dX13_sayValue_91 : decode cX13_sayValue 91 = .ok (.aload_n 0, 1) := by decide +kernel
theorem dX13_sayValue_92 : decode cX13_sayValue 92 = .ok (.aload_n 0, 1) := by decide +kernel
theorem dX13_sayValue_93 : decode cX13_sayValue 93 = .ok (.getfield 51, 3) := by decide +kernel
theorem dX13_sayValue_96 : decode cX13_sayValue 96 = .ok (.aload_n 0, 1) := by decide +kernel
theorem dX13_sayValue_97 : decode cX13_sayValue 97 = .ok (.getfield 39, 3) := by decide +kernel
theorem dX13_sayValue_100 : decode cX13_sayValue 100 = .ok (.iload_n 1, 1) := by decide +kernel
theorem dX13_sayValue_101 : decode cX13_sayValue 101 = .ok (.iaload, 1) := by decide +kernel
theorem dX13_sayValue_102 : decode cX13_sayValue 102 = .ok (.aload_n 0, 1) := by decide +kernel
theorem dX13_sayValue_103 : decode cX13_sayValue 103 = .ok (.getfield 42, 3) := by decide +kernel
theorem dX13_sayValue_106 : decode cX13_sayValue 106 = .ok (.iload_n 1, 1) := by decide +kernel
theorem dX13_sayValue_107 : decode cX13_sayValue 107 = .ok (.iaload, 1) := by decide +kernel
theorem dX13_sayValue_108 : decode cX13_sayValue 108 = .ok (.invokevirtual 486, 3) := by decide +kernel
theorem dX13_sayValue_111 : decode cX13_sayValue 111 = .ok (.goto 152, 3) := by decide +kernel
theorem dX13_sayValue_114 : decode cX13_sayValue 114 = .ok (.aload_n 0, 1) := by decide +kernel
theorem dX13_sayValue_115 : decode cX13_sayValue 115 = .ok (.iload_n 2, 1) := by decide +kernel
theorem dX13_sayValue_116 : decode cX13_sayValue 116 = .ok (.iconst 5, 1) := by decide +kernel
theorem dX13_sayValue_117 : decode cX13_sayValue 117 = .ok (.if_icmp .ne 8, 3) := by decide +kernel
theorem dX13_sayValue_120 : decode cX13_sayValue 120 = .ok (.bipush 91, 2) := by decide +kernel
theorem dX13_sayValue_122 : decode cX13_sayValue 122 = .ok (.goto 5, 3) := by decide +kernel
theorem dX13_sayValue_125 : decode cX13_sayValue 125 = .ok (.bipush 123, 2) := by decide +kernel
theorem dX13_sayValue_127 : decode cX13_sayValue 127 = .ok (.invokevirtual 470, 3) := by decide +kernel
theorem dX13_sayValue_130 : decode cX13_sayValue 130 = .ok (.iload_n 1, 1) := by decide +kernel
theorem dX13_sayValue_131 : decode cX13_sayValue 131 = .ok (.sipush 600, 3) := by decide +kernel
theorem dX13_sayValue_134 : decode cX13_sayValue 134 = .ok (.if_icmp .lt 9, 3) := by decide +kernel
theorem dX13_sayValue_137 : decode cX13_sayValue 137 = .ok (.sipush 600, 3) := by decide +kernel
theorem dX13_sayValue_140 : decode cX13_sayValue 140 = .ok (.goto 4, 3) := by decide +kernel
theorem dX13_sayValue_143 : decode cX13_sayValue 143 = .ok (.iconst 0, 1) := by decide +kernel
theorem dX13_sayValue_144 : decode cX13_sayValue 144 = .ok (.istore_n 3, 1) := by decide +kernel
theorem dX13_sayValue_145 : decode cX13_sayValue 145 = .ok (.iconst 0, 1) := by decide +kernel
theorem dX13_sayValue_146 : decode cX13_sayValue 146 = .ok (.istore 4, 2) := by decide +kernel
theorem dX13_sayValue_148 : decode cX13_sayValue 148 = .ok (.iload_n 1, 1) := by decide +kernel
theorem dX13_sayValue_149 : decode cX13_sayValue 149 = .ok (.iconst 1, 1) := by decide +kernel
theorem dX13_sayValue_150 : decode cX13_sayValue 150 = .ok (.iadd, 1) := by decide +kernel
theorem dX13_sayValue_151 : decode cX13_sayValue 151 = .ok (.istore 5, 2) := by decide +kernel
theorem dX13_sayValue_153 : decode cX13_sayValue 153 = .ok (.iload 5, 2) := by decide +kernel
theorem dX13_sayValue_155 : decode cX13_sayValue 155 = .ok (.iload_n 3, 1) := by decide +kernel
theorem dX13_sayValue_156 : decode cX13_sayValue 156 = .ok (.sipush 600, 3) := by decide +kernel
theorem dX13_sayValue_159 : decode cX13_sayValue 159 = .ok (.iadd, 1) := by decide +kernel
theorem dX13_sayValue_160 : decode cX13_sayValue 160 = .ok (.if_icmp .ge 87, 3) := by decide +kernel
theorem dX13_sayValue_163 : decode cX13_sayValue 163 = .ok (.iload 4, 2) := by decide +kernel
theorem dX13_sayValue_165 : decode cX13_sayValue 165 = .ok (.aload_n 0, 1) := by decide +kernel
theorem dX13_sayValue_166 : decode cX13_sayValue 166 = .ok (.getfield 36, 3) := by decide +kernel
theorem dX13_sayValue_169 : decode cX13_sayValue 169 = .ok (.iload_n 1, 1) := by decide +kernel
theorem dX13_sayValue_170 : decode cX13_sayValue 170 = .ok (.iaload, 1) := by decide +kernel
theorem dX13_sayValue_171 : decode cX13_sayValue 171 = .ok (.if_icmp .ge 76, 3) := by decide +kernel
theorem dX13_sayValue_174 : decode cX13_sayValue 174 = .ok (.aload_n 0, 1) := by decide +kernel
theorem dX13_sayValue_175 : decode cX13_sayValue 175 = .ok (.getfield 27, 3) := by decide +kernel
theorem dX13_sayValue_178 : decode cX13_sayValue 178 = .ok (.iload 5, 2) := by decide +kernel
theorem dX13_sayValue_180 : decode cX13_sayValue 180 = .ok (.iaload, 1) := by decide +kernel
theorem dX13_sayValue_181 : decode cX13_sayValue 181 = .ok (.iload_n 1, 1) := by decide +kernel
theorem dX13_sayValue_182 : decode cX13_sayValue 182 = .ok (.iload_n 3, 1) := by decide +kernel
theorem dX13_sayValue_183 : decode cX13_sayValue 183 = .ok (.isub, 1) := by decide +kernel
theorem dX13_sayValue_184 : decode cX13_sayValue 184 = .ok (.if_icmp .ne 57, 3) := by decide +kernel
theorem dX13_sayValue_187 : decode cX13_sayValue 187 = .ok (.iload 4, 2) := by decide +kernel
theorem dX13_sayValue_189 : decode cX13_sayValue 189 = .ok (.ifCond .le 9, 3) := by decide +kernel
theorem dX13_sayValue_192 : decode cX13_sayValue 192 = .ok (.aload_n 0, 1) := by decide +kernel
theorem dX13_sayValue_193 : decode cX13_sayValue 193 = .ok (.bipush 44, 2) := by decide +kernel
theorem dX13_sayValue_195 : decode cX13_sayValue 195 = .ok (.invokevirtual 470, 3) := by decide +kernel
theorem dX13_sayValue_198 : decode cX13_sayValue 198 = .ok (.iinc 4 1, 3) := by decide +kernel
theorem dX13_sayValue_201 : decode cX13_sayValue 201 = .ok (.iload_n 2, 1) := by decide +kernel
theorem dX13_sayValue_202 : decode cX13_sayValue 202 = .ok (.bipush 6, 2) := by decide +kernel
theorem dX13_sayValue_204 : decode cX13_sayValue 204 = .ok (.if_icmp .ne 31, 3) := by decide +kernel
theorem dX13_sayValue_207 : decode cX13_sayValue 207 = .ok (.aload_n 0, 1) := by decide +kernel
theorem dX13_sayValue_208 : decode cX13_sayValue 208 = .ok (.aload_n 0, 1) := by decide +kernel
theorem dX13_sayValue_209 : decode cX13_sayValue 209 = .ok (.getfield 51, 3) := by decide +kernel
theorem dX13_sayValue_212 : decode cX13_sayValue 212 = .ok (.aload_n 0, 1) := by decide +kernel
theorem dX13_sayValue_213 : decode cX13_sayValue 213 = .ok (.getfield 45, 3) := by decide +kernel
theorem dX13_sayValue_216 : decode cX13_sayValue 216 = .ok (.iload 5, 2) := by decide +kernel
theorem dX13_sayValue_218 : decode cX13_sayValue 218 = .ok (.iaload, 1) := by decide +kernel
theorem dX13_sayValue_219 : decode cX13_sayValue 219 = .ok (.aload_n 0, 1) := by decide +kernel
theorem dX13_sayValue_220 : decode cX13_sayValue 220 = .ok (.getfield 48, 3) := by decide +kernel
theorem dX13_sayValue_223 : decode cX13_sayValue 223 = .ok (.iload 5, 2) := by decide +kernel
theorem dX13_sayValue_225 : decode cX13_sayValue 225 = .ok (.iaload, 1) := by decide +kernel
theorem dX13_sayValue_226 : decode cX13_sayValue 226 = .ok (.invokevirtual 486, 3) := by decide +kernel
theorem dX13_sayValue_229 : decode cX13_sayValue 229 = .ok (.aload_n 0, 1) := by decide +kernel
theorem dX13_sayValue_230 : decode cX13_sayValue 230 = .ok (.bipush 58, 2) := by decide +kernel
theorem dX13_sayValue_232 : decode cX13_sayValue 232 = .ok (.invokevirtual 470, 3) := by decide +kernel
theorem dX13_sayValue_235 : decode cX13_sayValue 235 = .ok (.aload_n 0, 1) := by decide +kernel
theorem dX13_sayValue_236 : decode cX13_sayValue 236 = .ok (.iload 5, 2) := by decide +kernel
theorem dX13_sayValue_238 : decode cX13_sayValue 238 = .ok (.invokevirtual 480, 3) := by decide +kernel
theorem dX13_sayValue_241 : decode cX13_sayValue 241 = .ok (.iinc 5 1, 3) := by decide +kernel
theorem dX13_sayValue_244 : decode cX13_sayValue 244 = .ok (.goto (-91), 3) := by decide +kernel
theorem dX13_sayValue_247 : decode cX13_sayValue 247 = .ok (.aload_n 0, 1) := by decide +kernel
theorem dX13_sayValue_248 : decode cX13_sayValue 248 = .ok (.iload_n 2, 1) := by decide +kernel
theorem dX13_sayValue_249 : decode cX13_sayValue 249 = .ok (.iconst 5, 1) := by decide +kernel
theorem dX13_sayValue_250 : decode cX13_sayValue 250 = .ok (.if_icmp .ne 8, 3) := by decide +kernel
theorem dX13_sayValue_253 : decode cX13_sayValue 253 = .ok (.bipush 93, 2) := by decide +kernel
theorem dX13_sayValue_255 : decode cX13_sayValue 255 = .ok (.goto 5, 3) := by decide +kernel
theorem dX13_sayValue_258 : decode cX13_sayValue 258 = .ok (.bipush 125, 2) := by decide +kernel
theorem dX13_sayValue_260 : decode cX13_sayValue 260 = .ok (.invokevirtual 470, 3) := by decide +kernel
theorem dX13_sayValue_263 : decode cX13_sayValue 263 = .ok (.return_, 1) := by decide +kernel
abbrev rmX13_sayValue_o (fv lw : Nat) : Room := { frames := fv + 6, cells := 0, slots := 0, locals := lw + 133 }
set_option maxHeartbeats 4000000 in
set_option maxRecDepth 100000 in
theorem wB_X13_sayValue_o_198 {G : mG} {F : Nat} {fv lw : Nat} {rv : Nat → Int32 → mM → Option mM} (hrv : ∀ (a0 : Nat) (a1 : Int32) (M M1 : mM) (sz : Nat) (l : Launch) (D : mD) (A : Nat → Prop), rv a0 a1 M = some M1 → mMetV l D G A yX13_sayValue cX13_sayValue 6 none fv lw 0 0 [.ref a0, .int a1] M sz M1 sz) {x : mXT} {sz : Nat} {M0 : mM} (X : mCX G RX13 cX13_sayValue 6 none "sayValue" (rmX13_sayValue_o fv lw) x) (hQ : mQV x M0 (sz, 0, 0)) (r153 : Nat → Int32 → Int32 → Int32 → Int32 → Int32 → mM → Option mM) (hr153 : ∀ (l0 : Nat) (l1 : Int32) (l2 : Int32) (l3 : Int32) (l4 : Int32) (l5 : Int32) (M : mM), r153 l0 l1 l2 l3 l4 l5 M = some M0 → WW x (sz, 0, 0) M 153 [(0, .ref l0), (1, .int l1), (2, .int l2), (3, .int l3), (4, .int l4), (5, .int l5)] []) {l0 : Nat} {l1 : Int32} {l2 : Int32} {l3 : Int32} {l4 : Int32} {l5 : Int32} {M : mM} (h : B_X13_sayValue_o_198 G F rv r153 l0 l1 l2 l3 l4 l5 M = some M0) : WW x (sz, 0, 0) M 198 [(0, .ref l0), (1, .int l1), (2, .int l2), (3, .int l3), (4, .int l4), (5, .int l5)] [] := by
  unfold B_X13_sayValue_o_198 at h
  refine ww_iinc 198 X dX13_sayValue_198 (lv' := [(0, .ref l0), (1, .int l1), (2, .int l2), (3, .int l3), (4, .int (l4 + 1)), (5, .int l5)]) 4 rfl rfl (by decide) [1, 2, 3, 4, 0, 5] rfl ?_
  refine ww_iload_n 201 X dX13_sayValue_201 2 rfl rfl ?_
  refine ww_bipush 202 X (v := (6 : Int32)) dX13_sayValue_202 (by decide) ?_
  refine ww_icmp_ne 204 235 X dX13_sayValue_204 (by decide) (fun q => ?_) (fun q => ?_)
  · replace h := (if_neg q).symm.trans h
    refine ww_aload_n 235 X dX13_sayValue_235 0 rfl rfl ?_
    refine ww_iload 236 X dX13_sayValue_236 5 rfl ?_
    obtain ⟨_, f238, h⟩ := bO_some h
    obtain ⟨M238, e238, h⟩ := bO_some h
    refine ww_callVV0 238 X dX13_sayValue_238 mY_X13_sayValue mL_X13_480 (rcv_spec f238) ⟨_, _, rfl⟩ (by decide) (As := [.int l5]) (rest := []) rfl rfl ⟨by show _ ≤ fv + 6; omega, by show _ ≤ lw + 133; omega⟩ (Nat.le_of_ble_eq_true rfl) (fun l D A => hrv _ _ _ _ _ l D A e238) ?_
    refine ww_iinc 241 X dX13_sayValue_241 (lv' := [(0, .ref l0), (1, .int l1), (2, .int l2), (3, .int l3), (4, .int (l4 + 1)), (5, .int (l5 + 1))]) 5 rfl rfl (by decide) [1, 2, 3, 4, 5, 0] rfl ?_
    refine ww_goto 244 153 X dX13_sayValue_244 (by decide) ?_
    exact (hr153 _ _ _ _ _ _ _ h)
  · replace h := (if_pos q).symm.trans h
    refine ww_aload_n 207 X dX13_sayValue_207 0 rfl rfl ?_
    refine ww_aload_n 208 X dX13_sayValue_208 0 rfl rfl ?_
    obtain ⟨v209, e209, h⟩ := bO_some h
    refine ww_getR 209 X dX13_sayValue_209 fG_X13_51 e209 ?_
    refine ww_aload_n 212 X dX13_sayValue_212 0 rfl rfl ?_
    obtain ⟨v213, e213, h⟩ := bO_some h
    refine ww_getR 213 X dX13_sayValue_213 fG_X13_45 e213 ?_
    refine ww_iload 216 X dX13_sayValue_216 5 rfl ?_
    obtain ⟨v218, e218, h⟩ := bO_some h
    refine ww_iald 218 X dX13_sayValue_218 e218 ?_
    refine ww_aload_n 219 X dX13_sayValue_219 0 rfl rfl ?_
    obtain ⟨v220, e220, h⟩ := bO_some h
    refine ww_getR 220 X dX13_sayValue_220 fG_X13_48 e220 ?_
    refine ww_iload 223 X dX13_sayValue_223 5 rfl ?_
    obtain ⟨v225, e225, h⟩ := bO_some h
    refine ww_iald 225 X dX13_sayValue_225 e225 ?_
    obtain ⟨_, f226, h⟩ := bO_some h
    obtain ⟨M226, e226, h⟩ := bO_some h
    refine ww_callVV0 226 X dX13_sayValue_226 mY_X13_sayString mL_X13_486 (rcv_spec f226) ⟨_, _, rfl⟩ (by decide) (As := [.ref v209, .int v218, .int v225]) (rest := []) rfl rfl ⟨by show _ ≤ fv + 6; omega, by show _ ≤ lw + 133; omega⟩ (Nat.le_of_ble_eq_true rfl) (fun l D A => c_X13_sayString l D A e226) ?_
    refine ww_aload_n 229 X dX13_sayValue_229 0 rfl rfl ?_
    refine ww_bipush 230 X (v := (58 : Int32)) dX13_sayValue_230 (by decide) ?_
    obtain ⟨_, f232, h⟩ := bO_some h
    obtain ⟨M232, e232, h⟩ := bO_some h
    refine ww_callVV0 232 X dX13_sayValue_232 mY_X13_say mL_X13_470 (rcv_spec f232) ⟨_, _, rfl⟩ (by decide) (As := [.int (58 : Int32)]) (rest := []) rfl rfl ⟨by show _ ≤ fv + 6; omega, by show _ ≤ lw + 133; omega⟩ (Nat.le_of_ble_eq_true rfl) (fun l D A => c_X13_say l D A e232) ?_
    refine ww_aload_n 235 X dX13_sayValue_235 0 rfl rfl ?_
    refine ww_iload 236 X dX13_sayValue_236 5 rfl ?_
    obtain ⟨_, f238, h⟩ := bO_some h
    obtain ⟨M238, e238, h⟩ := bO_some h
    refine ww_callVV0 238 X dX13_sayValue_238 mY_X13_sayValue mL_X13_480 (rcv_spec f238) ⟨_, _, rfl⟩ (by decide) (As := [.int l5]) (rest := []) rfl rfl ⟨by show _ ≤ fv + 6; omega, by show _ ≤ lw + 133; omega⟩ (Nat.le_of_ble_eq_true rfl) (fun l D A => hrv _ _ _ _ _ l D A e238) ?_
    refine ww_iinc 241 X dX13_sayValue_241 (lv' := [(0, .ref l0), (1, .int l1), (2, .int l2), (3, .int l3), (4, .int (l4 + 1)), (5, .int (l5 + 1))]) 5 rfl rfl (by decide) [1, 2, 3, 4, 5, 0] rfl ?_
    refine ww_goto 244 153 X dX13_sayValue_244 (by decide) ?_
    exact (hr153 _ _ _ _ _ _ _ h)
set_option maxHeartbeats 4000000 in
set_option maxRecDepth 100000 in
theorem wB_X13_sayValue_o_153 {G : mG} {F : Nat} {fv lw : Nat} {rv : Nat → Int32 → mM → Option mM} (hrv : ∀ (a0 : Nat) (a1 : Int32) (M M1 : mM) (sz : Nat) (l : Launch) (D : mD) (A : Nat → Prop), rv a0 a1 M = some M1 → mMetV l D G A yX13_sayValue cX13_sayValue 6 none fv lw 0 0 [.ref a0, .int a1] M sz M1 sz) {x : mXT} {sz : Nat} {M0 : mM} (X : mCX G RX13 cX13_sayValue 6 none "sayValue" (rmX13_sayValue_o fv lw) x) (hQ : mQV x M0 (sz, 0, 0)) : ∀ (n : Nat) (l0 : Nat) (l1 : Int32) (l2 : Int32) (l3 : Int32) (l4 : Int32) (l5 : Int32) (M : mM), B_X13_sayValue_o_153 G F rv n l0 l1 l2 l3 l4 l5 M = some M0 → WW x (sz, 0, 0) M 153 [(0, .ref l0), (1, .int l1), (2, .int l2), (3, .int l3), (4, .int l4), (5, .int l5)] [] := by
  intro n
  induction n with
  | zero =>
    intro l0 l1 l2 l3 l4 l5 M h
    exact nomatch (show (none : Option mM) = some M0 from h)
  | succ n ih =>
    intro l0 l1 l2 l3 l4 l5 M h
    rw [B_X13_sayValue_o_153] at h
    refine ww_iload 153 X dX13_sayValue_153 5 rfl ?_
    refine ww_iload_n 155 X dX13_sayValue_155 3 rfl rfl ?_
    refine ww_sipush 156 X (v := (600 : Int32)) dX13_sayValue_156 (by decide) ?_
    refine ww_iadd 159 X dX13_sayValue_159 ?_
    refine ww_icmp_ge 160 247 X dX13_sayValue_160 (by decide) (fun q => ?_) (fun q => ?_)
    · replace h := (if_pos q).symm.trans h
      refine ww_aload_n 247 X dX13_sayValue_247 0 rfl rfl ?_
      refine ww_iload_n 248 X dX13_sayValue_248 2 rfl rfl ?_
      refine ww_iconst 249 X (v := (5 : Int32)) dX13_sayValue_249 (by decide) ?_
      refine ww_icmp_ne 250 258 X dX13_sayValue_250 (by decide) (fun q => ?_) (fun q => ?_)
      · replace h := (if_neg q).symm.trans h
        refine ww_bipush 258 X (v := (125 : Int32)) dX13_sayValue_258 (by decide) ?_
        obtain ⟨_, f260, h⟩ := bO_some h
        obtain ⟨M260, e260, h⟩ := bO_some h
        refine ww_callVV0 260 X dX13_sayValue_260 mY_X13_say mL_X13_470 (rcv_spec f260) ⟨_, _, rfl⟩ (by decide) (As := [.int (125 : Int32)]) (rest := []) rfl rfl ⟨by show _ ≤ fv + 6; omega, by show _ ≤ lw + 133; omega⟩ (Nat.le_of_ble_eq_true rfl) (fun l D A => c_X13_say l D A e260) ?_
        exact ww_vretE 263 X hQ dX13_sayValue_263 h
      · replace h := (if_pos q).symm.trans h
        refine ww_bipush 253 X (v := (93 : Int32)) dX13_sayValue_253 (by decide) ?_
        refine ww_goto 255 260 X dX13_sayValue_255 (by decide) ?_
        obtain ⟨_, f260, h⟩ := bO_some h
        obtain ⟨M260, e260, h⟩ := bO_some h
        refine ww_callVV0 260 X dX13_sayValue_260 mY_X13_say mL_X13_470 (rcv_spec f260) ⟨_, _, rfl⟩ (by decide) (As := [.int (93 : Int32)]) (rest := []) rfl rfl ⟨by show _ ≤ fv + 6; omega, by show _ ≤ lw + 133; omega⟩ (Nat.le_of_ble_eq_true rfl) (fun l D A => c_X13_say l D A e260) ?_
        exact ww_vretE 263 X hQ dX13_sayValue_263 h
    · replace h := (if_neg q).symm.trans h
      refine ww_iload 163 X dX13_sayValue_163 4 rfl ?_
      refine ww_aload_n 165 X dX13_sayValue_165 0 rfl rfl ?_
      obtain ⟨v166, e166, h⟩ := bO_some h
      refine ww_getR 166 X dX13_sayValue_166 fG_X13_36 e166 ?_
      refine ww_iload_n 169 X dX13_sayValue_169 1 rfl rfl ?_
      obtain ⟨v170, e170, h⟩ := bO_some h
      refine ww_iald 170 X dX13_sayValue_170 e170 ?_
      refine ww_icmp_ge 171 247 X dX13_sayValue_171 (by decide) (fun q => ?_) (fun q => ?_)
      · replace h := (if_pos q).symm.trans h
        refine ww_aload_n 247 X dX13_sayValue_247 0 rfl rfl ?_
        refine ww_iload_n 248 X dX13_sayValue_248 2 rfl rfl ?_
        refine ww_iconst 249 X (v := (5 : Int32)) dX13_sayValue_249 (by decide) ?_
        refine ww_icmp_ne 250 258 X dX13_sayValue_250 (by decide) (fun q => ?_) (fun q => ?_)
        · replace h := (if_neg q).symm.trans h
          refine ww_bipush 258 X (v := (125 : Int32)) dX13_sayValue_258 (by decide) ?_
          obtain ⟨_, f260, h⟩ := bO_some h
          obtain ⟨M260, e260, h⟩ := bO_some h
          refine ww_callVV0 260 X dX13_sayValue_260 mY_X13_say mL_X13_470 (rcv_spec f260) ⟨_, _, rfl⟩ (by decide) (As := [.int (125 : Int32)]) (rest := []) rfl rfl ⟨by show _ ≤ fv + 6; omega, by show _ ≤ lw + 133; omega⟩ (Nat.le_of_ble_eq_true rfl) (fun l D A => c_X13_say l D A e260) ?_
          exact ww_vretE 263 X hQ dX13_sayValue_263 h
        · replace h := (if_pos q).symm.trans h
          refine ww_bipush 253 X (v := (93 : Int32)) dX13_sayValue_253 (by decide) ?_
          refine ww_goto 255 260 X dX13_sayValue_255 (by decide) ?_
          obtain ⟨_, f260, h⟩ := bO_some h
          obtain ⟨M260, e260, h⟩ := bO_some h
          refine ww_callVV0 260 X dX13_sayValue_260 mY_X13_say mL_X13_470 (rcv_spec f260) ⟨_, _, rfl⟩ (by decide) (As := [.int (93 : Int32)]) (rest := []) rfl rfl ⟨by show _ ≤ fv + 6; omega, by show _ ≤ lw + 133; omega⟩ (Nat.le_of_ble_eq_true rfl) (fun l D A => c_X13_say l D A e260) ?_
          exact ww_vretE 263 X hQ dX13_sayValue_263 h
      · replace h := (if_neg q).symm.trans h
        refine ww_aload_n 174 X dX13_sayValue_174 0 rfl rfl ?_
        obtain ⟨v175, e175, h⟩ := bO_some h
        refine ww_getR 175 X dX13_sayValue_175 fG_X13_27 e175 ?_
        refine ww_iload 178 X dX13_sayValue_178 5 rfl ?_
        obtain ⟨v180, e180, h⟩ := bO_some h
        refine ww_iald 180 X dX13_sayValue_180 e180 ?_
        refine ww_iload_n 181 X dX13_sayValue_181 1 rfl rfl ?_
        refine ww_iload_n 182 X dX13_sayValue_182 3 rfl rfl ?_
        refine ww_isub 183 X dX13_sayValue_183 ?_
        refine ww_icmp_ne 184 241 X dX13_sayValue_184 (by decide) (fun q => ?_) (fun q => ?_)
        · replace h := (if_neg q).symm.trans h
          refine ww_iinc 241 X dX13_sayValue_241 (lv' := [(0, .ref l0), (1, .int l1), (2, .int l2), (3, .int l3), (4, .int l4), (5, .int (l5 + 1))]) 5 rfl rfl (by decide) [1, 2, 3, 4, 5, 0] rfl ?_
          refine ww_goto 244 153 X dX13_sayValue_244 (by decide) ?_
          exact (ih _ _ _ _ _ _ _ h)
        · replace h := (if_pos q).symm.trans h
          refine ww_iload 187 X dX13_sayValue_187 4 rfl ?_
          refine ww_if_le 189 198 X dX13_sayValue_189 (by decide) (fun q => ?_) (fun q => ?_)
          · replace h := (if_pos q).symm.trans h
            exact (wB_X13_sayValue_o_198 hrv X hQ _ ih h)
          · replace h := (if_neg q).symm.trans h
            refine ww_aload_n 192 X dX13_sayValue_192 0 rfl rfl ?_
            refine ww_bipush 193 X (v := (44 : Int32)) dX13_sayValue_193 (by decide) ?_
            obtain ⟨_, f195, h⟩ := bO_some h
            obtain ⟨M195, e195, h⟩ := bO_some h
            refine ww_callVV0 195 X dX13_sayValue_195 mY_X13_say mL_X13_470 (rcv_spec f195) ⟨_, _, rfl⟩ (by decide) (As := [.int (44 : Int32)]) (rest := []) rfl rfl ⟨by show _ ≤ fv + 6; omega, by show _ ≤ lw + 133; omega⟩ (Nat.le_of_ble_eq_true rfl) (fun l D A => c_X13_say l D A e195) ?_
            exact (wB_X13_sayValue_o_198 hrv X hQ _ ih h)
set_option maxHeartbeats 4000000 in
set_option maxRecDepth 100000 in
theorem wB_X13_sayValue_o_127 {G : mG} {F : Nat} {fv lw : Nat} {rv : Nat → Int32 → mM → Option mM} (hrv : ∀ (a0 : Nat) (a1 : Int32) (M M1 : mM) (sz : Nat) (l : Launch) (D : mD) (A : Nat → Prop), rv a0 a1 M = some M1 → mMetV l D G A yX13_sayValue cX13_sayValue 6 none fv lw 0 0 [.ref a0, .int a1] M sz M1 sz) {x : mXT} {sz : Nat} {M0 : mM} (X : mCX G RX13 cX13_sayValue 6 none "sayValue" (rmX13_sayValue_o fv lw) x) (hQ : mQV x M0 (sz, 0, 0)) {l0 : Nat} {l1 : Int32} {l2 : Int32} {sk0 : Nat} {sk1 : Int32} {M : mM} (h : B_X13_sayValue_o_127 G F rv l0 l1 l2 sk0 sk1 M = some M0) : WW x (sz, 0, 0) M 127 [(0, .ref l0), (1, .int l1), (2, .int l2)] [.int sk1, .ref sk0] := by
  unfold B_X13_sayValue_o_127 at h
  obtain ⟨_, f127, h⟩ := bO_some h
  obtain ⟨M127, e127, h⟩ := bO_some h
  refine ww_callVV0 127 X dX13_sayValue_127 mY_X13_say mL_X13_470 (rcv_spec f127) ⟨_, _, rfl⟩ (by decide) (As := [.int sk1]) (rest := []) rfl rfl ⟨by show _ ≤ fv + 6; omega, by show _ ≤ lw + 133; omega⟩ (Nat.le_of_ble_eq_true rfl) (fun l D A => c_X13_say l D A e127) ?_
  refine ww_iload_n 130 X dX13_sayValue_130 1 rfl rfl ?_
  refine ww_sipush 131 X (v := (600 : Int32)) dX13_sayValue_131 (by decide) ?_
  refine ww_icmp_lt 134 143 X dX13_sayValue_134 (by decide) (fun q => ?_) (fun q => ?_)
  · replace h := (if_pos q).symm.trans h
    refine ww_iconst 143 X (v := (0 : Int32)) dX13_sayValue_143 (by decide) ?_
    refine ww_istore_n 144 X dX13_sayValue_144 (lv' := [(0, .ref l0), (1, .int l1), (2, .int l2), (3, .int (0 : Int32))]) rfl (by decide) [1, 2, 3, 0] rfl ?_
    refine ww_iconst 145 X (v := (0 : Int32)) dX13_sayValue_145 (by decide) ?_
    refine ww_istore 146 X dX13_sayValue_146 (lv' := [(0, .ref l0), (1, .int l1), (2, .int l2), (3, .int (0 : Int32)), (4, .int (0 : Int32))]) (by decide) [1, 2, 3, 4, 0] rfl ?_
    refine ww_iload_n 148 X dX13_sayValue_148 1 rfl rfl ?_
    refine ww_iconst 149 X (v := (1 : Int32)) dX13_sayValue_149 (by decide) ?_
    refine ww_iadd 150 X dX13_sayValue_150 ?_
    refine ww_istore 151 X dX13_sayValue_151 (lv' := [(0, .ref l0), (1, .int l1), (2, .int l2), (3, .int (0 : Int32)), (4, .int (0 : Int32)), (5, .int (l1 + (1 : Int32)))]) (by decide) [1, 2, 3, 4, 5, 0] rfl ?_
    exact (wB_X13_sayValue_o_153 hrv X hQ F _ _ _ _ _ _ _ h)
  · replace h := (if_neg q).symm.trans h
    refine ww_sipush 137 X (v := (600 : Int32)) dX13_sayValue_137 (by decide) ?_
    refine ww_goto 140 144 X dX13_sayValue_140 (by decide) ?_
    refine ww_istore_n 144 X dX13_sayValue_144 (lv' := [(0, .ref l0), (1, .int l1), (2, .int l2), (3, .int (600 : Int32))]) rfl (by decide) [1, 2, 3, 0] rfl ?_
    refine ww_iconst 145 X (v := (0 : Int32)) dX13_sayValue_145 (by decide) ?_
    refine ww_istore 146 X dX13_sayValue_146 (lv' := [(0, .ref l0), (1, .int l1), (2, .int l2), (3, .int (600 : Int32)), (4, .int (0 : Int32))]) (by decide) [1, 2, 3, 4, 0] rfl ?_
    refine ww_iload_n 148 X dX13_sayValue_148 1 rfl rfl ?_
    refine ww_iconst 149 X (v := (1 : Int32)) dX13_sayValue_149 (by decide) ?_
    refine ww_iadd 150 X dX13_sayValue_150 ?_
    refine ww_istore 151 X dX13_sayValue_151 (lv' := [(0, .ref l0), (1, .int l1), (2, .int l2), (3, .int (600 : Int32)), (4, .int (0 : Int32)), (5, .int (l1 + (1 : Int32)))]) (by decide) [1, 2, 3, 4, 5, 0] rfl ?_
    exact (wB_X13_sayValue_o_153 hrv X hQ F _ _ _ _ _ _ _ h)
set_option maxHeartbeats 4000000 in
set_option maxRecDepth 100000 in
theorem wB_X13_sayValue_o_50 {G : mG} {F : Nat} {fv lw : Nat} {rv : Nat → Int32 → mM → Option mM} (hrv : ∀ (a0 : Nat) (a1 : Int32) (M M1 : mM) (sz : Nat) (l : Launch) (D : mD) (A : Nat → Prop), rv a0 a1 M = some M1 → mMetV l D G A yX13_sayValue cX13_sayValue 6 none fv lw 0 0 [.ref a0, .int a1] M sz M1 sz) {x : mXT} {sz : Nat} {M0 : mM} (X : mCX G RX13 cX13_sayValue 6 none "sayValue" (rmX13_sayValue_o fv lw) x) (hQ : mQV x M0 (sz, 0, 0)) : ∀ (n : Nat) (l0 : Nat) (l1 : Int32) (l3 : Int32) (M : mM), B_X13_sayValue_o_50 G F rv n l0 l1 l3 M = some M0 → WW x (sz, 0, 0) M 50 [(0, .ref l0), (1, .int l1), (3, .int l3)] [] := by
  intro n
  induction n with
  | zero =>
    intro l0 l1 l3 M h
    exact nomatch (show (none : Option mM) = some M0 from h)
  | succ n ih =>
    intro l0 l1 l3 M h
    rw [B_X13_sayValue_o_50] at h
    refine ww_iload_n 50 X dX13_sayValue_50 2 rfl rfl ?_
    refine ww_aload_n 51 X dX13_sayValue_51 0 rfl rfl ?_
    obtain ⟨v52, e52, h⟩ := bO_some h
    refine ww_getR 52 X dX13_sayValue_52 fG_X13_42 e52 ?_
    refine ww_iload_n 55 X dX13_sayValue_55 1 rfl rfl ?_
    obtain ⟨v56, e56, h⟩ := bO_some h
    refine ww_iald 56 X dX13_sayValue_56 e56 ?_
    refine ww_icmp_ge 57 83 X dX13_sayValue_57 (by decide) (fun q => ?_) (fun q => ?_)
    · replace h := (if_pos q).symm.trans h
      refine ww_goto 83 263 X dX13_sayValue_83 (by decide) ?_
      exact ww_vretE 263 X hQ dX13_sayValue_263 h
    · replace h := (if_neg q).symm.trans h
      refine ww_aload_n 60 X dX13_sayValue_60 0 rfl rfl ?_
      refine ww_aload_n 61 X dX13_sayValue_61 0 rfl rfl ?_
      obtain ⟨v62, e62, h⟩ := bO_some h
      refine ww_getR 62 X dX13_sayValue_62 fG_X13_51 e62 ?_
      refine ww_aload_n 65 X dX13_sayValue_65 0 rfl rfl ?_
      obtain ⟨v66, e66, h⟩ := bO_some h
      refine ww_getR 66 X dX13_sayValue_66 fG_X13_39 e66 ?_
      refine ww_iload_n 69 X dX13_sayValue_69 1 rfl rfl ?_
      obtain ⟨v70, e70, h⟩ := bO_some h
      refine ww_iald 70 X dX13_sayValue_70 e70 ?_
      refine ww_iload_n 71 X dX13_sayValue_71 2 rfl rfl ?_
      refine ww_iadd 72 X dX13_sayValue_72 ?_
      obtain ⟨v73, e73, h⟩ := bO_some h
      refine ww_bald 73 X dX13_sayValue_73 e73 ?_
      obtain ⟨_, f74, h⟩ := bO_some h
      obtain ⟨M74, e74, h⟩ := bO_some h
      refine ww_callVV0 74 X dX13_sayValue_74 mY_X13_say mL_X13_470 (rcv_spec f74) ⟨_, _, rfl⟩ (by decide) (As := [.int v73]) (rest := []) rfl rfl ⟨by show _ ≤ fv + 6; omega, by show _ ≤ lw + 133; omega⟩ (Nat.le_of_ble_eq_true rfl) (fun l D A => c_X13_say l D A e74) ?_
      refine ww_iinc 77 X dX13_sayValue_77 (lv' := [(0, .ref l0), (1, .int l1), (3, .int (l3 + 1))]) 2 rfl rfl (by decide) [1, 2, 0] rfl ?_
      refine ww_goto 80 50 X dX13_sayValue_80 (by decide) ?_
      exact (ih _ _ _ _ h)
set_option maxHeartbeats 4000000 in
set_option maxRecDepth 100000 in
theorem wP_X13_sayValue_o {G : mG} {F : Nat} {fv lw : Nat} {rv : Nat → Int32 → mM → Option mM} (hrv : ∀ (a0 : Nat) (a1 : Int32) (M M1 : mM) (sz : Nat) (l : Launch) (D : mD) (A : Nat → Prop), rv a0 a1 M = some M1 → mMetV l D G A yX13_sayValue cX13_sayValue 6 none fv lw 0 0 [.ref a0, .int a1] M sz M1 sz) {x : mXT} {sz : Nat} {M0 : mM} (X : mCX G RX13 cX13_sayValue 6 none "sayValue" (rmX13_sayValue_o fv lw) x) (hQ : mQV x M0 (sz, 0, 0)) {l0 : Nat} {l1 : Int32} {M : mM} (h : P_X13_sayValue_o G F rv l0 l1 M = some M0) : WW x (sz, 0, 0) M 0 [(0, .ref l0), (1, .int l1)] [] := by
  unfold P_X13_sayValue_o at h
  refine ww_aload_n 0 X dX13_sayValue_0 0 rfl rfl ?_
  obtain ⟨v1, e1, h⟩ := bO_some h
  refine ww_getR 1 X dX13_sayValue_1 fG_X13_24 e1 ?_
  refine ww_iload_n 4 X dX13_sayValue_4 1 rfl rfl ?_
  obtain ⟨v5, e5, h⟩ := bO_some h
  refine ww_iald 5 X dX13_sayValue_5 e5 ?_
  refine ww_istore_n 6 X dX13_sayValue_6 (lv' := [(0, .ref l0), (1, .int l1), (2, .int v5)]) rfl (by decide) [1, 2, 0] rfl ?_
  refine ww_iload_n 7 X dX13_sayValue_7 2 rfl rfl ?_
  refine ww_iconst 8 X (v := (3 : Int32)) dX13_sayValue_8 (by decide) ?_
  refine ww_icmp_ge 9 43 X dX13_sayValue_9 (by decide) (fun q => ?_) (fun q => ?_)
  · replace h := (if_pos q).symm.trans h
    refine ww_iload_n 43 X dX13_sayValue_43 2 rfl rfl ?_
    refine ww_iconst 44 X (v := (3 : Int32)) dX13_sayValue_44 (by decide) ?_
    refine ww_icmp_ne 45 86 X dX13_sayValue_45 (by decide) (fun q => ?_) (fun q => ?_)
    · replace h := (if_neg q).symm.trans h
      refine ww_iload_n 86 X dX13_sayValue_86 2 rfl rfl ?_
      refine ww_iconst 87 X (v := (4 : Int32)) dX13_sayValue_87 (by decide) ?_
      refine ww_icmp_ne 88 114 X dX13_sayValue_88 (by decide) (fun q => ?_) (fun q => ?_)
      · replace h := (if_neg q).symm.trans h
        refine ww_aload_n 114 X dX13_sayValue_114 0 rfl rfl ?_
        refine ww_iload_n 115 X dX13_sayValue_115 2 rfl rfl ?_
        refine ww_iconst 116 X (v := (5 : Int32)) dX13_sayValue_116 (by decide) ?_
        refine ww_icmp_ne 117 125 X dX13_sayValue_117 (by decide) (fun q => ?_) (fun q => ?_)
        · replace h := (if_neg q).symm.trans h
          refine ww_bipush 125 X (v := (123 : Int32)) dX13_sayValue_125 (by decide) ?_
          exact (wB_X13_sayValue_o_127 hrv X hQ h)
        · replace h := (if_pos q).symm.trans h
          refine ww_bipush 120 X (v := (91 : Int32)) dX13_sayValue_120 (by decide) ?_
          refine ww_goto 122 127 X dX13_sayValue_122 (by decide) ?_
          exact (wB_X13_sayValue_o_127 hrv X hQ h)
      · replace h := (if_pos q).symm.trans h
        refine ww_aload_n 91 X dX13_sayValue_91 0 rfl rfl ?_
        refine ww_aload_n 92 X dX13_sayValue_92 0 rfl rfl ?_
        obtain ⟨v93, e93, h⟩ := bO_some h
        refine ww_getR 93 X dX13_sayValue_93 fG_X13_51 e93 ?_
        refine ww_aload_n 96 X dX13_sayValue_96 0 rfl rfl ?_
        obtain ⟨v97, e97, h⟩ := bO_some h
        refine ww_getR 97 X dX13_sayValue_97 fG_X13_39 e97 ?_
        refine ww_iload_n 100 X dX13_sayValue_100 1 rfl rfl ?_
        obtain ⟨v101, e101, h⟩ := bO_some h
        refine ww_iald 101 X dX13_sayValue_101 e101 ?_
        refine ww_aload_n 102 X dX13_sayValue_102 0 rfl rfl ?_
        obtain ⟨v103, e103, h⟩ := bO_some h
        refine ww_getR 103 X dX13_sayValue_103 fG_X13_42 e103 ?_
        refine ww_iload_n 106 X dX13_sayValue_106 1 rfl rfl ?_
        obtain ⟨v107, e107, h⟩ := bO_some h
        refine ww_iald 107 X dX13_sayValue_107 e107 ?_
        obtain ⟨_, f108, h⟩ := bO_some h
        obtain ⟨M108, e108, h⟩ := bO_some h
        refine ww_callVV0 108 X dX13_sayValue_108 mY_X13_sayString mL_X13_486 (rcv_spec f108) ⟨_, _, rfl⟩ (by decide) (As := [.ref v93, .int v101, .int v107]) (rest := []) rfl rfl ⟨by show _ ≤ fv + 6; omega, by show _ ≤ lw + 133; omega⟩ (Nat.le_of_ble_eq_true rfl) (fun l D A => c_X13_sayString l D A e108) ?_
        refine ww_goto 111 263 X dX13_sayValue_111 (by decide) ?_
        exact ww_vretE 263 X hQ dX13_sayValue_263 h
    · replace h := (if_pos q).symm.trans h
      refine ww_iconst 48 X (v := (0 : Int32)) dX13_sayValue_48 (by decide) ?_
      refine ww_istore_n 49 X dX13_sayValue_49 (lv' := [(0, .ref l0), (1, .int l1), (2, .int v5), (3, .int (0 : Int32))]) rfl (by decide) [1, 2, 3, 0] rfl ?_
      exact ww_sub [0, 1, 3] rfl (wB_X13_sayValue_o_50 hrv X hQ F _ _ _ _ h)
  · replace h := (if_neg q).symm.trans h
    refine ww_aload_n 12 X dX13_sayValue_12 0 rfl rfl ?_
    refine ww_iload_n 13 X dX13_sayValue_13 2 rfl rfl ?_
    refine ww_if_ne 14 23 X dX13_sayValue_14 (by decide) (fun q => ?_) (fun q => ?_)
    · replace h := (if_neg q).symm.trans h
      refine ww_iload_n 23 X dX13_sayValue_23 2 rfl rfl ?_
      refine ww_iconst 24 X (v := (1 : Int32)) dX13_sayValue_24 (by decide) ?_
      refine ww_icmp_ne 25 34 X dX13_sayValue_25 (by decide) (fun q => ?_) (fun q => ?_)
      · replace h := (if_neg q).symm.trans h
        refine ww_ldsw 34 X (j := 79) dX13_sayValue_34 rfl ?_
        obtain ⟨_, f37, h⟩ := bO_some h
        obtain ⟨M37, e37, h⟩ := bO_some h
        refine ww_callVV0 37 X dX13_sayValue_37 mY_X13_sayAll mL_X13_477 (rcv_spec f37) ⟨_, _, rfl⟩ (by decide) (As := [.ref (G.1 79)]) (rest := []) rfl rfl ⟨by show _ ≤ fv + 6; omega, by show _ ≤ lw + 133; omega⟩ (Nat.le_of_ble_eq_true rfl) (fun l D A => c_X13_sayAll l D A e37) ?_
        refine ww_goto 40 263 X dX13_sayValue_40 (by decide) ?_
        exact ww_vretE 263 X hQ dX13_sayValue_263 h
      · replace h := (if_pos q).symm.trans h
        refine ww_ldsw 28 X (j := 80) dX13_sayValue_28 rfl ?_
        refine ww_goto 31 37 X dX13_sayValue_31 (by decide) ?_
        obtain ⟨_, f37, h⟩ := bO_some h
        obtain ⟨M37, e37, h⟩ := bO_some h
        refine ww_callVV0 37 X dX13_sayValue_37 mY_X13_sayAll mL_X13_477 (rcv_spec f37) ⟨_, _, rfl⟩ (by decide) (As := [.ref (G.1 80)]) (rest := []) rfl rfl ⟨by show _ ≤ fv + 6; omega, by show _ ≤ lw + 133; omega⟩ (Nat.le_of_ble_eq_true rfl) (fun l D A => c_X13_sayAll l D A e37) ?_
        refine ww_goto 40 263 X dX13_sayValue_40 (by decide) ?_
        exact ww_vretE 263 X hQ dX13_sayValue_263 h
    · replace h := (if_pos q).symm.trans h
      refine ww_ldsw 17 X (j := 81) dX13_sayValue_17 rfl ?_
      refine ww_goto 20 37 X dX13_sayValue_20 (by decide) ?_
      obtain ⟨_, f37, h⟩ := bO_some h
      obtain ⟨M37, e37, h⟩ := bO_some h
      refine ww_callVV0 37 X dX13_sayValue_37 mY_X13_sayAll mL_X13_477 (rcv_spec f37) ⟨_, _, rfl⟩ (by decide) (As := [.ref (G.1 81)]) (rest := []) rfl rfl ⟨by show _ ≤ fv + 6; omega, by show _ ≤ lw + 133; omega⟩ (Nat.le_of_ble_eq_true rfl) (fun l D A => c_X13_sayAll l D A e37) ?_
      refine ww_goto 40 263 X dX13_sayValue_40 (by decide) ?_
      exact ww_vretE 263 X hQ dX13_sayValue_263 h
theorem c_X13_sayValue_o {G : mG} {F sz fv lw : Nat} {rv : Nat → Int32 → mM → Option mM} {M0 : mM} (hrv : ∀ (a0 : Nat) (a1 : Int32) (M M1 : mM) (sz : Nat) (l : Launch) (D : mD) (A : Nat → Prop), rv a0 a1 M = some M1 → mMetV l D G A yX13_sayValue cX13_sayValue 6 none fv lw 0 0 [.ref a0, .int a1] M sz M1 sz) (l : Launch) (D : mD) (A : Nat → Prop) {l0 : Nat} {l1 : Int32} {M : mM} (h : P_X13_sayValue_o G F rv l0 l1 M = some M0) : mMetV l D G A yX13_sayValue cX13_sayValue 6 none (fv + 6) (lw + 133) 0 0 [.ref l0, .int l1] M sz M0 sz := mMetV_of l D G A (by decide) (Nat.le_of_ble_eq_true rfl) (fun x X hQ => wP_X13_sayValue_o hrv X hQ h)
theorem cD_X13_sayValue {G : mG} {F : Nat} : ∀ (d : Nat) (l0 : Nat) (l1 : Int32) (M : mM) (M0 : mM) (sz : Nat) (l : Launch) (D : mD) (A : Nat → Prop), PD_X13_sayValue G F d l0 l1 M = some M0 → mMetV l D G A yX13_sayValue cX13_sayValue 6 none (6 * d) (133 * d) 0 0 [.ref l0, .int l1] M sz M0 sz := by
  intro d
  induction d with
  | zero =>
    intro l0 l1 M M0 sz l D A h
    exact nomatch (show (none : Option mM) = some M0 from h)
  | succ d ih =>
    intro l0 l1 M M0 sz l D A h
    rw [PD_X13_sayValue] at h
    exact c_X13_sayValue_o ih l D A h
theorem c_X13_sayValue {G : mG} {F sz : Nat} {M0 : mM} (l : Launch) (D : mD) (A : Nat → Prop) {l0 : Nat} {l1 : Int32} {M : mM} (h : P_X13_sayValue G F l0 l1 M = some M0) : mMetV l D G A yX13_sayValue cX13_sayValue 6 none 270 5985 0 0 [.ref l0, .int l1] M sz M0 sz := cD_X13_sayValue 45 l0 l1 M M0 sz l D A h
/-! SealedTokensModel.write(I)I -/
theorem dX13_write_0 : decode cX13_write 0 = .ok (.aload_n 0, 1) := by decide +kernel
theorem dX13_write_1 : decode cX13_write 1 = .ok (.iload_n 1, 1) := by decide +kernel
theorem dX13_write_2 : decode cX13_write 2 = .ok (.invokevirtual 460, 3) := by decide +kernel
theorem dX13_write_5 : decode cX13_write 5 = .ok (.ifCond .ne 6, 3) := by decide +kernel
theorem dX13_write_8 : decode cX13_write 8 = .ok (.bipush (-2), 2) := by decide +kernel
theorem dX13_write_10 : decode cX13_write 10 = .ok (.ireturn, 1) := by decide +kernel
theorem dX13_write_11 : decode cX13_write 11 = .ok (.aload_n 0, 1) := by decide +kernel
theorem dX13_write_12 : decode cX13_write 12 = .ok (.iconst 0, 1) := by decide +kernel
theorem dX13_write_13 : decode cX13_write 13 = .ok (.putfield 467, 3) := by decide +kernel
theorem dX13_write_16 : decode cX13_write 16 = .ok (.aload_n 0, 1) := by decide +kernel
theorem dX13_write_17 : decode cX13_write 17 = .ok (.sipush 600, 3) := by decide +kernel
theorem dX13_write_20 : decode cX13_write 20 = .ok (.aload_n 0, 1) := by decide +kernel
theorem dX13_write_21 : decode cX13_write 21 = .ok (.getfield 449, 3) := by decide +kernel
theorem dX13_write_24 : decode cX13_write 24 = .ok (.imul, 1) := by decide +kernel
theorem dX13_write_25 : decode cX13_write 25 = .ok (.iload_n 1, 1) := by decide +kernel
theorem dX13_write_26 : decode cX13_write 26 = .ok (.iadd, 1) := by decide +kernel
theorem dX13_write_27 : decode cX13_write 27 = .ok (.invokevirtual 480, 3) := by decide +kernel
theorem dX13_write_30 : decode cX13_write 30 = .ok (.aload_n 0, 1) := by decide +kernel
theorem dX13_write_31 : decode cX13_write 31 = .ok (.invokevirtual 483, 3) := by decide +kernel
theorem dX13_write_34 : decode cX13_write 34 = .ok (.ireturn, 1) := by decide +kernel
abbrev rmX13_write : Room := { frames := 271, cells := 0, slots := 0, locals := 6010 }
set_option maxHeartbeats 4000000 in
set_option maxRecDepth 100000 in
theorem wP_X13_write {G : mG} {F : Nat} {x : mXT} {sz : Nat} {r0 : Int32} {M0 : mM} (X : mCX G RX13 cX13_write 2 (some .int) "write" rmX13_write x) (hQ : mQI x r0 M0 (sz, 0, 0)) {l0 : Nat} {l1 : Int32} {M : mM} (h : P_X13_write G F l0 l1 M = some (r0, M0)) : WW x (sz, 0, 0) M 0 [(0, .ref l0), (1, .int l1)] [] := by
  unfold P_X13_write at h
  refine ww_aload_n 0 X dX13_write_0 0 rfl rfl ?_
  refine ww_iload_n 1 X dX13_write_1 1 rfl rfl ?_
  obtain ⟨_, f2, h⟩ := bO_some h
  obtain ⟨v2, M2, e2, h⟩ := bP_some h
  refine ww_callVI0 2 X dX13_write_2 mY_X13_isValue mL_X13_460 (rcv_spec f2) ⟨_, _, rfl⟩ (by decide) (As := [.int l1]) (rest := []) rfl rfl ⟨Nat.le_of_ble_eq_true rfl, Nat.le_of_ble_eq_true rfl⟩ (Nat.le_of_ble_eq_true rfl) (fun l D A => c_X13_isValue l D A e2) ?_
  refine ww_if_ne 5 11 X dX13_write_5 (by decide) (fun q => ?_) (fun q => ?_)
  · replace h := (if_neg q).symm.trans h
    refine ww_aload_n 11 X dX13_write_11 0 rfl rfl ?_
    refine ww_iconst 12 X (v := (0 : Int32)) dX13_write_12 (by decide) ?_
    obtain ⟨M13, e13, h⟩ := bO_some h
    refine ww_putI 13 X dX13_write_13 (fP_X13_467 _) e13 ?_
    refine ww_aload_n 16 X dX13_write_16 0 rfl rfl ?_
    refine ww_sipush 17 X (v := (600 : Int32)) dX13_write_17 (by decide) ?_
    refine ww_aload_n 20 X dX13_write_20 0 rfl rfl ?_
    obtain ⟨v21, e21, h⟩ := bO_some h
    refine ww_getI 21 X dX13_write_21 fG_X13_449 e21 ?_
    refine ww_imul 24 X dX13_write_24 ?_
    refine ww_iload_n 25 X dX13_write_25 1 rfl rfl ?_
    refine ww_iadd 26 X dX13_write_26 ?_
    obtain ⟨_, f27, h⟩ := bO_some h
    obtain ⟨M27, e27, h⟩ := bO_some h
    refine ww_callVV0 27 X dX13_write_27 mY_X13_sayValue mL_X13_480 (rcv_spec f27) ⟨_, _, rfl⟩ (by decide) (As := [.int (((600 : Int32) * v21) + l1)]) (rest := []) rfl rfl ⟨Nat.le_of_ble_eq_true rfl, Nat.le_of_ble_eq_true rfl⟩ (Nat.le_of_ble_eq_true rfl) (fun l D A => c_X13_sayValue l D A e27) ?_
    refine ww_aload_n 30 X dX13_write_30 0 rfl rfl ?_
    obtain ⟨_, f31, h⟩ := bO_some h
    obtain ⟨v31, M31, e31, h⟩ := bP_some h
    refine ww_callVI0 31 X dX13_write_31 mY_X13_saved mL_X13_483 (rcv_spec f31) ⟨_, _, rfl⟩ (by decide) (As := []) (rest := []) rfl rfl ⟨Nat.le_of_ble_eq_true rfl, Nat.le_of_ble_eq_true rfl⟩ (Nat.le_of_ble_eq_true rfl) (fun l D A => c_X13_saved l D A e31) ?_
    exact ww_iretE 34 X hQ dX13_write_34 h
  · replace h := (if_pos q).symm.trans h
    refine ww_bipush 8 X (v := (-2 : Int32)) dX13_write_8 (by decide) ?_
    exact ww_iretE 10 X hQ dX13_write_10 h
theorem c_X13_write {G : mG} {F sz : Nat} {r0 : Int32} {M0 : mM} (l : Launch) (D : mD) (A : Nat → Prop) {l0 : Nat} {l1 : Int32} {M : mM} (h : P_X13_write G F l0 l1 M = some (r0, M0)) : mMetI l D G A yX13_write cX13_write 2 (some .int) 271 6010 0 0 [.ref l0, .int l1] M sz r0 M0 sz := mMetI_of l D G A (by decide) (Nat.le_of_ble_eq_true rfl) (fun x X hQ => wP_X13_write X hQ h)
/-! SealedTokensModel.letterOf(I)I -/
theorem dX13_letterOf_0 : decode cX13_letterOf 0 = .ok (.iload_n 0, 1) := by decide +kernel
theorem dX13_letterOf_1 : decode cX13_letterOf 1 = .ok (.bipush 26, 2) := by decide +kernel
theorem dX13_letterOf_3 : decode cX13_letterOf 3 = .ok (.if_icmp .ge 10, 3) := by decide +kernel
theorem dX13_letterOf_6 : decode cX13_letterOf 6 = .ok (.bipush 65, 2) := by decide +kernel
theorem dX13_letterOf_8 : decode cX13_letterOf 8 = .ok (.iload_n 0, 1) := by decide +kernel
theorem dX13_letterOf_9 : decode cX13_letterOf 9 = .ok (.iadd, 1) := by decide +kernel
theorem dX13_letterOf_10 : decode cX13_letterOf 10 = .ok (.goto 48, 3) := by decide +kernel
theorem dX13_letterOf_13 : decode cX13_letterOf 13 = .ok (.iload_n 0, 1) := by decide +kernel
theorem dX13_letterOf_14 : decode cX13_letterOf 14 = .ok (.bipush 52, 2) := by decide +kernel
theorem dX13_letterOf_16 : decode cX13_letterOf 16 = .ok (.if_icmp .ge 13, 3) := by decide +kernel
theorem dX13_letterOf_19 : decode cX13_letterOf 19 = .ok (.bipush 97, 2) := by decide +kernel
theorem dX13_letterOf_21 : decode cX13_letterOf 21 = .ok (.iload_n 0, 1) := by decide +kernel
theorem dX13_letterOf_22 : decode cX13_letterOf 22 = .ok (.iadd, 1) := by decide +kernel
theorem dX13_letterOf_23 : decode cX13_letterOf 23 = .ok (.bipush 26, 2) := by decide +kernel
theorem dX13_letterOf_25 : decode cX13_letterOf 25 = .ok (.isub, 1) := by decide +kernel
theorem dX13_letterOf_26 : decode cX13_letterOf 26 = .ok (.goto 32, 3) := by decide +kernel
theorem dX13_letterOf_29 : decode cX13_letterOf 29 = .ok (.iload_n 0, 1) := by decide +kernel
theorem dX13_letterOf_30 : decode cX13_letterOf 30 = .ok (.bipush 62, 2) := by decide +kernel
theorem dX13_letterOf_32 : decode cX13_letterOf 32 = .ok (.if_icmp .ge 13, 3) := by decide +kernel
theorem dX13_letterOf_35 : decode cX13_letterOf 35 = .ok (.bipush 48, 2) := by decide +kernel
theorem dX13_letterOf_37 : decode cX13_letterOf 37 = .ok (.iload_n 0, 1) := by decide +kernel
theorem dX13_letterOf_38 : decode cX13_letterOf 38 = .ok (.iadd, 1) := by decide +kernel
theorem dX13_letterOf_39 : decode cX13_letterOf 39 = .ok (.bipush 52, 2) := by decide +kernel
theorem dX13_letterOf_41 : decode cX13_letterOf 41 = .ok (.isub, 1) := by decide +kernel
theorem dX13_letterOf_42 : decode cX13_letterOf 42 = .ok (.goto 16, 3) := by decide +kernel
theorem dX13_letterOf_45 : decode cX13_letterOf 45 = .ok (.iload_n 0, 1) := by decide +kernel
theorem dX13_letterOf_46 : decode cX13_letterOf 46 = .ok (.bipush 62, 2) := by decide +kernel
theorem dX13_letterOf_48 : decode cX13_letterOf 48 = .ok (.if_icmp .ne 8, 3) := by decide +kernel
theorem dX13_letterOf_51 : decode cX13_letterOf 51 = .ok (.bipush 45, 2) := by decide +kernel
theorem dX13_letterOf_53 : decode cX13_letterOf 53 = .ok (.goto 5, 3) := by decide +kernel
theorem dX13_letterOf_56 : decode cX13_letterOf 56 = .ok (.bipush 95, 2) := by decide +kernel
theorem dX13_letterOf_58 : decode cX13_letterOf 58 = .ok (.ireturn, 1) := by decide +kernel
abbrev rmX13_letterOf : Room := { frames := 0, cells := 0, slots := 0, locals := 0 }
set_option maxHeartbeats 4000000 in
set_option maxRecDepth 100000 in
theorem wP_X13_letterOf {G : mG} {F : Nat} {x : mXT} {sz : Nat} {r0 : Int32} {M0 : mM} (X : mCX G RX13 cX13_letterOf 1 (some .int) "letterOf" rmX13_letterOf x) (hQ : mQI x r0 M0 (sz, 0, 0)) {l0 : Int32} {M : mM} (h : P_X13_letterOf G F l0 M = some (r0, M0)) : WW x (sz, 0, 0) M 0 [(0, .int l0)] [] := by
  unfold P_X13_letterOf at h
  refine ww_iload_n 0 X dX13_letterOf_0 0 rfl rfl ?_
  refine ww_bipush 1 X (v := (26 : Int32)) dX13_letterOf_1 (by decide) ?_
  refine ww_icmp_ge 3 13 X dX13_letterOf_3 (by decide) (fun q => ?_) (fun q => ?_)
  · replace h := (if_pos q).symm.trans h
    refine ww_iload_n 13 X dX13_letterOf_13 0 rfl rfl ?_
    refine ww_bipush 14 X (v := (52 : Int32)) dX13_letterOf_14 (by decide) ?_
    refine ww_icmp_ge 16 29 X dX13_letterOf_16 (by decide) (fun q => ?_) (fun q => ?_)
    · replace h := (if_pos q).symm.trans h
      refine ww_iload_n 29 X dX13_letterOf_29 0 rfl rfl ?_
      refine ww_bipush 30 X (v := (62 : Int32)) dX13_letterOf_30 (by decide) ?_
      refine ww_icmp_ge 32 45 X dX13_letterOf_32 (by decide) (fun q => ?_) (fun q => ?_)
      · replace h := (if_pos q).symm.trans h
        refine ww_iload_n 45 X dX13_letterOf_45 0 rfl rfl ?_
        refine ww_bipush 46 X (v := (62 : Int32)) dX13_letterOf_46 (by decide) ?_
        refine ww_icmp_ne 48 56 X dX13_letterOf_48 (by decide) (fun q => ?_) (fun q => ?_)
        · replace h := (if_neg q).symm.trans h
          refine ww_bipush 56 X (v := (95 : Int32)) dX13_letterOf_56 (by decide) ?_
          exact ww_iretE 58 X hQ dX13_letterOf_58 h
        · replace h := (if_pos q).symm.trans h
          refine ww_bipush 51 X (v := (45 : Int32)) dX13_letterOf_51 (by decide) ?_
          refine ww_goto 53 58 X dX13_letterOf_53 (by decide) ?_
          exact ww_iretE 58 X hQ dX13_letterOf_58 h
      · replace h := (if_neg q).symm.trans h
        refine ww_bipush 35 X (v := (48 : Int32)) dX13_letterOf_35 (by decide) ?_
        refine ww_iload_n 37 X dX13_letterOf_37 0 rfl rfl ?_
        refine ww_iadd 38 X dX13_letterOf_38 ?_
        refine ww_bipush 39 X (v := (52 : Int32)) dX13_letterOf_39 (by decide) ?_
        refine ww_isub 41 X dX13_letterOf_41 ?_
        refine ww_goto 42 58 X dX13_letterOf_42 (by decide) ?_
        exact ww_iretE 58 X hQ dX13_letterOf_58 h
    · replace h := (if_neg q).symm.trans h
      refine ww_bipush 19 X (v := (97 : Int32)) dX13_letterOf_19 (by decide) ?_
      refine ww_iload_n 21 X dX13_letterOf_21 0 rfl rfl ?_
      refine ww_iadd 22 X dX13_letterOf_22 ?_
      refine ww_bipush 23 X (v := (26 : Int32)) dX13_letterOf_23 (by decide) ?_
      refine ww_isub 25 X dX13_letterOf_25 ?_
      refine ww_goto 26 58 X dX13_letterOf_26 (by decide) ?_
      exact ww_iretE 58 X hQ dX13_letterOf_58 h
  · replace h := (if_neg q).symm.trans h
    refine ww_bipush 6 X (v := (65 : Int32)) dX13_letterOf_6 (by decide) ?_
    refine ww_iload_n 8 X dX13_letterOf_8 0 rfl rfl ?_
    refine ww_iadd 9 X dX13_letterOf_9 ?_
    refine ww_goto 10 58 X dX13_letterOf_10 (by decide) ?_
    exact ww_iretE 58 X hQ dX13_letterOf_58 h
theorem c_X13_letterOf {G : mG} {F sz : Nat} {r0 : Int32} {M0 : mM} (l : Launch) (D : mD) (A : Nat → Prop) {l0 : Int32} {M : mM} (h : P_X13_letterOf G F l0 M = some (r0, M0)) : mMetI l D G A yX13_letterOf cX13_letterOf 1 (some .int) 0 0 0 0 [.int l0] M sz r0 M0 sz := mMetI_of l D G A (by decide) (Nat.le_of_ble_eq_true rfl) (fun x X hQ => wP_X13_letterOf X hQ h)
/-! SealedTokensModel.sixOf(I)I -/
theorem dX13_sixOf_0 : decode cX13_sixOf 0 = .ok (.iload_n 0, 1) := by decide +kernel
theorem dX13_sixOf_1 : decode cX13_sixOf 1 = .ok (.bipush 65, 2) := by decide +kernel
theorem dX13_sixOf_3 : decode cX13_sixOf 3 = .ok (.if_icmp .lt 16, 3) := by decide +kernel
theorem dX13_sixOf_6 : decode cX13_sixOf 6 = .ok (.iload_n 0, 1) := by decide +kernel
theorem dX13_sixOf_7 : decode cX13_sixOf 7 = .ok (.bipush 90, 2) := by decide +kernel
theorem dX13_sixOf_9 : decode cX13_sixOf 9 = .ok (.if_icmp .gt 10, 3) := by decide +kernel
theorem dX13_sixOf_12 : decode cX13_sixOf 12 = .ok (.iload_n 0, 1) := by decide +kernel
theorem dX13_sixOf_13 : decode cX13_sixOf 13 = .ok (.bipush 65, 2) := by decide +kernel
theorem dX13_sixOf_15 : decode cX13_sixOf 15 = .ok (.isub, 1) := by decide +kernel
theorem dX13_sixOf_16 : decode cX13_sixOf 16 = .ok (.goto 65, 3) := by decide +kernel
theorem dX13_sixOf_19 : decode cX13_sixOf 19 = .ok (.iload_n 0, 1) := by decide +kernel
theorem dX13_sixOf_20 : decode cX13_sixOf 20 = .ok (.bipush 97, 2) := by decide +kernel
theorem dX13_sixOf_22 : decode cX13_sixOf 22 = .ok (.if_icmp .lt 19, 3) := by decide +kernel
theorem dX13_sixOf_25 : decode cX13_sixOf 25 = .ok (.iload_n 0, 1) := by decide +kernel
theorem dX13_sixOf_26 : decode cX13_sixOf 26 = .ok (.bipush 122, 2) := by decide +kernel
theorem dX13_sixOf_28 : decode cX13_sixOf 28 = .ok (.if_icmp .gt 13, 3) := by decide +kernel
theorem dX13_sixOf_31 : decode cX13_sixOf 31 = .ok (.iload_n 0, 1) := by decide +kernel
theorem dX13_sixOf_32 : decode cX13_sixOf 32 = .ok (.bipush 97, 2) := by decide +kernel
theorem dX13_sixOf_34 : decode cX13_sixOf 34 = .ok (.isub, 1) := by decide +kernel
theorem dX13_sixOf_35 : decode cX13_sixOf 35 = .ok (.bipush 26, 2) := by decide +kernel
theorem dX13_sixOf_37 : decode cX13_sixOf 37 = .ok (.iadd, 1) := by decide +kernel
theorem dX13_sixOf_38 : decode cX13_sixOf 38 = .ok (.goto 43, 3) := by decide +kernel
theorem dX13_sixOf_41 : decode cX13_sixOf 41 = .ok (.iload_n 0, 1) := by decide +kernel
theorem dX13_sixOf_42 : decode cX13_sixOf 42 = .ok (.invokestatic 379, 3) := by decide +kernel
theorem dX13_sixOf_45 : decode cX13_sixOf 45 = .ok (.ifCond .eq 13, 3) := by decide +kernel
theorem dX13_sixOf_48 : decode cX13_sixOf 48 = .ok (.iload_n 0, 1) := by decide +kernel
theorem dX13_sixOf_49 : decode cX13_sixOf 49 = .ok (.bipush 48, 2) := by decide +kernel
theorem dX13_sixOf_51 : decode cX13_sixOf 51 = .ok (.isub, 1) := by decide +kernel
theorem dX13_sixOf_52 : decode cX13_sixOf 52 = .ok (.bipush 52, 2) := by decide +kernel
theorem dX13_sixOf_54 : decode cX13_sixOf 54 = .ok (.iadd, 1) := by decide +kernel
theorem dX13_sixOf_55 : decode cX13_sixOf 55 = .ok (.goto 26, 3) := by decide +kernel
theorem dX13_sixOf_58 : decode cX13_sixOf 58 = .ok (.iload_n 0, 1) := by decide +kernel
theorem dX13_sixOf_59 : decode cX13_sixOf 59 = .ok (.bipush 45, 2) := by decide +kernel
theorem dX13_sixOf_61 : decode cX13_sixOf 61 = .ok (.if_icmp .ne 8, 3) := by decide +kernel
theorem dX13_sixOf_64 : decode cX13_sixOf 64 = .ok (.bipush 62, 2) := by decide +kernel
theorem dX13_sixOf_66 : decode cX13_sixOf 66 = .ok (.goto 15, 3) := by decide +kernel
theorem dX13_sixOf_69 : decode cX13_sixOf 69 = .ok (.iload_n 0, 1) := by decide +kernel
theorem dX13_sixOf_70 : decode cX13_sixOf 70 = .ok (.bipush 95, 2) := by decide +kernel
theorem dX13_sixOf_72 : decode cX13_sixOf 72 = .ok (.if_icmp .ne 8, 3) := by decide +kernel
theorem dX13_sixOf_75 : decode cX13_sixOf 75 = .ok (.bipush 63, 2) := by decide +kernel
theorem dX13_sixOf_77 : decode cX13_sixOf 77 = .ok (.goto 4, 3) := by decide +kernel
theorem dX13_sixOf_80 : decode cX13_sixOf 80 = .ok (.iconst (-1), 1) := by decide +kernel
theorem dX13_sixOf_81 : decode cX13_sixOf 81 = .ok (.ireturn, 1) := by decide +kernel
abbrev rmX13_sixOf : Room := { frames := 1, cells := 0, slots := 0, locals := 20 }
set_option maxHeartbeats 4000000 in
set_option maxRecDepth 100000 in
theorem wB_X13_sixOf_41 {G : mG} {F : Nat} {x : mXT} {sz : Nat} {r0 : Int32} {M0 : mM} (X : mCX G RX13 cX13_sixOf 1 (some .int) "sixOf" rmX13_sixOf x) (hQ : mQI x r0 M0 (sz, 0, 0)) {l0 : Int32} {M : mM} (h : B_X13_sixOf_41 G F l0 M = some (r0, M0)) : WW x (sz, 0, 0) M 41 [(0, .int l0)] [] := by
  unfold B_X13_sixOf_41 at h
  refine ww_iload_n 41 X dX13_sixOf_41 0 rfl rfl ?_
  obtain ⟨v42, M42, e42, h⟩ := bP_some h
  refine ww_callSI0 42 X dX13_sixOf_42 mY_X13_isDigit mL_X13_379 (As := [.int l0]) (rest := []) rfl rfl ⟨Nat.le_of_ble_eq_true rfl, Nat.le_of_ble_eq_true rfl⟩ (Nat.le_of_ble_eq_true rfl) (fun l D A => c_X13_isDigit l D A e42) ?_
  refine ww_if_eq 45 58 X dX13_sixOf_45 (by decide) (fun q => ?_) (fun q => ?_)
  · replace h := (if_pos q).symm.trans h
    refine ww_iload_n 58 X dX13_sixOf_58 0 rfl rfl ?_
    refine ww_bipush 59 X (v := (45 : Int32)) dX13_sixOf_59 (by decide) ?_
    refine ww_icmp_ne 61 69 X dX13_sixOf_61 (by decide) (fun q => ?_) (fun q => ?_)
    · replace h := (if_neg q).symm.trans h
      refine ww_iload_n 69 X dX13_sixOf_69 0 rfl rfl ?_
      refine ww_bipush 70 X (v := (95 : Int32)) dX13_sixOf_70 (by decide) ?_
      refine ww_icmp_ne 72 80 X dX13_sixOf_72 (by decide) (fun q => ?_) (fun q => ?_)
      · replace h := (if_neg q).symm.trans h
        refine ww_iconst 80 X (v := (-1 : Int32)) dX13_sixOf_80 (by decide) ?_
        exact ww_iretE 81 X hQ dX13_sixOf_81 h
      · replace h := (if_pos q).symm.trans h
        refine ww_bipush 75 X (v := (63 : Int32)) dX13_sixOf_75 (by decide) ?_
        refine ww_goto 77 81 X dX13_sixOf_77 (by decide) ?_
        exact ww_iretE 81 X hQ dX13_sixOf_81 h
    · replace h := (if_pos q).symm.trans h
      refine ww_bipush 64 X (v := (62 : Int32)) dX13_sixOf_64 (by decide) ?_
      refine ww_goto 66 81 X dX13_sixOf_66 (by decide) ?_
      exact ww_iretE 81 X hQ dX13_sixOf_81 h
  · replace h := (if_neg q).symm.trans h
    refine ww_iload_n 48 X dX13_sixOf_48 0 rfl rfl ?_
    refine ww_bipush 49 X (v := (48 : Int32)) dX13_sixOf_49 (by decide) ?_
    refine ww_isub 51 X dX13_sixOf_51 ?_
    refine ww_bipush 52 X (v := (52 : Int32)) dX13_sixOf_52 (by decide) ?_
    refine ww_iadd 54 X dX13_sixOf_54 ?_
    refine ww_goto 55 81 X dX13_sixOf_55 (by decide) ?_
    exact ww_iretE 81 X hQ dX13_sixOf_81 h
set_option maxHeartbeats 4000000 in
set_option maxRecDepth 100000 in
theorem wB_X13_sixOf_19 {G : mG} {F : Nat} {x : mXT} {sz : Nat} {r0 : Int32} {M0 : mM} (X : mCX G RX13 cX13_sixOf 1 (some .int) "sixOf" rmX13_sixOf x) (hQ : mQI x r0 M0 (sz, 0, 0)) {l0 : Int32} {M : mM} (h : B_X13_sixOf_19 G F l0 M = some (r0, M0)) : WW x (sz, 0, 0) M 19 [(0, .int l0)] [] := by
  unfold B_X13_sixOf_19 at h
  refine ww_iload_n 19 X dX13_sixOf_19 0 rfl rfl ?_
  refine ww_bipush 20 X (v := (97 : Int32)) dX13_sixOf_20 (by decide) ?_
  refine ww_icmp_lt 22 41 X dX13_sixOf_22 (by decide) (fun q => ?_) (fun q => ?_)
  · replace h := (if_pos q).symm.trans h
    exact (wB_X13_sixOf_41 X hQ h)
  · replace h := (if_neg q).symm.trans h
    refine ww_iload_n 25 X dX13_sixOf_25 0 rfl rfl ?_
    refine ww_bipush 26 X (v := (122 : Int32)) dX13_sixOf_26 (by decide) ?_
    refine ww_icmp_gt 28 41 X dX13_sixOf_28 (by decide) (fun q => ?_) (fun q => ?_)
    · replace h := (if_pos q).symm.trans h
      exact (wB_X13_sixOf_41 X hQ h)
    · replace h := (if_neg q).symm.trans h
      refine ww_iload_n 31 X dX13_sixOf_31 0 rfl rfl ?_
      refine ww_bipush 32 X (v := (97 : Int32)) dX13_sixOf_32 (by decide) ?_
      refine ww_isub 34 X dX13_sixOf_34 ?_
      refine ww_bipush 35 X (v := (26 : Int32)) dX13_sixOf_35 (by decide) ?_
      refine ww_iadd 37 X dX13_sixOf_37 ?_
      refine ww_goto 38 81 X dX13_sixOf_38 (by decide) ?_
      exact ww_iretE 81 X hQ dX13_sixOf_81 h
set_option maxHeartbeats 4000000 in
set_option maxRecDepth 100000 in
theorem wP_X13_sixOf {G : mG} {F : Nat} {x : mXT} {sz : Nat} {r0 : Int32} {M0 : mM} (X : mCX G RX13 cX13_sixOf 1 (some .int) "sixOf" rmX13_sixOf x) (hQ : mQI x r0 M0 (sz, 0, 0)) {l0 : Int32} {M : mM} (h : P_X13_sixOf G F l0 M = some (r0, M0)) : WW x (sz, 0, 0) M 0 [(0, .int l0)] [] := by
  unfold P_X13_sixOf at h
  refine ww_iload_n 0 X dX13_sixOf_0 0 rfl rfl ?_
  refine ww_bipush 1 X (v := (65 : Int32)) dX13_sixOf_1 (by decide) ?_
  refine ww_icmp_lt 3 19 X dX13_sixOf_3 (by decide) (fun q => ?_) (fun q => ?_)
  · replace h := (if_pos q).symm.trans h
    exact (wB_X13_sixOf_19 X hQ h)
  · replace h := (if_neg q).symm.trans h
    refine ww_iload_n 6 X dX13_sixOf_6 0 rfl rfl ?_
    refine ww_bipush 7 X (v := (90 : Int32)) dX13_sixOf_7 (by decide) ?_
    refine ww_icmp_gt 9 19 X dX13_sixOf_9 (by decide) (fun q => ?_) (fun q => ?_)
    · replace h := (if_pos q).symm.trans h
      exact (wB_X13_sixOf_19 X hQ h)
    · replace h := (if_neg q).symm.trans h
      refine ww_iload_n 12 X dX13_sixOf_12 0 rfl rfl ?_
      refine ww_bipush 13 X (v := (65 : Int32)) dX13_sixOf_13 (by decide) ?_
      refine ww_isub 15 X dX13_sixOf_15 ?_
      refine ww_goto 16 81 X dX13_sixOf_16 (by decide) ?_
      exact ww_iretE 81 X hQ dX13_sixOf_81 h
theorem c_X13_sixOf {G : mG} {F sz : Nat} {r0 : Int32} {M0 : mM} (l : Launch) (D : mD) (A : Nat → Prop) {l0 : Int32} {M : mM} (h : P_X13_sixOf G F l0 M = some (r0, M0)) : mMetI l D G A yX13_sixOf cX13_sixOf 1 (some .int) 1 20 0 0 [.int l0] M sz r0 M0 sz := mMetI_of l D G A (by decide) (Nat.le_of_ble_eq_true rfl) (fun x X hQ => wP_X13_sixOf X hQ h)
/-! SealedTokensModel.sayLetters([BII)V -/
theorem dX13_sayLetters_0 : decode cX13_sayLetters 0 = .ok (.iconst 0, 1) := by decide +kernel
theorem dX13_sayLetters_1 : decode cX13_sayLetters 1 = .ok (.istore 4, 2) := by decide +kernel
theorem dX13_sayLetters_3 : decode cX13_sayLetters 3 = .ok (.iconst 0, 1) := by decide +kernel
theorem dX13_sayLetters_4 : decode cX13_sayLetters 4 = .ok (.istore 5, 2) := by decide +kernel
theorem dX13_sayLetters_6 : decode cX13_sayLetters 6 = .ok (.iconst 0, 1) := by decide +kernel
theorem dX13_sayLetters_7 : decode cX13_sayLetters 7 = .ok (.istore 6, 2) := by decide +kernel
theorem dX13_sayLetters_9 : decode cX13_sayLetters 9 = .ok (.iload 6, 2) := by decide +kernel
theorem dX13_sayLetters_11 : decode cX13_sayLetters 11 = .ok (.iload_n 3, 1) := by decide +kernel
theorem dX13_sayLetters_12 : decode cX13_sayLetters 12 = .ok (.if_icmp .ge 58, 3) := by decide +kernel
theorem dX13_sayLetters_15 : decode cX13_sayLetters 15 = .ok (.iload 4, 2) := by decide +kernel
theorem dX13_sayLetters_17 : decode cX13_sayLetters 17 = .ok (.bipush 8, 2) := by decide +kernel
theorem dX13_sayLetters_19 : decode cX13_sayLetters 19 = .ok (.ishl, 1) := by decide +kernel
theorem dX13_sayLetters_20 : decode cX13_sayLetters 20 = .ok (.aload_n 1, 1) := by decide +kernel
theorem dX13_sayLetters_21 : decode cX13_sayLetters 21 = .ok (.iload_n 2, 1) := by decide +kernel
theorem dX13_sayLetters_22 : decode cX13_sayLetters 22 = .ok (.iload 6, 2) := by decide +kernel
theorem dX13_sayLetters_24 : decode cX13_sayLetters 24 = .ok (.iadd, 1) := by decide +kernel
theorem dX13_sayLetters_25 : decode cX13_sayLetters 25 = .ok (.baload, 1) := by decide +kernel
theorem dX13_sayLetters_26 : decode cX13_sayLetters 26 = .ok (.sipush 255, 3) := by decide +kernel
theorem dX13_sayLetters_29 : decode cX13_sayLetters 29 = .ok (.iand, 1) := by decide +kernel
theorem dX13_sayLetters_30 : decode cX13_sayLetters 30 = .ok (.ior, 1) := by decide +kernel
theorem dX13_sayLetters_31 : decode cX13_sayLetters 31 = .ok (.istore 4, 2) := by decide +kernel
theorem dX13_sayLetters_33 : decode cX13_sayLetters 33 = .ok (.iinc 5 8, 3) := by decide +kernel
theorem dX13_sayLetters_36 : decode cX13_sayLetters 36 = .ok (.iload 5, 2) := by decide +kernel
theorem dX13_sayLetters_38 : decode cX13_sayLetters 38 = .ok (.bipush 6, 2) := by decide +kernel
theorem dX13_sayLetters_40 : decode cX13_sayLetters 40 = .ok (.if_icmp .lt 24, 3) := by decide +kernel
theorem dX13_sayLetters_43 : decode cX13_sayLetters 43 = .ok (.iinc 5 (-6), 3) := by decide +kernel
theorem dX13_sayLetters_46 : decode cX13_sayLetters 46 = .ok (.aload_n 0, 1) := by decide +kernel
theorem dX13_sayLetters_47 : decode cX13_sayLetters 47 = .ok (.iload 4, 2) := by decide +kernel
theorem dX13_sayLetters_49 : decode cX13_sayLetters 49 = .ok (.iload 5, 2) := by decide +kernel
theorem dX13_sayLetters_51 : decode cX13_sayLetters 51 = .ok (.ishr, 1) := by decide +kernel
theorem dX13_sayLetters_52 : decode cX13_sayLetters 52 = .ok (.bipush 63, 2) := by decide +kernel
theorem dX13_sayLetters_54 : decode cX13_sayLetters 54 = .ok (.iand, 1) := by decide +kernel
theorem dX13_sayLetters_55 : decode cX13_sayLetters 55 = .ok (.invokestatic 490, 3) := by decide +kernel
theorem dX13_sayLetters_58 : decode cX13_sayLetters 58 = .ok (.invokevirtual 470, 3) := by decide +kernel
theorem dX13_sayLetters_61 : decode cX13_sayLetters 61 = .ok (.goto (-25), 3) := by decide +kernel
theorem dX13_sayLetters_64 : decode cX13_sayLetters 64 = .ok (.iinc 6 1, 3) := by decide +kernel
theorem dX13_sayLetters_67 : decode cX13_sayLetters 67 = .ok (.goto (-58), 3) := by decide +kernel
theorem dX13_sayLetters_70 : decode cX13_sayLetters 70 = .ok (.iload 5, 2) := by decide +kernel
theorem dX13_sayLetters_72 : decode cX13_sayLetters 72 = .ok (.ifCond .le 21, 3) := by decide +kernel
theorem dX13_sayLetters_75 : decode cX13_sayLetters 75 = .ok (.aload_n 0, 1) := by decide +kernel
theorem dX13_sayLetters_76 : decode cX13_sayLetters 76 = .ok (.iload 4, 2) := by decide +kernel
theorem dX13_sayLetters_78 : decode cX13_sayLetters 78 = .ok (.bipush 6, 2) := by decide +kernel
theorem dX13_sayLetters_80 : decode cX13_sayLetters 80 = .ok (.iload 5, 2) := by decide +kernel
theorem dX13_sayLetters_82 : decode cX13_sayLetters 82 = .ok (.isub, 1) := by decide +kernel
theorem dX13_sayLetters_83 : decode cX13_sayLetters 83 = .ok (.ishl, 1) := by decide +kernel
theorem dX13_sayLetters_84 : decode cX13_sayLetters 84 = .ok (.bipush 63, 2) := by decide +kernel
theorem dX13_sayLetters_86 : decode cX13_sayLetters 86 = .ok (.iand, 1) := by decide +kernel
theorem dX13_sayLetters_87 : decode cX13_sayLetters 87 = .ok (.invokestatic 490, 3) := by decide +kernel
theorem dX13_sayLetters_90 : decode cX13_sayLetters 90 = .ok (.invokevirtual 470, 3) := by decide +kernel
theorem dX13_sayLetters_93 : decode cX13_sayLetters 93 = .ok (.return_, 1) := by decide +kernel
abbrev rmX13_sayLetters : Room := { frames := 1, cells := 0, slots := 0, locals := 21 }
set_option maxHeartbeats 4000000 in
set_option maxRecDepth 100000 in
theorem wB_X13_sayLetters_36 {G : mG} {F : Nat} {x : mXT} {sz : Nat} {M0 : mM} (X : mCX G RX13 cX13_sayLetters 7 none "sayLetters" rmX13_sayLetters x) (hQ : mQV x M0 (sz, 0, 0)) (r9 : Nat → Nat → Int32 → Int32 → Int32 → Int32 → Int32 → mM → Option mM) (hr9 : ∀ (l0 : Nat) (l1 : Nat) (l2 : Int32) (l3 : Int32) (l4 : Int32) (l5 : Int32) (l6 : Int32) (M : mM), r9 l0 l1 l2 l3 l4 l5 l6 M = some M0 → WW x (sz, 0, 0) M 9 [(0, .ref l0), (1, .ref l1), (2, .int l2), (3, .int l3), (4, .int l4), (5, .int l5), (6, .int l6)] []) : ∀ (n : Nat) (l0 : Nat) (l1 : Nat) (l2 : Int32) (l3 : Int32) (l4 : Int32) (l5 : Int32) (l6 : Int32) (M : mM), B_X13_sayLetters_36 G F r9 n l0 l1 l2 l3 l4 l5 l6 M = some M0 → WW x (sz, 0, 0) M 36 [(0, .ref l0), (1, .ref l1), (2, .int l2), (3, .int l3), (4, .int l4), (5, .int l5), (6, .int l6)] [] := by
  intro n
  induction n with
  | zero =>
    intro l0 l1 l2 l3 l4 l5 l6 M h
    exact nomatch (show (none : Option mM) = some M0 from h)
  | succ n ih =>
    intro l0 l1 l2 l3 l4 l5 l6 M h
    rw [B_X13_sayLetters_36] at h
    refine ww_iload 36 X dX13_sayLetters_36 5 rfl ?_
    refine ww_bipush 38 X (v := (6 : Int32)) dX13_sayLetters_38 (by decide) ?_
    refine ww_icmp_lt 40 64 X dX13_sayLetters_40 (by decide) (fun q => ?_) (fun q => ?_)
    · replace h := (if_pos q).symm.trans h
      refine ww_iinc 64 X dX13_sayLetters_64 (lv' := [(0, .ref l0), (1, .ref l1), (2, .int l2), (3, .int l3), (4, .int l4), (5, .int l5), (6, .int (l6 + 1))]) 6 rfl rfl (by decide) [1, 2, 3, 4, 5, 6, 0] rfl ?_
      refine ww_goto 67 9 X dX13_sayLetters_67 (by decide) ?_
      exact (hr9 _ _ _ _ _ _ _ _ h)
    · replace h := (if_neg q).symm.trans h
      refine ww_iinc 43 X dX13_sayLetters_43 (lv' := [(0, .ref l0), (1, .ref l1), (2, .int l2), (3, .int l3), (4, .int l4), (5, .int (l5 + (-6))), (6, .int l6)]) 5 rfl rfl (by decide) [1, 2, 3, 4, 5, 0, 6] rfl ?_
      refine ww_aload_n 46 X dX13_sayLetters_46 0 rfl rfl ?_
      refine ww_iload 47 X dX13_sayLetters_47 4 rfl ?_
      refine ww_iload 49 X dX13_sayLetters_49 5 rfl ?_
      refine ww_ishr 51 X dX13_sayLetters_51 ?_
      refine ww_bipush 52 X (v := (63 : Int32)) dX13_sayLetters_52 (by decide) ?_
      refine ww_iand 54 X dX13_sayLetters_54 ?_
      obtain ⟨v55, M55, e55, h⟩ := bP_some h
      refine ww_callSI0 55 X dX13_sayLetters_55 mY_X13_letterOf mL_X13_490 (As := [.int ((l4 >>> ((l5 + (-6)) &&& 31)) &&& (63 : Int32))]) (rest := [.ref l0]) rfl rfl ⟨Nat.le_of_ble_eq_true rfl, Nat.le_of_ble_eq_true rfl⟩ (Nat.le_of_ble_eq_true rfl) (fun l D A => c_X13_letterOf l D A e55) ?_
      obtain ⟨_, f58, h⟩ := bO_some h
      obtain ⟨M58, e58, h⟩ := bO_some h
      refine ww_callVV0 58 X dX13_sayLetters_58 mY_X13_say mL_X13_470 (rcv_spec f58) ⟨_, _, rfl⟩ (by decide) (As := [.int v55]) (rest := []) rfl rfl ⟨Nat.le_of_ble_eq_true rfl, Nat.le_of_ble_eq_true rfl⟩ (Nat.le_of_ble_eq_true rfl) (fun l D A => c_X13_say l D A e58) ?_
      refine ww_goto 61 36 X dX13_sayLetters_61 (by decide) ?_
      exact (ih _ _ _ _ _ _ _ _ h)
set_option maxHeartbeats 4000000 in
set_option maxRecDepth 100000 in
theorem wB_X13_sayLetters_9 {G : mG} {F : Nat} {x : mXT} {sz : Nat} {M0 : mM} (X : mCX G RX13 cX13_sayLetters 7 none "sayLetters" rmX13_sayLetters x) (hQ : mQV x M0 (sz, 0, 0)) : ∀ (n : Nat) (l0 : Nat) (l1 : Nat) (l2 : Int32) (l3 : Int32) (l4 : Int32) (l5 : Int32) (l6 : Int32) (M : mM), B_X13_sayLetters_9 G F n l0 l1 l2 l3 l4 l5 l6 M = some M0 → WW x (sz, 0, 0) M 9 [(0, .ref l0), (1, .ref l1), (2, .int l2), (3, .int l3), (4, .int l4), (5, .int l5), (6, .int l6)] [] := by
  intro n
  induction n with
  | zero =>
    intro l0 l1 l2 l3 l4 l5 l6 M h
    exact nomatch (show (none : Option mM) = some M0 from h)
  | succ n ih =>
    intro l0 l1 l2 l3 l4 l5 l6 M h
    rw [B_X13_sayLetters_9] at h
    refine ww_iload 9 X dX13_sayLetters_9 6 rfl ?_
    refine ww_iload_n 11 X dX13_sayLetters_11 3 rfl rfl ?_
    refine ww_icmp_ge 12 70 X dX13_sayLetters_12 (by decide) (fun q => ?_) (fun q => ?_)
    · replace h := (if_pos q).symm.trans h
      refine ww_iload 70 X dX13_sayLetters_70 5 rfl ?_
      refine ww_if_le 72 93 X dX13_sayLetters_72 (by decide) (fun q => ?_) (fun q => ?_)
      · replace h := (if_pos q).symm.trans h
        exact ww_vretE 93 X hQ dX13_sayLetters_93 h
      · replace h := (if_neg q).symm.trans h
        refine ww_aload_n 75 X dX13_sayLetters_75 0 rfl rfl ?_
        refine ww_iload 76 X dX13_sayLetters_76 4 rfl ?_
        refine ww_bipush 78 X (v := (6 : Int32)) dX13_sayLetters_78 (by decide) ?_
        refine ww_iload 80 X dX13_sayLetters_80 5 rfl ?_
        refine ww_isub 82 X dX13_sayLetters_82 ?_
        refine ww_ishl 83 X dX13_sayLetters_83 ?_
        refine ww_bipush 84 X (v := (63 : Int32)) dX13_sayLetters_84 (by decide) ?_
        refine ww_iand 86 X dX13_sayLetters_86 ?_
        obtain ⟨v87, M87, e87, h⟩ := bP_some h
        refine ww_callSI0 87 X dX13_sayLetters_87 mY_X13_letterOf mL_X13_490 (As := [.int ((l4 <<< (((6 : Int32) - l5) &&& 31)) &&& (63 : Int32))]) (rest := [.ref l0]) rfl rfl ⟨Nat.le_of_ble_eq_true rfl, Nat.le_of_ble_eq_true rfl⟩ (Nat.le_of_ble_eq_true rfl) (fun l D A => c_X13_letterOf l D A e87) ?_
        obtain ⟨_, f90, h⟩ := bO_some h
        obtain ⟨M90, e90, h⟩ := bO_some h
        refine ww_callVV0 90 X dX13_sayLetters_90 mY_X13_say mL_X13_470 (rcv_spec f90) ⟨_, _, rfl⟩ (by decide) (As := [.int v87]) (rest := []) rfl rfl ⟨Nat.le_of_ble_eq_true rfl, Nat.le_of_ble_eq_true rfl⟩ (Nat.le_of_ble_eq_true rfl) (fun l D A => c_X13_say l D A e90) ?_
        exact ww_vretE 93 X hQ dX13_sayLetters_93 h
    · replace h := (if_neg q).symm.trans h
      refine ww_iload 15 X dX13_sayLetters_15 4 rfl ?_
      refine ww_bipush 17 X (v := (8 : Int32)) dX13_sayLetters_17 (by decide) ?_
      refine ww_ishl 19 X dX13_sayLetters_19 ?_
      refine ww_aload_n 20 X dX13_sayLetters_20 1 rfl rfl ?_
      refine ww_iload_n 21 X dX13_sayLetters_21 2 rfl rfl ?_
      refine ww_iload 22 X dX13_sayLetters_22 6 rfl ?_
      refine ww_iadd 24 X dX13_sayLetters_24 ?_
      obtain ⟨v25, e25, h⟩ := bO_some h
      refine ww_bald 25 X dX13_sayLetters_25 e25 ?_
      refine ww_sipush 26 X (v := (255 : Int32)) dX13_sayLetters_26 (by decide) ?_
      refine ww_iand 29 X dX13_sayLetters_29 ?_
      refine ww_ior 30 X dX13_sayLetters_30 ?_
      refine ww_istore 31 X dX13_sayLetters_31 (lv' := [(0, .ref l0), (1, .ref l1), (2, .int l2), (3, .int l3), (4, .int ((l4 <<< ((8 : Int32) &&& 31)) ||| (v25 &&& (255 : Int32)))), (5, .int l5), (6, .int l6)]) (by decide) [1, 2, 3, 4, 0, 5, 6] rfl ?_
      refine ww_iinc 33 X dX13_sayLetters_33 (lv' := [(0, .ref l0), (1, .ref l1), (2, .int l2), (3, .int l3), (4, .int ((l4 <<< ((8 : Int32) &&& 31)) ||| (v25 &&& (255 : Int32)))), (5, .int (l5 + 8)), (6, .int l6)]) 5 rfl rfl (by decide) [1, 2, 3, 4, 5, 0, 6] rfl ?_
      exact (wB_X13_sayLetters_36 X hQ _ ih F _ _ _ _ _ _ _ _ h)
set_option maxHeartbeats 4000000 in
set_option maxRecDepth 100000 in
theorem wP_X13_sayLetters {G : mG} {F : Nat} {x : mXT} {sz : Nat} {M0 : mM} (X : mCX G RX13 cX13_sayLetters 7 none "sayLetters" rmX13_sayLetters x) (hQ : mQV x M0 (sz, 0, 0)) {l0 : Nat} {l1 : Nat} {l2 : Int32} {l3 : Int32} {M : mM} (h : P_X13_sayLetters G F l0 l1 l2 l3 M = some M0) : WW x (sz, 0, 0) M 0 [(0, .ref l0), (1, .ref l1), (2, .int l2), (3, .int l3)] [] := by
  unfold P_X13_sayLetters at h
  refine ww_iconst 0 X (v := (0 : Int32)) dX13_sayLetters_0 (by decide) ?_
  refine ww_istore 1 X dX13_sayLetters_1 (lv' := [(0, .ref l0), (1, .ref l1), (2, .int l2), (3, .int l3), (4, .int (0 : Int32))]) (by decide) [1, 2, 3, 4, 0] rfl ?_
  refine ww_iconst 3 X (v := (0 : Int32)) dX13_sayLetters_3 (by decide) ?_
  refine ww_istore 4 X dX13_sayLetters_4 (lv' := [(0, .ref l0), (1, .ref l1), (2, .int l2), (3, .int l3), (4, .int (0 : Int32)), (5, .int (0 : Int32))]) (by decide) [1, 2, 3, 4, 5, 0] rfl ?_
  refine ww_iconst 6 X (v := (0 : Int32)) dX13_sayLetters_6 (by decide) ?_
  refine ww_istore 7 X dX13_sayLetters_7 (lv' := [(0, .ref l0), (1, .ref l1), (2, .int l2), (3, .int l3), (4, .int (0 : Int32)), (5, .int (0 : Int32)), (6, .int (0 : Int32))]) (by decide) [1, 2, 3, 4, 5, 6, 0] rfl ?_
  exact (wB_X13_sayLetters_9 X hQ F _ _ _ _ _ _ _ _ h)
theorem c_X13_sayLetters {G : mG} {F sz : Nat} {M0 : mM} (l : Launch) (D : mD) (A : Nat → Prop) {l0 : Nat} {l1 : Nat} {l2 : Int32} {l3 : Int32} {M : mM} (h : P_X13_sayLetters G F l0 l1 l2 l3 M = some M0) : mMetV l D G A yX13_sayLetters cX13_sayLetters 7 none 1 21 0 0 [.ref l0, .ref l1, .int l2, .int l3] M sz M0 sz := mMetV_of l D G A (by decide) (Nat.le_of_ble_eq_true rfl) (fun x X hQ => wP_X13_sayLetters X hQ h)
/-! SealedTokensModel.unletter([BII[BI)I -/
theorem dX13_unletter_0 : decode cX13_unletter 0 = .ok (.iconst 0, 1) := by decide +kernel
theorem dX13_unletter_1 : decode cX13_unletter 1 = .ok (.istore 6, 2) := by decide +kernel
theorem dX13_unletter_3 : decode cX13_unletter 3 = .ok (.iconst 0, 1) := by decide +kernel
theorem dX13_unletter_4 : decode cX13_unletter 4 = .ok (.istore 7, 2) := by decide +kernel
theorem dX13_unletter_6 : decode cX13_unletter 6 = .ok (.iconst 0, 1) := by decide +kernel
theorem dX13_unletter_7 : decode cX13_unletter 7 = .ok (.istore 8, 2) := by decide +kernel
theorem dX13_unletter_9 : decode cX13_unletter 9 = .ok (.iconst 0, 1) := by decide +kernel
theorem dX13_unletter_10 : decode cX13_unletter 10 = .ok (.istore 9, 2) := by decide +kernel
theorem dX13_unletter_12 : decode cX13_unletter 12 = .ok (.iload 9, 2) := by decide +kernel
theorem dX13_unletter_14 : decode cX13_unletter 14 = .ok (.iload_n 3, 1) := by decide +kernel
theorem dX13_unletter_15 : decode cX13_unletter 15 = .ok (.if_icmp .ge 77, 3) := by decide +kernel
theorem dX13_unletter_18 : decode cX13_unletter 18 = .ok (.aload_n 1, 1) := by decide +kernel
theorem dX13_unletter_19 : decode cX13_unletter 19 = .ok (.iload_n 2, 1) := by decide +kernel
theorem dX13_unletter_20 : decode cX13_unletter 20 = .ok (.iload 9, 2) := by decide +kernel
theorem dX13_unletter_22 : decode cX13_unletter 22 = .ok (.iadd, 1) := by decide +kernel
theorem dX13_unletter_23 : decode cX13_unletter 23 = .ok (.baload, 1) := by decide +kernel
theorem dX13_unletter_24 : decode cX13_unletter 24 = .ok (.invokestatic 493, 3) := by decide +kernel
theorem dX13_unletter_27 : decode cX13_unletter 27 = .ok (.istore 10, 2) := by decide +kernel
theorem dX13_unletter_29 : decode cX13_unletter 29 = .ok (.iload 10, 2) := by decide +kernel
theorem dX13_unletter_31 : decode cX13_unletter 31 = .ok (.ifCond .ge 11, 3) := by decide +kernel
theorem dX13_unletter_34 : decode cX13_unletter 34 = .ok (.aload_n 0, 1) := by decide +kernel
theorem dX13_unletter_35 : decode cX13_unletter 35 = .ok (.iload 9, 2) := by decide +kernel
theorem dX13_unletter_37 : decode cX13_unletter 37 = .ok (.putfield 496, 3) := by decide +kernel
theorem dX13_unletter_40 : decode cX13_unletter 40 = .ok (.iconst (-1), 1) := by decide +kernel
theorem dX13_unletter_41 : decode cX13_unletter 41 = .ok (.ireturn, 1) := by decide +kernel
theorem dX13_unletter_42 : decode cX13_unletter 42 = .ok (.iload 6, 2) := by decide +kernel
theorem dX13_unletter_44 : decode cX13_unletter 44 = .ok (.bipush 6, 2) := by decide +kernel
theorem dX13_unletter_46 : decode cX13_unletter 46 = .ok (.ishl, 1) := by decide +kernel
theorem dX13_unletter_47 : decode cX13_unletter 47 = .ok (.iload 10, 2) := by decide +kernel
theorem dX13_unletter_49 : decode cX13_unletter 49 = .ok (.ior, 1) := by decide +kernel
theorem dX13_unletter_50 : decode cX13_unletter 50 = .ok (.ldc_w 499, 3) := by decide +kernel
theorem dX13_unletter_53 : decode cX13_unletter 53 = .ok (.iand, 1) := by decide +kernel
theorem dX13_unletter_54 : decode cX13_unletter 54 = .ok (.istore 6, 2) := by decide +kernel
theorem dX13_unletter_56 : decode cX13_unletter 56 = .ok (.iinc 7 6, 3) := by decide +kernel
theorem dX13_unletter_59 : decode cX13_unletter 59 = .ok (.iload 7, 2) := by decide +kernel
theorem dX13_unletter_61 : decode cX13_unletter 61 = .ok (.bipush 8, 2) := by decide +kernel
theorem dX13_unletter_63 : decode cX13_unletter 63 = .ok (.if_icmp .lt 23, 3) := by decide +kernel
theorem dX13_unletter_66 : decode cX13_unletter 66 = .ok (.iinc 7 (-8), 3) := by decide +kernel
theorem dX13_unletter_69 : decode cX13_unletter 69 = .ok (.aload 4, 2) := by decide +kernel
theorem dX13_unletter_71 : decode cX13_unletter 71 = .ok (.iload 5, 2) := by decide +kernel
theorem dX13_unletter_73 : decode cX13_unletter 73 = .ok (.iload 8, 2) := by decide +kernel
theorem dX13_unletter_75 : decode cX13_unletter 75 = .ok (.iadd, 1) := by decide +kernel
theorem dX13_unletter_76 : decode cX13_unletter 76 = .ok (.iload 6, 2) := by decide +kernel
theorem dX13_unletter_78 : decode cX13_unletter 78 = .ok (.iload 7, 2) := by decide +kernel
theorem dX13_unletter_80 : decode cX13_unletter 80 = .ok (.ishr, 1) := by decide +kernel
theorem dX13_unletter_81 : decode cX13_unletter 81 = .ok (.i2b, 1) := by decide +kernel
theorem dX13_unletter_82 : decode cX13_unletter 82 = .ok (.bastore, 1) := by decide +kernel
theorem dX13_unletter_83 : decode cX13_unletter 83 = .ok (.iinc 8 1, 3) := by decide +kernel
theorem dX13_unletter_86 : decode cX13_unletter 86 = .ok (.iinc 9 1, 3) := by decide +kernel
theorem dX13_unletter_89 : decode cX13_unletter 89 = .ok (.goto (-77), 3) := by decide +kernel
theorem dX13_unletter_92 : decode cX13_unletter 92 = .ok (.iload_n 3, 1) := by decide +kernel
theorem dX13_unletter_93 : decode cX13_unletter 93 = .ok (.iconst 4, 1) := by decide +kernel
theorem dX13_unletter_94 : decode cX13_unletter 94 = .ok (.irem, 1) := by decide +kernel
theorem dX13_unletter_95 : decode cX13_unletter 95 = .ok (.iconst 1, 1) := by decide +kernel
theorem dX13_unletter_96 : decode cX13_unletter 96 = .ok (.if_icmp .ne 10, 3) := by decide +kernel
theorem dX13_unletter_99 : decode cX13_unletter 99 = .ok (.aload_n 0, 1) := by decide +kernel
theorem dX13_unletter_100 : decode cX13_unletter 100 = .ok (.iload_n 3, 1) := by decide +kernel
theorem dX13_unletter_101 : decode cX13_unletter 101 = .ok (.putfield 496, 3) := by decide +kernel
theorem dX13_unletter_104 : decode cX13_unletter 104 = .ok (.iconst (-1), 1) := by decide +kernel
theorem dX13_unletter_105 : decode cX13_unletter 105 = .ok (.ireturn, 1) := by decide +kernel
theorem dX13_unletter_106 : decode cX13_unletter 106 = .ok (.iload 6, 2) := by decide +kernel
theorem dX13_unletter_108 : decode cX13_unletter 108 = .ok (.iconst 1, 1) := by decide +kernel
theorem dX13_unletter_109 : decode cX13_unletter 109 = .ok (.iload 7, 2) := by decide +kernel
theorem dX13_unletter_111 : decode cX13_unletter 111 = .ok (.ishl, 1) := by decide +kernel
theorem dX13_unletter_112 : decode cX13_unletter 112 = .ok (.iconst 1, 1) := by decide +kernel
theorem dX13_unletter_113 : decode cX13_unletter 113 = .ok (.isub, 1) := by decide +kernel
theorem dX13_unletter_114 : decode cX13_unletter 114 = .ok (.iand, 1) := by decide +kernel
theorem dX13_unletter_115 : decode cX13_unletter 115 = .ok (.ifCond .eq 12, 3) := by decide +kernel
theorem dX13_unletter_118 : decode cX13_unletter 118 = .ok (.aload_n 0, 1) := by decide +kernel
theorem dX13_unletter_119 : decode cX13_unletter 119 = .ok (.iload_n 3, 1) := by decide +kernel
theorem dX13_unletter_120 : decode cX13_unletter 120 = .ok (.iconst 1, 1) := by decide +kernel
theorem dX13_unletter_121 : decode cX13_unletter 121 = .ok (.isub, 1) := by decide +kernel
theorem dX13_unletter_122 : decode cX13_unletter 122 = .ok (.putfield 496, 3) := by decide +kernel
theorem dX13_unletter_125 : decode cX13_unletter 125 = .ok (.iconst (-1), 1) := by decide +kernel
theorem dX13_unletter_126 : decode cX13_unletter 126 = .ok (.ireturn, 1) := by decide +kernel
theorem dX13_unletter_127 : decode cX13_unletter 127 = .ok (.iload 8, 2) := by decide +kernel
theorem dX13_unletter_129 : decode cX13_unletter 129 = .ok (.ireturn, 1) := by decide +kernel
abbrev rmX13_unletter : Room := { frames := 2, cells := 0, slots := 0, locals := 40 }
set_option maxHeartbeats 4000000 in
set_option maxRecDepth 100000 in
theorem wB_X13_unletter_12 {G : mG} {F : Nat} {x : mXT} {sz : Nat} {r0 : Int32} {M0 : mM} (X : mCX G RX13 cX13_unletter 11 (some .int) "unletter" rmX13_unletter x) (hQ : mQI x r0 M0 (sz, 0, 0)) : ∀ (n : Nat) (l0 : Nat) (l1 : Nat) (l2 : Int32) (l3 : Int32) (l4 : Nat) (l5 : Int32) (l6 : Int32) (l7 : Int32) (l8 : Int32) (l9 : Int32) (M : mM), B_X13_unletter_12 G F n l0 l1 l2 l3 l4 l5 l6 l7 l8 l9 M = some (r0, M0) → WW x (sz, 0, 0) M 12 [(0, .ref l0), (1, .ref l1), (2, .int l2), (3, .int l3), (4, .ref l4), (5, .int l5), (6, .int l6), (7, .int l7), (8, .int l8), (9, .int l9)] [] := by
  intro n
  induction n with
  | zero =>
    intro l0 l1 l2 l3 l4 l5 l6 l7 l8 l9 M h
    exact nomatch (show (none : Option (Int32 × mM)) = some (r0, M0) from h)
  | succ n ih =>
    intro l0 l1 l2 l3 l4 l5 l6 l7 l8 l9 M h
    rw [B_X13_unletter_12] at h
    refine ww_iload 12 X dX13_unletter_12 9 rfl ?_
    refine ww_iload_n 14 X dX13_unletter_14 3 rfl rfl ?_
    refine ww_icmp_ge 15 92 X dX13_unletter_15 (by decide) (fun q => ?_) (fun q => ?_)
    · replace h := (if_pos q).symm.trans h
      refine ww_iload_n 92 X dX13_unletter_92 3 rfl rfl ?_
      refine ww_iconst 93 X (v := (4 : Int32)) dX13_unletter_93 (by decide) ?_
      refine ww_irem 94 X (v := (l3 - l3 / (4 : Int32) * (4 : Int32))) dX13_unletter_94 rfl ?_
      refine ww_iconst 95 X (v := (1 : Int32)) dX13_unletter_95 (by decide) ?_
      refine ww_icmp_ne 96 106 X dX13_unletter_96 (by decide) (fun q => ?_) (fun q => ?_)
      · replace h := (if_neg q).symm.trans h
        refine ww_iload 106 X dX13_unletter_106 6 rfl ?_
        refine ww_iconst 108 X (v := (1 : Int32)) dX13_unletter_108 (by decide) ?_
        refine ww_iload 109 X dX13_unletter_109 7 rfl ?_
        refine ww_ishl 111 X dX13_unletter_111 ?_
        refine ww_iconst 112 X (v := (1 : Int32)) dX13_unletter_112 (by decide) ?_
        refine ww_isub 113 X dX13_unletter_113 ?_
        refine ww_iand 114 X dX13_unletter_114 ?_
        refine ww_if_eq 115 127 X dX13_unletter_115 (by decide) (fun q => ?_) (fun q => ?_)
        · replace h := (if_pos q).symm.trans h
          refine ww_iload 127 X dX13_unletter_127 8 rfl ?_
          exact ww_iretE 129 X hQ dX13_unletter_129 h
        · replace h := (if_neg q).symm.trans h
          refine ww_aload_n 118 X dX13_unletter_118 0 rfl rfl ?_
          refine ww_iload_n 119 X dX13_unletter_119 3 rfl rfl ?_
          refine ww_iconst 120 X (v := (1 : Int32)) dX13_unletter_120 (by decide) ?_
          refine ww_isub 121 X dX13_unletter_121 ?_
          obtain ⟨M122, e122, h⟩ := bO_some h
          refine ww_putI 122 X dX13_unletter_122 (fP_X13_496 _) e122 ?_
          refine ww_iconst 125 X (v := (-1 : Int32)) dX13_unletter_125 (by decide) ?_
          exact ww_iretE 126 X hQ dX13_unletter_126 h
      · replace h := (if_pos q).symm.trans h
        refine ww_aload_n 99 X dX13_unletter_99 0 rfl rfl ?_
        refine ww_iload_n 100 X dX13_unletter_100 3 rfl rfl ?_
        obtain ⟨M101, e101, h⟩ := bO_some h
        refine ww_putI 101 X dX13_unletter_101 (fP_X13_496 _) e101 ?_
        refine ww_iconst 104 X (v := (-1 : Int32)) dX13_unletter_104 (by decide) ?_
        exact ww_iretE 105 X hQ dX13_unletter_105 h
    · replace h := (if_neg q).symm.trans h
      refine ww_aload_n 18 X dX13_unletter_18 1 rfl rfl ?_
      refine ww_iload_n 19 X dX13_unletter_19 2 rfl rfl ?_
      refine ww_iload 20 X dX13_unletter_20 9 rfl ?_
      refine ww_iadd 22 X dX13_unletter_22 ?_
      obtain ⟨v23, e23, h⟩ := bO_some h
      refine ww_bald 23 X dX13_unletter_23 e23 ?_
      obtain ⟨v24, M24, e24, h⟩ := bP_some h
      refine ww_callSI0 24 X dX13_unletter_24 mY_X13_sixOf mL_X13_493 (As := [.int v23]) (rest := []) rfl rfl ⟨Nat.le_of_ble_eq_true rfl, Nat.le_of_ble_eq_true rfl⟩ (Nat.le_of_ble_eq_true rfl) (fun l D A => c_X13_sixOf l D A e24) ?_
      refine ww_istore 27 X dX13_unletter_27 (lv' := [(0, .ref l0), (1, .ref l1), (2, .int l2), (3, .int l3), (4, .ref l4), (5, .int l5), (6, .int l6), (7, .int l7), (8, .int l8), (9, .int l9), (10, .int v24)]) (by decide) [1, 2, 3, 4, 5, 6, 7, 8, 9, 10, 0] rfl ?_
      refine ww_iload 29 X dX13_unletter_29 10 rfl ?_
      refine ww_if_ge 31 42 X dX13_unletter_31 (by decide) (fun q => ?_) (fun q => ?_)
      · replace h := (if_pos q).symm.trans h
        refine ww_iload 42 X dX13_unletter_42 6 rfl ?_
        refine ww_bipush 44 X (v := (6 : Int32)) dX13_unletter_44 (by decide) ?_
        refine ww_ishl 46 X dX13_unletter_46 ?_
        refine ww_iload 47 X dX13_unletter_47 10 rfl ?_
        refine ww_ior 49 X dX13_unletter_49 ?_
        refine ww_ldcw 50 X (v := (65535 : Int32)) dX13_unletter_50 kI_X13_499 ?_
        refine ww_iand 53 X dX13_unletter_53 ?_
        refine ww_istore 54 X dX13_unletter_54 (lv' := [(0, .ref l0), (1, .ref l1), (2, .int l2), (3, .int l3), (4, .ref l4), (5, .int l5), (6, .int (((l6 <<< ((6 : Int32) &&& 31)) ||| v24) &&& (65535 : Int32))), (7, .int l7), (8, .int l8), (9, .int l9), (10, .int v24)]) (by decide) [1, 2, 3, 4, 5, 6, 0, 7, 8, 9, 10] rfl ?_
        refine ww_iinc 56 X dX13_unletter_56 (lv' := [(0, .ref l0), (1, .ref l1), (2, .int l2), (3, .int l3), (4, .ref l4), (5, .int l5), (6, .int (((l6 <<< ((6 : Int32) &&& 31)) ||| v24) &&& (65535 : Int32))), (7, .int (l7 + 6)), (8, .int l8), (9, .int l9), (10, .int v24)]) 7 rfl rfl (by decide) [1, 2, 3, 4, 5, 6, 7, 0, 8, 9, 10] rfl ?_
        refine ww_iload 59 X dX13_unletter_59 7 rfl ?_
        refine ww_bipush 61 X (v := (8 : Int32)) dX13_unletter_61 (by decide) ?_
        refine ww_icmp_lt 63 86 X dX13_unletter_63 (by decide) (fun q => ?_) (fun q => ?_)
        · replace h := (if_pos q).symm.trans h
          refine ww_iinc 86 X dX13_unletter_86 (lv' := [(0, .ref l0), (1, .ref l1), (2, .int l2), (3, .int l3), (4, .ref l4), (5, .int l5), (6, .int (((l6 <<< ((6 : Int32) &&& 31)) ||| v24) &&& (65535 : Int32))), (7, .int (l7 + 6)), (8, .int l8), (9, .int (l9 + 1)), (10, .int v24)]) 9 rfl rfl (by decide) [1, 2, 3, 4, 5, 6, 7, 8, 9, 0, 10] rfl ?_
          refine ww_goto 89 12 X dX13_unletter_89 (by decide) ?_
          exact ww_sub [0, 1, 2, 3, 4, 5, 6, 7, 8, 9] rfl (ih _ _ _ _ _ _ _ _ _ _ _ h)
        · replace h := (if_neg q).symm.trans h
          refine ww_iinc 66 X dX13_unletter_66 (lv' := [(0, .ref l0), (1, .ref l1), (2, .int l2), (3, .int l3), (4, .ref l4), (5, .int l5), (6, .int (((l6 <<< ((6 : Int32) &&& 31)) ||| v24) &&& (65535 : Int32))), (7, .int ((l7 + 6) + (-8))), (8, .int l8), (9, .int l9), (10, .int v24)]) 7 rfl rfl (by decide) [1, 2, 3, 4, 5, 6, 7, 0, 8, 9, 10] rfl ?_
          refine ww_aload 69 X dX13_unletter_69 4 rfl ?_
          refine ww_iload 71 X dX13_unletter_71 5 rfl ?_
          refine ww_iload 73 X dX13_unletter_73 8 rfl ?_
          refine ww_iadd 75 X dX13_unletter_75 ?_
          refine ww_iload 76 X dX13_unletter_76 6 rfl ?_
          refine ww_iload 78 X dX13_unletter_78 7 rfl ?_
          refine ww_ishr 80 X dX13_unletter_80 ?_
          refine ww_i2b 81 X dX13_unletter_81 ?_
          obtain ⟨M82, e82, h⟩ := bO_some h
          refine ww_bast 82 X dX13_unletter_82 e82 ?_
          refine ww_iinc 83 X dX13_unletter_83 (lv' := [(0, .ref l0), (1, .ref l1), (2, .int l2), (3, .int l3), (4, .ref l4), (5, .int l5), (6, .int (((l6 <<< ((6 : Int32) &&& 31)) ||| v24) &&& (65535 : Int32))), (7, .int ((l7 + 6) + (-8))), (8, .int (l8 + 1)), (9, .int l9), (10, .int v24)]) 8 rfl rfl (by decide) [1, 2, 3, 4, 5, 6, 7, 8, 0, 9, 10] rfl ?_
          refine ww_iinc 86 X dX13_unletter_86 (lv' := [(0, .ref l0), (1, .ref l1), (2, .int l2), (3, .int l3), (4, .ref l4), (5, .int l5), (6, .int (((l6 <<< ((6 : Int32) &&& 31)) ||| v24) &&& (65535 : Int32))), (7, .int ((l7 + 6) + (-8))), (8, .int (l8 + 1)), (9, .int (l9 + 1)), (10, .int v24)]) 9 rfl rfl (by decide) [1, 2, 3, 4, 5, 6, 7, 8, 9, 0, 10] rfl ?_
          refine ww_goto 89 12 X dX13_unletter_89 (by decide) ?_
          exact ww_sub [0, 1, 2, 3, 4, 5, 6, 7, 8, 9] rfl (ih _ _ _ _ _ _ _ _ _ _ _ h)
      · replace h := (if_neg q).symm.trans h
        refine ww_aload_n 34 X dX13_unletter_34 0 rfl rfl ?_
        refine ww_iload 35 X dX13_unletter_35 9 rfl ?_
        obtain ⟨M37, e37, h⟩ := bO_some h
        refine ww_putI 37 X dX13_unletter_37 (fP_X13_496 _) e37 ?_
        refine ww_iconst 40 X (v := (-1 : Int32)) dX13_unletter_40 (by decide) ?_
        exact ww_iretE 41 X hQ dX13_unletter_41 h
set_option maxHeartbeats 4000000 in
set_option maxRecDepth 100000 in
theorem wP_X13_unletter {G : mG} {F : Nat} {x : mXT} {sz : Nat} {r0 : Int32} {M0 : mM} (X : mCX G RX13 cX13_unletter 11 (some .int) "unletter" rmX13_unletter x) (hQ : mQI x r0 M0 (sz, 0, 0)) {l0 : Nat} {l1 : Nat} {l2 : Int32} {l3 : Int32} {l4 : Nat} {l5 : Int32} {M : mM} (h : P_X13_unletter G F l0 l1 l2 l3 l4 l5 M = some (r0, M0)) : WW x (sz, 0, 0) M 0 [(0, .ref l0), (1, .ref l1), (2, .int l2), (3, .int l3), (4, .ref l4), (5, .int l5)] [] := by
  unfold P_X13_unletter at h
  refine ww_iconst 0 X (v := (0 : Int32)) dX13_unletter_0 (by decide) ?_
  refine ww_istore 1 X dX13_unletter_1 (lv' := [(0, .ref l0), (1, .ref l1), (2, .int l2), (3, .int l3), (4, .ref l4), (5, .int l5), (6, .int (0 : Int32))]) (by decide) [1, 2, 3, 4, 5, 6, 0] rfl ?_
  refine ww_iconst 3 X (v := (0 : Int32)) dX13_unletter_3 (by decide) ?_
  refine ww_istore 4 X dX13_unletter_4 (lv' := [(0, .ref l0), (1, .ref l1), (2, .int l2), (3, .int l3), (4, .ref l4), (5, .int l5), (6, .int (0 : Int32)), (7, .int (0 : Int32))]) (by decide) [1, 2, 3, 4, 5, 6, 7, 0] rfl ?_
  refine ww_iconst 6 X (v := (0 : Int32)) dX13_unletter_6 (by decide) ?_
  refine ww_istore 7 X dX13_unletter_7 (lv' := [(0, .ref l0), (1, .ref l1), (2, .int l2), (3, .int l3), (4, .ref l4), (5, .int l5), (6, .int (0 : Int32)), (7, .int (0 : Int32)), (8, .int (0 : Int32))]) (by decide) [1, 2, 3, 4, 5, 6, 7, 8, 0] rfl ?_
  refine ww_iconst 9 X (v := (0 : Int32)) dX13_unletter_9 (by decide) ?_
  refine ww_istore 10 X dX13_unletter_10 (lv' := [(0, .ref l0), (1, .ref l1), (2, .int l2), (3, .int l3), (4, .ref l4), (5, .int l5), (6, .int (0 : Int32)), (7, .int (0 : Int32)), (8, .int (0 : Int32)), (9, .int (0 : Int32))]) (by decide) [1, 2, 3, 4, 5, 6, 7, 8, 9, 0] rfl ?_
  exact (wB_X13_unletter_12 X hQ F _ _ _ _ _ _ _ _ _ _ _ h)
theorem c_X13_unletter {G : mG} {F sz : Nat} {r0 : Int32} {M0 : mM} (l : Launch) (D : mD) (A : Nat → Prop) {l0 : Nat} {l1 : Nat} {l2 : Int32} {l3 : Int32} {l4 : Nat} {l5 : Int32} {M : mM} (h : P_X13_unletter G F l0 l1 l2 l3 l4 l5 M = some (r0, M0)) : mMetI l D G A yX13_unletter cX13_unletter 11 (some .int) 2 40 0 0 [.ref l0, .ref l1, .int l2, .int l3, .ref l4, .int l5] M sz r0 M0 sz := mMetI_of l D G A (by decide) (Nat.le_of_ble_eq_true rfl) (fun x X hQ => wP_X13_unletter X hQ h)
/-! SealedTokensModel.encode(I)I -/
theorem dX13_encode_0 : decode cX13_encode 0 = .ok (.iload_n 1, 1) := by decide +kernel
theorem dX13_encode_1 : decode cX13_encode 1 = .ok (.invokestatic 332, 3) := by decide +kernel
theorem dX13_encode_4 : decode cX13_encode 4 = .ok (.ifCond .ne 6, 3) := by decide +kernel
theorem dX13_encode_7 : decode cX13_encode 7 = .ok (.bipush (-2), 2) := by decide +kernel
theorem dX13_encode_9 : decode cX13_encode 9 = .ok (.ireturn, 1) := by decide +kernel
theorem dX13_encode_10 : decode cX13_encode 10 = .ok (.aload_n 0, 1) := by decide +kernel
theorem dX13_encode_11 : decode cX13_encode 11 = .ok (.iconst 0, 1) := by decide +kernel
theorem dX13_encode_12 : decode cX13_encode 12 = .ok (.putfield 467, 3) := by decide +kernel
theorem dX13_encode_15 : decode cX13_encode 15 = .ok (.aload_n 0, 1) := by decide +kernel
theorem dX13_encode_16 : decode cX13_encode 16 = .ok (.aload_n 0, 1) := by decide +kernel
theorem dX13_encode_17 : decode cX13_encode 17 = .ok (.getfield 14, 3) := by decide +kernel
theorem dX13_encode_20 : decode cX13_encode 20 = .ok (.sipush 8192, 3) := by decide +kernel
theorem dX13_encode_23 : decode cX13_encode 23 = .ok (.iload_n 1, 1) := by decide +kernel
theorem dX13_encode_24 : decode cX13_encode 24 = .ok (.imul, 1) := by decide +kernel
theorem dX13_encode_25 : decode cX13_encode 25 = .ok (.aload_n 0, 1) := by decide +kernel
theorem dX13_encode_26 : decode cX13_encode 26 = .ok (.getfield 17, 3) := by decide +kernel
theorem dX13_encode_29 : decode cX13_encode 29 = .ok (.iload_n 1, 1) := by decide +kernel
theorem dX13_encode_30 : decode cX13_encode 30 = .ok (.iaload, 1) := by decide +kernel
theorem dX13_encode_31 : decode cX13_encode 31 = .ok (.invokevirtual 500, 3) := by decide +kernel
theorem dX13_encode_34 : decode cX13_encode 34 = .ok (.aload_n 0, 1) := by decide +kernel
theorem dX13_encode_35 : decode cX13_encode 35 = .ok (.invokevirtual 483, 3) := by decide +kernel
theorem dX13_encode_38 : decode cX13_encode 38 = .ok (.ireturn, 1) := by decide +kernel
abbrev rmX13_encode : Room := { frames := 3, cells := 0, slots := 0, locals := 68 }
set_option maxHeartbeats 4000000 in
set_option maxRecDepth 100000 in
theorem wP_X13_encode {G : mG} {F : Nat} {x : mXT} {sz : Nat} {r0 : Int32} {M0 : mM} (X : mCX G RX13 cX13_encode 2 (some .int) "encode" rmX13_encode x) (hQ : mQI x r0 M0 (sz, 0, 0)) {l0 : Nat} {l1 : Int32} {M : mM} (h : P_X13_encode G F l0 l1 M = some (r0, M0)) : WW x (sz, 0, 0) M 0 [(0, .ref l0), (1, .int l1)] [] := by
  unfold P_X13_encode at h
  refine ww_iload_n 0 X dX13_encode_0 1 rfl rfl ?_
  obtain ⟨v1, M1, e1, h⟩ := bP_some h
  refine ww_callSI0 1 X dX13_encode_1 mY_X13_isRow mL_X13_332 (As := [.int l1]) (rest := []) rfl rfl ⟨Nat.le_of_ble_eq_true rfl, Nat.le_of_ble_eq_true rfl⟩ (Nat.le_of_ble_eq_true rfl) (fun l D A => c_X13_isRow l D A e1) ?_
  refine ww_if_ne 4 10 X dX13_encode_4 (by decide) (fun q => ?_) (fun q => ?_)
  · replace h := (if_neg q).symm.trans h
    refine ww_aload_n 10 X dX13_encode_10 0 rfl rfl ?_
    refine ww_iconst 11 X (v := (0 : Int32)) dX13_encode_11 (by decide) ?_
    obtain ⟨M12, e12, h⟩ := bO_some h
    refine ww_putI 12 X dX13_encode_12 (fP_X13_467 _) e12 ?_
    refine ww_aload_n 15 X dX13_encode_15 0 rfl rfl ?_
    refine ww_aload_n 16 X dX13_encode_16 0 rfl rfl ?_
    obtain ⟨v17, e17, h⟩ := bO_some h
    refine ww_getR 17 X dX13_encode_17 fG_X13_14 e17 ?_
    refine ww_sipush 20 X (v := (8192 : Int32)) dX13_encode_20 (by decide) ?_
    refine ww_iload_n 23 X dX13_encode_23 1 rfl rfl ?_
    refine ww_imul 24 X dX13_encode_24 ?_
    refine ww_aload_n 25 X dX13_encode_25 0 rfl rfl ?_
    obtain ⟨v26, e26, h⟩ := bO_some h
    refine ww_getR 26 X dX13_encode_26 fG_X13_17 e26 ?_
    refine ww_iload_n 29 X dX13_encode_29 1 rfl rfl ?_
    obtain ⟨v30, e30, h⟩ := bO_some h
    refine ww_iald 30 X dX13_encode_30 e30 ?_
    obtain ⟨_, f31, h⟩ := bO_some h
    obtain ⟨M31, e31, h⟩ := bO_some h
    refine ww_callVV0 31 X dX13_encode_31 mY_X13_sayLetters mL_X13_500 (rcv_spec f31) ⟨_, _, rfl⟩ (by decide) (As := [.ref v17, .int ((8192 : Int32) * l1), .int v30]) (rest := []) rfl rfl ⟨Nat.le_of_ble_eq_true rfl, Nat.le_of_ble_eq_true rfl⟩ (Nat.le_of_ble_eq_true rfl) (fun l D A => c_X13_sayLetters l D A e31) ?_
    refine ww_aload_n 34 X dX13_encode_34 0 rfl rfl ?_
    obtain ⟨_, f35, h⟩ := bO_some h
    obtain ⟨v35, M35, e35, h⟩ := bP_some h
    refine ww_callVI0 35 X dX13_encode_35 mY_X13_saved mL_X13_483 (rcv_spec f35) ⟨_, _, rfl⟩ (by decide) (As := []) (rest := []) rfl rfl ⟨Nat.le_of_ble_eq_true rfl, Nat.le_of_ble_eq_true rfl⟩ (Nat.le_of_ble_eq_true rfl) (fun l D A => c_X13_saved l D A e35) ?_
    exact ww_iretE 38 X hQ dX13_encode_38 h
  · replace h := (if_pos q).symm.trans h
    refine ww_bipush 7 X (v := (-2 : Int32)) dX13_encode_7 (by decide) ?_
    exact ww_iretE 9 X hQ dX13_encode_9 h
theorem c_X13_encode {G : mG} {F sz : Nat} {r0 : Int32} {M0 : mM} (l : Launch) (D : mD) (A : Nat → Prop) {l0 : Nat} {l1 : Int32} {M : mM} (h : P_X13_encode G F l0 l1 M = some (r0, M0)) : mMetI l D G A yX13_encode cX13_encode 2 (some .int) 3 68 0 0 [.ref l0, .int l1] M sz r0 M0 sz := mMetI_of l D G A (by decide) (Nat.le_of_ble_eq_true rfl) (fun x X hQ => wP_X13_encode X hQ h)
/-! SealedTokensModel.decode(I)I -/
theorem dX13_decode_0 : decode cX13_decode 0 = .ok (.iload_n 1, 1) := by decide +kernel
theorem dX13_decode_1 : decode cX13_decode 1 = .ok (.invokestatic 332, 3) := by decide +kernel
theorem dX13_decode_4 : decode cX13_decode 4 = .ok (.ifCond .ne 6, 3) := by decide +kernel
theorem dX13_decode_7 : decode cX13_decode 7 = .ok (.bipush (-2), 2) := by decide +kernel
theorem dX13_decode_9 : decode cX13_decode 9 = .ok (.ireturn, 1) := by decide +kernel
theorem dX13_decode_10 : decode cX13_decode 10 = .ok (.aload_n 0, 1) := by decide +kernel
theorem dX13_decode_11 : decode cX13_decode 11 = .ok (.aload_n 0, 1) := by decide +kernel
theorem dX13_decode_12 : decode cX13_decode 12 = .ok (.getfield 14, 3) := by decide +kernel
theorem dX13_decode_15 : decode cX13_decode 15 = .ok (.sipush 8192, 3) := by decide +kernel
theorem dX13_decode_18 : decode cX13_decode 18 = .ok (.iload_n 1, 1) := by decide +kernel
theorem dX13_decode_19 : decode cX13_decode 19 = .ok (.imul, 1) := by decide +kernel
theorem dX13_decode_20 : decode cX13_decode 20 = .ok (.aload_n 0, 1) := by decide +kernel
theorem dX13_decode_21 : decode cX13_decode 21 = .ok (.getfield 17, 3) := by decide +kernel
theorem dX13_decode_24 : decode cX13_decode 24 = .ok (.iload_n 1, 1) := by decide +kernel
theorem dX13_decode_25 : decode cX13_decode 25 = .ok (.iaload, 1) := by decide +kernel
theorem dX13_decode_26 : decode cX13_decode 26 = .ok (.aload_n 0, 1) := by decide +kernel
theorem dX13_decode_27 : decode cX13_decode 27 = .ok (.getfield 60, 3) := by decide +kernel
theorem dX13_decode_30 : decode cX13_decode 30 = .ok (.iconst 0, 1) := by decide +kernel
theorem dX13_decode_31 : decode cX13_decode 31 = .ok (.invokevirtual 503, 3) := by decide +kernel
theorem dX13_decode_34 : decode cX13_decode 34 = .ok (.istore_n 2, 1) := by decide +kernel
theorem dX13_decode_35 : decode cX13_decode 35 = .ok (.iload_n 2, 1) := by decide +kernel
theorem dX13_decode_36 : decode cX13_decode 36 = .ok (.ifCond .ge 13, 3) := by decide +kernel
theorem dX13_decode_39 : decode cX13_decode 39 = .ok (.bipush (-100), 2) := by decide +kernel
theorem dX13_decode_41 : decode cX13_decode 41 = .ok (.aload_n 0, 1) := by decide +kernel
theorem dX13_decode_42 : decode cX13_decode 42 = .ok (.getfield 496, 3) := by decide +kernel
theorem dX13_decode_45 : decode cX13_decode 45 = .ok (.isub, 1) := by decide +kernel
theorem dX13_decode_46 : decode cX13_decode 46 = .ok (.goto 13, 3) := by decide +kernel
theorem dX13_decode_49 : decode cX13_decode 49 = .ok (.aload_n 0, 1) := by decide +kernel
theorem dX13_decode_50 : decode cX13_decode 50 = .ok (.aload_n 0, 1) := by decide +kernel
theorem dX13_decode_51 : decode cX13_decode 51 = .ok (.getfield 60, 3) := by decide +kernel
theorem dX13_decode_54 : decode cX13_decode 54 = .ok (.iconst 0, 1) := by decide +kernel
theorem dX13_decode_55 : decode cX13_decode 55 = .ok (.iload_n 2, 1) := by decide +kernel
theorem dX13_decode_56 : decode cX13_decode 56 = .ok (.invokevirtual 463, 3) := by decide +kernel
theorem dX13_decode_59 : decode cX13_decode 59 = .ok (.ireturn, 1) := by decide +kernel
abbrev rmX13_decode : Room := { frames := 3, cells := 0, slots := 0, locals := 70 }
set_option maxHeartbeats 4000000 in
set_option maxRecDepth 100000 in
theorem wP_X13_decode {G : mG} {F : Nat} {x : mXT} {sz : Nat} {r0 : Int32} {M0 : mM} (X : mCX G RX13 cX13_decode 3 (some .int) "decode" rmX13_decode x) (hQ : mQI x r0 M0 (sz, 0, 0)) {l0 : Nat} {l1 : Int32} {M : mM} (h : P_X13_decode G F l0 l1 M = some (r0, M0)) : WW x (sz, 0, 0) M 0 [(0, .ref l0), (1, .int l1)] [] := by
  unfold P_X13_decode at h
  refine ww_iload_n 0 X dX13_decode_0 1 rfl rfl ?_
  obtain ⟨v1, M1, e1, h⟩ := bP_some h
  refine ww_callSI0 1 X dX13_decode_1 mY_X13_isRow mL_X13_332 (As := [.int l1]) (rest := []) rfl rfl ⟨Nat.le_of_ble_eq_true rfl, Nat.le_of_ble_eq_true rfl⟩ (Nat.le_of_ble_eq_true rfl) (fun l D A => c_X13_isRow l D A e1) ?_
  refine ww_if_ne 4 10 X dX13_decode_4 (by decide) (fun q => ?_) (fun q => ?_)
  · replace h := (if_neg q).symm.trans h
    refine ww_aload_n 10 X dX13_decode_10 0 rfl rfl ?_
    refine ww_aload_n 11 X dX13_decode_11 0 rfl rfl ?_
    obtain ⟨v12, e12, h⟩ := bO_some h
    refine ww_getR 12 X dX13_decode_12 fG_X13_14 e12 ?_
    refine ww_sipush 15 X (v := (8192 : Int32)) dX13_decode_15 (by decide) ?_
    refine ww_iload_n 18 X dX13_decode_18 1 rfl rfl ?_
    refine ww_imul 19 X dX13_decode_19 ?_
    refine ww_aload_n 20 X dX13_decode_20 0 rfl rfl ?_
    obtain ⟨v21, e21, h⟩ := bO_some h
    refine ww_getR 21 X dX13_decode_21 fG_X13_17 e21 ?_
    refine ww_iload_n 24 X dX13_decode_24 1 rfl rfl ?_
    obtain ⟨v25, e25, h⟩ := bO_some h
    refine ww_iald 25 X dX13_decode_25 e25 ?_
    refine ww_aload_n 26 X dX13_decode_26 0 rfl rfl ?_
    obtain ⟨v27, e27, h⟩ := bO_some h
    refine ww_getR 27 X dX13_decode_27 fG_X13_60 e27 ?_
    refine ww_iconst 30 X (v := (0 : Int32)) dX13_decode_30 (by decide) ?_
    obtain ⟨_, f31, h⟩ := bO_some h
    obtain ⟨v31, M31, e31, h⟩ := bP_some h
    refine ww_callVI0 31 X dX13_decode_31 mY_X13_unletter mL_X13_503 (rcv_spec f31) ⟨_, _, rfl⟩ (by decide) (As := [.ref v12, .int ((8192 : Int32) * l1), .int v25, .ref v27, .int (0 : Int32)]) (rest := []) rfl rfl ⟨Nat.le_of_ble_eq_true rfl, Nat.le_of_ble_eq_true rfl⟩ (Nat.le_of_ble_eq_true rfl) (fun l D A => c_X13_unletter l D A e31) ?_
    refine ww_istore_n 34 X dX13_decode_34 (lv' := [(0, .ref l0), (1, .int l1), (2, .int v31)]) rfl (by decide) [1, 2, 0] rfl ?_
    refine ww_iload_n 35 X dX13_decode_35 2 rfl rfl ?_
    refine ww_if_ge 36 49 X dX13_decode_36 (by decide) (fun q => ?_) (fun q => ?_)
    · replace h := (if_pos q).symm.trans h
      refine ww_aload_n 49 X dX13_decode_49 0 rfl rfl ?_
      refine ww_aload_n 50 X dX13_decode_50 0 rfl rfl ?_
      obtain ⟨v51, e51, h⟩ := bO_some h
      refine ww_getR 51 X dX13_decode_51 fG_X13_60 e51 ?_
      refine ww_iconst 54 X (v := (0 : Int32)) dX13_decode_54 (by decide) ?_
      refine ww_iload_n 55 X dX13_decode_55 2 rfl rfl ?_
      obtain ⟨_, f56, h⟩ := bO_some h
      obtain ⟨v56, M56, e56, h⟩ := bP_some h
      refine ww_callVI0 56 X dX13_decode_56 mY_X13_tell mL_X13_463 (rcv_spec f56) ⟨_, _, rfl⟩ (by decide) (As := [.ref v51, .int (0 : Int32), .int v31]) (rest := []) rfl rfl ⟨Nat.le_of_ble_eq_true rfl, Nat.le_of_ble_eq_true rfl⟩ (Nat.le_of_ble_eq_true rfl) (fun l D A => c_X13_tell l D A e56) ?_
      exact ww_iretE 59 X hQ dX13_decode_59 h
    · replace h := (if_neg q).symm.trans h
      refine ww_bipush 39 X (v := (-100 : Int32)) dX13_decode_39 (by decide) ?_
      refine ww_aload_n 41 X dX13_decode_41 0 rfl rfl ?_
      obtain ⟨v42, e42, h⟩ := bO_some h
      refine ww_getI 42 X dX13_decode_42 fG_X13_496 e42 ?_
      refine ww_isub 45 X dX13_decode_45 ?_
      refine ww_goto 46 59 X dX13_decode_46 (by decide) ?_
      exact ww_iretE 59 X hQ dX13_decode_59 h
  · replace h := (if_pos q).symm.trans h
    refine ww_bipush 7 X (v := (-2 : Int32)) dX13_decode_7 (by decide) ?_
    exact ww_iretE 9 X hQ dX13_decode_9 h
theorem c_X13_decode {G : mG} {F sz : Nat} {r0 : Int32} {M0 : mM} (l : Launch) (D : mD) (A : Nat → Prop) {l0 : Nat} {l1 : Int32} {M : mM} (h : P_X13_decode G F l0 l1 M = some (r0, M0)) : mMetI l D G A yX13_decode cX13_decode 3 (some .int) 3 70 0 0 [.ref l0, .int l1] M sz r0 M0 sz := mMetI_of l D G A (by decide) (Nat.le_of_ble_eq_true rfl) (fun x X hQ => wP_X13_decode X hQ h)
/-! SealedTokensModel.right(II)I -/
theorem dX13_right_0 : decode cX13_right 0 = .ok (.iload_n 0, 1) := by decide +kernel
theorem dX13_right_1 : decode cX13_right 1 = .ok (.iload_n 1, 1) := by decide +kernel
theorem dX13_right_2 : decode cX13_right 2 = .ok (.iushr, 1) := by decide +kernel
theorem dX13_right_3 : decode cX13_right 3 = .ok (.iload_n 0, 1) := by decide +kernel
theorem dX13_right_4 : decode cX13_right 4 = .ok (.bipush 32, 2) := by decide +kernel
theorem dX13_right_6 : decode cX13_right 6 = .ok (.iload_n 1, 1) := by decide +kernel
theorem dX13_right_7 : decode cX13_right 7 = .ok (.isub, 1) := by decide +kernel
theorem dX13_right_8 : decode cX13_right 8 = .ok (.ishl, 1) := by decide +kernel
theorem dX13_right_9 : decode cX13_right 9 = .ok (.ior, 1) := by decide +kernel
theorem dX13_right_10 : decode cX13_right 10 = .ok (.ireturn, 1) := by decide +kernel
abbrev rmX13_right : Room := { frames := 0, cells := 0, slots := 0, locals := 0 }
set_option maxHeartbeats 4000000 in
set_option maxRecDepth 100000 in
theorem wP_X13_right {G : mG} {F : Nat} {x : mXT} {sz : Nat} {r0 : Int32} {M0 : mM} (X : mCX G RX13 cX13_right 2 (some .int) "right" rmX13_right x) (hQ : mQI x r0 M0 (sz, 0, 0)) {l0 : Int32} {l1 : Int32} {M : mM} (h : P_X13_right G F l0 l1 M = some (r0, M0)) : WW x (sz, 0, 0) M 0 [(0, .int l0), (1, .int l1)] [] := by
  unfold P_X13_right at h
  refine ww_iload_n 0 X dX13_right_0 0 rfl rfl ?_
  refine ww_iload_n 1 X dX13_right_1 1 rfl rfl ?_
  refine ww_iushr 2 X dX13_right_2 ?_
  refine ww_iload_n 3 X dX13_right_3 0 rfl rfl ?_
  refine ww_bipush 4 X (v := (32 : Int32)) dX13_right_4 (by decide) ?_
  refine ww_iload_n 6 X dX13_right_6 1 rfl rfl ?_
  refine ww_isub 7 X dX13_right_7 ?_
  refine ww_ishl 8 X dX13_right_8 ?_
  refine ww_ior 9 X dX13_right_9 ?_
  exact ww_iretE 10 X hQ dX13_right_10 h
theorem c_X13_right {G : mG} {F sz : Nat} {r0 : Int32} {M0 : mM} (l : Launch) (D : mD) (A : Nat → Prop) {l0 : Int32} {l1 : Int32} {M : mM} (h : P_X13_right G F l0 l1 M = some (r0, M0)) : mMetI l D G A yX13_right cX13_right 2 (some .int) 0 0 0 0 [.int l0, .int l1] M sz r0 M0 sz := mMetI_of l D G A (by decide) (Nat.le_of_ble_eq_true rfl) (fun x X hQ => wP_X13_right X hQ h)
/-! SealedTokensModel.right64(JI)J -/
theorem dX13_right64_0 : decode cX13_right64 0 = .ok (.lload_n 0, 1) := by decide +kernel
theorem dX13_right64_1 : decode cX13_right64 1 = .ok (.iload_n 2, 1) := by decide +kernel
theorem dX13_right64_2 : decode cX13_right64 2 = .ok (.lushr, 1) := by decide +kernel
theorem dX13_right64_3 : decode cX13_right64 3 = .ok (.lload_n 0, 1) := by decide +kernel
theorem dX13_right64_4 : decode cX13_right64 4 = .ok (.bipush 64, 2) := by decide +kernel
theorem dX13_right64_6 : decode cX13_right64 6 = .ok (.iload_n 2, 1) := by decide +kernel
theorem dX13_right64_7 : decode cX13_right64 7 = .ok (.isub, 1) := by decide +kernel
theorem dX13_right64_8 : decode cX13_right64 8 = .ok (.lshl, 1) := by decide +kernel
theorem dX13_right64_9 : decode cX13_right64 9 = .ok (.lor, 1) := by decide +kernel
theorem dX13_right64_10 : decode cX13_right64 10 = .ok (.lreturn, 1) := by decide +kernel
abbrev rmX13_right64 : Room := { frames := 0, cells := 0, slots := 0, locals := 0 }
set_option maxHeartbeats 4000000 in
set_option maxRecDepth 100000 in
theorem wP_X13_right64 {G : mG} {F : Nat} {x : mXT} {sz : Nat} {r0 : Int64} {M0 : mM} (X : mCX G RX13 cX13_right64 3 (some .long) "right64" rmX13_right64 x) (hQ : mQL x r0 M0 (sz, 0, 0)) {l0 : Int64} {l2 : Int32} {M : mM} (h : P_X13_right64 G F l0 l2 M = some (r0, M0)) : WW x (sz, 0, 0) M 0 [(0, .long l0), (2, .int l2)] [] := by
  unfold P_X13_right64 at h
  refine ww_lload_n 0 X dX13_right64_0 0 rfl rfl ?_
  refine ww_iload_n 1 X dX13_right64_1 1 rfl rfl ?_
  refine ww_lushr 2 X dX13_right64_2 ?_
  refine ww_lload_n 3 X dX13_right64_3 0 rfl rfl ?_
  refine ww_bipush 4 X (v := (64 : Int32)) dX13_right64_4 (by decide) ?_
  refine ww_iload_n 6 X dX13_right64_6 1 rfl rfl ?_
  refine ww_isub 7 X dX13_right64_7 ?_
  refine ww_lshl 8 X dX13_right64_8 ?_
  refine ww_lor 9 X dX13_right64_9 ?_
  exact ww_lretE 10 X hQ dX13_right64_10 h
theorem c_X13_right64 {G : mG} {F sz : Nat} {r0 : Int64} {M0 : mM} (l : Launch) (D : mD) (A : Nat → Prop) {l0 : Int64} {l2 : Int32} {M : mM} (h : P_X13_right64 G F l0 l2 M = some (r0, M0)) : mMetL l D G A yX13_right64 cX13_right64 3 (some .long) 0 0 0 0 [.long l0, .int l2] M sz r0 M0 sz := mMetL_of l D G A (by decide) (Nat.le_of_ble_eq_true rfl) (fun x X hQ => wP_X13_right64 X hQ h)
/-! SealedTokensModel.empty()V -/
theorem dX13_empty_0 : decode cX13_empty 0 = .ok (.aload_n 0, 1) := by decide +kernel
theorem dX13_empty_1 : decode cX13_empty 1 = .ok (.iconst 0, 1) := by decide +kernel
theorem dX13_empty_2 : decode cX13_empty 2 = .ok (.putfield 507, 3) := by decide +kernel
theorem dX13_empty_5 : decode cX13_empty 5 = .ok (.return_, 1) := by decide +kernel
abbrev rmX13_empty : Room := { frames := 0, cells := 0, slots := 0, locals := 0 }
set_option maxHeartbeats 4000000 in
set_option maxRecDepth 100000 in
theorem wP_X13_empty {G : mG} {F : Nat} {x : mXT} {sz : Nat} {M0 : mM} (X : mCX G RX13 cX13_empty 1 none "empty" rmX13_empty x) (hQ : mQV x M0 (sz, 0, 0)) {l0 : Nat} {M : mM} (h : P_X13_empty G F l0 M = some M0) : WW x (sz, 0, 0) M 0 [(0, .ref l0)] [] := by
  unfold P_X13_empty at h
  refine ww_aload_n 0 X dX13_empty_0 0 rfl rfl ?_
  refine ww_iconst 1 X (v := (0 : Int32)) dX13_empty_1 (by decide) ?_
  obtain ⟨M2, e2, h⟩ := bO_some h
  refine ww_putI 2 X dX13_empty_2 (fP_X13_507 _) e2 ?_
  exact ww_vretE 5 X hQ dX13_empty_5 h
theorem c_X13_empty {G : mG} {F sz : Nat} {M0 : mM} (l : Launch) (D : mD) (A : Nat → Prop) {l0 : Nat} {M : mM} (h : P_X13_empty G F l0 M = some M0) : mMetV l D G A yX13_empty cX13_empty 1 none 0 0 0 0 [.ref l0] M sz M0 sz := mMetV_of l D G A (by decide) (Nat.le_of_ble_eq_true rfl) (fun x X hQ => wP_X13_empty X hQ h)
/-! SealedTokensModel.lay([BII)V -/
theorem dX13_lay_0 : decode cX13_lay 0 = .ok (.aload_n 1, 1) := by decide +kernel
theorem dX13_lay_1 : decode cX13_lay 1 = .ok (.iload_n 2, 1) := by decide +kernel
theorem dX13_lay_2 : decode cX13_lay 2 = .ok (.aload_n 0, 1) := by decide +kernel
theorem dX13_lay_3 : decode cX13_lay 3 = .ok (.getfield 80, 3) := by decide +kernel
theorem dX13_lay_6 : decode cX13_lay 6 = .ok (.aload_n 0, 1) := by decide +kernel
theorem dX13_lay_7 : decode cX13_lay 7 = .ok (.getfield 507, 3) := by decide +kernel
theorem dX13_lay_10 : decode cX13_lay 10 = .ok (.iload_n 3, 1) := by decide +kernel
theorem dX13_lay_11 : decode cX13_lay 11 = .ok (.invokestatic 317, 3) := by decide +kernel
theorem dX13_lay_14 : decode cX13_lay 14 = .ok (.aload_n 0, 1) := by decide +kernel
theorem dX13_lay_15 : decode cX13_lay 15 = .ok (.dup, 1) := by decide +kernel
theorem dX13_lay_16 : decode cX13_lay 16 = .ok (.getfield 507, 3) := by decide +kernel
theorem dX13_lay_19 : decode cX13_lay 19 = .ok (.iload_n 3, 1) := by decide +kernel
theorem dX13_lay_20 : decode cX13_lay 20 = .ok (.iadd, 1) := by decide +kernel
theorem dX13_lay_21 : decode cX13_lay 21 = .ok (.putfield 507, 3) := by decide +kernel
theorem dX13_lay_24 : decode cX13_lay 24 = .ok (.return_, 1) := by decide +kernel
abbrev rmX13_lay : Room := { frames := 1, cells := 0, slots := 0, locals := 25 }
set_option maxHeartbeats 4000000 in
set_option maxRecDepth 100000 in
theorem wP_X13_lay {G : mG} {F : Nat} {x : mXT} {sz : Nat} {M0 : mM} (X : mCX G RX13 cX13_lay 4 none "lay" rmX13_lay x) (hQ : mQV x M0 (sz, 0, 0)) {l0 : Nat} {l1 : Nat} {l2 : Int32} {l3 : Int32} {M : mM} (h : P_X13_lay G F l0 l1 l2 l3 M = some M0) : WW x (sz, 0, 0) M 0 [(0, .ref l0), (1, .ref l1), (2, .int l2), (3, .int l3)] [] := by
  unfold P_X13_lay at h
  refine ww_aload_n 0 X dX13_lay_0 1 rfl rfl ?_
  refine ww_iload_n 1 X dX13_lay_1 2 rfl rfl ?_
  refine ww_aload_n 2 X dX13_lay_2 0 rfl rfl ?_
  obtain ⟨v3, e3, h⟩ := bO_some h
  refine ww_getR 3 X dX13_lay_3 fG_X13_80 e3 ?_
  refine ww_aload_n 6 X dX13_lay_6 0 rfl rfl ?_
  obtain ⟨v7, e7, h⟩ := bO_some h
  refine ww_getI 7 X dX13_lay_7 fG_X13_507 e7 ?_
  refine ww_iload_n 10 X dX13_lay_10 3 rfl rfl ?_
  obtain ⟨M11, e11, h⟩ := bO_some h
  refine ww_callSV0 11 X dX13_lay_11 mY_X13_move mL_X13_317 (As := [.ref l1, .int l2, .ref v3, .int v7, .int l3]) (rest := []) rfl rfl ⟨Nat.le_of_ble_eq_true rfl, Nat.le_of_ble_eq_true rfl⟩ (Nat.le_of_ble_eq_true rfl) (fun l D A => c_X13_move l D A e11) ?_
  refine ww_aload_n 14 X dX13_lay_14 0 rfl rfl ?_
  refine ww_dup 15 X dX13_lay_15 rfl ?_
  obtain ⟨v16, e16, h⟩ := bO_some h
  refine ww_getI 16 X dX13_lay_16 fG_X13_507 e16 ?_
  refine ww_iload_n 19 X dX13_lay_19 3 rfl rfl ?_
  refine ww_iadd 20 X dX13_lay_20 ?_
  obtain ⟨M21, e21, h⟩ := bO_some h
  refine ww_putI 21 X dX13_lay_21 (fP_X13_507 _) e21 ?_
  exact ww_vretE 24 X hQ dX13_lay_24 h
theorem c_X13_lay {G : mG} {F sz : Nat} {M0 : mM} (l : Launch) (D : mD) (A : Nat → Prop) {l0 : Nat} {l1 : Nat} {l2 : Int32} {l3 : Int32} {M : mM} (h : P_X13_lay G F l0 l1 l2 l3 M = some M0) : mMetV l D G A yX13_lay cX13_lay 4 none 1 25 0 0 [.ref l0, .ref l1, .int l2, .int l3] M sz M0 sz := mMetV_of l D G A (by decide) (Nat.le_of_ble_eq_true rfl) (fun x X hQ => wP_X13_lay X hQ h)
/-! SealedTokensModel.layNumber(JI)V -/
theorem dX13_layNumber_0 : decode cX13_layNumber 0 = .ok (.aload_n 0, 1) := by decide +kernel
theorem dX13_layNumber_1 : decode cX13_layNumber 1 = .ok (.getfield 80, 3) := by decide +kernel
theorem dX13_layNumber_4 : decode cX13_layNumber 4 = .ok (.aload_n 0, 1) := by decide +kernel
theorem dX13_layNumber_5 : decode cX13_layNumber 5 = .ok (.getfield 507, 3) := by decide +kernel
theorem dX13_layNumber_8 : decode cX13_layNumber 8 = .ok (.iload_n 3, 1) := by decide +kernel
theorem dX13_layNumber_9 : decode cX13_layNumber 9 = .ok (.lload_n 1, 1) := by decide +kernel
theorem dX13_layNumber_10 : decode cX13_layNumber 10 = .ok (.invokestatic 328, 3) := by decide +kernel
theorem dX13_layNumber_13 : decode cX13_layNumber 13 = .ok (.aload_n 0, 1) := by decide +kernel
theorem dX13_layNumber_14 : decode cX13_layNumber 14 = .ok (.dup, 1) := by decide +kernel
theorem dX13_layNumber_15 : decode cX13_layNumber 15 = .ok (.getfield 507, 3) := by decide +kernel
theorem dX13_layNumber_18 : decode cX13_layNumber 18 = .ok (.iload_n 3, 1) := by decide +kernel
theorem dX13_layNumber_19 : decode cX13_layNumber 19 = .ok (.iadd, 1) := by decide +kernel
theorem dX13_layNumber_20 : decode cX13_layNumber 20 = .ok (.putfield 507, 3) := by decide +kernel
theorem dX13_layNumber_23 : decode cX13_layNumber 23 = .ok (.return_, 1) := by decide +kernel
abbrev rmX13_layNumber : Room := { frames := 1, cells := 0, slots := 0, locals := 25 }
set_option maxHeartbeats 4000000 in
set_option maxRecDepth 100000 in
theorem wP_X13_layNumber {G : mG} {F : Nat} {x : mXT} {sz : Nat} {M0 : mM} (X : mCX G RX13 cX13_layNumber 4 none "layNumber" rmX13_layNumber x) (hQ : mQV x M0 (sz, 0, 0)) {l0 : Nat} {l1 : Int64} {l3 : Int32} {M : mM} (h : P_X13_layNumber G F l0 l1 l3 M = some M0) : WW x (sz, 0, 0) M 0 [(0, .ref l0), (1, .long l1), (3, .int l3)] [] := by
  unfold P_X13_layNumber at h
  refine ww_aload_n 0 X dX13_layNumber_0 0 rfl rfl ?_
  obtain ⟨v1, e1, h⟩ := bO_some h
  refine ww_getR 1 X dX13_layNumber_1 fG_X13_80 e1 ?_
  refine ww_aload_n 4 X dX13_layNumber_4 0 rfl rfl ?_
  obtain ⟨v5, e5, h⟩ := bO_some h
  refine ww_getI 5 X dX13_layNumber_5 fG_X13_507 e5 ?_
  refine ww_iload_n 8 X dX13_layNumber_8 2 rfl rfl ?_
  refine ww_lload_n 9 X dX13_layNumber_9 1 rfl rfl ?_
  obtain ⟨M10, e10, h⟩ := bO_some h
  refine ww_callSV0 10 X dX13_layNumber_10 mY_X13_put mL_X13_328 (As := [.ref v1, .int v5, .int l3, .long l1]) (rest := []) rfl rfl ⟨Nat.le_of_ble_eq_true rfl, Nat.le_of_ble_eq_true rfl⟩ (Nat.le_of_ble_eq_true rfl) (fun l D A => c_X13_put l D A e10) ?_
  refine ww_aload_n 13 X dX13_layNumber_13 0 rfl rfl ?_
  refine ww_dup 14 X dX13_layNumber_14 rfl ?_
  obtain ⟨v15, e15, h⟩ := bO_some h
  refine ww_getI 15 X dX13_layNumber_15 fG_X13_507 e15 ?_
  refine ww_iload_n 18 X dX13_layNumber_18 2 rfl rfl ?_
  refine ww_iadd 19 X dX13_layNumber_19 ?_
  obtain ⟨M20, e20, h⟩ := bO_some h
  refine ww_putI 20 X dX13_layNumber_20 (fP_X13_507 _) e20 ?_
  exact ww_vretE 23 X hQ dX13_layNumber_23 h
theorem c_X13_layNumber {G : mG} {F sz : Nat} {M0 : mM} (l : Launch) (D : mD) (A : Nat → Prop) {l0 : Nat} {l1 : Int64} {l3 : Int32} {M : mM} (h : P_X13_layNumber G F l0 l1 l3 M = some M0) : mMetV l D G A yX13_layNumber cX13_layNumber 4 none 1 25 0 0 [.ref l0, .long l1, .int l3] M sz M0 sz := mMetV_of l D G A (by decide) (Nat.le_of_ble_eq_true rfl) (fun x X hQ => wP_X13_layNumber X hQ h)
/-! SealedTokensModel.fill(I)V -/
theorem dX13_fill_0 : decode cX13_fill 0 = .ok (.ldc2_w 510, 3) := by decide +kernel
theorem dX13_fill_3 : decode cX13_fill 3 = .ok (.aload_n 0, 1) := by decide +kernel
theorem dX13_fill_4 : decode cX13_fill 4 = .ok (.getfield 507, 3) := by decide +kernel
theorem dX13_fill_7 : decode cX13_fill 7 = .ok (.i2l, 1) := by decide +kernel
theorem dX13_fill_8 : decode cX13_fill 8 = .ok (.lmul, 1) := by decide +kernel
theorem dX13_fill_9 : decode cX13_fill 9 = .ok (.lstore_n 2, 1) := by decide +kernel
theorem dX13_fill_10 : decode cX13_fill 10 = .ok (.aload_n 0, 1) := by decide +kernel
theorem dX13_fill_11 : decode cX13_fill 11 = .ok (.ldc2_w 512, 3) := by decide +kernel
theorem dX13_fill_14 : decode cX13_fill 14 = .ok (.iconst 1, 1) := by decide +kernel
theorem dX13_fill_15 : decode cX13_fill 15 = .ok (.invokevirtual 514, 3) := by decide +kernel
theorem dX13_fill_18 : decode cX13_fill 18 = .ok (.aload_n 0, 1) := by decide +kernel
theorem dX13_fill_19 : decode cX13_fill 19 = .ok (.getfield 507, 3) := by decide +kernel
theorem dX13_fill_22 : decode cX13_fill 22 = .ok (.iload_n 1, 1) := by decide +kernel
theorem dX13_fill_23 : decode cX13_fill 23 = .ok (.irem, 1) := by decide +kernel
theorem dX13_fill_24 : decode cX13_fill 24 = .ok (.iload_n 1, 1) := by decide +kernel
theorem dX13_fill_25 : decode cX13_fill 25 = .ok (.iload_n 1, 1) := by decide +kernel
theorem dX13_fill_26 : decode cX13_fill 26 = .ok (.bipush 8, 2) := by decide +kernel
theorem dX13_fill_28 : decode cX13_fill 28 = .ok (.idiv, 1) := by decide +kernel
theorem dX13_fill_29 : decode cX13_fill 29 = .ok (.isub, 1) := by decide +kernel
theorem dX13_fill_30 : decode cX13_fill 30 = .ok (.if_icmp .eq 12, 3) := by decide +kernel
theorem dX13_fill_33 : decode cX13_fill 33 = .ok (.aload_n 0, 1) := by decide +kernel
theorem dX13_fill_34 : decode cX13_fill 34 = .ok (.lconst 0, 1) := by decide +kernel
theorem dX13_fill_35 : decode cX13_fill 35 = .ok (.iconst 1, 1) := by decide +kernel
theorem dX13_fill_36 : decode cX13_fill 36 = .ok (.invokevirtual 514, 3) := by decide +kernel
theorem dX13_fill_39 : decode cX13_fill 39 = .ok (.goto (-21), 3) := by decide +kernel
theorem dX13_fill_42 : decode cX13_fill 42 = .ok (.aload_n 0, 1) := by decide +kernel
theorem dX13_fill_43 : decode cX13_fill 43 = .ok (.lconst 0, 1) := by decide +kernel
theorem dX13_fill_44 : decode cX13_fill 44 = .ok (.iload_n 1, 1) := by decide +kernel
theorem dX13_fill_45 : decode cX13_fill 45 = .ok (.bipush 8, 2) := by decide +kernel
theorem dX13_fill_47 : decode cX13_fill 47 = .ok (.idiv, 1) := by decide +kernel
theorem dX13_fill_48 : decode cX13_fill 48 = .ok (.bipush 8, 2) := by decide +kernel
theorem dX13_fill_50 : decode cX13_fill 50 = .ok (.isub, 1) := by decide +kernel
theorem dX13_fill_51 : decode cX13_fill 51 = .ok (.invokevirtual 514, 3) := by decide +kernel
theorem dX13_fill_54 : decode cX13_fill 54 = .ok (.aload_n 0, 1) := by decide +kernel
theorem dX13_fill_55 : decode cX13_fill 55 = .ok (.lload_n 2, 1) := by decide +kernel
theorem dX13_fill_56 : decode cX13_fill 56 = .ok (.bipush 8, 2) := by decide +kernel
theorem dX13_fill_58 : decode cX13_fill 58 = .ok (.invokevirtual 514, 3) := by decide +kernel
theorem dX13_fill_61 : decode cX13_fill 61 = .ok (.return_, 1) := by decide +kernel
abbrev rmX13_fill : Room := { frames := 2, cells := 0, slots := 0, locals := 48 }
set_option maxHeartbeats 4000000 in
set_option maxRecDepth 100000 in
theorem wB_X13_fill_18 {G : mG} {F : Nat} {x : mXT} {sz : Nat} {M0 : mM} (X : mCX G RX13 cX13_fill 4 none "fill" rmX13_fill x) (hQ : mQV x M0 (sz, 0, 0)) : ∀ (n : Nat) (l0 : Nat) (l1 : Int32) (l2 : Int64) (M : mM), B_X13_fill_18 G F n l0 l1 l2 M = some M0 → WW x (sz, 0, 0) M 18 [(0, .ref l0), (1, .int l1), (2, .long l2)] [] := by
  intro n
  induction n with
  | zero =>
    intro l0 l1 l2 M h
    exact nomatch (show (none : Option mM) = some M0 from h)
  | succ n ih =>
    intro l0 l1 l2 M h
    rw [B_X13_fill_18] at h
    refine ww_aload_n 18 X dX13_fill_18 0 rfl rfl ?_
    obtain ⟨v19, e19, h⟩ := bO_some h
    refine ww_getI 19 X dX13_fill_19 fG_X13_507 e19 ?_
    refine ww_iload_n 22 X dX13_fill_22 1 rfl rfl ?_
    obtain ⟨v23, e23, h⟩ := bO_some h
    refine ww_irem 23 X dX13_fill_23 e23 ?_
    refine ww_iload_n 24 X dX13_fill_24 1 rfl rfl ?_
    refine ww_iload_n 25 X dX13_fill_25 1 rfl rfl ?_
    refine ww_bipush 26 X (v := (8 : Int32)) dX13_fill_26 (by decide) ?_
    refine ww_idiv 28 X (v := (l1 / (8 : Int32))) dX13_fill_28 rfl ?_
    refine ww_isub 29 X dX13_fill_29 ?_
    refine ww_icmp_eq 30 42 X dX13_fill_30 (by decide) (fun q => ?_) (fun q => ?_)
    · replace h := (if_pos q).symm.trans h
      refine ww_aload_n 42 X dX13_fill_42 0 rfl rfl ?_
      refine ww_lconst 43 X (v := (0 : Int64)) dX13_fill_43 (by decide) ?_
      refine ww_iload_n 44 X dX13_fill_44 1 rfl rfl ?_
      refine ww_bipush 45 X (v := (8 : Int32)) dX13_fill_45 (by decide) ?_
      refine ww_idiv 47 X (v := (l1 / (8 : Int32))) dX13_fill_47 rfl ?_
      refine ww_bipush 48 X (v := (8 : Int32)) dX13_fill_48 (by decide) ?_
      refine ww_isub 50 X dX13_fill_50 ?_
      obtain ⟨_, f51, h⟩ := bO_some h
      obtain ⟨M51, e51, h⟩ := bO_some h
      refine ww_callVV0 51 X dX13_fill_51 mY_X13_layNumber mL_X13_514 (rcv_spec f51) ⟨_, _, rfl⟩ (by decide) (As := [.long (0 : Int64), .int ((l1 / (8 : Int32)) - (8 : Int32))]) (rest := []) rfl rfl ⟨Nat.le_of_ble_eq_true rfl, Nat.le_of_ble_eq_true rfl⟩ (Nat.le_of_ble_eq_true rfl) (fun l D A => c_X13_layNumber l D A e51) ?_
      refine ww_aload_n 54 X dX13_fill_54 0 rfl rfl ?_
      refine ww_lload_n 55 X dX13_fill_55 2 rfl rfl ?_
      refine ww_bipush 56 X (v := (8 : Int32)) dX13_fill_56 (by decide) ?_
      obtain ⟨_, f58, h⟩ := bO_some h
      obtain ⟨M58, e58, h⟩ := bO_some h
      refine ww_callVV0 58 X dX13_fill_58 mY_X13_layNumber mL_X13_514 (rcv_spec f58) ⟨_, _, rfl⟩ (by decide) (As := [.long l2, .int (8 : Int32)]) (rest := []) rfl rfl ⟨Nat.le_of_ble_eq_true rfl, Nat.le_of_ble_eq_true rfl⟩ (Nat.le_of_ble_eq_true rfl) (fun l D A => c_X13_layNumber l D A e58) ?_
      exact ww_vretE 61 X hQ dX13_fill_61 h
    · replace h := (if_neg q).symm.trans h
      refine ww_aload_n 33 X dX13_fill_33 0 rfl rfl ?_
      refine ww_lconst 34 X (v := (0 : Int64)) dX13_fill_34 (by decide) ?_
      refine ww_iconst 35 X (v := (1 : Int32)) dX13_fill_35 (by decide) ?_
      obtain ⟨_, f36, h⟩ := bO_some h
      obtain ⟨M36, e36, h⟩ := bO_some h
      refine ww_callVV0 36 X dX13_fill_36 mY_X13_layNumber mL_X13_514 (rcv_spec f36) ⟨_, _, rfl⟩ (by decide) (As := [.long (0 : Int64), .int (1 : Int32)]) (rest := []) rfl rfl ⟨Nat.le_of_ble_eq_true rfl, Nat.le_of_ble_eq_true rfl⟩ (Nat.le_of_ble_eq_true rfl) (fun l D A => c_X13_layNumber l D A e36) ?_
      refine ww_goto 39 18 X dX13_fill_39 (by decide) ?_
      exact (ih _ _ _ _ h)
set_option maxHeartbeats 4000000 in
set_option maxRecDepth 100000 in
theorem wP_X13_fill {G : mG} {F : Nat} {x : mXT} {sz : Nat} {M0 : mM} (X : mCX G RX13 cX13_fill 4 none "fill" rmX13_fill x) (hQ : mQV x M0 (sz, 0, 0)) {l0 : Nat} {l1 : Int32} {M : mM} (h : P_X13_fill G F l0 l1 M = some M0) : WW x (sz, 0, 0) M 0 [(0, .ref l0), (1, .int l1)] [] := by
  unfold P_X13_fill at h
  refine ww_ldc2 0 X (v := (8 : Int64)) dX13_fill_0 kL_X13_510 ?_
  refine ww_aload_n 3 X dX13_fill_3 0 rfl rfl ?_
  obtain ⟨v4, e4, h⟩ := bO_some h
  refine ww_getI 4 X dX13_fill_4 fG_X13_507 e4 ?_
  refine ww_i2l 7 X dX13_fill_7 ?_
  refine ww_lmul 8 X dX13_fill_8 ?_
  refine ww_lstore_n 9 X dX13_fill_9 (lv' := [(0, .ref l0), (1, .int l1), (2, .long ((8 : Int64) * (v4.toInt64)))]) rfl (by decide) [1, 2, 0] rfl ?_
  refine ww_aload_n 10 X dX13_fill_10 0 rfl rfl ?_
  refine ww_ldc2 11 X (v := (128 : Int64)) dX13_fill_11 kL_X13_512 ?_
  refine ww_iconst 14 X (v := (1 : Int32)) dX13_fill_14 (by decide) ?_
  obtain ⟨_, f15, h⟩ := bO_some h
  obtain ⟨M15, e15, h⟩ := bO_some h
  refine ww_callVV0 15 X dX13_fill_15 mY_X13_layNumber mL_X13_514 (rcv_spec f15) ⟨_, _, rfl⟩ (by decide) (As := [.long (128 : Int64), .int (1 : Int32)]) (rest := []) rfl rfl ⟨Nat.le_of_ble_eq_true rfl, Nat.le_of_ble_eq_true rfl⟩ (Nat.le_of_ble_eq_true rfl) (fun l D A => c_X13_layNumber l D A e15) ?_
  exact (wB_X13_fill_18 X hQ F _ _ _ _ h)
theorem c_X13_fill {G : mG} {F sz : Nat} {M0 : mM} (l : Launch) (D : mD) (A : Nat → Prop) {l0 : Nat} {l1 : Int32} {M : mM} (h : P_X13_fill G F l0 l1 M = some M0) : mMetV l D G A yX13_fill cX13_fill 4 none 2 48 0 0 [.ref l0, .int l1] M sz M0 sz := mMetV_of l D G A (by decide) (Nat.le_of_ble_eq_true rfl) (fun x X hQ => wP_X13_fill X hQ h)
/-! SealedTokensModel.firstOf(I)J -/
theorem dX13_firstOf_0 : decode cX13_firstOf 0 = .ok (.iload_n 0, 1) := by decide +kernel
theorem dX13_firstOf_1 : decode cX13_firstOf 1 = .ok (.tableswitch 71 0 6 #[43, 47, 51, 55, 59, 63, 67], 43) := by decide +kernel
theorem dX13_firstOf_44 : decode cX13_firstOf 44 = .ok (.ldc2_w 535, 3) := by decide +kernel
theorem dX13_firstOf_47 : decode cX13_firstOf 47 = .ok (.lreturn, 1) := by decide +kernel
theorem dX13_firstOf_48 : decode cX13_firstOf 48 = .ok (.ldc2_w 537, 3) := by decide +kernel
theorem dX13_firstOf_51 : decode cX13_firstOf 51 = .ok (.lreturn, 1) := by decide +kernel
theorem dX13_firstOf_52 : decode cX13_firstOf 52 = .ok (.ldc2_w 539, 3) := by decide +kernel
theorem dX13_firstOf_55 : decode cX13_firstOf 55 = .ok (.lreturn, 1) := by decide +kernel
theorem dX13_firstOf_56 : decode cX13_firstOf 56 = .ok (.ldc2_w 541, 3) := by decide +kernel
theorem dX13_firstOf_59 : decode cX13_firstOf 59 = .ok (.lreturn, 1) := by decide +kernel
theorem dX13_firstOf_60 : decode cX13_firstOf 60 = .ok (.ldc2_w 543, 3) := by decide +kernel
theorem dX13_firstOf_63 : decode cX13_firstOf 63 = .ok (.lreturn, 1) := by decide +kernel
theorem dX13_firstOf_64 : decode cX13_firstOf 64 = .ok (.ldc2_w 545, 3) := by decide +kernel
theorem dX13_firstOf_67 : decode cX13_firstOf 67 = .ok (.lreturn, 1) := by decide +kernel
theorem dX13_firstOf_68 : decode cX13_firstOf 68 = .ok (.ldc2_w 547, 3) := by decide +kernel
theorem dX13_firstOf_71 : decode cX13_firstOf 71 = .ok (.lreturn, 1) := by decide +kernel
theorem dX13_firstOf_72 : decode cX13_firstOf 72 = .ok (.ldc2_w 549, 3) := by decide +kernel
theorem dX13_firstOf_75 : decode cX13_firstOf 75 = .ok (.lreturn, 1) := by decide +kernel
abbrev rmX13_firstOf : Room := { frames := 0, cells := 0, slots := 0, locals := 0 }
set_option maxHeartbeats 4000000 in
set_option maxRecDepth 100000 in
theorem wP_X13_firstOf {G : mG} {F : Nat} {x : mXT} {sz : Nat} {r0 : Int64} {M0 : mM} (X : mCX G RX13 cX13_firstOf 1 (some .long) "firstOf" rmX13_firstOf x) (hQ : mQL x r0 M0 (sz, 0, 0)) {l0 : Int32} {M : mM} (h : P_X13_firstOf G F l0 M = some (r0, M0)) : WW x (sz, 0, 0) M 0 [(0, .int l0)] [] := by
  unfold P_X13_firstOf at h
  refine ww_iload_n 0 X dX13_firstOf_0 0 rfl rfl ?_
  by_cases q0 : l0 = (0 : Int32)
  · replace h := (if_pos q0).symm.trans h
    refine ww_tableIn 1 44 X dX13_firstOf_1 (off := 43) (by rw [q0]; decide) (by rw [q0]; decide) (by rw [q0]; decide) (by decide) ?_
    refine ww_ldc2 44 X (v := (7640891576956012808 : Int64)) dX13_firstOf_44 kL_X13_535 ?_
    exact ww_lretE 47 X hQ dX13_firstOf_47 h
  · replace h := (if_neg q0).symm.trans h
    by_cases q1 : l0 = (1 : Int32)
    · replace h := (if_pos q1).symm.trans h
      refine ww_tableIn 1 48 X dX13_firstOf_1 (off := 47) (by rw [q1]; decide) (by rw [q1]; decide) (by rw [q1]; decide) (by decide) ?_
      refine ww_ldc2 48 X (v := (-4942790177534073029 : Int64)) dX13_firstOf_48 kL_X13_537 ?_
      exact ww_lretE 51 X hQ dX13_firstOf_51 h
    · replace h := (if_neg q1).symm.trans h
      by_cases q2 : l0 = (2 : Int32)
      · replace h := (if_pos q2).symm.trans h
        refine ww_tableIn 1 52 X dX13_firstOf_1 (off := 51) (by rw [q2]; decide) (by rw [q2]; decide) (by rw [q2]; decide) (by decide) ?_
        refine ww_ldc2 52 X (v := (4354685564936845355 : Int64)) dX13_firstOf_52 kL_X13_539 ?_
        exact ww_lretE 55 X hQ dX13_firstOf_55 h
      · replace h := (if_neg q2).symm.trans h
        by_cases q3 : l0 = (3 : Int32)
        · replace h := (if_pos q3).symm.trans h
          refine ww_tableIn 1 56 X dX13_firstOf_1 (off := 55) (by rw [q3]; decide) (by rw [q3]; decide) (by rw [q3]; decide) (by decide) ?_
          refine ww_ldc2 56 X (v := (-6534734903238641935 : Int64)) dX13_firstOf_56 kL_X13_541 ?_
          exact ww_lretE 59 X hQ dX13_firstOf_59 h
        · replace h := (if_neg q3).symm.trans h
          by_cases q4 : l0 = (4 : Int32)
          · replace h := (if_pos q4).symm.trans h
            refine ww_tableIn 1 60 X dX13_firstOf_1 (off := 59) (by rw [q4]; decide) (by rw [q4]; decide) (by rw [q4]; decide) (by decide) ?_
            refine ww_ldc2 60 X (v := (5840696475078001361 : Int64)) dX13_firstOf_60 kL_X13_543 ?_
            exact ww_lretE 63 X hQ dX13_firstOf_63 h
          · replace h := (if_neg q4).symm.trans h
            by_cases q5 : l0 = (5 : Int32)
            · replace h := (if_pos q5).symm.trans h
              refine ww_tableIn 1 64 X dX13_firstOf_1 (off := 63) (by rw [q5]; decide) (by rw [q5]; decide) (by rw [q5]; decide) (by decide) ?_
              refine ww_ldc2 64 X (v := (-7276294671716946913 : Int64)) dX13_firstOf_64 kL_X13_545 ?_
              exact ww_lretE 67 X hQ dX13_firstOf_67 h
            · replace h := (if_neg q5).symm.trans h
              by_cases q6 : l0 = (6 : Int32)
              · replace h := (if_pos q6).symm.trans h
                refine ww_tableIn 1 68 X dX13_firstOf_1 (off := 67) (by rw [q6]; decide) (by rw [q6]; decide) (by rw [q6]; decide) (by decide) ?_
                refine ww_ldc2 68 X (v := (2270897969802886507 : Int64)) dX13_firstOf_68 kL_X13_547 ?_
                exact ww_lretE 71 X hQ dX13_firstOf_71 h
              · replace h := (if_neg q6).symm.trans h
                have z0 := lv_neT q0 (show (0 : Int32).toInt = 0 by decide)
                have z1 := lv_neT q1 (show (1 : Int32).toInt = 1 by decide)
                have z2 := lv_neT q2 (show (2 : Int32).toInt = 2 by decide)
                have z3 := lv_neT q3 (show (3 : Int32).toInt = 3 by decide)
                have z4 := lv_neT q4 (show (4 : Int32).toInt = 4 by decide)
                have z5 := lv_neT q5 (show (5 : Int32).toInt = 5 by decide)
                have z6 := lv_neT q6 (show (6 : Int32).toInt = 6 by decide)
                refine ww_tableOut 1 72 X dX13_firstOf_1 (by omega) (by decide) ?_
                refine ww_ldc2 72 X (v := (6620516959819538809 : Int64)) dX13_firstOf_72 kL_X13_549 ?_
                exact ww_lretE 75 X hQ dX13_firstOf_75 h
theorem c_X13_firstOf {G : mG} {F sz : Nat} {r0 : Int64} {M0 : mM} (l : Launch) (D : mD) (A : Nat → Prop) {l0 : Int32} {M : mM} (h : P_X13_firstOf G F l0 M = some (r0, M0)) : mMetL l D G A yX13_firstOf cX13_firstOf 1 (some .long) 0 0 0 0 [.int l0] M sz r0 M0 sz := mMetL_of l D G A (by decide) (Nat.le_of_ble_eq_true rfl) (fun x X hQ => wP_X13_firstOf X hQ h)
/-! SealedTokensModel.turn64()V -/
theorem dX13_turn64_0 : decode cX13_turn64 0 = .ok (.bipush 16, 2) := by decide +kernel
theorem dX13_turn64_2 : decode cX13_turn64 2 = .ok (.istore_n 1, 1) := by decide +kernel
theorem dX13_turn64_3 : decode cX13_turn64 3 = .ok (.iload_n 1, 1) := by decide +kernel
theorem dX13_turn64_4 : decode cX13_turn64 4 = .ok (.bipush 80, 2) := by decide +kernel
theorem dX13_turn64_6 : decode cX13_turn64 6 = .ok (.if_icmp .ge 94, 3) := by decide +kernel
theorem dX13_turn64_9 : decode cX13_turn64 9 = .ok (.aload_n 0, 1) := by decide +kernel
theorem dX13_turn64_10 : decode cX13_turn64 10 = .ok (.getfield 69, 3) := by decide +kernel
theorem dX13_turn64_13 : decode cX13_turn64 13 = .ok (.iload_n 1, 1) := by decide +kernel
theorem dX13_turn64_14 : decode cX13_turn64 14 = .ok (.bipush 15, 2) := by decide +kernel
theorem dX13_turn64_16 : decode cX13_turn64 16 = .ok (.isub, 1) := by decide +kernel
theorem dX13_turn64_17 : decode cX13_turn64 17 = .ok (.laload, 1) := by decide +kernel
theorem dX13_turn64_18 : decode cX13_turn64 18 = .ok (.lstore_n 2, 1) := by decide +kernel
theorem dX13_turn64_19 : decode cX13_turn64 19 = .ok (.aload_n 0, 1) := by decide +kernel
theorem dX13_turn64_20 : decode cX13_turn64 20 = .ok (.getfield 69, 3) := by decide +kernel
theorem dX13_turn64_23 : decode cX13_turn64 23 = .ok (.iload_n 1, 1) := by decide +kernel
theorem dX13_turn64_24 : decode cX13_turn64 24 = .ok (.iconst 2, 1) := by decide +kernel
theorem dX13_turn64_25 : decode cX13_turn64 25 = .ok (.isub, 1) := by decide +kernel
theorem dX13_turn64_26 : decode cX13_turn64 26 = .ok (.laload, 1) := by decide +kernel
theorem dX13_turn64_27 : decode cX13_turn64 27 = .ok (.lstore 4, 2) := by decide +kernel
theorem dX13_turn64_29 : decode cX13_turn64 29 = .ok (.aload_n 0, 1) := by decide +kernel
theorem dX13_turn64_30 : decode cX13_turn64 30 = .ok (.getfield 69, 3) := by decide +kernel
theorem dX13_turn64_33 : decode cX13_turn64 33 = .ok (.iload_n 1, 1) := by decide +kernel
theorem dX13_turn64_34 : decode cX13_turn64 34 = .ok (.aload_n 0, 1) := by decide +kernel
theorem dX13_turn64_35 : decode cX13_turn64 35 = .ok (.getfield 69, 3) := by decide +kernel
theorem dX13_turn64_38 : decode cX13_turn64 38 = .ok (.iload_n 1, 1) := by decide +kernel
theorem dX13_turn64_39 : decode cX13_turn64 39 = .ok (.bipush 16, 2) := by decide +kernel
theorem dX13_turn64_41 : decode cX13_turn64 41 = .ok (.isub, 1) := by decide +kernel
theorem dX13_turn64_42 : decode cX13_turn64 42 = .ok (.laload, 1) := by decide +kernel
theorem dX13_turn64_43 : decode cX13_turn64 43 = .ok (.lload_n 2, 1) := by decide +kernel
theorem dX13_turn64_44 : decode cX13_turn64 44 = .ok (.iconst 1, 1) := by decide +kernel
theorem dX13_turn64_45 : decode cX13_turn64 45 = .ok (.invokestatic 561, 3) := by decide +kernel
theorem dX13_turn64_48 : decode cX13_turn64 48 = .ok (.lload_n 2, 1) := by decide +kernel
theorem dX13_turn64_49 : decode cX13_turn64 49 = .ok (.bipush 8, 2) := by decide +kernel
theorem dX13_turn64_51 : decode cX13_turn64 51 = .ok (.invokestatic 561, 3) := by decide +kernel
theorem dX13_turn64_54 : decode cX13_turn64 54 = .ok (.lxor, 1) := by decide +kernel
theorem dX13_turn64_55 : decode cX13_turn64 55 = .ok (.lload_n 2, 1) := by decide +kernel
theorem dX13_turn64_56 : decode cX13_turn64 56 = .ok (.bipush 7, 2) := by decide +kernel
theorem dX13_turn64_58 : decode cX13_turn64 58 = .ok (.lushr, 1) := by decide +kernel
theorem dX13_turn64_59 : decode cX13_turn64 59 = .ok (.lxor, 1) := by decide +kernel
theorem dX13_turn64_60 : decode cX13_turn64 60 = .ok (.ladd, 1) := by decide +kernel
theorem dX13_turn64_61 : decode cX13_turn64 61 = .ok (.aload_n 0, 1) := by decide +kernel
theorem dX13_turn64_62 : decode cX13_turn64 62 = .ok (.getfield 69, 3) := by decide +kernel
theorem dX13_turn64_65 : decode cX13_turn64 65 = .ok (.iload_n 1, 1) := by decide +kernel
theorem dX13_turn64_66 : decode cX13_turn64 66 = .ok (.bipush 7, 2) := by decide +kernel
theorem dX13_turn64_68 : decode cX13_turn64 68 = .ok (.isub, 1) := by decide +kernel
theorem dX13_turn64_69 : decode cX13_turn64 69 = .ok (.laload, 1) := by decide +kernel
theorem dX13_turn64_70 : decode cX13_turn64 70 = .ok (.ladd, 1) := by decide +kernel
theorem dX13_turn64_71 : decode cX13_turn64 71 = .ok (.lload 4, 2) := by decide +kernel
theorem dX13_turn64_73 : decode cX13_turn64 73 = .ok (.bipush 19, 2) := by decide +kernel
theorem dX13_turn64_75 : decode cX13_turn64 75 = .ok (.invokestatic 561, 3) := by decide +kernel
theorem dX13_turn64_78 : decode cX13_turn64 78 = .ok (.lload 4, 2) := by decide +kernel
theorem dX13_turn64_80 : decode cX13_turn64 80 = .ok (.bipush 61, 2) := by decide +kernel
theorem dX13_turn64_82 : decode cX13_turn64 82 = .ok (.invokestatic 561, 3) := by decide +kernel
theorem dX13_turn64_85 : decode cX13_turn64 85 = .ok (.lxor, 1) := by decide +kernel
theorem dX13_turn64_86 : decode cX13_turn64 86 = .ok (.lload 4, 2) := by decide +kernel
theorem dX13_turn64_88 : decode cX13_turn64 88 = .ok (.bipush 6, 2) := by decide +kernel
theorem dX13_turn64_90 : decode cX13_turn64 90 = .ok (.lushr, 1) := by decide +kernel
theorem dX13_turn64_91 : decode cX13_turn64 91 = .ok (.lxor, 1) := by decide +kernel
theorem dX13_turn64_92 : decode cX13_turn64 92 = .ok (.ladd, 1) := by decide +kernel
theorem dX13_turn64_93 : decode cX13_turn64 93 = .ok (.lastore, 1) := by decide +kernel
theorem dX13_turn64_94 : decode cX13_turn64 94 = .ok (.iinc 1 1, 3) := by decide +kernel
theorem dX13_turn64_97 : decode cX13_turn64 97 = .ok (.goto (-94), 3) := by decide +kernel
theorem dX13_turn64_100 : decode cX13_turn64 100 = .ok (.aload_n 0, 1) := by decide +kernel
theorem dX13_turn64_101 : decode cX13_turn64 101 = .ok (.getfield 73, 3) := by decide +kernel
theorem dX13_turn64_104 : decode cX13_turn64 104 = .ok (.iconst 0, 1) := by decide +kernel
theorem dX13_turn64_105 : decode cX13_turn64 105 = .ok (.laload, 1) := by decide +kernel
theorem dX13_turn64_106 : decode cX13_turn64 106 = .ok (.lstore_n 1, 1) := by decide +kernel
theorem dX13_turn64_107 : decode cX13_turn64 107 = .ok (.aload_n 0, 1) := by decide +kernel
theorem dX13_turn64_108 : decode cX13_turn64 108 = .ok (.getfield 73, 3) := by decide +kernel
theorem dX13_turn64_111 : decode cX13_turn64 111 = .ok (.iconst 1, 1) := by decide +kernel
theorem dX13_turn64_112 : decode cX13_turn64 112 = .ok (.laload, 1) := by decide +kernel
theorem dX13_turn64_113 : decode cX13_turn64 113 = .ok (.lstore_n 3, 1) := by decide +kernel
theorem dX13_turn64_114 : decode cX13_turn64 114 = .ok (.aload_n 0, 1) := by decide +kernel
theorem dX13_turn64_115 : decode cX13_turn64 115 = .ok (.getfield 73, 3) := by decide +kernel
theorem dX13_turn64_118 : decode cX13_turn64 118 = .ok (.iconst 2, 1) := by decide +kernel
theorem dX13_turn64_119 : decode cX13_turn64 119 = .ok (.laload, 1) := by decide +kernel
theorem dX13_turn64_120 : decode cX13_turn64 120 = .ok (.lstore 5, 2) := by decide +kernel
theorem dX13_turn64_122 : decode cX13_turn64 122 = .ok (.aload_n 0, 1) := by decide +kernel
theorem dX13_turn64_123 : decode cX13_turn64 123 = .ok (.getfield 73, 3) := by decide +kernel
theorem dX13_turn64_126 : decode cX13_turn64 126 = .ok (.iconst 3, 1) := by decide +kernel
theorem dX13_turn64_127 : decode cX13_turn64 127 = .ok (.laload, 1) := by decide +kernel
theorem dX13_turn64_128 : decode cX13_turn64 128 = .ok (.lstore 7, 2) := by decide +kernel
theorem dX13_turn64_130 : decode cX13_turn64 130 = .ok (.aload_n 0, 1) := by decide +kernel
theorem dX13_turn64_131 : decode cX13_turn64 131 = .ok (.getfield 73, 3) := by decide +kernel
theorem dX13_turn64_134 : decode cX13_turn64 134 = .ok (.iconst 4, 1) := by decide +kernel
theorem dX13_turn64_135 : decode cX13_turn64 135 = .ok (.laload, 1) := by decide +kernel
theorem dX13_turn64_136 : decode cX13_turn64 136 = .ok (.lstore 9, 2) := by decide +kernel
theorem dX13_turn64_138 : decode cX13_turn64 138 = .ok (.aload_n 0, 1) := by decide +kernel
theorem dX13_turn64_139 : decode cX13_turn64 139 = .ok (.getfield 73, 3) := by decide +kernel
theorem dX13_turn64_142 : decode cX13_turn64 142 = .ok (.iconst 5, 1) := by decide +kernel
theorem dX13_turn64_143 : decode cX13_turn64 143 = .ok (.laload, 1) := by decide +kernel
theorem dX13_turn64_144 : decode cX13_turn64 144 = .ok (.lstore 11, 2) := by decide +kernel
theorem dX13_turn64_146 : decode cX13_turn64 146 = .ok (.aload_n 0, 1) := by decide +kernel
theorem dX13_turn64_147 : decode cX13_turn64 147 = .ok (.getfield 73, 3) := by decide +kernel
theorem dX13_turn64_150 : decode cX13_turn64 150 = .ok (.bipush 6, 2) := by decide +kernel
theorem dX13_turn64_152 : decode cX13_turn64 152 = .ok (.laload, 1) := by decide +kernel
theorem dX13_turn64_153 : decode cX13_turn64 153 = .ok (.lstore 13, 2) := by decide +kernel
theorem dX13_turn64_155 : decode cX13_turn64 155 = .ok (.aload_n 0, 1) := by decide +kernel
theorem dX13_turn64_156 : decode cX13_turn64 156 = .ok (.getfield 73, 3) := by decide +kernel
theorem dX13_turn64_159 : decode cX13_turn64 159 = .ok (.bipush 7, 2) := by decide +kernel
theorem dX13_turn64_161 : decode cX13_turn64 161 = .ok (.laload, 1) := by decide +kernel
theorem dX13_turn64_162 : decode cX13_turn64 162 = .ok (.lstore 15, 2) := by decide +kernel
theorem dX13_turn64_164 : decode cX13_turn64 164 = .ok (.iconst 0, 1) := by decide +kernel
theorem dX13_turn64_165 : decode cX13_turn64 165 = .ok (.istore 17, 2) := by decide +kernel
theorem dX13_turn64_167 : decode cX13_turn64 167 = .ok (.iload 17, 2) := by decide +kernel
theorem dX13_turn64_169 : decode cX13_turn64 169 = .ok (.bipush 80, 2) := by decide +kernel
theorem dX13_turn64_171 : decode cX13_turn64 171 = .ok (.if_icmp .ge 138, 3) := by decide +kernel
theorem dX13_turn64_174 : decode cX13_turn64 174 = .ok (.lload 15, 2) := by decide +kernel
theorem dX13_turn64_176 : decode cX13_turn64 176 = .ok (.lload 9, 2) := by decide +kernel
theorem dX13_turn64_178 : decode cX13_turn64 178 = .ok (.bipush 14, 2) := by decide +kernel
theorem dX13_turn64_180 : decode cX13_turn64 180 = .ok (.invokestatic 561, 3) := by decide +kernel
theorem dX13_turn64_183 : decode cX13_turn64 183 = .ok (.lload 9, 2) := by decide +kernel
theorem dX13_turn64_185 : decode cX13_turn64 185 = .ok (.bipush 18, 2) := by decide +kernel
theorem dX13_turn64_187 : decode cX13_turn64 187 = .ok (.invokestatic 561, 3) := by decide +kernel
theorem dX13_turn64_190 : decode cX13_turn64 190 = .ok (.lxor, 1) := by decide +kernel
theorem dX13_turn64_191 : decode cX13_turn64 191 = .ok (.lload 9, 2) := by decide +kernel
theorem dX13_turn64_193 : decode cX13_turn64 193 = .ok (.bipush 41, 2) := by decide +kernel
theorem dX13_turn64_195 : decode cX13_turn64 195 = .ok (.invokestatic 561, 3) := by decide +kernel
theorem dX13_turn64_198 : decode cX13_turn64 198 = .ok (.lxor, 1) := by decide +kernel
theorem dX13_turn64_199 : decode cX13_turn64 199 = .ok (.ladd, 1) := by decide +kernel
theorem dX13_turn64_200 : decode cX13_turn64 200 = .ok (.lload 9, 2) := by decide +kernel
theorem dX13_turn64_202 : decode cX13_turn64 202 = .ok (.lload 11, 2) := by decide +kernel
theorem dX13_turn64_204 : decode cX13_turn64 204 = .ok (.land, 1) := by decide +kernel
theorem dX13_turn64_205 : decode cX13_turn64 205 = .ok (.lload 9, 2) := by decide +kernel
theorem dX13_turn64_207 : decode cX13_turn64 207 = .ok (.ldc2_w 565, 3) := by decide +kernel
theorem dX13_turn64_210 : decode cX13_turn64 210 = .ok (.lxor, 1) := by decide +kernel
theorem dX13_turn64_211 : decode cX13_turn64 211 = .ok (.lload 13, 2) := by decide +kernel
theorem dX13_turn64_213 : decode cX13_turn64 213 = .ok (.land, 1) := by decide +kernel
theorem dX13_turn64_214 : decode cX13_turn64 214 = .ok (.lxor, 1) := by decide +kernel
theorem dX13_turn64_215 : decode cX13_turn64 215 = .ok (.ladd, 1) := by decide +kernel
theorem dX13_turn64_216 : decode cX13_turn64 216 = .ok (.getstatic 567, 3) := by decide +kernel
theorem dX13_turn64_219 : decode cX13_turn64 219 = .ok (.iload 17, 2) := by decide +kernel
theorem dX13_turn64_221 : decode cX13_turn64 221 = .ok (.laload, 1) := by decide +kernel
theorem dX13_turn64_222 : decode cX13_turn64 222 = .ok (.ladd, 1) := by decide +kernel
theorem dX13_turn64_223 : decode cX13_turn64 223 = .ok (.aload_n 0, 1) := by decide +kernel
theorem dX13_turn64_224 : decode cX13_turn64 224 = .ok (.getfield 69, 3) := by decide +kernel
theorem dX13_turn64_227 : decode cX13_turn64 227 = .ok (.iload 17, 2) := by decide +kernel
theorem dX13_turn64_229 : decode cX13_turn64 229 = .ok (.laload, 1) := by decide +kernel
theorem dX13_turn64_230 : decode cX13_turn64 230 = .ok (.ladd, 1) := by decide +kernel
theorem dX13_turn64_231 : decode cX13_turn64 231 = .ok (.lstore 18, 2) := by decide +kernel
theorem dX13_turn64_233 : decode cX13_turn64 233 = .ok (.lload_n 1, 1) := by decide +kernel
theorem dX13_turn64_234 : decode cX13_turn64 234 = .ok (.bipush 28, 2) := by decide +kernel
theorem dX13_turn64_236 : decode cX13_turn64 236 = .ok (.invokestatic 561, 3) := by decide +kernel
theorem dX13_turn64_239 : decode cX13_turn64 239 = .ok (.lload_n 1, 1) := by decide +kernel
theorem dX13_turn64_240 : decode cX13_turn64 240 = .ok (.bipush 34, 2) := by decide +kernel
theorem dX13_turn64_242 : decode cX13_turn64 242 = .ok (.invokestatic 561, 3) := by decide +kernel
theorem dX13_turn64_245 : decode cX13_turn64 245 = .ok (.lxor, 1) := by decide +kernel
theorem dX13_turn64_246 : decode cX13_turn64 246 = .ok (.lload_n 1, 1) := by decide +kernel
theorem dX13_turn64_247 : decode cX13_turn64 247 = .ok (.bipush 39, 2) := by decide +kernel
theorem dX13_turn64_249 : decode cX13_turn64 249 = .ok (.invokestatic 561, 3) := by decide +kernel
theorem dX13_turn64_252 : decode cX13_turn64 252 = .ok (.lxor, 1) := by decide +kernel
theorem dX13_turn64_253 : decode cX13_turn64 253 = .ok (.lload_n 1, 1) := by decide +kernel
theorem dX13_turn64_254 : decode cX13_turn64 254 = .ok (.lload_n 3, 1) := by decide +kernel
theorem dX13_turn64_255 : decode cX13_turn64 255 = .ok (.land, 1) := by decide +kernel
theorem dX13_turn64_256 : decode cX13_turn64 256 = .ok (.lload_n 1, 1) := by decide +kernel
theorem dX13_turn64_257 : decode cX13_turn64 257 = .ok (.lload 5, 2) := by decide +kernel
theorem dX13_turn64_259 : decode cX13_turn64 259 = .ok (.land, 1) := by decide +kernel
theorem dX13_turn64_260 : decode cX13_turn64 260 = .ok (.lxor, 1) := by decide +kernel
theorem dX13_turn64_261 : decode cX13_turn64 261 = .ok (.lload_n 3, 1) := by decide +kernel
theorem dX13_turn64_262 : decode cX13_turn64 262 = .ok (.lload 5, 2) := by decide +kernel
theorem dX13_turn64_264 : decode cX13_turn64 264 = .ok (.land, 1) := by decide +kernel
theorem dX13_turn64_265 : decode cX13_turn64 265 = .ok (.lxor, 1) := by decide +kernel
theorem dX13_turn64_266 : decode cX13_turn64 266 = .ok (.ladd, 1) := by decide +kernel
theorem dX13_turn64_267 : decode cX13_turn64 267 = .ok (.lstore 20, 2) := by decide +kernel
theorem dX13_turn64_269 : decode cX13_turn64 269 = .ok (.lload 13, 2) := by decide +kernel
theorem dX13_turn64_271 : decode cX13_turn64 271 = .ok (.lstore 15, 2) := by decide +kernel
theorem dX13_turn64_273 : decode cX13_turn64 273 = .ok (.lload 11, 2) := by decide +kernel
theorem dX13_turn64_275 : decode cX13_turn64 275 = .ok (.lstore 13, 2) := by decide +kernel
theorem dX13_turn64_277 : decode cX13_turn64 277 = .ok (.lload 9, 2) := by decide +kernel
theorem dX13_turn64_279 : decode cX13_turn64 279 = .ok (.lstore 11, 2) := by decide +kernel
theorem dX13_turn64_281 : decode cX13_turn64 281 = .ok (.lload 7, 2) := by decide +kernel
theorem dX13_turn64_283 : decode cX13_turn64 283 = .ok (.lload 18, 2) := by decide +kernel
theorem dX13_turn64_285 : decode cX13_turn64 285 = .ok (.ladd, 1) := by decide +kernel
theorem dX13_turn64_286 : decode cX13_turn64 286 = .ok (.lstore 9, 2) := by decide +kernel
theorem dX13_turn64_288 : decode cX13_turn64 288 = .ok (.lload 5, 2) := by decide +kernel
theorem dX13_turn64_290 : decode cX13_turn64 290 = .ok (.lstore 7, 2) := by decide +kernel
theorem dX13_turn64_292 : decode cX13_turn64 292 = .ok (.lload_n 3, 1) := by decide +kernel
theorem dX13_turn64_293 : decode cX13_turn64 293 = .ok (.lstore 5, 2) := by decide +kernel
theorem dX13_turn64_295 : decode cX13_turn64 295 = .ok (.lload_n 1, 1) := by decide +kernel
theorem dX13_turn64_296 : decode cX13_turn64 296 = .ok (.lstore_n 3, 1) := by decide +kernel
theorem dX13_turn64_297 : decode cX13_turn64 297 = .ok (.lload 18, 2) := by decide +kernel
theorem dX13_turn64_299 : decode cX13_turn64 299 = .ok (.lload 20, 2) := by decide +kernel
theorem dX13_turn64_301 : decode cX13_turn64 301 = .ok (.ladd, 1) := by decide +kernel
theorem dX13_turn64_302 : decode cX13_turn64 302 = .ok (.lstore_n 1, 1) := by decide +kernel
theorem dX13_turn64_303 : decode cX13_turn64 303 = .ok (.iinc 17 1, 3) := by decide +kernel
theorem dX13_turn64_306 : decode cX13_turn64 306 = .ok (.goto (-139), 3) := by decide +kernel
theorem dX13_turn64_309 : decode cX13_turn64 309 = .ok (.aload_n 0, 1) := by decide +kernel
theorem dX13_turn64_310 : decode cX13_turn64 310 = .ok (.getfield 73, 3) := by decide +kernel
theorem dX13_turn64_313 : decode cX13_turn64 313 = .ok (.iconst 0, 1) := by decide +kernel
theorem dX13_turn64_314 : decode cX13_turn64 314 = .ok (.dup2, 1) := by decide +kernel
theorem dX13_turn64_315 : decode cX13_turn64 315 = .ok (.laload, 1) := by decide +kernel
theorem dX13_turn64_316 : decode cX13_turn64 316 = .ok (.lload_n 1, 1) := by decide +kernel
theorem dX13_turn64_317 : decode cX13_turn64 317 = .ok (.ladd, 1) := by decide +kernel
theorem dX13_turn64_318 : decode cX13_turn64 318 = .ok (.lastore, 1) := by decide +kernel
theorem dX13_turn64_319 : decode cX13_turn64 319 = .ok (.aload_n 0, 1) := by decide +kernel
theorem dX13_turn64_320 : decode cX13_turn64 320 = .ok (.getfield 73, 3) := by decide +kernel
theorem dX13_turn64_323 : decode cX13_turn64 323 = .ok (.iconst 1, 1) := by decide +kernel
theorem dX13_turn64_324 : decode cX13_turn64 324 = .ok (.dup2, 1) := by decide +kernel
theorem dX13_turn64_325 : decode cX13_turn64 325 = .ok (.laload, 1) := by decide +kernel
theorem dX13_turn64_326 : decode cX13_turn64 326 = .ok (.lload_n 3, 1) := by decide +kernel
theorem dX13_turn64_327 : decode cX13_turn64 327 = .ok (.ladd, 1) := by decide +kernel
theorem dX13_turn64_328 : decode cX13_turn64 328 = .ok (.lastore, 1) := by decide +kernel
theorem dX13_turn64_329 : decode cX13_turn64 329 = .ok (.aload_n 0, 1) := by decide +kernel
theorem dX13_turn64_330 : decode cX13_turn64 330 = .ok (.getfield 73, 3) := by decide +kernel
theorem dX13_turn64_333 : decode cX13_turn64 333 = .ok (.iconst 2, 1) := by decide +kernel
theorem dX13_turn64_334 : decode cX13_turn64 334 = .ok (.dup2, 1) := by decide +kernel
theorem dX13_turn64_335 : decode cX13_turn64 335 = .ok (.laload, 1) := by decide +kernel
theorem dX13_turn64_336 : decode cX13_turn64 336 = .ok (.lload 5, 2) := by decide +kernel
theorem dX13_turn64_338 : decode cX13_turn64 338 = .ok (.ladd, 1) := by decide +kernel
theorem dX13_turn64_339 : decode cX13_turn64 339 = .ok (.lastore, 1) := by decide +kernel
theorem dX13_turn64_340 : decode cX13_turn64 340 = .ok (.aload_n 0, 1) := by decide +kernel
theorem dX13_turn64_341 : decode cX13_turn64 341 = .ok (.getfield 73, 3) := by decide +kernel
theorem dX13_turn64_344 : decode cX13_turn64 344 = .ok (.iconst 3, 1) := by decide +kernel
theorem dX13_turn64_345 : decode cX13_turn64 345 = .ok (.dup2, 1) := by decide +kernel
theorem dX13_turn64_346 : decode cX13_turn64 346 = .ok (.laload, 1) := by decide +kernel
theorem dX13_turn64_347 : decode cX13_turn64 347 = .ok (.lload 7, 2) := by decide +kernel
theorem dX13_turn64_349 : decode cX13_turn64 349 = .ok (.ladd, 1) := by decide +kernel
theorem dX13_turn64_350 : decode cX13_turn64 350 = .ok (.lastore, 1) := by decide +kernel
theorem dX13_turn64_351 : decode cX13_turn64 351 = .ok (.aload_n 0, 1) := by decide +kernel
theorem dX13_turn64_352 : decode cX13_turn64 352 = .ok (.getfield 73, 3) := by decide +kernel
theorem dX13_turn64_355 : decode cX13_turn64 355 = .ok (.iconst 4, 1) := by decide +kernel
theorem dX13_turn64_356 : decode cX13_turn64 356 = .ok (.dup2, 1) := by decide +kernel
theorem dX13_turn64_357 : decode cX13_turn64 357 = .ok (.laload, 1) := by decide +kernel
theorem dX13_turn64_358 : decode cX13_turn64 358 = .ok (.lload 9, 2) := by decide +kernel
theorem dX13_turn64_360 : decode cX13_turn64 360 = .ok (.ladd, 1) := by decide +kernel
theorem dX13_turn64_361 : decode cX13_turn64 361 = .ok (.lastore, 1) := by decide +kernel
theorem dX13_turn64_362 : decode cX13_turn64 362 = .ok (.aload_n 0, 1) := by decide +kernel
theorem dX13_turn64_363 : decode cX13_turn64 363 = .ok (.getfield 73, 3) := by decide +kernel
theorem dX13_turn64_366 : decode cX13_turn64 366 = .ok (.iconst 5, 1) := by decide +kernel
theorem dX13_turn64_367 : decode cX13_turn64 367 = .ok (.dup2, 1) := by decide +kernel
theorem dX13_turn64_368 : decode cX13_turn64 368 = .ok (.laload, 1) := by decide +kernel
theorem dX13_turn64_369 : decode cX13_turn64 369 = .ok (.lload 11, 2) := by decide +kernel
theorem dX13_turn64_371 : decode cX13_turn64 371 = .ok (.ladd, 1) := by decide +kernel
theorem dX13_turn64_372 : decode cX13_turn64 372 = .ok (.lastore, 1) := by decide +kernel
theorem dX13_turn64_373 : decode cX13_turn64 373 = .ok (.aload_n 0, 1) := by decide +kernel
theorem dX13_turn64_374 : decode cX13_turn64 374 = .ok (.getfield 73, 3) := by decide +kernel
theorem dX13_turn64_377 : decode cX13_turn64 377 = .ok (.bipush 6, 2) := by decide +kernel
theorem dX13_turn64_379 : decode cX13_turn64 379 = .ok (.dup2, 1) := by decide +kernel
theorem dX13_turn64_380 : decode cX13_turn64 380 = .ok (.laload, 1) := by decide +kernel
theorem dX13_turn64_381 : decode cX13_turn64 381 = .ok (.lload 13, 2) := by decide +kernel
theorem dX13_turn64_383 : decode cX13_turn64 383 = .ok (.ladd, 1) := by decide +kernel
theorem dX13_turn64_384 : decode cX13_turn64 384 = .ok (.lastore, 1) := by decide +kernel
theorem dX13_turn64_385 : decode cX13_turn64 385 = .ok (.aload_n 0, 1) := by decide +kernel
theorem dX13_turn64_386 : decode cX13_turn64 386 = .ok (.getfield 73, 3) := by decide +kernel
theorem dX13_turn64_389 : decode cX13_turn64 389 = .ok (.bipush 7, 2) := by decide +kernel
theorem dX13_turn64_391 : decode cX13_turn64 391 = .ok (.dup2, 1) := by decide +kernel
theorem dX13_turn64_392 : decode cX13_turn64 392 = .ok (.laload, 1) := by decide +kernel
theorem dX13_turn64_393 : decode cX13_turn64 393 = .ok (.lload 15, 2) := by decide +kernel
theorem dX13_turn64_395 : decode cX13_turn64 395 = .ok (.ladd, 1) := by decide +kernel
theorem dX13_turn64_396 : decode cX13_turn64 396 = .ok (.lastore, 1) := by decide +kernel
theorem dX13_turn64_397 : decode cX13_turn64 397 = .ok (.return_, 1) := by decide +kernel
abbrev rmX13_turn64 : Room := { frames := 1, cells := 0, slots := 0, locals := 22 }
set_option maxHeartbeats 4000000 in
set_option maxRecDepth 100000 in
theorem wB_X13_turn64_167 {G : mG} {F : Nat} {x : mXT} {sz : Nat} {M0 : mM} (X : mCX G RX13 cX13_turn64 22 none "turn64" rmX13_turn64 x) (hQ : mQV x M0 (sz, 0, 0)) : ∀ (n : Nat) (l0 : Nat) (l1 : Int64) (l3 : Int64) (l5 : Int64) (l7 : Int64) (l9 : Int64) (l11 : Int64) (l13 : Int64) (l15 : Int64) (l17 : Int32) (M : mM), B_X13_turn64_167 G F n l0 l1 l3 l5 l7 l9 l11 l13 l15 l17 M = some M0 → WW x (sz, 0, 0) M 167 [(0, .ref l0), (1, .long l1), (3, .long l3), (5, .long l5), (7, .long l7), (9, .long l9), (11, .long l11), (13, .long l13), (15, .long l15), (17, .int l17)] [] := by
  intro n
  induction n with
  | zero =>
    intro l0 l1 l3 l5 l7 l9 l11 l13 l15 l17 M h
    exact nomatch (show (none : Option mM) = some M0 from h)
  | succ n ih =>
    intro l0 l1 l3 l5 l7 l9 l11 l13 l15 l17 M h
    rw [B_X13_turn64_167] at h
    refine ww_iload 167 X dX13_turn64_167 9 rfl ?_
    refine ww_bipush 169 X (v := (80 : Int32)) dX13_turn64_169 (by decide) ?_
    refine ww_icmp_ge 171 309 X dX13_turn64_171 (by decide) (fun q => ?_) (fun q => ?_)
    · replace h := (if_pos q).symm.trans h
      refine ww_aload_n 309 X dX13_turn64_309 0 rfl rfl ?_
      obtain ⟨v310, e310, h⟩ := bO_some h
      refine ww_getR 310 X dX13_turn64_310 fG_X13_73 e310 ?_
      refine ww_iconst 313 X (v := (0 : Int32)) dX13_turn64_313 (by decide) ?_
      refine ww_dup2_11 314 X dX13_turn64_314 rfl rfl ?_
      obtain ⟨v315, e315, h⟩ := bO_some h
      refine ww_lald 315 X dX13_turn64_315 e315 ?_
      refine ww_lload_n 316 X dX13_turn64_316 1 rfl rfl ?_
      refine ww_ladd 317 X dX13_turn64_317 ?_
      obtain ⟨M318, e318, h⟩ := bO_some h
      refine ww_last 318 X dX13_turn64_318 e318 ?_
      refine ww_aload_n 319 X dX13_turn64_319 0 rfl rfl ?_
      obtain ⟨v320, e320, h⟩ := bO_some h
      refine ww_getR 320 X dX13_turn64_320 fG_X13_73 e320 ?_
      refine ww_iconst 323 X (v := (1 : Int32)) dX13_turn64_323 (by decide) ?_
      refine ww_dup2_11 324 X dX13_turn64_324 rfl rfl ?_
      obtain ⟨v325, e325, h⟩ := bO_some h
      refine ww_lald 325 X dX13_turn64_325 e325 ?_
      refine ww_lload_n 326 X dX13_turn64_326 2 rfl rfl ?_
      refine ww_ladd 327 X dX13_turn64_327 ?_
      obtain ⟨M328, e328, h⟩ := bO_some h
      refine ww_last 328 X dX13_turn64_328 e328 ?_
      refine ww_aload_n 329 X dX13_turn64_329 0 rfl rfl ?_
      obtain ⟨v330, e330, h⟩ := bO_some h
      refine ww_getR 330 X dX13_turn64_330 fG_X13_73 e330 ?_
      refine ww_iconst 333 X (v := (2 : Int32)) dX13_turn64_333 (by decide) ?_
      refine ww_dup2_11 334 X dX13_turn64_334 rfl rfl ?_
      obtain ⟨v335, e335, h⟩ := bO_some h
      refine ww_lald 335 X dX13_turn64_335 e335 ?_
      refine ww_lload 336 X dX13_turn64_336 3 rfl ?_
      refine ww_ladd 338 X dX13_turn64_338 ?_
      obtain ⟨M339, e339, h⟩ := bO_some h
      refine ww_last 339 X dX13_turn64_339 e339 ?_
      refine ww_aload_n 340 X dX13_turn64_340 0 rfl rfl ?_
      obtain ⟨v341, e341, h⟩ := bO_some h
      refine ww_getR 341 X dX13_turn64_341 fG_X13_73 e341 ?_
      refine ww_iconst 344 X (v := (3 : Int32)) dX13_turn64_344 (by decide) ?_
      refine ww_dup2_11 345 X dX13_turn64_345 rfl rfl ?_
      obtain ⟨v346, e346, h⟩ := bO_some h
      refine ww_lald 346 X dX13_turn64_346 e346 ?_
      refine ww_lload 347 X dX13_turn64_347 4 rfl ?_
      refine ww_ladd 349 X dX13_turn64_349 ?_
      obtain ⟨M350, e350, h⟩ := bO_some h
      refine ww_last 350 X dX13_turn64_350 e350 ?_
      refine ww_aload_n 351 X dX13_turn64_351 0 rfl rfl ?_
      obtain ⟨v352, e352, h⟩ := bO_some h
      refine ww_getR 352 X dX13_turn64_352 fG_X13_73 e352 ?_
      refine ww_iconst 355 X (v := (4 : Int32)) dX13_turn64_355 (by decide) ?_
      refine ww_dup2_11 356 X dX13_turn64_356 rfl rfl ?_
      obtain ⟨v357, e357, h⟩ := bO_some h
      refine ww_lald 357 X dX13_turn64_357 e357 ?_
      refine ww_lload 358 X dX13_turn64_358 5 rfl ?_
      refine ww_ladd 360 X dX13_turn64_360 ?_
      obtain ⟨M361, e361, h⟩ := bO_some h
      refine ww_last 361 X dX13_turn64_361 e361 ?_
      refine ww_aload_n 362 X dX13_turn64_362 0 rfl rfl ?_
      obtain ⟨v363, e363, h⟩ := bO_some h
      refine ww_getR 363 X dX13_turn64_363 fG_X13_73 e363 ?_
      refine ww_iconst 366 X (v := (5 : Int32)) dX13_turn64_366 (by decide) ?_
      refine ww_dup2_11 367 X dX13_turn64_367 rfl rfl ?_
      obtain ⟨v368, e368, h⟩ := bO_some h
      refine ww_lald 368 X dX13_turn64_368 e368 ?_
      refine ww_lload 369 X dX13_turn64_369 6 rfl ?_
      refine ww_ladd 371 X dX13_turn64_371 ?_
      obtain ⟨M372, e372, h⟩ := bO_some h
      refine ww_last 372 X dX13_turn64_372 e372 ?_
      refine ww_aload_n 373 X dX13_turn64_373 0 rfl rfl ?_
      obtain ⟨v374, e374, h⟩ := bO_some h
      refine ww_getR 374 X dX13_turn64_374 fG_X13_73 e374 ?_
      refine ww_bipush 377 X (v := (6 : Int32)) dX13_turn64_377 (by decide) ?_
      refine ww_dup2_11 379 X dX13_turn64_379 rfl rfl ?_
      obtain ⟨v380, e380, h⟩ := bO_some h
      refine ww_lald 380 X dX13_turn64_380 e380 ?_
      refine ww_lload 381 X dX13_turn64_381 7 rfl ?_
      refine ww_ladd 383 X dX13_turn64_383 ?_
      obtain ⟨M384, e384, h⟩ := bO_some h
      refine ww_last 384 X dX13_turn64_384 e384 ?_
      refine ww_aload_n 385 X dX13_turn64_385 0 rfl rfl ?_
      obtain ⟨v386, e386, h⟩ := bO_some h
      refine ww_getR 386 X dX13_turn64_386 fG_X13_73 e386 ?_
      refine ww_bipush 389 X (v := (7 : Int32)) dX13_turn64_389 (by decide) ?_
      refine ww_dup2_11 391 X dX13_turn64_391 rfl rfl ?_
      obtain ⟨v392, e392, h⟩ := bO_some h
      refine ww_lald 392 X dX13_turn64_392 e392 ?_
      refine ww_lload 393 X dX13_turn64_393 8 rfl ?_
      refine ww_ladd 395 X dX13_turn64_395 ?_
      obtain ⟨M396, e396, h⟩ := bO_some h
      refine ww_last 396 X dX13_turn64_396 e396 ?_
      exact ww_vretE 397 X hQ dX13_turn64_397 h
    · replace h := (if_neg q).symm.trans h
      refine ww_lload 174 X dX13_turn64_174 8 rfl ?_
      refine ww_lload 176 X dX13_turn64_176 5 rfl ?_
      refine ww_bipush 178 X (v := (14 : Int32)) dX13_turn64_178 (by decide) ?_
      obtain ⟨v180, M180, e180, h⟩ := bP_some h
      refine ww_callSL0 180 X dX13_turn64_180 mY_X13_right64 mL_X13_561 (As := [.long l9, .int (14 : Int32)]) (rest := [.long l15]) rfl rfl ⟨Nat.le_of_ble_eq_true rfl, Nat.le_of_ble_eq_true rfl⟩ (Nat.le_of_ble_eq_true rfl) (fun l D A => c_X13_right64 l D A e180) ?_
      refine ww_lload 183 X dX13_turn64_183 5 rfl ?_
      refine ww_bipush 185 X (v := (18 : Int32)) dX13_turn64_185 (by decide) ?_
      obtain ⟨v187, M187, e187, h⟩ := bP_some h
      refine ww_callSL0 187 X dX13_turn64_187 mY_X13_right64 mL_X13_561 (As := [.long l9, .int (18 : Int32)]) (rest := [.long v180, .long l15]) rfl rfl ⟨Nat.le_of_ble_eq_true rfl, Nat.le_of_ble_eq_true rfl⟩ (Nat.le_of_ble_eq_true rfl) (fun l D A => c_X13_right64 l D A e187) ?_
      refine ww_lxor 190 X dX13_turn64_190 ?_
      refine ww_lload 191 X dX13_turn64_191 5 rfl ?_
      refine ww_bipush 193 X (v := (41 : Int32)) dX13_turn64_193 (by decide) ?_
      obtain ⟨v195, M195, e195, h⟩ := bP_some h
      refine ww_callSL0 195 X dX13_turn64_195 mY_X13_right64 mL_X13_561 (As := [.long l9, .int (41 : Int32)]) (rest := [.long (v180 ^^^ v187), .long l15]) rfl rfl ⟨Nat.le_of_ble_eq_true rfl, Nat.le_of_ble_eq_true rfl⟩ (Nat.le_of_ble_eq_true rfl) (fun l D A => c_X13_right64 l D A e195) ?_
      refine ww_lxor 198 X dX13_turn64_198 ?_
      refine ww_ladd 199 X dX13_turn64_199 ?_
      refine ww_lload 200 X dX13_turn64_200 5 rfl ?_
      refine ww_lload 202 X dX13_turn64_202 6 rfl ?_
      refine ww_land 204 X dX13_turn64_204 ?_
      refine ww_lload 205 X dX13_turn64_205 5 rfl ?_
      refine ww_ldc2 207 X (v := (-1 : Int64)) dX13_turn64_207 kL_X13_565 ?_
      refine ww_lxor 210 X dX13_turn64_210 ?_
      refine ww_lload 211 X dX13_turn64_211 7 rfl ?_
      refine ww_land 213 X dX13_turn64_213 ?_
      refine ww_lxor 214 X dX13_turn64_214 ?_
      refine ww_ladd 215 X dX13_turn64_215 ?_
      refine ww_gets 216 X dX13_turn64_216 gS_X13_567 ?_
      refine ww_iload 219 X dX13_turn64_219 9 rfl ?_
      obtain ⟨v221, e221, h⟩ := bO_some h
      refine ww_lald 221 X dX13_turn64_221 e221 ?_
      refine ww_ladd 222 X dX13_turn64_222 ?_
      refine ww_aload_n 223 X dX13_turn64_223 0 rfl rfl ?_
      obtain ⟨v224, e224, h⟩ := bO_some h
      refine ww_getR 224 X dX13_turn64_224 fG_X13_69 e224 ?_
      refine ww_iload 227 X dX13_turn64_227 9 rfl ?_
      obtain ⟨v229, e229, h⟩ := bO_some h
      refine ww_lald 229 X dX13_turn64_229 e229 ?_
      refine ww_ladd 230 X dX13_turn64_230 ?_
      refine ww_lstore 231 X dX13_turn64_231 (lv' := [(0, .ref l0), (1, .long l1), (3, .long l3), (5, .long l5), (7, .long l7), (9, .long l9), (11, .long l11), (13, .long l13), (15, .long l15), (17, .int l17), (18, .long ((((l15 + ((v180 ^^^ v187) ^^^ v195)) + ((l9 &&& l11) ^^^ ((l9 ^^^ (-1 : Int64)) &&& l13))) + v221) + v229))]) (by decide) [1, 2, 3, 4, 5, 6, 7, 8, 9, 10, 0] rfl ?_
      refine ww_lload_n 233 X dX13_turn64_233 1 rfl rfl ?_
      refine ww_bipush 234 X (v := (28 : Int32)) dX13_turn64_234 (by decide) ?_
      obtain ⟨v236, M236, e236, h⟩ := bP_some h
      refine ww_callSL0 236 X dX13_turn64_236 mY_X13_right64 mL_X13_561 (As := [.long l1, .int (28 : Int32)]) (rest := []) rfl rfl ⟨Nat.le_of_ble_eq_true rfl, Nat.le_of_ble_eq_true rfl⟩ (Nat.le_of_ble_eq_true rfl) (fun l D A => c_X13_right64 l D A e236) ?_
      refine ww_lload_n 239 X dX13_turn64_239 1 rfl rfl ?_
      refine ww_bipush 240 X (v := (34 : Int32)) dX13_turn64_240 (by decide) ?_
      obtain ⟨v242, M242, e242, h⟩ := bP_some h
      refine ww_callSL0 242 X dX13_turn64_242 mY_X13_right64 mL_X13_561 (As := [.long l1, .int (34 : Int32)]) (rest := [.long v236]) rfl rfl ⟨Nat.le_of_ble_eq_true rfl, Nat.le_of_ble_eq_true rfl⟩ (Nat.le_of_ble_eq_true rfl) (fun l D A => c_X13_right64 l D A e242) ?_
      refine ww_lxor 245 X dX13_turn64_245 ?_
      refine ww_lload_n 246 X dX13_turn64_246 1 rfl rfl ?_
      refine ww_bipush 247 X (v := (39 : Int32)) dX13_turn64_247 (by decide) ?_
      obtain ⟨v249, M249, e249, h⟩ := bP_some h
      refine ww_callSL0 249 X dX13_turn64_249 mY_X13_right64 mL_X13_561 (As := [.long l1, .int (39 : Int32)]) (rest := [.long (v236 ^^^ v242)]) rfl rfl ⟨Nat.le_of_ble_eq_true rfl, Nat.le_of_ble_eq_true rfl⟩ (Nat.le_of_ble_eq_true rfl) (fun l D A => c_X13_right64 l D A e249) ?_
      refine ww_lxor 252 X dX13_turn64_252 ?_
      refine ww_lload_n 253 X dX13_turn64_253 1 rfl rfl ?_
      refine ww_lload_n 254 X dX13_turn64_254 2 rfl rfl ?_
      refine ww_land 255 X dX13_turn64_255 ?_
      refine ww_lload_n 256 X dX13_turn64_256 1 rfl rfl ?_
      refine ww_lload 257 X dX13_turn64_257 3 rfl ?_
      refine ww_land 259 X dX13_turn64_259 ?_
      refine ww_lxor 260 X dX13_turn64_260 ?_
      refine ww_lload_n 261 X dX13_turn64_261 2 rfl rfl ?_
      refine ww_lload 262 X dX13_turn64_262 3 rfl ?_
      refine ww_land 264 X dX13_turn64_264 ?_
      refine ww_lxor 265 X dX13_turn64_265 ?_
      refine ww_ladd 266 X dX13_turn64_266 ?_
      refine ww_lstore 267 X dX13_turn64_267 (lv' := [(0, .ref l0), (1, .long l1), (3, .long l3), (5, .long l5), (7, .long l7), (9, .long l9), (11, .long l11), (13, .long l13), (15, .long l15), (17, .int l17), (18, .long ((((l15 + ((v180 ^^^ v187) ^^^ v195)) + ((l9 &&& l11) ^^^ ((l9 ^^^ (-1 : Int64)) &&& l13))) + v221) + v229)), (20, .long (((v236 ^^^ v242) ^^^ v249) + (((l1 &&& l3) ^^^ (l1 &&& l5)) ^^^ (l3 &&& l5))))]) (by decide) [1, 2, 3, 4, 5, 6, 7, 8, 9, 10, 11, 0] rfl ?_
      refine ww_lload 269 X dX13_turn64_269 7 rfl ?_
      refine ww_lstore 271 X dX13_turn64_271 (lv' := [(0, .ref l0), (1, .long l1), (3, .long l3), (5, .long l5), (7, .long l7), (9, .long l9), (11, .long l11), (13, .long l13), (15, .long l13), (17, .int l17), (18, .long ((((l15 + ((v180 ^^^ v187) ^^^ v195)) + ((l9 &&& l11) ^^^ ((l9 ^^^ (-1 : Int64)) &&& l13))) + v221) + v229)), (20, .long (((v236 ^^^ v242) ^^^ v249) + (((l1 &&& l3) ^^^ (l1 &&& l5)) ^^^ (l3 &&& l5))))]) (by decide) [1, 2, 3, 4, 5, 6, 7, 8, 0, 9, 10, 11] rfl ?_
      refine ww_lload 273 X dX13_turn64_273 6 rfl ?_
      refine ww_lstore 275 X dX13_turn64_275 (lv' := [(0, .ref l0), (1, .long l1), (3, .long l3), (5, .long l5), (7, .long l7), (9, .long l9), (11, .long l11), (13, .long l11), (15, .long l13), (17, .int l17), (18, .long ((((l15 + ((v180 ^^^ v187) ^^^ v195)) + ((l9 &&& l11) ^^^ ((l9 ^^^ (-1 : Int64)) &&& l13))) + v221) + v229)), (20, .long (((v236 ^^^ v242) ^^^ v249) + (((l1 &&& l3) ^^^ (l1 &&& l5)) ^^^ (l3 &&& l5))))]) (by decide) [1, 2, 3, 4, 5, 6, 7, 0, 8, 9, 10, 11] rfl ?_
      refine ww_lload 277 X dX13_turn64_277 5 rfl ?_
      refine ww_lstore 279 X dX13_turn64_279 (lv' := [(0, .ref l0), (1, .long l1), (3, .long l3), (5, .long l5), (7, .long l7), (9, .long l9), (11, .long l9), (13, .long l11), (15, .long l13), (17, .int l17), (18, .long ((((l15 + ((v180 ^^^ v187) ^^^ v195)) + ((l9 &&& l11) ^^^ ((l9 ^^^ (-1 : Int64)) &&& l13))) + v221) + v229)), (20, .long (((v236 ^^^ v242) ^^^ v249) + (((l1 &&& l3) ^^^ (l1 &&& l5)) ^^^ (l3 &&& l5))))]) (by decide) [1, 2, 3, 4, 5, 6, 0, 7, 8, 9, 10, 11] rfl ?_
      refine ww_lload 281 X dX13_turn64_281 4 rfl ?_
      refine ww_lload 283 X dX13_turn64_283 10 rfl ?_
      refine ww_ladd 285 X dX13_turn64_285 ?_
      refine ww_lstore 286 X dX13_turn64_286 (lv' := [(0, .ref l0), (1, .long l1), (3, .long l3), (5, .long l5), (7, .long l7), (9, .long (l7 + ((((l15 + ((v180 ^^^ v187) ^^^ v195)) + ((l9 &&& l11) ^^^ ((l9 ^^^ (-1 : Int64)) &&& l13))) + v221) + v229))), (11, .long l9), (13, .long l11), (15, .long l13), (17, .int l17), (18, .long ((((l15 + ((v180 ^^^ v187) ^^^ v195)) + ((l9 &&& l11) ^^^ ((l9 ^^^ (-1 : Int64)) &&& l13))) + v221) + v229)), (20, .long (((v236 ^^^ v242) ^^^ v249) + (((l1 &&& l3) ^^^ (l1 &&& l5)) ^^^ (l3 &&& l5))))]) (by decide) [1, 2, 3, 4, 5, 0, 6, 7, 8, 9, 10, 11] rfl ?_
      refine ww_lload 288 X dX13_turn64_288 3 rfl ?_
      refine ww_lstore 290 X dX13_turn64_290 (lv' := [(0, .ref l0), (1, .long l1), (3, .long l3), (5, .long l5), (7, .long l5), (9, .long (l7 + ((((l15 + ((v180 ^^^ v187) ^^^ v195)) + ((l9 &&& l11) ^^^ ((l9 ^^^ (-1 : Int64)) &&& l13))) + v221) + v229))), (11, .long l9), (13, .long l11), (15, .long l13), (17, .int l17), (18, .long ((((l15 + ((v180 ^^^ v187) ^^^ v195)) + ((l9 &&& l11) ^^^ ((l9 ^^^ (-1 : Int64)) &&& l13))) + v221) + v229)), (20, .long (((v236 ^^^ v242) ^^^ v249) + (((l1 &&& l3) ^^^ (l1 &&& l5)) ^^^ (l3 &&& l5))))]) (by decide) [1, 2, 3, 4, 0, 5, 6, 7, 8, 9, 10, 11] rfl ?_
      refine ww_lload_n 292 X dX13_turn64_292 2 rfl rfl ?_
      refine ww_lstore 293 X dX13_turn64_293 (lv' := [(0, .ref l0), (1, .long l1), (3, .long l3), (5, .long l3), (7, .long l5), (9, .long (l7 + ((((l15 + ((v180 ^^^ v187) ^^^ v195)) + ((l9 &&& l11) ^^^ ((l9 ^^^ (-1 : Int64)) &&& l13))) + v221) + v229))), (11, .long l9), (13, .long l11), (15, .long l13), (17, .int l17), (18, .long ((((l15 + ((v180 ^^^ v187) ^^^ v195)) + ((l9 &&& l11) ^^^ ((l9 ^^^ (-1 : Int64)) &&& l13))) + v221) + v229)), (20, .long (((v236 ^^^ v242) ^^^ v249) + (((l1 &&& l3) ^^^ (l1 &&& l5)) ^^^ (l3 &&& l5))))]) (by decide) [1, 2, 3, 0, 4, 5, 6, 7, 8, 9, 10, 11] rfl ?_
      refine ww_lload_n 295 X dX13_turn64_295 1 rfl rfl ?_
      refine ww_lstore_n 296 X dX13_turn64_296 (lv' := [(0, .ref l0), (1, .long l1), (3, .long l1), (5, .long l3), (7, .long l5), (9, .long (l7 + ((((l15 + ((v180 ^^^ v187) ^^^ v195)) + ((l9 &&& l11) ^^^ ((l9 ^^^ (-1 : Int64)) &&& l13))) + v221) + v229))), (11, .long l9), (13, .long l11), (15, .long l13), (17, .int l17), (18, .long ((((l15 + ((v180 ^^^ v187) ^^^ v195)) + ((l9 &&& l11) ^^^ ((l9 ^^^ (-1 : Int64)) &&& l13))) + v221) + v229)), (20, .long (((v236 ^^^ v242) ^^^ v249) + (((l1 &&& l3) ^^^ (l1 &&& l5)) ^^^ (l3 &&& l5))))]) rfl (by decide) [1, 2, 0, 3, 4, 5, 6, 7, 8, 9, 10, 11] rfl ?_
      refine ww_lload 297 X dX13_turn64_297 10 rfl ?_
      refine ww_lload 299 X dX13_turn64_299 11 rfl ?_
      refine ww_ladd 301 X dX13_turn64_301 ?_
      refine ww_lstore_n 302 X dX13_turn64_302 (lv' := [(0, .ref l0), (1, .long (((((l15 + ((v180 ^^^ v187) ^^^ v195)) + ((l9 &&& l11) ^^^ ((l9 ^^^ (-1 : Int64)) &&& l13))) + v221) + v229) + (((v236 ^^^ v242) ^^^ v249) + (((l1 &&& l3) ^^^ (l1 &&& l5)) ^^^ (l3 &&& l5))))), (3, .long l1), (5, .long l3), (7, .long l5), (9, .long (l7 + ((((l15 + ((v180 ^^^ v187) ^^^ v195)) + ((l9 &&& l11) ^^^ ((l9 ^^^ (-1 : Int64)) &&& l13))) + v221) + v229))), (11, .long l9), (13, .long l11), (15, .long l13), (17, .int l17), (18, .long ((((l15 + ((v180 ^^^ v187) ^^^ v195)) + ((l9 &&& l11) ^^^ ((l9 ^^^ (-1 : Int64)) &&& l13))) + v221) + v229)), (20, .long (((v236 ^^^ v242) ^^^ v249) + (((l1 &&& l3) ^^^ (l1 &&& l5)) ^^^ (l3 &&& l5))))]) rfl (by decide) [1, 0, 2, 3, 4, 5, 6, 7, 8, 9, 10, 11] rfl ?_
      refine ww_iinc 303 X dX13_turn64_303 (lv' := [(0, .ref l0), (1, .long (((((l15 + ((v180 ^^^ v187) ^^^ v195)) + ((l9 &&& l11) ^^^ ((l9 ^^^ (-1 : Int64)) &&& l13))) + v221) + v229) + (((v236 ^^^ v242) ^^^ v249) + (((l1 &&& l3) ^^^ (l1 &&& l5)) ^^^ (l3 &&& l5))))), (3, .long l1), (5, .long l3), (7, .long l5), (9, .long (l7 + ((((l15 + ((v180 ^^^ v187) ^^^ v195)) + ((l9 &&& l11) ^^^ ((l9 ^^^ (-1 : Int64)) &&& l13))) + v221) + v229))), (11, .long l9), (13, .long l11), (15, .long l13), (17, .int (l17 + 1)), (18, .long ((((l15 + ((v180 ^^^ v187) ^^^ v195)) + ((l9 &&& l11) ^^^ ((l9 ^^^ (-1 : Int64)) &&& l13))) + v221) + v229)), (20, .long (((v236 ^^^ v242) ^^^ v249) + (((l1 &&& l3) ^^^ (l1 &&& l5)) ^^^ (l3 &&& l5))))]) 9 rfl rfl (by decide) [1, 2, 3, 4, 5, 6, 7, 8, 9, 0, 10, 11] rfl ?_
      refine ww_goto 306 167 X dX13_turn64_306 (by decide) ?_
      exact ww_sub [0, 1, 2, 3, 4, 5, 6, 7, 8, 9] rfl (ih _ _ _ _ _ _ _ _ _ _ _ h)
set_option maxHeartbeats 4000000 in
set_option maxRecDepth 100000 in
theorem wB_X13_turn64_3 {G : mG} {F : Nat} {x : mXT} {sz : Nat} {M0 : mM} (X : mCX G RX13 cX13_turn64 22 none "turn64" rmX13_turn64 x) (hQ : mQV x M0 (sz, 0, 0)) : ∀ (n : Nat) (l0 : Nat) (l1 : Int32) (M : mM), B_X13_turn64_3 G F n l0 l1 M = some M0 → WW x (sz, 0, 0) M 3 [(0, .ref l0), (1, .int l1)] [] := by
  intro n
  induction n with
  | zero =>
    intro l0 l1 M h
    exact nomatch (show (none : Option mM) = some M0 from h)
  | succ n ih =>
    intro l0 l1 M h
    rw [B_X13_turn64_3] at h
    refine ww_iload_n 3 X dX13_turn64_3 1 rfl rfl ?_
    refine ww_bipush 4 X (v := (80 : Int32)) dX13_turn64_4 (by decide) ?_
    refine ww_icmp_ge 6 100 X dX13_turn64_6 (by decide) (fun q => ?_) (fun q => ?_)
    · replace h := (if_pos q).symm.trans h
      refine ww_aload_n 100 X dX13_turn64_100 0 rfl rfl ?_
      obtain ⟨v101, e101, h⟩ := bO_some h
      refine ww_getR 101 X dX13_turn64_101 fG_X13_73 e101 ?_
      refine ww_iconst 104 X (v := (0 : Int32)) dX13_turn64_104 (by decide) ?_
      obtain ⟨v105, e105, h⟩ := bO_some h
      refine ww_lald 105 X dX13_turn64_105 e105 ?_
      refine ww_lstore_n 106 X dX13_turn64_106 (lv' := [(0, .ref l0), (1, .long v105)]) rfl (by decide) [1, 0] rfl ?_
      refine ww_aload_n 107 X dX13_turn64_107 0 rfl rfl ?_
      obtain ⟨v108, e108, h⟩ := bO_some h
      refine ww_getR 108 X dX13_turn64_108 fG_X13_73 e108 ?_
      refine ww_iconst 111 X (v := (1 : Int32)) dX13_turn64_111 (by decide) ?_
      obtain ⟨v112, e112, h⟩ := bO_some h
      refine ww_lald 112 X dX13_turn64_112 e112 ?_
      refine ww_lstore_n 113 X dX13_turn64_113 (lv' := [(0, .ref l0), (1, .long v105), (3, .long v112)]) rfl (by decide) [1, 2, 0] rfl ?_
      refine ww_aload_n 114 X dX13_turn64_114 0 rfl rfl ?_
      obtain ⟨v115, e115, h⟩ := bO_some h
      refine ww_getR 115 X dX13_turn64_115 fG_X13_73 e115 ?_
      refine ww_iconst 118 X (v := (2 : Int32)) dX13_turn64_118 (by decide) ?_
      obtain ⟨v119, e119, h⟩ := bO_some h
      refine ww_lald 119 X dX13_turn64_119 e119 ?_
      refine ww_lstore 120 X dX13_turn64_120 (lv' := [(0, .ref l0), (1, .long v105), (3, .long v112), (5, .long v119)]) (by decide) [1, 2, 3, 0] rfl ?_
      refine ww_aload_n 122 X dX13_turn64_122 0 rfl rfl ?_
      obtain ⟨v123, e123, h⟩ := bO_some h
      refine ww_getR 123 X dX13_turn64_123 fG_X13_73 e123 ?_
      refine ww_iconst 126 X (v := (3 : Int32)) dX13_turn64_126 (by decide) ?_
      obtain ⟨v127, e127, h⟩ := bO_some h
      refine ww_lald 127 X dX13_turn64_127 e127 ?_
      refine ww_lstore 128 X dX13_turn64_128 (lv' := [(0, .ref l0), (1, .long v105), (3, .long v112), (5, .long v119), (7, .long v127)]) (by decide) [1, 2, 3, 4, 0] rfl ?_
      refine ww_aload_n 130 X dX13_turn64_130 0 rfl rfl ?_
      obtain ⟨v131, e131, h⟩ := bO_some h
      refine ww_getR 131 X dX13_turn64_131 fG_X13_73 e131 ?_
      refine ww_iconst 134 X (v := (4 : Int32)) dX13_turn64_134 (by decide) ?_
      obtain ⟨v135, e135, h⟩ := bO_some h
      refine ww_lald 135 X dX13_turn64_135 e135 ?_
      refine ww_lstore 136 X dX13_turn64_136 (lv' := [(0, .ref l0), (1, .long v105), (3, .long v112), (5, .long v119), (7, .long v127), (9, .long v135)]) (by decide) [1, 2, 3, 4, 5, 0] rfl ?_
      refine ww_aload_n 138 X dX13_turn64_138 0 rfl rfl ?_
      obtain ⟨v139, e139, h⟩ := bO_some h
      refine ww_getR 139 X dX13_turn64_139 fG_X13_73 e139 ?_
      refine ww_iconst 142 X (v := (5 : Int32)) dX13_turn64_142 (by decide) ?_
      obtain ⟨v143, e143, h⟩ := bO_some h
      refine ww_lald 143 X dX13_turn64_143 e143 ?_
      refine ww_lstore 144 X dX13_turn64_144 (lv' := [(0, .ref l0), (1, .long v105), (3, .long v112), (5, .long v119), (7, .long v127), (9, .long v135), (11, .long v143)]) (by decide) [1, 2, 3, 4, 5, 6, 0] rfl ?_
      refine ww_aload_n 146 X dX13_turn64_146 0 rfl rfl ?_
      obtain ⟨v147, e147, h⟩ := bO_some h
      refine ww_getR 147 X dX13_turn64_147 fG_X13_73 e147 ?_
      refine ww_bipush 150 X (v := (6 : Int32)) dX13_turn64_150 (by decide) ?_
      obtain ⟨v152, e152, h⟩ := bO_some h
      refine ww_lald 152 X dX13_turn64_152 e152 ?_
      refine ww_lstore 153 X dX13_turn64_153 (lv' := [(0, .ref l0), (1, .long v105), (3, .long v112), (5, .long v119), (7, .long v127), (9, .long v135), (11, .long v143), (13, .long v152)]) (by decide) [1, 2, 3, 4, 5, 6, 7, 0] rfl ?_
      refine ww_aload_n 155 X dX13_turn64_155 0 rfl rfl ?_
      obtain ⟨v156, e156, h⟩ := bO_some h
      refine ww_getR 156 X dX13_turn64_156 fG_X13_73 e156 ?_
      refine ww_bipush 159 X (v := (7 : Int32)) dX13_turn64_159 (by decide) ?_
      obtain ⟨v161, e161, h⟩ := bO_some h
      refine ww_lald 161 X dX13_turn64_161 e161 ?_
      refine ww_lstore 162 X dX13_turn64_162 (lv' := [(0, .ref l0), (1, .long v105), (3, .long v112), (5, .long v119), (7, .long v127), (9, .long v135), (11, .long v143), (13, .long v152), (15, .long v161)]) (by decide) [1, 2, 3, 4, 5, 6, 7, 8, 0] rfl ?_
      refine ww_iconst 164 X (v := (0 : Int32)) dX13_turn64_164 (by decide) ?_
      refine ww_istore 165 X dX13_turn64_165 (lv' := [(0, .ref l0), (1, .long v105), (3, .long v112), (5, .long v119), (7, .long v127), (9, .long v135), (11, .long v143), (13, .long v152), (15, .long v161), (17, .int (0 : Int32))]) (by decide) [1, 2, 3, 4, 5, 6, 7, 8, 9, 0] rfl ?_
      exact (wB_X13_turn64_167 X hQ F _ _ _ _ _ _ _ _ _ _ _ h)
    · replace h := (if_neg q).symm.trans h
      refine ww_aload_n 9 X dX13_turn64_9 0 rfl rfl ?_
      obtain ⟨v10, e10, h⟩ := bO_some h
      refine ww_getR 10 X dX13_turn64_10 fG_X13_69 e10 ?_
      refine ww_iload_n 13 X dX13_turn64_13 1 rfl rfl ?_
      refine ww_bipush 14 X (v := (15 : Int32)) dX13_turn64_14 (by decide) ?_
      refine ww_isub 16 X dX13_turn64_16 ?_
      obtain ⟨v17, e17, h⟩ := bO_some h
      refine ww_lald 17 X dX13_turn64_17 e17 ?_
      refine ww_lstore_n 18 X dX13_turn64_18 (lv' := [(0, .ref l0), (1, .int l1), (2, .long v17)]) rfl (by decide) [1, 2, 0] rfl ?_
      refine ww_aload_n 19 X dX13_turn64_19 0 rfl rfl ?_
      obtain ⟨v20, e20, h⟩ := bO_some h
      refine ww_getR 20 X dX13_turn64_20 fG_X13_69 e20 ?_
      refine ww_iload_n 23 X dX13_turn64_23 1 rfl rfl ?_
      refine ww_iconst 24 X (v := (2 : Int32)) dX13_turn64_24 (by decide) ?_
      refine ww_isub 25 X dX13_turn64_25 ?_
      obtain ⟨v26, e26, h⟩ := bO_some h
      refine ww_lald 26 X dX13_turn64_26 e26 ?_
      refine ww_lstore 27 X dX13_turn64_27 (lv' := [(0, .ref l0), (1, .int l1), (2, .long v17), (4, .long v26)]) (by decide) [1, 2, 3, 0] rfl ?_
      refine ww_aload_n 29 X dX13_turn64_29 0 rfl rfl ?_
      obtain ⟨v30, e30, h⟩ := bO_some h
      refine ww_getR 30 X dX13_turn64_30 fG_X13_69 e30 ?_
      refine ww_iload_n 33 X dX13_turn64_33 1 rfl rfl ?_
      refine ww_aload_n 34 X dX13_turn64_34 0 rfl rfl ?_
      obtain ⟨v35, e35, h⟩ := bO_some h
      refine ww_getR 35 X dX13_turn64_35 fG_X13_69 e35 ?_
      refine ww_iload_n 38 X dX13_turn64_38 1 rfl rfl ?_
      refine ww_bipush 39 X (v := (16 : Int32)) dX13_turn64_39 (by decide) ?_
      refine ww_isub 41 X dX13_turn64_41 ?_
      obtain ⟨v42, e42, h⟩ := bO_some h
      refine ww_lald 42 X dX13_turn64_42 e42 ?_
      refine ww_lload_n 43 X dX13_turn64_43 2 rfl rfl ?_
      refine ww_iconst 44 X (v := (1 : Int32)) dX13_turn64_44 (by decide) ?_
      obtain ⟨v45, M45, e45, h⟩ := bP_some h
      refine ww_callSL0 45 X dX13_turn64_45 mY_X13_right64 mL_X13_561 (As := [.long v17, .int (1 : Int32)]) (rest := [.long v42, .int l1, .ref v30]) rfl rfl ⟨Nat.le_of_ble_eq_true rfl, Nat.le_of_ble_eq_true rfl⟩ (Nat.le_of_ble_eq_true rfl) (fun l D A => c_X13_right64 l D A e45) ?_
      refine ww_lload_n 48 X dX13_turn64_48 2 rfl rfl ?_
      refine ww_bipush 49 X (v := (8 : Int32)) dX13_turn64_49 (by decide) ?_
      obtain ⟨v51, M51, e51, h⟩ := bP_some h
      refine ww_callSL0 51 X dX13_turn64_51 mY_X13_right64 mL_X13_561 (As := [.long v17, .int (8 : Int32)]) (rest := [.long v45, .long v42, .int l1, .ref v30]) rfl rfl ⟨Nat.le_of_ble_eq_true rfl, Nat.le_of_ble_eq_true rfl⟩ (Nat.le_of_ble_eq_true rfl) (fun l D A => c_X13_right64 l D A e51) ?_
      refine ww_lxor 54 X dX13_turn64_54 ?_
      refine ww_lload_n 55 X dX13_turn64_55 2 rfl rfl ?_
      refine ww_bipush 56 X (v := (7 : Int32)) dX13_turn64_56 (by decide) ?_
      refine ww_lushr 58 X dX13_turn64_58 ?_
      refine ww_lxor 59 X dX13_turn64_59 ?_
      refine ww_ladd 60 X dX13_turn64_60 ?_
      refine ww_aload_n 61 X dX13_turn64_61 0 rfl rfl ?_
      obtain ⟨v62, e62, h⟩ := bO_some h
      refine ww_getR 62 X dX13_turn64_62 fG_X13_69 e62 ?_
      refine ww_iload_n 65 X dX13_turn64_65 1 rfl rfl ?_
      refine ww_bipush 66 X (v := (7 : Int32)) dX13_turn64_66 (by decide) ?_
      refine ww_isub 68 X dX13_turn64_68 ?_
      obtain ⟨v69, e69, h⟩ := bO_some h
      refine ww_lald 69 X dX13_turn64_69 e69 ?_
      refine ww_ladd 70 X dX13_turn64_70 ?_
      refine ww_lload 71 X dX13_turn64_71 3 rfl ?_
      refine ww_bipush 73 X (v := (19 : Int32)) dX13_turn64_73 (by decide) ?_
      obtain ⟨v75, M75, e75, h⟩ := bP_some h
      refine ww_callSL0 75 X dX13_turn64_75 mY_X13_right64 mL_X13_561 (As := [.long v26, .int (19 : Int32)]) (rest := [.long ((v42 + ((v45 ^^^ v51) ^^^ (ushL v17 (7 : Int32)))) + v69), .int l1, .ref v30]) rfl rfl ⟨Nat.le_of_ble_eq_true rfl, Nat.le_of_ble_eq_true rfl⟩ (Nat.le_of_ble_eq_true rfl) (fun l D A => c_X13_right64 l D A e75) ?_
      refine ww_lload 78 X dX13_turn64_78 3 rfl ?_
      refine ww_bipush 80 X (v := (61 : Int32)) dX13_turn64_80 (by decide) ?_
      obtain ⟨v82, M82, e82, h⟩ := bP_some h
      refine ww_callSL0 82 X dX13_turn64_82 mY_X13_right64 mL_X13_561 (As := [.long v26, .int (61 : Int32)]) (rest := [.long v75, .long ((v42 + ((v45 ^^^ v51) ^^^ (ushL v17 (7 : Int32)))) + v69), .int l1, .ref v30]) rfl rfl ⟨Nat.le_of_ble_eq_true rfl, Nat.le_of_ble_eq_true rfl⟩ (Nat.le_of_ble_eq_true rfl) (fun l D A => c_X13_right64 l D A e82) ?_
      refine ww_lxor 85 X dX13_turn64_85 ?_
      refine ww_lload 86 X dX13_turn64_86 3 rfl ?_
      refine ww_bipush 88 X (v := (6 : Int32)) dX13_turn64_88 (by decide) ?_
      refine ww_lushr 90 X dX13_turn64_90 ?_
      refine ww_lxor 91 X dX13_turn64_91 ?_
      refine ww_ladd 92 X dX13_turn64_92 ?_
      obtain ⟨M93, e93, h⟩ := bO_some h
      refine ww_last 93 X dX13_turn64_93 e93 ?_
      refine ww_iinc 94 X dX13_turn64_94 (lv' := [(0, .ref l0), (1, .int (l1 + 1)), (2, .long v17), (4, .long v26)]) 1 rfl rfl (by decide) [1, 0, 2, 3] rfl ?_
      refine ww_goto 97 3 X dX13_turn64_97 (by decide) ?_
      exact ww_sub [0, 1] rfl (ih _ _ _ h)
set_option maxHeartbeats 4000000 in
set_option maxRecDepth 100000 in
theorem wP_X13_turn64 {G : mG} {F : Nat} {x : mXT} {sz : Nat} {M0 : mM} (X : mCX G RX13 cX13_turn64 22 none "turn64" rmX13_turn64 x) (hQ : mQV x M0 (sz, 0, 0)) {l0 : Nat} {M : mM} (h : P_X13_turn64 G F l0 M = some M0) : WW x (sz, 0, 0) M 0 [(0, .ref l0)] [] := by
  unfold P_X13_turn64 at h
  refine ww_bipush 0 X (v := (16 : Int32)) dX13_turn64_0 (by decide) ?_
  refine ww_istore_n 2 X dX13_turn64_2 (lv' := [(0, .ref l0), (1, .int (16 : Int32))]) rfl (by decide) [1, 0] rfl ?_
  exact (wB_X13_turn64_3 X hQ F _ _ _ h)
theorem c_X13_turn64 {G : mG} {F sz : Nat} {M0 : mM} (l : Launch) (D : mD) (A : Nat → Prop) {l0 : Nat} {M : mM} (h : P_X13_turn64 G F l0 M = some M0) : mMetV l D G A yX13_turn64 cX13_turn64 22 none 1 22 0 0 [.ref l0] M sz M0 sz := mMetV_of l D G A (by decide) (Nat.le_of_ble_eq_true rfl) (fun x X hQ => wP_X13_turn64 X hQ h)
/-! SealedTokensModel.digest64()V -/
theorem dX13_digest64_0 : decode cX13_digest64 0 = .ok (.aload_n 0, 1) := by decide +kernel
theorem dX13_digest64_1 : decode cX13_digest64 1 = .ok (.sipush 128, 3) := by decide +kernel
theorem dX13_digest64_4 : decode cX13_digest64 4 = .ok (.invokevirtual 521, 3) := by decide +kernel
theorem dX13_digest64_7 : decode cX13_digest64 7 = .ok (.iconst 0, 1) := by decide +kernel
theorem dX13_digest64_8 : decode cX13_digest64 8 = .ok (.istore_n 1, 1) := by decide +kernel
theorem dX13_digest64_9 : decode cX13_digest64 9 = .ok (.iload_n 1, 1) := by decide +kernel
theorem dX13_digest64_10 : decode cX13_digest64 10 = .ok (.bipush 8, 2) := by decide +kernel
theorem dX13_digest64_12 : decode cX13_digest64 12 = .ok (.if_icmp .ge 19, 3) := by decide +kernel
theorem dX13_digest64_15 : decode cX13_digest64 15 = .ok (.aload_n 0, 1) := by decide +kernel
theorem dX13_digest64_16 : decode cX13_digest64 16 = .ok (.getfield 73, 3) := by decide +kernel
theorem dX13_digest64_19 : decode cX13_digest64 19 = .ok (.iload_n 1, 1) := by decide +kernel
theorem dX13_digest64_20 : decode cX13_digest64 20 = .ok (.iload_n 1, 1) := by decide +kernel
theorem dX13_digest64_21 : decode cX13_digest64 21 = .ok (.invokestatic 524, 3) := by decide +kernel
theorem dX13_digest64_24 : decode cX13_digest64 24 = .ok (.lastore, 1) := by decide +kernel
theorem dX13_digest64_25 : decode cX13_digest64 25 = .ok (.iinc 1 1, 3) := by decide +kernel
theorem dX13_digest64_28 : decode cX13_digest64 28 = .ok (.goto (-19), 3) := by decide +kernel
theorem dX13_digest64_31 : decode cX13_digest64 31 = .ok (.iconst 0, 1) := by decide +kernel
theorem dX13_digest64_32 : decode cX13_digest64 32 = .ok (.istore_n 1, 1) := by decide +kernel
theorem dX13_digest64_33 : decode cX13_digest64 33 = .ok (.iload_n 1, 1) := by decide +kernel
theorem dX13_digest64_34 : decode cX13_digest64 34 = .ok (.aload_n 0, 1) := by decide +kernel
theorem dX13_digest64_35 : decode cX13_digest64 35 = .ok (.getfield 507, 3) := by decide +kernel
theorem dX13_digest64_38 : decode cX13_digest64 38 = .ok (.if_icmp .ge 51, 3) := by decide +kernel
theorem dX13_digest64_41 : decode cX13_digest64 41 = .ok (.iconst 0, 1) := by decide +kernel
theorem dX13_digest64_42 : decode cX13_digest64 42 = .ok (.istore_n 2, 1) := by decide +kernel
theorem dX13_digest64_43 : decode cX13_digest64 43 = .ok (.iload_n 2, 1) := by decide +kernel
theorem dX13_digest64_44 : decode cX13_digest64 44 = .ok (.bipush 16, 2) := by decide +kernel
theorem dX13_digest64_46 : decode cX13_digest64 46 = .ok (.if_icmp .ge 30, 3) := by decide +kernel
theorem dX13_digest64_49 : decode cX13_digest64 49 = .ok (.aload_n 0, 1) := by decide +kernel
theorem dX13_digest64_50 : decode cX13_digest64 50 = .ok (.getfield 69, 3) := by decide +kernel
theorem dX13_digest64_53 : decode cX13_digest64 53 = .ok (.iload_n 2, 1) := by decide +kernel
theorem dX13_digest64_54 : decode cX13_digest64 54 = .ok (.aload_n 0, 1) := by decide +kernel
theorem dX13_digest64_55 : decode cX13_digest64 55 = .ok (.getfield 80, 3) := by decide +kernel
theorem dX13_digest64_58 : decode cX13_digest64 58 = .ok (.iload_n 1, 1) := by decide +kernel
theorem dX13_digest64_59 : decode cX13_digest64 59 = .ok (.bipush 8, 2) := by decide +kernel
theorem dX13_digest64_61 : decode cX13_digest64 61 = .ok (.iload_n 2, 1) := by decide +kernel
theorem dX13_digest64_62 : decode cX13_digest64 62 = .ok (.imul, 1) := by decide +kernel
theorem dX13_digest64_63 : decode cX13_digest64 63 = .ok (.iadd, 1) := by decide +kernel
theorem dX13_digest64_64 : decode cX13_digest64 64 = .ok (.bipush 8, 2) := by decide +kernel
theorem dX13_digest64_66 : decode cX13_digest64 66 = .ok (.invokestatic 528, 3) := by decide +kernel
theorem dX13_digest64_69 : decode cX13_digest64 69 = .ok (.lastore, 1) := by decide +kernel
theorem dX13_digest64_70 : decode cX13_digest64 70 = .ok (.iinc 2 1, 3) := by decide +kernel
theorem dX13_digest64_73 : decode cX13_digest64 73 = .ok (.goto (-30), 3) := by decide +kernel
theorem dX13_digest64_76 : decode cX13_digest64 76 = .ok (.aload_n 0, 1) := by decide +kernel
theorem dX13_digest64_77 : decode cX13_digest64 77 = .ok (.invokevirtual 558, 3) := by decide +kernel
theorem dX13_digest64_80 : decode cX13_digest64 80 = .ok (.iinc 1 128, 6) := by decide +kernel
theorem dX13_digest64_86 : decode cX13_digest64 86 = .ok (.goto (-53), 3) := by decide +kernel
theorem dX13_digest64_89 : decode cX13_digest64 89 = .ok (.iconst 0, 1) := by decide +kernel
theorem dX13_digest64_90 : decode cX13_digest64 90 = .ok (.istore_n 1, 1) := by decide +kernel
theorem dX13_digest64_91 : decode cX13_digest64 91 = .ok (.iload_n 1, 1) := by decide +kernel
theorem dX13_digest64_92 : decode cX13_digest64 92 = .ok (.bipush 8, 2) := by decide +kernel
theorem dX13_digest64_94 : decode cX13_digest64 94 = .ok (.if_icmp .ge 28, 3) := by decide +kernel
theorem dX13_digest64_97 : decode cX13_digest64 97 = .ok (.aload_n 0, 1) := by decide +kernel
theorem dX13_digest64_98 : decode cX13_digest64 98 = .ok (.getfield 76, 3) := by decide +kernel
theorem dX13_digest64_101 : decode cX13_digest64 101 = .ok (.bipush 8, 2) := by decide +kernel
theorem dX13_digest64_103 : decode cX13_digest64 103 = .ok (.iload_n 1, 1) := by decide +kernel
theorem dX13_digest64_104 : decode cX13_digest64 104 = .ok (.imul, 1) := by decide +kernel
theorem dX13_digest64_105 : decode cX13_digest64 105 = .ok (.bipush 8, 2) := by decide +kernel
theorem dX13_digest64_107 : decode cX13_digest64 107 = .ok (.aload_n 0, 1) := by decide +kernel
theorem dX13_digest64_108 : decode cX13_digest64 108 = .ok (.getfield 73, 3) := by decide +kernel
theorem dX13_digest64_111 : decode cX13_digest64 111 = .ok (.iload_n 1, 1) := by decide +kernel
theorem dX13_digest64_112 : decode cX13_digest64 112 = .ok (.laload, 1) := by decide +kernel
theorem dX13_digest64_113 : decode cX13_digest64 113 = .ok (.invokestatic 328, 3) := by decide +kernel
theorem dX13_digest64_116 : decode cX13_digest64 116 = .ok (.iinc 1 1, 3) := by decide +kernel
theorem dX13_digest64_119 : decode cX13_digest64 119 = .ok (.goto (-28), 3) := by decide +kernel
theorem dX13_digest64_122 : decode cX13_digest64 122 = .ok (.return_, 1) := by decide +kernel
abbrev rmX13_digest64 : Room := { frames := 3, cells := 0, slots := 0, locals := 71 }
set_option maxHeartbeats 4000000 in
set_option maxRecDepth 100000 in
theorem wB_X13_digest64_91 {G : mG} {F : Nat} {x : mXT} {sz : Nat} {M0 : mM} (X : mCX G RX13 cX13_digest64 3 none "digest64" rmX13_digest64 x) (hQ : mQV x M0 (sz, 0, 0)) : ∀ (n : Nat) (l0 : Nat) (l1 : Int32) (M : mM), B_X13_digest64_91 G F n l0 l1 M = some M0 → WW x (sz, 0, 0) M 91 [(0, .ref l0), (1, .int l1)] [] := by
  intro n
  induction n with
  | zero =>
    intro l0 l1 M h
    exact nomatch (show (none : Option mM) = some M0 from h)
  | succ n ih =>
    intro l0 l1 M h
    rw [B_X13_digest64_91] at h
    refine ww_iload_n 91 X dX13_digest64_91 1 rfl rfl ?_
    refine ww_bipush 92 X (v := (8 : Int32)) dX13_digest64_92 (by decide) ?_
    refine ww_icmp_ge 94 122 X dX13_digest64_94 (by decide) (fun q => ?_) (fun q => ?_)
    · replace h := (if_pos q).symm.trans h
      exact ww_vretE 122 X hQ dX13_digest64_122 h
    · replace h := (if_neg q).symm.trans h
      refine ww_aload_n 97 X dX13_digest64_97 0 rfl rfl ?_
      obtain ⟨v98, e98, h⟩ := bO_some h
      refine ww_getR 98 X dX13_digest64_98 fG_X13_76 e98 ?_
      refine ww_bipush 101 X (v := (8 : Int32)) dX13_digest64_101 (by decide) ?_
      refine ww_iload_n 103 X dX13_digest64_103 1 rfl rfl ?_
      refine ww_imul 104 X dX13_digest64_104 ?_
      refine ww_bipush 105 X (v := (8 : Int32)) dX13_digest64_105 (by decide) ?_
      refine ww_aload_n 107 X dX13_digest64_107 0 rfl rfl ?_
      obtain ⟨v108, e108, h⟩ := bO_some h
      refine ww_getR 108 X dX13_digest64_108 fG_X13_73 e108 ?_
      refine ww_iload_n 111 X dX13_digest64_111 1 rfl rfl ?_
      obtain ⟨v112, e112, h⟩ := bO_some h
      refine ww_lald 112 X dX13_digest64_112 e112 ?_
      obtain ⟨M113, e113, h⟩ := bO_some h
      refine ww_callSV0 113 X dX13_digest64_113 mY_X13_put mL_X13_328 (As := [.ref v98, .int ((8 : Int32) * l1), .int (8 : Int32), .long v112]) (rest := []) rfl rfl ⟨Nat.le_of_ble_eq_true rfl, Nat.le_of_ble_eq_true rfl⟩ (Nat.le_of_ble_eq_true rfl) (fun l D A => c_X13_put l D A e113) ?_
      refine ww_iinc 116 X dX13_digest64_116 (lv' := [(0, .ref l0), (1, .int (l1 + 1))]) 1 rfl rfl (by decide) [1, 0] rfl ?_
      refine ww_goto 119 91 X dX13_digest64_119 (by decide) ?_
      exact (ih _ _ _ h)
set_option maxHeartbeats 4000000 in
set_option maxRecDepth 100000 in
theorem wB_X13_digest64_43 {G : mG} {F : Nat} {x : mXT} {sz : Nat} {M0 : mM} (X : mCX G RX13 cX13_digest64 3 none "digest64" rmX13_digest64 x) (hQ : mQV x M0 (sz, 0, 0)) (r33 : Nat → Int32 → mM → Option mM) (hr33 : ∀ (l0 : Nat) (l1 : Int32) (M : mM), r33 l0 l1 M = some M0 → WW x (sz, 0, 0) M 33 [(0, .ref l0), (1, .int l1)] []) : ∀ (n : Nat) (l0 : Nat) (l1 : Int32) (l2 : Int32) (M : mM), B_X13_digest64_43 G F r33 n l0 l1 l2 M = some M0 → WW x (sz, 0, 0) M 43 [(0, .ref l0), (1, .int l1), (2, .int l2)] [] := by
  intro n
  induction n with
  | zero =>
    intro l0 l1 l2 M h
    exact nomatch (show (none : Option mM) = some M0 from h)
  | succ n ih =>
    intro l0 l1 l2 M h
    rw [B_X13_digest64_43] at h
    refine ww_iload_n 43 X dX13_digest64_43 2 rfl rfl ?_
    refine ww_bipush 44 X (v := (16 : Int32)) dX13_digest64_44 (by decide) ?_
    refine ww_icmp_ge 46 76 X dX13_digest64_46 (by decide) (fun q => ?_) (fun q => ?_)
    · replace h := (if_pos q).symm.trans h
      refine ww_aload_n 76 X dX13_digest64_76 0 rfl rfl ?_
      obtain ⟨_, f77, h⟩ := bO_some h
      obtain ⟨M77, e77, h⟩ := bO_some h
      refine ww_callVV0 77 X dX13_digest64_77 mY_X13_turn64 mL_X13_558 (rcv_spec f77) ⟨_, _, rfl⟩ (by decide) (As := []) (rest := []) rfl rfl ⟨Nat.le_of_ble_eq_true rfl, Nat.le_of_ble_eq_true rfl⟩ (Nat.le_of_ble_eq_true rfl) (fun l D A => c_X13_turn64 l D A e77) ?_
      refine ww_iincW 80 X dX13_digest64_80 (lv' := [(0, .ref l0), (1, .int (l1 + 128)), (2, .int l2)]) 1 rfl rfl (by decide) [1, 0, 2] rfl ?_
      refine ww_goto 86 33 X dX13_digest64_86 (by decide) ?_
      exact ww_sub [0, 1] rfl (hr33 _ _ _ h)
    · replace h := (if_neg q).symm.trans h
      refine ww_aload_n 49 X dX13_digest64_49 0 rfl rfl ?_
      obtain ⟨v50, e50, h⟩ := bO_some h
      refine ww_getR 50 X dX13_digest64_50 fG_X13_69 e50 ?_
      refine ww_iload_n 53 X dX13_digest64_53 2 rfl rfl ?_
      refine ww_aload_n 54 X dX13_digest64_54 0 rfl rfl ?_
      obtain ⟨v55, e55, h⟩ := bO_some h
      refine ww_getR 55 X dX13_digest64_55 fG_X13_80 e55 ?_
      refine ww_iload_n 58 X dX13_digest64_58 1 rfl rfl ?_
      refine ww_bipush 59 X (v := (8 : Int32)) dX13_digest64_59 (by decide) ?_
      refine ww_iload_n 61 X dX13_digest64_61 2 rfl rfl ?_
      refine ww_imul 62 X dX13_digest64_62 ?_
      refine ww_iadd 63 X dX13_digest64_63 ?_
      refine ww_bipush 64 X (v := (8 : Int32)) dX13_digest64_64 (by decide) ?_
      obtain ⟨v66, M66, e66, h⟩ := bP_some h
      refine ww_callSL0 66 X dX13_digest64_66 mY_X13_longAt mL_X13_528 (As := [.ref v55, .int (l1 + ((8 : Int32) * l2)), .int (8 : Int32)]) (rest := [.int l2, .ref v50]) rfl rfl ⟨Nat.le_of_ble_eq_true rfl, Nat.le_of_ble_eq_true rfl⟩ (Nat.le_of_ble_eq_true rfl) (fun l D A => c_X13_longAt l D A e66) ?_
      obtain ⟨M69, e69, h⟩ := bO_some h
      refine ww_last 69 X dX13_digest64_69 e69 ?_
      refine ww_iinc 70 X dX13_digest64_70 (lv' := [(0, .ref l0), (1, .int l1), (2, .int (l2 + 1))]) 2 rfl rfl (by decide) [1, 2, 0] rfl ?_
      refine ww_goto 73 43 X dX13_digest64_73 (by decide) ?_
      exact (ih _ _ _ _ h)
set_option maxHeartbeats 4000000 in
set_option maxRecDepth 100000 in
theorem wB_X13_digest64_33 {G : mG} {F : Nat} {x : mXT} {sz : Nat} {M0 : mM} (X : mCX G RX13 cX13_digest64 3 none "digest64" rmX13_digest64 x) (hQ : mQV x M0 (sz, 0, 0)) : ∀ (n : Nat) (l0 : Nat) (l1 : Int32) (M : mM), B_X13_digest64_33 G F n l0 l1 M = some M0 → WW x (sz, 0, 0) M 33 [(0, .ref l0), (1, .int l1)] [] := by
  intro n
  induction n with
  | zero =>
    intro l0 l1 M h
    exact nomatch (show (none : Option mM) = some M0 from h)
  | succ n ih =>
    intro l0 l1 M h
    rw [B_X13_digest64_33] at h
    refine ww_iload_n 33 X dX13_digest64_33 1 rfl rfl ?_
    refine ww_aload_n 34 X dX13_digest64_34 0 rfl rfl ?_
    obtain ⟨v35, e35, h⟩ := bO_some h
    refine ww_getI 35 X dX13_digest64_35 fG_X13_507 e35 ?_
    refine ww_icmp_ge 38 89 X dX13_digest64_38 (by decide) (fun q => ?_) (fun q => ?_)
    · replace h := (if_pos q).symm.trans h
      refine ww_iconst 89 X (v := (0 : Int32)) dX13_digest64_89 (by decide) ?_
      refine ww_istore_n 90 X dX13_digest64_90 (lv' := [(0, .ref l0), (1, .int (0 : Int32))]) rfl (by decide) [1, 0] rfl ?_
      exact (wB_X13_digest64_91 X hQ F _ _ _ h)
    · replace h := (if_neg q).symm.trans h
      refine ww_iconst 41 X (v := (0 : Int32)) dX13_digest64_41 (by decide) ?_
      refine ww_istore_n 42 X dX13_digest64_42 (lv' := [(0, .ref l0), (1, .int l1), (2, .int (0 : Int32))]) rfl (by decide) [1, 2, 0] rfl ?_
      exact (wB_X13_digest64_43 X hQ _ ih F _ _ _ _ h)
set_option maxHeartbeats 4000000 in
set_option maxRecDepth 100000 in
theorem wB_X13_digest64_9 {G : mG} {F : Nat} {x : mXT} {sz : Nat} {M0 : mM} (X : mCX G RX13 cX13_digest64 3 none "digest64" rmX13_digest64 x) (hQ : mQV x M0 (sz, 0, 0)) : ∀ (n : Nat) (l0 : Nat) (l1 : Int32) (M : mM), B_X13_digest64_9 G F n l0 l1 M = some M0 → WW x (sz, 0, 0) M 9 [(0, .ref l0), (1, .int l1)] [] := by
  intro n
  induction n with
  | zero =>
    intro l0 l1 M h
    exact nomatch (show (none : Option mM) = some M0 from h)
  | succ n ih =>
    intro l0 l1 M h
    rw [B_X13_digest64_9] at h
    refine ww_iload_n 9 X dX13_digest64_9 1 rfl rfl ?_
    refine ww_bipush 10 X (v := (8 : Int32)) dX13_digest64_10 (by decide) ?_
    refine ww_icmp_ge 12 31 X dX13_digest64_12 (by decide) (fun q => ?_) (fun q => ?_)
    · replace h := (if_pos q).symm.trans h
      refine ww_iconst 31 X (v := (0 : Int32)) dX13_digest64_31 (by decide) ?_
      refine ww_istore_n 32 X dX13_digest64_32 (lv' := [(0, .ref l0), (1, .int (0 : Int32))]) rfl (by decide) [1, 0] rfl ?_
      exact (wB_X13_digest64_33 X hQ F _ _ _ h)
    · replace h := (if_neg q).symm.trans h
      refine ww_aload_n 15 X dX13_digest64_15 0 rfl rfl ?_
      obtain ⟨v16, e16, h⟩ := bO_some h
      refine ww_getR 16 X dX13_digest64_16 fG_X13_73 e16 ?_
      refine ww_iload_n 19 X dX13_digest64_19 1 rfl rfl ?_
      refine ww_iload_n 20 X dX13_digest64_20 1 rfl rfl ?_
      obtain ⟨v21, M21, e21, h⟩ := bP_some h
      refine ww_callSL0 21 X dX13_digest64_21 mY_X13_firstOf mL_X13_524 (As := [.int l1]) (rest := [.int l1, .ref v16]) rfl rfl ⟨Nat.le_of_ble_eq_true rfl, Nat.le_of_ble_eq_true rfl⟩ (Nat.le_of_ble_eq_true rfl) (fun l D A => c_X13_firstOf l D A e21) ?_
      obtain ⟨M24, e24, h⟩ := bO_some h
      refine ww_last 24 X dX13_digest64_24 e24 ?_
      refine ww_iinc 25 X dX13_digest64_25 (lv' := [(0, .ref l0), (1, .int (l1 + 1))]) 1 rfl rfl (by decide) [1, 0] rfl ?_
      refine ww_goto 28 9 X dX13_digest64_28 (by decide) ?_
      exact (ih _ _ _ h)
set_option maxHeartbeats 4000000 in
set_option maxRecDepth 100000 in
theorem wP_X13_digest64 {G : mG} {F : Nat} {x : mXT} {sz : Nat} {M0 : mM} (X : mCX G RX13 cX13_digest64 3 none "digest64" rmX13_digest64 x) (hQ : mQV x M0 (sz, 0, 0)) {l0 : Nat} {M : mM} (h : P_X13_digest64 G F l0 M = some M0) : WW x (sz, 0, 0) M 0 [(0, .ref l0)] [] := by
  unfold P_X13_digest64 at h
  refine ww_aload_n 0 X dX13_digest64_0 0 rfl rfl ?_
  refine ww_sipush 1 X (v := (128 : Int32)) dX13_digest64_1 (by decide) ?_
  obtain ⟨_, f4, h⟩ := bO_some h
  obtain ⟨M4, e4, h⟩ := bO_some h
  refine ww_callVV0 4 X dX13_digest64_4 mY_X13_fill mL_X13_521 (rcv_spec f4) ⟨_, _, rfl⟩ (by decide) (As := [.int (128 : Int32)]) (rest := []) rfl rfl ⟨Nat.le_of_ble_eq_true rfl, Nat.le_of_ble_eq_true rfl⟩ (Nat.le_of_ble_eq_true rfl) (fun l D A => c_X13_fill l D A e4) ?_
  refine ww_iconst 7 X (v := (0 : Int32)) dX13_digest64_7 (by decide) ?_
  refine ww_istore_n 8 X dX13_digest64_8 (lv' := [(0, .ref l0), (1, .int (0 : Int32))]) rfl (by decide) [1, 0] rfl ?_
  exact (wB_X13_digest64_9 X hQ F _ _ _ h)
theorem c_X13_digest64 {G : mG} {F sz : Nat} {M0 : mM} (l : Launch) (D : mD) (A : Nat → Prop) {l0 : Nat} {M : mM} (h : P_X13_digest64 G F l0 M = some M0) : mMetV l D G A yX13_digest64 cX13_digest64 3 none 3 71 0 0 [.ref l0] M sz M0 sz := mMetV_of l D G A (by decide) (Nat.le_of_ble_eq_true rfl) (fun x X hQ => wP_X13_digest64 X hQ h)
/-! SealedTokensModel.turn32()V -/
theorem dX13_turn32_0 : decode cX13_turn32 0 = .ok (.bipush 16, 2) := by decide +kernel
theorem dX13_turn32_2 : decode cX13_turn32 2 = .ok (.istore_n 1, 1) := by decide +kernel
theorem dX13_turn32_3 : decode cX13_turn32 3 = .ok (.iload_n 1, 1) := by decide +kernel
theorem dX13_turn32_4 : decode cX13_turn32 4 = .ok (.bipush 64, 2) := by decide +kernel
theorem dX13_turn32_6 : decode cX13_turn32 6 = .ok (.if_icmp .ge 90, 3) := by decide +kernel
theorem dX13_turn32_9 : decode cX13_turn32 9 = .ok (.aload_n 0, 1) := by decide +kernel
theorem dX13_turn32_10 : decode cX13_turn32 10 = .ok (.getfield 63, 3) := by decide +kernel
theorem dX13_turn32_13 : decode cX13_turn32 13 = .ok (.iload_n 1, 1) := by decide +kernel
theorem dX13_turn32_14 : decode cX13_turn32 14 = .ok (.bipush 15, 2) := by decide +kernel
theorem dX13_turn32_16 : decode cX13_turn32 16 = .ok (.isub, 1) := by decide +kernel
theorem dX13_turn32_17 : decode cX13_turn32 17 = .ok (.iaload, 1) := by decide +kernel
theorem dX13_turn32_18 : decode cX13_turn32 18 = .ok (.istore_n 2, 1) := by decide +kernel
theorem dX13_turn32_19 : decode cX13_turn32 19 = .ok (.aload_n 0, 1) := by decide +kernel
theorem dX13_turn32_20 : decode cX13_turn32 20 = .ok (.getfield 63, 3) := by decide +kernel
theorem dX13_turn32_23 : decode cX13_turn32 23 = .ok (.iload_n 1, 1) := by decide +kernel
theorem dX13_turn32_24 : decode cX13_turn32 24 = .ok (.iconst 2, 1) := by decide +kernel
theorem dX13_turn32_25 : decode cX13_turn32 25 = .ok (.isub, 1) := by decide +kernel
theorem dX13_turn32_26 : decode cX13_turn32 26 = .ok (.iaload, 1) := by decide +kernel
theorem dX13_turn32_27 : decode cX13_turn32 27 = .ok (.istore_n 3, 1) := by decide +kernel
theorem dX13_turn32_28 : decode cX13_turn32 28 = .ok (.aload_n 0, 1) := by decide +kernel
theorem dX13_turn32_29 : decode cX13_turn32 29 = .ok (.getfield 63, 3) := by decide +kernel
theorem dX13_turn32_32 : decode cX13_turn32 32 = .ok (.iload_n 1, 1) := by decide +kernel
theorem dX13_turn32_33 : decode cX13_turn32 33 = .ok (.aload_n 0, 1) := by decide +kernel
theorem dX13_turn32_34 : decode cX13_turn32 34 = .ok (.getfield 63, 3) := by decide +kernel
theorem dX13_turn32_37 : decode cX13_turn32 37 = .ok (.iload_n 1, 1) := by decide +kernel
theorem dX13_turn32_38 : decode cX13_turn32 38 = .ok (.bipush 16, 2) := by decide +kernel
theorem dX13_turn32_40 : decode cX13_turn32 40 = .ok (.isub, 1) := by decide +kernel
theorem dX13_turn32_41 : decode cX13_turn32 41 = .ok (.iaload, 1) := by decide +kernel
theorem dX13_turn32_42 : decode cX13_turn32 42 = .ok (.iload_n 2, 1) := by decide +kernel
theorem dX13_turn32_43 : decode cX13_turn32 43 = .ok (.bipush 7, 2) := by decide +kernel
theorem dX13_turn32_45 : decode cX13_turn32 45 = .ok (.invokestatic 551, 3) := by decide +kernel
theorem dX13_turn32_48 : decode cX13_turn32 48 = .ok (.iload_n 2, 1) := by decide +kernel
theorem dX13_turn32_49 : decode cX13_turn32 49 = .ok (.bipush 18, 2) := by decide +kernel
theorem dX13_turn32_51 : decode cX13_turn32 51 = .ok (.invokestatic 551, 3) := by decide +kernel
theorem dX13_turn32_54 : decode cX13_turn32 54 = .ok (.ixor, 1) := by decide +kernel
theorem dX13_turn32_55 : decode cX13_turn32 55 = .ok (.iload_n 2, 1) := by decide +kernel
theorem dX13_turn32_56 : decode cX13_turn32 56 = .ok (.iconst 3, 1) := by decide +kernel
theorem dX13_turn32_57 : decode cX13_turn32 57 = .ok (.iushr, 1) := by decide +kernel
theorem dX13_turn32_58 : decode cX13_turn32 58 = .ok (.ixor, 1) := by decide +kernel
theorem dX13_turn32_59 : decode cX13_turn32 59 = .ok (.iadd, 1) := by decide +kernel
theorem dX13_turn32_60 : decode cX13_turn32 60 = .ok (.aload_n 0, 1) := by decide +kernel
theorem dX13_turn32_61 : decode cX13_turn32 61 = .ok (.getfield 63, 3) := by decide +kernel
theorem dX13_turn32_64 : decode cX13_turn32 64 = .ok (.iload_n 1, 1) := by decide +kernel
theorem dX13_turn32_65 : decode cX13_turn32 65 = .ok (.bipush 7, 2) := by decide +kernel
theorem dX13_turn32_67 : decode cX13_turn32 67 = .ok (.isub, 1) := by decide +kernel
theorem dX13_turn32_68 : decode cX13_turn32 68 = .ok (.iaload, 1) := by decide +kernel
theorem dX13_turn32_69 : decode cX13_turn32 69 = .ok (.iadd, 1) := by decide +kernel
theorem dX13_turn32_70 : decode cX13_turn32 70 = .ok (.iload_n 3, 1) := by decide +kernel
theorem dX13_turn32_71 : decode cX13_turn32 71 = .ok (.bipush 17, 2) := by decide +kernel
theorem dX13_turn32_73 : decode cX13_turn32 73 = .ok (.invokestatic 551, 3) := by decide +kernel
theorem dX13_turn32_76 : decode cX13_turn32 76 = .ok (.iload_n 3, 1) := by decide +kernel
theorem dX13_turn32_77 : decode cX13_turn32 77 = .ok (.bipush 19, 2) := by decide +kernel
theorem dX13_turn32_79 : decode cX13_turn32 79 = .ok (.invokestatic 551, 3) := by decide +kernel
theorem dX13_turn32_82 : decode cX13_turn32 82 = .ok (.ixor, 1) := by decide +kernel
theorem dX13_turn32_83 : decode cX13_turn32 83 = .ok (.iload_n 3, 1) := by decide +kernel
theorem dX13_turn32_84 : decode cX13_turn32 84 = .ok (.bipush 10, 2) := by decide +kernel
theorem dX13_turn32_86 : decode cX13_turn32 86 = .ok (.iushr, 1) := by decide +kernel
theorem dX13_turn32_87 : decode cX13_turn32 87 = .ok (.ixor, 1) := by decide +kernel
theorem dX13_turn32_88 : decode cX13_turn32 88 = .ok (.iadd, 1) := by decide +kernel
theorem dX13_turn32_89 : decode cX13_turn32 89 = .ok (.iastore, 1) := by decide +kernel
theorem dX13_turn32_90 : decode cX13_turn32 90 = .ok (.iinc 1 1, 3) := by decide +kernel
theorem dX13_turn32_93 : decode cX13_turn32 93 = .ok (.goto (-90), 3) := by decide +kernel
theorem dX13_turn32_96 : decode cX13_turn32 96 = .ok (.aload_n 0, 1) := by decide +kernel
theorem dX13_turn32_97 : decode cX13_turn32 97 = .ok (.getfield 66, 3) := by decide +kernel
theorem dX13_turn32_100 : decode cX13_turn32 100 = .ok (.iconst 0, 1) := by decide +kernel
theorem dX13_turn32_101 : decode cX13_turn32 101 = .ok (.iaload, 1) := by decide +kernel
theorem dX13_turn32_102 : decode cX13_turn32 102 = .ok (.istore_n 1, 1) := by decide +kernel
theorem dX13_turn32_103 : decode cX13_turn32 103 = .ok (.aload_n 0, 1) := by decide +kernel
theorem dX13_turn32_104 : decode cX13_turn32 104 = .ok (.getfield 66, 3) := by decide +kernel
theorem dX13_turn32_107 : decode cX13_turn32 107 = .ok (.iconst 1, 1) := by decide +kernel
theorem dX13_turn32_108 : decode cX13_turn32 108 = .ok (.iaload, 1) := by decide +kernel
theorem dX13_turn32_109 : decode cX13_turn32 109 = .ok (.istore_n 2, 1) := by decide +kernel
theorem dX13_turn32_110 : decode cX13_turn32 110 = .ok (.aload_n 0, 1) := by decide +kernel
theorem dX13_turn32_111 : decode cX13_turn32 111 = .ok (.getfield 66, 3) := by decide +kernel
theorem dX13_turn32_114 : decode cX13_turn32 114 = .ok (.iconst 2, 1) := by decide +kernel
theorem dX13_turn32_115 : decode cX13_turn32 115 = .ok (.iaload, 1) := by decide +kernel
theorem dX13_turn32_116 : decode cX13_turn32 116 = .ok (.istore_n 3, 1) := by decide +kernel
theorem dX13_turn32_117 : decode cX13_turn32 117 = .ok (.aload_n 0, 1) := by decide +kernel
theorem dX13_turn32_118 : decode cX13_turn32 118 = .ok (.getfield 66, 3) := by decide +kernel
theorem dX13_turn32_121 : decode cX13_turn32 121 = .ok (.iconst 3, 1) := by decide +kernel
theorem dX13_turn32_122 : decode cX13_turn32 122 = .ok (.iaload, 1) := by decide +kernel
theorem dX13_turn32_123 : decode cX13_turn32 123 = .ok (.istore 4, 2) := by decide +kernel
theorem dX13_turn32_125 : decode cX13_turn32 125 = .ok (.aload_n 0, 1) := by decide +kernel
theorem dX13_turn32_126 : decode cX13_turn32 126 = .ok (.getfield 66, 3) := by decide +kernel
theorem dX13_turn32_129 : decode cX13_turn32 129 = .ok (.iconst 4, 1) := by decide +kernel
theorem dX13_turn32_130 : decode cX13_turn32 130 = .ok (.iaload, 1) := by decide +kernel
theorem dX13_turn32_131 : decode cX13_turn32 131 = .ok (.istore 5, 2) := by decide +kernel
theorem dX13_turn32_133 : decode cX13_turn32 133 = .ok (.aload_n 0, 1) := by decide +kernel
theorem dX13_turn32_134 : decode cX13_turn32 134 = .ok (.getfield 66, 3) := by decide +kernel
theorem dX13_turn32_137 : decode cX13_turn32 137 = .ok (.iconst 5, 1) := by decide +kernel
theorem dX13_turn32_138 : decode cX13_turn32 138 = .ok (.iaload, 1) := by decide +kernel
theorem dX13_turn32_139 : decode cX13_turn32 139 = .ok (.istore 6, 2) := by decide +kernel
theorem dX13_turn32_141 : decode cX13_turn32 141 = .ok (.aload_n 0, 1) := by decide +kernel
theorem dX13_turn32_142 : decode cX13_turn32 142 = .ok (.getfield 66, 3) := by decide +kernel
theorem dX13_turn32_145 : decode cX13_turn32 145 = .ok (.bipush 6, 2) := by decide +kernel
theorem dX13_turn32_147 : decode cX13_turn32 147 = .ok (.iaload, 1) := by decide +kernel
theorem dX13_turn32_148 : decode cX13_turn32 148 = .ok (.istore 7, 2) := by decide +kernel
theorem dX13_turn32_150 : decode cX13_turn32 150 = .ok (.aload_n 0, 1) := by decide +kernel
theorem dX13_turn32_151 : decode cX13_turn32 151 = .ok (.getfield 66, 3) := by decide +kernel
theorem dX13_turn32_154 : decode cX13_turn32 154 = .ok (.bipush 7, 2) := by decide +kernel
theorem dX13_turn32_156 : decode cX13_turn32 156 = .ok (.iaload, 1) := by decide +kernel
theorem dX13_turn32_157 : decode cX13_turn32 157 = .ok (.istore 8, 2) := by decide +kernel
theorem dX13_turn32_159 : decode cX13_turn32 159 = .ok (.iconst 0, 1) := by decide +kernel
theorem dX13_turn32_160 : decode cX13_turn32 160 = .ok (.istore 9, 2) := by decide +kernel
theorem dX13_turn32_162 : decode cX13_turn32 162 = .ok (.iload 9, 2) := by decide +kernel
theorem dX13_turn32_164 : decode cX13_turn32 164 = .ok (.bipush 64, 2) := by decide +kernel
theorem dX13_turn32_166 : decode cX13_turn32 166 = .ok (.if_icmp .ge 131, 3) := by decide +kernel
theorem dX13_turn32_169 : decode cX13_turn32 169 = .ok (.iload 8, 2) := by decide +kernel
theorem dX13_turn32_171 : decode cX13_turn32 171 = .ok (.iload 5, 2) := by decide +kernel
theorem dX13_turn32_173 : decode cX13_turn32 173 = .ok (.bipush 6, 2) := by decide +kernel
theorem dX13_turn32_175 : decode cX13_turn32 175 = .ok (.invokestatic 551, 3) := by decide +kernel
theorem dX13_turn32_178 : decode cX13_turn32 178 = .ok (.iload 5, 2) := by decide +kernel
theorem dX13_turn32_180 : decode cX13_turn32 180 = .ok (.bipush 11, 2) := by decide +kernel
theorem dX13_turn32_182 : decode cX13_turn32 182 = .ok (.invokestatic 551, 3) := by decide +kernel
theorem dX13_turn32_185 : decode cX13_turn32 185 = .ok (.ixor, 1) := by decide +kernel
theorem dX13_turn32_186 : decode cX13_turn32 186 = .ok (.iload 5, 2) := by decide +kernel
theorem dX13_turn32_188 : decode cX13_turn32 188 = .ok (.bipush 25, 2) := by decide +kernel
theorem dX13_turn32_190 : decode cX13_turn32 190 = .ok (.invokestatic 551, 3) := by decide +kernel
theorem dX13_turn32_193 : decode cX13_turn32 193 = .ok (.ixor, 1) := by decide +kernel
theorem dX13_turn32_194 : decode cX13_turn32 194 = .ok (.iadd, 1) := by decide +kernel
theorem dX13_turn32_195 : decode cX13_turn32 195 = .ok (.iload 5, 2) := by decide +kernel
theorem dX13_turn32_197 : decode cX13_turn32 197 = .ok (.iload 6, 2) := by decide +kernel
theorem dX13_turn32_199 : decode cX13_turn32 199 = .ok (.iand, 1) := by decide +kernel
theorem dX13_turn32_200 : decode cX13_turn32 200 = .ok (.iload 5, 2) := by decide +kernel
theorem dX13_turn32_202 : decode cX13_turn32 202 = .ok (.iconst (-1), 1) := by decide +kernel
theorem dX13_turn32_203 : decode cX13_turn32 203 = .ok (.ixor, 1) := by decide +kernel
theorem dX13_turn32_204 : decode cX13_turn32 204 = .ok (.iload 7, 2) := by decide +kernel
theorem dX13_turn32_206 : decode cX13_turn32 206 = .ok (.iand, 1) := by decide +kernel
theorem dX13_turn32_207 : decode cX13_turn32 207 = .ok (.ixor, 1) := by decide +kernel
theorem dX13_turn32_208 : decode cX13_turn32 208 = .ok (.iadd, 1) := by decide +kernel
theorem dX13_turn32_209 : decode cX13_turn32 209 = .ok (.getstatic 555, 3) := by decide +kernel
theorem dX13_turn32_212 : decode cX13_turn32 212 = .ok (.iload 9, 2) := by decide +kernel
theorem dX13_turn32_214 : decode cX13_turn32 214 = .ok (.iaload, 1) := by decide +kernel
theorem dX13_turn32_215 : decode cX13_turn32 215 = .ok (.iadd, 1) := by decide +kernel
theorem dX13_turn32_216 : decode cX13_turn32 216 = .ok (.aload_n 0, 1) := by decide +kernel
theorem dX13_turn32_217 : decode cX13_turn32 217 = .ok (.getfield 63, 3) := by decide +kernel
theorem dX13_turn32_220 : decode cX13_turn32 220 = .ok (.iload 9, 2) := by decide +kernel
theorem dX13_turn32_222 : decode cX13_turn32 222 = .ok (.iaload, 1) := by decide +kernel
theorem dX13_turn32_223 : decode cX13_turn32 223 = .ok (.iadd, 1) := by decide +kernel
theorem dX13_turn32_224 : decode cX13_turn32 224 = .ok (.istore 10, 2) := by decide +kernel
theorem dX13_turn32_226 : decode cX13_turn32 226 = .ok (.iload_n 1, 1) := by decide +kernel
theorem dX13_turn32_227 : decode cX13_turn32 227 = .ok (.iconst 2, 1) := by decide +kernel
theorem dX13_turn32_228 : decode cX13_turn32 228 = .ok (.invokestatic 551, 3) := by decide +kernel
theorem dX13_turn32_231 : decode cX13_turn32 231 = .ok (.iload_n 1, 1) := by decide +kernel
theorem dX13_turn32_232 : decode cX13_turn32 232 = .ok (.bipush 13, 2) := by decide +kernel
theorem dX13_turn32_234 : decode cX13_turn32 234 = .ok (.invokestatic 551, 3) := by decide +kernel
theorem dX13_turn32_237 : decode cX13_turn32 237 = .ok (.ixor, 1) := by decide +kernel
theorem dX13_turn32_238 : decode cX13_turn32 238 = .ok (.iload_n 1, 1) := by decide +kernel
theorem dX13_turn32_239 : decode cX13_turn32 239 = .ok (.bipush 22, 2) := by decide +kernel
theorem dX13_turn32_241 : decode cX13_turn32 241 = .ok (.invokestatic 551, 3) := by decide +kernel
theorem dX13_turn32_244 : decode cX13_turn32 244 = .ok (.ixor, 1) := by decide +kernel
theorem dX13_turn32_245 : decode cX13_turn32 245 = .ok (.iload_n 1, 1) := by decide +kernel
theorem dX13_turn32_246 : decode cX13_turn32 246 = .ok (.iload_n 2, 1) := by decide +kernel
theorem dX13_turn32_247 : decode cX13_turn32 247 = .ok (.iand, 1) := by decide +kernel
theorem dX13_turn32_248 : decode cX13_turn32 248 = .ok (.iload_n 1, 1) := by decide +kernel
theorem dX13_turn32_249 : decode cX13_turn32 249 = .ok (.iload_n 3, 1) := by decide +kernel
theorem dX13_turn32_250 : decode cX13_turn32 250 = .ok (.iand, 1) := by decide +kernel
theorem dX13_turn32_251 : decode cX13_turn32 251 = .ok (.ixor, 1) := by decide +kernel
theorem dX13_turn32_252 : decode cX13_turn32 252 = .ok (.iload_n 2, 1) := by decide +kernel
theorem dX13_turn32_253 : decode cX13_turn32 253 = .ok (.iload_n 3, 1) := by decide +kernel
theorem dX13_turn32_254 : decode cX13_turn32 254 = .ok (.iand, 1) := by decide +kernel
theorem dX13_turn32_255 : decode cX13_turn32 255 = .ok (.ixor, 1) := by decide +kernel
theorem dX13_turn32_256 : decode cX13_turn32 256 = .ok (.iadd, 1) := by decide +kernel
theorem dX13_turn32_257 : decode cX13_turn32 257 = .ok (.istore 11, 2) := by decide +kernel
theorem dX13_turn32_259 : decode cX13_turn32 259 = .ok (.iload 7, 2) := by decide +kernel
theorem dX13_turn32_261 : decode cX13_turn32 261 = .ok (.istore 8, 2) := by decide +kernel
theorem dX13_turn32_263 : decode cX13_turn32 263 = .ok (.iload 6, 2) := by decide +kernel
theorem dX13_turn32_265 : decode cX13_turn32 265 = .ok (.istore 7, 2) := by decide +kernel
theorem dX13_turn32_267 : decode cX13_turn32 267 = .ok (.iload 5, 2) := by decide +kernel
theorem dX13_turn32_269 : decode cX13_turn32 269 = .ok (.istore 6, 2) := by decide +kernel
theorem dX13_turn32_271 : decode cX13_turn32 271 = .ok (.iload 4, 2) := by decide +kernel
theorem dX13_turn32_273 : decode cX13_turn32 273 = .ok (.iload 10, 2) := by decide +kernel
theorem dX13_turn32_275 : decode cX13_turn32 275 = .ok (.iadd, 1) := by decide +kernel
theorem dX13_turn32_276 : decode cX13_turn32 276 = .ok (.istore 5, 2) := by decide +kernel
theorem dX13_turn32_278 : decode cX13_turn32 278 = .ok (.iload_n 3, 1) := by decide +kernel
theorem dX13_turn32_279 : decode cX13_turn32 279 = .ok (.istore 4, 2) := by decide +kernel
theorem dX13_turn32_281 : decode cX13_turn32 281 = .ok (.iload_n 2, 1) := by decide +kernel
theorem dX13_turn32_282 : decode cX13_turn32 282 = .ok (.istore_n 3, 1) := by decide +kernel
theorem dX13_turn32_283 : decode cX13_turn32 283 = .ok (.iload_n 1, 1) := by decide +kernel
theorem dX13_turn32_284 : decode cX13_turn32 284 = .ok (.istore_n 2, 1) := by decide +kernel
theorem dX13_turn32_285 : decode cX13_turn32 285 = .ok (.iload 10, 2) := by decide +kernel
theorem dX13_turn32_287 : decode cX13_turn32 287 = .ok (.iload 11, 2) := by decide +kernel
theorem dX13_turn32_289 : decode cX13_turn32 289 = .ok (.iadd, 1) := by decide +kernel
theorem dX13_turn32_290 : decode cX13_turn32 290 = .ok (.istore_n 1, 1) := by decide +kernel
theorem dX13_turn32_291 : decode cX13_turn32 291 = .ok (.iinc 9 1, 3) := by decide +kernel
theorem dX13_turn32_294 : decode cX13_turn32 294 = .ok (.goto (-132), 3) := by decide +kernel
theorem dX13_turn32_297 : decode cX13_turn32 297 = .ok (.aload_n 0, 1) := by decide +kernel
theorem dX13_turn32_298 : decode cX13_turn32 298 = .ok (.getfield 66, 3) := by decide +kernel
theorem dX13_turn32_301 : decode cX13_turn32 301 = .ok (.iconst 0, 1) := by decide +kernel
theorem dX13_turn32_302 : decode cX13_turn32 302 = .ok (.dup2, 1) := by decide +kernel
theorem dX13_turn32_303 : decode cX13_turn32 303 = .ok (.iaload, 1) := by decide +kernel
theorem dX13_turn32_304 : decode cX13_turn32 304 = .ok (.iload_n 1, 1) := by decide +kernel
theorem dX13_turn32_305 : decode cX13_turn32 305 = .ok (.iadd, 1) := by decide +kernel
theorem dX13_turn32_306 : decode cX13_turn32 306 = .ok (.iastore, 1) := by decide +kernel
theorem dX13_turn32_307 : decode cX13_turn32 307 = .ok (.aload_n 0, 1) := by decide +kernel
theorem dX13_turn32_308 : decode cX13_turn32 308 = .ok (.getfield 66, 3) := by decide +kernel
theorem dX13_turn32_311 : decode cX13_turn32 311 = .ok (.iconst 1, 1) := by decide +kernel
theorem dX13_turn32_312 : decode cX13_turn32 312 = .ok (.dup2, 1) := by decide +kernel
theorem dX13_turn32_313 : decode cX13_turn32 313 = .ok (.iaload, 1) := by decide +kernel
theorem dX13_turn32_314 : decode cX13_turn32 314 = .ok (.iload_n 2, 1) := by decide +kernel
theorem dX13_turn32_315 : decode cX13_turn32 315 = .ok (.iadd, 1) := by decide +kernel
theorem dX13_turn32_316 : decode cX13_turn32 316 = .ok (.iastore, 1) := by decide +kernel
theorem dX13_turn32_317 : decode cX13_turn32 317 = .ok (.aload_n 0, 1) := by decide +kernel
theorem dX13_turn32_318 : decode cX13_turn32 318 = .ok (.getfield 66, 3) := by decide +kernel
theorem dX13_turn32_321 : decode cX13_turn32 321 = .ok (.iconst 2, 1) := by decide +kernel
theorem dX13_turn32_322 : decode cX13_turn32 322 = .ok (.dup2, 1) := by decide +kernel
theorem dX13_turn32_323 : decode cX13_turn32 323 = .ok (.iaload, 1) := by decide +kernel
theorem dX13_turn32_324 : decode cX13_turn32 324 = .ok (.iload_n 3, 1) := by decide +kernel
theorem dX13_turn32_325 : decode cX13_turn32 325 = .ok (.iadd, 1) := by decide +kernel
theorem dX13_turn32_326 : decode cX13_turn32 326 = .ok (.iastore, 1) := by decide +kernel
theorem dX13_turn32_327 : decode cX13_turn32 327 = .ok (.aload_n 0, 1) := by decide +kernel
theorem dX13_turn32_328 : decode cX13_turn32 328 = .ok (.getfield 66, 3) := by decide +kernel
theorem dX13_turn32_331 : decode cX13_turn32 331 = .ok (.iconst 3, 1) := by decide +kernel
theorem dX13_turn32_332 : decode cX13_turn32 332 = .ok (.dup2, 1) := by decide +kernel
theorem dX13_turn32_333 : decode cX13_turn32 333 = .ok (.iaload, 1) := by decide +kernel
theorem dX13_turn32_334 : decode cX13_turn32 334 = .ok (.iload 4, 2) := by decide +kernel
theorem dX13_turn32_336 : decode cX13_turn32 336 = .ok (.iadd, 1) := by decide +kernel
theorem dX13_turn32_337 : decode cX13_turn32 337 = .ok (.iastore, 1) := by decide +kernel
theorem dX13_turn32_338 : decode cX13_turn32 338 = .ok (.aload_n 0, 1) := by decide +kernel
theorem dX13_turn32_339 : decode cX13_turn32 339 = .ok (.getfield 66, 3) := by decide +kernel
theorem dX13_turn32_342 : decode cX13_turn32 342 = .ok (.iconst 4, 1) := by decide +kernel
theorem dX13_turn32_343 : decode cX13_turn32 343 = .ok (.dup2, 1) := by decide +kernel
theorem dX13_turn32_344 : decode cX13_turn32 344 = .ok (.iaload, 1) := by decide +kernel
theorem dX13_turn32_345 : decode cX13_turn32 345 = .ok (.iload 5, 2) := by decide +kernel
theorem dX13_turn32_347 : decode cX13_turn32 347 = .ok (.iadd, 1) := by decide +kernel
theorem dX13_turn32_348 : decode cX13_turn32 348 = .ok (.iastore, 1) := by decide +kernel
theorem dX13_turn32_349 : decode cX13_turn32 349 = .ok (.aload_n 0, 1) := by decide +kernel
theorem dX13_turn32_350 : decode cX13_turn32 350 = .ok (.getfield 66, 3) := by decide +kernel
theorem dX13_turn32_353 : decode cX13_turn32 353 = .ok (.iconst 5, 1) := by decide +kernel
theorem dX13_turn32_354 : decode cX13_turn32 354 = .ok (.dup2, 1) := by decide +kernel
theorem dX13_turn32_355 : decode cX13_turn32 355 = .ok (.iaload, 1) := by decide +kernel
theorem dX13_turn32_356 : decode cX13_turn32 356 = .ok (.iload 6, 2) := by decide +kernel
theorem dX13_turn32_358 : decode cX13_turn32 358 = .ok (.iadd, 1) := by decide +kernel
theorem dX13_turn32_359 : decode cX13_turn32 359 = .ok (.iastore, 1) := by decide +kernel
theorem dX13_turn32_360 : decode cX13_turn32 360 = .ok (.aload_n 0, 1) := by decide +kernel
theorem dX13_turn32_361 : decode cX13_turn32 361 = .ok (.getfield 66, 3) := by decide +kernel
theorem dX13_turn32_364 : decode cX13_turn32 364 = .ok (.bipush 6, 2) := by decide +kernel
theorem dX13_turn32_366 : decode cX13_turn32 366 = .ok (.dup2, 1) := by decide +kernel
theorem dX13_turn32_367 : decode cX13_turn32 367 = .ok (.iaload, 1) := by decide +kernel
theorem dX13_turn32_368 : decode cX13_turn32 368 = .ok (.iload 7, 2) := by decide +kernel
theorem dX13_turn32_370 : decode cX13_turn32 370 = .ok (.iadd, 1) := by decide +kernel
theorem dX13_turn32_371 : decode cX13_turn32 371 = .ok (.iastore, 1) := by decide +kernel
theorem dX13_turn32_372 : decode cX13_turn32 372 = .ok (.aload_n 0, 1) := by decide +kernel
theorem dX13_turn32_373 : decode cX13_turn32 373 = .ok (.getfield 66, 3) := by decide +kernel
theorem dX13_turn32_376 : decode cX13_turn32 376 = .ok (.bipush 7, 2) := by decide +kernel
theorem dX13_turn32_378 : decode cX13_turn32 378 = .ok (.dup2, 1) := by decide +kernel
theorem dX13_turn32_379 : decode cX13_turn32 379 = .ok (.iaload, 1) := by decide +kernel
theorem dX13_turn32_380 : decode cX13_turn32 380 = .ok (.iload 8, 2) := by decide +kernel
theorem dX13_turn32_382 : decode cX13_turn32 382 = .ok (.iadd, 1) := by decide +kernel
theorem dX13_turn32_383 : decode cX13_turn32 383 = .ok (.iastore, 1) := by decide +kernel
theorem dX13_turn32_384 : decode cX13_turn32 384 = .ok (.return_, 1) := by decide +kernel
abbrev rmX13_turn32 : Room := { frames := 1, cells := 0, slots := 0, locals := 21 }
set_option maxHeartbeats 4000000 in
set_option maxRecDepth 100000 in
theorem wB_X13_turn32_162 {G : mG} {F : Nat} {x : mXT} {sz : Nat} {M0 : mM} (X : mCX G RX13 cX13_turn32 12 none "turn32" rmX13_turn32 x) (hQ : mQV x M0 (sz, 0, 0)) : ∀ (n : Nat) (l0 : Nat) (l1 : Int32) (l2 : Int32) (l3 : Int32) (l4 : Int32) (l5 : Int32) (l6 : Int32) (l7 : Int32) (l8 : Int32) (l9 : Int32) (M : mM), B_X13_turn32_162 G F n l0 l1 l2 l3 l4 l5 l6 l7 l8 l9 M = some M0 → WW x (sz, 0, 0) M 162 [(0, .ref l0), (1, .int l1), (2, .int l2), (3, .int l3), (4, .int l4), (5, .int l5), (6, .int l6), (7, .int l7), (8, .int l8), (9, .int l9)] [] := by
  intro n
  induction n with
  | zero =>
    intro l0 l1 l2 l3 l4 l5 l6 l7 l8 l9 M h
    exact nomatch (show (none : Option mM) = some M0 from h)
  | succ n ih =>
    intro l0 l1 l2 l3 l4 l5 l6 l7 l8 l9 M h
    rw [B_X13_turn32_162] at h
    refine ww_iload 162 X dX13_turn32_162 9 rfl ?_
    refine ww_bipush 164 X (v := (64 : Int32)) dX13_turn32_164 (by decide) ?_
    refine ww_icmp_ge 166 297 X dX13_turn32_166 (by decide) (fun q => ?_) (fun q => ?_)
    · replace h := (if_pos q).symm.trans h
      refine ww_aload_n 297 X dX13_turn32_297 0 rfl rfl ?_
      obtain ⟨v298, e298, h⟩ := bO_some h
      refine ww_getR 298 X dX13_turn32_298 fG_X13_66 e298 ?_
      refine ww_iconst 301 X (v := (0 : Int32)) dX13_turn32_301 (by decide) ?_
      refine ww_dup2_11 302 X dX13_turn32_302 rfl rfl ?_
      obtain ⟨v303, e303, h⟩ := bO_some h
      refine ww_iald 303 X dX13_turn32_303 e303 ?_
      refine ww_iload_n 304 X dX13_turn32_304 1 rfl rfl ?_
      refine ww_iadd 305 X dX13_turn32_305 ?_
      obtain ⟨M306, e306, h⟩ := bO_some h
      refine ww_iast 306 X dX13_turn32_306 e306 ?_
      refine ww_aload_n 307 X dX13_turn32_307 0 rfl rfl ?_
      obtain ⟨v308, e308, h⟩ := bO_some h
      refine ww_getR 308 X dX13_turn32_308 fG_X13_66 e308 ?_
      refine ww_iconst 311 X (v := (1 : Int32)) dX13_turn32_311 (by decide) ?_
      refine ww_dup2_11 312 X dX13_turn32_312 rfl rfl ?_
      obtain ⟨v313, e313, h⟩ := bO_some h
      refine ww_iald 313 X dX13_turn32_313 e313 ?_
      refine ww_iload_n 314 X dX13_turn32_314 2 rfl rfl ?_
      refine ww_iadd 315 X dX13_turn32_315 ?_
      obtain ⟨M316, e316, h⟩ := bO_some h
      refine ww_iast 316 X dX13_turn32_316 e316 ?_
      refine ww_aload_n 317 X dX13_turn32_317 0 rfl rfl ?_
      obtain ⟨v318, e318, h⟩ := bO_some h
      refine ww_getR 318 X dX13_turn32_318 fG_X13_66 e318 ?_
      refine ww_iconst 321 X (v := (2 : Int32)) dX13_turn32_321 (by decide) ?_
      refine ww_dup2_11 322 X dX13_turn32_322 rfl rfl ?_
      obtain ⟨v323, e323, h⟩ := bO_some h
      refine ww_iald 323 X dX13_turn32_323 e323 ?_
      refine ww_iload_n 324 X dX13_turn32_324 3 rfl rfl ?_
      refine ww_iadd 325 X dX13_turn32_325 ?_
      obtain ⟨M326, e326, h⟩ := bO_some h
      refine ww_iast 326 X dX13_turn32_326 e326 ?_
      refine ww_aload_n 327 X dX13_turn32_327 0 rfl rfl ?_
      obtain ⟨v328, e328, h⟩ := bO_some h
      refine ww_getR 328 X dX13_turn32_328 fG_X13_66 e328 ?_
      refine ww_iconst 331 X (v := (3 : Int32)) dX13_turn32_331 (by decide) ?_
      refine ww_dup2_11 332 X dX13_turn32_332 rfl rfl ?_
      obtain ⟨v333, e333, h⟩ := bO_some h
      refine ww_iald 333 X dX13_turn32_333 e333 ?_
      refine ww_iload 334 X dX13_turn32_334 4 rfl ?_
      refine ww_iadd 336 X dX13_turn32_336 ?_
      obtain ⟨M337, e337, h⟩ := bO_some h
      refine ww_iast 337 X dX13_turn32_337 e337 ?_
      refine ww_aload_n 338 X dX13_turn32_338 0 rfl rfl ?_
      obtain ⟨v339, e339, h⟩ := bO_some h
      refine ww_getR 339 X dX13_turn32_339 fG_X13_66 e339 ?_
      refine ww_iconst 342 X (v := (4 : Int32)) dX13_turn32_342 (by decide) ?_
      refine ww_dup2_11 343 X dX13_turn32_343 rfl rfl ?_
      obtain ⟨v344, e344, h⟩ := bO_some h
      refine ww_iald 344 X dX13_turn32_344 e344 ?_
      refine ww_iload 345 X dX13_turn32_345 5 rfl ?_
      refine ww_iadd 347 X dX13_turn32_347 ?_
      obtain ⟨M348, e348, h⟩ := bO_some h
      refine ww_iast 348 X dX13_turn32_348 e348 ?_
      refine ww_aload_n 349 X dX13_turn32_349 0 rfl rfl ?_
      obtain ⟨v350, e350, h⟩ := bO_some h
      refine ww_getR 350 X dX13_turn32_350 fG_X13_66 e350 ?_
      refine ww_iconst 353 X (v := (5 : Int32)) dX13_turn32_353 (by decide) ?_
      refine ww_dup2_11 354 X dX13_turn32_354 rfl rfl ?_
      obtain ⟨v355, e355, h⟩ := bO_some h
      refine ww_iald 355 X dX13_turn32_355 e355 ?_
      refine ww_iload 356 X dX13_turn32_356 6 rfl ?_
      refine ww_iadd 358 X dX13_turn32_358 ?_
      obtain ⟨M359, e359, h⟩ := bO_some h
      refine ww_iast 359 X dX13_turn32_359 e359 ?_
      refine ww_aload_n 360 X dX13_turn32_360 0 rfl rfl ?_
      obtain ⟨v361, e361, h⟩ := bO_some h
      refine ww_getR 361 X dX13_turn32_361 fG_X13_66 e361 ?_
      refine ww_bipush 364 X (v := (6 : Int32)) dX13_turn32_364 (by decide) ?_
      refine ww_dup2_11 366 X dX13_turn32_366 rfl rfl ?_
      obtain ⟨v367, e367, h⟩ := bO_some h
      refine ww_iald 367 X dX13_turn32_367 e367 ?_
      refine ww_iload 368 X dX13_turn32_368 7 rfl ?_
      refine ww_iadd 370 X dX13_turn32_370 ?_
      obtain ⟨M371, e371, h⟩ := bO_some h
      refine ww_iast 371 X dX13_turn32_371 e371 ?_
      refine ww_aload_n 372 X dX13_turn32_372 0 rfl rfl ?_
      obtain ⟨v373, e373, h⟩ := bO_some h
      refine ww_getR 373 X dX13_turn32_373 fG_X13_66 e373 ?_
      refine ww_bipush 376 X (v := (7 : Int32)) dX13_turn32_376 (by decide) ?_
      refine ww_dup2_11 378 X dX13_turn32_378 rfl rfl ?_
      obtain ⟨v379, e379, h⟩ := bO_some h
      refine ww_iald 379 X dX13_turn32_379 e379 ?_
      refine ww_iload 380 X dX13_turn32_380 8 rfl ?_
      refine ww_iadd 382 X dX13_turn32_382 ?_
      obtain ⟨M383, e383, h⟩ := bO_some h
      refine ww_iast 383 X dX13_turn32_383 e383 ?_
      exact ww_vretE 384 X hQ dX13_turn32_384 h
    · replace h := (if_neg q).symm.trans h
      refine ww_iload 169 X dX13_turn32_169 8 rfl ?_
      refine ww_iload 171 X dX13_turn32_171 5 rfl ?_
      refine ww_bipush 173 X (v := (6 : Int32)) dX13_turn32_173 (by decide) ?_
      obtain ⟨v175, M175, e175, h⟩ := bP_some h
      refine ww_callSI0 175 X dX13_turn32_175 mY_X13_right mL_X13_551 (As := [.int l5, .int (6 : Int32)]) (rest := [.int l8]) rfl rfl ⟨Nat.le_of_ble_eq_true rfl, Nat.le_of_ble_eq_true rfl⟩ (Nat.le_of_ble_eq_true rfl) (fun l D A => c_X13_right l D A e175) ?_
      refine ww_iload 178 X dX13_turn32_178 5 rfl ?_
      refine ww_bipush 180 X (v := (11 : Int32)) dX13_turn32_180 (by decide) ?_
      obtain ⟨v182, M182, e182, h⟩ := bP_some h
      refine ww_callSI0 182 X dX13_turn32_182 mY_X13_right mL_X13_551 (As := [.int l5, .int (11 : Int32)]) (rest := [.int v175, .int l8]) rfl rfl ⟨Nat.le_of_ble_eq_true rfl, Nat.le_of_ble_eq_true rfl⟩ (Nat.le_of_ble_eq_true rfl) (fun l D A => c_X13_right l D A e182) ?_
      refine ww_ixor 185 X dX13_turn32_185 ?_
      refine ww_iload 186 X dX13_turn32_186 5 rfl ?_
      refine ww_bipush 188 X (v := (25 : Int32)) dX13_turn32_188 (by decide) ?_
      obtain ⟨v190, M190, e190, h⟩ := bP_some h
      refine ww_callSI0 190 X dX13_turn32_190 mY_X13_right mL_X13_551 (As := [.int l5, .int (25 : Int32)]) (rest := [.int (v175 ^^^ v182), .int l8]) rfl rfl ⟨Nat.le_of_ble_eq_true rfl, Nat.le_of_ble_eq_true rfl⟩ (Nat.le_of_ble_eq_true rfl) (fun l D A => c_X13_right l D A e190) ?_
      refine ww_ixor 193 X dX13_turn32_193 ?_
      refine ww_iadd 194 X dX13_turn32_194 ?_
      refine ww_iload 195 X dX13_turn32_195 5 rfl ?_
      refine ww_iload 197 X dX13_turn32_197 6 rfl ?_
      refine ww_iand 199 X dX13_turn32_199 ?_
      refine ww_iload 200 X dX13_turn32_200 5 rfl ?_
      refine ww_iconst 202 X (v := (-1 : Int32)) dX13_turn32_202 (by decide) ?_
      refine ww_ixor 203 X dX13_turn32_203 ?_
      refine ww_iload 204 X dX13_turn32_204 7 rfl ?_
      refine ww_iand 206 X dX13_turn32_206 ?_
      refine ww_ixor 207 X dX13_turn32_207 ?_
      refine ww_iadd 208 X dX13_turn32_208 ?_
      refine ww_gets 209 X dX13_turn32_209 gS_X13_555 ?_
      refine ww_iload 212 X dX13_turn32_212 9 rfl ?_
      obtain ⟨v214, e214, h⟩ := bO_some h
      refine ww_iald 214 X dX13_turn32_214 e214 ?_
      refine ww_iadd 215 X dX13_turn32_215 ?_
      refine ww_aload_n 216 X dX13_turn32_216 0 rfl rfl ?_
      obtain ⟨v217, e217, h⟩ := bO_some h
      refine ww_getR 217 X dX13_turn32_217 fG_X13_63 e217 ?_
      refine ww_iload 220 X dX13_turn32_220 9 rfl ?_
      obtain ⟨v222, e222, h⟩ := bO_some h
      refine ww_iald 222 X dX13_turn32_222 e222 ?_
      refine ww_iadd 223 X dX13_turn32_223 ?_
      refine ww_istore 224 X dX13_turn32_224 (lv' := [(0, .ref l0), (1, .int l1), (2, .int l2), (3, .int l3), (4, .int l4), (5, .int l5), (6, .int l6), (7, .int l7), (8, .int l8), (9, .int l9), (10, .int ((((l8 + ((v175 ^^^ v182) ^^^ v190)) + ((l5 &&& l6) ^^^ ((l5 ^^^ (-1 : Int32)) &&& l7))) + v214) + v222))]) (by decide) [1, 2, 3, 4, 5, 6, 7, 8, 9, 10, 0] rfl ?_
      refine ww_iload_n 226 X dX13_turn32_226 1 rfl rfl ?_
      refine ww_iconst 227 X (v := (2 : Int32)) dX13_turn32_227 (by decide) ?_
      obtain ⟨v228, M228, e228, h⟩ := bP_some h
      refine ww_callSI0 228 X dX13_turn32_228 mY_X13_right mL_X13_551 (As := [.int l1, .int (2 : Int32)]) (rest := []) rfl rfl ⟨Nat.le_of_ble_eq_true rfl, Nat.le_of_ble_eq_true rfl⟩ (Nat.le_of_ble_eq_true rfl) (fun l D A => c_X13_right l D A e228) ?_
      refine ww_iload_n 231 X dX13_turn32_231 1 rfl rfl ?_
      refine ww_bipush 232 X (v := (13 : Int32)) dX13_turn32_232 (by decide) ?_
      obtain ⟨v234, M234, e234, h⟩ := bP_some h
      refine ww_callSI0 234 X dX13_turn32_234 mY_X13_right mL_X13_551 (As := [.int l1, .int (13 : Int32)]) (rest := [.int v228]) rfl rfl ⟨Nat.le_of_ble_eq_true rfl, Nat.le_of_ble_eq_true rfl⟩ (Nat.le_of_ble_eq_true rfl) (fun l D A => c_X13_right l D A e234) ?_
      refine ww_ixor 237 X dX13_turn32_237 ?_
      refine ww_iload_n 238 X dX13_turn32_238 1 rfl rfl ?_
      refine ww_bipush 239 X (v := (22 : Int32)) dX13_turn32_239 (by decide) ?_
      obtain ⟨v241, M241, e241, h⟩ := bP_some h
      refine ww_callSI0 241 X dX13_turn32_241 mY_X13_right mL_X13_551 (As := [.int l1, .int (22 : Int32)]) (rest := [.int (v228 ^^^ v234)]) rfl rfl ⟨Nat.le_of_ble_eq_true rfl, Nat.le_of_ble_eq_true rfl⟩ (Nat.le_of_ble_eq_true rfl) (fun l D A => c_X13_right l D A e241) ?_
      refine ww_ixor 244 X dX13_turn32_244 ?_
      refine ww_iload_n 245 X dX13_turn32_245 1 rfl rfl ?_
      refine ww_iload_n 246 X dX13_turn32_246 2 rfl rfl ?_
      refine ww_iand 247 X dX13_turn32_247 ?_
      refine ww_iload_n 248 X dX13_turn32_248 1 rfl rfl ?_
      refine ww_iload_n 249 X dX13_turn32_249 3 rfl rfl ?_
      refine ww_iand 250 X dX13_turn32_250 ?_
      refine ww_ixor 251 X dX13_turn32_251 ?_
      refine ww_iload_n 252 X dX13_turn32_252 2 rfl rfl ?_
      refine ww_iload_n 253 X dX13_turn32_253 3 rfl rfl ?_
      refine ww_iand 254 X dX13_turn32_254 ?_
      refine ww_ixor 255 X dX13_turn32_255 ?_
      refine ww_iadd 256 X dX13_turn32_256 ?_
      refine ww_istore 257 X dX13_turn32_257 (lv' := [(0, .ref l0), (1, .int l1), (2, .int l2), (3, .int l3), (4, .int l4), (5, .int l5), (6, .int l6), (7, .int l7), (8, .int l8), (9, .int l9), (10, .int ((((l8 + ((v175 ^^^ v182) ^^^ v190)) + ((l5 &&& l6) ^^^ ((l5 ^^^ (-1 : Int32)) &&& l7))) + v214) + v222)), (11, .int (((v228 ^^^ v234) ^^^ v241) + (((l1 &&& l2) ^^^ (l1 &&& l3)) ^^^ (l2 &&& l3))))]) (by decide) [1, 2, 3, 4, 5, 6, 7, 8, 9, 10, 11, 0] rfl ?_
      refine ww_iload 259 X dX13_turn32_259 7 rfl ?_
      refine ww_istore 261 X dX13_turn32_261 (lv' := [(0, .ref l0), (1, .int l1), (2, .int l2), (3, .int l3), (4, .int l4), (5, .int l5), (6, .int l6), (7, .int l7), (8, .int l7), (9, .int l9), (10, .int ((((l8 + ((v175 ^^^ v182) ^^^ v190)) + ((l5 &&& l6) ^^^ ((l5 ^^^ (-1 : Int32)) &&& l7))) + v214) + v222)), (11, .int (((v228 ^^^ v234) ^^^ v241) + (((l1 &&& l2) ^^^ (l1 &&& l3)) ^^^ (l2 &&& l3))))]) (by decide) [1, 2, 3, 4, 5, 6, 7, 8, 0, 9, 10, 11] rfl ?_
      refine ww_iload 263 X dX13_turn32_263 6 rfl ?_
      refine ww_istore 265 X dX13_turn32_265 (lv' := [(0, .ref l0), (1, .int l1), (2, .int l2), (3, .int l3), (4, .int l4), (5, .int l5), (6, .int l6), (7, .int l6), (8, .int l7), (9, .int l9), (10, .int ((((l8 + ((v175 ^^^ v182) ^^^ v190)) + ((l5 &&& l6) ^^^ ((l5 ^^^ (-1 : Int32)) &&& l7))) + v214) + v222)), (11, .int (((v228 ^^^ v234) ^^^ v241) + (((l1 &&& l2) ^^^ (l1 &&& l3)) ^^^ (l2 &&& l3))))]) (by decide) [1, 2, 3, 4, 5, 6, 7, 0, 8, 9, 10, 11] rfl ?_
      refine ww_iload 267 X dX13_turn32_267 5 rfl ?_
      refine ww_istore 269 X dX13_turn32_269 (lv' := [(0, .ref l0), (1, .int l1), (2, .int l2), (3, .int l3), (4, .int l4), (5, .int l5), (6, .int l5), (7, .int l6), (8, .int l7), (9, .int l9), (10, .int ((((l8 + ((v175 ^^^ v182) ^^^ v190)) + ((l5 &&& l6) ^^^ ((l5 ^^^ (-1 : Int32)) &&& l7))) + v214) + v222)), (11, .int (((v228 ^^^ v234) ^^^ v241) + (((l1 &&& l2) ^^^ (l1 &&& l3)) ^^^ (l2 &&& l3))))]) (by decide) [1, 2, 3, 4, 5, 6, 0, 7, 8, 9, 10, 11] rfl ?_
      refine ww_iload 271 X dX13_turn32_271 4 rfl ?_
      refine ww_iload 273 X dX13_turn32_273 10 rfl ?_
      refine ww_iadd 275 X dX13_turn32_275 ?_
      refine ww_istore 276 X dX13_turn32_276 (lv' := [(0, .ref l0), (1, .int l1), (2, .int l2), (3, .int l3), (4, .int l4), (5, .int (l4 + ((((l8 + ((v175 ^^^ v182) ^^^ v190)) + ((l5 &&& l6) ^^^ ((l5 ^^^ (-1 : Int32)) &&& l7))) + v214) + v222))), (6, .int l5), (7, .int l6), (8, .int l7), (9, .int l9), (10, .int ((((l8 + ((v175 ^^^ v182) ^^^ v190)) + ((l5 &&& l6) ^^^ ((l5 ^^^ (-1 : Int32)) &&& l7))) + v214) + v222)), (11, .int (((v228 ^^^ v234) ^^^ v241) + (((l1 &&& l2) ^^^ (l1 &&& l3)) ^^^ (l2 &&& l3))))]) (by decide) [1, 2, 3, 4, 5, 0, 6, 7, 8, 9, 10, 11] rfl ?_
      refine ww_iload_n 278 X dX13_turn32_278 3 rfl rfl ?_
      refine ww_istore 279 X dX13_turn32_279 (lv' := [(0, .ref l0), (1, .int l1), (2, .int l2), (3, .int l3), (4, .int l3), (5, .int (l4 + ((((l8 + ((v175 ^^^ v182) ^^^ v190)) + ((l5 &&& l6) ^^^ ((l5 ^^^ (-1 : Int32)) &&& l7))) + v214) + v222))), (6, .int l5), (7, .int l6), (8, .int l7), (9, .int l9), (10, .int ((((l8 + ((v175 ^^^ v182) ^^^ v190)) + ((l5 &&& l6) ^^^ ((l5 ^^^ (-1 : Int32)) &&& l7))) + v214) + v222)), (11, .int (((v228 ^^^ v234) ^^^ v241) + (((l1 &&& l2) ^^^ (l1 &&& l3)) ^^^ (l2 &&& l3))))]) (by decide) [1, 2, 3, 4, 0, 5, 6, 7, 8, 9, 10, 11] rfl ?_
      refine ww_iload_n 281 X dX13_turn32_281 2 rfl rfl ?_
      refine ww_istore_n 282 X dX13_turn32_282 (lv' := [(0, .ref l0), (1, .int l1), (2, .int l2), (3, .int l2), (4, .int l3), (5, .int (l4 + ((((l8 + ((v175 ^^^ v182) ^^^ v190)) + ((l5 &&& l6) ^^^ ((l5 ^^^ (-1 : Int32)) &&& l7))) + v214) + v222))), (6, .int l5), (7, .int l6), (8, .int l7), (9, .int l9), (10, .int ((((l8 + ((v175 ^^^ v182) ^^^ v190)) + ((l5 &&& l6) ^^^ ((l5 ^^^ (-1 : Int32)) &&& l7))) + v214) + v222)), (11, .int (((v228 ^^^ v234) ^^^ v241) + (((l1 &&& l2) ^^^ (l1 &&& l3)) ^^^ (l2 &&& l3))))]) rfl (by decide) [1, 2, 3, 0, 4, 5, 6, 7, 8, 9, 10, 11] rfl ?_
      refine ww_iload_n 283 X dX13_turn32_283 1 rfl rfl ?_
      refine ww_istore_n 284 X dX13_turn32_284 (lv' := [(0, .ref l0), (1, .int l1), (2, .int l1), (3, .int l2), (4, .int l3), (5, .int (l4 + ((((l8 + ((v175 ^^^ v182) ^^^ v190)) + ((l5 &&& l6) ^^^ ((l5 ^^^ (-1 : Int32)) &&& l7))) + v214) + v222))), (6, .int l5), (7, .int l6), (8, .int l7), (9, .int l9), (10, .int ((((l8 + ((v175 ^^^ v182) ^^^ v190)) + ((l5 &&& l6) ^^^ ((l5 ^^^ (-1 : Int32)) &&& l7))) + v214) + v222)), (11, .int (((v228 ^^^ v234) ^^^ v241) + (((l1 &&& l2) ^^^ (l1 &&& l3)) ^^^ (l2 &&& l3))))]) rfl (by decide) [1, 2, 0, 3, 4, 5, 6, 7, 8, 9, 10, 11] rfl ?_
      refine ww_iload 285 X dX13_turn32_285 10 rfl ?_
      refine ww_iload 287 X dX13_turn32_287 11 rfl ?_
      refine ww_iadd 289 X dX13_turn32_289 ?_
      refine ww_istore_n 290 X dX13_turn32_290 (lv' := [(0, .ref l0), (1, .int (((((l8 + ((v175 ^^^ v182) ^^^ v190)) + ((l5 &&& l6) ^^^ ((l5 ^^^ (-1 : Int32)) &&& l7))) + v214) + v222) + (((v228 ^^^ v234) ^^^ v241) + (((l1 &&& l2) ^^^ (l1 &&& l3)) ^^^ (l2 &&& l3))))), (2, .int l1), (3, .int l2), (4, .int l3), (5, .int (l4 + ((((l8 + ((v175 ^^^ v182) ^^^ v190)) + ((l5 &&& l6) ^^^ ((l5 ^^^ (-1 : Int32)) &&& l7))) + v214) + v222))), (6, .int l5), (7, .int l6), (8, .int l7), (9, .int l9), (10, .int ((((l8 + ((v175 ^^^ v182) ^^^ v190)) + ((l5 &&& l6) ^^^ ((l5 ^^^ (-1 : Int32)) &&& l7))) + v214) + v222)), (11, .int (((v228 ^^^ v234) ^^^ v241) + (((l1 &&& l2) ^^^ (l1 &&& l3)) ^^^ (l2 &&& l3))))]) rfl (by decide) [1, 0, 2, 3, 4, 5, 6, 7, 8, 9, 10, 11] rfl ?_
      refine ww_iinc 291 X dX13_turn32_291 (lv' := [(0, .ref l0), (1, .int (((((l8 + ((v175 ^^^ v182) ^^^ v190)) + ((l5 &&& l6) ^^^ ((l5 ^^^ (-1 : Int32)) &&& l7))) + v214) + v222) + (((v228 ^^^ v234) ^^^ v241) + (((l1 &&& l2) ^^^ (l1 &&& l3)) ^^^ (l2 &&& l3))))), (2, .int l1), (3, .int l2), (4, .int l3), (5, .int (l4 + ((((l8 + ((v175 ^^^ v182) ^^^ v190)) + ((l5 &&& l6) ^^^ ((l5 ^^^ (-1 : Int32)) &&& l7))) + v214) + v222))), (6, .int l5), (7, .int l6), (8, .int l7), (9, .int (l9 + 1)), (10, .int ((((l8 + ((v175 ^^^ v182) ^^^ v190)) + ((l5 &&& l6) ^^^ ((l5 ^^^ (-1 : Int32)) &&& l7))) + v214) + v222)), (11, .int (((v228 ^^^ v234) ^^^ v241) + (((l1 &&& l2) ^^^ (l1 &&& l3)) ^^^ (l2 &&& l3))))]) 9 rfl rfl (by decide) [1, 2, 3, 4, 5, 6, 7, 8, 9, 0, 10, 11] rfl ?_
      refine ww_goto 294 162 X dX13_turn32_294 (by decide) ?_
      exact ww_sub [0, 1, 2, 3, 4, 5, 6, 7, 8, 9] rfl (ih _ _ _ _ _ _ _ _ _ _ _ h)
set_option maxHeartbeats 4000000 in
set_option maxRecDepth 100000 in
theorem wB_X13_turn32_3 {G : mG} {F : Nat} {x : mXT} {sz : Nat} {M0 : mM} (X : mCX G RX13 cX13_turn32 12 none "turn32" rmX13_turn32 x) (hQ : mQV x M0 (sz, 0, 0)) : ∀ (n : Nat) (l0 : Nat) (l1 : Int32) (M : mM), B_X13_turn32_3 G F n l0 l1 M = some M0 → WW x (sz, 0, 0) M 3 [(0, .ref l0), (1, .int l1)] [] := by
  intro n
  induction n with
  | zero =>
    intro l0 l1 M h
    exact nomatch (show (none : Option mM) = some M0 from h)
  | succ n ih =>
    intro l0 l1 M h
    rw [B_X13_turn32_3] at h
    refine ww_iload_n 3 X dX13_turn32_3 1 rfl rfl ?_
    refine ww_bipush 4 X (v := (64 : Int32)) dX13_turn32_4 (by decide) ?_
    refine ww_icmp_ge 6 96 X dX13_turn32_6 (by decide) (fun q => ?_) (fun q => ?_)
    · replace h := (if_pos q).symm.trans h
      refine ww_aload_n 96 X dX13_turn32_96 0 rfl rfl ?_
      obtain ⟨v97, e97, h⟩ := bO_some h
      refine ww_getR 97 X dX13_turn32_97 fG_X13_66 e97 ?_
      refine ww_iconst 100 X (v := (0 : Int32)) dX13_turn32_100 (by decide) ?_
      obtain ⟨v101, e101, h⟩ := bO_some h
      refine ww_iald 101 X dX13_turn32_101 e101 ?_
      refine ww_istore_n 102 X dX13_turn32_102 (lv' := [(0, .ref l0), (1, .int v101)]) rfl (by decide) [1, 0] rfl ?_
      refine ww_aload_n 103 X dX13_turn32_103 0 rfl rfl ?_
      obtain ⟨v104, e104, h⟩ := bO_some h
      refine ww_getR 104 X dX13_turn32_104 fG_X13_66 e104 ?_
      refine ww_iconst 107 X (v := (1 : Int32)) dX13_turn32_107 (by decide) ?_
      obtain ⟨v108, e108, h⟩ := bO_some h
      refine ww_iald 108 X dX13_turn32_108 e108 ?_
      refine ww_istore_n 109 X dX13_turn32_109 (lv' := [(0, .ref l0), (1, .int v101), (2, .int v108)]) rfl (by decide) [1, 2, 0] rfl ?_
      refine ww_aload_n 110 X dX13_turn32_110 0 rfl rfl ?_
      obtain ⟨v111, e111, h⟩ := bO_some h
      refine ww_getR 111 X dX13_turn32_111 fG_X13_66 e111 ?_
      refine ww_iconst 114 X (v := (2 : Int32)) dX13_turn32_114 (by decide) ?_
      obtain ⟨v115, e115, h⟩ := bO_some h
      refine ww_iald 115 X dX13_turn32_115 e115 ?_
      refine ww_istore_n 116 X dX13_turn32_116 (lv' := [(0, .ref l0), (1, .int v101), (2, .int v108), (3, .int v115)]) rfl (by decide) [1, 2, 3, 0] rfl ?_
      refine ww_aload_n 117 X dX13_turn32_117 0 rfl rfl ?_
      obtain ⟨v118, e118, h⟩ := bO_some h
      refine ww_getR 118 X dX13_turn32_118 fG_X13_66 e118 ?_
      refine ww_iconst 121 X (v := (3 : Int32)) dX13_turn32_121 (by decide) ?_
      obtain ⟨v122, e122, h⟩ := bO_some h
      refine ww_iald 122 X dX13_turn32_122 e122 ?_
      refine ww_istore 123 X dX13_turn32_123 (lv' := [(0, .ref l0), (1, .int v101), (2, .int v108), (3, .int v115), (4, .int v122)]) (by decide) [1, 2, 3, 4, 0] rfl ?_
      refine ww_aload_n 125 X dX13_turn32_125 0 rfl rfl ?_
      obtain ⟨v126, e126, h⟩ := bO_some h
      refine ww_getR 126 X dX13_turn32_126 fG_X13_66 e126 ?_
      refine ww_iconst 129 X (v := (4 : Int32)) dX13_turn32_129 (by decide) ?_
      obtain ⟨v130, e130, h⟩ := bO_some h
      refine ww_iald 130 X dX13_turn32_130 e130 ?_
      refine ww_istore 131 X dX13_turn32_131 (lv' := [(0, .ref l0), (1, .int v101), (2, .int v108), (3, .int v115), (4, .int v122), (5, .int v130)]) (by decide) [1, 2, 3, 4, 5, 0] rfl ?_
      refine ww_aload_n 133 X dX13_turn32_133 0 rfl rfl ?_
      obtain ⟨v134, e134, h⟩ := bO_some h
      refine ww_getR 134 X dX13_turn32_134 fG_X13_66 e134 ?_
      refine ww_iconst 137 X (v := (5 : Int32)) dX13_turn32_137 (by decide) ?_
      obtain ⟨v138, e138, h⟩ := bO_some h
      refine ww_iald 138 X dX13_turn32_138 e138 ?_
      refine ww_istore 139 X dX13_turn32_139 (lv' := [(0, .ref l0), (1, .int v101), (2, .int v108), (3, .int v115), (4, .int v122), (5, .int v130), (6, .int v138)]) (by decide) [1, 2, 3, 4, 5, 6, 0] rfl ?_
      refine ww_aload_n 141 X dX13_turn32_141 0 rfl rfl ?_
      obtain ⟨v142, e142, h⟩ := bO_some h
      refine ww_getR 142 X dX13_turn32_142 fG_X13_66 e142 ?_
      refine ww_bipush 145 X (v := (6 : Int32)) dX13_turn32_145 (by decide) ?_
      obtain ⟨v147, e147, h⟩ := bO_some h
      refine ww_iald 147 X dX13_turn32_147 e147 ?_
      refine ww_istore 148 X dX13_turn32_148 (lv' := [(0, .ref l0), (1, .int v101), (2, .int v108), (3, .int v115), (4, .int v122), (5, .int v130), (6, .int v138), (7, .int v147)]) (by decide) [1, 2, 3, 4, 5, 6, 7, 0] rfl ?_
      refine ww_aload_n 150 X dX13_turn32_150 0 rfl rfl ?_
      obtain ⟨v151, e151, h⟩ := bO_some h
      refine ww_getR 151 X dX13_turn32_151 fG_X13_66 e151 ?_
      refine ww_bipush 154 X (v := (7 : Int32)) dX13_turn32_154 (by decide) ?_
      obtain ⟨v156, e156, h⟩ := bO_some h
      refine ww_iald 156 X dX13_turn32_156 e156 ?_
      refine ww_istore 157 X dX13_turn32_157 (lv' := [(0, .ref l0), (1, .int v101), (2, .int v108), (3, .int v115), (4, .int v122), (5, .int v130), (6, .int v138), (7, .int v147), (8, .int v156)]) (by decide) [1, 2, 3, 4, 5, 6, 7, 8, 0] rfl ?_
      refine ww_iconst 159 X (v := (0 : Int32)) dX13_turn32_159 (by decide) ?_
      refine ww_istore 160 X dX13_turn32_160 (lv' := [(0, .ref l0), (1, .int v101), (2, .int v108), (3, .int v115), (4, .int v122), (5, .int v130), (6, .int v138), (7, .int v147), (8, .int v156), (9, .int (0 : Int32))]) (by decide) [1, 2, 3, 4, 5, 6, 7, 8, 9, 0] rfl ?_
      exact (wB_X13_turn32_162 X hQ F _ _ _ _ _ _ _ _ _ _ _ h)
    · replace h := (if_neg q).symm.trans h
      refine ww_aload_n 9 X dX13_turn32_9 0 rfl rfl ?_
      obtain ⟨v10, e10, h⟩ := bO_some h
      refine ww_getR 10 X dX13_turn32_10 fG_X13_63 e10 ?_
      refine ww_iload_n 13 X dX13_turn32_13 1 rfl rfl ?_
      refine ww_bipush 14 X (v := (15 : Int32)) dX13_turn32_14 (by decide) ?_
      refine ww_isub 16 X dX13_turn32_16 ?_
      obtain ⟨v17, e17, h⟩ := bO_some h
      refine ww_iald 17 X dX13_turn32_17 e17 ?_
      refine ww_istore_n 18 X dX13_turn32_18 (lv' := [(0, .ref l0), (1, .int l1), (2, .int v17)]) rfl (by decide) [1, 2, 0] rfl ?_
      refine ww_aload_n 19 X dX13_turn32_19 0 rfl rfl ?_
      obtain ⟨v20, e20, h⟩ := bO_some h
      refine ww_getR 20 X dX13_turn32_20 fG_X13_63 e20 ?_
      refine ww_iload_n 23 X dX13_turn32_23 1 rfl rfl ?_
      refine ww_iconst 24 X (v := (2 : Int32)) dX13_turn32_24 (by decide) ?_
      refine ww_isub 25 X dX13_turn32_25 ?_
      obtain ⟨v26, e26, h⟩ := bO_some h
      refine ww_iald 26 X dX13_turn32_26 e26 ?_
      refine ww_istore_n 27 X dX13_turn32_27 (lv' := [(0, .ref l0), (1, .int l1), (2, .int v17), (3, .int v26)]) rfl (by decide) [1, 2, 3, 0] rfl ?_
      refine ww_aload_n 28 X dX13_turn32_28 0 rfl rfl ?_
      obtain ⟨v29, e29, h⟩ := bO_some h
      refine ww_getR 29 X dX13_turn32_29 fG_X13_63 e29 ?_
      refine ww_iload_n 32 X dX13_turn32_32 1 rfl rfl ?_
      refine ww_aload_n 33 X dX13_turn32_33 0 rfl rfl ?_
      obtain ⟨v34, e34, h⟩ := bO_some h
      refine ww_getR 34 X dX13_turn32_34 fG_X13_63 e34 ?_
      refine ww_iload_n 37 X dX13_turn32_37 1 rfl rfl ?_
      refine ww_bipush 38 X (v := (16 : Int32)) dX13_turn32_38 (by decide) ?_
      refine ww_isub 40 X dX13_turn32_40 ?_
      obtain ⟨v41, e41, h⟩ := bO_some h
      refine ww_iald 41 X dX13_turn32_41 e41 ?_
      refine ww_iload_n 42 X dX13_turn32_42 2 rfl rfl ?_
      refine ww_bipush 43 X (v := (7 : Int32)) dX13_turn32_43 (by decide) ?_
      obtain ⟨v45, M45, e45, h⟩ := bP_some h
      refine ww_callSI0 45 X dX13_turn32_45 mY_X13_right mL_X13_551 (As := [.int v17, .int (7 : Int32)]) (rest := [.int v41, .int l1, .ref v29]) rfl rfl ⟨Nat.le_of_ble_eq_true rfl, Nat.le_of_ble_eq_true rfl⟩ (Nat.le_of_ble_eq_true rfl) (fun l D A => c_X13_right l D A e45) ?_
      refine ww_iload_n 48 X dX13_turn32_48 2 rfl rfl ?_
      refine ww_bipush 49 X (v := (18 : Int32)) dX13_turn32_49 (by decide) ?_
      obtain ⟨v51, M51, e51, h⟩ := bP_some h
      refine ww_callSI0 51 X dX13_turn32_51 mY_X13_right mL_X13_551 (As := [.int v17, .int (18 : Int32)]) (rest := [.int v45, .int v41, .int l1, .ref v29]) rfl rfl ⟨Nat.le_of_ble_eq_true rfl, Nat.le_of_ble_eq_true rfl⟩ (Nat.le_of_ble_eq_true rfl) (fun l D A => c_X13_right l D A e51) ?_
      refine ww_ixor 54 X dX13_turn32_54 ?_
      refine ww_iload_n 55 X dX13_turn32_55 2 rfl rfl ?_
      refine ww_iconst 56 X (v := (3 : Int32)) dX13_turn32_56 (by decide) ?_
      refine ww_iushr 57 X dX13_turn32_57 ?_
      refine ww_ixor 58 X dX13_turn32_58 ?_
      refine ww_iadd 59 X dX13_turn32_59 ?_
      refine ww_aload_n 60 X dX13_turn32_60 0 rfl rfl ?_
      obtain ⟨v61, e61, h⟩ := bO_some h
      refine ww_getR 61 X dX13_turn32_61 fG_X13_63 e61 ?_
      refine ww_iload_n 64 X dX13_turn32_64 1 rfl rfl ?_
      refine ww_bipush 65 X (v := (7 : Int32)) dX13_turn32_65 (by decide) ?_
      refine ww_isub 67 X dX13_turn32_67 ?_
      obtain ⟨v68, e68, h⟩ := bO_some h
      refine ww_iald 68 X dX13_turn32_68 e68 ?_
      refine ww_iadd 69 X dX13_turn32_69 ?_
      refine ww_iload_n 70 X dX13_turn32_70 3 rfl rfl ?_
      refine ww_bipush 71 X (v := (17 : Int32)) dX13_turn32_71 (by decide) ?_
      obtain ⟨v73, M73, e73, h⟩ := bP_some h
      refine ww_callSI0 73 X dX13_turn32_73 mY_X13_right mL_X13_551 (As := [.int v26, .int (17 : Int32)]) (rest := [.int ((v41 + ((v45 ^^^ v51) ^^^ (ushI v17 (3 : Int32)))) + v68), .int l1, .ref v29]) rfl rfl ⟨Nat.le_of_ble_eq_true rfl, Nat.le_of_ble_eq_true rfl⟩ (Nat.le_of_ble_eq_true rfl) (fun l D A => c_X13_right l D A e73) ?_
      refine ww_iload_n 76 X dX13_turn32_76 3 rfl rfl ?_
      refine ww_bipush 77 X (v := (19 : Int32)) dX13_turn32_77 (by decide) ?_
      obtain ⟨v79, M79, e79, h⟩ := bP_some h
      refine ww_callSI0 79 X dX13_turn32_79 mY_X13_right mL_X13_551 (As := [.int v26, .int (19 : Int32)]) (rest := [.int v73, .int ((v41 + ((v45 ^^^ v51) ^^^ (ushI v17 (3 : Int32)))) + v68), .int l1, .ref v29]) rfl rfl ⟨Nat.le_of_ble_eq_true rfl, Nat.le_of_ble_eq_true rfl⟩ (Nat.le_of_ble_eq_true rfl) (fun l D A => c_X13_right l D A e79) ?_
      refine ww_ixor 82 X dX13_turn32_82 ?_
      refine ww_iload_n 83 X dX13_turn32_83 3 rfl rfl ?_
      refine ww_bipush 84 X (v := (10 : Int32)) dX13_turn32_84 (by decide) ?_
      refine ww_iushr 86 X dX13_turn32_86 ?_
      refine ww_ixor 87 X dX13_turn32_87 ?_
      refine ww_iadd 88 X dX13_turn32_88 ?_
      obtain ⟨M89, e89, h⟩ := bO_some h
      refine ww_iast 89 X dX13_turn32_89 e89 ?_
      refine ww_iinc 90 X dX13_turn32_90 (lv' := [(0, .ref l0), (1, .int (l1 + 1)), (2, .int v17), (3, .int v26)]) 1 rfl rfl (by decide) [1, 0, 2, 3] rfl ?_
      refine ww_goto 93 3 X dX13_turn32_93 (by decide) ?_
      exact ww_sub [0, 1] rfl (ih _ _ _ h)
set_option maxHeartbeats 4000000 in
set_option maxRecDepth 100000 in
theorem wP_X13_turn32 {G : mG} {F : Nat} {x : mXT} {sz : Nat} {M0 : mM} (X : mCX G RX13 cX13_turn32 12 none "turn32" rmX13_turn32 x) (hQ : mQV x M0 (sz, 0, 0)) {l0 : Nat} {M : mM} (h : P_X13_turn32 G F l0 M = some M0) : WW x (sz, 0, 0) M 0 [(0, .ref l0)] [] := by
  unfold P_X13_turn32 at h
  refine ww_bipush 0 X (v := (16 : Int32)) dX13_turn32_0 (by decide) ?_
  refine ww_istore_n 2 X dX13_turn32_2 (lv' := [(0, .ref l0), (1, .int (16 : Int32))]) rfl (by decide) [1, 0] rfl ?_
  exact (wB_X13_turn32_3 X hQ F _ _ _ h)
theorem c_X13_turn32 {G : mG} {F sz : Nat} {M0 : mM} (l : Launch) (D : mD) (A : Nat → Prop) {l0 : Nat} {M : mM} (h : P_X13_turn32 G F l0 M = some M0) : mMetV l D G A yX13_turn32 cX13_turn32 12 none 1 21 0 0 [.ref l0] M sz M0 sz := mMetV_of l D G A (by decide) (Nat.le_of_ble_eq_true rfl) (fun x X hQ => wP_X13_turn32 X hQ h)
