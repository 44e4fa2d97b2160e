/-! SealedTokensModel.isBelow([BII)Z -/
theorem dX13_isBelow_0 : decode cX13_isBelow 0 = .ok (.aload_n 0, 1) := by decide +kernel
theorem dX13_isBelow_1 : decode cX13_isBelow 1 = .ok (.getfield 208, 3) := by decide +kernel
theorem dX13_isBelow_4 : decode cX13_isBelow 4 = .ok (.iload_n 3, 1) := by decide +kernel
theorem dX13_isBelow_5 : decode cX13_isBelow 5 = .ok (.iaload, 1) := by decide +kernel
theorem dX13_isBelow_6 : decode cX13_isBelow 6 = .ok (.istore 4, 2) := by decide +kernel
theorem dX13_isBelow_8 : decode cX13_isBelow 8 = .ok (.iconst 0, 1) := by decide +kernel
theorem dX13_isBelow_9 : decode cX13_isBelow 9 = .ok (.istore 5, 2) := by decide +kernel
theorem dX13_isBelow_11 : decode cX13_isBelow 11 = .ok (.iload 5, 2) := by decide +kernel
theorem dX13_isBelow_13 : decode cX13_isBelow 13 = .ok (.iload 4, 2) := by decide +kernel
theorem dX13_isBelow_15 : decode cX13_isBelow 15 = .ok (.if_icmp .ge 31, 3) := by decide +kernel
theorem dX13_isBelow_18 : decode cX13_isBelow 18 = .ok (.aload_n 1, 1) := by decide +kernel
theorem dX13_isBelow_19 : decode cX13_isBelow 19 = .ok (.iload_n 2, 1) := by decide +kernel
theorem dX13_isBelow_20 : decode cX13_isBelow 20 = .ok (.iload 5, 2) := by decide +kernel
theorem dX13_isBelow_22 : decode cX13_isBelow 22 = .ok (.iadd, 1) := by decide +kernel
theorem dX13_isBelow_23 : decode cX13_isBelow 23 = .ok (.baload, 1) := by decide +kernel
theorem dX13_isBelow_24 : decode cX13_isBelow 24 = .ok (.aload_n 0, 1) := by decide +kernel
theorem dX13_isBelow_25 : decode cX13_isBelow 25 = .ok (.getfield 205, 3) := by decide +kernel
theorem dX13_isBelow_28 : decode cX13_isBelow 28 = .ok (.sipush 128, 3) := by decide +kernel
theorem dX13_isBelow_31 : decode cX13_isBelow 31 = .ok (.iload_n 3, 1) := by decide +kernel
theorem dX13_isBelow_32 : decode cX13_isBelow 32 = .ok (.imul, 1) := by decide +kernel
theorem dX13_isBelow_33 : decode cX13_isBelow 33 = .ok (.iload 5, 2) := by decide +kernel
theorem dX13_isBelow_35 : decode cX13_isBelow 35 = .ok (.iadd, 1) := by decide +kernel
theorem dX13_isBelow_36 : decode cX13_isBelow 36 = .ok (.baload, 1) := by decide +kernel
theorem dX13_isBelow_37 : decode cX13_isBelow 37 = .ok (.if_icmp .ne 9, 3) := by decide +kernel
theorem dX13_isBelow_40 : decode cX13_isBelow 40 = .ok (.iinc 5 1, 3) := by decide +kernel
theorem dX13_isBelow_43 : decode cX13_isBelow 43 = .ok (.goto (-32), 3) := by decide +kernel
theorem dX13_isBelow_46 : decode cX13_isBelow 46 = .ok (.iload 5, 2) := by decide +kernel
theorem dX13_isBelow_48 : decode cX13_isBelow 48 = .ok (.iload 4, 2) := by decide +kernel
theorem dX13_isBelow_50 : decode cX13_isBelow 50 = .ok (.if_icmp .ge 37, 3) := by decide +kernel
theorem dX13_isBelow_53 : decode cX13_isBelow 53 = .ok (.aload_n 1, 1) := by decide +kernel
theorem dX13_isBelow_54 : decode cX13_isBelow 54 = .ok (.iload_n 2, 1) := by decide +kernel
theorem dX13_isBelow_55 : decode cX13_isBelow 55 = .ok (.iload 5, 2) := by decide +kernel
theorem dX13_isBelow_57 : decode cX13_isBelow 57 = .ok (.iadd, 1) := by decide +kernel
theorem dX13_isBelow_58 : decode cX13_isBelow 58 = .ok (.baload, 1) := by decide +kernel
theorem dX13_isBelow_59 : decode cX13_isBelow 59 = .ok (.sipush 255, 3) := by decide +kernel
theorem dX13_isBelow_62 : decode cX13_isBelow 62 = .ok (.iand, 1) := by decide +kernel
theorem dX13_isBelow_63 : decode cX13_isBelow 63 = .ok (.aload_n 0, 1) := by decide +kernel
theorem dX13_isBelow_64 : decode cX13_isBelow 64 = .ok (.getfield 205, 3) := by decide +kernel
theorem dX13_isBelow_67 : decode cX13_isBelow 67 = .ok (.sipush 128, 3) := by decide +kernel
theorem dX13_isBelow_70 : decode cX13_isBelow 70 = .ok (.iload_n 3, 1) := by decide +kernel
theorem dX13_isBelow_71 : decode cX13_isBelow 71 = .ok (.imul, 1) := by decide +kernel
theorem dX13_isBelow_72 : decode cX13_isBelow 72 = .ok (.iload 5, 2) := by decide +kernel
theorem dX13_isBelow_74 : decode cX13_isBelow 74 = .ok (.iadd, 1) := by decide +kernel
theorem dX13_isBelow_75 : decode cX13_isBelow 75 = .ok (.baload, 1) := by decide +kernel
theorem dX13_isBelow_76 : decode cX13_isBelow 76 = .ok (.sipush 255, 3) := by decide +kernel
theorem dX13_isBelow_79 : decode cX13_isBelow 79 = .ok (.iand, 1) := by decide +kernel
theorem dX13_isBelow_80 : decode cX13_isBelow 80 = .ok (.if_icmp .ge 7, 3) := by decide +kernel
theorem dX13_isBelow_83 : decode cX13_isBelow 83 = .ok (.iconst 1, 1) := by decide +kernel
theorem dX13_isBelow_84 : decode cX13_isBelow 84 = .ok (.goto 4, 3) := by decide +kernel
theorem dX13_isBelow_87 : decode cX13_isBelow 87 = .ok (.iconst 0, 1) := by decide +kernel
theorem dX13_isBelow_88 : decode cX13_isBelow 88 = .ok (.ireturn, 1) := by decide +kernel
abbrev rmX13_isBelow : Room := { frames := 0, cells := 0, slots := 0, locals := 0 }
set_option maxHeartbeats 4000000 in
set_option maxRecDepth 100000 in
theorem wB_X13_isBelow_46 {G : mG} {F : Nat} {x : mXT} {sz : Nat} {r0 : Int32} {M0 : mM} (X : mCX G RX13 cX13_isBelow 6 (some .boolean) "isBelow" rmX13_isBelow x) (hQ : mQI x r0 M0 (sz, 0, 0)) {l0 : Nat} {l1 : Nat} {l2 : Int32} {l3 : Int32} {l4 : Int32} {l5 : Int32} {M : mM} (h : B_X13_isBelow_46 G F l0 l1 l2 l3 l4 l5 M = some (r0, M0)) : WW x (sz, 0, 0) M 46 [(0, .ref l0), (1, .ref l1), (2, .int l2), (3, .int l3), (4, .int l4), (5, .int l5)] [] := by
  unfold B_X13_isBelow_46 at h
  refine ww_iload 46 X dX13_isBelow_46 5 rfl ?_
  refine ww_iload 48 X dX13_isBelow_48 4 rfl ?_
  refine ww_icmp_ge 50 87 X dX13_isBelow_50 (by decide) (fun q => ?_) (fun q => ?_)
  · replace h := (if_pos q).symm.trans h
    refine ww_iconst 87 X (v := (0 : Int32)) dX13_isBelow_87 (by decide) ?_
    exact ww_zretE 88 X hQ dX13_isBelow_88 h
  · replace h := (if_neg q).symm.trans h
    refine ww_aload_n 53 X dX13_isBelow_53 1 rfl rfl ?_
    refine ww_iload_n 54 X dX13_isBelow_54 2 rfl rfl ?_
    refine ww_iload 55 X dX13_isBelow_55 5 rfl ?_
    refine ww_iadd 57 X dX13_isBelow_57 ?_
    obtain ⟨v58, e58, h⟩ := bO_some h
    refine ww_bald 58 X dX13_isBelow_58 e58 ?_
    refine ww_sipush 59 X (v := (255 : Int32)) dX13_isBelow_59 (by decide) ?_
    refine ww_iand 62 X dX13_isBelow_62 ?_
    refine ww_aload_n 63 X dX13_isBelow_63 0 rfl rfl ?_
    obtain ⟨v64, e64, h⟩ := bO_some h
    refine ww_getR 64 X dX13_isBelow_64 fG_X13_205 e64 ?_
    refine ww_sipush 67 X (v := (128 : Int32)) dX13_isBelow_67 (by decide) ?_
    refine ww_iload_n 70 X dX13_isBelow_70 3 rfl rfl ?_
    refine ww_imul 71 X dX13_isBelow_71 ?_
    refine ww_iload 72 X dX13_isBelow_72 5 rfl ?_
    refine ww_iadd 74 X dX13_isBelow_74 ?_
    obtain ⟨v75, e75, h⟩ := bO_some h
    refine ww_bald 75 X dX13_isBelow_75 e75 ?_
    refine ww_sipush 76 X (v := (255 : Int32)) dX13_isBelow_76 (by decide) ?_
    refine ww_iand 79 X dX13_isBelow_79 ?_
    refine ww_icmp_ge 80 87 X dX13_isBelow_80 (by decide) (fun q => ?_) (fun q => ?_)
    · replace h := (if_pos q).symm.trans h
      refine ww_iconst 87 X (v := (0 : Int32)) dX13_isBelow_87 (by decide) ?_
      exact ww_zretE 88 X hQ dX13_isBelow_88 h
    · replace h := (if_neg q).symm.trans h
      refine ww_iconst 83 X (v := (1 : Int32)) dX13_isBelow_83 (by decide) ?_
      refine ww_goto 84 88 X dX13_isBelow_84 (by decide) ?_
      exact ww_zretE 88 X hQ dX13_isBelow_88 h
set_option maxHeartbeats 4000000 in
set_option maxRecDepth 100000 in
theorem wB_X13_isBelow_11 {G : mG} {F : Nat} {x : mXT} {sz : Nat} {r0 : Int32} {M0 : mM} (X : mCX G RX13 cX13_isBelow 6 (some .boolean) "isBelow" rmX13_isBelow x) (hQ : mQI x r0 M0 (sz, 0, 0)) : ∀ (n : Nat) (l0 : Nat) (l1 : Nat) (l2 : Int32) (l3 : Int32) (l4 : Int32) (l5 : Int32) (M : mM), B_X13_isBelow_11 G F n l0 l1 l2 l3 l4 l5 M = some (r0, M0) → WW x (sz, 0, 0) M 11 [(0, .ref l0), (1, .ref l1), (2, .int l2), (3, .int l3), (4, .int l4), (5, .int l5)] [] := by
  intro n
  induction n with
  | zero =>
    intro l0 l1 l2 l3 l4 l5 M h
    exact nomatch (show (none : Option (Int32 × mM)) = some (r0, M0) from h)
  | succ n ih =>
    intro l0 l1 l2 l3 l4 l5 M h
    rw [B_X13_isBelow_11] at h
    refine ww_iload 11 X dX13_isBelow_11 5 rfl ?_
    refine ww_iload 13 X dX13_isBelow_13 4 rfl ?_
    refine ww_icmp_ge 15 46 X dX13_isBelow_15 (by decide) (fun q => ?_) (fun q => ?_)
    · replace h := (if_pos q).symm.trans h
      exact (wB_X13_isBelow_46 X hQ h)
    · replace h := (if_neg q).symm.trans h
      refine ww_aload_n 18 X dX13_isBelow_18 1 rfl rfl ?_
      refine ww_iload_n 19 X dX13_isBelow_19 2 rfl rfl ?_
      refine ww_iload 20 X dX13_isBelow_20 5 rfl ?_
      refine ww_iadd 22 X dX13_isBelow_22 ?_
      obtain ⟨v23, e23, h⟩ := bO_some h
      refine ww_bald 23 X dX13_isBelow_23 e23 ?_
      refine ww_aload_n 24 X dX13_isBelow_24 0 rfl rfl ?_
      obtain ⟨v25, e25, h⟩ := bO_some h
      refine ww_getR 25 X dX13_isBelow_25 fG_X13_205 e25 ?_
      refine ww_sipush 28 X (v := (128 : Int32)) dX13_isBelow_28 (by decide) ?_
      refine ww_iload_n 31 X dX13_isBelow_31 3 rfl rfl ?_
      refine ww_imul 32 X dX13_isBelow_32 ?_
      refine ww_iload 33 X dX13_isBelow_33 5 rfl ?_
      refine ww_iadd 35 X dX13_isBelow_35 ?_
      obtain ⟨v36, e36, h⟩ := bO_some h
      refine ww_bald 36 X dX13_isBelow_36 e36 ?_
      refine ww_icmp_ne 37 46 X dX13_isBelow_37 (by decide) (fun q => ?_) (fun q => ?_)
      · replace h := (if_neg q).symm.trans h
        exact (wB_X13_isBelow_46 X hQ h)
      · replace h := (if_pos q).symm.trans h
        refine ww_iinc 40 X dX13_isBelow_40 (lv' := [(0, .ref l0), (1, .ref l1), (2, .int l2), (3, .int l3), (4, .int l4), (5, .int (l5 + 1))]) 5 rfl rfl (by decide) [1, 2, 3, 4, 5, 0] rfl ?_
        refine ww_goto 43 11 X dX13_isBelow_43 (by decide) ?_
        exact (ih _ _ _ _ _ _ _ h)
set_option maxHeartbeats 4000000 in
set_option maxRecDepth 100000 in
theorem wP_X13_isBelow {G : mG} {F : Nat} {x : mXT} {sz : Nat} {r0 : Int32} {M0 : mM} (X : mCX G RX13 cX13_isBelow 6 (some .boolean) "isBelow" rmX13_isBelow x) (hQ : mQI x r0 M0 (sz, 0, 0)) {l0 : Nat} {l1 : Nat} {l2 : Int32} {l3 : Int32} {M : mM} (h : P_X13_isBelow G F l0 l1 l2 l3 M = some (r0, M0)) : WW x (sz, 0, 0) M 0 [(0, .ref l0), (1, .ref l1), (2, .int l2), (3, .int l3)] [] := by
  unfold P_X13_isBelow at h
  refine ww_aload_n 0 X dX13_isBelow_0 0 rfl rfl ?_
  obtain ⟨v1, e1, h⟩ := bO_some h
  refine ww_getR 1 X dX13_isBelow_1 fG_X13_208 e1 ?_
  refine ww_iload_n 4 X dX13_isBelow_4 3 rfl rfl ?_
  obtain ⟨v5, e5, h⟩ := bO_some h
  refine ww_iald 5 X dX13_isBelow_5 e5 ?_
  refine ww_istore 6 X dX13_isBelow_6 (lv' := [(0, .ref l0), (1, .ref l1), (2, .int l2), (3, .int l3), (4, .int v5)]) (by decide) [1, 2, 3, 4, 0] rfl ?_
  refine ww_iconst 8 X (v := (0 : Int32)) dX13_isBelow_8 (by decide) ?_
  refine ww_istore 9 X dX13_isBelow_9 (lv' := [(0, .ref l0), (1, .ref l1), (2, .int l2), (3, .int l3), (4, .int v5), (5, .int (0 : Int32))]) (by decide) [1, 2, 3, 4, 5, 0] rfl ?_
  exact (wB_X13_isBelow_11 X hQ F _ _ _ _ _ _ _ h)
theorem c_X13_isBelow {G : mG} {F sz : Nat} {r0 : Int32} {M0 : mM} (l : Launch) (D : mD) (A : Nat → Prop) {l0 : Nat} {l1 : Nat} {l2 : Int32} {l3 : Int32} {M : mM} (h : P_X13_isBelow G F l0 l1 l2 l3 M = some (r0, M0)) : mMetI l D G A yX13_isBelow cX13_isBelow 6 (some .boolean) 0 0 0 0 [.ref l0, .ref l1, .int l2, .int l3] M sz r0 M0 sz := mMetI_of l D G A (by decide) (Nat.le_of_ble_eq_true rfl) (fun x X hQ => wP_X13_isBelow X hQ h)
/-! SealedTokensModel.isSigned(II)Z -/
theorem dX13_isSigned_0 : decode cX13_isSigned 0 = .ok (.aload_n 0, 1) := by decide +kernel
theorem dX13_isSigned_1 : decode cX13_isSigned 1 = .ok (.getfield 208, 3) := by decide +kernel
theorem dX13_isSigned_4 : decode cX13_isSigned 4 = .ok (.iload_n 1, 1) := by decide +kernel
theorem dX13_isSigned_5 : decode cX13_isSigned 5 = .ok (.iaload, 1) := by decide +kernel
theorem dX13_isSigned_6 : decode cX13_isSigned 6 = .ok (.istore_n 3, 1) := by decide +kernel
theorem dX13_isSigned_7 : decode cX13_isSigned 7 = .ok (.iload_n 2, 1) := by decide +kernel
theorem dX13_isSigned_8 : decode cX13_isSigned 8 = .ok (.iconst 2, 1) := by decide +kernel
theorem dX13_isSigned_9 : decode cX13_isSigned 9 = .ok (.if_icmp .ge 65, 3) := by decide +kernel
theorem dX13_isSigned_12 : decode cX13_isSigned 12 = .ok (.aload_n 0, 1) := by decide +kernel
theorem dX13_isSigned_13 : decode cX13_isSigned 13 = .ok (.iload_n 2, 1) := by decide +kernel
theorem dX13_isSigned_14 : decode cX13_isSigned 14 = .ok (.ifCond .ne 9, 3) := by decide +kernel
theorem dX13_isSigned_17 : decode cX13_isSigned 17 = .ok (.sipush 256, 3) := by decide +kernel
theorem dX13_isSigned_20 : decode cX13_isSigned 20 = .ok (.goto 6, 3) := by decide +kernel
theorem dX13_isSigned_23 : decode cX13_isSigned 23 = .ok (.sipush 512, 3) := by decide +kernel
theorem dX13_isSigned_26 : decode cX13_isSigned 26 = .ok (.aload_n 0, 1) := by decide +kernel
theorem dX13_isSigned_27 : decode cX13_isSigned 27 = .ok (.getfield 205, 3) := by decide +kernel
theorem dX13_isSigned_30 : decode cX13_isSigned 30 = .ok (.sipush 128, 3) := by decide +kernel
theorem dX13_isSigned_33 : decode cX13_isSigned 33 = .ok (.iload_n 1, 1) := by decide +kernel
theorem dX13_isSigned_34 : decode cX13_isSigned 34 = .ok (.imul, 1) := by decide +kernel
theorem dX13_isSigned_35 : decode cX13_isSigned 35 = .ok (.iload_n 3, 1) := by decide +kernel
theorem dX13_isSigned_36 : decode cX13_isSigned 36 = .ok (.invokevirtual 585, 3) := by decide +kernel
theorem dX13_isSigned_39 : decode cX13_isSigned 39 = .ok (.istore 4, 2) := by decide +kernel
theorem dX13_isSigned_41 : decode cX13_isSigned 41 = .ok (.aload_n 0, 1) := by decide +kernel
theorem dX13_isSigned_42 : decode cX13_isSigned 42 = .ok (.getfield 954, 3) := by decide +kernel
theorem dX13_isSigned_45 : decode cX13_isSigned 45 = .ok (.iload 4, 2) := by decide +kernel
theorem dX13_isSigned_47 : decode cX13_isSigned 47 = .ok (.if_icmp .ne 25, 3) := by decide +kernel
theorem dX13_isSigned_50 : decode cX13_isSigned 50 = .ok (.aload_n 0, 1) := by decide +kernel
theorem dX13_isSigned_51 : decode cX13_isSigned 51 = .ok (.getfield 257, 3) := by decide +kernel
theorem dX13_isSigned_54 : decode cX13_isSigned 54 = .ok (.iconst 0, 1) := by decide +kernel
theorem dX13_isSigned_55 : decode cX13_isSigned 55 = .ok (.aload_n 0, 1) := by decide +kernel
theorem dX13_isSigned_56 : decode cX13_isSigned 56 = .ok (.getfield 76, 3) := by decide +kernel
theorem dX13_isSigned_59 : decode cX13_isSigned 59 = .ok (.iconst 0, 1) := by decide +kernel
theorem dX13_isSigned_60 : decode cX13_isSigned 60 = .ok (.iload 4, 2) := by decide +kernel
theorem dX13_isSigned_62 : decode cX13_isSigned 62 = .ok (.invokestatic 420, 3) := by decide +kernel
theorem dX13_isSigned_65 : decode cX13_isSigned 65 = .ok (.ifCond .eq 7, 3) := by decide +kernel
theorem dX13_isSigned_68 : decode cX13_isSigned 68 = .ok (.iconst 1, 1) := by decide +kernel
theorem dX13_isSigned_69 : decode cX13_isSigned 69 = .ok (.goto 4, 3) := by decide +kernel
theorem dX13_isSigned_72 : decode cX13_isSigned 72 = .ok (.iconst 0, 1) := by decide +kernel
theorem dX13_isSigned_73 : decode cX13_isSigned 73 = .ok (.ireturn, 1) := by decide +kernel
theorem dX13_isSigned_74 : decode cX13_isSigned 74 = .ok (.iload_n 2, 1) := by decide +kernel
theorem dX13_isSigned_75 : decode cX13_isSigned 75 = .ok (.iconst 4, 1) := by decide +kernel
theorem dX13_isSigned_76 : decode cX13_isSigned 76 = .ok (.if_icmp .ne 26, 3) := by decide +kernel
theorem dX13_isSigned_79 : decode cX13_isSigned 79 = .ok (.aload_n 0, 1) := by decide +kernel
theorem dX13_isSigned_80 : decode cX13_isSigned 80 = .ok (.getfield 954, 3) := by decide +kernel
theorem dX13_isSigned_83 : decode cX13_isSigned 83 = .ok (.bipush 64, 2) := by decide +kernel
theorem dX13_isSigned_85 : decode cX13_isSigned 85 = .ok (.if_icmp .ne 15, 3) := by decide +kernel
theorem dX13_isSigned_88 : decode cX13_isSigned 88 = .ok (.aload_n 0, 1) := by decide +kernel
theorem dX13_isSigned_89 : decode cX13_isSigned 89 = .ok (.iload_n 1, 1) := by decide +kernel
theorem dX13_isSigned_90 : decode cX13_isSigned 90 = .ok (.invokevirtual 973, 3) := by decide +kernel
theorem dX13_isSigned_93 : decode cX13_isSigned 93 = .ok (.ifCond .eq 7, 3) := by decide +kernel
theorem dX13_isSigned_96 : decode cX13_isSigned 96 = .ok (.iconst 1, 1) := by decide +kernel
theorem dX13_isSigned_97 : decode cX13_isSigned 97 = .ok (.goto 4, 3) := by decide +kernel
theorem dX13_isSigned_100 : decode cX13_isSigned 100 = .ok (.iconst 0, 1) := by decide +kernel
theorem dX13_isSigned_101 : decode cX13_isSigned 101 = .ok (.ireturn, 1) := by decide +kernel
theorem dX13_isSigned_102 : decode cX13_isSigned 102 = .ok (.aload_n 0, 1) := by decide +kernel
theorem dX13_isSigned_103 : decode cX13_isSigned 103 = .ok (.getfield 954, 3) := by decide +kernel
theorem dX13_isSigned_106 : decode cX13_isSigned 106 = .ok (.iload_n 3, 1) := by decide +kernel
theorem dX13_isSigned_107 : decode cX13_isSigned 107 = .ok (.if_icmp .ne 16, 3) := by decide +kernel
theorem dX13_isSigned_110 : decode cX13_isSigned 110 = .ok (.aload_n 0, 1) := by decide +kernel
theorem dX13_isSigned_111 : decode cX13_isSigned 111 = .ok (.aload_n 0, 1) := by decide +kernel
theorem dX13_isSigned_112 : decode cX13_isSigned 112 = .ok (.getfield 257, 3) := by decide +kernel
theorem dX13_isSigned_115 : decode cX13_isSigned 115 = .ok (.iconst 0, 1) := by decide +kernel
theorem dX13_isSigned_116 : decode cX13_isSigned 116 = .ok (.iload_n 1, 1) := by decide +kernel
theorem dX13_isSigned_117 : decode cX13_isSigned 117 = .ok (.invokevirtual 976, 3) := by decide +kernel
theorem dX13_isSigned_120 : decode cX13_isSigned 120 = .ok (.ifCond .ne 5, 3) := by decide +kernel
theorem dX13_isSigned_123 : decode cX13_isSigned 123 = .ok (.iconst 0, 1) := by decide +kernel
theorem dX13_isSigned_124 : decode cX13_isSigned 124 = .ok (.ireturn, 1) := by decide +kernel
theorem dX13_isSigned_125 : decode cX13_isSigned 125 = .ok (.aload_n 0, 1) := by decide +kernel
theorem dX13_isSigned_126 : decode cX13_isSigned 126 = .ok (.aload_n 0, 1) := by decide +kernel
theorem dX13_isSigned_127 : decode cX13_isSigned 127 = .ok (.getfield 257, 3) := by decide +kernel
theorem dX13_isSigned_130 : decode cX13_isSigned 130 = .ok (.iconst 0, 1) := by decide +kernel
theorem dX13_isSigned_131 : decode cX13_isSigned 131 = .ok (.iload_n 3, 1) := by decide +kernel
theorem dX13_isSigned_132 : decode cX13_isSigned 132 = .ok (.aload_n 0, 1) := by decide +kernel
theorem dX13_isSigned_133 : decode cX13_isSigned 133 = .ok (.getfield 211, 3) := by decide +kernel
theorem dX13_isSigned_136 : decode cX13_isSigned 136 = .ok (.sipush 128, 3) := by decide +kernel
theorem dX13_isSigned_139 : decode cX13_isSigned 139 = .ok (.iload_n 1, 1) := by decide +kernel
theorem dX13_isSigned_140 : decode cX13_isSigned 140 = .ok (.imul, 1) := by decide +kernel
theorem dX13_isSigned_141 : decode cX13_isSigned 141 = .ok (.aload_n 0, 1) := by decide +kernel
theorem dX13_isSigned_142 : decode cX13_isSigned 142 = .ok (.getfield 214, 3) := by decide +kernel
theorem dX13_isSigned_145 : decode cX13_isSigned 145 = .ok (.iload_n 1, 1) := by decide +kernel
theorem dX13_isSigned_146 : decode cX13_isSigned 146 = .ok (.iaload, 1) := by decide +kernel
theorem dX13_isSigned_147 : decode cX13_isSigned 147 = .ok (.aload_n 0, 1) := by decide +kernel
theorem dX13_isSigned_148 : decode cX13_isSigned 148 = .ok (.getfield 205, 3) := by decide +kernel
theorem dX13_isSigned_151 : decode cX13_isSigned 151 = .ok (.sipush 128, 3) := by decide +kernel
theorem dX13_isSigned_154 : decode cX13_isSigned 154 = .ok (.iload_n 1, 1) := by decide +kernel
theorem dX13_isSigned_155 : decode cX13_isSigned 155 = .ok (.imul, 1) := by decide +kernel
theorem dX13_isSigned_156 : decode cX13_isSigned 156 = .ok (.iload_n 3, 1) := by decide +kernel
theorem dX13_isSigned_157 : decode cX13_isSigned 157 = .ok (.invokevirtual 709, 3) := by decide +kernel
theorem dX13_isSigned_160 : decode cX13_isSigned 160 = .ok (.iload_n 2, 1) := by decide +kernel
theorem dX13_isSigned_161 : decode cX13_isSigned 161 = .ok (.iconst 3, 1) := by decide +kernel
theorem dX13_isSigned_162 : decode cX13_isSigned 162 = .ok (.if_icmp .ne 24, 3) := by decide +kernel
theorem dX13_isSigned_165 : decode cX13_isSigned 165 = .ok (.aload_n 0, 1) := by decide +kernel
theorem dX13_isSigned_166 : decode cX13_isSigned 166 = .ok (.aload_n 0, 1) := by decide +kernel
theorem dX13_isSigned_167 : decode cX13_isSigned 167 = .ok (.getfield 205, 3) := by decide +kernel
theorem dX13_isSigned_170 : decode cX13_isSigned 170 = .ok (.sipush 128, 3) := by decide +kernel
theorem dX13_isSigned_173 : decode cX13_isSigned 173 = .ok (.iload_n 1, 1) := by decide +kernel
theorem dX13_isSigned_174 : decode cX13_isSigned 174 = .ok (.imul, 1) := by decide +kernel
theorem dX13_isSigned_175 : decode cX13_isSigned 175 = .ok (.iload_n 3, 1) := by decide +kernel
theorem dX13_isSigned_176 : decode cX13_isSigned 176 = .ok (.invokestatic 960, 3) := by decide +kernel
theorem dX13_isSigned_179 : decode cX13_isSigned 179 = .ok (.iconst 1, 1) := by decide +kernel
theorem dX13_isSigned_180 : decode cX13_isSigned 180 = .ok (.isub, 1) := by decide +kernel
theorem dX13_isSigned_181 : decode cX13_isSigned 181 = .ok (.iload_n 3, 1) := by decide +kernel
theorem dX13_isSigned_182 : decode cX13_isSigned 182 = .ok (.invokevirtual 979, 3) := by decide +kernel
theorem dX13_isSigned_185 : decode cX13_isSigned 185 = .ok (.ireturn, 1) := by decide +kernel
theorem dX13_isSigned_186 : decode cX13_isSigned 186 = .ok (.aload_n 0, 1) := by decide +kernel
theorem dX13_isSigned_187 : decode cX13_isSigned 187 = .ok (.iload_n 3, 1) := by decide +kernel
theorem dX13_isSigned_188 : decode cX13_isSigned 188 = .ok (.invokevirtual 967, 3) := by decide +kernel
theorem dX13_isSigned_191 : decode cX13_isSigned 191 = .ok (.aload_n 0, 1) := by decide +kernel
theorem dX13_isSigned_192 : decode cX13_isSigned 192 = .ok (.getfield 138, 3) := by decide +kernel
theorem dX13_isSigned_195 : decode cX13_isSigned 195 = .ok (.iconst 0, 1) := by decide +kernel
theorem dX13_isSigned_196 : decode cX13_isSigned 196 = .ok (.aload_n 0, 1) := by decide +kernel
theorem dX13_isSigned_197 : decode cX13_isSigned 197 = .ok (.getfield 195, 3) := by decide +kernel
theorem dX13_isSigned_200 : decode cX13_isSigned 200 = .ok (.iconst 0, 1) := by decide +kernel
theorem dX13_isSigned_201 : decode cX13_isSigned 201 = .ok (.iload_n 3, 1) := by decide +kernel
theorem dX13_isSigned_202 : decode cX13_isSigned 202 = .ok (.invokestatic 420, 3) := by decide +kernel
theorem dX13_isSigned_205 : decode cX13_isSigned 205 = .ok (.ireturn, 1) := by decide +kernel
abbrev rmX13_isSigned : Room := { frames := 8, cells := 0, slots := 0, locals := 180 }
set_option maxHeartbeats 4000000 in
set_option maxRecDepth 100000 in
theorem wB_X13_isSigned_26 {G : mG} {F : Nat} {x : mXT} {sz : Nat} {r0 : Int32} {M0 : mM} (X : mCX G RX13 cX13_isSigned 5 (some .boolean) "isSigned" rmX13_isSigned x) (hQ : mQI x r0 M0 (sz, 0, 0)) {l0 : Nat} {l1 : Int32} {l3 : Int32} {sk0 : Nat} {sk1 : Int32} {M : mM} (h : B_X13_isSigned_26 G F l0 l1 l3 sk0 sk1 M = some (r0, M0)) : WW x (sz, 0, 0) M 26 [(0, .ref l0), (1, .int l1), (3, .int l3)] [.int sk1, .ref sk0] := by
  unfold B_X13_isSigned_26 at h
  refine ww_aload_n 26 X dX13_isSigned_26 0 rfl rfl ?_
  obtain ⟨v27, e27, h⟩ := bO_some h
  refine ww_getR 27 X dX13_isSigned_27 fG_X13_205 e27 ?_
  refine ww_sipush 30 X (v := (128 : Int32)) dX13_isSigned_30 (by decide) ?_
  refine ww_iload_n 33 X dX13_isSigned_33 1 rfl rfl ?_
  refine ww_imul 34 X dX13_isSigned_34 ?_
  refine ww_iload_n 35 X dX13_isSigned_35 2 rfl rfl ?_
  obtain ⟨_, f36, h⟩ := bO_some h
  obtain ⟨v36, M36, e36, h⟩ := bP_some h
  refine ww_callVI0 36 X dX13_isSigned_36 mY_X13_codeOf mL_X13_585 (rcv_spec f36) ⟨_, _, rfl⟩ (by decide) (As := [.int sk1, .ref v27, .int ((128 : Int32) * l1), .int l3]) (rest := []) rfl rfl ⟨Nat.le_of_ble_eq_true rfl, Nat.le_of_ble_eq_true rfl⟩ (Nat.le_of_ble_eq_true rfl) (fun l D A => c_X13_codeOf l D A e36) ?_
  refine ww_istore 39 X dX13_isSigned_39 (lv' := [(0, .ref l0), (1, .int l1), (3, .int l3), (4, .int v36)]) (by decide) [1, 2, 3, 0] rfl ?_
  refine ww_aload_n 41 X dX13_isSigned_41 0 rfl rfl ?_
  obtain ⟨v42, e42, h⟩ := bO_some h
  refine ww_getI 42 X dX13_isSigned_42 fG_X13_954 e42 ?_
  refine ww_iload 45 X dX13_isSigned_45 3 rfl ?_
  refine ww_icmp_ne 47 72 X dX13_isSigned_47 (by decide) (fun q => ?_) (fun q => ?_)
  · replace h := (if_neg q).symm.trans h
    refine ww_iconst 72 X (v := (0 : Int32)) dX13_isSigned_72 (by decide) ?_
    exact ww_zretE 73 X hQ dX13_isSigned_73 h
  · replace h := (if_pos q).symm.trans h
    refine ww_aload_n 50 X dX13_isSigned_50 0 rfl rfl ?_
    obtain ⟨v51, e51, h⟩ := bO_some h
    refine ww_getR 51 X dX13_isSigned_51 fG_X13_257 e51 ?_
    refine ww_iconst 54 X (v := (0 : Int32)) dX13_isSigned_54 (by decide) ?_
    refine ww_aload_n 55 X dX13_isSigned_55 0 rfl rfl ?_
    obtain ⟨v56, e56, h⟩ := bO_some h
    refine ww_getR 56 X dX13_isSigned_56 fG_X13_76 e56 ?_
    refine ww_iconst 59 X (v := (0 : Int32)) dX13_isSigned_59 (by decide) ?_
    refine ww_iload 60 X dX13_isSigned_60 3 rfl ?_
    obtain ⟨v62, M62, e62, h⟩ := bP_some h
    refine ww_callSI0 62 X dX13_isSigned_62 mY_X13_same mL_X13_420 (As := [.ref v51, .int (0 : Int32), .ref v56, .int (0 : Int32), .int v36]) (rest := []) rfl rfl ⟨Nat.le_of_ble_eq_true rfl, Nat.le_of_ble_eq_true rfl⟩ (Nat.le_of_ble_eq_true rfl) (fun l D A => c_X13_same l D A e62) ?_
    refine ww_if_eq 65 72 X dX13_isSigned_65 (by decide) (fun q => ?_) (fun q => ?_)
    · replace h := (if_pos q).symm.trans h
      refine ww_iconst 72 X (v := (0 : Int32)) dX13_isSigned_72 (by decide) ?_
      exact ww_zretE 73 X hQ dX13_isSigned_73 h
    · replace h := (if_neg q).symm.trans h
      refine ww_iconst 68 X (v := (1 : Int32)) dX13_isSigned_68 (by decide) ?_
      refine ww_goto 69 73 X dX13_isSigned_69 (by decide) ?_
      exact ww_zretE 73 X hQ dX13_isSigned_73 h
set_option maxHeartbeats 4000000 in
set_option maxRecDepth 100000 in
theorem wP_X13_isSigned {G : mG} {F : Nat} {x : mXT} {sz : Nat} {r0 : Int32} {M0 : mM} (X : mCX G RX13 cX13_isSigned 5 (some .boolean) "isSigned" rmX13_isSigned x) (hQ : mQI x r0 M0 (sz, 0, 0)) {l0 : Nat} {l1 : Int32} {l2 : Int32} {M : mM} (h : P_X13_isSigned G F l0 l1 l2 M = some (r0, M0)) : WW x (sz, 0, 0) M 0 [(0, .ref l0), (1, .int l1), (2, .int l2)] [] := by
  unfold P_X13_isSigned at h
  refine ww_aload_n 0 X dX13_isSigned_0 0 rfl rfl ?_
  obtain ⟨v1, e1, h⟩ := bO_some h
  refine ww_getR 1 X dX13_isSigned_1 fG_X13_208 e1 ?_
  refine ww_iload_n 4 X dX13_isSigned_4 1 rfl rfl ?_
  obtain ⟨v5, e5, h⟩ := bO_some h
  refine ww_iald 5 X dX13_isSigned_5 e5 ?_
  refine ww_istore_n 6 X dX13_isSigned_6 (lv' := [(0, .ref l0), (1, .int l1), (2, .int l2), (3, .int v5)]) rfl (by decide) [1, 2, 3, 0] rfl ?_
  refine ww_iload_n 7 X dX13_isSigned_7 2 rfl rfl ?_
  refine ww_iconst 8 X (v := (2 : Int32)) dX13_isSigned_8 (by decide) ?_
  refine ww_icmp_ge 9 74 X dX13_isSigned_9 (by decide) (fun q => ?_) (fun q => ?_)
  · replace h := (if_pos q).symm.trans h
    refine ww_iload_n 74 X dX13_isSigned_74 2 rfl rfl ?_
    refine ww_iconst 75 X (v := (4 : Int32)) dX13_isSigned_75 (by decide) ?_
    refine ww_icmp_ne 76 102 X dX13_isSigned_76 (by decide) (fun q => ?_) (fun q => ?_)
    · replace h := (if_neg q).symm.trans h
      refine ww_aload_n 102 X dX13_isSigned_102 0 rfl rfl ?_
      obtain ⟨v103, e103, h⟩ := bO_some h
      refine ww_getI 103 X dX13_isSigned_103 fG_X13_954 e103 ?_
      refine ww_iload_n 106 X dX13_isSigned_106 3 rfl rfl ?_
      refine ww_icmp_ne 107 123 X dX13_isSigned_107 (by decide) (fun q => ?_) (fun q => ?_)
      · replace h := (if_neg q).symm.trans h
        refine ww_iconst 123 X (v := (0 : Int32)) dX13_isSigned_123 (by decide) ?_
        exact ww_zretE 124 X hQ dX13_isSigned_124 h
      · replace h := (if_pos q).symm.trans h
        refine ww_aload_n 110 X dX13_isSigned_110 0 rfl rfl ?_
        refine ww_aload_n 111 X dX13_isSigned_111 0 rfl rfl ?_
        obtain ⟨v112, e112, h⟩ := bO_some h
        refine ww_getR 112 X dX13_isSigned_112 fG_X13_257 e112 ?_
        refine ww_iconst 115 X (v := (0 : Int32)) dX13_isSigned_115 (by decide) ?_
        refine ww_iload_n 116 X dX13_isSigned_116 1 rfl rfl ?_
        obtain ⟨_, f117, h⟩ := bO_some h
        obtain ⟨v117, M117, e117, h⟩ := bP_some h
        refine ww_callVI0 117 X dX13_isSigned_117 mY_X13_isBelow mL_X13_976 (rcv_spec f117) ⟨_, _, rfl⟩ (by decide) (As := [.ref v112, .int (0 : Int32), .int l1]) (rest := []) rfl rfl ⟨Nat.le_of_ble_eq_true rfl, Nat.le_of_ble_eq_true rfl⟩ (Nat.le_of_ble_eq_true rfl) (fun l D A => c_X13_isBelow l D A e117) ?_
        refine ww_if_ne 120 125 X dX13_isSigned_120 (by decide) (fun q => ?_) (fun q => ?_)
        · replace h := (if_neg q).symm.trans h
          refine ww_aload_n 125 X dX13_isSigned_125 0 rfl rfl ?_
          refine ww_aload_n 126 X dX13_isSigned_126 0 rfl rfl ?_
          obtain ⟨v127, e127, h⟩ := bO_some h
          refine ww_getR 127 X dX13_isSigned_127 fG_X13_257 e127 ?_
          refine ww_iconst 130 X (v := (0 : Int32)) dX13_isSigned_130 (by decide) ?_
          refine ww_iload_n 131 X dX13_isSigned_131 3 rfl rfl ?_
          refine ww_aload_n 132 X dX13_isSigned_132 0 rfl rfl ?_
          obtain ⟨v133, e133, h⟩ := bO_some h
          refine ww_getR 133 X dX13_isSigned_133 fG_X13_211 e133 ?_
          refine ww_sipush 136 X (v := (128 : Int32)) dX13_isSigned_136 (by decide) ?_
          refine ww_iload_n 139 X dX13_isSigned_139 1 rfl rfl ?_
          refine ww_imul 140 X dX13_isSigned_140 ?_
          refine ww_aload_n 141 X dX13_isSigned_141 0 rfl rfl ?_
          obtain ⟨v142, e142, h⟩ := bO_some h
          refine ww_getR 142 X dX13_isSigned_142 fG_X13_214 e142 ?_
          refine ww_iload_n 145 X dX13_isSigned_145 1 rfl rfl ?_
          obtain ⟨v146, e146, h⟩ := bO_some h
          refine ww_iald 146 X dX13_isSigned_146 e146 ?_
          refine ww_aload_n 147 X dX13_isSigned_147 0 rfl rfl ?_
          obtain ⟨v148, e148, h⟩ := bO_some h
          refine ww_getR 148 X dX13_isSigned_148 fG_X13_205 e148 ?_
          refine ww_sipush 151 X (v := (128 : Int32)) dX13_isSigned_151 (by decide) ?_
          refine ww_iload_n 154 X dX13_isSigned_154 1 rfl rfl ?_
          refine ww_imul 155 X dX13_isSigned_155 ?_
          refine ww_iload_n 156 X dX13_isSigned_156 3 rfl rfl ?_
          obtain ⟨_, f157, h⟩ := bO_some h
          obtain ⟨M157, e157, h⟩ := bO_some h
          refine ww_callVV0 157 X dX13_isSigned_157 mY_X13_raise mL_X13_709 (rcv_spec f157) ⟨_, _, rfl⟩ (by decide) (As := [.ref v127, .int (0 : Int32), .int v5, .ref v133, .int ((128 : Int32) * l1), .int v146, .ref v148, .int ((128 : Int32) * l1), .int v5]) (rest := []) rfl rfl ⟨Nat.le_of_ble_eq_true rfl, Nat.le_of_ble_eq_true rfl⟩ (Nat.le_of_ble_eq_true rfl) (fun l D A => c_X13_raise l D A e157) ?_
          refine ww_iload_n 160 X dX13_isSigned_160 2 rfl rfl ?_
          refine ww_iconst 161 X (v := (3 : Int32)) dX13_isSigned_161 (by decide) ?_
          refine ww_icmp_ne 162 186 X dX13_isSigned_162 (by decide) (fun q => ?_) (fun q => ?_)
          · replace h := (if_neg q).symm.trans h
            refine ww_aload_n 186 X dX13_isSigned_186 0 rfl rfl ?_
            refine ww_iload_n 187 X dX13_isSigned_187 3 rfl rfl ?_
            obtain ⟨_, f188, h⟩ := bO_some h
            obtain ⟨M188, e188, h⟩ := bO_some h
            refine ww_callVV0 188 X dX13_isSigned_188 mY_X13_fillOut mL_X13_967 (rcv_spec f188) ⟨_, _, rfl⟩ (by decide) (As := [.int v5]) (rest := []) rfl rfl ⟨Nat.le_of_ble_eq_true rfl, Nat.le_of_ble_eq_true rfl⟩ (Nat.le_of_ble_eq_true rfl) (fun l D A => c_X13_fillOut l D A e188) ?_
            refine ww_aload_n 191 X dX13_isSigned_191 0 rfl rfl ?_
            obtain ⟨v192, e192, h⟩ := bO_some h
            refine ww_getR 192 X dX13_isSigned_192 fG_X13_138 e192 ?_
            refine ww_iconst 195 X (v := (0 : Int32)) dX13_isSigned_195 (by decide) ?_
            refine ww_aload_n 196 X dX13_isSigned_196 0 rfl rfl ?_
            obtain ⟨v197, e197, h⟩ := bO_some h
            refine ww_getR 197 X dX13_isSigned_197 fG_X13_195 e197 ?_
            refine ww_iconst 200 X (v := (0 : Int32)) dX13_isSigned_200 (by decide) ?_
            refine ww_iload_n 201 X dX13_isSigned_201 3 rfl rfl ?_
            obtain ⟨v202, M202, e202, h⟩ := bP_some h
            refine ww_callSI0 202 X dX13_isSigned_202 mY_X13_same mL_X13_420 (As := [.ref v192, .int (0 : Int32), .ref v197, .int (0 : Int32), .int v5]) (rest := []) rfl rfl ⟨Nat.le_of_ble_eq_true rfl, Nat.le_of_ble_eq_true rfl⟩ (Nat.le_of_ble_eq_true rfl) (fun l D A => c_X13_same l D A e202) ?_
            exact ww_zretE 205 X hQ dX13_isSigned_205 h
          · replace h := (if_pos q).symm.trans h
            refine ww_aload_n 165 X dX13_isSigned_165 0 rfl rfl ?_
            refine ww_aload_n 166 X dX13_isSigned_166 0 rfl rfl ?_
            obtain ⟨v167, e167, h⟩ := bO_some h
            refine ww_getR 167 X dX13_isSigned_167 fG_X13_205 e167 ?_
            refine ww_sipush 170 X (v := (128 : Int32)) dX13_isSigned_170 (by decide) ?_
            refine ww_iload_n 173 X dX13_isSigned_173 1 rfl rfl ?_
            refine ww_imul 174 X dX13_isSigned_174 ?_
            refine ww_iload_n 175 X dX13_isSigned_175 3 rfl rfl ?_
            obtain ⟨v176, M176, e176, h⟩ := bP_some h
            refine ww_callSI0 176 X dX13_isSigned_176 mY_X13_bitsOf mL_X13_960 (As := [.ref v167, .int ((128 : Int32) * l1), .int v5]) (rest := [.ref l0]) rfl rfl ⟨Nat.le_of_ble_eq_true rfl, Nat.le_of_ble_eq_true rfl⟩ (Nat.le_of_ble_eq_true rfl) (fun l D A => c_X13_bitsOf l D A e176) ?_
            refine ww_iconst 179 X (v := (1 : Int32)) dX13_isSigned_179 (by decide) ?_
            refine ww_isub 180 X dX13_isSigned_180 ?_
            refine ww_iload_n 181 X dX13_isSigned_181 3 rfl rfl ?_
            obtain ⟨_, f182, h⟩ := bO_some h
            obtain ⟨v182, M182, e182, h⟩ := bP_some h
            refine ww_callVI0 182 X dX13_isSigned_182 mY_X13_isSalted mL_X13_979 (rcv_spec f182) ⟨_, _, rfl⟩ (by decide) (As := [.int (v176 - (1 : Int32)), .int v5]) (rest := []) rfl rfl ⟨Nat.le_of_ble_eq_true rfl, Nat.le_of_ble_eq_true rfl⟩ (Nat.le_of_ble_eq_true rfl) (fun l D A => c_X13_isSalted l D A e182) ?_
            exact ww_zretE 185 X hQ dX13_isSigned_185 h
        · replace h := (if_pos q).symm.trans h
          refine ww_iconst 123 X (v := (0 : Int32)) dX13_isSigned_123 (by decide) ?_
          exact ww_zretE 124 X hQ dX13_isSigned_124 h
    · replace h := (if_pos q).symm.trans h
      refine ww_aload_n 79 X dX13_isSigned_79 0 rfl rfl ?_
      obtain ⟨v80, e80, h⟩ := bO_some h
      refine ww_getI 80 X dX13_isSigned_80 fG_X13_954 e80 ?_
      refine ww_bipush 83 X (v := (64 : Int32)) dX13_isSigned_83 (by decide) ?_
      refine ww_icmp_ne 85 100 X dX13_isSigned_85 (by decide) (fun q => ?_) (fun q => ?_)
      · replace h := (if_neg q).symm.trans h
        refine ww_iconst 100 X (v := (0 : Int32)) dX13_isSigned_100 (by decide) ?_
        exact ww_zretE 101 X hQ dX13_isSigned_101 h
      · replace h := (if_pos q).symm.trans h
        refine ww_aload_n 88 X dX13_isSigned_88 0 rfl rfl ?_
        refine ww_iload_n 89 X dX13_isSigned_89 1 rfl rfl ?_
        obtain ⟨_, f90, h⟩ := bO_some h
        obtain ⟨v90, M90, e90, h⟩ := bP_some h
        refine ww_callVI0 90 X dX13_isSigned_90 mY_X13_isSignedPoint mL_X13_973 (rcv_spec f90) ⟨_, _, rfl⟩ (by decide) (As := [.int l1]) (rest := []) rfl rfl ⟨Nat.le_of_ble_eq_true rfl, Nat.le_of_ble_eq_true rfl⟩ (Nat.le_of_ble_eq_true rfl) (fun l D A => c_X13_isSignedPoint l D A e90) ?_
        refine ww_if_eq 93 100 X dX13_isSigned_93 (by decide) (fun q => ?_) (fun q => ?_)
        · replace h := (if_pos q).symm.trans h
          refine ww_iconst 100 X (v := (0 : Int32)) dX13_isSigned_100 (by decide) ?_
          exact ww_zretE 101 X hQ dX13_isSigned_101 h
        · replace h := (if_neg q).symm.trans h
          refine ww_iconst 96 X (v := (1 : Int32)) dX13_isSigned_96 (by decide) ?_
          refine ww_goto 97 101 X dX13_isSigned_97 (by decide) ?_
          exact ww_zretE 101 X hQ dX13_isSigned_101 h
  · replace h := (if_neg q).symm.trans h
    refine ww_aload_n 12 X dX13_isSigned_12 0 rfl rfl ?_
    refine ww_iload_n 13 X dX13_isSigned_13 2 rfl rfl ?_
    refine ww_if_ne 14 23 X dX13_isSigned_14 (by decide) (fun q => ?_) (fun q => ?_)
    · replace h := (if_neg q).symm.trans h
      refine ww_sipush 23 X (v := (512 : Int32)) dX13_isSigned_23 (by decide) ?_
      exact ww_sub [0, 1, 3] rfl (wB_X13_isSigned_26 X hQ h)
    · replace h := (if_pos q).symm.trans h
      refine ww_sipush 17 X (v := (256 : Int32)) dX13_isSigned_17 (by decide) ?_
      refine ww_goto 20 26 X dX13_isSigned_20 (by decide) ?_
      exact ww_sub [0, 1, 3] rfl (wB_X13_isSigned_26 X hQ h)
theorem c_X13_isSigned {G : mG} {F sz : Nat} {r0 : Int32} {M0 : mM} (l : Launch) (D : mD) (A : Nat → Prop) {l0 : Nat} {l1 : Int32} {l2 : Int32} {M : mM} (h : P_X13_isSigned G F l0 l1 l2 M = some (r0, M0)) : mMetI l D G A yX13_isSigned cX13_isSigned 5 (some .boolean) 8 180 0 0 [.ref l0, .int l1, .int l2] M sz r0 M0 sz := mMetI_of l D G A (by decide) (Nat.le_of_ble_eq_true rfl) (fun x X hQ => wP_X13_isSigned X hQ h)
/-! SealedTokensModel.sayHead(ILjava/lang/String;II)V -/
theorem dX13_sayHead_0 : decode cX13_sayHead 0 = .ok (.aload_n 0, 1) := by decide +kernel
theorem dX13_sayHead_1 : decode cX13_sayHead 1 = .ok (.iconst 0, 1) := by decide +kernel
theorem dX13_sayHead_2 : decode cX13_sayHead 2 = .ok (.putfield 467, 3) := by decide +kernel
theorem dX13_sayHead_5 : decode cX13_sayHead 5 = .ok (.aload_n 0, 1) := by decide +kernel
theorem dX13_sayHead_6 : decode cX13_sayHead 6 = .ok (.ldc_w 982, 3) := by decide +kernel
theorem dX13_sayHead_9 : decode cX13_sayHead 9 = .ok (.invokevirtual 477, 3) := by decide +kernel
theorem dX13_sayHead_12 : decode cX13_sayHead 12 = .ok (.aload_n 0, 1) := by decide +kernel
theorem dX13_sayHead_13 : decode cX13_sayHead 13 = .ok (.aload_n 2, 1) := by decide +kernel
theorem dX13_sayHead_14 : decode cX13_sayHead 14 = .ok (.iload_n 3, 1) := by decide +kernel
theorem dX13_sayHead_15 : decode cX13_sayHead 15 = .ok (.invokevirtual 984, 3) := by decide +kernel
theorem dX13_sayHead_18 : decode cX13_sayHead 18 = .ok (.aload_n 0, 1) := by decide +kernel
theorem dX13_sayHead_19 : decode cX13_sayHead 19 = .ok (.bipush 34, 2) := by decide +kernel
theorem dX13_sayHead_21 : decode cX13_sayHead 21 = .ok (.invokevirtual 470, 3) := by decide +kernel
theorem dX13_sayHead_24 : decode cX13_sayHead 24 = .ok (.iload 4, 2) := by decide +kernel
theorem dX13_sayHead_26 : decode cX13_sayHead 26 = .ok (.ifCond .lt 25, 3) := by decide +kernel
theorem dX13_sayHead_29 : decode cX13_sayHead 29 = .ok (.aload_n 0, 1) := by decide +kernel
theorem dX13_sayHead_30 : decode cX13_sayHead 30 = .ok (.ldc_w 988, 3) := by decide +kernel
theorem dX13_sayHead_33 : decode cX13_sayHead 33 = .ok (.invokevirtual 477, 3) := by decide +kernel
theorem dX13_sayHead_36 : decode cX13_sayHead 36 = .ok (.aload_n 0, 1) := by decide +kernel
theorem dX13_sayHead_37 : decode cX13_sayHead 37 = .ok (.ldc_w 922, 3) := by decide +kernel
theorem dX13_sayHead_40 : decode cX13_sayHead 40 = .ok (.iload 4, 2) := by decide +kernel
theorem dX13_sayHead_42 : decode cX13_sayHead 42 = .ok (.invokevirtual 984, 3) := by decide +kernel
theorem dX13_sayHead_45 : decode cX13_sayHead 45 = .ok (.aload_n 0, 1) := by decide +kernel
theorem dX13_sayHead_46 : decode cX13_sayHead 46 = .ok (.bipush 34, 2) := by decide +kernel
theorem dX13_sayHead_48 : decode cX13_sayHead 48 = .ok (.invokevirtual 470, 3) := by decide +kernel
theorem dX13_sayHead_51 : decode cX13_sayHead 51 = .ok (.aload_n 0, 1) := by decide +kernel
theorem dX13_sayHead_52 : decode cX13_sayHead 52 = .ok (.getfield 230, 3) := by decide +kernel
theorem dX13_sayHead_55 : decode cX13_sayHead 55 = .ok (.iload_n 1, 1) := by decide +kernel
theorem dX13_sayHead_56 : decode cX13_sayHead 56 = .ok (.iaload, 1) := by decide +kernel
theorem dX13_sayHead_57 : decode cX13_sayHead 57 = .ok (.ifCond .lt 29, 3) := by decide +kernel
theorem dX13_sayHead_60 : decode cX13_sayHead 60 = .ok (.aload_n 0, 1) := by decide +kernel
theorem dX13_sayHead_61 : decode cX13_sayHead 61 = .ok (.ldc_w 990, 3) := by decide +kernel
theorem dX13_sayHead_64 : decode cX13_sayHead 64 = .ok (.invokevirtual 477, 3) := by decide +kernel
theorem dX13_sayHead_67 : decode cX13_sayHead 67 = .ok (.aload_n 0, 1) := by decide +kernel
theorem dX13_sayHead_68 : decode cX13_sayHead 68 = .ok (.aload_n 0, 1) := by decide +kernel
theorem dX13_sayHead_69 : decode cX13_sayHead 69 = .ok (.getfield 227, 3) := by decide +kernel
theorem dX13_sayHead_72 : decode cX13_sayHead 72 = .ok (.sipush 8200, 3) := by decide +kernel
theorem dX13_sayHead_75 : decode cX13_sayHead 75 = .ok (.iload_n 1, 1) := by decide +kernel
theorem dX13_sayHead_76 : decode cX13_sayHead 76 = .ok (.imul, 1) := by decide +kernel
theorem dX13_sayHead_77 : decode cX13_sayHead 77 = .ok (.aload_n 0, 1) := by decide +kernel
theorem dX13_sayHead_78 : decode cX13_sayHead 78 = .ok (.getfield 230, 3) := by decide +kernel
theorem dX13_sayHead_81 : decode cX13_sayHead 81 = .ok (.iload_n 1, 1) := by decide +kernel
theorem dX13_sayHead_82 : decode cX13_sayHead 82 = .ok (.iaload, 1) := by decide +kernel
theorem dX13_sayHead_83 : decode cX13_sayHead 83 = .ok (.invokevirtual 486, 3) := by decide +kernel
theorem dX13_sayHead_86 : decode cX13_sayHead 86 = .ok (.return_, 1) := by decide +kernel
abbrev rmX13_sayHead : Room := { frames := 6, cells := 0, slots := 0, locals := 133 }
set_option maxHeartbeats 4000000 in
set_option maxRecDepth 100000 in
theorem wB_X13_sayHead_51 {G : mG} {F : Nat} {x : mXT} {sz : Nat} {M0 : mM} (X : mCX G RX13 cX13_sayHead 5 none "sayHead" rmX13_sayHead x) (hQ : mQV x M0 (sz, 0, 0)) {l0 : Nat} {l1 : Int32} {M : mM} (h : B_X13_sayHead_51 G F l0 l1 M = some M0) : WW x (sz, 0, 0) M 51 [(0, .ref l0), (1, .int l1)] [] := by
  unfold B_X13_sayHead_51 at h
  refine ww_aload_n 51 X dX13_sayHead_51 0 rfl rfl ?_
  obtain ⟨v52, e52, h⟩ := bO_some h
  refine ww_getR 52 X dX13_sayHead_52 fG_X13_230 e52 ?_
  refine ww_iload_n 55 X dX13_sayHead_55 1 rfl rfl ?_
  obtain ⟨v56, e56, h⟩ := bO_some h
  refine ww_iald 56 X dX13_sayHead_56 e56 ?_
  refine ww_if_lt 57 86 X dX13_sayHead_57 (by decide) (fun q => ?_) (fun q => ?_)
  · replace h := (if_pos q).symm.trans h
    exact ww_vretE 86 X hQ dX13_sayHead_86 h
  · replace h := (if_neg q).symm.trans h
    refine ww_aload_n 60 X dX13_sayHead_60 0 rfl rfl ?_
    refine ww_ldsw 61 X (j := 112) dX13_sayHead_61 rfl ?_
    obtain ⟨_, f64, h⟩ := bO_some h
    obtain ⟨M64, e64, h⟩ := bO_some h
    refine ww_callVV0 64 X dX13_sayHead_64 mY_X13_sayAll mL_X13_477 (rcv_spec f64) ⟨_, _, rfl⟩ (by decide) (As := [.ref (G.1 112)]) (rest := []) rfl rfl ⟨Nat.le_of_ble_eq_true rfl, Nat.le_of_ble_eq_true rfl⟩ (Nat.le_of_ble_eq_true rfl) (fun l D A => c_X13_sayAll l D A e64) ?_
    refine ww_aload_n 67 X dX13_sayHead_67 0 rfl rfl ?_
    refine ww_aload_n 68 X dX13_sayHead_68 0 rfl rfl ?_
    obtain ⟨v69, e69, h⟩ := bO_some h
    refine ww_getR 69 X dX13_sayHead_69 fG_X13_227 e69 ?_
    refine ww_sipush 72 X (v := (8200 : Int32)) dX13_sayHead_72 (by decide) ?_
    refine ww_iload_n 75 X dX13_sayHead_75 1 rfl rfl ?_
    refine ww_imul 76 X dX13_sayHead_76 ?_
    refine ww_aload_n 77 X dX13_sayHead_77 0 rfl rfl ?_
    obtain ⟨v78, e78, h⟩ := bO_some h
    refine ww_getR 78 X dX13_sayHead_78 fG_X13_230 e78 ?_
    refine ww_iload_n 81 X dX13_sayHead_81 1 rfl rfl ?_
    obtain ⟨v82, e82, h⟩ := bO_some h
    refine ww_iald 82 X dX13_sayHead_82 e82 ?_
    obtain ⟨_, f83, h⟩ := bO_some h
    obtain ⟨M83, e83, h⟩ := bO_some h
    refine ww_callVV0 83 X dX13_sayHead_83 mY_X13_sayString mL_X13_486 (rcv_spec f83) ⟨_, _, rfl⟩ (by decide) (As := [.ref v69, .int ((8200 : Int32) * l1), .int v82]) (rest := []) rfl rfl ⟨Nat.le_of_ble_eq_true rfl, Nat.le_of_ble_eq_true rfl⟩ (Nat.le_of_ble_eq_true rfl) (fun l D A => c_X13_sayString l D A e83) ?_
    exact ww_vretE 86 X hQ dX13_sayHead_86 h
set_option maxHeartbeats 4000000 in
set_option maxRecDepth 100000 in
theorem wP_X13_sayHead {G : mG} {F : Nat} {x : mXT} {sz : Nat} {M0 : mM} (X : mCX G RX13 cX13_sayHead 5 none "sayHead" rmX13_sayHead x) (hQ : mQV x M0 (sz, 0, 0)) {l0 : Nat} {l1 : Int32} {l2 : Nat} {l3 : Int32} {l4 : Int32} {M : mM} (h : P_X13_sayHead G F l0 l1 l2 l3 l4 M = some M0) : WW x (sz, 0, 0) M 0 [(0, .ref l0), (1, .int l1), (2, .ref l2), (3, .int l3), (4, .int l4)] [] := by
  unfold P_X13_sayHead at h
  refine ww_aload_n 0 X dX13_sayHead_0 0 rfl rfl ?_
  refine ww_iconst 1 X (v := (0 : Int32)) dX13_sayHead_1 (by decide) ?_
  obtain ⟨M2, e2, h⟩ := bO_some h
  refine ww_putI 2 X dX13_sayHead_2 (fP_X13_467 _) e2 ?_
  refine ww_aload_n 5 X dX13_sayHead_5 0 rfl rfl ?_
  refine ww_ldsw 6 X (j := 109) dX13_sayHead_6 rfl ?_
  obtain ⟨_, f9, h⟩ := bO_some h
  obtain ⟨M9, e9, h⟩ := bO_some h
  refine ww_callVV0 9 X dX13_sayHead_9 mY_X13_sayAll mL_X13_477 (rcv_spec f9) ⟨_, _, rfl⟩ (by decide) (As := [.ref (G.1 109)]) (rest := []) rfl rfl ⟨Nat.le_of_ble_eq_true rfl, Nat.le_of_ble_eq_true rfl⟩ (Nat.le_of_ble_eq_true rfl) (fun l D A => c_X13_sayAll l D A e9) ?_
  refine ww_aload_n 12 X dX13_sayHead_12 0 rfl rfl ?_
  refine ww_aload_n 13 X dX13_sayHead_13 2 rfl rfl ?_
  refine ww_iload_n 14 X dX13_sayHead_14 3 rfl rfl ?_
  obtain ⟨_, f15, h⟩ := bO_some h
  obtain ⟨M15, e15, h⟩ := bO_some h
  refine ww_callVV0 15 X dX13_sayHead_15 mY_X13_sayWord mL_X13_984 (rcv_spec f15) ⟨_, _, rfl⟩ (by decide) (As := [.ref l2, .int l3]) (rest := []) rfl rfl ⟨Nat.le_of_ble_eq_true rfl, Nat.le_of_ble_eq_true rfl⟩ (Nat.le_of_ble_eq_true rfl) (fun l D A => c_X13_sayWord l D A e15) ?_
  refine ww_aload_n 18 X dX13_sayHead_18 0 rfl rfl ?_
  refine ww_bipush 19 X (v := (34 : Int32)) dX13_sayHead_19 (by decide) ?_
  obtain ⟨_, f21, h⟩ := bO_some h
  obtain ⟨M21, e21, h⟩ := bO_some h
  refine ww_callVV0 21 X dX13_sayHead_21 mY_X13_say mL_X13_470 (rcv_spec f21) ⟨_, _, rfl⟩ (by decide) (As := [.int (34 : Int32)]) (rest := []) rfl rfl ⟨Nat.le_of_ble_eq_true rfl, Nat.le_of_ble_eq_true rfl⟩ (Nat.le_of_ble_eq_true rfl) (fun l D A => c_X13_say l D A e21) ?_
  refine ww_iload 24 X dX13_sayHead_24 4 rfl ?_
  refine ww_if_lt 26 51 X dX13_sayHead_26 (by decide) (fun q => ?_) (fun q => ?_)
  · replace h := (if_pos q).symm.trans h
    exact ww_sub [0, 1] rfl (wB_X13_sayHead_51 X hQ h)
  · replace h := (if_neg q).symm.trans h
    refine ww_aload_n 29 X dX13_sayHead_29 0 rfl rfl ?_
    refine ww_ldsw 30 X (j := 110) dX13_sayHead_30 rfl ?_
    obtain ⟨_, f33, h⟩ := bO_some h
    obtain ⟨M33, e33, h⟩ := bO_some h
    refine ww_callVV0 33 X dX13_sayHead_33 mY_X13_sayAll mL_X13_477 (rcv_spec f33) ⟨_, _, rfl⟩ (by decide) (As := [.ref (G.1 110)]) (rest := []) rfl rfl ⟨Nat.le_of_ble_eq_true rfl, Nat.le_of_ble_eq_true rfl⟩ (Nat.le_of_ble_eq_true rfl) (fun l D A => c_X13_sayAll l D A e33) ?_
    refine ww_aload_n 36 X dX13_sayHead_36 0 rfl rfl ?_
    refine ww_ldsw 37 X (j := 111) dX13_sayHead_37 rfl ?_
    refine ww_iload 40 X dX13_sayHead_40 4 rfl ?_
    obtain ⟨_, f42, h⟩ := bO_some h
    obtain ⟨M42, e42, h⟩ := bO_some h
    refine ww_callVV0 42 X dX13_sayHead_42 mY_X13_sayWord mL_X13_984 (rcv_spec f42) ⟨_, _, rfl⟩ (by decide) (As := [.ref (G.1 111), .int l4]) (rest := []) rfl rfl ⟨Nat.le_of_ble_eq_true rfl, Nat.le_of_ble_eq_true rfl⟩ (Nat.le_of_ble_eq_true rfl) (fun l D A => c_X13_sayWord l D A e42) ?_
    refine ww_aload_n 45 X dX13_sayHead_45 0 rfl rfl ?_
    refine ww_bipush 46 X (v := (34 : Int32)) dX13_sayHead_46 (by decide) ?_
    obtain ⟨_, f48, h⟩ := bO_some h
    obtain ⟨M48, e48, h⟩ := bO_some h
    refine ww_callVV0 48 X dX13_sayHead_48 mY_X13_say mL_X13_470 (rcv_spec f48) ⟨_, _, rfl⟩ (by decide) (As := [.int (34 : Int32)]) (rest := []) rfl rfl ⟨Nat.le_of_ble_eq_true rfl, Nat.le_of_ble_eq_true rfl⟩ (Nat.le_of_ble_eq_true rfl) (fun l D A => c_X13_say l D A e48) ?_
    exact ww_sub [0, 1] rfl (wB_X13_sayHead_51 X hQ h)
theorem c_X13_sayHead {G : mG} {F sz : Nat} {M0 : mM} (l : Launch) (D : mD) (A : Nat → Prop) {l0 : Nat} {l1 : Int32} {l2 : Nat} {l3 : Int32} {l4 : Int32} {M : mM} (h : P_X13_sayHead G F l0 l1 l2 l3 l4 M = some M0) : mMetV l D G A yX13_sayHead cX13_sayHead 5 none 6 133 0 0 [.ref l0, .int l1, .ref l2, .int l3, .int l4] M sz M0 sz := mMetV_of l D G A (by decide) (Nat.le_of_ble_eq_true rfl) (fun x X hQ => wP_X13_sayHead X hQ h)
/-! SealedTokensModel.addLetters([BII)V -/
theorem dX13_addLetters_0 : decode cX13_addLetters 0 = .ok (.iconst 0, 1) := by decide +kernel
theorem dX13_addLetters_1 : decode cX13_addLetters 1 = .ok (.istore 4, 2) := by decide +kernel
theorem dX13_addLetters_3 : decode cX13_addLetters 3 = .ok (.iconst 0, 1) := by decide +kernel
theorem dX13_addLetters_4 : decode cX13_addLetters 4 = .ok (.istore 5, 2) := by decide +kernel
theorem dX13_addLetters_6 : decode cX13_addLetters 6 = .ok (.iconst 0, 1) := by decide +kernel
theorem dX13_addLetters_7 : decode cX13_addLetters 7 = .ok (.istore 6, 2) := by decide +kernel
theorem dX13_addLetters_9 : decode cX13_addLetters 9 = .ok (.iload 6, 2) := by decide +kernel
theorem dX13_addLetters_11 : decode cX13_addLetters 11 = .ok (.iload_n 3, 1) := by decide +kernel
theorem dX13_addLetters_12 : decode cX13_addLetters 12 = .ok (.if_icmp .ge 74, 3) := by decide +kernel
theorem dX13_addLetters_15 : decode cX13_addLetters 15 = .ok (.iload 4, 2) := by decide +kernel
theorem dX13_addLetters_17 : decode cX13_addLetters 17 = .ok (.bipush 8, 2) := by decide +kernel
theorem dX13_addLetters_19 : decode cX13_addLetters 19 = .ok (.ishl, 1) := by decide +kernel
theorem dX13_addLetters_20 : decode cX13_addLetters 20 = .ok (.aload_n 1, 1) := by decide +kernel
theorem dX13_addLetters_21 : decode cX13_addLetters 21 = .ok (.iload_n 2, 1) := by decide +kernel
theorem dX13_addLetters_22 : decode cX13_addLetters 22 = .ok (.iload 6, 2) := by decide +kernel
theorem dX13_addLetters_24 : decode cX13_addLetters 24 = .ok (.iadd, 1) := by decide +kernel
theorem dX13_addLetters_25 : decode cX13_addLetters 25 = .ok (.baload, 1) := by decide +kernel
theorem dX13_addLetters_26 : decode cX13_addLetters 26 = .ok (.sipush 255, 3) := by decide +kernel
theorem dX13_addLetters_29 : decode cX13_addLetters 29 = .ok (.iand, 1) := by decide +kernel
theorem dX13_addLetters_30 : decode cX13_addLetters 30 = .ok (.ior, 1) := by decide +kernel
theorem dX13_addLetters_31 : decode cX13_addLetters 31 = .ok (.istore 4, 2) := by decide +kernel
theorem dX13_addLetters_33 : decode cX13_addLetters 33 = .ok (.iinc 5 8, 3) := by decide +kernel
theorem dX13_addLetters_36 : decode cX13_addLetters 36 = .ok (.iload 5, 2) := by decide +kernel
theorem dX13_addLetters_38 : decode cX13_addLetters 38 = .ok (.bipush 6, 2) := by decide +kernel
theorem dX13_addLetters_40 : decode cX13_addLetters 40 = .ok (.if_icmp .lt 40, 3) := by decide +kernel
theorem dX13_addLetters_43 : decode cX13_addLetters 43 = .ok (.iinc 5 (-6), 3) := by decide +kernel
theorem dX13_addLetters_46 : decode cX13_addLetters 46 = .ok (.aload_n 0, 1) := by decide +kernel
theorem dX13_addLetters_47 : decode cX13_addLetters 47 = .ok (.getfield 279, 3) := by decide +kernel
theorem dX13_addLetters_50 : decode cX13_addLetters 50 = .ok (.aload_n 0, 1) := by decide +kernel
theorem dX13_addLetters_51 : decode cX13_addLetters 51 = .ok (.getfield 992, 3) := by decide +kernel
theorem dX13_addLetters_54 : decode cX13_addLetters 54 = .ok (.iload 4, 2) := by decide +kernel
theorem dX13_addLetters_56 : decode cX13_addLetters 56 = .ok (.iload 5, 2) := by decide +kernel
theorem dX13_addLetters_58 : decode cX13_addLetters 58 = .ok (.ishr, 1) := by decide +kernel
theorem dX13_addLetters_59 : decode cX13_addLetters 59 = .ok (.bipush 63, 2) := by decide +kernel
theorem dX13_addLetters_61 : decode cX13_addLetters 61 = .ok (.iand, 1) := by decide +kernel
theorem dX13_addLetters_62 : decode cX13_addLetters 62 = .ok (.invokestatic 490, 3) := by decide +kernel
theorem dX13_addLetters_65 : decode cX13_addLetters 65 = .ok (.i2b, 1) := by decide +kernel
theorem dX13_addLetters_66 : decode cX13_addLetters 66 = .ok (.bastore, 1) := by decide +kernel
theorem dX13_addLetters_67 : decode cX13_addLetters 67 = .ok (.aload_n 0, 1) := by decide +kernel
theorem dX13_addLetters_68 : decode cX13_addLetters 68 = .ok (.dup, 1) := by decide +kernel
theorem dX13_addLetters_69 : decode cX13_addLetters 69 = .ok (.getfield 992, 3) := by decide +kernel
theorem dX13_addLetters_72 : decode cX13_addLetters 72 = .ok (.iconst 1, 1) := by decide +kernel
theorem dX13_addLetters_73 : decode cX13_addLetters 73 = .ok (.iadd, 1) := by decide +kernel
theorem dX13_addLetters_74 : decode cX13_addLetters 74 = .ok (.putfield 992, 3) := by decide +kernel
theorem dX13_addLetters_77 : decode cX13_addLetters 77 = .ok (.goto (-41), 3) := by decide +kernel
theorem dX13_addLetters_80 : decode cX13_addLetters 80 = .ok (.iinc 6 1, 3) := by decide +kernel
theorem dX13_addLetters_83 : decode cX13_addLetters 83 = .ok (.goto (-74), 3) := by decide +kernel
theorem dX13_addLetters_86 : decode cX13_addLetters 86 = .ok (.iload 5, 2) := by decide +kernel
theorem dX13_addLetters_88 : decode cX13_addLetters 88 = .ok (.ifCond .le 37, 3) := by decide +kernel
theorem dX13_addLetters_91 : decode cX13_addLetters 91 = .ok (.aload_n 0, 1) := by decide +kernel
theorem dX13_addLetters_92 : decode cX13_addLetters 92 = .ok (.getfield 279, 3) := by decide +kernel
theorem dX13_addLetters_95 : decode cX13_addLetters 95 = .ok (.aload_n 0, 1) := by decide +kernel
theorem dX13_addLetters_96 : decode cX13_addLetters 96 = .ok (.getfield 992, 3) := by decide +kernel
theorem dX13_addLetters_99 : decode cX13_addLetters 99 = .ok (.iload 4, 2) := by decide +kernel
theorem dX13_addLetters_101 : decode cX13_addLetters 101 = .ok (.bipush 6, 2) := by decide +kernel
theorem dX13_addLetters_103 : decode cX13_addLetters 103 = .ok (.iload 5, 2) := by decide +kernel
theorem dX13_addLetters_105 : decode cX13_addLetters 105 = .ok (.isub, 1) := by decide +kernel
theorem dX13_addLetters_106 : decode cX13_addLetters 106 = .ok (.ishl, 1) := by decide +kernel
theorem dX13_addLetters_107 : decode cX13_addLetters 107 = .ok (.bipush 63, 2) := by decide +kernel
theorem dX13_addLetters_109 : decode cX13_addLetters 109 = .ok (.iand, 1) := by decide +kernel
theorem dX13_addLetters_110 : decode cX13_addLetters 110 = .ok (.invokestatic 490, 3) := by decide +kernel
theorem dX13_addLetters_113 : decode cX13_addLetters 113 = .ok (.i2b, 1) := by decide +kernel
theorem dX13_addLetters_114 : decode cX13_addLetters 114 = .ok (.bastore, 1) := by decide +kernel
theorem dX13_addLetters_115 : decode cX13_addLetters 115 = .ok (.aload_n 0, 1) := by decide +kernel
theorem dX13_addLetters_116 : decode cX13_addLetters 116 = .ok (.dup, 1) := by decide +kernel
theorem dX13_addLetters_117 : decode cX13_addLetters 117 = .ok (.getfield 992, 3) := by decide +kernel
theorem dX13_addLetters_120 : decode cX13_addLetters 120 = .ok (.iconst 1, 1) := by decide +kernel
theorem dX13_addLetters_121 : decode cX13_addLetters 121 = .ok (.iadd, 1) := by decide +kernel
theorem dX13_addLetters_122 : decode cX13_addLetters 122 = .ok (.putfield 992, 3) := by decide +kernel
theorem dX13_addLetters_125 : decode cX13_addLetters 125 = .ok (.return_, 1) := by decide +kernel
abbrev rmX13_addLetters : Room := { frames := 1, cells := 0, slots := 0, locals := 20 }
set_option maxHeartbeats 4000000 in
set_option maxRecDepth 100000 in
theorem wB_X13_addLetters_36 {G : mG} {F : Nat} {x : mXT} {sz : Nat} {M0 : mM} (X : mCX G RX13 cX13_addLetters 7 none "addLetters" rmX13_addLetters x) (hQ : mQV x M0 (sz, 0, 0)) (r9 : Nat → Nat → Int32 → Int32 → Int32 → Int32 → Int32 → mM → Option mM) (hr9 : ∀ (l0 : Nat) (l1 : Nat) (l2 : Int32) (l3 : Int32) (l4 : Int32) (l5 : Int32) (l6 : Int32) (M : mM), r9 l0 l1 l2 l3 l4 l5 l6 M = some M0 → WW x (sz, 0, 0) M 9 [(0, .ref l0), (1, .ref l1), (2, .int l2), (3, .int l3), (4, .int l4), (5, .int l5), (6, .int l6)] []) : ∀ (n : Nat) (l0 : Nat) (l1 : Nat) (l2 : Int32) (l3 : Int32) (l4 : Int32) (l5 : Int32) (l6 : Int32) (M : mM), B_X13_addLetters_36 G F r9 n l0 l1 l2 l3 l4 l5 l6 M = some M0 → WW x (sz, 0, 0) M 36 [(0, .ref l0), (1, .ref l1), (2, .int l2), (3, .int l3), (4, .int l4), (5, .int l5), (6, .int l6)] [] := by
  intro n
  induction n with
  | zero =>
    intro l0 l1 l2 l3 l4 l5 l6 M h
    exact nomatch (show (none : Option mM) = some M0 from h)
  | succ n ih =>
    intro l0 l1 l2 l3 l4 l5 l6 M h
    rw [B_X13_addLetters_36] at h
    refine ww_iload 36 X dX13_addLetters_36 5 rfl ?_
    refine ww_bipush 38 X (v := (6 : Int32)) dX13_addLetters_38 (by decide) ?_
    refine ww_icmp_lt 40 80 X dX13_addLetters_40 (by decide) (fun q => ?_) (fun q => ?_)
    · replace h := (if_pos q).symm.trans h
      refine ww_iinc 80 X dX13_addLetters_80 (lv' := [(0, .ref l0), (1, .ref l1), (2, .int l2), (3, .int l3), (4, .int l4), (5, .int l5), (6, .int (l6 + 1))]) 6 rfl rfl (by decide) [1, 2, 3, 4, 5, 6, 0] rfl ?_
      refine ww_goto 83 9 X dX13_addLetters_83 (by decide) ?_
      exact (hr9 _ _ _ _ _ _ _ _ h)
    · replace h := (if_neg q).symm.trans h
      refine ww_iinc 43 X dX13_addLetters_43 (lv' := [(0, .ref l0), (1, .ref l1), (2, .int l2), (3, .int l3), (4, .int l4), (5, .int (l5 + (-6))), (6, .int l6)]) 5 rfl rfl (by decide) [1, 2, 3, 4, 5, 0, 6] rfl ?_
      refine ww_aload_n 46 X dX13_addLetters_46 0 rfl rfl ?_
      obtain ⟨v47, e47, h⟩ := bO_some h
      refine ww_getR 47 X dX13_addLetters_47 fG_X13_279 e47 ?_
      refine ww_aload_n 50 X dX13_addLetters_50 0 rfl rfl ?_
      obtain ⟨v51, e51, h⟩ := bO_some h
      refine ww_getI 51 X dX13_addLetters_51 fG_X13_992 e51 ?_
      refine ww_iload 54 X dX13_addLetters_54 4 rfl ?_
      refine ww_iload 56 X dX13_addLetters_56 5 rfl ?_
      refine ww_ishr 58 X dX13_addLetters_58 ?_
      refine ww_bipush 59 X (v := (63 : Int32)) dX13_addLetters_59 (by decide) ?_
      refine ww_iand 61 X dX13_addLetters_61 ?_
      obtain ⟨v62, M62, e62, h⟩ := bP_some h
      refine ww_callSI0 62 X dX13_addLetters_62 mY_X13_letterOf mL_X13_490 (As := [.int ((l4 >>> ((l5 + (-6)) &&& 31)) &&& (63 : Int32))]) (rest := [.int v51, .ref v47]) rfl rfl ⟨Nat.le_of_ble_eq_true rfl, Nat.le_of_ble_eq_true rfl⟩ (Nat.le_of_ble_eq_true rfl) (fun l D A => c_X13_letterOf l D A e62) ?_
      refine ww_i2b 65 X dX13_addLetters_65 ?_
      obtain ⟨M66, e66, h⟩ := bO_some h
      refine ww_bast 66 X dX13_addLetters_66 e66 ?_
      refine ww_aload_n 67 X dX13_addLetters_67 0 rfl rfl ?_
      refine ww_dup 68 X dX13_addLetters_68 rfl ?_
      obtain ⟨v69, e69, h⟩ := bO_some h
      refine ww_getI 69 X dX13_addLetters_69 fG_X13_992 e69 ?_
      refine ww_iconst 72 X (v := (1 : Int32)) dX13_addLetters_72 (by decide) ?_
      refine ww_iadd 73 X dX13_addLetters_73 ?_
      obtain ⟨M74, e74, h⟩ := bO_some h
      refine ww_putI 74 X dX13_addLetters_74 (fP_X13_992 _) e74 ?_
      refine ww_goto 77 36 X dX13_addLetters_77 (by decide) ?_
      exact (ih _ _ _ _ _ _ _ _ h)
set_option maxHeartbeats 4000000 in
set_option maxRecDepth 100000 in
theorem wB_X13_addLetters_9 {G : mG} {F : Nat} {x : mXT} {sz : Nat} {M0 : mM} (X : mCX G RX13 cX13_addLetters 7 none "addLetters" rmX13_addLetters x) (hQ : mQV x M0 (sz, 0, 0)) : ∀ (n : Nat) (l0 : Nat) (l1 : Nat) (l2 : Int32) (l3 : Int32) (l4 : Int32) (l5 : Int32) (l6 : Int32) (M : mM), B_X13_addLetters_9 G F n l0 l1 l2 l3 l4 l5 l6 M = some M0 → WW x (sz, 0, 0) M 9 [(0, .ref l0), (1, .ref l1), (2, .int l2), (3, .int l3), (4, .int l4), (5, .int l5), (6, .int l6)] [] := by
  intro n
  induction n with
  | zero =>
    intro l0 l1 l2 l3 l4 l5 l6 M h
    exact nomatch (show (none : Option mM) = some M0 from h)
  | succ n ih =>
    intro l0 l1 l2 l3 l4 l5 l6 M h
    rw [B_X13_addLetters_9] at h
    refine ww_iload 9 X dX13_addLetters_9 6 rfl ?_
    refine ww_iload_n 11 X dX13_addLetters_11 3 rfl rfl ?_
    refine ww_icmp_ge 12 86 X dX13_addLetters_12 (by decide) (fun q => ?_) (fun q => ?_)
    · replace h := (if_pos q).symm.trans h
      refine ww_iload 86 X dX13_addLetters_86 5 rfl ?_
      refine ww_if_le 88 125 X dX13_addLetters_88 (by decide) (fun q => ?_) (fun q => ?_)
      · replace h := (if_pos q).symm.trans h
        exact ww_vretE 125 X hQ dX13_addLetters_125 h
      · replace h := (if_neg q).symm.trans h
        refine ww_aload_n 91 X dX13_addLetters_91 0 rfl rfl ?_
        obtain ⟨v92, e92, h⟩ := bO_some h
        refine ww_getR 92 X dX13_addLetters_92 fG_X13_279 e92 ?_
        refine ww_aload_n 95 X dX13_addLetters_95 0 rfl rfl ?_
        obtain ⟨v96, e96, h⟩ := bO_some h
        refine ww_getI 96 X dX13_addLetters_96 fG_X13_992 e96 ?_
        refine ww_iload 99 X dX13_addLetters_99 4 rfl ?_
        refine ww_bipush 101 X (v := (6 : Int32)) dX13_addLetters_101 (by decide) ?_
        refine ww_iload 103 X dX13_addLetters_103 5 rfl ?_
        refine ww_isub 105 X dX13_addLetters_105 ?_
        refine ww_ishl 106 X dX13_addLetters_106 ?_
        refine ww_bipush 107 X (v := (63 : Int32)) dX13_addLetters_107 (by decide) ?_
        refine ww_iand 109 X dX13_addLetters_109 ?_
        obtain ⟨v110, M110, e110, h⟩ := bP_some h
        refine ww_callSI0 110 X dX13_addLetters_110 mY_X13_letterOf mL_X13_490 (As := [.int ((l4 <<< (((6 : Int32) - l5) &&& 31)) &&& (63 : Int32))]) (rest := [.int v96, .ref v92]) rfl rfl ⟨Nat.le_of_ble_eq_true rfl, Nat.le_of_ble_eq_true rfl⟩ (Nat.le_of_ble_eq_true rfl) (fun l D A => c_X13_letterOf l D A e110) ?_
        refine ww_i2b 113 X dX13_addLetters_113 ?_
        obtain ⟨M114, e114, h⟩ := bO_some h
        refine ww_bast 114 X dX13_addLetters_114 e114 ?_
        refine ww_aload_n 115 X dX13_addLetters_115 0 rfl rfl ?_
        refine ww_dup 116 X dX13_addLetters_116 rfl ?_
        obtain ⟨v117, e117, h⟩ := bO_some h
        refine ww_getI 117 X dX13_addLetters_117 fG_X13_992 e117 ?_
        refine ww_iconst 120 X (v := (1 : Int32)) dX13_addLetters_120 (by decide) ?_
        refine ww_iadd 121 X dX13_addLetters_121 ?_
        obtain ⟨M122, e122, h⟩ := bO_some h
        refine ww_putI 122 X dX13_addLetters_122 (fP_X13_992 _) e122 ?_
        exact ww_vretE 125 X hQ dX13_addLetters_125 h
    · replace h := (if_neg q).symm.trans h
      refine ww_iload 15 X dX13_addLetters_15 4 rfl ?_
      refine ww_bipush 17 X (v := (8 : Int32)) dX13_addLetters_17 (by decide) ?_
      refine ww_ishl 19 X dX13_addLetters_19 ?_
      refine ww_aload_n 20 X dX13_addLetters_20 1 rfl rfl ?_
      refine ww_iload_n 21 X dX13_addLetters_21 2 rfl rfl ?_
      refine ww_iload 22 X dX13_addLetters_22 6 rfl ?_
      refine ww_iadd 24 X dX13_addLetters_24 ?_
      obtain ⟨v25, e25, h⟩ := bO_some h
      refine ww_bald 25 X dX13_addLetters_25 e25 ?_
      refine ww_sipush 26 X (v := (255 : Int32)) dX13_addLetters_26 (by decide) ?_
      refine ww_iand 29 X dX13_addLetters_29 ?_
      refine ww_ior 30 X dX13_addLetters_30 ?_
      refine ww_istore 31 X dX13_addLetters_31 (lv' := [(0, .ref l0), (1, .ref l1), (2, .int l2), (3, .int l3), (4, .int ((l4 <<< ((8 : Int32) &&& 31)) ||| (v25 &&& (255 : Int32)))), (5, .int l5), (6, .int l6)]) (by decide) [1, 2, 3, 4, 0, 5, 6] rfl ?_
      refine ww_iinc 33 X dX13_addLetters_33 (lv' := [(0, .ref l0), (1, .ref l1), (2, .int l2), (3, .int l3), (4, .int ((l4 <<< ((8 : Int32) &&& 31)) ||| (v25 &&& (255 : Int32)))), (5, .int (l5 + 8)), (6, .int l6)]) 5 rfl rfl (by decide) [1, 2, 3, 4, 5, 0, 6] rfl ?_
      exact (wB_X13_addLetters_36 X hQ _ ih F _ _ _ _ _ _ _ _ h)
set_option maxHeartbeats 4000000 in
set_option maxRecDepth 100000 in
theorem wP_X13_addLetters {G : mG} {F : Nat} {x : mXT} {sz : Nat} {M0 : mM} (X : mCX G RX13 cX13_addLetters 7 none "addLetters" rmX13_addLetters x) (hQ : mQV x M0 (sz, 0, 0)) {l0 : Nat} {l1 : Nat} {l2 : Int32} {l3 : Int32} {M : mM} (h : P_X13_addLetters G F l0 l1 l2 l3 M = some M0) : WW x (sz, 0, 0) M 0 [(0, .ref l0), (1, .ref l1), (2, .int l2), (3, .int l3)] [] := by
  unfold P_X13_addLetters at h
  refine ww_iconst 0 X (v := (0 : Int32)) dX13_addLetters_0 (by decide) ?_
  refine ww_istore 1 X dX13_addLetters_1 (lv' := [(0, .ref l0), (1, .ref l1), (2, .int l2), (3, .int l3), (4, .int (0 : Int32))]) (by decide) [1, 2, 3, 4, 0] rfl ?_
  refine ww_iconst 3 X (v := (0 : Int32)) dX13_addLetters_3 (by decide) ?_
  refine ww_istore 4 X dX13_addLetters_4 (lv' := [(0, .ref l0), (1, .ref l1), (2, .int l2), (3, .int l3), (4, .int (0 : Int32)), (5, .int (0 : Int32))]) (by decide) [1, 2, 3, 4, 5, 0] rfl ?_
  refine ww_iconst 6 X (v := (0 : Int32)) dX13_addLetters_6 (by decide) ?_
  refine ww_istore 7 X dX13_addLetters_7 (lv' := [(0, .ref l0), (1, .ref l1), (2, .int l2), (3, .int l3), (4, .int (0 : Int32)), (5, .int (0 : Int32)), (6, .int (0 : Int32))]) (by decide) [1, 2, 3, 4, 5, 6, 0] rfl ?_
  exact (wB_X13_addLetters_9 X hQ F _ _ _ _ _ _ _ _ h)
theorem c_X13_addLetters {G : mG} {F sz : Nat} {M0 : mM} (l : Launch) (D : mD) (A : Nat → Prop) {l0 : Nat} {l1 : Nat} {l2 : Int32} {l3 : Int32} {M : mM} (h : P_X13_addLetters G F l0 l1 l2 l3 M = some M0) : mMetV l D G A yX13_addLetters cX13_addLetters 7 none 1 20 0 0 [.ref l0, .ref l1, .int l2, .int l3] M sz M0 sz := mMetV_of l D G A (by decide) (Nat.le_of_ble_eq_true rfl) (fun x X hQ => wP_X13_addLetters X hQ h)
/-! SealedTokensModel.addByte(I)V -/
theorem dX13_addByte_0 : decode cX13_addByte 0 = .ok (.aload_n 0, 1) := by decide +kernel
theorem dX13_addByte_1 : decode cX13_addByte 1 = .ok (.getfield 279, 3) := by decide +kernel
theorem dX13_addByte_4 : decode cX13_addByte 4 = .ok (.aload_n 0, 1) := by decide +kernel
theorem dX13_addByte_5 : decode cX13_addByte 5 = .ok (.getfield 992, 3) := by decide +kernel
theorem dX13_addByte_8 : decode cX13_addByte 8 = .ok (.iload_n 1, 1) := by decide +kernel
theorem dX13_addByte_9 : decode cX13_addByte 9 = .ok (.i2b, 1) := by decide +kernel
theorem dX13_addByte_10 : decode cX13_addByte 10 = .ok (.bastore, 1) := by decide +kernel
theorem dX13_addByte_11 : decode cX13_addByte 11 = .ok (.aload_n 0, 1) := by decide +kernel
theorem dX13_addByte_12 : decode cX13_addByte 12 = .ok (.dup, 1) := by decide +kernel
theorem dX13_addByte_13 : decode cX13_addByte 13 = .ok (.getfield 992, 3) := by decide +kernel
theorem dX13_addByte_16 : decode cX13_addByte 16 = .ok (.iconst 1, 1) := by decide +kernel
theorem dX13_addByte_17 : decode cX13_addByte 17 = .ok (.iadd, 1) := by decide +kernel
theorem dX13_addByte_18 : decode cX13_addByte 18 = .ok (.putfield 992, 3) := by decide +kernel
theorem dX13_addByte_21 : decode cX13_addByte 21 = .ok (.return_, 1) := by decide +kernel
abbrev rmX13_addByte : Room := { frames := 0, cells := 0, slots := 0, locals := 0 }
set_option maxHeartbeats 4000000 in
set_option maxRecDepth 100000 in
theorem wP_X13_addByte {G : mG} {F : Nat} {x : mXT} {sz : Nat} {M0 : mM} (X : mCX G RX13 cX13_addByte 2 none "addByte" rmX13_addByte x) (hQ : mQV x M0 (sz, 0, 0)) {l0 : Nat} {l1 : Int32} {M : mM} (h : P_X13_addByte G F l0 l1 M = some M0) : WW x (sz, 0, 0) M 0 [(0, .ref l0), (1, .int l1)] [] := by
  unfold P_X13_addByte at h
  refine ww_aload_n 0 X dX13_addByte_0 0 rfl rfl ?_
  obtain ⟨v1, e1, h⟩ := bO_some h
  refine ww_getR 1 X dX13_addByte_1 fG_X13_279 e1 ?_
  refine ww_aload_n 4 X dX13_addByte_4 0 rfl rfl ?_
  obtain ⟨v5, e5, h⟩ := bO_some h
  refine ww_getI 5 X dX13_addByte_5 fG_X13_992 e5 ?_
  refine ww_iload_n 8 X dX13_addByte_8 1 rfl rfl ?_
  refine ww_i2b 9 X dX13_addByte_9 ?_
  obtain ⟨M10, e10, h⟩ := bO_some h
  refine ww_bast 10 X dX13_addByte_10 e10 ?_
  refine ww_aload_n 11 X dX13_addByte_11 0 rfl rfl ?_
  refine ww_dup 12 X dX13_addByte_12 rfl ?_
  obtain ⟨v13, e13, h⟩ := bO_some h
  refine ww_getI 13 X dX13_addByte_13 fG_X13_992 e13 ?_
  refine ww_iconst 16 X (v := (1 : Int32)) dX13_addByte_16 (by decide) ?_
  refine ww_iadd 17 X dX13_addByte_17 ?_
  obtain ⟨M18, e18, h⟩ := bO_some h
  refine ww_putI 18 X dX13_addByte_18 (fP_X13_992 _) e18 ?_
  exact ww_vretE 21 X hQ dX13_addByte_21 h
theorem c_X13_addByte {G : mG} {F sz : Nat} {M0 : mM} (l : Launch) (D : mD) (A : Nat → Prop) {l0 : Nat} {l1 : Int32} {M : mM} (h : P_X13_addByte G F l0 l1 M = some M0) : mMetV l D G A yX13_addByte cX13_addByte 2 none 0 0 0 0 [.ref l0, .int l1] M sz M0 sz := mMetV_of l D G A (by decide) (Nat.le_of_ble_eq_true rfl) (fun x X hQ => wP_X13_addByte X hQ h)
/-! SealedTokensModel.saidOut()I -/
theorem dX13_saidOut_0 : decode cX13_saidOut 0 = .ok (.aload_n 0, 1) := by decide +kernel
theorem dX13_saidOut_1 : decode cX13_saidOut 1 = .ok (.getfield 992, 3) := by decide +kernel
theorem dX13_saidOut_4 : decode cX13_saidOut 4 = .ok (.sipush 8192, 3) := by decide +kernel
theorem dX13_saidOut_7 : decode cX13_saidOut 7 = .ok (.if_icmp .le 8, 3) := by decide +kernel
theorem dX13_saidOut_10 : decode cX13_saidOut 10 = .ok (.bipush (-3), 2) := by decide +kernel
theorem dX13_saidOut_12 : decode cX13_saidOut 12 = .ok (.goto 16, 3) := by decide +kernel
theorem dX13_saidOut_15 : decode cX13_saidOut 15 = .ok (.aload_n 0, 1) := by decide +kernel
theorem dX13_saidOut_16 : decode cX13_saidOut 16 = .ok (.aload_n 0, 1) := by decide +kernel
theorem dX13_saidOut_17 : decode cX13_saidOut 17 = .ok (.getfield 279, 3) := by decide +kernel
theorem dX13_saidOut_20 : decode cX13_saidOut 20 = .ok (.iconst 0, 1) := by decide +kernel
theorem dX13_saidOut_21 : decode cX13_saidOut 21 = .ok (.aload_n 0, 1) := by decide +kernel
theorem dX13_saidOut_22 : decode cX13_saidOut 22 = .ok (.getfield 992, 3) := by decide +kernel
theorem dX13_saidOut_25 : decode cX13_saidOut 25 = .ok (.invokevirtual 463, 3) := by decide +kernel
theorem dX13_saidOut_28 : decode cX13_saidOut 28 = .ok (.ireturn, 1) := by decide +kernel
abbrev rmX13_saidOut : Room := { frames := 2, cells := 0, slots := 0, locals := 48 }
set_option maxHeartbeats 4000000 in
set_option maxRecDepth 100000 in
theorem wP_X13_saidOut {G : mG} {F : Nat} {x : mXT} {sz : Nat} {r0 : Int32} {M0 : mM} (X : mCX G RX13 cX13_saidOut 1 (some .int) "saidOut" rmX13_saidOut x) (hQ : mQI x r0 M0 (sz, 0, 0)) {l0 : Nat} {M : mM} (h : P_X13_saidOut G F l0 M = some (r0, M0)) : WW x (sz, 0, 0) M 0 [(0, .ref l0)] [] := by
  unfold P_X13_saidOut at h
  refine ww_aload_n 0 X dX13_saidOut_0 0 rfl rfl ?_
  obtain ⟨v1, e1, h⟩ := bO_some h
  refine ww_getI 1 X dX13_saidOut_1 fG_X13_992 e1 ?_
  refine ww_sipush 4 X (v := (8192 : Int32)) dX13_saidOut_4 (by decide) ?_
  refine ww_icmp_le 7 15 X dX13_saidOut_7 (by decide) (fun q => ?_) (fun q => ?_)
  · replace h := (if_pos q).symm.trans h
    refine ww_aload_n 15 X dX13_saidOut_15 0 rfl rfl ?_
    refine ww_aload_n 16 X dX13_saidOut_16 0 rfl rfl ?_
    obtain ⟨v17, e17, h⟩ := bO_some h
    refine ww_getR 17 X dX13_saidOut_17 fG_X13_279 e17 ?_
    refine ww_iconst 20 X (v := (0 : Int32)) dX13_saidOut_20 (by decide) ?_
    refine ww_aload_n 21 X dX13_saidOut_21 0 rfl rfl ?_
    obtain ⟨v22, e22, h⟩ := bO_some h
    refine ww_getI 22 X dX13_saidOut_22 fG_X13_992 e22 ?_
    obtain ⟨_, f25, h⟩ := bO_some h
    obtain ⟨v25, M25, e25, h⟩ := bP_some h
    refine ww_callVI0 25 X dX13_saidOut_25 mY_X13_tell mL_X13_463 (rcv_spec f25) ⟨_, _, rfl⟩ (by decide) (As := [.ref v17, .int (0 : Int32), .int v22]) (rest := []) rfl rfl ⟨Nat.le_of_ble_eq_true rfl, Nat.le_of_ble_eq_true rfl⟩ (Nat.le_of_ble_eq_true rfl) (fun l D A => c_X13_tell l D A e25) ?_
    exact ww_iretE 28 X hQ dX13_saidOut_28 h
  · replace h := (if_neg q).symm.trans h
    refine ww_bipush 10 X (v := (-3 : Int32)) dX13_saidOut_10 (by decide) ?_
    refine ww_goto 12 28 X dX13_saidOut_12 (by decide) ?_
    exact ww_iretE 28 X hQ dX13_saidOut_28 h
theorem c_X13_saidOut {G : mG} {F sz : Nat} {r0 : Int32} {M0 : mM} (l : Launch) (D : mD) (A : Nat → Prop) {l0 : Nat} {M : mM} (h : P_X13_saidOut G F l0 M = some (r0, M0)) : mMetI l D G A yX13_saidOut cX13_saidOut 1 (some .int) 2 48 0 0 [.ref l0] M sz r0 M0 sz := mMetI_of l D G A (by decide) (Nat.le_of_ble_eq_true rfl) (fun x X hQ => wP_X13_saidOut X hQ h)
/-! SealedTokensModel.late(III)I -/
theorem dX13_late_0 : decode cX13_late 0 = .ok (.aload_n 0, 1) := by decide +kernel
theorem dX13_late_1 : decode cX13_late 1 = .ok (.iconst 0, 1) := by decide +kernel
theorem dX13_late_2 : decode cX13_late 2 = .ok (.putfield 579, 3) := by decide +kernel
theorem dX13_late_5 : decode cX13_late 5 = .ok (.aload_n 0, 1) := by decide +kernel
theorem dX13_late_6 : decode cX13_late 6 = .ok (.iload_n 1, 1) := by decide +kernel
theorem dX13_late_7 : decode cX13_late 7 = .ok (.iload_n 2, 1) := by decide +kernel
theorem dX13_late_8 : decode cX13_late 8 = .ok (.iload_n 3, 1) := by decide +kernel
theorem dX13_late_9 : decode cX13_late 9 = .ok (.invokevirtual 1020, 3) := by decide +kernel
theorem dX13_late_12 : decode cX13_late 12 = .ok (.ifCond .ge 8, 3) := by decide +kernel
theorem dX13_late_15 : decode cX13_late 15 = .ok (.bipush (-4), 2) := by decide +kernel
theorem dX13_late_17 : decode cX13_late 17 = .ok (.goto 5, 3) := by decide +kernel
theorem dX13_late_20 : decode cX13_late 20 = .ok (.bipush (-3), 2) := by decide +kernel
theorem dX13_late_22 : decode cX13_late 22 = .ok (.ireturn, 1) := by decide +kernel
abbrev rmX13_late : Room := { frames := 9, cells := 0, slots := 0, locals := 206 }
set_option maxHeartbeats 4000000 in
set_option maxRecDepth 100000 in
theorem wP_X13_late {G : mG} {F : Nat} {x : mXT} {sz : Nat} {r0 : Int32} {M0 : mM} (X : mCX G RX13 cX13_late 4 (some .int) "late" rmX13_late x) (hQ : mQI x r0 M0 (sz, 0, 0)) {l0 : Nat} {l1 : Int32} {l2 : Int32} {l3 : Int32} {M : mM} (h : P_X13_late G F l0 l1 l2 l3 M = some (r0, M0)) : WW x (sz, 0, 0) M 0 [(0, .ref l0), (1, .int l1), (2, .int l2), (3, .int l3)] [] := by
  unfold P_X13_late at h
  refine ww_aload_n 0 X dX13_late_0 0 rfl rfl ?_
  refine ww_iconst 1 X (v := (0 : Int32)) dX13_late_1 (by decide) ?_
  obtain ⟨M2, e2, h⟩ := bO_some h
  refine ww_putI 2 X dX13_late_2 (fP_X13_579 _) e2 ?_
  refine ww_aload_n 5 X dX13_late_5 0 rfl rfl ?_
  refine ww_iload_n 6 X dX13_late_6 1 rfl rfl ?_
  refine ww_iload_n 7 X dX13_late_7 2 rfl rfl ?_
  refine ww_iload_n 8 X dX13_late_8 3 rfl rfl ?_
  obtain ⟨_, f9, h⟩ := bO_some h
  obtain ⟨v9, M9, e9, h⟩ := bP_some h
  refine ww_callVI0 9 X dX13_late_9 mY_X13_signIt mL_X13_1020 (rcv_spec f9) ⟨_, _, rfl⟩ (by decide) (As := [.int l1, .int l2, .int l3]) (rest := []) rfl rfl ⟨Nat.le_of_ble_eq_true rfl, Nat.le_of_ble_eq_true rfl⟩ (Nat.le_of_ble_eq_true rfl) (fun l D A => c_X13_signIt l D A e9) ?_
  refine ww_if_ge 12 20 X dX13_late_12 (by decide) (fun q => ?_) (fun q => ?_)
  · replace h := (if_pos q).symm.trans h
    refine ww_bipush 20 X (v := (-3 : Int32)) dX13_late_20 (by decide) ?_
    exact ww_iretE 22 X hQ dX13_late_22 h
  · replace h := (if_neg q).symm.trans h
    refine ww_bipush 15 X (v := (-4 : Int32)) dX13_late_15 (by decide) ?_
    refine ww_goto 17 22 X dX13_late_17 (by decide) ?_
    exact ww_iretE 22 X hQ dX13_late_22 h
theorem c_X13_late {G : mG} {F sz : Nat} {r0 : Int32} {M0 : mM} (l : Launch) (D : mD) (A : Nat → Prop) {l0 : Nat} {l1 : Int32} {l2 : Int32} {l3 : Int32} {M : mM} (h : P_X13_late G F l0 l1 l2 l3 M = some (r0, M0)) : mMetI l D G A yX13_late cX13_late 4 (some .int) 9 206 0 0 [.ref l0, .int l1, .int l2, .int l3] M sz r0 M0 sz := mMetI_of l D G A (by decide) (Nat.le_of_ble_eq_true rfl) (fun x X hQ => wP_X13_late X hQ h)
/-! SealedTokensModel.sign(IIIII)I -/
theorem dX13_sign_0 : decode cX13_sign 0 = .ok (.aload_n 0, 1) := by decide +kernel
theorem dX13_sign_1 : decode cX13_sign 1 = .ok (.iload_n 1, 1) := by decide +kernel
theorem dX13_sign_2 : decode cX13_sign 2 = .ok (.invokevirtual 871, 3) := by decide +kernel
theorem dX13_sign_5 : decode cX13_sign 5 = .ok (.ifCond .eq 45, 3) := by decide +kernel
theorem dX13_sign_8 : decode cX13_sign 8 = .ok (.iload_n 2, 1) := by decide +kernel
theorem dX13_sign_9 : decode cX13_sign 9 = .ok (.ifCond .lt 41, 3) := by decide +kernel
theorem dX13_sign_12 : decode cX13_sign 12 = .ok (.iload_n 2, 1) := by decide +kernel
theorem dX13_sign_13 : decode cX13_sign 13 = .ok (.iconst 4, 1) := by decide +kernel
theorem dX13_sign_14 : decode cX13_sign 14 = .ok (.if_icmp .gt 36, 3) := by decide +kernel
theorem dX13_sign_17 : decode cX13_sign 17 = .ok (.iload_n 3, 1) := by decide +kernel
theorem dX13_sign_18 : decode cX13_sign 18 = .ok (.iconst (-1), 1) := by decide +kernel
theorem dX13_sign_19 : decode cX13_sign 19 = .ok (.if_icmp .eq 10, 3) := by decide +kernel
theorem dX13_sign_22 : decode cX13_sign 22 = .ok (.iload_n 3, 1) := by decide +kernel
theorem dX13_sign_23 : decode cX13_sign 23 = .ok (.invokestatic 332, 3) := by decide +kernel
theorem dX13_sign_26 : decode cX13_sign 26 = .ok (.ifCond .eq 24, 3) := by decide +kernel
theorem dX13_sign_29 : decode cX13_sign 29 = .ok (.iload 4, 2) := by decide +kernel
theorem dX13_sign_31 : decode cX13_sign 31 = .ok (.invokestatic 332, 3) := by decide +kernel
theorem dX13_sign_34 : decode cX13_sign 34 = .ok (.ifCond .eq 16, 3) := by decide +kernel
theorem dX13_sign_37 : decode cX13_sign 37 = .ok (.iload_n 2, 1) := by decide +kernel
theorem dX13_sign_38 : decode cX13_sign 38 = .ok (.iconst 2, 1) := by decide +kernel
theorem dX13_sign_39 : decode cX13_sign 39 = .ok (.if_icmp .le 14, 3) := by decide +kernel
theorem dX13_sign_42 : decode cX13_sign 42 = .ok (.iload 5, 2) := by decide +kernel
theorem dX13_sign_44 : decode cX13_sign 44 = .ok (.invokestatic 332, 3) := by decide +kernel
theorem dX13_sign_47 : decode cX13_sign 47 = .ok (.ifCond .ne 6, 3) := by decide +kernel
theorem dX13_sign_50 : decode cX13_sign 50 = .ok (.bipush (-2), 2) := by decide +kernel
theorem dX13_sign_52 : decode cX13_sign 52 = .ok (.ireturn, 1) := by decide +kernel
theorem dX13_sign_53 : decode cX13_sign 53 = .ok (.aload_n 0, 1) := by decide +kernel
theorem dX13_sign_54 : decode cX13_sign 54 = .ok (.iload_n 1, 1) := by decide +kernel
theorem dX13_sign_55 : decode cX13_sign 55 = .ok (.iload_n 2, 1) := by decide +kernel
theorem dX13_sign_56 : decode cX13_sign 56 = .ok (.iconst 1, 1) := by decide +kernel
theorem dX13_sign_57 : decode cX13_sign 57 = .ok (.invokevirtual 995, 3) := by decide +kernel
theorem dX13_sign_60 : decode cX13_sign 60 = .ok (.ifCond .ne 6, 3) := by decide +kernel
theorem dX13_sign_63 : decode cX13_sign 63 = .ok (.bipush (-26), 2) := by decide +kernel
theorem dX13_sign_65 : decode cX13_sign 65 = .ok (.ireturn, 1) := by decide +kernel
theorem dX13_sign_66 : decode cX13_sign 66 = .ok (.aload_n 0, 1) := by decide +kernel
theorem dX13_sign_67 : decode cX13_sign 67 = .ok (.iconst 0, 1) := by decide +kernel
theorem dX13_sign_68 : decode cX13_sign 68 = .ok (.putfield 906, 3) := by decide +kernel
theorem dX13_sign_71 : decode cX13_sign 71 = .ok (.iload_n 3, 1) := by decide +kernel
theorem dX13_sign_72 : decode cX13_sign 72 = .ok (.iconst (-1), 1) := by decide +kernel
theorem dX13_sign_73 : decode cX13_sign 73 = .ok (.if_icmp .ne 76, 3) := by decide +kernel
theorem dX13_sign_76 : decode cX13_sign 76 = .ok (.aload_n 0, 1) := by decide +kernel
theorem dX13_sign_77 : decode cX13_sign 77 = .ok (.iload_n 1, 1) := by decide +kernel
theorem dX13_sign_78 : decode cX13_sign 78 = .ok (.ldc_w 914, 3) := by decide +kernel
theorem dX13_sign_81 : decode cX13_sign 81 = .ok (.iload_n 2, 1) := by decide +kernel
theorem dX13_sign_82 : decode cX13_sign 82 = .ok (.iconst (-1), 1) := by decide +kernel
theorem dX13_sign_83 : decode cX13_sign 83 = .ok (.invokevirtual 999, 3) := by decide +kernel
theorem dX13_sign_86 : decode cX13_sign 86 = .ok (.aload_n 0, 1) := by decide +kernel
theorem dX13_sign_87 : decode cX13_sign 87 = .ok (.bipush 125, 2) := by decide +kernel
theorem dX13_sign_89 : decode cX13_sign 89 = .ok (.invokevirtual 470, 3) := by decide +kernel
theorem dX13_sign_92 : decode cX13_sign 92 = .ok (.aload_n 0, 1) := by decide +kernel
theorem dX13_sign_93 : decode cX13_sign 93 = .ok (.getfield 467, 3) := by decide +kernel
theorem dX13_sign_96 : decode cX13_sign 96 = .ok (.sipush 8192, 3) := by decide +kernel
theorem dX13_sign_99 : decode cX13_sign 99 = .ok (.if_icmp .le 22, 3) := by decide +kernel
theorem dX13_sign_102 : decode cX13_sign 102 = .ok (.iload_n 2, 1) := by decide +kernel
theorem dX13_sign_103 : decode cX13_sign 103 = .ok (.iconst 3, 1) := by decide +kernel
theorem dX13_sign_104 : decode cX13_sign 104 = .ok (.if_icmp .ge 8, 3) := by decide +kernel
theorem dX13_sign_107 : decode cX13_sign 107 = .ok (.bipush (-3), 2) := by decide +kernel
theorem dX13_sign_109 : decode cX13_sign 109 = .ok (.goto 11, 3) := by decide +kernel
theorem dX13_sign_112 : decode cX13_sign 112 = .ok (.aload_n 0, 1) := by decide +kernel
theorem dX13_sign_113 : decode cX13_sign 113 = .ok (.iload_n 1, 1) := by decide +kernel
theorem dX13_sign_114 : decode cX13_sign 114 = .ok (.iload_n 2, 1) := by decide +kernel
theorem dX13_sign_115 : decode cX13_sign 115 = .ok (.iload 5, 2) := by decide +kernel
theorem dX13_sign_117 : decode cX13_sign 117 = .ok (.invokevirtual 1003, 3) := by decide +kernel
theorem dX13_sign_120 : decode cX13_sign 120 = .ok (.ireturn, 1) := by decide +kernel
theorem dX13_sign_121 : decode cX13_sign 121 = .ok (.aload_n 0, 1) := by decide +kernel
theorem dX13_sign_122 : decode cX13_sign 122 = .ok (.getfield 57, 3) := by decide +kernel
theorem dX13_sign_125 : decode cX13_sign 125 = .ok (.iconst 0, 1) := by decide +kernel
theorem dX13_sign_126 : decode cX13_sign 126 = .ok (.aload_n 0, 1) := by decide +kernel
theorem dX13_sign_127 : decode cX13_sign 127 = .ok (.getfield 275, 3) := by decide +kernel
theorem dX13_sign_130 : decode cX13_sign 130 = .ok (.iconst 0, 1) := by decide +kernel
theorem dX13_sign_131 : decode cX13_sign 131 = .ok (.aload_n 0, 1) := by decide +kernel
theorem dX13_sign_132 : decode cX13_sign 132 = .ok (.getfield 467, 3) := by decide +kernel
theorem dX13_sign_135 : decode cX13_sign 135 = .ok (.invokestatic 317, 3) := by decide +kernel
theorem dX13_sign_138 : decode cX13_sign 138 = .ok (.aload_n 0, 1) := by decide +kernel
theorem dX13_sign_139 : decode cX13_sign 139 = .ok (.aload_n 0, 1) := by decide +kernel
theorem dX13_sign_140 : decode cX13_sign 140 = .ok (.getfield 467, 3) := by decide +kernel
theorem dX13_sign_143 : decode cX13_sign 143 = .ok (.putfield 1007, 3) := by decide +kernel
theorem dX13_sign_146 : decode cX13_sign 146 = .ok (.goto 82, 3) := by decide +kernel
theorem dX13_sign_149 : decode cX13_sign 149 = .ok (.aload_n 0, 1) := by decide +kernel
theorem dX13_sign_150 : decode cX13_sign 150 = .ok (.aload_n 0, 1) := by decide +kernel
theorem dX13_sign_151 : decode cX13_sign 151 = .ok (.getfield 14, 3) := by decide +kernel
theorem dX13_sign_154 : decode cX13_sign 154 = .ok (.sipush 8192, 3) := by decide +kernel
theorem dX13_sign_157 : decode cX13_sign 157 = .ok (.iload_n 3, 1) := by decide +kernel
theorem dX13_sign_158 : decode cX13_sign 158 = .ok (.imul, 1) := by decide +kernel
theorem dX13_sign_159 : decode cX13_sign 159 = .ok (.aload_n 0, 1) := by decide +kernel
theorem dX13_sign_160 : decode cX13_sign 160 = .ok (.getfield 17, 3) := by decide +kernel
theorem dX13_sign_163 : decode cX13_sign 163 = .ok (.iload_n 3, 1) := by decide +kernel
theorem dX13_sign_164 : decode cX13_sign 164 = .ok (.iaload, 1) := by decide +kernel
theorem dX13_sign_165 : decode cX13_sign 165 = .ok (.iconst 0, 1) := by decide +kernel
theorem dX13_sign_166 : decode cX13_sign 166 = .ok (.invokevirtual 1010, 3) := by decide +kernel
theorem dX13_sign_169 : decode cX13_sign 169 = .ok (.istore 6, 2) := by decide +kernel
theorem dX13_sign_171 : decode cX13_sign 171 = .ok (.iload 6, 2) := by decide +kernel
theorem dX13_sign_173 : decode cX13_sign 173 = .ok (.ifCond .lt 11, 3) := by decide +kernel
theorem dX13_sign_176 : decode cX13_sign 176 = .ok (.aload_n 0, 1) := by decide +kernel
theorem dX13_sign_177 : decode cX13_sign 177 = .ok (.getfield 919, 3) := by decide +kernel
theorem dX13_sign_180 : decode cX13_sign 180 = .ok (.iload_n 2, 1) := by decide +kernel
theorem dX13_sign_181 : decode cX13_sign 181 = .ok (.if_icmp .eq 16, 3) := by decide +kernel
theorem dX13_sign_184 : decode cX13_sign 184 = .ok (.iload 6, 2) := by decide +kernel
theorem dX13_sign_186 : decode cX13_sign 186 = .ok (.ifCond .ge 8, 3) := by decide +kernel
theorem dX13_sign_189 : decode cX13_sign 189 = .ok (.iload 6, 2) := by decide +kernel
theorem dX13_sign_191 : decode cX13_sign 191 = .ok (.goto 5, 3) := by decide +kernel
theorem dX13_sign_194 : decode cX13_sign 194 = .ok (.bipush (-27), 2) := by decide +kernel
theorem dX13_sign_196 : decode cX13_sign 196 = .ok (.ireturn, 1) := by decide +kernel
theorem dX13_sign_197 : decode cX13_sign 197 = .ok (.aload_n 0, 1) := by decide +kernel
theorem dX13_sign_198 : decode cX13_sign 198 = .ok (.aload_n 0, 1) := by decide +kernel
theorem dX13_sign_199 : decode cX13_sign 199 = .ok (.getfield 17, 3) := by decide +kernel
theorem dX13_sign_202 : decode cX13_sign 202 = .ok (.iload_n 3, 1) := by decide +kernel
theorem dX13_sign_203 : decode cX13_sign 203 = .ok (.iaload, 1) := by decide +kernel
theorem dX13_sign_204 : decode cX13_sign 204 = .ok (.putfield 1007, 3) := by decide +kernel
theorem dX13_sign_207 : decode cX13_sign 207 = .ok (.aload_n 0, 1) := by decide +kernel
theorem dX13_sign_208 : decode cX13_sign 208 = .ok (.getfield 14, 3) := by decide +kernel
theorem dX13_sign_211 : decode cX13_sign 211 = .ok (.sipush 8192, 3) := by decide +kernel
theorem dX13_sign_214 : decode cX13_sign 214 = .ok (.iload_n 3, 1) := by decide +kernel
theorem dX13_sign_215 : decode cX13_sign 215 = .ok (.imul, 1) := by decide +kernel
theorem dX13_sign_216 : decode cX13_sign 216 = .ok (.aload_n 0, 1) := by decide +kernel
theorem dX13_sign_217 : decode cX13_sign 217 = .ok (.getfield 275, 3) := by decide +kernel
theorem dX13_sign_220 : decode cX13_sign 220 = .ok (.iconst 0, 1) := by decide +kernel
theorem dX13_sign_221 : decode cX13_sign 221 = .ok (.aload_n 0, 1) := by decide +kernel
theorem dX13_sign_222 : decode cX13_sign 222 = .ok (.getfield 1007, 3) := by decide +kernel
theorem dX13_sign_225 : decode cX13_sign 225 = .ok (.invokestatic 317, 3) := by decide +kernel
theorem dX13_sign_228 : decode cX13_sign 228 = .ok (.iconst 0, 1) := by decide +kernel
theorem dX13_sign_229 : decode cX13_sign 229 = .ok (.istore 6, 2) := by decide +kernel
theorem dX13_sign_231 : decode cX13_sign 231 = .ok (.iconst 0, 1) := by decide +kernel
theorem dX13_sign_232 : decode cX13_sign 232 = .ok (.istore 7, 2) := by decide +kernel
theorem dX13_sign_234 : decode cX13_sign 234 = .ok (.iload 7, 2) := by decide +kernel
theorem dX13_sign_236 : decode cX13_sign 236 = .ok (.aload_n 0, 1) := by decide +kernel
theorem dX13_sign_237 : decode cX13_sign 237 = .ok (.getfield 17, 3) := by decide +kernel
theorem dX13_sign_240 : decode cX13_sign 240 = .ok (.iload 4, 2) := by decide +kernel
theorem dX13_sign_242 : decode cX13_sign 242 = .ok (.iaload, 1) := by decide +kernel
theorem dX13_sign_243 : decode cX13_sign 243 = .ok (.if_icmp .ge 40, 3) := by decide +kernel
theorem dX13_sign_246 : decode cX13_sign 246 = .ok (.iload 6, 2) := by decide +kernel
theorem dX13_sign_248 : decode cX13_sign 248 = .ok (.ifCond .ne 22, 3) := by decide +kernel
theorem dX13_sign_251 : decode cX13_sign 251 = .ok (.aload_n 0, 1) := by decide +kernel
theorem dX13_sign_252 : decode cX13_sign 252 = .ok (.getfield 14, 3) := by decide +kernel
theorem dX13_sign_255 : decode cX13_sign 255 = .ok (.sipush 8192, 3) := by decide +kernel
theorem dX13_sign_258 : decode cX13_sign 258 = .ok (.iload 4, 2) := by decide +kernel
theorem dX13_sign_260 : decode cX13_sign 260 = .ok (.imul, 1) := by decide +kernel
theorem dX13_sign_261 : decode cX13_sign 261 = .ok (.iload 7, 2) := by decide +kernel
theorem dX13_sign_263 : decode cX13_sign 263 = .ok (.iadd, 1) := by decide +kernel
theorem dX13_sign_264 : decode cX13_sign 264 = .ok (.baload, 1) := by decide +kernel
theorem dX13_sign_265 : decode cX13_sign 265 = .ok (.bipush 46, 2) := by decide +kernel
theorem dX13_sign_267 : decode cX13_sign 267 = .ok (.if_icmp .ne 7, 3) := by decide +kernel
theorem dX13_sign_270 : decode cX13_sign 270 = .ok (.iconst 1, 1) := by decide +kernel
theorem dX13_sign_271 : decode cX13_sign 271 = .ok (.goto 4, 3) := by decide +kernel
theorem dX13_sign_274 : decode cX13_sign 274 = .ok (.iconst 0, 1) := by decide +kernel
theorem dX13_sign_275 : decode cX13_sign 275 = .ok (.istore 6, 2) := by decide +kernel
theorem dX13_sign_277 : decode cX13_sign 277 = .ok (.iinc 7 1, 3) := by decide +kernel
theorem dX13_sign_280 : decode cX13_sign 280 = .ok (.goto (-46), 3) := by decide +kernel
theorem dX13_sign_283 : decode cX13_sign 283 = .ok (.aload_n 0, 1) := by decide +kernel
theorem dX13_sign_284 : decode cX13_sign 284 = .ok (.getfield 906, 3) := by decide +kernel
theorem dX13_sign_287 : decode cX13_sign 287 = .ok (.ifCond .eq 11, 3) := by decide +kernel
theorem dX13_sign_290 : decode cX13_sign 290 = .ok (.iload 6, 2) := by decide +kernel
theorem dX13_sign_292 : decode cX13_sign 292 = .ok (.ifCond .eq 6, 3) := by decide +kernel
theorem dX13_sign_295 : decode cX13_sign 295 = .ok (.bipush (-5), 2) := by decide +kernel
theorem dX13_sign_297 : decode cX13_sign 297 = .ok (.ireturn, 1) := by decide +kernel
theorem dX13_sign_298 : decode cX13_sign 298 = .ok (.aload_n 0, 1) := by decide +kernel
theorem dX13_sign_299 : decode cX13_sign 299 = .ok (.iconst 0, 1) := by decide +kernel
theorem dX13_sign_300 : decode cX13_sign 300 = .ok (.putfield 992, 3) := by decide +kernel
theorem dX13_sign_303 : decode cX13_sign 303 = .ok (.aload_n 0, 1) := by decide +kernel
theorem dX13_sign_304 : decode cX13_sign 304 = .ok (.aload_n 0, 1) := by decide +kernel
theorem dX13_sign_305 : decode cX13_sign 305 = .ok (.getfield 275, 3) := by decide +kernel
theorem dX13_sign_308 : decode cX13_sign 308 = .ok (.iconst 0, 1) := by decide +kernel
theorem dX13_sign_309 : decode cX13_sign 309 = .ok (.aload_n 0, 1) := by decide +kernel
theorem dX13_sign_310 : decode cX13_sign 310 = .ok (.getfield 1007, 3) := by decide +kernel
theorem dX13_sign_313 : decode cX13_sign 313 = .ok (.invokevirtual 1014, 3) := by decide +kernel
theorem dX13_sign_316 : decode cX13_sign 316 = .ok (.aload_n 0, 1) := by decide +kernel
theorem dX13_sign_317 : decode cX13_sign 317 = .ok (.bipush 46, 2) := by decide +kernel
theorem dX13_sign_319 : decode cX13_sign 319 = .ok (.invokevirtual 1017, 3) := by decide +kernel
theorem dX13_sign_322 : decode cX13_sign 322 = .ok (.aload_n 0, 1) := by decide +kernel
theorem dX13_sign_323 : decode cX13_sign 323 = .ok (.getfield 906, 3) := by decide +kernel
theorem dX13_sign_326 : decode cX13_sign 326 = .ok (.ifCond .eq 50, 3) := by decide +kernel
theorem dX13_sign_329 : decode cX13_sign 329 = .ok (.aload_n 0, 1) := by decide +kernel
theorem dX13_sign_330 : decode cX13_sign 330 = .ok (.getfield 14, 3) := by decide +kernel
theorem dX13_sign_333 : decode cX13_sign 333 = .ok (.sipush 8192, 3) := by decide +kernel
theorem dX13_sign_336 : decode cX13_sign 336 = .ok (.iload 4, 2) := by decide +kernel
theorem dX13_sign_338 : decode cX13_sign 338 = .ok (.imul, 1) := by decide +kernel
theorem dX13_sign_339 : decode cX13_sign 339 = .ok (.aload_n 0, 1) := by decide +kernel
theorem dX13_sign_340 : decode cX13_sign 340 = .ok (.getfield 279, 3) := by decide +kernel
theorem dX13_sign_343 : decode cX13_sign 343 = .ok (.aload_n 0, 1) := by decide +kernel
theorem dX13_sign_344 : decode cX13_sign 344 = .ok (.getfield 992, 3) := by decide +kernel
theorem dX13_sign_347 : decode cX13_sign 347 = .ok (.aload_n 0, 1) := by decide +kernel
theorem dX13_sign_348 : decode cX13_sign 348 = .ok (.getfield 17, 3) := by decide +kernel
theorem dX13_sign_351 : decode cX13_sign 351 = .ok (.iload 4, 2) := by decide +kernel
theorem dX13_sign_353 : decode cX13_sign 353 = .ok (.iaload, 1) := by decide +kernel
theorem dX13_sign_354 : decode cX13_sign 354 = .ok (.invokestatic 317, 3) := by decide +kernel
theorem dX13_sign_357 : decode cX13_sign 357 = .ok (.aload_n 0, 1) := by decide +kernel
theorem dX13_sign_358 : decode cX13_sign 358 = .ok (.dup, 1) := by decide +kernel
theorem dX13_sign_359 : decode cX13_sign 359 = .ok (.getfield 992, 3) := by decide +kernel
theorem dX13_sign_362 : decode cX13_sign 362 = .ok (.aload_n 0, 1) := by decide +kernel
theorem dX13_sign_363 : decode cX13_sign 363 = .ok (.getfield 17, 3) := by decide +kernel
theorem dX13_sign_366 : decode cX13_sign 366 = .ok (.iload 4, 2) := by decide +kernel
theorem dX13_sign_368 : decode cX13_sign 368 = .ok (.iaload, 1) := by decide +kernel
theorem dX13_sign_369 : decode cX13_sign 369 = .ok (.iadd, 1) := by decide +kernel
theorem dX13_sign_370 : decode cX13_sign 370 = .ok (.putfield 992, 3) := by decide +kernel
theorem dX13_sign_373 : decode cX13_sign 373 = .ok (.goto 24, 3) := by decide +kernel
theorem dX13_sign_376 : decode cX13_sign 376 = .ok (.aload_n 0, 1) := by decide +kernel
theorem dX13_sign_377 : decode cX13_sign 377 = .ok (.aload_n 0, 1) := by decide +kernel
theorem dX13_sign_378 : decode cX13_sign 378 = .ok (.getfield 14, 3) := by decide +kernel
theorem dX13_sign_381 : decode cX13_sign 381 = .ok (.sipush 8192, 3) := by decide +kernel
theorem dX13_sign_384 : decode cX13_sign 384 = .ok (.iload 4, 2) := by decide +kernel
theorem dX13_sign_386 : decode cX13_sign 386 = .ok (.imul, 1) := by decide +kernel
theorem dX13_sign_387 : decode cX13_sign 387 = .ok (.aload_n 0, 1) := by decide +kernel
theorem dX13_sign_388 : decode cX13_sign 388 = .ok (.getfield 17, 3) := by decide +kernel
theorem dX13_sign_391 : decode cX13_sign 391 = .ok (.iload 4, 2) := by decide +kernel
theorem dX13_sign_393 : decode cX13_sign 393 = .ok (.iaload, 1) := by decide +kernel
theorem dX13_sign_394 : decode cX13_sign 394 = .ok (.invokevirtual 1014, 3) := by decide +kernel
theorem dX13_sign_397 : decode cX13_sign 397 = .ok (.aload_n 0, 1) := by decide +kernel
theorem dX13_sign_398 : decode cX13_sign 398 = .ok (.iconst 0, 1) := by decide +kernel
theorem dX13_sign_399 : decode cX13_sign 399 = .ok (.putfield 579, 3) := by decide +kernel
theorem dX13_sign_402 : decode cX13_sign 402 = .ok (.aload_n 0, 1) := by decide +kernel
theorem dX13_sign_403 : decode cX13_sign 403 = .ok (.aload_n 0, 1) := by decide +kernel
theorem dX13_sign_404 : decode cX13_sign 404 = .ok (.getfield 279, 3) := by decide +kernel
theorem dX13_sign_407 : decode cX13_sign 407 = .ok (.iconst 0, 1) := by decide +kernel
theorem dX13_sign_408 : decode cX13_sign 408 = .ok (.aload_n 0, 1) := by decide +kernel
theorem dX13_sign_409 : decode cX13_sign 409 = .ok (.getfield 992, 3) := by decide +kernel
theorem dX13_sign_412 : decode cX13_sign 412 = .ok (.invokevirtual 582, 3) := by decide +kernel
theorem dX13_sign_415 : decode cX13_sign 415 = .ok (.aload_n 0, 1) := by decide +kernel
theorem dX13_sign_416 : decode cX13_sign 416 = .ok (.iload_n 1, 1) := by decide +kernel
theorem dX13_sign_417 : decode cX13_sign 417 = .ok (.iload_n 2, 1) := by decide +kernel
theorem dX13_sign_418 : decode cX13_sign 418 = .ok (.iload 5, 2) := by decide +kernel
theorem dX13_sign_420 : decode cX13_sign 420 = .ok (.invokevirtual 1020, 3) := by decide +kernel
theorem dX13_sign_423 : decode cX13_sign 423 = .ok (.ifCond .ge 6, 3) := by decide +kernel
theorem dX13_sign_426 : decode cX13_sign 426 = .ok (.bipush (-4), 2) := by decide +kernel
theorem dX13_sign_428 : decode cX13_sign 428 = .ok (.ireturn, 1) := by decide +kernel
theorem dX13_sign_429 : decode cX13_sign 429 = .ok (.aload_n 0, 1) := by decide +kernel
theorem dX13_sign_430 : decode cX13_sign 430 = .ok (.bipush 46, 2) := by decide +kernel
theorem dX13_sign_432 : decode cX13_sign 432 = .ok (.invokevirtual 1017, 3) := by decide +kernel
theorem dX13_sign_435 : decode cX13_sign 435 = .ok (.aload_n 0, 1) := by decide +kernel
theorem dX13_sign_436 : decode cX13_sign 436 = .ok (.aload_n 0, 1) := by decide +kernel
theorem dX13_sign_437 : decode cX13_sign 437 = .ok (.getfield 257, 3) := by decide +kernel
theorem dX13_sign_440 : decode cX13_sign 440 = .ok (.iconst 0, 1) := by decide +kernel
theorem dX13_sign_441 : decode cX13_sign 441 = .ok (.aload_n 0, 1) := by decide +kernel
theorem dX13_sign_442 : decode cX13_sign 442 = .ok (.getfield 954, 3) := by decide +kernel
theorem dX13_sign_445 : decode cX13_sign 445 = .ok (.invokevirtual 1014, 3) := by decide +kernel
theorem dX13_sign_448 : decode cX13_sign 448 = .ok (.aload_n 0, 1) := by decide +kernel
theorem dX13_sign_449 : decode cX13_sign 449 = .ok (.invokevirtual 1023, 3) := by decide +kernel
theorem dX13_sign_452 : decode cX13_sign 452 = .ok (.ireturn, 1) := by decide +kernel
abbrev rmX13_sign : Room := { frames := 363, cells := 0, slots := 0, locals := 8586 }
set_option maxHeartbeats 4000000 in
set_option maxRecDepth 100000 in
theorem wB_X13_sign_397 {G : mG} {F : Nat} {x : mXT} {sz : Nat} {r0 : Int32} {M0 : mM} (X : mCX G RX13 cX13_sign 8 (some .int) "sign" rmX13_sign x) (hQ : mQI x r0 M0 (sz, 0, 0)) {l0 : Nat} {l1 : Int32} {l2 : Int32} {l5 : Int32} {M : mM} (h : B_X13_sign_397 G F l0 l1 l2 l5 M = some (r0, M0)) : WW x (sz, 0, 0) M 397 [(0, .ref l0), (1, .int l1), (2, .int l2), (5, .int l5)] [] := by
  unfold B_X13_sign_397 at h
  refine ww_aload_n 397 X dX13_sign_397 0 rfl rfl ?_
  refine ww_iconst 398 X (v := (0 : Int32)) dX13_sign_398 (by decide) ?_
  obtain ⟨M399, e399, h⟩ := bO_some h
  refine ww_putI 399 X dX13_sign_399 (fP_X13_579 _) e399 ?_
  refine ww_aload_n 402 X dX13_sign_402 0 rfl rfl ?_
  refine ww_aload_n 403 X dX13_sign_403 0 rfl rfl ?_
  obtain ⟨v404, e404, h⟩ := bO_some h
  refine ww_getR 404 X dX13_sign_404 fG_X13_279 e404 ?_
  refine ww_iconst 407 X (v := (0 : Int32)) dX13_sign_407 (by decide) ?_
  refine ww_aload_n 408 X dX13_sign_408 0 rfl rfl ?_
  obtain ⟨v409, e409, h⟩ := bO_some h
  refine ww_getI 409 X dX13_sign_409 fG_X13_992 e409 ?_
  obtain ⟨_, f412, h⟩ := bO_some h
  obtain ⟨M412, e412, h⟩ := bO_some h
  refine ww_callVV0 412 X dX13_sign_412 mY_X13_tellMessage mL_X13_582 (rcv_spec f412) ⟨_, _, rfl⟩ (by decide) (As := [.ref v404, .int (0 : Int32), .int v409]) (rest := []) rfl rfl ⟨Nat.le_of_ble_eq_true rfl, Nat.le_of_ble_eq_true rfl⟩ (Nat.le_of_ble_eq_true rfl) (fun l D A => c_X13_tellMessage l D A e412) ?_
  refine ww_aload_n 415 X dX13_sign_415 0 rfl rfl ?_
  refine ww_iload_n 416 X dX13_sign_416 1 rfl rfl ?_
  refine ww_iload_n 417 X dX13_sign_417 2 rfl rfl ?_
  refine ww_iload 418 X dX13_sign_418 3 rfl ?_
  obtain ⟨_, f420, h⟩ := bO_some h
  obtain ⟨v420, M420, e420, h⟩ := bP_some h
  refine ww_callVI0 420 X dX13_sign_420 mY_X13_signIt mL_X13_1020 (rcv_spec f420) ⟨_, _, rfl⟩ (by decide) (As := [.int l1, .int l2, .int l5]) (rest := []) rfl rfl ⟨Nat.le_of_ble_eq_true rfl, Nat.le_of_ble_eq_true rfl⟩ (Nat.le_of_ble_eq_true rfl) (fun l D A => c_X13_signIt l D A e420) ?_
  refine ww_if_ge 423 429 X dX13_sign_423 (by decide) (fun q => ?_) (fun q => ?_)
  · replace h := (if_pos q).symm.trans h
    refine ww_aload_n 429 X dX13_sign_429 0 rfl rfl ?_
    refine ww_bipush 430 X (v := (46 : Int32)) dX13_sign_430 (by decide) ?_
    obtain ⟨_, f432, h⟩ := bO_some h
    obtain ⟨M432, e432, h⟩ := bO_some h
    refine ww_callVV0 432 X dX13_sign_432 mY_X13_addByte mL_X13_1017 (rcv_spec f432) ⟨_, _, rfl⟩ (by decide) (As := [.int (46 : Int32)]) (rest := []) rfl rfl ⟨Nat.le_of_ble_eq_true rfl, Nat.le_of_ble_eq_true rfl⟩ (Nat.le_of_ble_eq_true rfl) (fun l D A => c_X13_addByte l D A e432) ?_
    refine ww_aload_n 435 X dX13_sign_435 0 rfl rfl ?_
    refine ww_aload_n 436 X dX13_sign_436 0 rfl rfl ?_
    obtain ⟨v437, e437, h⟩ := bO_some h
    refine ww_getR 437 X dX13_sign_437 fG_X13_257 e437 ?_
    refine ww_iconst 440 X (v := (0 : Int32)) dX13_sign_440 (by decide) ?_
    refine ww_aload_n 441 X dX13_sign_441 0 rfl rfl ?_
    obtain ⟨v442, e442, h⟩ := bO_some h
    refine ww_getI 442 X dX13_sign_442 fG_X13_954 e442 ?_
    obtain ⟨_, f445, h⟩ := bO_some h
    obtain ⟨M445, e445, h⟩ := bO_some h
    refine ww_callVV0 445 X dX13_sign_445 mY_X13_addLetters mL_X13_1014 (rcv_spec f445) ⟨_, _, rfl⟩ (by decide) (As := [.ref v437, .int (0 : Int32), .int v442]) (rest := []) rfl rfl ⟨Nat.le_of_ble_eq_true rfl, Nat.le_of_ble_eq_true rfl⟩ (Nat.le_of_ble_eq_true rfl) (fun l D A => c_X13_addLetters l D A e445) ?_
    refine ww_aload_n 448 X dX13_sign_448 0 rfl rfl ?_
    obtain ⟨_, f449, h⟩ := bO_some h
    obtain ⟨v449, M449, e449, h⟩ := bP_some h
    refine ww_callVI0 449 X dX13_sign_449 mY_X13_saidOut mL_X13_1023 (rcv_spec f449) ⟨_, _, rfl⟩ (by decide) (As := []) (rest := []) rfl rfl ⟨Nat.le_of_ble_eq_true rfl, Nat.le_of_ble_eq_true rfl⟩ (Nat.le_of_ble_eq_true rfl) (fun l D A => c_X13_saidOut l D A e449) ?_
    exact ww_iretE 452 X hQ dX13_sign_452 h
  · replace h := (if_neg q).symm.trans h
    refine ww_bipush 426 X (v := (-4 : Int32)) dX13_sign_426 (by decide) ?_
    exact ww_iretE 428 X hQ dX13_sign_428 h
set_option maxHeartbeats 4000000 in
set_option maxRecDepth 100000 in
theorem wB_X13_sign_298 {G : mG} {F : Nat} {x : mXT} {sz : Nat} {r0 : Int32} {M0 : mM} (X : mCX G RX13 cX13_sign 8 (some .int) "sign" rmX13_sign x) (hQ : mQI x r0 M0 (sz, 0, 0)) {l0 : Nat} {l1 : Int32} {l2 : Int32} {l4 : Int32} {l5 : Int32} {M : mM} (h : B_X13_sign_298 G F l0 l1 l2 l4 l5 M = some (r0, M0)) : WW x (sz, 0, 0) M 298 [(0, .ref l0), (1, .int l1), (2, .int l2), (4, .int l4), (5, .int l5)] [] := by
  unfold B_X13_sign_298 at h
  refine ww_aload_n 298 X dX13_sign_298 0 rfl rfl ?_
  refine ww_iconst 299 X (v := (0 : Int32)) dX13_sign_299 (by decide) ?_
  obtain ⟨M300, e300, h⟩ := bO_some h
  refine ww_putI 300 X dX13_sign_300 (fP_X13_992 _) e300 ?_
  refine ww_aload_n 303 X dX13_sign_303 0 rfl rfl ?_
  refine ww_aload_n 304 X dX13_sign_304 0 rfl rfl ?_
  obtain ⟨v305, e305, h⟩ := bO_some h
  refine ww_getR 305 X dX13_sign_305 fG_X13_275 e305 ?_
  refine ww_iconst 308 X (v := (0 : Int32)) dX13_sign_308 (by decide) ?_
  refine ww_aload_n 309 X dX13_sign_309 0 rfl rfl ?_
  obtain ⟨v310, e310, h⟩ := bO_some h
  refine ww_getI 310 X dX13_sign_310 fG_X13_1007 e310 ?_
  obtain ⟨_, f313, h⟩ := bO_some h
  obtain ⟨M313, e313, h⟩ := bO_some h
  refine ww_callVV0 313 X dX13_sign_313 mY_X13_addLetters mL_X13_1014 (rcv_spec f313) ⟨_, _, rfl⟩ (by decide) (As := [.ref v305, .int (0 : Int32), .int v310]) (rest := []) rfl rfl ⟨Nat.le_of_ble_eq_true rfl, Nat.le_of_ble_eq_true rfl⟩ (Nat.le_of_ble_eq_true rfl) (fun l D A => c_X13_addLetters l D A e313) ?_
  refine ww_aload_n 316 X dX13_sign_316 0 rfl rfl ?_
  refine ww_bipush 317 X (v := (46 : Int32)) dX13_sign_317 (by decide) ?_
  obtain ⟨_, f319, h⟩ := bO_some h
  obtain ⟨M319, e319, h⟩ := bO_some h
  refine ww_callVV0 319 X dX13_sign_319 mY_X13_addByte mL_X13_1017 (rcv_spec f319) ⟨_, _, rfl⟩ (by decide) (As := [.int (46 : Int32)]) (rest := []) rfl rfl ⟨Nat.le_of_ble_eq_true rfl, Nat.le_of_ble_eq_true rfl⟩ (Nat.le_of_ble_eq_true rfl) (fun l D A => c_X13_addByte l D A e319) ?_
  refine ww_aload_n 322 X dX13_sign_322 0 rfl rfl ?_
  obtain ⟨v323, e323, h⟩ := bO_some h
  refine ww_getI 323 X dX13_sign_323 fG_X13_906 e323 ?_
  refine ww_if_eq 326 376 X dX13_sign_326 (by decide) (fun q => ?_) (fun q => ?_)
  · replace h := (if_pos q).symm.trans h
    refine ww_aload_n 376 X dX13_sign_376 0 rfl rfl ?_
    refine ww_aload_n 377 X dX13_sign_377 0 rfl rfl ?_
    obtain ⟨v378, e378, h⟩ := bO_some h
    refine ww_getR 378 X dX13_sign_378 fG_X13_14 e378 ?_
    refine ww_sipush 381 X (v := (8192 : Int32)) dX13_sign_381 (by decide) ?_
    refine ww_iload 384 X dX13_sign_384 3 rfl ?_
    refine ww_imul 386 X dX13_sign_386 ?_
    refine ww_aload_n 387 X dX13_sign_387 0 rfl rfl ?_
    obtain ⟨v388, e388, h⟩ := bO_some h
    refine ww_getR 388 X dX13_sign_388 fG_X13_17 e388 ?_
    refine ww_iload 391 X dX13_sign_391 3 rfl ?_
    obtain ⟨v393, e393, h⟩ := bO_some h
    refine ww_iald 393 X dX13_sign_393 e393 ?_
    obtain ⟨_, f394, h⟩ := bO_some h
    obtain ⟨M394, e394, h⟩ := bO_some h
    refine ww_callVV0 394 X dX13_sign_394 mY_X13_addLetters mL_X13_1014 (rcv_spec f394) ⟨_, _, rfl⟩ (by decide) (As := [.ref v378, .int ((8192 : Int32) * l4), .int v393]) (rest := []) rfl rfl ⟨Nat.le_of_ble_eq_true rfl, Nat.le_of_ble_eq_true rfl⟩ (Nat.le_of_ble_eq_true rfl) (fun l D A => c_X13_addLetters l D A e394) ?_
    exact ww_sub [0, 1, 2, 4] rfl (wB_X13_sign_397 X hQ h)
  · replace h := (if_neg q).symm.trans h
    refine ww_aload_n 329 X dX13_sign_329 0 rfl rfl ?_
    obtain ⟨v330, e330, h⟩ := bO_some h
    refine ww_getR 330 X dX13_sign_330 fG_X13_14 e330 ?_
    refine ww_sipush 333 X (v := (8192 : Int32)) dX13_sign_333 (by decide) ?_
    refine ww_iload 336 X dX13_sign_336 3 rfl ?_
    refine ww_imul 338 X dX13_sign_338 ?_
    refine ww_aload_n 339 X dX13_sign_339 0 rfl rfl ?_
    obtain ⟨v340, e340, h⟩ := bO_some h
    refine ww_getR 340 X dX13_sign_340 fG_X13_279 e340 ?_
    refine ww_aload_n 343 X dX13_sign_343 0 rfl rfl ?_
    obtain ⟨v344, e344, h⟩ := bO_some h
    refine ww_getI 344 X dX13_sign_344 fG_X13_992 e344 ?_
    refine ww_aload_n 347 X dX13_sign_347 0 rfl rfl ?_
    obtain ⟨v348, e348, h⟩ := bO_some h
    refine ww_getR 348 X dX13_sign_348 fG_X13_17 e348 ?_
    refine ww_iload 351 X dX13_sign_351 3 rfl ?_
    obtain ⟨v353, e353, h⟩ := bO_some h
    refine ww_iald 353 X dX13_sign_353 e353 ?_
    obtain ⟨M354, e354, h⟩ := bO_some h
    refine ww_callSV0 354 X dX13_sign_354 mY_X13_move mL_X13_317 (As := [.ref v330, .int ((8192 : Int32) * l4), .ref v340, .int v344, .int v353]) (rest := []) rfl rfl ⟨Nat.le_of_ble_eq_true rfl, Nat.le_of_ble_eq_true rfl⟩ (Nat.le_of_ble_eq_true rfl) (fun l D A => c_X13_move l D A e354) ?_
    refine ww_aload_n 357 X dX13_sign_357 0 rfl rfl ?_
    refine ww_dup 358 X dX13_sign_358 rfl ?_
    obtain ⟨v359, e359, h⟩ := bO_some h
    refine ww_getI 359 X dX13_sign_359 fG_X13_992 e359 ?_
    refine ww_aload_n 362 X dX13_sign_362 0 rfl rfl ?_
    obtain ⟨v363, e363, h⟩ := bO_some h
    refine ww_getR 363 X dX13_sign_363 fG_X13_17 e363 ?_
    refine ww_iload 366 X dX13_sign_366 3 rfl ?_
    obtain ⟨v368, e368, h⟩ := bO_some h
    refine ww_iald 368 X dX13_sign_368 e368 ?_
    refine ww_iadd 369 X dX13_sign_369 ?_
    obtain ⟨M370, e370, h⟩ := bO_some h
    refine ww_putI 370 X dX13_sign_370 (fP_X13_992 _) e370 ?_
    refine ww_goto 373 397 X dX13_sign_373 (by decide) ?_
    exact ww_sub [0, 1, 2, 4] rfl (wB_X13_sign_397 X hQ h)
set_option maxHeartbeats 4000000 in
set_option maxRecDepth 100000 in
theorem wB_X13_sign_234 {G : mG} {F : Nat} {x : mXT} {sz : Nat} {r0 : Int32} {M0 : mM} (X : mCX G RX13 cX13_sign 8 (some .int) "sign" rmX13_sign x) (hQ : mQI x r0 M0 (sz, 0, 0)) : ∀ (n : Nat) (l0 : Nat) (l1 : Int32) (l2 : Int32) (l4 : Int32) (l5 : Int32) (l6 : Int32) (l7 : Int32) (M : mM), B_X13_sign_234 G F n l0 l1 l2 l4 l5 l6 l7 M = some (r0, M0) → WW x (sz, 0, 0) M 234 [(0, .ref l0), (1, .int l1), (2, .int l2), (4, .int l4), (5, .int l5), (6, .int l6), (7, .int l7)] [] := by
  intro n
  induction n with
  | zero =>
    intro l0 l1 l2 l4 l5 l6 l7 M h
    exact nomatch (show (none : Option (Int32 × mM)) = some (r0, M0) from h)
  | succ n ih =>
    intro l0 l1 l2 l4 l5 l6 l7 M h
    rw [B_X13_sign_234] at h
    refine ww_iload 234 X dX13_sign_234 6 rfl ?_
    refine ww_aload_n 236 X dX13_sign_236 0 rfl rfl ?_
    obtain ⟨v237, e237, h⟩ := bO_some h
    refine ww_getR 237 X dX13_sign_237 fG_X13_17 e237 ?_
    refine ww_iload 240 X dX13_sign_240 3 rfl ?_
    obtain ⟨v242, e242, h⟩ := bO_some h
    refine ww_iald 242 X dX13_sign_242 e242 ?_
    refine ww_icmp_ge 243 283 X dX13_sign_243 (by decide) (fun q => ?_) (fun q => ?_)
    · replace h := (if_pos q).symm.trans h
      refine ww_aload_n 283 X dX13_sign_283 0 rfl rfl ?_
      obtain ⟨v284, e284, h⟩ := bO_some h
      refine ww_getI 284 X dX13_sign_284 fG_X13_906 e284 ?_
      refine ww_if_eq 287 298 X dX13_sign_287 (by decide) (fun q => ?_) (fun q => ?_)
      · replace h := (if_pos q).symm.trans h
        exact ww_sub [0, 1, 2, 3, 4] rfl (wB_X13_sign_298 X hQ h)
      · replace h := (if_neg q).symm.trans h
        refine ww_iload 290 X dX13_sign_290 5 rfl ?_
        refine ww_if_eq 292 298 X dX13_sign_292 (by decide) (fun q => ?_) (fun q => ?_)
        · replace h := (if_pos q).symm.trans h
          exact ww_sub [0, 1, 2, 3, 4] rfl (wB_X13_sign_298 X hQ h)
        · replace h := (if_neg q).symm.trans h
          refine ww_bipush 295 X (v := (-5 : Int32)) dX13_sign_295 (by decide) ?_
          exact ww_iretE 297 X hQ dX13_sign_297 h
    · replace h := (if_neg q).symm.trans h
      refine ww_iload 246 X dX13_sign_246 5 rfl ?_
      refine ww_if_ne 248 270 X dX13_sign_248 (by decide) (fun q => ?_) (fun q => ?_)
      · replace h := (if_neg q).symm.trans h
        refine ww_iconst 270 X (v := (1 : Int32)) dX13_sign_270 (by decide) ?_
        refine ww_goto 271 275 X dX13_sign_271 (by decide) ?_
        refine ww_istore 275 X dX13_sign_275 (lv' := [(0, .ref l0), (1, .int l1), (2, .int l2), (4, .int l4), (5, .int l5), (6, .int (1 : Int32)), (7, .int l7)]) (by decide) [1, 2, 3, 4, 5, 0, 6] rfl ?_
        refine ww_iinc 277 X dX13_sign_277 (lv' := [(0, .ref l0), (1, .int l1), (2, .int l2), (4, .int l4), (5, .int l5), (6, .int (1 : Int32)), (7, .int (l7 + 1))]) 6 rfl rfl (by decide) [1, 2, 3, 4, 5, 6, 0] rfl ?_
        refine ww_goto 280 234 X dX13_sign_280 (by decide) ?_
        exact (ih _ _ _ _ _ _ _ _ h)
      · replace h := (if_pos q).symm.trans h
        refine ww_aload_n 251 X dX13_sign_251 0 rfl rfl ?_
        obtain ⟨v252, e252, h⟩ := bO_some h
        refine ww_getR 252 X dX13_sign_252 fG_X13_14 e252 ?_
        refine ww_sipush 255 X (v := (8192 : Int32)) dX13_sign_255 (by decide) ?_
        refine ww_iload 258 X dX13_sign_258 3 rfl ?_
        refine ww_imul 260 X dX13_sign_260 ?_
        refine ww_iload 261 X dX13_sign_261 6 rfl ?_
        refine ww_iadd 263 X dX13_sign_263 ?_
        obtain ⟨v264, e264, h⟩ := bO_some h
        refine ww_bald 264 X dX13_sign_264 e264 ?_
        refine ww_bipush 265 X (v := (46 : Int32)) dX13_sign_265 (by decide) ?_
        refine ww_icmp_ne 267 274 X dX13_sign_267 (by decide) (fun q => ?_) (fun q => ?_)
        · replace h := (if_neg q).symm.trans h
          refine ww_iconst 274 X (v := (0 : Int32)) dX13_sign_274 (by decide) ?_
          refine ww_istore 275 X dX13_sign_275 (lv' := [(0, .ref l0), (1, .int l1), (2, .int l2), (4, .int l4), (5, .int l5), (6, .int (0 : Int32)), (7, .int l7)]) (by decide) [1, 2, 3, 4, 5, 0, 6] rfl ?_
          refine ww_iinc 277 X dX13_sign_277 (lv' := [(0, .ref l0), (1, .int l1), (2, .int l2), (4, .int l4), (5, .int l5), (6, .int (0 : Int32)), (7, .int (l7 + 1))]) 6 rfl rfl (by decide) [1, 2, 3, 4, 5, 6, 0] rfl ?_
          refine ww_goto 280 234 X dX13_sign_280 (by decide) ?_
          exact (ih _ _ _ _ _ _ _ _ h)
        · replace h := (if_pos q).symm.trans h
          refine ww_iconst 270 X (v := (1 : Int32)) dX13_sign_270 (by decide) ?_
          refine ww_goto 271 275 X dX13_sign_271 (by decide) ?_
          refine ww_istore 275 X dX13_sign_275 (lv' := [(0, .ref l0), (1, .int l1), (2, .int l2), (4, .int l4), (5, .int l5), (6, .int (1 : Int32)), (7, .int l7)]) (by decide) [1, 2, 3, 4, 5, 0, 6] rfl ?_
          refine ww_iinc 277 X dX13_sign_277 (lv' := [(0, .ref l0), (1, .int l1), (2, .int l2), (4, .int l4), (5, .int l5), (6, .int (1 : Int32)), (7, .int (l7 + 1))]) 6 rfl rfl (by decide) [1, 2, 3, 4, 5, 6, 0] rfl ?_
          refine ww_goto 280 234 X dX13_sign_280 (by decide) ?_
          exact (ih _ _ _ _ _ _ _ _ h)
set_option maxHeartbeats 4000000 in
set_option maxRecDepth 100000 in
theorem wB_X13_sign_53 {G : mG} {F : Nat} {x : mXT} {sz : Nat} {r0 : Int32} {M0 : mM} (X : mCX G RX13 cX13_sign 8 (some .int) "sign" rmX13_sign x) (hQ : mQI x r0 M0 (sz, 0, 0)) {l0 : Nat} {l1 : Int32} {l2 : Int32} {l3 : Int32} {l4 : Int32} {l5 : Int32} {M : mM} (h : B_X13_sign_53 G F l0 l1 l2 l3 l4 l5 M = some (r0, M0)) : WW x (sz, 0, 0) M 53 [(0, .ref l0), (1, .int l1), (2, .int l2), (3, .int l3), (4, .int l4), (5, .int l5)] [] := by
  unfold B_X13_sign_53 at h
  refine ww_aload_n 53 X dX13_sign_53 0 rfl rfl ?_
  refine ww_iload_n 54 X dX13_sign_54 1 rfl rfl ?_
  refine ww_iload_n 55 X dX13_sign_55 2 rfl rfl ?_
  refine ww_iconst 56 X (v := (1 : Int32)) dX13_sign_56 (by decide) ?_
  obtain ⟨_, f57, h⟩ := bO_some h
  obtain ⟨v57, M57, e57, h⟩ := bP_some h
  refine ww_callVI0 57 X dX13_sign_57 mY_X13_maySign mL_X13_995 (rcv_spec f57) ⟨_, _, rfl⟩ (by decide) (As := [.int l1, .int l2, .int (1 : Int32)]) (rest := []) rfl rfl ⟨Nat.le_of_ble_eq_true rfl, Nat.le_of_ble_eq_true rfl⟩ (Nat.le_of_ble_eq_true rfl) (fun l D A => c_X13_maySign l D A e57) ?_
  refine ww_if_ne 60 66 X dX13_sign_60 (by decide) (fun q => ?_) (fun q => ?_)
  · replace h := (if_neg q).symm.trans h
    refine ww_aload_n 66 X dX13_sign_66 0 rfl rfl ?_
    refine ww_iconst 67 X (v := (0 : Int32)) dX13_sign_67 (by decide) ?_
    obtain ⟨M68, e68, h⟩ := bO_some h
    refine ww_putZ 68 X dX13_sign_68 (fP_X13_906 _) e68 ?_
    refine ww_iload_n 71 X dX13_sign_71 3 rfl rfl ?_
    refine ww_iconst 72 X (v := (-1 : Int32)) dX13_sign_72 (by decide) ?_
    refine ww_icmp_ne 73 149 X dX13_sign_73 (by decide) (fun q => ?_) (fun q => ?_)
    · replace h := (if_neg q).symm.trans h
      refine ww_aload_n 149 X dX13_sign_149 0 rfl rfl ?_
      refine ww_aload_n 150 X dX13_sign_150 0 rfl rfl ?_
      obtain ⟨v151, e151, h⟩ := bO_some h
      refine ww_getR 151 X dX13_sign_151 fG_X13_14 e151 ?_
      refine ww_sipush 154 X (v := (8192 : Int32)) dX13_sign_154 (by decide) ?_
      refine ww_iload_n 157 X dX13_sign_157 3 rfl rfl ?_
      refine ww_imul 158 X dX13_sign_158 ?_
      refine ww_aload_n 159 X dX13_sign_159 0 rfl rfl ?_
      obtain ⟨v160, e160, h⟩ := bO_some h
      refine ww_getR 160 X dX13_sign_160 fG_X13_17 e160 ?_
      refine ww_iload_n 163 X dX13_sign_163 3 rfl rfl ?_
      obtain ⟨v164, e164, h⟩ := bO_some h
      refine ww_iald 164 X dX13_sign_164 e164 ?_
      refine ww_iconst 165 X (v := (0 : Int32)) dX13_sign_165 (by decide) ?_
      obtain ⟨_, f166, h⟩ := bO_some h
      obtain ⟨v166, M166, e166, h⟩ := bP_some h
      refine ww_callVI0 166 X dX13_sign_166 mY_X13_headOf mL_X13_1010 (rcv_spec f166) ⟨_, _, rfl⟩ (by decide) (As := [.ref v151, .int ((8192 : Int32) * l3), .int v164, .int (0 : Int32)]) (rest := []) rfl rfl ⟨Nat.le_of_ble_eq_true rfl, Nat.le_of_ble_eq_true rfl⟩ (Nat.le_of_ble_eq_true rfl) (fun l D A => c_X13_headOf l D A e166) ?_
      refine ww_istore 169 X dX13_sign_169 (lv' := [(0, .ref l0), (1, .int l1), (2, .int l2), (3, .int l3), (4, .int l4), (5, .int l5), (6, .int v166)]) (by decide) [1, 2, 3, 4, 5, 6, 0] rfl ?_
      refine ww_iload 171 X dX13_sign_171 6 rfl ?_
      refine ww_if_lt 173 184 X dX13_sign_173 (by decide) (fun q => ?_) (fun q => ?_)
      · replace h := (if_pos q).symm.trans h
        refine ww_iload 184 X dX13_sign_184 6 rfl ?_
        refine ww_if_ge 186 194 X dX13_sign_186 (by decide) (fun q => ?_) (fun q => ?_)
        · replace h := (if_pos q).symm.trans h
          refine ww_bipush 194 X (v := (-27 : Int32)) dX13_sign_194 (by decide) ?_
          exact ww_iretE 196 X hQ dX13_sign_196 h
        · replace h := (if_neg q).symm.trans h
          refine ww_iload 189 X dX13_sign_189 6 rfl ?_
          refine ww_goto 191 196 X dX13_sign_191 (by decide) ?_
          exact ww_iretE 196 X hQ dX13_sign_196 h
      · replace h := (if_neg q).symm.trans h
        refine ww_aload_n 176 X dX13_sign_176 0 rfl rfl ?_
        obtain ⟨v177, e177, h⟩ := bO_some h
        refine ww_getI 177 X dX13_sign_177 fG_X13_919 e177 ?_
        refine ww_iload_n 180 X dX13_sign_180 2 rfl rfl ?_
        refine ww_icmp_eq 181 197 X dX13_sign_181 (by decide) (fun q => ?_) (fun q => ?_)
        · replace h := (if_pos q).symm.trans h
          refine ww_aload_n 197 X dX13_sign_197 0 rfl rfl ?_
          refine ww_aload_n 198 X dX13_sign_198 0 rfl rfl ?_
          obtain ⟨v199, e199, h⟩ := bO_some h
          refine ww_getR 199 X dX13_sign_199 fG_X13_17 e199 ?_
          refine ww_iload_n 202 X dX13_sign_202 3 rfl rfl ?_
          obtain ⟨v203, e203, h⟩ := bO_some h
          refine ww_iald 203 X dX13_sign_203 e203 ?_
          obtain ⟨M204, e204, h⟩ := bO_some h
          refine ww_putI 204 X dX13_sign_204 (fP_X13_1007 _) e204 ?_
          refine ww_aload_n 207 X dX13_sign_207 0 rfl rfl ?_
          obtain ⟨v208, e208, h⟩ := bO_some h
          refine ww_getR 208 X dX13_sign_208 fG_X13_14 e208 ?_
          refine ww_sipush 211 X (v := (8192 : Int32)) dX13_sign_211 (by decide) ?_
          refine ww_iload_n 214 X dX13_sign_214 3 rfl rfl ?_
          refine ww_imul 215 X dX13_sign_215 ?_
          refine ww_aload_n 216 X dX13_sign_216 0 rfl rfl ?_
          obtain ⟨v217, e217, h⟩ := bO_some h
          refine ww_getR 217 X dX13_sign_217 fG_X13_275 e217 ?_
          refine ww_iconst 220 X (v := (0 : Int32)) dX13_sign_220 (by decide) ?_
          refine ww_aload_n 221 X dX13_sign_221 0 rfl rfl ?_
          obtain ⟨v222, e222, h⟩ := bO_some h
          refine ww_getI 222 X dX13_sign_222 fG_X13_1007 e222 ?_
          obtain ⟨M225, e225, h⟩ := bO_some h
          refine ww_callSV0 225 X dX13_sign_225 mY_X13_move mL_X13_317 (As := [.ref v208, .int ((8192 : Int32) * l3), .ref v217, .int (0 : Int32), .int v222]) (rest := []) rfl rfl ⟨Nat.le_of_ble_eq_true rfl, Nat.le_of_ble_eq_true rfl⟩ (Nat.le_of_ble_eq_true rfl) (fun l D A => c_X13_move l D A e225) ?_
          refine ww_iconst 228 X (v := (0 : Int32)) dX13_sign_228 (by decide) ?_
          refine ww_istore 229 X dX13_sign_229 (lv' := [(0, .ref l0), (1, .int l1), (2, .int l2), (3, .int l3), (4, .int l4), (5, .int l5), (6, .int (0 : Int32))]) (by decide) [1, 2, 3, 4, 5, 6, 0] rfl ?_
          refine ww_iconst 231 X (v := (0 : Int32)) dX13_sign_231 (by decide) ?_
          refine ww_istore 232 X dX13_sign_232 (lv' := [(0, .ref l0), (1, .int l1), (2, .int l2), (3, .int l3), (4, .int l4), (5, .int l5), (6, .int (0 : Int32)), (7, .int (0 : Int32))]) (by decide) [1, 2, 3, 4, 5, 6, 7, 0] rfl ?_
          exact ww_sub [0, 1, 2, 4, 5, 6, 7] rfl (wB_X13_sign_234 X hQ F _ _ _ _ _ _ _ _ h)
        · replace h := (if_neg q).symm.trans h
          refine ww_iload 184 X dX13_sign_184 6 rfl ?_
          refine ww_if_ge 186 194 X dX13_sign_186 (by decide) (fun q => ?_) (fun q => ?_)
          · replace h := (if_pos q).symm.trans h
            refine ww_bipush 194 X (v := (-27 : Int32)) dX13_sign_194 (by decide) ?_
            exact ww_iretE 196 X hQ dX13_sign_196 h
          · replace h := (if_neg q).symm.trans h
            refine ww_iload 189 X dX13_sign_189 6 rfl ?_
            refine ww_goto 191 196 X dX13_sign_191 (by decide) ?_
            exact ww_iretE 196 X hQ dX13_sign_196 h
    · replace h := (if_pos q).symm.trans h
      refine ww_aload_n 76 X dX13_sign_76 0 rfl rfl ?_
      refine ww_iload_n 77 X dX13_sign_77 1 rfl rfl ?_
      refine ww_ldsw 78 X (j := 108) dX13_sign_78 rfl ?_
      refine ww_iload_n 81 X dX13_sign_81 2 rfl rfl ?_
      refine ww_iconst 82 X (v := (-1 : Int32)) dX13_sign_82 (by decide) ?_
      obtain ⟨_, f83, h⟩ := bO_some h
      obtain ⟨M83, e83, h⟩ := bO_some h
      refine ww_callVV0 83 X dX13_sign_83 mY_X13_sayHead mL_X13_999 (rcv_spec f83) ⟨_, _, rfl⟩ (by decide) (As := [.int l1, .ref (G.1 108), .int l2, .int (-1 : Int32)]) (rest := []) rfl rfl ⟨Nat.le_of_ble_eq_true rfl, Nat.le_of_ble_eq_true rfl⟩ (Nat.le_of_ble_eq_true rfl) (fun l D A => c_X13_sayHead l D A e83) ?_
      refine ww_aload_n 86 X dX13_sign_86 0 rfl rfl ?_
      refine ww_bipush 87 X (v := (125 : Int32)) dX13_sign_87 (by decide) ?_
      obtain ⟨_, f89, h⟩ := bO_some h
      obtain ⟨M89, e89, h⟩ := bO_some h
      refine ww_callVV0 89 X dX13_sign_89 mY_X13_say mL_X13_470 (rcv_spec f89) ⟨_, _, rfl⟩ (by decide) (As := [.int (125 : Int32)]) (rest := []) rfl rfl ⟨Nat.le_of_ble_eq_true rfl, Nat.le_of_ble_eq_true rfl⟩ (Nat.le_of_ble_eq_true rfl) (fun l D A => c_X13_say l D A e89) ?_
      refine ww_aload_n 92 X dX13_sign_92 0 rfl rfl ?_
      obtain ⟨v93, e93, h⟩ := bO_some h
      refine ww_getI 93 X dX13_sign_93 fG_X13_467 e93 ?_
      refine ww_sipush 96 X (v := (8192 : Int32)) dX13_sign_96 (by decide) ?_
      refine ww_icmp_le 99 121 X dX13_sign_99 (by decide) (fun q => ?_) (fun q => ?_)
      · replace h := (if_pos q).symm.trans h
        refine ww_aload_n 121 X dX13_sign_121 0 rfl rfl ?_
        obtain ⟨v122, e122, h⟩ := bO_some h
        refine ww_getR 122 X dX13_sign_122 fG_X13_57 e122 ?_
        refine ww_iconst 125 X (v := (0 : Int32)) dX13_sign_125 (by decide) ?_
        refine ww_aload_n 126 X dX13_sign_126 0 rfl rfl ?_
        obtain ⟨v127, e127, h⟩ := bO_some h
        refine ww_getR 127 X dX13_sign_127 fG_X13_275 e127 ?_
        refine ww_iconst 130 X (v := (0 : Int32)) dX13_sign_130 (by decide) ?_
        refine ww_aload_n 131 X dX13_sign_131 0 rfl rfl ?_
        obtain ⟨v132, e132, h⟩ := bO_some h
        refine ww_getI 132 X dX13_sign_132 fG_X13_467 e132 ?_
        obtain ⟨M135, e135, h⟩ := bO_some h
        refine ww_callSV0 135 X dX13_sign_135 mY_X13_move mL_X13_317 (As := [.ref v122, .int (0 : Int32), .ref v127, .int (0 : Int32), .int v132]) (rest := []) rfl rfl ⟨Nat.le_of_ble_eq_true rfl, Nat.le_of_ble_eq_true rfl⟩ (Nat.le_of_ble_eq_true rfl) (fun l D A => c_X13_move l D A e135) ?_
        refine ww_aload_n 138 X dX13_sign_138 0 rfl rfl ?_
        refine ww_aload_n 139 X dX13_sign_139 0 rfl rfl ?_
        obtain ⟨v140, e140, h⟩ := bO_some h
        refine ww_getI 140 X dX13_sign_140 fG_X13_467 e140 ?_
        obtain ⟨M143, e143, h⟩ := bO_some h
        refine ww_putI 143 X dX13_sign_143 (fP_X13_1007 _) e143 ?_
        refine ww_goto 146 228 X dX13_sign_146 (by decide) ?_
        refine ww_iconst 228 X (v := (0 : Int32)) dX13_sign_228 (by decide) ?_
        refine ww_istore 229 X dX13_sign_229 (lv' := [(0, .ref l0), (1, .int l1), (2, .int l2), (3, .int l3), (4, .int l4), (5, .int l5), (6, .int (0 : Int32))]) (by decide) [1, 2, 3, 4, 5, 6, 0] rfl ?_
        refine ww_iconst 231 X (v := (0 : Int32)) dX13_sign_231 (by decide) ?_
        refine ww_istore 232 X dX13_sign_232 (lv' := [(0, .ref l0), (1, .int l1), (2, .int l2), (3, .int l3), (4, .int l4), (5, .int l5), (6, .int (0 : Int32)), (7, .int (0 : Int32))]) (by decide) [1, 2, 3, 4, 5, 6, 7, 0] rfl ?_
        exact ww_sub [0, 1, 2, 4, 5, 6, 7] rfl (wB_X13_sign_234 X hQ F _ _ _ _ _ _ _ _ h)
      · replace h := (if_neg q).symm.trans h
        refine ww_iload_n 102 X dX13_sign_102 2 rfl rfl ?_
        refine ww_iconst 103 X (v := (3 : Int32)) dX13_sign_103 (by decide) ?_
        refine ww_icmp_ge 104 112 X dX13_sign_104 (by decide) (fun q => ?_) (fun q => ?_)
        · replace h := (if_pos q).symm.trans h
          refine ww_aload_n 112 X dX13_sign_112 0 rfl rfl ?_
          refine ww_iload_n 113 X dX13_sign_113 1 rfl rfl ?_
          refine ww_iload_n 114 X dX13_sign_114 2 rfl rfl ?_
          refine ww_iload 115 X dX13_sign_115 5 rfl ?_
          obtain ⟨_, f117, h⟩ := bO_some h
          obtain ⟨v117, M117, e117, h⟩ := bP_some h
          refine ww_callVI0 117 X dX13_sign_117 mY_X13_late mL_X13_1003 (rcv_spec f117) ⟨_, _, rfl⟩ (by decide) (As := [.int l1, .int l2, .int l5]) (rest := []) rfl rfl ⟨Nat.le_of_ble_eq_true rfl, Nat.le_of_ble_eq_true rfl⟩ (Nat.le_of_ble_eq_true rfl) (fun l D A => c_X13_late l D A e117) ?_
          exact ww_iretE 120 X hQ dX13_sign_120 h
        · replace h := (if_neg q).symm.trans h
          refine ww_bipush 107 X (v := (-3 : Int32)) dX13_sign_107 (by decide) ?_
          refine ww_goto 109 120 X dX13_sign_109 (by decide) ?_
          exact ww_iretE 120 X hQ dX13_sign_120 h
  · replace h := (if_pos q).symm.trans h
    refine ww_bipush 63 X (v := (-26 : Int32)) dX13_sign_63 (by decide) ?_
    exact ww_iretE 65 X hQ dX13_sign_65 h
set_option maxHeartbeats 4000000 in
set_option maxRecDepth 100000 in
theorem wB_X13_sign_29 {G : mG} {F : Nat} {x : mXT} {sz : Nat} {r0 : Int32} {M0 : mM} (X : mCX G RX13 cX13_sign 8 (some .int) "sign" rmX13_sign x) (hQ : mQI x r0 M0 (sz, 0, 0)) {l0 : Nat} {l1 : Int32} {l2 : Int32} {l3 : Int32} {l4 : Int32} {l5 : Int32} {M : mM} (h : B_X13_sign_29 G F l0 l1 l2 l3 l4 l5 M = some (r0, M0)) : WW x (sz, 0, 0) M 29 [(0, .ref l0), (1, .int l1), (2, .int l2), (3, .int l3), (4, .int l4), (5, .int l5)] [] := by
  unfold B_X13_sign_29 at h
  refine ww_iload 29 X dX13_sign_29 4 rfl ?_
  obtain ⟨v31, M31, e31, h⟩ := bP_some h
  refine ww_callSI0 31 X dX13_sign_31 mY_X13_isRow mL_X13_332 (As := [.int l4]) (rest := []) rfl rfl ⟨Nat.le_of_ble_eq_true rfl, Nat.le_of_ble_eq_true rfl⟩ (Nat.le_of_ble_eq_true rfl) (fun l D A => c_X13_isRow l D A e31) ?_
  refine ww_if_eq 34 50 X dX13_sign_34 (by decide) (fun q => ?_) (fun q => ?_)
  · replace h := (if_pos q).symm.trans h
    refine ww_bipush 50 X (v := (-2 : Int32)) dX13_sign_50 (by decide) ?_
    exact ww_iretE 52 X hQ dX13_sign_52 h
  · replace h := (if_neg q).symm.trans h
    refine ww_iload_n 37 X dX13_sign_37 2 rfl rfl ?_
    refine ww_iconst 38 X (v := (2 : Int32)) dX13_sign_38 (by decide) ?_
    refine ww_icmp_le 39 53 X dX13_sign_39 (by decide) (fun q => ?_) (fun q => ?_)
    · replace h := (if_pos q).symm.trans h
      exact (wB_X13_sign_53 X hQ h)
    · replace h := (if_neg q).symm.trans h
      refine ww_iload 42 X dX13_sign_42 5 rfl ?_
      obtain ⟨v44, M44, e44, h⟩ := bP_some h
      refine ww_callSI0 44 X dX13_sign_44 mY_X13_isRow mL_X13_332 (As := [.int l5]) (rest := []) rfl rfl ⟨Nat.le_of_ble_eq_true rfl, Nat.le_of_ble_eq_true rfl⟩ (Nat.le_of_ble_eq_true rfl) (fun l D A => c_X13_isRow l D A e44) ?_
      refine ww_if_ne 47 53 X dX13_sign_47 (by decide) (fun q => ?_) (fun q => ?_)
      · replace h := (if_neg q).symm.trans h
        exact (wB_X13_sign_53 X hQ h)
      · replace h := (if_pos q).symm.trans h
        refine ww_bipush 50 X (v := (-2 : Int32)) dX13_sign_50 (by decide) ?_
        exact ww_iretE 52 X hQ dX13_sign_52 h
set_option maxHeartbeats 4000000 in
set_option maxRecDepth 100000 in
theorem wP_X13_sign {G : mG} {F : Nat} {x : mXT} {sz : Nat} {r0 : Int32} {M0 : mM} (X : mCX G RX13 cX13_sign 8 (some .int) "sign" rmX13_sign x) (hQ : mQI x r0 M0 (sz, 0, 0)) {l0 : Nat} {l1 : Int32} {l2 : Int32} {l3 : Int32} {l4 : Int32} {l5 : Int32} {M : mM} (h : P_X13_sign G F l0 l1 l2 l3 l4 l5 M = some (r0, M0)) : WW x (sz, 0, 0) M 0 [(0, .ref l0), (1, .int l1), (2, .int l2), (3, .int l3), (4, .int l4), (5, .int l5)] [] := by
  unfold P_X13_sign at h
  refine ww_aload_n 0 X dX13_sign_0 0 rfl rfl ?_
  refine ww_iload_n 1 X dX13_sign_1 1 rfl rfl ?_
  obtain ⟨_, f2, h⟩ := bO_some h
  obtain ⟨v2, M2, e2, h⟩ := bP_some h
  refine ww_callVI0 2 X dX13_sign_2 mY_X13_isKey mL_X13_871 (rcv_spec f2) ⟨_, _, rfl⟩ (by decide) (As := [.int l1]) (rest := []) rfl rfl ⟨Nat.le_of_ble_eq_true rfl, Nat.le_of_ble_eq_true rfl⟩ (Nat.le_of_ble_eq_true rfl) (fun l D A => c_X13_isKey l D A e2) ?_
  refine ww_if_eq 5 50 X dX13_sign_5 (by decide) (fun q => ?_) (fun q => ?_)
  · replace h := (if_pos q).symm.trans h
    refine ww_bipush 50 X (v := (-2 : Int32)) dX13_sign_50 (by decide) ?_
    exact ww_iretE 52 X hQ dX13_sign_52 h
  · replace h := (if_neg q).symm.trans h
    refine ww_iload_n 8 X dX13_sign_8 2 rfl rfl ?_
    refine ww_if_lt 9 50 X dX13_sign_9 (by decide) (fun q => ?_) (fun q => ?_)
    · replace h := (if_pos q).symm.trans h
      refine ww_bipush 50 X (v := (-2 : Int32)) dX13_sign_50 (by decide) ?_
      exact ww_iretE 52 X hQ dX13_sign_52 h
    · replace h := (if_neg q).symm.trans h
      refine ww_iload_n 12 X dX13_sign_12 2 rfl rfl ?_
      refine ww_iconst 13 X (v := (4 : Int32)) dX13_sign_13 (by decide) ?_
      refine ww_icmp_gt 14 50 X dX13_sign_14 (by decide) (fun q => ?_) (fun q => ?_)
      · replace h := (if_pos q).symm.trans h
        refine ww_bipush 50 X (v := (-2 : Int32)) dX13_sign_50 (by decide) ?_
        exact ww_iretE 52 X hQ dX13_sign_52 h
      · replace h := (if_neg q).symm.trans h
        refine ww_iload_n 17 X dX13_sign_17 3 rfl rfl ?_
        refine ww_iconst 18 X (v := (-1 : Int32)) dX13_sign_18 (by decide) ?_
        refine ww_icmp_eq 19 29 X dX13_sign_19 (by decide) (fun q => ?_) (fun q => ?_)
        · replace h := (if_pos q).symm.trans h
          exact (wB_X13_sign_29 X hQ h)
        · replace h := (if_neg q).symm.trans h
          refine ww_iload_n 22 X dX13_sign_22 3 rfl rfl ?_
          obtain ⟨v23, M23, e23, h⟩ := bP_some h
          refine ww_callSI0 23 X dX13_sign_23 mY_X13_isRow mL_X13_332 (As := [.int l3]) (rest := []) rfl rfl ⟨Nat.le_of_ble_eq_true rfl, Nat.le_of_ble_eq_true rfl⟩ (Nat.le_of_ble_eq_true rfl) (fun l D A => c_X13_isRow l D A e23) ?_
          refine ww_if_eq 26 50 X dX13_sign_26 (by decide) (fun q => ?_) (fun q => ?_)
          · replace h := (if_pos q).symm.trans h
            refine ww_bipush 50 X (v := (-2 : Int32)) dX13_sign_50 (by decide) ?_
            exact ww_iretE 52 X hQ dX13_sign_52 h
          · replace h := (if_neg q).symm.trans h
            exact (wB_X13_sign_29 X hQ h)
theorem c_X13_sign {G : mG} {F sz : Nat} {r0 : Int32} {M0 : mM} (l : Launch) (D : mD) (A : Nat → Prop) {l0 : Nat} {l1 : Int32} {l2 : Int32} {l3 : Int32} {l4 : Int32} {l5 : Int32} {M : mM} (h : P_X13_sign G F l0 l1 l2 l3 l4 l5 M = some (r0, M0)) : mMetI l D G A yX13_sign cX13_sign 8 (some .int) 363 8586 0 0 [.ref l0, .int l1, .int l2, .int l3, .int l4, .int l5] M sz r0 M0 sz := mMetI_of l D G A (by decide) (Nat.le_of_ble_eq_true rfl) (fun x X hQ => wP_X13_sign X hQ h)
/-! SealedTokensModel.hasKid(I)Z -/
theorem dX13_hasKid_0 : decode cX13_hasKid 0 = .ok (.aload_n 0, 1) := by decide +kernel
theorem dX13_hasKid_1 : decode cX13_hasKid 1 = .ok (.getfield 930, 3) := by decide +kernel
theorem dX13_hasKid_4 : decode cX13_hasKid 4 = .ok (.ifCond .lt 43, 3) := by decide +kernel
theorem dX13_hasKid_7 : decode cX13_hasKid 7 = .ok (.aload_n 0, 1) := by decide +kernel
theorem dX13_hasKid_8 : decode cX13_hasKid 8 = .ok (.getfield 230, 3) := by decide +kernel
theorem dX13_hasKid_11 : decode cX13_hasKid 11 = .ok (.iload_n 1, 1) := by decide +kernel
theorem dX13_hasKid_12 : decode cX13_hasKid 12 = .ok (.iaload, 1) := by decide +kernel
theorem dX13_hasKid_13 : decode cX13_hasKid 13 = .ok (.aload_n 0, 1) := by decide +kernel
theorem dX13_hasKid_14 : decode cX13_hasKid 14 = .ok (.getfield 930, 3) := by decide +kernel
theorem dX13_hasKid_17 : decode cX13_hasKid 17 = .ok (.if_icmp .ne 34, 3) := by decide +kernel
theorem dX13_hasKid_20 : decode cX13_hasKid 20 = .ok (.aload_n 0, 1) := by decide +kernel
theorem dX13_hasKid_21 : decode cX13_hasKid 21 = .ok (.getfield 227, 3) := by decide +kernel
theorem dX13_hasKid_24 : decode cX13_hasKid 24 = .ok (.sipush 8200, 3) := by decide +kernel
theorem dX13_hasKid_27 : decode cX13_hasKid 27 = .ok (.iload_n 1, 1) := by decide +kernel
theorem dX13_hasKid_28 : decode cX13_hasKid 28 = .ok (.imul, 1) := by decide +kernel
theorem dX13_hasKid_29 : decode cX13_hasKid 29 = .ok (.aload_n 0, 1) := by decide +kernel
theorem dX13_hasKid_30 : decode cX13_hasKid 30 = .ok (.getfield 51, 3) := by decide +kernel
theorem dX13_hasKid_33 : decode cX13_hasKid 33 = .ok (.aload_n 0, 1) := by decide +kernel
theorem dX13_hasKid_34 : decode cX13_hasKid 34 = .ok (.getfield 927, 3) := by decide +kernel
theorem dX13_hasKid_37 : decode cX13_hasKid 37 = .ok (.aload_n 0, 1) := by decide +kernel
theorem dX13_hasKid_38 : decode cX13_hasKid 38 = .ok (.getfield 930, 3) := by decide +kernel
theorem dX13_hasKid_41 : decode cX13_hasKid 41 = .ok (.invokestatic 420, 3) := by decide +kernel
theorem dX13_hasKid_44 : decode cX13_hasKid 44 = .ok (.ifCond .eq 7, 3) := by decide +kernel
theorem dX13_hasKid_47 : decode cX13_hasKid 47 = .ok (.iconst 1, 1) := by decide +kernel
theorem dX13_hasKid_48 : decode cX13_hasKid 48 = .ok (.goto 4, 3) := by decide +kernel
theorem dX13_hasKid_51 : decode cX13_hasKid 51 = .ok (.iconst 0, 1) := by decide +kernel
theorem dX13_hasKid_52 : decode cX13_hasKid 52 = .ok (.ireturn, 1) := by decide +kernel
abbrev rmX13_hasKid : Room := { frames := 1, cells := 0, slots := 0, locals := 26 }
set_option maxHeartbeats 4000000 in
set_option maxRecDepth 100000 in
theorem wP_X13_hasKid {G : mG} {F : Nat} {x : mXT} {sz : Nat} {r0 : Int32} {M0 : mM} (X : mCX G RX13 cX13_hasKid 2 (some .boolean) "hasKid" rmX13_hasKid x) (hQ : mQI x r0 M0 (sz, 0, 0)) {l0 : Nat} {l1 : Int32} {M : mM} (h : P_X13_hasKid G F l0 l1 M = some (r0, M0)) : WW x (sz, 0, 0) M 0 [(0, .ref l0), (1, .int l1)] [] := by
  unfold P_X13_hasKid at h
  refine ww_aload_n 0 X dX13_hasKid_0 0 rfl rfl ?_
  obtain ⟨v1, e1, h⟩ := bO_some h
  refine ww_getI 1 X dX13_hasKid_1 fG_X13_930 e1 ?_
  refine ww_if_lt 4 47 X dX13_hasKid_4 (by decide) (fun q => ?_) (fun q => ?_)
  · replace h := (if_pos q).symm.trans h
    refine ww_iconst 47 X (v := (1 : Int32)) dX13_hasKid_47 (by decide) ?_
    refine ww_goto 48 52 X dX13_hasKid_48 (by decide) ?_
    exact ww_zretE 52 X hQ dX13_hasKid_52 h
  · replace h := (if_neg q).symm.trans h
    refine ww_aload_n 7 X dX13_hasKid_7 0 rfl rfl ?_
    obtain ⟨v8, e8, h⟩ := bO_some h
    refine ww_getR 8 X dX13_hasKid_8 fG_X13_230 e8 ?_
    refine ww_iload_n 11 X dX13_hasKid_11 1 rfl rfl ?_
    obtain ⟨v12, e12, h⟩ := bO_some h
    refine ww_iald 12 X dX13_hasKid_12 e12 ?_
    refine ww_aload_n 13 X dX13_hasKid_13 0 rfl rfl ?_
    obtain ⟨v14, e14, h⟩ := bO_some h
    refine ww_getI 14 X dX13_hasKid_14 fG_X13_930 e14 ?_
    refine ww_icmp_ne 17 51 X dX13_hasKid_17 (by decide) (fun q => ?_) (fun q => ?_)
    · replace h := (if_neg q).symm.trans h
      refine ww_iconst 51 X (v := (0 : Int32)) dX13_hasKid_51 (by decide) ?_
      exact ww_zretE 52 X hQ dX13_hasKid_52 h
    · replace h := (if_pos q).symm.trans h
      refine ww_aload_n 20 X dX13_hasKid_20 0 rfl rfl ?_
      obtain ⟨v21, e21, h⟩ := bO_some h
      refine ww_getR 21 X dX13_hasKid_21 fG_X13_227 e21 ?_
      refine ww_sipush 24 X (v := (8200 : Int32)) dX13_hasKid_24 (by decide) ?_
      refine ww_iload_n 27 X dX13_hasKid_27 1 rfl rfl ?_
      refine ww_imul 28 X dX13_hasKid_28 ?_
      refine ww_aload_n 29 X dX13_hasKid_29 0 rfl rfl ?_
      obtain ⟨v30, e30, h⟩ := bO_some h
      refine ww_getR 30 X dX13_hasKid_30 fG_X13_51 e30 ?_
      refine ww_aload_n 33 X dX13_hasKid_33 0 rfl rfl ?_
      obtain ⟨v34, e34, h⟩ := bO_some h
      refine ww_getI 34 X dX13_hasKid_34 fG_X13_927 e34 ?_
      refine ww_aload_n 37 X dX13_hasKid_37 0 rfl rfl ?_
      obtain ⟨v38, e38, h⟩ := bO_some h
      refine ww_getI 38 X dX13_hasKid_38 fG_X13_930 e38 ?_
      obtain ⟨v41, M41, e41, h⟩ := bP_some h
      refine ww_callSI0 41 X dX13_hasKid_41 mY_X13_same mL_X13_420 (As := [.ref v21, .int ((8200 : Int32) * l1), .ref v30, .int v34, .int v38]) (rest := []) rfl rfl ⟨Nat.le_of_ble_eq_true rfl, Nat.le_of_ble_eq_true rfl⟩ (Nat.le_of_ble_eq_true rfl) (fun l D A => c_X13_same l D A e41) ?_
      refine ww_if_eq 44 51 X dX13_hasKid_44 (by decide) (fun q => ?_) (fun q => ?_)
      · replace h := (if_pos q).symm.trans h
        refine ww_iconst 51 X (v := (0 : Int32)) dX13_hasKid_51 (by decide) ?_
        exact ww_zretE 52 X hQ dX13_hasKid_52 h
      · replace h := (if_neg q).symm.trans h
        refine ww_iconst 47 X (v := (1 : Int32)) dX13_hasKid_47 (by decide) ?_
        refine ww_goto 48 52 X dX13_hasKid_48 (by decide) ?_
        exact ww_zretE 52 X hQ dX13_hasKid_52 h
theorem c_X13_hasKid {G : mG} {F sz : Nat} {r0 : Int32} {M0 : mM} (l : Launch) (D : mD) (A : Nat → Prop) {l0 : Nat} {l1 : Int32} {M : mM} (h : P_X13_hasKid G F l0 l1 M = some (r0, M0)) : mMetI l D G A yX13_hasKid cX13_hasKid 2 (some .boolean) 1 26 0 0 [.ref l0, .int l1] M sz r0 M0 sz := mMetI_of l D G A (by decide) (Nat.le_of_ble_eq_true rfl) (fun x X hQ => wP_X13_hasKid X hQ h)
/-! SealedTokensModel.pointsOf(I)I -/
theorem dX13_pointsOf_0 : decode cX13_pointsOf 0 = .ok (.iconst 0, 1) := by decide +kernel
theorem dX13_pointsOf_1 : decode cX13_pointsOf 1 = .ok (.istore_n 2, 1) := by decide +kernel
theorem dX13_pointsOf_2 : decode cX13_pointsOf 2 = .ok (.iconst 0, 1) := by decide +kernel
theorem dX13_pointsOf_3 : decode cX13_pointsOf 3 = .ok (.istore_n 3, 1) := by decide +kernel
theorem dX13_pointsOf_4 : decode cX13_pointsOf 4 = .ok (.iload_n 3, 1) := by decide +kernel
theorem dX13_pointsOf_5 : decode cX13_pointsOf 5 = .ok (.aload_n 0, 1) := by decide +kernel
theorem dX13_pointsOf_6 : decode cX13_pointsOf 6 = .ok (.getfield 17, 3) := by decide +kernel
theorem dX13_pointsOf_9 : decode cX13_pointsOf 9 = .ok (.iload_n 1, 1) := by decide +kernel
theorem dX13_pointsOf_10 : decode cX13_pointsOf 10 = .ok (.iaload, 1) := by decide +kernel
theorem dX13_pointsOf_11 : decode cX13_pointsOf 11 = .ok (.if_icmp .ge 42, 3) := by decide +kernel
theorem dX13_pointsOf_14 : decode cX13_pointsOf 14 = .ok (.aload_n 0, 1) := by decide +kernel
theorem dX13_pointsOf_15 : decode cX13_pointsOf 15 = .ok (.getfield 14, 3) := by decide +kernel
theorem dX13_pointsOf_18 : decode cX13_pointsOf 18 = .ok (.sipush 8192, 3) := by decide +kernel
theorem dX13_pointsOf_21 : decode cX13_pointsOf 21 = .ok (.iload_n 1, 1) := by decide +kernel
theorem dX13_pointsOf_22 : decode cX13_pointsOf 22 = .ok (.imul, 1) := by decide +kernel
theorem dX13_pointsOf_23 : decode cX13_pointsOf 23 = .ok (.iload_n 3, 1) := by decide +kernel
theorem dX13_pointsOf_24 : decode cX13_pointsOf 24 = .ok (.iadd, 1) := by decide +kernel
theorem dX13_pointsOf_25 : decode cX13_pointsOf 25 = .ok (.baload, 1) := by decide +kernel
theorem dX13_pointsOf_26 : decode cX13_pointsOf 26 = .ok (.bipush 46, 2) := by decide +kernel
theorem dX13_pointsOf_28 : decode cX13_pointsOf 28 = .ok (.if_icmp .ne 19, 3) := by decide +kernel
theorem dX13_pointsOf_31 : decode cX13_pointsOf 31 = .ok (.iload_n 2, 1) := by decide +kernel
theorem dX13_pointsOf_32 : decode cX13_pointsOf 32 = .ok (.bipush 6, 2) := by decide +kernel
theorem dX13_pointsOf_34 : decode cX13_pointsOf 34 = .ok (.if_icmp .ge 10, 3) := by decide +kernel
theorem dX13_pointsOf_37 : decode cX13_pointsOf 37 = .ok (.aload_n 0, 1) := by decide +kernel
theorem dX13_pointsOf_38 : decode cX13_pointsOf 38 = .ok (.getfield 282, 3) := by decide +kernel
theorem dX13_pointsOf_41 : decode cX13_pointsOf 41 = .ok (.iload_n 2, 1) := by decide +kernel
theorem dX13_pointsOf_42 : decode cX13_pointsOf 42 = .ok (.iload_n 3, 1) := by decide +kernel
theorem dX13_pointsOf_43 : decode cX13_pointsOf 43 = .ok (.iastore, 1) := by decide +kernel
theorem dX13_pointsOf_44 : decode cX13_pointsOf 44 = .ok (.iinc 2 1, 3) := by decide +kernel
theorem dX13_pointsOf_47 : decode cX13_pointsOf 47 = .ok (.iinc 3 1, 3) := by decide +kernel
theorem dX13_pointsOf_50 : decode cX13_pointsOf 50 = .ok (.goto (-46), 3) := by decide +kernel
theorem dX13_pointsOf_53 : decode cX13_pointsOf 53 = .ok (.iload_n 2, 1) := by decide +kernel
theorem dX13_pointsOf_54 : decode cX13_pointsOf 54 = .ok (.ireturn, 1) := by decide +kernel
abbrev rmX13_pointsOf : Room := { frames := 0, cells := 0, slots := 0, locals := 0 }
set_option maxHeartbeats 4000000 in
set_option maxRecDepth 100000 in
theorem wB_X13_pointsOf_4 {G : mG} {F : Nat} {x : mXT} {sz : Nat} {r0 : Int32} {M0 : mM} (X : mCX G RX13 cX13_pointsOf 4 (some .int) "pointsOf" rmX13_pointsOf x) (hQ : mQI x r0 M0 (sz, 0, 0)) : ∀ (n : Nat) (l0 : Nat) (l1 : Int32) (l2 : Int32) (l3 : Int32) (M : mM), B_X13_pointsOf_4 G F n l0 l1 l2 l3 M = some (r0, M0) → WW x (sz, 0, 0) M 4 [(0, .ref l0), (1, .int l1), (2, .int l2), (3, .int l3)] [] := by
  intro n
  induction n with
  | zero =>
    intro l0 l1 l2 l3 M h
    exact nomatch (show (none : Option (Int32 × mM)) = some (r0, M0) from h)
  | succ n ih =>
    intro l0 l1 l2 l3 M h
    rw [B_X13_pointsOf_4] at h
    refine ww_iload_n 4 X dX13_pointsOf_4 3 rfl rfl ?_
    refine ww_aload_n 5 X dX13_pointsOf_5 0 rfl rfl ?_
    obtain ⟨v6, e6, h⟩ := bO_some h
    refine ww_getR 6 X dX13_pointsOf_6 fG_X13_17 e6 ?_
    refine ww_iload_n 9 X dX13_pointsOf_9 1 rfl rfl ?_
    obtain ⟨v10, e10, h⟩ := bO_some h
    refine ww_iald 10 X dX13_pointsOf_10 e10 ?_
    refine ww_icmp_ge 11 53 X dX13_pointsOf_11 (by decide) (fun q => ?_) (fun q => ?_)
    · replace h := (if_pos q).symm.trans h
      refine ww_iload_n 53 X dX13_pointsOf_53 2 rfl rfl ?_
      exact ww_iretE 54 X hQ dX13_pointsOf_54 h
    · replace h := (if_neg q).symm.trans h
      refine ww_aload_n 14 X dX13_pointsOf_14 0 rfl rfl ?_
      obtain ⟨v15, e15, h⟩ := bO_some h
      refine ww_getR 15 X dX13_pointsOf_15 fG_X13_14 e15 ?_
      refine ww_sipush 18 X (v := (8192 : Int32)) dX13_pointsOf_18 (by decide) ?_
      refine ww_iload_n 21 X dX13_pointsOf_21 1 rfl rfl ?_
      refine ww_imul 22 X dX13_pointsOf_22 ?_
      refine ww_iload_n 23 X dX13_pointsOf_23 3 rfl rfl ?_
      refine ww_iadd 24 X dX13_pointsOf_24 ?_
      obtain ⟨v25, e25, h⟩ := bO_some h
      refine ww_bald 25 X dX13_pointsOf_25 e25 ?_
      refine ww_bipush 26 X (v := (46 : Int32)) dX13_pointsOf_26 (by decide) ?_
      refine ww_icmp_ne 28 47 X dX13_pointsOf_28 (by decide) (fun q => ?_) (fun q => ?_)
      · replace h := (if_neg q).symm.trans h
        refine ww_iinc 47 X dX13_pointsOf_47 (lv' := [(0, .ref l0), (1, .int l1), (2, .int l2), (3, .int (l3 + 1))]) 3 rfl rfl (by decide) [1, 2, 3, 0] rfl ?_
        refine ww_goto 50 4 X dX13_pointsOf_50 (by decide) ?_
        exact (ih _ _ _ _ _ h)
      · replace h := (if_pos q).symm.trans h
        refine ww_iload_n 31 X dX13_pointsOf_31 2 rfl rfl ?_
        refine ww_bipush 32 X (v := (6 : Int32)) dX13_pointsOf_32 (by decide) ?_
        refine ww_icmp_ge 34 44 X dX13_pointsOf_34 (by decide) (fun q => ?_) (fun q => ?_)
        · replace h := (if_pos q).symm.trans h
          refine ww_iinc 44 X dX13_pointsOf_44 (lv' := [(0, .ref l0), (1, .int l1), (2, .int (l2 + 1)), (3, .int l3)]) 2 rfl rfl (by decide) [1, 2, 0, 3] rfl ?_
          refine ww_iinc 47 X dX13_pointsOf_47 (lv' := [(0, .ref l0), (1, .int l1), (2, .int (l2 + 1)), (3, .int (l3 + 1))]) 3 rfl rfl (by decide) [1, 2, 3, 0] rfl ?_
          refine ww_goto 50 4 X dX13_pointsOf_50 (by decide) ?_
          exact (ih _ _ _ _ _ h)
        · replace h := (if_neg q).symm.trans h
          refine ww_aload_n 37 X dX13_pointsOf_37 0 rfl rfl ?_
          obtain ⟨v38, e38, h⟩ := bO_some h
          refine ww_getR 38 X dX13_pointsOf_38 fG_X13_282 e38 ?_
          refine ww_iload_n 41 X dX13_pointsOf_41 2 rfl rfl ?_
          refine ww_iload_n 42 X dX13_pointsOf_42 3 rfl rfl ?_
          obtain ⟨M43, e43, h⟩ := bO_some h
          refine ww_iast 43 X dX13_pointsOf_43 e43 ?_
          refine ww_iinc 44 X dX13_pointsOf_44 (lv' := [(0, .ref l0), (1, .int l1), (2, .int (l2 + 1)), (3, .int l3)]) 2 rfl rfl (by decide) [1, 2, 0, 3] rfl ?_
          refine ww_iinc 47 X dX13_pointsOf_47 (lv' := [(0, .ref l0), (1, .int l1), (2, .int (l2 + 1)), (3, .int (l3 + 1))]) 3 rfl rfl (by decide) [1, 2, 3, 0] rfl ?_
          refine ww_goto 50 4 X dX13_pointsOf_50 (by decide) ?_
          exact (ih _ _ _ _ _ h)
set_option maxHeartbeats 4000000 in
set_option maxRecDepth 100000 in
theorem wP_X13_pointsOf {G : mG} {F : Nat} {x : mXT} {sz : Nat} {r0 : Int32} {M0 : mM} (X : mCX G RX13 cX13_pointsOf 4 (some .int) "pointsOf" rmX13_pointsOf x) (hQ : mQI x r0 M0 (sz, 0, 0)) {l0 : Nat} {l1 : Int32} {M : mM} (h : P_X13_pointsOf G F l0 l1 M = some (r0, M0)) : WW x (sz, 0, 0) M 0 [(0, .ref l0), (1, .int l1)] [] := by
  unfold P_X13_pointsOf at h
  refine ww_iconst 0 X (v := (0 : Int32)) dX13_pointsOf_0 (by decide) ?_
  refine ww_istore_n 1 X dX13_pointsOf_1 (lv' := [(0, .ref l0), (1, .int l1), (2, .int (0 : Int32))]) rfl (by decide) [1, 2, 0] rfl ?_
  refine ww_iconst 2 X (v := (0 : Int32)) dX13_pointsOf_2 (by decide) ?_
  refine ww_istore_n 3 X dX13_pointsOf_3 (lv' := [(0, .ref l0), (1, .int l1), (2, .int (0 : Int32)), (3, .int (0 : Int32))]) rfl (by decide) [1, 2, 3, 0] rfl ?_
  exact (wB_X13_pointsOf_4 X hQ F _ _ _ _ _ h)
theorem c_X13_pointsOf {G : mG} {F sz : Nat} {r0 : Int32} {M0 : mM} (l : Launch) (D : mD) (A : Nat → Prop) {l0 : Nat} {l1 : Int32} {M : mM} (h : P_X13_pointsOf G F l0 l1 M = some (r0, M0)) : mMetI l D G A yX13_pointsOf cX13_pointsOf 4 (some .int) 0 0 0 0 [.ref l0, .int l1] M sz r0 M0 sz := mMetI_of l D G A (by decide) (Nat.le_of_ble_eq_true rfl) (fun x X hQ => wP_X13_pointsOf X hQ h)
/-! SealedTokensModel.verify(I)I -/
theorem dX13_verify_0 : decode cX13_verify 0 = .ok (.iload_n 1, 1) := by decide +kernel
theorem dX13_verify_1 : decode cX13_verify 1 = .ok (.invokestatic 332, 3) := by decide +kernel
theorem dX13_verify_4 : decode cX13_verify 4 = .ok (.ifCond .ne 6, 3) := by decide +kernel
theorem dX13_verify_7 : decode cX13_verify 7 = .ok (.bipush (-2), 2) := by decide +kernel
theorem dX13_verify_9 : decode cX13_verify 9 = .ok (.ireturn, 1) := by decide +kernel
theorem dX13_verify_10 : decode cX13_verify 10 = .ok (.aload_n 0, 1) := by decide +kernel
theorem dX13_verify_11 : decode cX13_verify 11 = .ok (.iload_n 1, 1) := by decide +kernel
theorem dX13_verify_12 : decode cX13_verify 12 = .ok (.invokevirtual 1026, 3) := by decide +kernel
theorem dX13_verify_15 : decode cX13_verify 15 = .ok (.iconst 2, 1) := by decide +kernel
theorem dX13_verify_16 : decode cX13_verify 16 = .ok (.if_icmp .eq 6, 3) := by decide +kernel
theorem dX13_verify_19 : decode cX13_verify 19 = .ok (.bipush (-20), 2) := by decide +kernel
theorem dX13_verify_21 : decode cX13_verify 21 = .ok (.ireturn, 1) := by decide +kernel
theorem dX13_verify_22 : decode cX13_verify 22 = .ok (.sipush 8192, 3) := by decide +kernel
theorem dX13_verify_25 : decode cX13_verify 25 = .ok (.iload_n 1, 1) := by decide +kernel
theorem dX13_verify_26 : decode cX13_verify 26 = .ok (.imul, 1) := by decide +kernel
theorem dX13_verify_27 : decode cX13_verify 27 = .ok (.istore_n 2, 1) := by decide +kernel
theorem dX13_verify_28 : decode cX13_verify 28 = .ok (.aload_n 0, 1) := by decide +kernel
theorem dX13_verify_29 : decode cX13_verify 29 = .ok (.aload_n 0, 1) := by decide +kernel
theorem dX13_verify_30 : decode cX13_verify 30 = .ok (.aload_n 0, 1) := by decide +kernel
theorem dX13_verify_31 : decode cX13_verify 31 = .ok (.getfield 14, 3) := by decide +kernel
theorem dX13_verify_34 : decode cX13_verify 34 = .ok (.iload_n 2, 1) := by decide +kernel
theorem dX13_verify_35 : decode cX13_verify 35 = .ok (.aload_n 0, 1) := by decide +kernel
theorem dX13_verify_36 : decode cX13_verify 36 = .ok (.getfield 282, 3) := by decide +kernel
theorem dX13_verify_39 : decode cX13_verify 39 = .ok (.iconst 0, 1) := by decide +kernel
theorem dX13_verify_40 : decode cX13_verify 40 = .ok (.iaload, 1) := by decide +kernel
theorem dX13_verify_41 : decode cX13_verify 41 = .ok (.aload_n 0, 1) := by decide +kernel
theorem dX13_verify_42 : decode cX13_verify 42 = .ok (.getfield 275, 3) := by decide +kernel
theorem dX13_verify_45 : decode cX13_verify 45 = .ok (.iconst 0, 1) := by decide +kernel
theorem dX13_verify_46 : decode cX13_verify 46 = .ok (.invokevirtual 503, 3) := by decide +kernel
theorem dX13_verify_49 : decode cX13_verify 49 = .ok (.putfield 1007, 3) := by decide +kernel
theorem dX13_verify_52 : decode cX13_verify 52 = .ok (.aload_n 0, 1) := by decide +kernel
theorem dX13_verify_53 : decode cX13_verify 53 = .ok (.getfield 1007, 3) := by decide +kernel
theorem dX13_verify_56 : decode cX13_verify 56 = .ok (.ifCond .ge 6, 3) := by decide +kernel
theorem dX13_verify_59 : decode cX13_verify 59 = .ok (.bipush (-21), 2) := by decide +kernel
theorem dX13_verify_61 : decode cX13_verify 61 = .ok (.ireturn, 1) := by decide +kernel
theorem dX13_verify_62 : decode cX13_verify 62 = .ok (.aload_n 0, 1) := by decide +kernel
theorem dX13_verify_63 : decode cX13_verify 63 = .ok (.aload_n 0, 1) := by decide +kernel
theorem dX13_verify_64 : decode cX13_verify 64 = .ok (.getfield 275, 3) := by decide +kernel
theorem dX13_verify_67 : decode cX13_verify 67 = .ok (.iconst 0, 1) := by decide +kernel
theorem dX13_verify_68 : decode cX13_verify 68 = .ok (.aload_n 0, 1) := by decide +kernel
theorem dX13_verify_69 : decode cX13_verify 69 = .ok (.getfield 1007, 3) := by decide +kernel
theorem dX13_verify_72 : decode cX13_verify 72 = .ok (.iconst 0, 1) := by decide +kernel
theorem dX13_verify_73 : decode cX13_verify 73 = .ok (.invokevirtual 1010, 3) := by decide +kernel
theorem dX13_verify_76 : decode cX13_verify 76 = .ok (.istore_n 3, 1) := by decide +kernel
theorem dX13_verify_77 : decode cX13_verify 77 = .ok (.iload_n 3, 1) := by decide +kernel
theorem dX13_verify_78 : decode cX13_verify 78 = .ok (.ifCond .ge 5, 3) := by decide +kernel
theorem dX13_verify_81 : decode cX13_verify 81 = .ok (.iload_n 3, 1) := by decide +kernel
theorem dX13_verify_82 : decode cX13_verify 82 = .ok (.ireturn, 1) := by decide +kernel
theorem dX13_verify_83 : decode cX13_verify 83 = .ok (.aload_n 0, 1) := by decide +kernel
theorem dX13_verify_84 : decode cX13_verify 84 = .ok (.getfield 282, 3) := by decide +kernel
theorem dX13_verify_87 : decode cX13_verify 87 = .ok (.iconst 0, 1) := by decide +kernel
theorem dX13_verify_88 : decode cX13_verify 88 = .ok (.iaload, 1) := by decide +kernel
theorem dX13_verify_89 : decode cX13_verify 89 = .ok (.iconst 1, 1) := by decide +kernel
theorem dX13_verify_90 : decode cX13_verify 90 = .ok (.iadd, 1) := by decide +kernel
theorem dX13_verify_91 : decode cX13_verify 91 = .ok (.istore 4, 2) := by decide +kernel
theorem dX13_verify_93 : decode cX13_verify 93 = .ok (.aload_n 0, 1) := by decide +kernel
theorem dX13_verify_94 : decode cX13_verify 94 = .ok (.getfield 282, 3) := by decide +kernel
theorem dX13_verify_97 : decode cX13_verify 97 = .ok (.iconst 1, 1) := by decide +kernel
theorem dX13_verify_98 : decode cX13_verify 98 = .ok (.iaload, 1) := by decide +kernel
theorem dX13_verify_99 : decode cX13_verify 99 = .ok (.iload 4, 2) := by decide +kernel
theorem dX13_verify_101 : decode cX13_verify 101 = .ok (.isub, 1) := by decide +kernel
theorem dX13_verify_102 : decode cX13_verify 102 = .ok (.istore 5, 2) := by decide +kernel
theorem dX13_verify_104 : decode cX13_verify 104 = .ok (.iload 5, 2) := by decide +kernel
theorem dX13_verify_106 : decode cX13_verify 106 = .ok (.istore 6, 2) := by decide +kernel
theorem dX13_verify_108 : decode cX13_verify 108 = .ok (.aload_n 0, 1) := by decide +kernel
theorem dX13_verify_109 : decode cX13_verify 109 = .ok (.getfield 906, 3) := by decide +kernel
theorem dX13_verify_112 : decode cX13_verify 112 = .ok (.ifCond .eq 24, 3) := by decide +kernel
theorem dX13_verify_115 : decode cX13_verify 115 = .ok (.aload_n 0, 1) := by decide +kernel
theorem dX13_verify_116 : decode cX13_verify 116 = .ok (.getfield 14, 3) := by decide +kernel
theorem dX13_verify_119 : decode cX13_verify 119 = .ok (.iload_n 2, 1) := by decide +kernel
theorem dX13_verify_120 : decode cX13_verify 120 = .ok (.iload 4, 2) := by decide +kernel
theorem dX13_verify_122 : decode cX13_verify 122 = .ok (.iadd, 1) := by decide +kernel
theorem dX13_verify_123 : decode cX13_verify 123 = .ok (.aload_n 0, 1) := by decide +kernel
theorem dX13_verify_124 : decode cX13_verify 124 = .ok (.getfield 285, 3) := by decide +kernel
theorem dX13_verify_127 : decode cX13_verify 127 = .ok (.iconst 0, 1) := by decide +kernel
theorem dX13_verify_128 : decode cX13_verify 128 = .ok (.iload 5, 2) := by decide +kernel
theorem dX13_verify_130 : decode cX13_verify 130 = .ok (.invokestatic 317, 3) := by decide +kernel
theorem dX13_verify_133 : decode cX13_verify 133 = .ok (.goto 24, 3) := by decide +kernel
theorem dX13_verify_136 : decode cX13_verify 136 = .ok (.aload_n 0, 1) := by decide +kernel
theorem dX13_verify_137 : decode cX13_verify 137 = .ok (.aload_n 0, 1) := by decide +kernel
theorem dX13_verify_138 : decode cX13_verify 138 = .ok (.getfield 14, 3) := by decide +kernel
theorem dX13_verify_141 : decode cX13_verify 141 = .ok (.iload_n 2, 1) := by decide +kernel
theorem dX13_verify_142 : decode cX13_verify 142 = .ok (.iload 4, 2) := by decide +kernel
theorem dX13_verify_144 : decode cX13_verify 144 = .ok (.iadd, 1) := by decide +kernel
theorem dX13_verify_145 : decode cX13_verify 145 = .ok (.iload 5, 2) := by decide +kernel
theorem dX13_verify_147 : decode cX13_verify 147 = .ok (.aload_n 0, 1) := by decide +kernel
theorem dX13_verify_148 : decode cX13_verify 148 = .ok (.getfield 285, 3) := by decide +kernel
theorem dX13_verify_151 : decode cX13_verify 151 = .ok (.iconst 0, 1) := by decide +kernel
theorem dX13_verify_152 : decode cX13_verify 152 = .ok (.invokevirtual 503, 3) := by decide +kernel
theorem dX13_verify_155 : decode cX13_verify 155 = .ok (.istore 6, 2) := by decide +kernel
theorem dX13_verify_157 : decode cX13_verify 157 = .ok (.aload_n 0, 1) := by decide +kernel
theorem dX13_verify_158 : decode cX13_verify 158 = .ok (.aload_n 0, 1) := by decide +kernel
theorem dX13_verify_159 : decode cX13_verify 159 = .ok (.aload_n 0, 1) := by decide +kernel
theorem dX13_verify_160 : decode cX13_verify 160 = .ok (.getfield 14, 3) := by decide +kernel
theorem dX13_verify_163 : decode cX13_verify 163 = .ok (.iload_n 2, 1) := by decide +kernel
theorem dX13_verify_164 : decode cX13_verify 164 = .ok (.aload_n 0, 1) := by decide +kernel
theorem dX13_verify_165 : decode cX13_verify 165 = .ok (.getfield 282, 3) := by decide +kernel
theorem dX13_verify_168 : decode cX13_verify 168 = .ok (.iconst 1, 1) := by decide +kernel
theorem dX13_verify_169 : decode cX13_verify 169 = .ok (.iaload, 1) := by decide +kernel
theorem dX13_verify_170 : decode cX13_verify 170 = .ok (.iadd, 1) := by decide +kernel
theorem dX13_verify_171 : decode cX13_verify 171 = .ok (.iconst 1, 1) := by decide +kernel
theorem dX13_verify_172 : decode cX13_verify 172 = .ok (.iadd, 1) := by decide +kernel
theorem dX13_verify_173 : decode cX13_verify 173 = .ok (.aload_n 0, 1) := by decide +kernel
theorem dX13_verify_174 : decode cX13_verify 174 = .ok (.getfield 17, 3) := by decide +kernel
theorem dX13_verify_177 : decode cX13_verify 177 = .ok (.iload_n 1, 1) := by decide +kernel
theorem dX13_verify_178 : decode cX13_verify 178 = .ok (.iaload, 1) := by decide +kernel
theorem dX13_verify_179 : decode cX13_verify 179 = .ok (.aload_n 0, 1) := by decide +kernel
theorem dX13_verify_180 : decode cX13_verify 180 = .ok (.getfield 282, 3) := by decide +kernel
theorem dX13_verify_183 : decode cX13_verify 183 = .ok (.iconst 1, 1) := by decide +kernel
theorem dX13_verify_184 : decode cX13_verify 184 = .ok (.iaload, 1) := by decide +kernel
theorem dX13_verify_185 : decode cX13_verify 185 = .ok (.isub, 1) := by decide +kernel
theorem dX13_verify_186 : decode cX13_verify 186 = .ok (.iconst 1, 1) := by decide +kernel
theorem dX13_verify_187 : decode cX13_verify 187 = .ok (.isub, 1) := by decide +kernel
theorem dX13_verify_188 : decode cX13_verify 188 = .ok (.aload_n 0, 1) := by decide +kernel
theorem dX13_verify_189 : decode cX13_verify 189 = .ok (.getfield 257, 3) := by decide +kernel
theorem dX13_verify_192 : decode cX13_verify 192 = .ok (.iconst 0, 1) := by decide +kernel
theorem dX13_verify_193 : decode cX13_verify 193 = .ok (.invokevirtual 503, 3) := by decide +kernel
theorem dX13_verify_196 : decode cX13_verify 196 = .ok (.putfield 954, 3) := by decide +kernel
theorem dX13_verify_199 : decode cX13_verify 199 = .ok (.iload 6, 2) := by decide +kernel
theorem dX13_verify_201 : decode cX13_verify 201 = .ok (.ifCond .lt 10, 3) := by decide +kernel
theorem dX13_verify_204 : decode cX13_verify 204 = .ok (.aload_n 0, 1) := by decide +kernel
theorem dX13_verify_205 : decode cX13_verify 205 = .ok (.getfield 954, 3) := by decide +kernel
theorem dX13_verify_208 : decode cX13_verify 208 = .ok (.ifCond .ge 6, 3) := by decide +kernel
theorem dX13_verify_211 : decode cX13_verify 211 = .ok (.bipush (-21), 2) := by decide +kernel
theorem dX13_verify_213 : decode cX13_verify 213 = .ok (.ireturn, 1) := by decide +kernel
theorem dX13_verify_214 : decode cX13_verify 214 = .ok (.iconst 0, 1) := by decide +kernel
theorem dX13_verify_215 : decode cX13_verify 215 = .ok (.istore 7, 2) := by decide +kernel
theorem dX13_verify_217 : decode cX13_verify 217 = .ok (.iconst 0, 1) := by decide +kernel
theorem dX13_verify_218 : decode cX13_verify 218 = .ok (.istore 8, 2) := by decide +kernel
theorem dX13_verify_220 : decode cX13_verify 220 = .ok (.iload 8, 2) := by decide +kernel
theorem dX13_verify_222 : decode cX13_verify 222 = .ok (.bipush 16, 2) := by decide +kernel
theorem dX13_verify_224 : decode cX13_verify 224 = .ok (.if_icmp .ge 84, 3) := by decide +kernel
theorem dX13_verify_227 : decode cX13_verify 227 = .ok (.aload_n 0, 1) := by decide +kernel
theorem dX13_verify_228 : decode cX13_verify 228 = .ok (.iload 8, 2) := by decide +kernel
theorem dX13_verify_230 : decode cX13_verify 230 = .ok (.aload_n 0, 1) := by decide +kernel
theorem dX13_verify_231 : decode cX13_verify 231 = .ok (.getfield 919, 3) := by decide +kernel
theorem dX13_verify_234 : decode cX13_verify 234 = .ok (.iconst 0, 1) := by decide +kernel
theorem dX13_verify_235 : decode cX13_verify 235 = .ok (.invokevirtual 995, 3) := by decide +kernel
theorem dX13_verify_238 : decode cX13_verify 238 = .ok (.ifCond .eq 64, 3) := by decide +kernel
theorem dX13_verify_241 : decode cX13_verify 241 = .ok (.aload_n 0, 1) := by decide +kernel
theorem dX13_verify_242 : decode cX13_verify 242 = .ok (.iload 8, 2) := by decide +kernel
theorem dX13_verify_244 : decode cX13_verify 244 = .ok (.invokevirtual 1029, 3) := by decide +kernel
theorem dX13_verify_247 : decode cX13_verify 247 = .ok (.ifCond .eq 55, 3) := by decide +kernel
theorem dX13_verify_250 : decode cX13_verify 250 = .ok (.iconst 1, 1) := by decide +kernel
theorem dX13_verify_251 : decode cX13_verify 251 = .ok (.istore 7, 2) := by decide +kernel
theorem dX13_verify_253 : decode cX13_verify 253 = .ok (.aload_n 0, 1) := by decide +kernel
theorem dX13_verify_254 : decode cX13_verify 254 = .ok (.iconst 0, 1) := by decide +kernel
theorem dX13_verify_255 : decode cX13_verify 255 = .ok (.putfield 579, 3) := by decide +kernel
theorem dX13_verify_258 : decode cX13_verify 258 = .ok (.aload_n 0, 1) := by decide +kernel
theorem dX13_verify_259 : decode cX13_verify 259 = .ok (.aload_n 0, 1) := by decide +kernel
theorem dX13_verify_260 : decode cX13_verify 260 = .ok (.getfield 14, 3) := by decide +kernel
theorem dX13_verify_263 : decode cX13_verify 263 = .ok (.iload_n 2, 1) := by decide +kernel
theorem dX13_verify_264 : decode cX13_verify 264 = .ok (.aload_n 0, 1) := by decide +kernel
theorem dX13_verify_265 : decode cX13_verify 265 = .ok (.getfield 282, 3) := by decide +kernel
theorem dX13_verify_268 : decode cX13_verify 268 = .ok (.iconst 1, 1) := by decide +kernel
theorem dX13_verify_269 : decode cX13_verify 269 = .ok (.iaload, 1) := by decide +kernel
theorem dX13_verify_270 : decode cX13_verify 270 = .ok (.invokevirtual 582, 3) := by decide +kernel
theorem dX13_verify_273 : decode cX13_verify 273 = .ok (.aload_n 0, 1) := by decide +kernel
theorem dX13_verify_274 : decode cX13_verify 274 = .ok (.iload 8, 2) := by decide +kernel
theorem dX13_verify_276 : decode cX13_verify 276 = .ok (.aload_n 0, 1) := by decide +kernel
theorem dX13_verify_277 : decode cX13_verify 277 = .ok (.getfield 919, 3) := by decide +kernel
theorem dX13_verify_280 : decode cX13_verify 280 = .ok (.invokevirtual 1032, 3) := by decide +kernel
theorem dX13_verify_283 : decode cX13_verify 283 = .ok (.ifCond .eq 19, 3) := by decide +kernel
theorem dX13_verify_286 : decode cX13_verify 286 = .ok (.aload_n 0, 1) := by decide +kernel
theorem dX13_verify_287 : decode cX13_verify 287 = .ok (.aload_n 0, 1) := by decide +kernel
theorem dX13_verify_288 : decode cX13_verify 288 = .ok (.getfield 285, 3) := by decide +kernel
theorem dX13_verify_291 : decode cX13_verify 291 = .ok (.iconst 0, 1) := by decide +kernel
theorem dX13_verify_292 : decode cX13_verify 292 = .ok (.iload 6, 2) := by decide +kernel
theorem dX13_verify_294 : decode cX13_verify 294 = .ok (.invokevirtual 463, 3) := by decide +kernel
theorem dX13_verify_297 : decode cX13_verify 297 = .ok (.istore 9, 2) := by decide +kernel
theorem dX13_verify_299 : decode cX13_verify 299 = .ok (.iload 8, 2) := by decide +kernel
theorem dX13_verify_301 : decode cX13_verify 301 = .ok (.ireturn, 1) := by decide +kernel
theorem dX13_verify_302 : decode cX13_verify 302 = .ok (.iinc 8 1, 3) := by decide +kernel
theorem dX13_verify_305 : decode cX13_verify 305 = .ok (.goto (-85), 3) := by decide +kernel
theorem dX13_verify_308 : decode cX13_verify 308 = .ok (.iload 7, 2) := by decide +kernel
theorem dX13_verify_310 : decode cX13_verify 310 = .ok (.ifCond .eq 8, 3) := by decide +kernel
theorem dX13_verify_313 : decode cX13_verify 313 = .ok (.bipush (-27), 2) := by decide +kernel
theorem dX13_verify_315 : decode cX13_verify 315 = .ok (.goto 5, 3) := by decide +kernel
theorem dX13_verify_318 : decode cX13_verify 318 = .ok (.bipush (-26), 2) := by decide +kernel
theorem dX13_verify_320 : decode cX13_verify 320 = .ok (.ireturn, 1) := by decide +kernel
abbrev rmX13_verify : Room := { frames := 363, cells := 0, slots := 0, locals := 8586 }
set_option maxHeartbeats 4000000 in
set_option maxRecDepth 100000 in
theorem wB_X13_verify_220 {G : mG} {F : Nat} {x : mXT} {sz : Nat} {r0 : Int32} {M0 : mM} (X : mCX G RX13 cX13_verify 10 (some .int) "verify" rmX13_verify x) (hQ : mQI x r0 M0 (sz, 0, 0)) : ∀ (n : Nat) (l0 : Nat) (l2 : Int32) (l6 : Int32) (l7 : Int32) (l8 : Int32) (M : mM), B_X13_verify_220 G F n l0 l2 l6 l7 l8 M = some (r0, M0) → WW x (sz, 0, 0) M 220 [(0, .ref l0), (2, .int l2), (6, .int l6), (7, .int l7), (8, .int l8)] [] := by
  intro n
  induction n with
  | zero =>
    intro l0 l2 l6 l7 l8 M h
    exact nomatch (show (none : Option (Int32 × mM)) = some (r0, M0) from h)
  | succ n ih =>
    intro l0 l2 l6 l7 l8 M h
    rw [B_X13_verify_220] at h
    refine ww_iload 220 X dX13_verify_220 4 rfl ?_
    refine ww_bipush 222 X (v := (16 : Int32)) dX13_verify_222 (by decide) ?_
    refine ww_icmp_ge 224 308 X dX13_verify_224 (by decide) (fun q => ?_) (fun q => ?_)
    · replace h := (if_pos q).symm.trans h
      refine ww_iload 308 X dX13_verify_308 3 rfl ?_
      refine ww_if_eq 310 318 X dX13_verify_310 (by decide) (fun q => ?_) (fun q => ?_)
      · replace h := (if_pos q).symm.trans h
        refine ww_bipush 318 X (v := (-26 : Int32)) dX13_verify_318 (by decide) ?_
        exact ww_iretE 320 X hQ dX13_verify_320 h
      · replace h := (if_neg q).symm.trans h
        refine ww_bipush 313 X (v := (-27 : Int32)) dX13_verify_313 (by decide) ?_
        refine ww_goto 315 320 X dX13_verify_315 (by decide) ?_
        exact ww_iretE 320 X hQ dX13_verify_320 h
    · replace h := (if_neg q).symm.trans h
      refine ww_aload_n 227 X dX13_verify_227 0 rfl rfl ?_
      refine ww_iload 228 X dX13_verify_228 4 rfl ?_
      refine ww_aload_n 230 X dX13_verify_230 0 rfl rfl ?_
      obtain ⟨v231, e231, h⟩ := bO_some h
      refine ww_getI 231 X dX13_verify_231 fG_X13_919 e231 ?_
      refine ww_iconst 234 X (v := (0 : Int32)) dX13_verify_234 (by decide) ?_
      obtain ⟨_, f235, h⟩ := bO_some h
      obtain ⟨v235, M235, e235, h⟩ := bP_some h
      refine ww_callVI0 235 X dX13_verify_235 mY_X13_maySign mL_X13_995 (rcv_spec f235) ⟨_, _, rfl⟩ (by decide) (As := [.int l8, .int v231, .int (0 : Int32)]) (rest := []) rfl rfl ⟨Nat.le_of_ble_eq_true rfl, Nat.le_of_ble_eq_true rfl⟩ (Nat.le_of_ble_eq_true rfl) (fun l D A => c_X13_maySign l D A e235) ?_
      refine ww_if_eq 238 302 X dX13_verify_238 (by decide) (fun q => ?_) (fun q => ?_)
      · replace h := (if_pos q).symm.trans h
        refine ww_iinc 302 X dX13_verify_302 (lv' := [(0, .ref l0), (2, .int l2), (6, .int l6), (7, .int l7), (8, .int (l8 + 1))]) 4 rfl rfl (by decide) [1, 2, 3, 4, 0] rfl ?_
        refine ww_goto 305 220 X dX13_verify_305 (by decide) ?_
        exact (ih _ _ _ _ _ _ h)
      · replace h := (if_neg q).symm.trans h
        refine ww_aload_n 241 X dX13_verify_241 0 rfl rfl ?_
        refine ww_iload 242 X dX13_verify_242 4 rfl ?_
        obtain ⟨_, f244, h⟩ := bO_some h
        obtain ⟨v244, M244, e244, h⟩ := bP_some h
        refine ww_callVI0 244 X dX13_verify_244 mY_X13_hasKid mL_X13_1029 (rcv_spec f244) ⟨_, _, rfl⟩ (by decide) (As := [.int l8]) (rest := []) rfl rfl ⟨Nat.le_of_ble_eq_true rfl, Nat.le_of_ble_eq_true rfl⟩ (Nat.le_of_ble_eq_true rfl) (fun l D A => c_X13_hasKid l D A e244) ?_
        refine ww_if_eq 247 302 X dX13_verify_247 (by decide) (fun q => ?_) (fun q => ?_)
        · replace h := (if_pos q).symm.trans h
          refine ww_iinc 302 X dX13_verify_302 (lv' := [(0, .ref l0), (2, .int l2), (6, .int l6), (7, .int l7), (8, .int (l8 + 1))]) 4 rfl rfl (by decide) [1, 2, 3, 4, 0] rfl ?_
          refine ww_goto 305 220 X dX13_verify_305 (by decide) ?_
          exact (ih _ _ _ _ _ _ h)
        · replace h := (if_neg q).symm.trans h
          refine ww_iconst 250 X (v := (1 : Int32)) dX13_verify_250 (by decide) ?_
          refine ww_istore 251 X dX13_verify_251 (lv' := [(0, .ref l0), (2, .int l2), (6, .int l6), (7, .int (1 : Int32)), (8, .int l8)]) (by decide) [1, 2, 3, 0, 4] rfl ?_
          refine ww_aload_n 253 X dX13_verify_253 0 rfl rfl ?_
          refine ww_iconst 254 X (v := (0 : Int32)) dX13_verify_254 (by decide) ?_
          obtain ⟨M255, e255, h⟩ := bO_some h
          refine ww_putI 255 X dX13_verify_255 (fP_X13_579 _) e255 ?_
          refine ww_aload_n 258 X dX13_verify_258 0 rfl rfl ?_
          refine ww_aload_n 259 X dX13_verify_259 0 rfl rfl ?_
          obtain ⟨v260, e260, h⟩ := bO_some h
          refine ww_getR 260 X dX13_verify_260 fG_X13_14 e260 ?_
          refine ww_iload_n 263 X dX13_verify_263 1 rfl rfl ?_
          refine ww_aload_n 264 X dX13_verify_264 0 rfl rfl ?_
          obtain ⟨v265, e265, h⟩ := bO_some h
          refine ww_getR 265 X dX13_verify_265 fG_X13_282 e265 ?_
          refine ww_iconst 268 X (v := (1 : Int32)) dX13_verify_268 (by decide) ?_
          obtain ⟨v269, e269, h⟩ := bO_some h
          refine ww_iald 269 X dX13_verify_269 e269 ?_
          obtain ⟨_, f270, h⟩ := bO_some h
          obtain ⟨M270, e270, h⟩ := bO_some h
          refine ww_callVV0 270 X dX13_verify_270 mY_X13_tellMessage mL_X13_582 (rcv_spec f270) ⟨_, _, rfl⟩ (by decide) (As := [.ref v260, .int l2, .int v269]) (rest := []) rfl rfl ⟨Nat.le_of_ble_eq_true rfl, Nat.le_of_ble_eq_true rfl⟩ (Nat.le_of_ble_eq_true rfl) (fun l D A => c_X13_tellMessage l D A e270) ?_
          refine ww_aload_n 273 X dX13_verify_273 0 rfl rfl ?_
          refine ww_iload 274 X dX13_verify_274 4 rfl ?_
          refine ww_aload_n 276 X dX13_verify_276 0 rfl rfl ?_
          obtain ⟨v277, e277, h⟩ := bO_some h
          refine ww_getI 277 X dX13_verify_277 fG_X13_919 e277 ?_
          obtain ⟨_, f280, h⟩ := bO_some h
          obtain ⟨v280, M280, e280, h⟩ := bP_some h
          refine ww_callVI0 280 X dX13_verify_280 mY_X13_isSigned mL_X13_1032 (rcv_spec f280) ⟨_, _, rfl⟩ (by decide) (As := [.int l8, .int v277]) (rest := []) rfl rfl ⟨Nat.le_of_ble_eq_true rfl, Nat.le_of_ble_eq_true rfl⟩ (Nat.le_of_ble_eq_true rfl) (fun l D A => c_X13_isSigned l D A e280) ?_
          refine ww_if_eq 283 302 X dX13_verify_283 (by decide) (fun q => ?_) (fun q => ?_)
          · replace h := (if_pos q).symm.trans h
            refine ww_iinc 302 X dX13_verify_302 (lv' := [(0, .ref l0), (2, .int l2), (6, .int l6), (7, .int (1 : Int32)), (8, .int (l8 + 1))]) 4 rfl rfl (by decide) [1, 2, 3, 4, 0] rfl ?_
            refine ww_goto 305 220 X dX13_verify_305 (by decide) ?_
            exact (ih _ _ _ _ _ _ h)
          · replace h := (if_neg q).symm.trans h
            refine ww_aload_n 286 X dX13_verify_286 0 rfl rfl ?_
            refine ww_aload_n 287 X dX13_verify_287 0 rfl rfl ?_
            obtain ⟨v288, e288, h⟩ := bO_some h
            refine ww_getR 288 X dX13_verify_288 fG_X13_285 e288 ?_
            refine ww_iconst 291 X (v := (0 : Int32)) dX13_verify_291 (by decide) ?_
            refine ww_iload 292 X dX13_verify_292 2 rfl ?_
            obtain ⟨_, f294, h⟩ := bO_some h
            obtain ⟨v294, M294, e294, h⟩ := bP_some h
            refine ww_callVI0 294 X dX13_verify_294 mY_X13_tell mL_X13_463 (rcv_spec f294) ⟨_, _, rfl⟩ (by decide) (As := [.ref v288, .int (0 : Int32), .int l6]) (rest := []) rfl rfl ⟨Nat.le_of_ble_eq_true rfl, Nat.le_of_ble_eq_true rfl⟩ (Nat.le_of_ble_eq_true rfl) (fun l D A => c_X13_tell l D A e294) ?_
            refine ww_istore 297 X dX13_verify_297 (lv' := [(0, .ref l0), (2, .int l2), (6, .int l6), (7, .int (1 : Int32)), (8, .int l8), (9, .int v294)]) (by decide) [1, 2, 3, 4, 5, 0] rfl ?_
            refine ww_iload 299 X dX13_verify_299 4 rfl ?_
            exact ww_iretE 301 X hQ dX13_verify_301 h
set_option maxHeartbeats 4000000 in
set_option maxRecDepth 100000 in
theorem wB_X13_verify_157 {G : mG} {F : Nat} {x : mXT} {sz : Nat} {r0 : Int32} {M0 : mM} (X : mCX G RX13 cX13_verify 10 (some .int) "verify" rmX13_verify x) (hQ : mQI x r0 M0 (sz, 0, 0)) {l0 : Nat} {l1 : Int32} {l2 : Int32} {l6 : Int32} {M : mM} (h : B_X13_verify_157 G F l0 l1 l2 l6 M = some (r0, M0)) : WW x (sz, 0, 0) M 157 [(0, .ref l0), (1, .int l1), (2, .int l2), (6, .int l6)] [] := by
  unfold B_X13_verify_157 at h
  refine ww_aload_n 157 X dX13_verify_157 0 rfl rfl ?_
  refine ww_aload_n 158 X dX13_verify_158 0 rfl rfl ?_
  refine ww_aload_n 159 X dX13_verify_159 0 rfl rfl ?_
  obtain ⟨v160, e160, h⟩ := bO_some h
  refine ww_getR 160 X dX13_verify_160 fG_X13_14 e160 ?_
  refine ww_iload_n 163 X dX13_verify_163 2 rfl rfl ?_
  refine ww_aload_n 164 X dX13_verify_164 0 rfl rfl ?_
  obtain ⟨v165, e165, h⟩ := bO_some h
  refine ww_getR 165 X dX13_verify_165 fG_X13_282 e165 ?_
  refine ww_iconst 168 X (v := (1 : Int32)) dX13_verify_168 (by decide) ?_
  obtain ⟨v169, e169, h⟩ := bO_some h
  refine ww_iald 169 X dX13_verify_169 e169 ?_
  refine ww_iadd 170 X dX13_verify_170 ?_
  refine ww_iconst 171 X (v := (1 : Int32)) dX13_verify_171 (by decide) ?_
  refine ww_iadd 172 X dX13_verify_172 ?_
  refine ww_aload_n 173 X dX13_verify_173 0 rfl rfl ?_
  obtain ⟨v174, e174, h⟩ := bO_some h
  refine ww_getR 174 X dX13_verify_174 fG_X13_17 e174 ?_
  refine ww_iload_n 177 X dX13_verify_177 1 rfl rfl ?_
  obtain ⟨v178, e178, h⟩ := bO_some h
  refine ww_iald 178 X dX13_verify_178 e178 ?_
  refine ww_aload_n 179 X dX13_verify_179 0 rfl rfl ?_
  obtain ⟨v180, e180, h⟩ := bO_some h
  refine ww_getR 180 X dX13_verify_180 fG_X13_282 e180 ?_
  refine ww_iconst 183 X (v := (1 : Int32)) dX13_verify_183 (by decide) ?_
  obtain ⟨v184, e184, h⟩ := bO_some h
  refine ww_iald 184 X dX13_verify_184 e184 ?_
  refine ww_isub 185 X dX13_verify_185 ?_
  refine ww_iconst 186 X (v := (1 : Int32)) dX13_verify_186 (by decide) ?_
  refine ww_isub 187 X dX13_verify_187 ?_
  refine ww_aload_n 188 X dX13_verify_188 0 rfl rfl ?_
  obtain ⟨v189, e189, h⟩ := bO_some h
  refine ww_getR 189 X dX13_verify_189 fG_X13_257 e189 ?_
  refine ww_iconst 192 X (v := (0 : Int32)) dX13_verify_192 (by decide) ?_
  obtain ⟨_, f193, h⟩ := bO_some h
  obtain ⟨v193, M193, e193, h⟩ := bP_some h
  refine ww_callVI0 193 X dX13_verify_193 mY_X13_unletter mL_X13_503 (rcv_spec f193) ⟨_, _, rfl⟩ (by decide) (As := [.ref v160, .int ((l2 + v169) + (1 : Int32)), .int ((v178 - v184) - (1 : Int32)), .ref v189, .int (0 : Int32)]) (rest := [.ref l0]) rfl rfl ⟨Nat.le_of_ble_eq_true rfl, Nat.le_of_ble_eq_true rfl⟩ (Nat.le_of_ble_eq_true rfl) (fun l D A => c_X13_unletter l D A e193) ?_
  obtain ⟨M196, e196, h⟩ := bO_some h
  refine ww_putI 196 X dX13_verify_196 (fP_X13_954 _) e196 ?_
  refine ww_iload 199 X dX13_verify_199 3 rfl ?_
  refine ww_if_lt 201 211 X dX13_verify_201 (by decide) (fun q => ?_) (fun q => ?_)
  · replace h := (if_pos q).symm.trans h
    refine ww_bipush 211 X (v := (-21 : Int32)) dX13_verify_211 (by decide) ?_
    exact ww_iretE 213 X hQ dX13_verify_213 h
  · replace h := (if_neg q).symm.trans h
    refine ww_aload_n 204 X dX13_verify_204 0 rfl rfl ?_
    obtain ⟨v205, e205, h⟩ := bO_some h
    refine ww_getI 205 X dX13_verify_205 fG_X13_954 e205 ?_
    refine ww_if_ge 208 214 X dX13_verify_208 (by decide) (fun q => ?_) (fun q => ?_)
    · replace h := (if_pos q).symm.trans h
      refine ww_iconst 214 X (v := (0 : Int32)) dX13_verify_214 (by decide) ?_
      refine ww_istore 215 X dX13_verify_215 (lv' := [(0, .ref l0), (1, .int l1), (2, .int l2), (6, .int l6), (7, .int (0 : Int32))]) (by decide) [1, 2, 3, 4, 0] rfl ?_
      refine ww_iconst 217 X (v := (0 : Int32)) dX13_verify_217 (by decide) ?_
      refine ww_istore 218 X dX13_verify_218 (lv' := [(0, .ref l0), (1, .int l1), (2, .int l2), (6, .int l6), (7, .int (0 : Int32)), (8, .int (0 : Int32))]) (by decide) [1, 2, 3, 4, 5, 0] rfl ?_
      exact ww_sub [0, 2, 3, 4, 5] rfl (wB_X13_verify_220 X hQ F _ _ _ _ _ _ h)
    · replace h := (if_neg q).symm.trans h
      refine ww_bipush 211 X (v := (-21 : Int32)) dX13_verify_211 (by decide) ?_
      exact ww_iretE 213 X hQ dX13_verify_213 h
set_option maxHeartbeats 4000000 in
set_option maxRecDepth 100000 in
theorem wP_X13_verify {G : mG} {F : Nat} {x : mXT} {sz : Nat} {r0 : Int32} {M0 : mM} (X : mCX G RX13 cX13_verify 10 (some .int) "verify" rmX13_verify x) (hQ : mQI x r0 M0 (sz, 0, 0)) {l0 : Nat} {l1 : Int32} {M : mM} (h : P_X13_verify G F l0 l1 M = some (r0, M0)) : WW x (sz, 0, 0) M 0 [(0, .ref l0), (1, .int l1)] [] := by
  unfold P_X13_verify at h
  refine ww_iload_n 0 X dX13_verify_0 1 rfl rfl ?_
  obtain ⟨v1, M1, e1, h⟩ := bP_some h
  refine ww_callSI0 1 X dX13_verify_1 mY_X13_isRow mL_X13_332 (As := [.int l1]) (rest := []) rfl rfl ⟨Nat.le_of_ble_eq_true rfl, Nat.le_of_ble_eq_true rfl⟩ (Nat.le_of_ble_eq_true rfl) (fun l D A => c_X13_isRow l D A e1) ?_
  refine ww_if_ne 4 10 X dX13_verify_4 (by decide) (fun q => ?_) (fun q => ?_)
  · replace h := (if_neg q).symm.trans h
    refine ww_aload_n 10 X dX13_verify_10 0 rfl rfl ?_
    refine ww_iload_n 11 X dX13_verify_11 1 rfl rfl ?_
    obtain ⟨_, f12, h⟩ := bO_some h
    obtain ⟨v12, M12, e12, h⟩ := bP_some h
    refine ww_callVI0 12 X dX13_verify_12 mY_X13_pointsOf mL_X13_1026 (rcv_spec f12) ⟨_, _, rfl⟩ (by decide) (As := [.int l1]) (rest := []) rfl rfl ⟨Nat.le_of_ble_eq_true rfl, Nat.le_of_ble_eq_true rfl⟩ (Nat.le_of_ble_eq_true rfl) (fun l D A => c_X13_pointsOf l D A e12) ?_
    refine ww_iconst 15 X (v := (2 : Int32)) dX13_verify_15 (by decide) ?_
    refine ww_icmp_eq 16 22 X dX13_verify_16 (by decide) (fun q => ?_) (fun q => ?_)
    · replace h := (if_pos q).symm.trans h
      refine ww_sipush 22 X (v := (8192 : Int32)) dX13_verify_22 (by decide) ?_
      refine ww_iload_n 25 X dX13_verify_25 1 rfl rfl ?_
      refine ww_imul 26 X dX13_verify_26 ?_
      refine ww_istore_n 27 X dX13_verify_27 (lv' := [(0, .ref l0), (1, .int l1), (2, .int ((8192 : Int32) * l1))]) rfl (by decide) [1, 2, 0] rfl ?_
      refine ww_aload_n 28 X dX13_verify_28 0 rfl rfl ?_
      refine ww_aload_n 29 X dX13_verify_29 0 rfl rfl ?_
      refine ww_aload_n 30 X dX13_verify_30 0 rfl rfl ?_
      obtain ⟨v31, e31, h⟩ := bO_some h
      refine ww_getR 31 X dX13_verify_31 fG_X13_14 e31 ?_
      refine ww_iload_n 34 X dX13_verify_34 2 rfl rfl ?_
      refine ww_aload_n 35 X dX13_verify_35 0 rfl rfl ?_
      obtain ⟨v36, e36, h⟩ := bO_some h
      refine ww_getR 36 X dX13_verify_36 fG_X13_282 e36 ?_
      refine ww_iconst 39 X (v := (0 : Int32)) dX13_verify_39 (by decide) ?_
      obtain ⟨v40, e40, h⟩ := bO_some h
      refine ww_iald 40 X dX13_verify_40 e40 ?_
      refine ww_aload_n 41 X dX13_verify_41 0 rfl rfl ?_
      obtain ⟨v42, e42, h⟩ := bO_some h
      refine ww_getR 42 X dX13_verify_42 fG_X13_275 e42 ?_
      refine ww_iconst 45 X (v := (0 : Int32)) dX13_verify_45 (by decide) ?_
      obtain ⟨_, f46, h⟩ := bO_some h
      obtain ⟨v46, M46, e46, h⟩ := bP_some h
      refine ww_callVI0 46 X dX13_verify_46 mY_X13_unletter mL_X13_503 (rcv_spec f46) ⟨_, _, rfl⟩ (by decide) (As := [.ref v31, .int ((8192 : Int32) * l1), .int v40, .ref v42, .int (0 : Int32)]) (rest := [.ref l0]) rfl rfl ⟨Nat.le_of_ble_eq_true rfl, Nat.le_of_ble_eq_true rfl⟩ (Nat.le_of_ble_eq_true rfl) (fun l D A => c_X13_unletter l D A e46) ?_
      obtain ⟨M49, e49, h⟩ := bO_some h
      refine ww_putI 49 X dX13_verify_49 (fP_X13_1007 _) e49 ?_
      refine ww_aload_n 52 X dX13_verify_52 0 rfl rfl ?_
      obtain ⟨v53, e53, h⟩ := bO_some h
      refine ww_getI 53 X dX13_verify_53 fG_X13_1007 e53 ?_
      refine ww_if_ge 56 62 X dX13_verify_56 (by decide) (fun q => ?_) (fun q => ?_)
      · replace h := (if_pos q).symm.trans h
        refine ww_aload_n 62 X dX13_verify_62 0 rfl rfl ?_
        refine ww_aload_n 63 X dX13_verify_63 0 rfl rfl ?_
        obtain ⟨v64, e64, h⟩ := bO_some h
        refine ww_getR 64 X dX13_verify_64 fG_X13_275 e64 ?_
        refine ww_iconst 67 X (v := (0 : Int32)) dX13_verify_67 (by decide) ?_
        refine ww_aload_n 68 X dX13_verify_68 0 rfl rfl ?_
        obtain ⟨v69, e69, h⟩ := bO_some h
        refine ww_getI 69 X dX13_verify_69 fG_X13_1007 e69 ?_
        refine ww_iconst 72 X (v := (0 : Int32)) dX13_verify_72 (by decide) ?_
        obtain ⟨_, f73, h⟩ := bO_some h
        obtain ⟨v73, M73, e73, h⟩ := bP_some h
        refine ww_callVI0 73 X dX13_verify_73 mY_X13_headOf mL_X13_1010 (rcv_spec f73) ⟨_, _, rfl⟩ (by decide) (As := [.ref v64, .int (0 : Int32), .int v69, .int (0 : Int32)]) (rest := []) rfl rfl ⟨Nat.le_of_ble_eq_true rfl, Nat.le_of_ble_eq_true rfl⟩ (Nat.le_of_ble_eq_true rfl) (fun l D A => c_X13_headOf l D A e73) ?_
        refine ww_istore_n 76 X dX13_verify_76 (lv' := [(0, .ref l0), (1, .int l1), (2, .int ((8192 : Int32) * l1)), (3, .int v73)]) rfl (by decide) [1, 2, 3, 0] rfl ?_
        refine ww_iload_n 77 X dX13_verify_77 3 rfl rfl ?_
        refine ww_if_ge 78 83 X dX13_verify_78 (by decide) (fun q => ?_) (fun q => ?_)
        · replace h := (if_pos q).symm.trans h
          refine ww_aload_n 83 X dX13_verify_83 0 rfl rfl ?_
          obtain ⟨v84, e84, h⟩ := bO_some h
          refine ww_getR 84 X dX13_verify_84 fG_X13_282 e84 ?_
          refine ww_iconst 87 X (v := (0 : Int32)) dX13_verify_87 (by decide) ?_
          obtain ⟨v88, e88, h⟩ := bO_some h
          refine ww_iald 88 X dX13_verify_88 e88 ?_
          refine ww_iconst 89 X (v := (1 : Int32)) dX13_verify_89 (by decide) ?_
          refine ww_iadd 90 X dX13_verify_90 ?_
          refine ww_istore 91 X dX13_verify_91 (lv' := [(0, .ref l0), (1, .int l1), (2, .int ((8192 : Int32) * l1)), (3, .int v73), (4, .int (v88 + (1 : Int32)))]) (by decide) [1, 2, 3, 4, 0] rfl ?_
          refine ww_aload_n 93 X dX13_verify_93 0 rfl rfl ?_
          obtain ⟨v94, e94, h⟩ := bO_some h
          refine ww_getR 94 X dX13_verify_94 fG_X13_282 e94 ?_
          refine ww_iconst 97 X (v := (1 : Int32)) dX13_verify_97 (by decide) ?_
          obtain ⟨v98, e98, h⟩ := bO_some h
          refine ww_iald 98 X dX13_verify_98 e98 ?_
          refine ww_iload 99 X dX13_verify_99 4 rfl ?_
          refine ww_isub 101 X dX13_verify_101 ?_
          refine ww_istore 102 X dX13_verify_102 (lv' := [(0, .ref l0), (1, .int l1), (2, .int ((8192 : Int32) * l1)), (3, .int v73), (4, .int (v88 + (1 : Int32))), (5, .int (v98 - (v88 + (1 : Int32))))]) (by decide) [1, 2, 3, 4, 5, 0] rfl ?_
          refine ww_iload 104 X dX13_verify_104 5 rfl ?_
          refine ww_istore 106 X dX13_verify_106 (lv' := [(0, .ref l0), (1, .int l1), (2, .int ((8192 : Int32) * l1)), (3, .int v73), (4, .int (v88 + (1 : Int32))), (5, .int (v98 - (v88 + (1 : Int32)))), (6, .int (v98 - (v88 + (1 : Int32))))]) (by decide) [1, 2, 3, 4, 5, 6, 0] rfl ?_
          refine ww_aload_n 108 X dX13_verify_108 0 rfl rfl ?_
          obtain ⟨v109, e109, h⟩ := bO_some h
          refine ww_getI 109 X dX13_verify_109 fG_X13_906 e109 ?_
          refine ww_if_eq 112 136 X dX13_verify_112 (by decide) (fun q => ?_) (fun q => ?_)
          · replace h := (if_pos q).symm.trans h
            refine ww_aload_n 136 X dX13_verify_136 0 rfl rfl ?_
            refine ww_aload_n 137 X dX13_verify_137 0 rfl rfl ?_
            obtain ⟨v138, e138, h⟩ := bO_some h
            refine ww_getR 138 X dX13_verify_138 fG_X13_14 e138 ?_
            refine ww_iload_n 141 X dX13_verify_141 2 rfl rfl ?_
            refine ww_iload 142 X dX13_verify_142 4 rfl ?_
            refine ww_iadd 144 X dX13_verify_144 ?_
            refine ww_iload 145 X dX13_verify_145 5 rfl ?_
            refine ww_aload_n 147 X dX13_verify_147 0 rfl rfl ?_
            obtain ⟨v148, e148, h⟩ := bO_some h
            refine ww_getR 148 X dX13_verify_148 fG_X13_285 e148 ?_
            refine ww_iconst 151 X (v := (0 : Int32)) dX13_verify_151 (by decide) ?_
            obtain ⟨_, f152, h⟩ := bO_some h
            obtain ⟨v152, M152, e152, h⟩ := bP_some h
            refine ww_callVI0 152 X dX13_verify_152 mY_X13_unletter mL_X13_503 (rcv_spec f152) ⟨_, _, rfl⟩ (by decide) (As := [.ref v138, .int (((8192 : Int32) * l1) + (v88 + (1 : Int32))), .int (v98 - (v88 + (1 : Int32))), .ref v148, .int (0 : Int32)]) (rest := []) rfl rfl ⟨Nat.le_of_ble_eq_true rfl, Nat.le_of_ble_eq_true rfl⟩ (Nat.le_of_ble_eq_true rfl) (fun l D A => c_X13_unletter l D A e152) ?_
            refine ww_istore 155 X dX13_verify_155 (lv' := [(0, .ref l0), (1, .int l1), (2, .int ((8192 : Int32) * l1)), (3, .int v73), (4, .int (v88 + (1 : Int32))), (5, .int (v98 - (v88 + (1 : Int32)))), (6, .int v152)]) (by decide) [1, 2, 3, 4, 5, 6, 0] rfl ?_
            exact ww_sub [0, 1, 2, 6] rfl (wB_X13_verify_157 X hQ h)
          · replace h := (if_neg q).symm.trans h
            refine ww_aload_n 115 X dX13_verify_115 0 rfl rfl ?_
            obtain ⟨v116, e116, h⟩ := bO_some h
            refine ww_getR 116 X dX13_verify_116 fG_X13_14 e116 ?_
            refine ww_iload_n 119 X dX13_verify_119 2 rfl rfl ?_
            refine ww_iload 120 X dX13_verify_120 4 rfl ?_
            refine ww_iadd 122 X dX13_verify_122 ?_
            refine ww_aload_n 123 X dX13_verify_123 0 rfl rfl ?_
            obtain ⟨v124, e124, h⟩ := bO_some h
            refine ww_getR 124 X dX13_verify_124 fG_X13_285 e124 ?_
            refine ww_iconst 127 X (v := (0 : Int32)) dX13_verify_127 (by decide) ?_
            refine ww_iload 128 X dX13_verify_128 5 rfl ?_
            obtain ⟨M130, e130, h⟩ := bO_some h
            refine ww_callSV0 130 X dX13_verify_130 mY_X13_move mL_X13_317 (As := [.ref v116, .int (((8192 : Int32) * l1) + (v88 + (1 : Int32))), .ref v124, .int (0 : Int32), .int (v98 - (v88 + (1 : Int32)))]) (rest := []) rfl rfl ⟨Nat.le_of_ble_eq_true rfl, Nat.le_of_ble_eq_true rfl⟩ (Nat.le_of_ble_eq_true rfl) (fun l D A => c_X13_move l D A e130) ?_
            refine ww_goto 133 157 X dX13_verify_133 (by decide) ?_
            exact ww_sub [0, 1, 2, 6] rfl (wB_X13_verify_157 X hQ h)
        · replace h := (if_neg q).symm.trans h
          refine ww_iload_n 81 X dX13_verify_81 3 rfl rfl ?_
          exact ww_iretE 82 X hQ dX13_verify_82 h
      · replace h := (if_neg q).symm.trans h
        refine ww_bipush 59 X (v := (-21 : Int32)) dX13_verify_59 (by decide) ?_
        exact ww_iretE 61 X hQ dX13_verify_61 h
    · replace h := (if_neg q).symm.trans h
      refine ww_bipush 19 X (v := (-20 : Int32)) dX13_verify_19 (by decide) ?_
      exact ww_iretE 21 X hQ dX13_verify_21 h
  · replace h := (if_pos q).symm.trans h
    refine ww_bipush 7 X (v := (-2 : Int32)) dX13_verify_7 (by decide) ?_
    exact ww_iretE 9 X hQ dX13_verify_9 h
theorem c_X13_verify {G : mG} {F sz : Nat} {r0 : Int32} {M0 : mM} (l : Launch) (D : mD) (A : Nat → Prop) {l0 : Nat} {l1 : Int32} {M : mM} (h : P_X13_verify G F l0 l1 M = some (r0, M0)) : mMetI l D G A yX13_verify cX13_verify 10 (some .int) 363 8586 0 0 [.ref l0, .int l1] M sz r0 M0 sz := mMetI_of l D G A (by decide) (Nat.le_of_ble_eq_true rfl) (fun x X hQ => wP_X13_verify X hQ h)
/-! SealedTokensModel.maySeal(IIIZ)Z -/
theorem dX13_maySeal_0 : decode cX13_maySeal 0 = .ok (.aload_n 0, 1) := by decide +kernel
theorem dX13_maySeal_1 : decode cX13_maySeal 1 = .ok (.iload_n 1, 1) := by decide +kernel
theorem dX13_maySeal_2 : decode cX13_maySeal 2 = .ok (.ldc_w 912, 3) := by decide +kernel
theorem dX13_maySeal_5 : decode cX13_maySeal 5 = .ok (.iload_n 2, 1) := by decide +kernel
theorem dX13_maySeal_6 : decode cX13_maySeal 6 = .ok (.iconst 2, 1) := by decide +kernel
theorem dX13_maySeal_7 : decode cX13_maySeal 7 = .ok (.invokevirtual 950, 3) := by decide +kernel
theorem dX13_maySeal_10 : decode cX13_maySeal 10 = .ok (.ifCond .ne 5, 3) := by decide +kernel
theorem dX13_maySeal_13 : decode cX13_maySeal 13 = .ok (.iconst 0, 1) := by decide +kernel
theorem dX13_maySeal_14 : decode cX13_maySeal 14 = .ok (.ireturn, 1) := by decide +kernel
theorem dX13_maySeal_15 : decode cX13_maySeal 15 = .ok (.aload_n 0, 1) := by decide +kernel
theorem dX13_maySeal_16 : decode cX13_maySeal 16 = .ok (.getfield 208, 3) := by decide +kernel
theorem dX13_maySeal_19 : decode cX13_maySeal 19 = .ok (.iload_n 1, 1) := by decide +kernel
theorem dX13_maySeal_20 : decode cX13_maySeal 20 = .ok (.iaload, 1) := by decide +kernel
theorem dX13_maySeal_21 : decode cX13_maySeal 21 = .ok (.istore 5, 2) := by decide +kernel
theorem dX13_maySeal_23 : decode cX13_maySeal 23 = .ok (.iload_n 2, 1) := by decide +kernel
theorem dX13_maySeal_24 : decode cX13_maySeal 24 = .ok (.iconst 3, 1) := by decide +kernel
theorem dX13_maySeal_25 : decode cX13_maySeal 25 = .ok (.if_icmp .ge 38, 3) := by decide +kernel
theorem dX13_maySeal_28 : decode cX13_maySeal 28 = .ok (.aload_n 0, 1) := by decide +kernel
theorem dX13_maySeal_29 : decode cX13_maySeal 29 = .ok (.getfield 202, 3) := by decide +kernel
theorem dX13_maySeal_32 : decode cX13_maySeal 32 = .ok (.iload_n 1, 1) := by decide +kernel
theorem dX13_maySeal_33 : decode cX13_maySeal 33 = .ok (.iaload, 1) := by decide +kernel
theorem dX13_maySeal_34 : decode cX13_maySeal 34 = .ok (.ifCond .ne 27, 3) := by decide +kernel
theorem dX13_maySeal_37 : decode cX13_maySeal 37 = .ok (.iload 5, 2) := by decide +kernel
theorem dX13_maySeal_39 : decode cX13_maySeal 39 = .ok (.iload_n 2, 1) := by decide +kernel
theorem dX13_maySeal_40 : decode cX13_maySeal 40 = .ok (.ifCond .ne 10, 3) := by decide +kernel
theorem dX13_maySeal_43 : decode cX13_maySeal 43 = .ok (.iload_n 3, 1) := by decide +kernel
theorem dX13_maySeal_44 : decode cX13_maySeal 44 = .ok (.invokestatic 629, 3) := by decide +kernel
theorem dX13_maySeal_47 : decode cX13_maySeal 47 = .ok (.goto 7, 3) := by decide +kernel
theorem dX13_maySeal_50 : decode cX13_maySeal 50 = .ok (.bipush 16, 2) := by decide +kernel
theorem dX13_maySeal_52 : decode cX13_maySeal 52 = .ok (.iload_n 2, 1) := by decide +kernel
theorem dX13_maySeal_53 : decode cX13_maySeal 53 = .ok (.imul, 1) := by decide +kernel
theorem dX13_maySeal_54 : decode cX13_maySeal 54 = .ok (.if_icmp .ne 7, 3) := by decide +kernel
theorem dX13_maySeal_57 : decode cX13_maySeal 57 = .ok (.iconst 1, 1) := by decide +kernel
theorem dX13_maySeal_58 : decode cX13_maySeal 58 = .ok (.goto 4, 3) := by decide +kernel
theorem dX13_maySeal_61 : decode cX13_maySeal 61 = .ok (.iconst 0, 1) := by decide +kernel
theorem dX13_maySeal_62 : decode cX13_maySeal 62 = .ok (.ireturn, 1) := by decide +kernel
theorem dX13_maySeal_63 : decode cX13_maySeal 63 = .ok (.iload_n 2, 1) := by decide +kernel
theorem dX13_maySeal_64 : decode cX13_maySeal 64 = .ok (.iconst 3, 1) := by decide +kernel
theorem dX13_maySeal_65 : decode cX13_maySeal 65 = .ok (.if_icmp .ne 33, 3) := by decide +kernel
theorem dX13_maySeal_68 : decode cX13_maySeal 68 = .ok (.aload_n 0, 1) := by decide +kernel
theorem dX13_maySeal_69 : decode cX13_maySeal 69 = .ok (.getfield 202, 3) := by decide +kernel
theorem dX13_maySeal_72 : decode cX13_maySeal 72 = .ok (.iload_n 1, 1) := by decide +kernel
theorem dX13_maySeal_73 : decode cX13_maySeal 73 = .ok (.iaload, 1) := by decide +kernel
theorem dX13_maySeal_74 : decode cX13_maySeal 74 = .ok (.iconst 1, 1) := by decide +kernel
theorem dX13_maySeal_75 : decode cX13_maySeal 75 = .ok (.if_icmp .ne 19, 3) := by decide +kernel
theorem dX13_maySeal_78 : decode cX13_maySeal 78 = .ok (.iload 5, 2) := by decide +kernel
theorem dX13_maySeal_80 : decode cX13_maySeal 80 = .ok (.bipush 66, 2) := by decide +kernel
theorem dX13_maySeal_82 : decode cX13_maySeal 82 = .ok (.iload_n 3, 1) := by decide +kernel
theorem dX13_maySeal_83 : decode cX13_maySeal 83 = .ok (.invokestatic 629, 3) := by decide +kernel
theorem dX13_maySeal_86 : decode cX13_maySeal 86 = .ok (.iadd, 1) := by decide +kernel
theorem dX13_maySeal_87 : decode cX13_maySeal 87 = .ok (.if_icmp .lt 7, 3) := by decide +kernel
theorem dX13_maySeal_90 : decode cX13_maySeal 90 = .ok (.iconst 1, 1) := by decide +kernel
theorem dX13_maySeal_91 : decode cX13_maySeal 91 = .ok (.goto 22, 3) := by decide +kernel
theorem dX13_maySeal_94 : decode cX13_maySeal 94 = .ok (.iconst 0, 1) := by decide +kernel
theorem dX13_maySeal_95 : decode cX13_maySeal 95 = .ok (.goto 18, 3) := by decide +kernel
theorem dX13_maySeal_98 : decode cX13_maySeal 98 = .ok (.aload_n 0, 1) := by decide +kernel
theorem dX13_maySeal_99 : decode cX13_maySeal 99 = .ok (.getfield 202, 3) := by decide +kernel
theorem dX13_maySeal_102 : decode cX13_maySeal 102 = .ok (.iload_n 1, 1) := by decide +kernel
theorem dX13_maySeal_103 : decode cX13_maySeal 103 = .ok (.iaload, 1) := by decide +kernel
theorem dX13_maySeal_104 : decode cX13_maySeal 104 = .ok (.iconst 2, 1) := by decide +kernel
theorem dX13_maySeal_105 : decode cX13_maySeal 105 = .ok (.if_icmp .ne 7, 3) := by decide +kernel
theorem dX13_maySeal_108 : decode cX13_maySeal 108 = .ok (.iconst 1, 1) := by decide +kernel
theorem dX13_maySeal_109 : decode cX13_maySeal 109 = .ok (.goto 4, 3) := by decide +kernel
theorem dX13_maySeal_112 : decode cX13_maySeal 112 = .ok (.iconst 0, 1) := by decide +kernel
theorem dX13_maySeal_113 : decode cX13_maySeal 113 = .ok (.istore 6, 2) := by decide +kernel
theorem dX13_maySeal_115 : decode cX13_maySeal 115 = .ok (.iload 6, 2) := by decide +kernel
theorem dX13_maySeal_117 : decode cX13_maySeal 117 = .ok (.ifCond .eq 21, 3) := by decide +kernel
theorem dX13_maySeal_120 : decode cX13_maySeal 120 = .ok (.iload 4, 2) := by decide +kernel
theorem dX13_maySeal_122 : decode cX13_maySeal 122 = .ok (.ifCond .eq 12, 3) := by decide +kernel
theorem dX13_maySeal_125 : decode cX13_maySeal 125 = .ok (.aload_n 0, 1) := by decide +kernel
theorem dX13_maySeal_126 : decode cX13_maySeal 126 = .ok (.getfield 220, 3) := by decide +kernel
theorem dX13_maySeal_129 : decode cX13_maySeal 129 = .ok (.iload_n 1, 1) := by decide +kernel
theorem dX13_maySeal_130 : decode cX13_maySeal 130 = .ok (.iaload, 1) := by decide +kernel
theorem dX13_maySeal_131 : decode cX13_maySeal 131 = .ok (.ifCond .le 7, 3) := by decide +kernel
theorem dX13_maySeal_134 : decode cX13_maySeal 134 = .ok (.iconst 1, 1) := by decide +kernel
theorem dX13_maySeal_135 : decode cX13_maySeal 135 = .ok (.goto 4, 3) := by decide +kernel
theorem dX13_maySeal_138 : decode cX13_maySeal 138 = .ok (.iconst 0, 1) := by decide +kernel
theorem dX13_maySeal_139 : decode cX13_maySeal 139 = .ok (.ireturn, 1) := by decide +kernel
abbrev rmX13_maySeal : Room := { frames := 6, cells := 0, slots := 0, locals := 136 }
set_option maxHeartbeats 4000000 in
set_option maxRecDepth 100000 in
theorem wB_X13_maySeal_113 {G : mG} {F : Nat} {x : mXT} {sz : Nat} {r0 : Int32} {M0 : mM} (X : mCX G RX13 cX13_maySeal 7 (some .boolean) "maySeal" rmX13_maySeal x) (hQ : mQI x r0 M0 (sz, 0, 0)) {l0 : Nat} {l1 : Int32} {l4 : Int32} {sk0 : Int32} {M : mM} (h : B_X13_maySeal_113 G F l0 l1 l4 sk0 M = some (r0, M0)) : WW x (sz, 0, 0) M 113 [(0, .ref l0), (1, .int l1), (4, .int l4)] [.int sk0] := by
  unfold B_X13_maySeal_113 at h
  refine ww_istore 113 X dX13_maySeal_113 (lv' := [(0, .ref l0), (1, .int l1), (4, .int l4), (6, .int sk0)]) (by decide) [1, 2, 3, 0] rfl ?_
  refine ww_iload 115 X dX13_maySeal_115 3 rfl ?_
  refine ww_if_eq 117 138 X dX13_maySeal_117 (by decide) (fun q => ?_) (fun q => ?_)
  · replace h := (if_pos q).symm.trans h
    refine ww_iconst 138 X (v := (0 : Int32)) dX13_maySeal_138 (by decide) ?_
    exact ww_zretE 139 X hQ dX13_maySeal_139 h
  · replace h := (if_neg q).symm.trans h
    refine ww_iload 120 X dX13_maySeal_120 2 rfl ?_
    refine ww_if_eq 122 134 X dX13_maySeal_122 (by decide) (fun q => ?_) (fun q => ?_)
    · replace h := (if_pos q).symm.trans h
      refine ww_iconst 134 X (v := (1 : Int32)) dX13_maySeal_134 (by decide) ?_
      refine ww_goto 135 139 X dX13_maySeal_135 (by decide) ?_
      exact ww_zretE 139 X hQ dX13_maySeal_139 h
    · replace h := (if_neg q).symm.trans h
      refine ww_aload_n 125 X dX13_maySeal_125 0 rfl rfl ?_
      obtain ⟨v126, e126, h⟩ := bO_some h
      refine ww_getR 126 X dX13_maySeal_126 fG_X13_220 e126 ?_
      refine ww_iload_n 129 X dX13_maySeal_129 1 rfl rfl ?_
      obtain ⟨v130, e130, h⟩ := bO_some h
      refine ww_iald 130 X dX13_maySeal_130 e130 ?_
      refine ww_if_le 131 138 X dX13_maySeal_131 (by decide) (fun q => ?_) (fun q => ?_)
      · replace h := (if_pos q).symm.trans h
        refine ww_iconst 138 X (v := (0 : Int32)) dX13_maySeal_138 (by decide) ?_
        exact ww_zretE 139 X hQ dX13_maySeal_139 h
      · replace h := (if_neg q).symm.trans h
        refine ww_iconst 134 X (v := (1 : Int32)) dX13_maySeal_134 (by decide) ?_
        refine ww_goto 135 139 X dX13_maySeal_135 (by decide) ?_
        exact ww_zretE 139 X hQ dX13_maySeal_139 h
set_option maxHeartbeats 4000000 in
set_option maxRecDepth 100000 in
theorem wP_X13_maySeal {G : mG} {F : Nat} {x : mXT} {sz : Nat} {r0 : Int32} {M0 : mM} (X : mCX G RX13 cX13_maySeal 7 (some .boolean) "maySeal" rmX13_maySeal x) (hQ : mQI x r0 M0 (sz, 0, 0)) {l0 : Nat} {l1 : Int32} {l2 : Int32} {l3 : Int32} {l4 : Int32} {M : mM} (h : P_X13_maySeal G F l0 l1 l2 l3 l4 M = some (r0, M0)) : WW x (sz, 0, 0) M 0 [(0, .ref l0), (1, .int l1), (2, .int l2), (3, .int l3), (4, .int l4)] [] := by
  unfold P_X13_maySeal at h
  refine ww_aload_n 0 X dX13_maySeal_0 0 rfl rfl ?_
  refine ww_iload_n 1 X dX13_maySeal_1 1 rfl rfl ?_
  refine ww_ldsw 2 X (j := 117) dX13_maySeal_2 rfl ?_
  refine ww_iload_n 5 X dX13_maySeal_5 2 rfl rfl ?_
  refine ww_iconst 6 X (v := (2 : Int32)) dX13_maySeal_6 (by decide) ?_
  obtain ⟨_, f7, h⟩ := bO_some h
  obtain ⟨v7, M7, e7, h⟩ := bP_some h
  refine ww_callVI0 7 X dX13_maySeal_7 mY_X13_lets mL_X13_950 (rcv_spec f7) ⟨_, _, rfl⟩ (by decide) (As := [.int l1, .ref (G.1 117), .int l2, .int (2 : Int32)]) (rest := []) rfl rfl ⟨Nat.le_of_ble_eq_true rfl, Nat.le_of_ble_eq_true rfl⟩ (Nat.le_of_ble_eq_true rfl) (fun l D A => c_X13_lets l D A e7) ?_
  refine ww_if_ne 10 15 X dX13_maySeal_10 (by decide) (fun q => ?_) (fun q => ?_)
  · replace h := (if_neg q).symm.trans h
    refine ww_aload_n 15 X dX13_maySeal_15 0 rfl rfl ?_
    obtain ⟨v16, e16, h⟩ := bO_some h
    refine ww_getR 16 X dX13_maySeal_16 fG_X13_208 e16 ?_
    refine ww_iload_n 19 X dX13_maySeal_19 1 rfl rfl ?_
    obtain ⟨v20, e20, h⟩ := bO_some h
    refine ww_iald 20 X dX13_maySeal_20 e20 ?_
    refine ww_istore 21 X dX13_maySeal_21 (lv' := [(0, .ref l0), (1, .int l1), (2, .int l2), (3, .int l3), (4, .int l4), (5, .int v20)]) (by decide) [1, 2, 3, 4, 5, 0] rfl ?_
    refine ww_iload_n 23 X dX13_maySeal_23 2 rfl rfl ?_
    refine ww_iconst 24 X (v := (3 : Int32)) dX13_maySeal_24 (by decide) ?_
    refine ww_icmp_ge 25 63 X dX13_maySeal_25 (by decide) (fun q => ?_) (fun q => ?_)
    · replace h := (if_pos q).symm.trans h
      refine ww_iload_n 63 X dX13_maySeal_63 2 rfl rfl ?_
      refine ww_iconst 64 X (v := (3 : Int32)) dX13_maySeal_64 (by decide) ?_
      refine ww_icmp_ne 65 98 X dX13_maySeal_65 (by decide) (fun q => ?_) (fun q => ?_)
      · replace h := (if_neg q).symm.trans h
        refine ww_aload_n 98 X dX13_maySeal_98 0 rfl rfl ?_
        obtain ⟨v99, e99, h⟩ := bO_some h
        refine ww_getR 99 X dX13_maySeal_99 fG_X13_202 e99 ?_
        refine ww_iload_n 102 X dX13_maySeal_102 1 rfl rfl ?_
        obtain ⟨v103, e103, h⟩ := bO_some h
        refine ww_iald 103 X dX13_maySeal_103 e103 ?_
        refine ww_iconst 104 X (v := (2 : Int32)) dX13_maySeal_104 (by decide) ?_
        refine ww_icmp_ne 105 112 X dX13_maySeal_105 (by decide) (fun q => ?_) (fun q => ?_)
        · replace h := (if_neg q).symm.trans h
          refine ww_iconst 112 X (v := (0 : Int32)) dX13_maySeal_112 (by decide) ?_
          exact ww_sub [0, 1, 4] rfl (wB_X13_maySeal_113 X hQ h)
        · replace h := (if_pos q).symm.trans h
          refine ww_iconst 108 X (v := (1 : Int32)) dX13_maySeal_108 (by decide) ?_
          refine ww_goto 109 113 X dX13_maySeal_109 (by decide) ?_
          exact ww_sub [0, 1, 4] rfl (wB_X13_maySeal_113 X hQ h)
      · replace h := (if_pos q).symm.trans h
        refine ww_aload_n 68 X dX13_maySeal_68 0 rfl rfl ?_
        obtain ⟨v69, e69, h⟩ := bO_some h
        refine ww_getR 69 X dX13_maySeal_69 fG_X13_202 e69 ?_
        refine ww_iload_n 72 X dX13_maySeal_72 1 rfl rfl ?_
        obtain ⟨v73, e73, h⟩ := bO_some h
        refine ww_iald 73 X dX13_maySeal_73 e73 ?_
        refine ww_iconst 74 X (v := (1 : Int32)) dX13_maySeal_74 (by decide) ?_
        refine ww_icmp_ne 75 94 X dX13_maySeal_75 (by decide) (fun q => ?_) (fun q => ?_)
        · replace h := (if_neg q).symm.trans h
          refine ww_iconst 94 X (v := (0 : Int32)) dX13_maySeal_94 (by decide) ?_
          refine ww_goto 95 113 X dX13_maySeal_95 (by decide) ?_
          exact ww_sub [0, 1, 4] rfl (wB_X13_maySeal_113 X hQ h)
        · replace h := (if_pos q).symm.trans h
          refine ww_iload 78 X dX13_maySeal_78 5 rfl ?_
          refine ww_bipush 80 X (v := (66 : Int32)) dX13_maySeal_80 (by decide) ?_
          refine ww_iload_n 82 X dX13_maySeal_82 3 rfl rfl ?_
          obtain ⟨v83, M83, e83, h⟩ := bP_some h
          refine ww_callSI0 83 X dX13_maySeal_83 mY_X13_keyOf mL_X13_629 (As := [.int l3]) (rest := [.int (66 : Int32), .int v20]) rfl rfl ⟨Nat.le_of_ble_eq_true rfl, Nat.le_of_ble_eq_true rfl⟩ (Nat.le_of_ble_eq_true rfl) (fun l D A => c_X13_keyOf l D A e83) ?_
          refine ww_iadd 86 X dX13_maySeal_86 ?_
          refine ww_icmp_lt 87 94 X dX13_maySeal_87 (by decide) (fun q => ?_) (fun q => ?_)
          · replace h := (if_pos q).symm.trans h
            refine ww_iconst 94 X (v := (0 : Int32)) dX13_maySeal_94 (by decide) ?_
            refine ww_goto 95 113 X dX13_maySeal_95 (by decide) ?_
            exact ww_sub [0, 1, 4] rfl (wB_X13_maySeal_113 X hQ h)
          · replace h := (if_neg q).symm.trans h
            refine ww_iconst 90 X (v := (1 : Int32)) dX13_maySeal_90 (by decide) ?_
            refine ww_goto 91 113 X dX13_maySeal_91 (by decide) ?_
            exact ww_sub [0, 1, 4] rfl (wB_X13_maySeal_113 X hQ h)
    · replace h := (if_neg q).symm.trans h
      refine ww_aload_n 28 X dX13_maySeal_28 0 rfl rfl ?_
      obtain ⟨v29, e29, h⟩ := bO_some h
      refine ww_getR 29 X dX13_maySeal_29 fG_X13_202 e29 ?_
      refine ww_iload_n 32 X dX13_maySeal_32 1 rfl rfl ?_
      obtain ⟨v33, e33, h⟩ := bO_some h
      refine ww_iald 33 X dX13_maySeal_33 e33 ?_
      refine ww_if_ne 34 61 X dX13_maySeal_34 (by decide) (fun q => ?_) (fun q => ?_)
      · replace h := (if_neg q).symm.trans h
        refine ww_iconst 61 X (v := (0 : Int32)) dX13_maySeal_61 (by decide) ?_
        exact ww_zretE 62 X hQ dX13_maySeal_62 h
      · replace h := (if_pos q).symm.trans h
        refine ww_iload 37 X dX13_maySeal_37 5 rfl ?_
        refine ww_iload_n 39 X dX13_maySeal_39 2 rfl rfl ?_
        refine ww_if_ne 40 50 X dX13_maySeal_40 (by decide) (fun q => ?_) (fun q => ?_)
        · replace h := (if_neg q).symm.trans h
          refine ww_bipush 50 X (v := (16 : Int32)) dX13_maySeal_50 (by decide) ?_
          refine ww_iload_n 52 X dX13_maySeal_52 2 rfl rfl ?_
          refine ww_imul 53 X dX13_maySeal_53 ?_
          refine ww_icmp_ne 54 61 X dX13_maySeal_54 (by decide) (fun q => ?_) (fun q => ?_)
          · replace h := (if_neg q).symm.trans h
            refine ww_iconst 61 X (v := (0 : Int32)) dX13_maySeal_61 (by decide) ?_
            exact ww_zretE 62 X hQ dX13_maySeal_62 h
          · replace h := (if_pos q).symm.trans h
            refine ww_iconst 57 X (v := (1 : Int32)) dX13_maySeal_57 (by decide) ?_
            refine ww_goto 58 62 X dX13_maySeal_58 (by decide) ?_
            exact ww_zretE 62 X hQ dX13_maySeal_62 h
        · replace h := (if_pos q).symm.trans h
          refine ww_iload_n 43 X dX13_maySeal_43 3 rfl rfl ?_
          obtain ⟨v44, M44, e44, h⟩ := bP_some h
          refine ww_callSI0 44 X dX13_maySeal_44 mY_X13_keyOf mL_X13_629 (As := [.int l3]) (rest := [.int v20]) rfl rfl ⟨Nat.le_of_ble_eq_true rfl, Nat.le_of_ble_eq_true rfl⟩ (Nat.le_of_ble_eq_true rfl) (fun l D A => c_X13_keyOf l D A e44) ?_
          refine ww_goto 47 54 X dX13_maySeal_47 (by decide) ?_
          refine ww_icmp_ne 54 61 X dX13_maySeal_54 (by decide) (fun q => ?_) (fun q => ?_)
          · replace h := (if_neg q).symm.trans h
            refine ww_iconst 61 X (v := (0 : Int32)) dX13_maySeal_61 (by decide) ?_
            exact ww_zretE 62 X hQ dX13_maySeal_62 h
          · replace h := (if_pos q).symm.trans h
            refine ww_iconst 57 X (v := (1 : Int32)) dX13_maySeal_57 (by decide) ?_
            refine ww_goto 58 62 X dX13_maySeal_58 (by decide) ?_
            exact ww_zretE 62 X hQ dX13_maySeal_62 h
  · replace h := (if_pos q).symm.trans h
    refine ww_iconst 13 X (v := (0 : Int32)) dX13_maySeal_13 (by decide) ?_
    exact ww_zretE 14 X hQ dX13_maySeal_14 h
theorem c_X13_maySeal {G : mG} {F sz : Nat} {r0 : Int32} {M0 : mM} (l : Launch) (D : mD) (A : Nat → Prop) {l0 : Nat} {l1 : Int32} {l2 : Int32} {l3 : Int32} {l4 : Int32} {M : mM} (h : P_X13_maySeal G F l0 l1 l2 l3 l4 M = some (r0, M0)) : mMetI l D G A yX13_maySeal cX13_maySeal 7 (some .boolean) 6 136 0 0 [.ref l0, .int l1, .int l2, .int l3, .int l4] M sz r0 M0 sz := mMetI_of l D G A (by decide) (Nat.le_of_ble_eq_true rfl) (fun x X hQ => wP_X13_maySeal X hQ h)
/-! SealedTokensModel.nameOf(Ljava/lang/String;I)I -/
theorem dX13_nameOf_0 : decode cX13_nameOf 0 = .ok (.iconst 0, 1) := by decide +kernel
theorem dX13_nameOf_1 : decode cX13_nameOf 1 = .ok (.istore_n 3, 1) := by decide +kernel
theorem dX13_nameOf_2 : decode cX13_nameOf 2 = .ok (.aload_n 1, 1) := by decide +kernel
theorem dX13_nameOf_3 : decode cX13_nameOf 3 = .ok (.iload_n 2, 1) := by decide +kernel
theorem dX13_nameOf_4 : decode cX13_nameOf 4 = .ok (.invokestatic 891, 3) := by decide +kernel
theorem dX13_nameOf_7 : decode cX13_nameOf 7 = .ok (.istore 4, 2) := by decide +kernel
theorem dX13_nameOf_9 : decode cX13_nameOf 9 = .ok (.aload_n 1, 1) := by decide +kernel
theorem dX13_nameOf_10 : decode cX13_nameOf 10 = .ok (.iload 4, 2) := by decide +kernel
theorem dX13_nameOf_12 : decode cX13_nameOf 12 = .ok (.invokevirtual 410, 3) := by decide +kernel
theorem dX13_nameOf_15 : decode cX13_nameOf 15 = .ok (.bipush 32, 2) := by decide +kernel
theorem dX13_nameOf_17 : decode cX13_nameOf 17 = .ok (.if_icmp .eq 25, 3) := by decide +kernel
theorem dX13_nameOf_20 : decode cX13_nameOf 20 = .ok (.aload_n 0, 1) := by decide +kernel
theorem dX13_nameOf_21 : decode cX13_nameOf 21 = .ok (.getfield 300, 3) := by decide +kernel
theorem dX13_nameOf_24 : decode cX13_nameOf 24 = .ok (.iload_n 3, 1) := by decide +kernel
theorem dX13_nameOf_25 : decode cX13_nameOf 25 = .ok (.aload_n 1, 1) := by decide +kernel
theorem dX13_nameOf_26 : decode cX13_nameOf 26 = .ok (.iload 4, 2) := by decide +kernel
theorem dX13_nameOf_28 : decode cX13_nameOf 28 = .ok (.invokevirtual 410, 3) := by decide +kernel
theorem dX13_nameOf_31 : decode cX13_nameOf 31 = .ok (.i2b, 1) := by decide +kernel
theorem dX13_nameOf_32 : decode cX13_nameOf 32 = .ok (.bastore, 1) := by decide +kernel
theorem dX13_nameOf_33 : decode cX13_nameOf 33 = .ok (.iinc 3 1, 3) := by decide +kernel
theorem dX13_nameOf_36 : decode cX13_nameOf 36 = .ok (.iinc 4 1, 3) := by decide +kernel
theorem dX13_nameOf_39 : decode cX13_nameOf 39 = .ok (.goto (-30), 3) := by decide +kernel
theorem dX13_nameOf_42 : decode cX13_nameOf 42 = .ok (.iload_n 3, 1) := by decide +kernel
theorem dX13_nameOf_43 : decode cX13_nameOf 43 = .ok (.ireturn, 1) := by decide +kernel
abbrev rmX13_nameOf : Room := { frames := 5, cells := 0, slots := 0, locals := 108 }
set_option maxHeartbeats 4000000 in
set_option maxRecDepth 100000 in
theorem wB_X13_nameOf_9 {G : mG} {F : Nat} {x : mXT} {sz : Nat} {r0 : Int32} {M0 : mM} (X : mCX G RX13 cX13_nameOf 5 (some .int) "nameOf" rmX13_nameOf x) (hQ : mQI x r0 M0 (sz, 0, 0)) : ∀ (n : Nat) (l0 : Nat) (l1 : Nat) (l3 : Int32) (l4 : Int32) (M : mM), B_X13_nameOf_9 G F n l0 l1 l3 l4 M = some (r0, M0) → WW x (sz, 0, 0) M 9 [(0, .ref l0), (1, .ref l1), (3, .int l3), (4, .int l4)] [] := by
  intro n
  induction n with
  | zero =>
    intro l0 l1 l3 l4 M h
    exact nomatch (show (none : Option (Int32 × mM)) = some (r0, M0) from h)
  | succ n ih =>
    intro l0 l1 l3 l4 M h
    rw [B_X13_nameOf_9] at h
    refine ww_aload_n 9 X dX13_nameOf_9 1 rfl rfl ?_
    refine ww_iload 10 X dX13_nameOf_10 3 rfl ?_
    obtain ⟨_, f12, h⟩ := bO_some h
    obtain ⟨v12, M12, e12, h⟩ := bP_some h
    refine ww_callVIs 12 X dX13_nameOf_12 mY_J0_charAt_5068e mL_X13_410 (rcs_spec f12) rfl (As := [.int l4]) (rest := []) rfl rfl ⟨Nat.le_of_ble_eq_true rfl, Nat.le_of_ble_eq_true rfl⟩ (Nat.le_of_ble_eq_true rfl) (fun l D A => c_J0_charAt_5068e l D A e12) ?_
    refine ww_bipush 15 X (v := (32 : Int32)) dX13_nameOf_15 (by decide) ?_
    refine ww_icmp_eq 17 42 X dX13_nameOf_17 (by decide) (fun q => ?_) (fun q => ?_)
    · replace h := (if_pos q).symm.trans h
      refine ww_iload_n 42 X dX13_nameOf_42 2 rfl rfl ?_
      exact ww_iretE 43 X hQ dX13_nameOf_43 h
    · replace h := (if_neg q).symm.trans h
      refine ww_aload_n 20 X dX13_nameOf_20 0 rfl rfl ?_
      obtain ⟨v21, e21, h⟩ := bO_some h
      refine ww_getR 21 X dX13_nameOf_21 fG_X13_300 e21 ?_
      refine ww_iload_n 24 X dX13_nameOf_24 2 rfl rfl ?_
      refine ww_aload_n 25 X dX13_nameOf_25 1 rfl rfl ?_
      refine ww_iload 26 X dX13_nameOf_26 3 rfl ?_
      obtain ⟨_, f28, h⟩ := bO_some h
      obtain ⟨v28, M28, e28, h⟩ := bP_some h
      refine ww_callVIs 28 X dX13_nameOf_28 mY_J0_charAt_5068e mL_X13_410 (rcs_spec f28) rfl (As := [.int l4]) (rest := [.int l3, .ref v21]) rfl rfl ⟨Nat.le_of_ble_eq_true rfl, Nat.le_of_ble_eq_true rfl⟩ (Nat.le_of_ble_eq_true rfl) (fun l D A => c_J0_charAt_5068e l D A e28) ?_
      refine ww_i2b 31 X dX13_nameOf_31 ?_
      obtain ⟨M32, e32, h⟩ := bO_some h
      refine ww_bast 32 X dX13_nameOf_32 e32 ?_
      refine ww_iinc 33 X dX13_nameOf_33 (lv' := [(0, .ref l0), (1, .ref l1), (3, .int (l3 + 1)), (4, .int l4)]) 2 rfl rfl (by decide) [1, 2, 0, 3] rfl ?_
      refine ww_iinc 36 X dX13_nameOf_36 (lv' := [(0, .ref l0), (1, .ref l1), (3, .int (l3 + 1)), (4, .int (l4 + 1))]) 3 rfl rfl (by decide) [1, 2, 3, 0] rfl ?_
      refine ww_goto 39 9 X dX13_nameOf_39 (by decide) ?_
      exact (ih _ _ _ _ _ h)
set_option maxHeartbeats 4000000 in
set_option maxRecDepth 100000 in
theorem wP_X13_nameOf {G : mG} {F : Nat} {x : mXT} {sz : Nat} {r0 : Int32} {M0 : mM} (X : mCX G RX13 cX13_nameOf 5 (some .int) "nameOf" rmX13_nameOf x) (hQ : mQI x r0 M0 (sz, 0, 0)) {l0 : Nat} {l1 : Nat} {l2 : Int32} {M : mM} (h : P_X13_nameOf G F l0 l1 l2 M = some (r0, M0)) : WW x (sz, 0, 0) M 0 [(0, .ref l0), (1, .ref l1), (2, .int l2)] [] := by
  unfold P_X13_nameOf at h
  refine ww_iconst 0 X (v := (0 : Int32)) dX13_nameOf_0 (by decide) ?_
  refine ww_istore_n 1 X dX13_nameOf_1 (lv' := [(0, .ref l0), (1, .ref l1), (2, .int l2), (3, .int (0 : Int32))]) rfl (by decide) [1, 2, 3, 0] rfl ?_
  refine ww_aload_n 2 X dX13_nameOf_2 1 rfl rfl ?_
  refine ww_iload_n 3 X dX13_nameOf_3 2 rfl rfl ?_
  obtain ⟨v4, M4, e4, h⟩ := bP_some h
  refine ww_callSI0 4 X dX13_nameOf_4 mY_X13_begins mL_X13_891 (As := [.ref l1, .int l2]) (rest := []) rfl rfl ⟨Nat.le_of_ble_eq_true rfl, Nat.le_of_ble_eq_true rfl⟩ (Nat.le_of_ble_eq_true rfl) (fun l D A => c_X13_begins l D A e4) ?_
  refine ww_istore 7 X dX13_nameOf_7 (lv' := [(0, .ref l0), (1, .ref l1), (2, .int l2), (3, .int (0 : Int32)), (4, .int v4)]) (by decide) [1, 2, 3, 4, 0] rfl ?_
  exact ww_sub [0, 1, 3, 4] rfl (wB_X13_nameOf_9 X hQ F _ _ _ _ _ h)
theorem c_X13_nameOf {G : mG} {F sz : Nat} {r0 : Int32} {M0 : mM} (l : Launch) (D : mD) (A : Nat → Prop) {l0 : Nat} {l1 : Nat} {l2 : Int32} {M : mM} (h : P_X13_nameOf G F l0 l1 l2 M = some (r0, M0)) : mMetI l D G A yX13_nameOf cX13_nameOf 5 (some .int) 5 108 0 0 [.ref l0, .ref l1, .int l2] M sz r0 M0 sz := mMetI_of l D G A (by decide) (Nat.le_of_ble_eq_true rfl) (fun x X hQ => wP_X13_nameOf X hQ h)
/-! SealedTokensModel.agree([BI[BIII)Z -/
theorem dX13_agree_0 : decode cX13_agree 0 = .ok (.aload_n 0, 1) := by decide +kernel
theorem dX13_agree_1 : decode cX13_agree 1 = .ok (.aload_n 3, 1) := by decide +kernel
theorem dX13_agree_2 : decode cX13_agree 2 = .ok (.iload 4, 2) := by decide +kernel
theorem dX13_agree_4 : decode cX13_agree 4 = .ok (.invokevirtual 766, 3) := by decide +kernel
theorem dX13_agree_7 : decode cX13_agree 7 = .ok (.istore 7, 2) := by decide +kernel
theorem dX13_agree_9 : decode cX13_agree 9 = .ok (.aload_n 0, 1) := by decide +kernel
theorem dX13_agree_10 : decode cX13_agree 10 = .ok (.aload_n 1, 1) := by decide +kernel
theorem dX13_agree_11 : decode cX13_agree 11 = .ok (.iload_n 2, 1) := by decide +kernel
theorem dX13_agree_12 : decode cX13_agree 12 = .ok (.invokevirtual 770, 3) := by decide +kernel
theorem dX13_agree_15 : decode cX13_agree 15 = .ok (.iload 7, 2) := by decide +kernel
theorem dX13_agree_17 : decode cX13_agree 17 = .ok (.ifCond .eq 19, 3) := by decide +kernel
theorem dX13_agree_20 : decode cX13_agree 20 = .ok (.aload_n 0, 1) := by decide +kernel
theorem dX13_agree_21 : decode cX13_agree 21 = .ok (.aload_n 0, 1) := by decide +kernel
theorem dX13_agree_22 : decode cX13_agree 22 = .ok (.getfield 297, 3) := by decide +kernel
theorem dX13_agree_25 : decode cX13_agree 25 = .ok (.iconst 0, 1) := by decide +kernel
theorem dX13_agree_26 : decode cX13_agree 26 = .ok (.invokevirtual 772, 3) := by decide +kernel
theorem dX13_agree_29 : decode cX13_agree 29 = .ok (.ifCond .eq 7, 3) := by decide +kernel
theorem dX13_agree_32 : decode cX13_agree 32 = .ok (.iconst 1, 1) := by decide +kernel
theorem dX13_agree_33 : decode cX13_agree 33 = .ok (.goto 4, 3) := by decide +kernel
theorem dX13_agree_36 : decode cX13_agree 36 = .ok (.iconst 0, 1) := by decide +kernel
theorem dX13_agree_37 : decode cX13_agree 37 = .ok (.istore 7, 2) := by decide +kernel
theorem dX13_agree_39 : decode cX13_agree 39 = .ok (.iload 5, 2) := by decide +kernel
theorem dX13_agree_41 : decode cX13_agree 41 = .ok (.iconst 4, 1) := by decide +kernel
theorem dX13_agree_42 : decode cX13_agree 42 = .ok (.if_icmp .ne 15, 3) := by decide +kernel
theorem dX13_agree_45 : decode cX13_agree 45 = .ok (.aload_n 0, 1) := by decide +kernel
theorem dX13_agree_46 : decode cX13_agree 46 = .ok (.ldc_w 922, 3) := by decide +kernel
theorem dX13_agree_49 : decode cX13_agree 49 = .ok (.iload 6, 2) := by decide +kernel
theorem dX13_agree_51 : decode cX13_agree 51 = .ok (.invokevirtual 1035, 3) := by decide +kernel
theorem dX13_agree_54 : decode cX13_agree 54 = .ok (.goto 12, 3) := by decide +kernel
theorem dX13_agree_57 : decode cX13_agree 57 = .ok (.aload_n 0, 1) := by decide +kernel
theorem dX13_agree_58 : decode cX13_agree 58 = .ok (.ldc_w 912, 3) := by decide +kernel
theorem dX13_agree_61 : decode cX13_agree 61 = .ok (.iload 5, 2) := by decide +kernel
theorem dX13_agree_63 : decode cX13_agree 63 = .ok (.invokevirtual 1035, 3) := by decide +kernel
theorem dX13_agree_66 : decode cX13_agree 66 = .ok (.istore 8, 2) := by decide +kernel
theorem dX13_agree_68 : decode cX13_agree 68 = .ok (.aload_n 0, 1) := by decide +kernel
theorem dX13_agree_69 : decode cX13_agree 69 = .ok (.aload_n 0, 1) := by decide +kernel
theorem dX13_agree_70 : decode cX13_agree 70 = .ok (.getfield 297, 3) := by decide +kernel
theorem dX13_agree_73 : decode cX13_agree 73 = .ok (.iconst 0, 1) := by decide +kernel
theorem dX13_agree_74 : decode cX13_agree 74 = .ok (.bipush 32, 2) := by decide +kernel
theorem dX13_agree_76 : decode cX13_agree 76 = .ok (.aload_n 0, 1) := by decide +kernel
theorem dX13_agree_77 : decode cX13_agree 77 = .ok (.getfield 300, 3) := by decide +kernel
theorem dX13_agree_80 : decode cX13_agree 80 = .ok (.iconst 0, 1) := by decide +kernel
theorem dX13_agree_81 : decode cX13_agree 81 = .ok (.iload 8, 2) := by decide +kernel
theorem dX13_agree_83 : decode cX13_agree 83 = .ok (.aload_n 0, 1) := by decide +kernel
theorem dX13_agree_84 : decode cX13_agree 84 = .ok (.getfield 251, 3) := by decide +kernel
theorem dX13_agree_87 : decode cX13_agree 87 = .ok (.iconst 0, 1) := by decide +kernel
theorem dX13_agree_88 : decode cX13_agree 88 = .ok (.aload_n 0, 1) := by decide +kernel
theorem dX13_agree_89 : decode cX13_agree 89 = .ok (.getfield 942, 3) := by decide +kernel
theorem dX13_agree_92 : decode cX13_agree 92 = .ok (.aload_n 0, 1) := by decide +kernel
theorem dX13_agree_93 : decode cX13_agree 93 = .ok (.getfield 254, 3) := by decide +kernel
theorem dX13_agree_96 : decode cX13_agree 96 = .ok (.iconst 0, 1) := by decide +kernel
theorem dX13_agree_97 : decode cX13_agree 97 = .ok (.aload_n 0, 1) := by decide +kernel
theorem dX13_agree_98 : decode cX13_agree 98 = .ok (.getfield 947, 3) := by decide +kernel
theorem dX13_agree_101 : decode cX13_agree 101 = .ok (.iload 5, 2) := by decide +kernel
theorem dX13_agree_103 : decode cX13_agree 103 = .ok (.iconst 4, 1) := by decide +kernel
theorem dX13_agree_104 : decode cX13_agree 104 = .ok (.if_icmp .ne 11, 3) := by decide +kernel
theorem dX13_agree_107 : decode cX13_agree 107 = .ok (.iload 6, 2) := by decide +kernel
theorem dX13_agree_109 : decode cX13_agree 109 = .ok (.invokestatic 629, 3) := by decide +kernel
theorem dX13_agree_112 : decode cX13_agree 112 = .ok (.goto 5, 3) := by decide +kernel
theorem dX13_agree_115 : decode cX13_agree 115 = .ok (.bipush 16, 2) := by decide +kernel
theorem dX13_agree_117 : decode cX13_agree 117 = .ok (.invokevirtual 775, 3) := by decide +kernel
theorem dX13_agree_120 : decode cX13_agree 120 = .ok (.iload 7, 2) := by decide +kernel
theorem dX13_agree_122 : decode cX13_agree 122 = .ok (.ireturn, 1) := by decide +kernel
abbrev rmX13_agree : Room := { frames := 6, cells := 0, slots := 0, locals := 151 }
set_option maxHeartbeats 4000000 in
set_option maxRecDepth 100000 in
theorem wB_X13_agree_66 {G : mG} {F : Nat} {x : mXT} {sz : Nat} {r0 : Int32} {M0 : mM} (X : mCX G RX13 cX13_agree 9 (some .boolean) "agree" rmX13_agree x) (hQ : mQI x r0 M0 (sz, 0, 0)) {l0 : Nat} {l5 : Int32} {l6 : Int32} {l7 : Int32} {sk0 : Int32} {M : mM} (h : B_X13_agree_66 G F l0 l5 l6 l7 sk0 M = some (r0, M0)) : WW x (sz, 0, 0) M 66 [(0, .ref l0), (5, .int l5), (6, .int l6), (7, .int l7)] [.int sk0] := by
  unfold B_X13_agree_66 at h
  refine ww_istore 66 X dX13_agree_66 (lv' := [(0, .ref l0), (5, .int l5), (6, .int l6), (7, .int l7), (8, .int sk0)]) (by decide) [1, 2, 3, 4, 0] rfl ?_
  refine ww_aload_n 68 X dX13_agree_68 0 rfl rfl ?_
  refine ww_aload_n 69 X dX13_agree_69 0 rfl rfl ?_
  obtain ⟨v70, e70, h⟩ := bO_some h
  refine ww_getR 70 X dX13_agree_70 fG_X13_297 e70 ?_
  refine ww_iconst 73 X (v := (0 : Int32)) dX13_agree_73 (by decide) ?_
  refine ww_bipush 74 X (v := (32 : Int32)) dX13_agree_74 (by decide) ?_
  refine ww_aload_n 76 X dX13_agree_76 0 rfl rfl ?_
  obtain ⟨v77, e77, h⟩ := bO_some h
  refine ww_getR 77 X dX13_agree_77 fG_X13_300 e77 ?_
  refine ww_iconst 80 X (v := (0 : Int32)) dX13_agree_80 (by decide) ?_
  refine ww_iload 81 X dX13_agree_81 4 rfl ?_
  refine ww_aload_n 83 X dX13_agree_83 0 rfl rfl ?_
  obtain ⟨v84, e84, h⟩ := bO_some h
  refine ww_getR 84 X dX13_agree_84 fG_X13_251 e84 ?_
  refine ww_iconst 87 X (v := (0 : Int32)) dX13_agree_87 (by decide) ?_
  refine ww_aload_n 88 X dX13_agree_88 0 rfl rfl ?_
  obtain ⟨v89, e89, h⟩ := bO_some h
  refine ww_getI 89 X dX13_agree_89 fG_X13_942 e89 ?_
  refine ww_aload_n 92 X dX13_agree_92 0 rfl rfl ?_
  obtain ⟨v93, e93, h⟩ := bO_some h
  refine ww_getR 93 X dX13_agree_93 fG_X13_254 e93 ?_
  refine ww_iconst 96 X (v := (0 : Int32)) dX13_agree_96 (by decide) ?_
  refine ww_aload_n 97 X dX13_agree_97 0 rfl rfl ?_
  obtain ⟨v98, e98, h⟩ := bO_some h
  refine ww_getI 98 X dX13_agree_98 fG_X13_947 e98 ?_
  refine ww_iload 101 X dX13_agree_101 1 rfl ?_
  refine ww_iconst 103 X (v := (4 : Int32)) dX13_agree_103 (by decide) ?_
  refine ww_icmp_ne 104 115 X dX13_agree_104 (by decide) (fun q => ?_) (fun q => ?_)
  · replace h := (if_neg q).symm.trans h
    refine ww_bipush 115 X (v := (16 : Int32)) dX13_agree_115 (by decide) ?_
    obtain ⟨_, f117, h⟩ := bO_some h
    obtain ⟨M117, e117, h⟩ := bO_some h
    refine ww_callVV0 117 X dX13_agree_117 mY_X13_deriveIt mL_X13_775 (rcv_spec f117) ⟨_, _, rfl⟩ (by decide) (As := [.ref v70, .int (0 : Int32), .int (32 : Int32), .ref v77, .int (0 : Int32), .int sk0, .ref v84, .int (0 : Int32), .int v89, .ref v93, .int (0 : Int32), .int v98, .int (16 : Int32)]) (rest := []) rfl rfl ⟨Nat.le_of_ble_eq_true rfl, Nat.le_of_ble_eq_true rfl⟩ (Nat.le_of_ble_eq_true rfl) (fun l D A => c_X13_deriveIt l D A e117) ?_
    refine ww_iload 120 X dX13_agree_120 3 rfl ?_
    exact ww_zretE 122 X hQ dX13_agree_122 h
  · replace h := (if_pos q).symm.trans h
    refine ww_iload 107 X dX13_agree_107 2 rfl ?_
    obtain ⟨v109, M109, e109, h⟩ := bP_some h
    refine ww_callSI0w 109 X dX13_agree_109 mY_X13_keyOf mL_X13_629 (As := [.int l6]) (rest := [.int v98, .int (0 : Int32), .ref v93, .int v89, .int (0 : Int32), .ref v84, .int sk0, .int (0 : Int32), .ref v77, .int (32 : Int32), .int (0 : Int32), .ref v70, .ref l0]) rfl rfl ⟨Nat.le_of_ble_eq_true rfl, Nat.le_of_ble_eq_true rfl⟩ (Nat.le_of_ble_eq_true rfl) (fun l D A => c_X13_keyOf l D A e109) ?_
    refine ww_goto 112 117 X dX13_agree_112 (by decide) ?_
    obtain ⟨_, f117, h⟩ := bO_some h
    obtain ⟨M117, e117, h⟩ := bO_some h
    refine ww_callVV0 117 X dX13_agree_117 mY_X13_deriveIt mL_X13_775 (rcv_spec f117) ⟨_, _, rfl⟩ (by decide) (As := [.ref v70, .int (0 : Int32), .int (32 : Int32), .ref v77, .int (0 : Int32), .int sk0, .ref v84, .int (0 : Int32), .int v89, .ref v93, .int (0 : Int32), .int v98, .int v109]) (rest := []) rfl rfl ⟨Nat.le_of_ble_eq_true rfl, Nat.le_of_ble_eq_true rfl⟩ (Nat.le_of_ble_eq_true rfl) (fun l D A => c_X13_deriveIt l D A e117) ?_
    refine ww_iload 120 X dX13_agree_120 3 rfl ?_
    exact ww_zretE 122 X hQ dX13_agree_122 h
set_option maxHeartbeats 4000000 in
set_option maxRecDepth 100000 in
theorem wB_X13_agree_37 {G : mG} {F : Nat} {x : mXT} {sz : Nat} {r0 : Int32} {M0 : mM} (X : mCX G RX13 cX13_agree 9 (some .boolean) "agree" rmX13_agree x) (hQ : mQI x r0 M0 (sz, 0, 0)) {l0 : Nat} {l5 : Int32} {l6 : Int32} {sk0 : Int32} {M : mM} (h : B_X13_agree_37 G F l0 l5 l6 sk0 M = some (r0, M0)) : WW x (sz, 0, 0) M 37 [(0, .ref l0), (5, .int l5), (6, .int l6)] [.int sk0] := by
  unfold B_X13_agree_37 at h
  refine ww_istore 37 X dX13_agree_37 (lv' := [(0, .ref l0), (5, .int l5), (6, .int l6), (7, .int sk0)]) (by decide) [1, 2, 3, 0] rfl ?_
  refine ww_iload 39 X dX13_agree_39 1 rfl ?_
  refine ww_iconst 41 X (v := (4 : Int32)) dX13_agree_41 (by decide) ?_
  refine ww_icmp_ne 42 57 X dX13_agree_42 (by decide) (fun q => ?_) (fun q => ?_)
  · replace h := (if_neg q).symm.trans h
    refine ww_aload_n 57 X dX13_agree_57 0 rfl rfl ?_
    refine ww_ldsw 58 X (j := 117) dX13_agree_58 rfl ?_
    refine ww_iload 61 X dX13_agree_61 1 rfl ?_
    obtain ⟨_, f63, h⟩ := bO_some h
    obtain ⟨v63, M63, e63, h⟩ := bP_some h
    refine ww_callVI0 63 X dX13_agree_63 mY_X13_nameOf mL_X13_1035 (rcv_spec f63) ⟨_, _, rfl⟩ (by decide) (As := [.ref (G.1 117), .int l5]) (rest := []) rfl rfl ⟨Nat.le_of_ble_eq_true rfl, Nat.le_of_ble_eq_true rfl⟩ (Nat.le_of_ble_eq_true rfl) (fun l D A => c_X13_nameOf l D A e63) ?_
    exact (wB_X13_agree_66 X hQ h)
  · replace h := (if_pos q).symm.trans h
    refine ww_aload_n 45 X dX13_agree_45 0 rfl rfl ?_
    refine ww_ldsw 46 X (j := 111) dX13_agree_46 rfl ?_
    refine ww_iload 49 X dX13_agree_49 2 rfl ?_
    obtain ⟨_, f51, h⟩ := bO_some h
    obtain ⟨v51, M51, e51, h⟩ := bP_some h
    refine ww_callVI0 51 X dX13_agree_51 mY_X13_nameOf mL_X13_1035 (rcv_spec f51) ⟨_, _, rfl⟩ (by decide) (As := [.ref (G.1 111), .int l6]) (rest := []) rfl rfl ⟨Nat.le_of_ble_eq_true rfl, Nat.le_of_ble_eq_true rfl⟩ (Nat.le_of_ble_eq_true rfl) (fun l D A => c_X13_nameOf l D A e51) ?_
    refine ww_goto 54 66 X dX13_agree_54 (by decide) ?_
    exact (wB_X13_agree_66 X hQ h)
set_option maxHeartbeats 4000000 in
set_option maxRecDepth 100000 in
theorem wP_X13_agree {G : mG} {F : Nat} {x : mXT} {sz : Nat} {r0 : Int32} {M0 : mM} (X : mCX G RX13 cX13_agree 9 (some .boolean) "agree" rmX13_agree x) (hQ : mQI x r0 M0 (sz, 0, 0)) {l0 : Nat} {l1 : Nat} {l2 : Int32} {l3 : Nat} {l4 : Int32} {l5 : Int32} {l6 : Int32} {M : mM} (h : P_X13_agree G F l0 l1 l2 l3 l4 l5 l6 M = some (r0, M0)) : WW x (sz, 0, 0) M 0 [(0, .ref l0), (1, .ref l1), (2, .int l2), (3, .ref l3), (4, .int l4), (5, .int l5), (6, .int l6)] [] := by
  unfold P_X13_agree at h
  refine ww_aload_n 0 X dX13_agree_0 0 rfl rfl ?_
  refine ww_aload_n 1 X dX13_agree_1 3 rfl rfl ?_
  refine ww_iload 2 X dX13_agree_2 4 rfl ?_
  obtain ⟨_, f4, h⟩ := bO_some h
  obtain ⟨v4, M4, e4, h⟩ := bP_some h
  refine ww_callVI0 4 X dX13_agree_4 mY_X13_setPoint mL_X13_766 (rcv_spec f4) ⟨_, _, rfl⟩ (by decide) (As := [.ref l3, .int l4]) (rest := []) rfl rfl ⟨Nat.le_of_ble_eq_true rfl, Nat.le_of_ble_eq_true rfl⟩ (Nat.le_of_ble_eq_true rfl) (fun l D A => c_X13_setPoint l D A e4) ?_
  refine ww_istore 7 X dX13_agree_7 (lv' := [(0, .ref l0), (1, .ref l1), (2, .int l2), (3, .ref l3), (4, .int l4), (5, .int l5), (6, .int l6), (7, .int v4)]) (by decide) [1, 2, 3, 4, 5, 6, 7, 0] rfl ?_
  refine ww_aload_n 9 X dX13_agree_9 0 rfl rfl ?_
  refine ww_aload_n 10 X dX13_agree_10 1 rfl rfl ?_
  refine ww_iload_n 11 X dX13_agree_11 2 rfl rfl ?_
  obtain ⟨_, f12, h⟩ := bO_some h
  obtain ⟨M12, e12, h⟩ := bO_some h
  refine ww_callVV0 12 X dX13_agree_12 mY_X13_times_ mL_X13_770 (rcv_spec f12) ⟨_, _, rfl⟩ (by decide) (As := [.ref l1, .int l2]) (rest := []) rfl rfl ⟨Nat.le_of_ble_eq_true rfl, Nat.le_of_ble_eq_true rfl⟩ (Nat.le_of_ble_eq_true rfl) (fun l D A => c_X13_times_ l D A e12) ?_
  refine ww_iload 15 X dX13_agree_15 7 rfl ?_
  refine ww_if_eq 17 36 X dX13_agree_17 (by decide) (fun q => ?_) (fun q => ?_)
  · replace h := (if_pos q).symm.trans h
    refine ww_iconst 36 X (v := (0 : Int32)) dX13_agree_36 (by decide) ?_
    exact ww_sub [0, 5, 6] rfl (wB_X13_agree_37 X hQ h)
  · replace h := (if_neg q).symm.trans h
    refine ww_aload_n 20 X dX13_agree_20 0 rfl rfl ?_
    refine ww_aload_n 21 X dX13_agree_21 0 rfl rfl ?_
    obtain ⟨v22, e22, h⟩ := bO_some h
    refine ww_getR 22 X dX13_agree_22 fG_X13_297 e22 ?_
    refine ww_iconst 25 X (v := (0 : Int32)) dX13_agree_25 (by decide) ?_
    obtain ⟨_, f26, h⟩ := bO_some h
    obtain ⟨v26, M26, e26, h⟩ := bP_some h
    refine ww_callVI0 26 X dX13_agree_26 mY_X13_getPoint mL_X13_772 (rcv_spec f26) ⟨_, _, rfl⟩ (by decide) (As := [.ref v22, .int (0 : Int32)]) (rest := []) rfl rfl ⟨Nat.le_of_ble_eq_true rfl, Nat.le_of_ble_eq_true rfl⟩ (Nat.le_of_ble_eq_true rfl) (fun l D A => c_X13_getPoint l D A e26) ?_
    refine ww_if_eq 29 36 X dX13_agree_29 (by decide) (fun q => ?_) (fun q => ?_)
    · replace h := (if_pos q).symm.trans h
      refine ww_iconst 36 X (v := (0 : Int32)) dX13_agree_36 (by decide) ?_
      exact ww_sub [0, 5, 6] rfl (wB_X13_agree_37 X hQ h)
    · replace h := (if_neg q).symm.trans h
      refine ww_iconst 32 X (v := (1 : Int32)) dX13_agree_32 (by decide) ?_
      refine ww_goto 33 37 X dX13_agree_33 (by decide) ?_
      exact ww_sub [0, 5, 6] rfl (wB_X13_agree_37 X hQ h)
theorem c_X13_agree {G : mG} {F sz : Nat} {r0 : Int32} {M0 : mM} (l : Launch) (D : mD) (A : Nat → Prop) {l0 : Nat} {l1 : Nat} {l2 : Int32} {l3 : Nat} {l4 : Int32} {l5 : Int32} {l6 : Int32} {M : mM} (h : P_X13_agree G F l0 l1 l2 l3 l4 l5 l6 M = some (r0, M0)) : mMetI l D G A yX13_agree cX13_agree 9 (some .boolean) 6 151 0 0 [.ref l0, .ref l1, .int l2, .ref l3, .int l4, .int l5, .int l6] M sz r0 M0 sz := mMetI_of l D G A (by decide) (Nat.le_of_ble_eq_true rfl) (fun x X hQ => wP_X13_agree X hQ h)
/-! SealedTokensModel.sealRsa(II[BI)V -/
theorem dX13_sealRsa_0 : decode cX13_sealRsa 0 = .ok (.aload_n 0, 1) := by decide +kernel
theorem dX13_sealRsa_1 : decode cX13_sealRsa 1 = .ok (.getfield 208, 3) := by decide +kernel
theorem dX13_sealRsa_4 : decode cX13_sealRsa 4 = .ok (.iload_n 1, 1) := by decide +kernel
theorem dX13_sealRsa_5 : decode cX13_sealRsa 5 = .ok (.iaload, 1) := by decide +kernel
theorem dX13_sealRsa_6 : decode cX13_sealRsa 6 = .ok (.istore 5, 2) := by decide +kernel
theorem dX13_sealRsa_8 : decode cX13_sealRsa 8 = .ok (.aload_n 0, 1) := by decide +kernel
theorem dX13_sealRsa_9 : decode cX13_sealRsa 9 = .ok (.invokevirtual 570, 3) := by decide +kernel
theorem dX13_sealRsa_12 : decode cX13_sealRsa 12 = .ok (.aload_n 0, 1) := by decide +kernel
theorem dX13_sealRsa_13 : decode cX13_sealRsa 13 = .ok (.sipush 256, 3) := by decide +kernel
theorem dX13_sealRsa_16 : decode cX13_sealRsa 16 = .ok (.invokevirtual 576, 3) := by decide +kernel
theorem dX13_sealRsa_19 : decode cX13_sealRsa 19 = .ok (.istore 6, 2) := by decide +kernel
theorem dX13_sealRsa_21 : decode cX13_sealRsa 21 = .ok (.aload_n 0, 1) := by decide +kernel
theorem dX13_sealRsa_22 : decode cX13_sealRsa 22 = .ok (.getfield 195, 3) := by decide +kernel
theorem dX13_sealRsa_25 : decode cX13_sealRsa 25 = .ok (.iconst 0, 1) := by decide +kernel
theorem dX13_sealRsa_26 : decode cX13_sealRsa 26 = .ok (.iconst 0, 1) := by decide +kernel
theorem dX13_sealRsa_27 : decode cX13_sealRsa 27 = .ok (.bastore, 1) := by decide +kernel
theorem dX13_sealRsa_28 : decode cX13_sealRsa 28 = .ok (.aload_n 3, 1) := by decide +kernel
theorem dX13_sealRsa_29 : decode cX13_sealRsa 29 = .ok (.iload 4, 2) := by decide +kernel
theorem dX13_sealRsa_31 : decode cX13_sealRsa 31 = .ok (.aload_n 0, 1) := by decide +kernel
theorem dX13_sealRsa_32 : decode cX13_sealRsa 32 = .ok (.getfield 195, 3) := by decide +kernel
theorem dX13_sealRsa_35 : decode cX13_sealRsa 35 = .ok (.iconst 1, 1) := by decide +kernel
theorem dX13_sealRsa_36 : decode cX13_sealRsa 36 = .ok (.bipush 32, 2) := by decide +kernel
theorem dX13_sealRsa_38 : decode cX13_sealRsa 38 = .ok (.invokestatic 317, 3) := by decide +kernel
theorem dX13_sealRsa_41 : decode cX13_sealRsa 41 = .ok (.aload_n 0, 1) := by decide +kernel
theorem dX13_sealRsa_42 : decode cX13_sealRsa 42 = .ok (.getfield 76, 3) := by decide +kernel
theorem dX13_sealRsa_45 : decode cX13_sealRsa 45 = .ok (.iconst 0, 1) := by decide +kernel
theorem dX13_sealRsa_46 : decode cX13_sealRsa 46 = .ok (.aload_n 0, 1) := by decide +kernel
theorem dX13_sealRsa_47 : decode cX13_sealRsa 47 = .ok (.getfield 195, 3) := by decide +kernel
theorem dX13_sealRsa_50 : decode cX13_sealRsa 50 = .ok (.bipush 33, 2) := by decide +kernel
theorem dX13_sealRsa_52 : decode cX13_sealRsa 52 = .ok (.bipush 32, 2) := by decide +kernel
theorem dX13_sealRsa_54 : decode cX13_sealRsa 54 = .ok (.invokestatic 317, 3) := by decide +kernel
theorem dX13_sealRsa_57 : decode cX13_sealRsa 57 = .ok (.bipush 65, 2) := by decide +kernel
theorem dX13_sealRsa_59 : decode cX13_sealRsa 59 = .ok (.istore 7, 2) := by decide +kernel
theorem dX13_sealRsa_61 : decode cX13_sealRsa 61 = .ok (.iload 7, 2) := by decide +kernel
theorem dX13_sealRsa_63 : decode cX13_sealRsa 63 = .ok (.iload 5, 2) := by decide +kernel
theorem dX13_sealRsa_65 : decode cX13_sealRsa 65 = .ok (.iload_n 2, 1) := by decide +kernel
theorem dX13_sealRsa_66 : decode cX13_sealRsa 66 = .ok (.isub, 1) := by decide +kernel
theorem dX13_sealRsa_67 : decode cX13_sealRsa 67 = .ok (.iconst 1, 1) := by decide +kernel
theorem dX13_sealRsa_68 : decode cX13_sealRsa 68 = .ok (.isub, 1) := by decide +kernel
theorem dX13_sealRsa_69 : decode cX13_sealRsa 69 = .ok (.if_icmp .ge 17, 3) := by decide +kernel
theorem dX13_sealRsa_72 : decode cX13_sealRsa 72 = .ok (.aload_n 0, 1) := by decide +kernel
theorem dX13_sealRsa_73 : decode cX13_sealRsa 73 = .ok (.getfield 195, 3) := by decide +kernel
theorem dX13_sealRsa_76 : decode cX13_sealRsa 76 = .ok (.iload 7, 2) := by decide +kernel
theorem dX13_sealRsa_78 : decode cX13_sealRsa 78 = .ok (.iconst 0, 1) := by decide +kernel
theorem dX13_sealRsa_79 : decode cX13_sealRsa 79 = .ok (.bastore, 1) := by decide +kernel
theorem dX13_sealRsa_80 : decode cX13_sealRsa 80 = .ok (.iinc 7 1, 3) := by decide +kernel
theorem dX13_sealRsa_83 : decode cX13_sealRsa 83 = .ok (.goto (-22), 3) := by decide +kernel
theorem dX13_sealRsa_86 : decode cX13_sealRsa 86 = .ok (.aload_n 0, 1) := by decide +kernel
theorem dX13_sealRsa_87 : decode cX13_sealRsa 87 = .ok (.getfield 195, 3) := by decide +kernel
theorem dX13_sealRsa_90 : decode cX13_sealRsa 90 = .ok (.iload 5, 2) := by decide +kernel
theorem dX13_sealRsa_92 : decode cX13_sealRsa 92 = .ok (.iload_n 2, 1) := by decide +kernel
theorem dX13_sealRsa_93 : decode cX13_sealRsa 93 = .ok (.isub, 1) := by decide +kernel
theorem dX13_sealRsa_94 : decode cX13_sealRsa 94 = .ok (.iconst 1, 1) := by decide +kernel
theorem dX13_sealRsa_95 : decode cX13_sealRsa 95 = .ok (.isub, 1) := by decide +kernel
theorem dX13_sealRsa_96 : decode cX13_sealRsa 96 = .ok (.iconst 1, 1) := by decide +kernel
theorem dX13_sealRsa_97 : decode cX13_sealRsa 97 = .ok (.bastore, 1) := by decide +kernel
theorem dX13_sealRsa_98 : decode cX13_sealRsa 98 = .ok (.aload_n 0, 1) := by decide +kernel
theorem dX13_sealRsa_99 : decode cX13_sealRsa 99 = .ok (.getfield 288, 3) := by decide +kernel
theorem dX13_sealRsa_102 : decode cX13_sealRsa 102 = .ok (.iconst 0, 1) := by decide +kernel
theorem dX13_sealRsa_103 : decode cX13_sealRsa 103 = .ok (.aload_n 0, 1) := by decide +kernel
theorem dX13_sealRsa_104 : decode cX13_sealRsa 104 = .ok (.getfield 195, 3) := by decide +kernel
theorem dX13_sealRsa_107 : decode cX13_sealRsa 107 = .ok (.iload 5, 2) := by decide +kernel
theorem dX13_sealRsa_109 : decode cX13_sealRsa 109 = .ok (.iload_n 2, 1) := by decide +kernel
theorem dX13_sealRsa_110 : decode cX13_sealRsa 110 = .ok (.isub, 1) := by decide +kernel
theorem dX13_sealRsa_111 : decode cX13_sealRsa 111 = .ok (.iload_n 2, 1) := by decide +kernel
theorem dX13_sealRsa_112 : decode cX13_sealRsa 112 = .ok (.invokestatic 317, 3) := by decide +kernel
theorem dX13_sealRsa_115 : decode cX13_sealRsa 115 = .ok (.aload_n 0, 1) := by decide +kernel
theorem dX13_sealRsa_116 : decode cX13_sealRsa 116 = .ok (.aload_n 0, 1) := by decide +kernel
theorem dX13_sealRsa_117 : decode cX13_sealRsa 117 = .ok (.getfield 195, 3) := by decide +kernel
theorem dX13_sealRsa_120 : decode cX13_sealRsa 120 = .ok (.iconst 1, 1) := by decide +kernel
theorem dX13_sealRsa_121 : decode cX13_sealRsa 121 = .ok (.bipush 32, 2) := by decide +kernel
theorem dX13_sealRsa_123 : decode cX13_sealRsa 123 = .ok (.aload_n 0, 1) := by decide +kernel
theorem dX13_sealRsa_124 : decode cX13_sealRsa 124 = .ok (.getfield 195, 3) := by decide +kernel
theorem dX13_sealRsa_127 : decode cX13_sealRsa 127 = .ok (.bipush 33, 2) := by decide +kernel
theorem dX13_sealRsa_129 : decode cX13_sealRsa 129 = .ok (.iload 5, 2) := by decide +kernel
theorem dX13_sealRsa_131 : decode cX13_sealRsa 131 = .ok (.bipush 33, 2) := by decide +kernel
theorem dX13_sealRsa_133 : decode cX13_sealRsa 133 = .ok (.isub, 1) := by decide +kernel
theorem dX13_sealRsa_134 : decode cX13_sealRsa 134 = .ok (.invokevirtual 784, 3) := by decide +kernel
theorem dX13_sealRsa_137 : decode cX13_sealRsa 137 = .ok (.aload_n 0, 1) := by decide +kernel
theorem dX13_sealRsa_138 : decode cX13_sealRsa 138 = .ok (.aload_n 0, 1) := by decide +kernel
theorem dX13_sealRsa_139 : decode cX13_sealRsa 139 = .ok (.getfield 195, 3) := by decide +kernel
theorem dX13_sealRsa_142 : decode cX13_sealRsa 142 = .ok (.bipush 33, 2) := by decide +kernel
theorem dX13_sealRsa_144 : decode cX13_sealRsa 144 = .ok (.iload 5, 2) := by decide +kernel
theorem dX13_sealRsa_146 : decode cX13_sealRsa 146 = .ok (.bipush 33, 2) := by decide +kernel
theorem dX13_sealRsa_148 : decode cX13_sealRsa 148 = .ok (.isub, 1) := by decide +kernel
theorem dX13_sealRsa_149 : decode cX13_sealRsa 149 = .ok (.aload_n 0, 1) := by decide +kernel
theorem dX13_sealRsa_150 : decode cX13_sealRsa 150 = .ok (.getfield 195, 3) := by decide +kernel
theorem dX13_sealRsa_153 : decode cX13_sealRsa 153 = .ok (.iconst 1, 1) := by decide +kernel
theorem dX13_sealRsa_154 : decode cX13_sealRsa 154 = .ok (.bipush 32, 2) := by decide +kernel
theorem dX13_sealRsa_156 : decode cX13_sealRsa 156 = .ok (.invokevirtual 784, 3) := by decide +kernel
theorem dX13_sealRsa_159 : decode cX13_sealRsa 159 = .ok (.aload_n 0, 1) := by decide +kernel
theorem dX13_sealRsa_160 : decode cX13_sealRsa 160 = .ok (.aload_n 0, 1) := by decide +kernel
theorem dX13_sealRsa_161 : decode cX13_sealRsa 161 = .ok (.getfield 195, 3) := by decide +kernel
theorem dX13_sealRsa_164 : decode cX13_sealRsa 164 = .ok (.iconst 0, 1) := by decide +kernel
theorem dX13_sealRsa_165 : decode cX13_sealRsa 165 = .ok (.iload 5, 2) := by decide +kernel
theorem dX13_sealRsa_167 : decode cX13_sealRsa 167 = .ok (.aload_n 0, 1) := by decide +kernel
theorem dX13_sealRsa_168 : decode cX13_sealRsa 168 = .ok (.getfield 211, 3) := by decide +kernel
theorem dX13_sealRsa_171 : decode cX13_sealRsa 171 = .ok (.sipush 128, 3) := by decide +kernel
theorem dX13_sealRsa_174 : decode cX13_sealRsa 174 = .ok (.iload_n 1, 1) := by decide +kernel
theorem dX13_sealRsa_175 : decode cX13_sealRsa 175 = .ok (.imul, 1) := by decide +kernel
theorem dX13_sealRsa_176 : decode cX13_sealRsa 176 = .ok (.aload_n 0, 1) := by decide +kernel
theorem dX13_sealRsa_177 : decode cX13_sealRsa 177 = .ok (.getfield 214, 3) := by decide +kernel
theorem dX13_sealRsa_180 : decode cX13_sealRsa 180 = .ok (.iload_n 1, 1) := by decide +kernel
theorem dX13_sealRsa_181 : decode cX13_sealRsa 181 = .ok (.iaload, 1) := by decide +kernel
theorem dX13_sealRsa_182 : decode cX13_sealRsa 182 = .ok (.aload_n 0, 1) := by decide +kernel
theorem dX13_sealRsa_183 : decode cX13_sealRsa 183 = .ok (.getfield 205, 3) := by decide +kernel
theorem dX13_sealRsa_186 : decode cX13_sealRsa 186 = .ok (.sipush 128, 3) := by decide +kernel
theorem dX13_sealRsa_189 : decode cX13_sealRsa 189 = .ok (.iload_n 1, 1) := by decide +kernel
theorem dX13_sealRsa_190 : decode cX13_sealRsa 190 = .ok (.imul, 1) := by decide +kernel
theorem dX13_sealRsa_191 : decode cX13_sealRsa 191 = .ok (.iload 5, 2) := by decide +kernel
theorem dX13_sealRsa_193 : decode cX13_sealRsa 193 = .ok (.invokevirtual 709, 3) := by decide +kernel
theorem dX13_sealRsa_196 : decode cX13_sealRsa 196 = .ok (.aload_n 0, 1) := by decide +kernel
theorem dX13_sealRsa_197 : decode cX13_sealRsa 197 = .ok (.getfield 138, 3) := by decide +kernel
theorem dX13_sealRsa_200 : decode cX13_sealRsa 200 = .ok (.iconst 0, 1) := by decide +kernel
theorem dX13_sealRsa_201 : decode cX13_sealRsa 201 = .ok (.aload_n 0, 1) := by decide +kernel
theorem dX13_sealRsa_202 : decode cX13_sealRsa 202 = .ok (.getfield 291, 3) := by decide +kernel
theorem dX13_sealRsa_205 : decode cX13_sealRsa 205 = .ok (.iconst 0, 1) := by decide +kernel
theorem dX13_sealRsa_206 : decode cX13_sealRsa 206 = .ok (.iload 5, 2) := by decide +kernel
theorem dX13_sealRsa_208 : decode cX13_sealRsa 208 = .ok (.invokestatic 317, 3) := by decide +kernel
theorem dX13_sealRsa_211 : decode cX13_sealRsa 211 = .ok (.aload_n 0, 1) := by decide +kernel
theorem dX13_sealRsa_212 : decode cX13_sealRsa 212 = .ok (.iload 5, 2) := by decide +kernel
theorem dX13_sealRsa_214 : decode cX13_sealRsa 214 = .ok (.putfield 1038, 3) := by decide +kernel
theorem dX13_sealRsa_217 : decode cX13_sealRsa 217 = .ok (.return_, 1) := by decide +kernel
abbrev rmX13_sealRsa : Room := { frames := 6, cells := 0, slots := 0, locals := 145 }
set_option maxHeartbeats 4000000 in
set_option maxRecDepth 100000 in
theorem wB_X13_sealRsa_61 {G : mG} {F : Nat} {x : mXT} {sz : Nat} {M0 : mM} (X : mCX G RX13 cX13_sealRsa 8 none "sealRsa" rmX13_sealRsa x) (hQ : mQV x M0 (sz, 0, 0)) : ∀ (n : Nat) (l0 : Nat) (l1 : Int32) (l2 : Int32) (l5 : Int32) (l7 : Int32) (M : mM), B_X13_sealRsa_61 G F n l0 l1 l2 l5 l7 M = some M0 → WW x (sz, 0, 0) M 61 [(0, .ref l0), (1, .int l1), (2, .int l2), (5, .int l5), (7, .int l7)] [] := by
  intro n
  induction n with
  | zero =>
    intro l0 l1 l2 l5 l7 M h
    exact nomatch (show (none : Option mM) = some M0 from h)
  | succ n ih =>
    intro l0 l1 l2 l5 l7 M h
    rw [B_X13_sealRsa_61] at h
    refine ww_iload 61 X dX13_sealRsa_61 4 rfl ?_
    refine ww_iload 63 X dX13_sealRsa_63 3 rfl ?_
    refine ww_iload_n 65 X dX13_sealRsa_65 2 rfl rfl ?_
    refine ww_isub 66 X dX13_sealRsa_66 ?_
    refine ww_iconst 67 X (v := (1 : Int32)) dX13_sealRsa_67 (by decide) ?_
    refine ww_isub 68 X dX13_sealRsa_68 ?_
    refine ww_icmp_ge 69 86 X dX13_sealRsa_69 (by decide) (fun q => ?_) (fun q => ?_)
    · replace h := (if_pos q).symm.trans h
      refine ww_aload_n 86 X dX13_sealRsa_86 0 rfl rfl ?_
      obtain ⟨v87, e87, h⟩ := bO_some h
      refine ww_getR 87 X dX13_sealRsa_87 fG_X13_195 e87 ?_
      refine ww_iload 90 X dX13_sealRsa_90 3 rfl ?_
      refine ww_iload_n 92 X dX13_sealRsa_92 2 rfl rfl ?_
      refine ww_isub 93 X dX13_sealRsa_93 ?_
      refine ww_iconst 94 X (v := (1 : Int32)) dX13_sealRsa_94 (by decide) ?_
      refine ww_isub 95 X dX13_sealRsa_95 ?_
      refine ww_iconst 96 X (v := (1 : Int32)) dX13_sealRsa_96 (by decide) ?_
      obtain ⟨M97, e97, h⟩ := bO_some h
      refine ww_bast 97 X dX13_sealRsa_97 e97 ?_
      refine ww_aload_n 98 X dX13_sealRsa_98 0 rfl rfl ?_
      obtain ⟨v99, e99, h⟩ := bO_some h
      refine ww_getR 99 X dX13_sealRsa_99 fG_X13_288 e99 ?_
      refine ww_iconst 102 X (v := (0 : Int32)) dX13_sealRsa_102 (by decide) ?_
      refine ww_aload_n 103 X dX13_sealRsa_103 0 rfl rfl ?_
      obtain ⟨v104, e104, h⟩ := bO_some h
      refine ww_getR 104 X dX13_sealRsa_104 fG_X13_195 e104 ?_
      refine ww_iload 107 X dX13_sealRsa_107 3 rfl ?_
      refine ww_iload_n 109 X dX13_sealRsa_109 2 rfl rfl ?_
      refine ww_isub 110 X dX13_sealRsa_110 ?_
      refine ww_iload_n 111 X dX13_sealRsa_111 2 rfl rfl ?_
      obtain ⟨M112, e112, h⟩ := bO_some h
      refine ww_callSV0 112 X dX13_sealRsa_112 mY_X13_move mL_X13_317 (As := [.ref v99, .int (0 : Int32), .ref v104, .int (l5 - l2), .int l2]) (rest := []) rfl rfl ⟨Nat.le_of_ble_eq_true rfl, Nat.le_of_ble_eq_true rfl⟩ (Nat.le_of_ble_eq_true rfl) (fun l D A => c_X13_move l D A e112) ?_
      refine ww_aload_n 115 X dX13_sealRsa_115 0 rfl rfl ?_
      refine ww_aload_n 116 X dX13_sealRsa_116 0 rfl rfl ?_
      obtain ⟨v117, e117, h⟩ := bO_some h
      refine ww_getR 117 X dX13_sealRsa_117 fG_X13_195 e117 ?_
      refine ww_iconst 120 X (v := (1 : Int32)) dX13_sealRsa_120 (by decide) ?_
      refine ww_bipush 121 X (v := (32 : Int32)) dX13_sealRsa_121 (by decide) ?_
      refine ww_aload_n 123 X dX13_sealRsa_123 0 rfl rfl ?_
      obtain ⟨v124, e124, h⟩ := bO_some h
      refine ww_getR 124 X dX13_sealRsa_124 fG_X13_195 e124 ?_
      refine ww_bipush 127 X (v := (33 : Int32)) dX13_sealRsa_127 (by decide) ?_
      refine ww_iload 129 X dX13_sealRsa_129 3 rfl ?_
      refine ww_bipush 131 X (v := (33 : Int32)) dX13_sealRsa_131 (by decide) ?_
      refine ww_isub 133 X dX13_sealRsa_133 ?_
      obtain ⟨_, f134, h⟩ := bO_some h
      obtain ⟨M134, e134, h⟩ := bO_some h
      refine ww_callVV0 134 X dX13_sealRsa_134 mY_X13_maskOn mL_X13_784 (rcv_spec f134) ⟨_, _, rfl⟩ (by decide) (As := [.ref v117, .int (1 : Int32), .int (32 : Int32), .ref v124, .int (33 : Int32), .int (l5 - (33 : Int32))]) (rest := []) rfl rfl ⟨Nat.le_of_ble_eq_true rfl, Nat.le_of_ble_eq_true rfl⟩ (Nat.le_of_ble_eq_true rfl) (fun l D A => c_X13_maskOn l D A e134) ?_
      refine ww_aload_n 137 X dX13_sealRsa_137 0 rfl rfl ?_
      refine ww_aload_n 138 X dX13_sealRsa_138 0 rfl rfl ?_
      obtain ⟨v139, e139, h⟩ := bO_some h
      refine ww_getR 139 X dX13_sealRsa_139 fG_X13_195 e139 ?_
      refine ww_bipush 142 X (v := (33 : Int32)) dX13_sealRsa_142 (by decide) ?_
      refine ww_iload 144 X dX13_sealRsa_144 3 rfl ?_
      refine ww_bipush 146 X (v := (33 : Int32)) dX13_sealRsa_146 (by decide) ?_
      refine ww_isub 148 X dX13_sealRsa_148 ?_
      refine ww_aload_n 149 X dX13_sealRsa_149 0 rfl rfl ?_
      obtain ⟨v150, e150, h⟩ := bO_some h
      refine ww_getR 150 X dX13_sealRsa_150 fG_X13_195 e150 ?_
      refine ww_iconst 153 X (v := (1 : Int32)) dX13_sealRsa_153 (by decide) ?_
      refine ww_bipush 154 X (v := (32 : Int32)) dX13_sealRsa_154 (by decide) ?_
      obtain ⟨_, f156, h⟩ := bO_some h
      obtain ⟨M156, e156, h⟩ := bO_some h
      refine ww_callVV0 156 X dX13_sealRsa_156 mY_X13_maskOn mL_X13_784 (rcv_spec f156) ⟨_, _, rfl⟩ (by decide) (As := [.ref v139, .int (33 : Int32), .int (l5 - (33 : Int32)), .ref v150, .int (1 : Int32), .int (32 : Int32)]) (rest := []) rfl rfl ⟨Nat.le_of_ble_eq_true rfl, Nat.le_of_ble_eq_true rfl⟩ (Nat.le_of_ble_eq_true rfl) (fun l D A => c_X13_maskOn l D A e156) ?_
      refine ww_aload_n 159 X dX13_sealRsa_159 0 rfl rfl ?_
      refine ww_aload_n 160 X dX13_sealRsa_160 0 rfl rfl ?_
      obtain ⟨v161, e161, h⟩ := bO_some h
      refine ww_getR 161 X dX13_sealRsa_161 fG_X13_195 e161 ?_
      refine ww_iconst 164 X (v := (0 : Int32)) dX13_sealRsa_164 (by decide) ?_
      refine ww_iload 165 X dX13_sealRsa_165 3 rfl ?_
      refine ww_aload_n 167 X dX13_sealRsa_167 0 rfl rfl ?_
      obtain ⟨v168, e168, h⟩ := bO_some h
      refine ww_getR 168 X dX13_sealRsa_168 fG_X13_211 e168 ?_
      refine ww_sipush 171 X (v := (128 : Int32)) dX13_sealRsa_171 (by decide) ?_
      refine ww_iload_n 174 X dX13_sealRsa_174 1 rfl rfl ?_
      refine ww_imul 175 X dX13_sealRsa_175 ?_
      refine ww_aload_n 176 X dX13_sealRsa_176 0 rfl rfl ?_
      obtain ⟨v177, e177, h⟩ := bO_some h
      refine ww_getR 177 X dX13_sealRsa_177 fG_X13_214 e177 ?_
      refine ww_iload_n 180 X dX13_sealRsa_180 1 rfl rfl ?_
      obtain ⟨v181, e181, h⟩ := bO_some h
      refine ww_iald 181 X dX13_sealRsa_181 e181 ?_
      refine ww_aload_n 182 X dX13_sealRsa_182 0 rfl rfl ?_
      obtain ⟨v183, e183, h⟩ := bO_some h
      refine ww_getR 183 X dX13_sealRsa_183 fG_X13_205 e183 ?_
      refine ww_sipush 186 X (v := (128 : Int32)) dX13_sealRsa_186 (by decide) ?_
      refine ww_iload_n 189 X dX13_sealRsa_189 1 rfl rfl ?_
      refine ww_imul 190 X dX13_sealRsa_190 ?_
      refine ww_iload 191 X dX13_sealRsa_191 3 rfl ?_
      obtain ⟨_, f193, h⟩ := bO_some h
      obtain ⟨M193, e193, h⟩ := bO_some h
      refine ww_callVV0 193 X dX13_sealRsa_193 mY_X13_raise mL_X13_709 (rcv_spec f193) ⟨_, _, rfl⟩ (by decide) (As := [.ref v161, .int (0 : Int32), .int l5, .ref v168, .int ((128 : Int32) * l1), .int v181, .ref v183, .int ((128 : Int32) * l1), .int l5]) (rest := []) rfl rfl ⟨Nat.le_of_ble_eq_true rfl, Nat.le_of_ble_eq_true rfl⟩ (Nat.le_of_ble_eq_true rfl) (fun l D A => c_X13_raise l D A e193) ?_
      refine ww_aload_n 196 X dX13_sealRsa_196 0 rfl rfl ?_
      obtain ⟨v197, e197, h⟩ := bO_some h
      refine ww_getR 197 X dX13_sealRsa_197 fG_X13_138 e197 ?_
      refine ww_iconst 200 X (v := (0 : Int32)) dX13_sealRsa_200 (by decide) ?_
      refine ww_aload_n 201 X dX13_sealRsa_201 0 rfl rfl ?_
      obtain ⟨v202, e202, h⟩ := bO_some h
      refine ww_getR 202 X dX13_sealRsa_202 fG_X13_291 e202 ?_
      refine ww_iconst 205 X (v := (0 : Int32)) dX13_sealRsa_205 (by decide) ?_
      refine ww_iload 206 X dX13_sealRsa_206 3 rfl ?_
      obtain ⟨M208, e208, h⟩ := bO_some h
      refine ww_callSV0 208 X dX13_sealRsa_208 mY_X13_move mL_X13_317 (As := [.ref v197, .int (0 : Int32), .ref v202, .int (0 : Int32), .int l5]) (rest := []) rfl rfl ⟨Nat.le_of_ble_eq_true rfl, Nat.le_of_ble_eq_true rfl⟩ (Nat.le_of_ble_eq_true rfl) (fun l D A => c_X13_move l D A e208) ?_
      refine ww_aload_n 211 X dX13_sealRsa_211 0 rfl rfl ?_
      refine ww_iload 212 X dX13_sealRsa_212 3 rfl ?_
      obtain ⟨M214, e214, h⟩ := bO_some h
      refine ww_putI 214 X dX13_sealRsa_214 (fP_X13_1038 _) e214 ?_
      exact ww_vretE 217 X hQ dX13_sealRsa_217 h
    · replace h := (if_neg q).symm.trans h
      refine ww_aload_n 72 X dX13_sealRsa_72 0 rfl rfl ?_
      obtain ⟨v73, e73, h⟩ := bO_some h
      refine ww_getR 73 X dX13_sealRsa_73 fG_X13_195 e73 ?_
      refine ww_iload 76 X dX13_sealRsa_76 4 rfl ?_
      refine ww_iconst 78 X (v := (0 : Int32)) dX13_sealRsa_78 (by decide) ?_
      obtain ⟨M79, e79, h⟩ := bO_some h
      refine ww_bast 79 X dX13_sealRsa_79 e79 ?_
      refine ww_iinc 80 X dX13_sealRsa_80 (lv' := [(0, .ref l0), (1, .int l1), (2, .int l2), (5, .int l5), (7, .int (l7 + 1))]) 4 rfl rfl (by decide) [1, 2, 3, 4, 0] rfl ?_
      refine ww_goto 83 61 X dX13_sealRsa_83 (by decide) ?_
      exact (ih _ _ _ _ _ _ h)
set_option maxHeartbeats 4000000 in
set_option maxRecDepth 100000 in
theorem wP_X13_sealRsa {G : mG} {F : Nat} {x : mXT} {sz : Nat} {M0 : mM} (X : mCX G RX13 cX13_sealRsa 8 none "sealRsa" rmX13_sealRsa x) (hQ : mQV x M0 (sz, 0, 0)) {l0 : Nat} {l1 : Int32} {l2 : Int32} {l3 : Nat} {l4 : Int32} {M : mM} (h : P_X13_sealRsa G F l0 l1 l2 l3 l4 M = some M0) : WW x (sz, 0, 0) M 0 [(0, .ref l0), (1, .int l1), (2, .int l2), (3, .ref l3), (4, .int l4)] [] := by
  unfold P_X13_sealRsa at h
  refine ww_aload_n 0 X dX13_sealRsa_0 0 rfl rfl ?_
  obtain ⟨v1, e1, h⟩ := bO_some h
  refine ww_getR 1 X dX13_sealRsa_1 fG_X13_208 e1 ?_
  refine ww_iload_n 4 X dX13_sealRsa_4 1 rfl rfl ?_
  obtain ⟨v5, e5, h⟩ := bO_some h
  refine ww_iald 5 X dX13_sealRsa_5 e5 ?_
  refine ww_istore 6 X dX13_sealRsa_6 (lv' := [(0, .ref l0), (1, .int l1), (2, .int l2), (3, .ref l3), (4, .int l4), (5, .int v5)]) (by decide) [1, 2, 3, 4, 5, 0] rfl ?_
  refine ww_aload_n 8 X dX13_sealRsa_8 0 rfl rfl ?_
  obtain ⟨_, f9, h⟩ := bO_some h
  obtain ⟨M9, e9, h⟩ := bO_some h
  refine ww_callVV0 9 X dX13_sealRsa_9 mY_X13_empty mL_X13_570 (rcv_spec f9) ⟨_, _, rfl⟩ (by decide) (As := []) (rest := []) rfl rfl ⟨Nat.le_of_ble_eq_true rfl, Nat.le_of_ble_eq_true rfl⟩ (Nat.le_of_ble_eq_true rfl) (fun l D A => c_X13_empty l D A e9) ?_
  refine ww_aload_n 12 X dX13_sealRsa_12 0 rfl rfl ?_
  refine ww_sipush 13 X (v := (256 : Int32)) dX13_sealRsa_13 (by decide) ?_
  obtain ⟨_, f16, h⟩ := bO_some h
  obtain ⟨v16, M16, e16, h⟩ := bP_some h
  refine ww_callVI0 16 X dX13_sealRsa_16 mY_X13_digestOf mL_X13_576 (rcv_spec f16) ⟨_, _, rfl⟩ (by decide) (As := [.int (256 : Int32)]) (rest := []) rfl rfl ⟨Nat.le_of_ble_eq_true rfl, Nat.le_of_ble_eq_true rfl⟩ (Nat.le_of_ble_eq_true rfl) (fun l D A => c_X13_digestOf l D A e16) ?_
  refine ww_istore 19 X dX13_sealRsa_19 (lv' := [(0, .ref l0), (1, .int l1), (2, .int l2), (3, .ref l3), (4, .int l4), (5, .int v5), (6, .int v16)]) (by decide) [1, 2, 3, 4, 5, 6, 0] rfl ?_
  refine ww_aload_n 21 X dX13_sealRsa_21 0 rfl rfl ?_
  obtain ⟨v22, e22, h⟩ := bO_some h
  refine ww_getR 22 X dX13_sealRsa_22 fG_X13_195 e22 ?_
  refine ww_iconst 25 X (v := (0 : Int32)) dX13_sealRsa_25 (by decide) ?_
  refine ww_iconst 26 X (v := (0 : Int32)) dX13_sealRsa_26 (by decide) ?_
  obtain ⟨M27, e27, h⟩ := bO_some h
  refine ww_bast 27 X dX13_sealRsa_27 e27 ?_
  refine ww_aload_n 28 X dX13_sealRsa_28 3 rfl rfl ?_
  refine ww_iload 29 X dX13_sealRsa_29 4 rfl ?_
  refine ww_aload_n 31 X dX13_sealRsa_31 0 rfl rfl ?_
  obtain ⟨v32, e32, h⟩ := bO_some h
  refine ww_getR 32 X dX13_sealRsa_32 fG_X13_195 e32 ?_
  refine ww_iconst 35 X (v := (1 : Int32)) dX13_sealRsa_35 (by decide) ?_
  refine ww_bipush 36 X (v := (32 : Int32)) dX13_sealRsa_36 (by decide) ?_
  obtain ⟨M38, e38, h⟩ := bO_some h
  refine ww_callSV0 38 X dX13_sealRsa_38 mY_X13_move mL_X13_317 (As := [.ref l3, .int l4, .ref v32, .int (1 : Int32), .int (32 : Int32)]) (rest := []) rfl rfl ⟨Nat.le_of_ble_eq_true rfl, Nat.le_of_ble_eq_true rfl⟩ (Nat.le_of_ble_eq_true rfl) (fun l D A => c_X13_move l D A e38) ?_
  refine ww_aload_n 41 X dX13_sealRsa_41 0 rfl rfl ?_
  obtain ⟨v42, e42, h⟩ := bO_some h
  refine ww_getR 42 X dX13_sealRsa_42 fG_X13_76 e42 ?_
  refine ww_iconst 45 X (v := (0 : Int32)) dX13_sealRsa_45 (by decide) ?_
  refine ww_aload_n 46 X dX13_sealRsa_46 0 rfl rfl ?_
  obtain ⟨v47, e47, h⟩ := bO_some h
  refine ww_getR 47 X dX13_sealRsa_47 fG_X13_195 e47 ?_
  refine ww_bipush 50 X (v := (33 : Int32)) dX13_sealRsa_50 (by decide) ?_
  refine ww_bipush 52 X (v := (32 : Int32)) dX13_sealRsa_52 (by decide) ?_
  obtain ⟨M54, e54, h⟩ := bO_some h
  refine ww_callSV0 54 X dX13_sealRsa_54 mY_X13_move mL_X13_317 (As := [.ref v42, .int (0 : Int32), .ref v47, .int (33 : Int32), .int (32 : Int32)]) (rest := []) rfl rfl ⟨Nat.le_of_ble_eq_true rfl, Nat.le_of_ble_eq_true rfl⟩ (Nat.le_of_ble_eq_true rfl) (fun l D A => c_X13_move l D A e54) ?_
  refine ww_bipush 57 X (v := (65 : Int32)) dX13_sealRsa_57 (by decide) ?_
  refine ww_istore 59 X dX13_sealRsa_59 (lv' := [(0, .ref l0), (1, .int l1), (2, .int l2), (3, .ref l3), (4, .int l4), (5, .int v5), (6, .int v16), (7, .int (65 : Int32))]) (by decide) [1, 2, 3, 4, 5, 6, 7, 0] rfl ?_
  exact ww_sub [0, 1, 2, 5, 7] rfl (wB_X13_sealRsa_61 X hQ F _ _ _ _ _ _ h)
theorem c_X13_sealRsa {G : mG} {F sz : Nat} {M0 : mM} (l : Launch) (D : mD) (A : Nat → Prop) {l0 : Nat} {l1 : Int32} {l2 : Int32} {l3 : Nat} {l4 : Int32} {M : mM} (h : P_X13_sealRsa G F l0 l1 l2 l3 l4 M = some M0) : mMetV l D G A yX13_sealRsa cX13_sealRsa 8 none 6 145 0 0 [.ref l0, .int l1, .int l2, .ref l3, .int l4] M sz M0 sz := mMetV_of l D G A (by decide) (Nat.le_of_ble_eq_true rfl) (fun x X hQ => wP_X13_sealRsa X hQ h)
/-! SealedTokensModel.openRsa(I)I -/
theorem dX13_openRsa_0 : decode cX13_openRsa 0 = .ok (.aload_n 0, 1) := by decide +kernel
theorem dX13_openRsa_1 : decode cX13_openRsa 1 = .ok (.getfield 208, 3) := by decide +kernel
theorem dX13_openRsa_4 : decode cX13_openRsa 4 = .ok (.iload_n 1, 1) := by decide +kernel
theorem dX13_openRsa_5 : decode cX13_openRsa 5 = .ok (.iaload, 1) := by decide +kernel
theorem dX13_openRsa_6 : decode cX13_openRsa 6 = .ok (.istore_n 2, 1) := by decide +kernel
theorem dX13_openRsa_7 : decode cX13_openRsa 7 = .ok (.aload_n 0, 1) := by decide +kernel
theorem dX13_openRsa_8 : decode cX13_openRsa 8 = .ok (.getfield 1038, 3) := by decide +kernel
theorem dX13_openRsa_11 : decode cX13_openRsa 11 = .ok (.iload_n 2, 1) := by decide +kernel
theorem dX13_openRsa_12 : decode cX13_openRsa 12 = .ok (.if_icmp .ne 16, 3) := by decide +kernel
theorem dX13_openRsa_15 : decode cX13_openRsa 15 = .ok (.aload_n 0, 1) := by decide +kernel
theorem dX13_openRsa_16 : decode cX13_openRsa 16 = .ok (.aload_n 0, 1) := by decide +kernel
theorem dX13_openRsa_17 : decode cX13_openRsa 17 = .ok (.getfield 291, 3) := by decide +kernel
theorem dX13_openRsa_20 : decode cX13_openRsa 20 = .ok (.iconst 0, 1) := by decide +kernel
theorem dX13_openRsa_21 : decode cX13_openRsa 21 = .ok (.iload_n 1, 1) := by decide +kernel
theorem dX13_openRsa_22 : decode cX13_openRsa 22 = .ok (.invokevirtual 976, 3) := by decide +kernel
theorem dX13_openRsa_25 : decode cX13_openRsa 25 = .ok (.ifCond .ne 5, 3) := by decide +kernel
theorem dX13_openRsa_28 : decode cX13_openRsa 28 = .ok (.iconst (-1), 1) := by decide +kernel
theorem dX13_openRsa_29 : decode cX13_openRsa 29 = .ok (.ireturn, 1) := by decide +kernel
theorem dX13_openRsa_30 : decode cX13_openRsa 30 = .ok (.aload_n 0, 1) := by decide +kernel
theorem dX13_openRsa_31 : decode cX13_openRsa 31 = .ok (.aload_n 0, 1) := by decide +kernel
theorem dX13_openRsa_32 : decode cX13_openRsa 32 = .ok (.getfield 291, 3) := by decide +kernel
theorem dX13_openRsa_35 : decode cX13_openRsa 35 = .ok (.iconst 0, 1) := by decide +kernel
theorem dX13_openRsa_36 : decode cX13_openRsa 36 = .ok (.iload_n 2, 1) := by decide +kernel
theorem dX13_openRsa_37 : decode cX13_openRsa 37 = .ok (.aload_n 0, 1) := by decide +kernel
theorem dX13_openRsa_38 : decode cX13_openRsa 38 = .ok (.getfield 217, 3) := by decide +kernel
theorem dX13_openRsa_41 : decode cX13_openRsa 41 = .ok (.sipush 128, 3) := by decide +kernel
theorem dX13_openRsa_44 : decode cX13_openRsa 44 = .ok (.iload_n 1, 1) := by decide +kernel
theorem dX13_openRsa_45 : decode cX13_openRsa 45 = .ok (.imul, 1) := by decide +kernel
theorem dX13_openRsa_46 : decode cX13_openRsa 46 = .ok (.aload_n 0, 1) := by decide +kernel
theorem dX13_openRsa_47 : decode cX13_openRsa 47 = .ok (.getfield 220, 3) := by decide +kernel
theorem dX13_openRsa_50 : decode cX13_openRsa 50 = .ok (.iload_n 1, 1) := by decide +kernel
theorem dX13_openRsa_51 : decode cX13_openRsa 51 = .ok (.iaload, 1) := by decide +kernel
theorem dX13_openRsa_52 : decode cX13_openRsa 52 = .ok (.aload_n 0, 1) := by decide +kernel
theorem dX13_openRsa_53 : decode cX13_openRsa 53 = .ok (.getfield 205, 3) := by decide +kernel
theorem dX13_openRsa_56 : decode cX13_openRsa 56 = .ok (.sipush 128, 3) := by decide +kernel
theorem dX13_openRsa_59 : decode cX13_openRsa 59 = .ok (.iload_n 1, 1) := by decide +kernel
theorem dX13_openRsa_60 : decode cX13_openRsa 60 = .ok (.imul, 1) := by decide +kernel
theorem dX13_openRsa_61 : decode cX13_openRsa 61 = .ok (.iload_n 2, 1) := by decide +kernel
theorem dX13_openRsa_62 : decode cX13_openRsa 62 = .ok (.invokevirtual 709, 3) := by decide +kernel
theorem dX13_openRsa_65 : decode cX13_openRsa 65 = .ok (.aload_n 0, 1) := by decide +kernel
theorem dX13_openRsa_66 : decode cX13_openRsa 66 = .ok (.getfield 138, 3) := by decide +kernel
theorem dX13_openRsa_69 : decode cX13_openRsa 69 = .ok (.iconst 0, 1) := by decide +kernel
theorem dX13_openRsa_70 : decode cX13_openRsa 70 = .ok (.aload_n 0, 1) := by decide +kernel
theorem dX13_openRsa_71 : decode cX13_openRsa 71 = .ok (.getfield 195, 3) := by decide +kernel
theorem dX13_openRsa_74 : decode cX13_openRsa 74 = .ok (.iconst 0, 1) := by decide +kernel
theorem dX13_openRsa_75 : decode cX13_openRsa 75 = .ok (.iload_n 2, 1) := by decide +kernel
theorem dX13_openRsa_76 : decode cX13_openRsa 76 = .ok (.invokestatic 317, 3) := by decide +kernel
theorem dX13_openRsa_79 : decode cX13_openRsa 79 = .ok (.aload_n 0, 1) := by decide +kernel
theorem dX13_openRsa_80 : decode cX13_openRsa 80 = .ok (.aload_n 0, 1) := by decide +kernel
theorem dX13_openRsa_81 : decode cX13_openRsa 81 = .ok (.getfield 195, 3) := by decide +kernel
theorem dX13_openRsa_84 : decode cX13_openRsa 84 = .ok (.bipush 33, 2) := by decide +kernel
theorem dX13_openRsa_86 : decode cX13_openRsa 86 = .ok (.iload_n 2, 1) := by decide +kernel
theorem dX13_openRsa_87 : decode cX13_openRsa 87 = .ok (.bipush 33, 2) := by decide +kernel
theorem dX13_openRsa_89 : decode cX13_openRsa 89 = .ok (.isub, 1) := by decide +kernel
theorem dX13_openRsa_90 : decode cX13_openRsa 90 = .ok (.aload_n 0, 1) := by decide +kernel
theorem dX13_openRsa_91 : decode cX13_openRsa 91 = .ok (.getfield 195, 3) := by decide +kernel
theorem dX13_openRsa_94 : decode cX13_openRsa 94 = .ok (.iconst 1, 1) := by decide +kernel
theorem dX13_openRsa_95 : decode cX13_openRsa 95 = .ok (.bipush 32, 2) := by decide +kernel
theorem dX13_openRsa_97 : decode cX13_openRsa 97 = .ok (.invokevirtual 784, 3) := by decide +kernel
theorem dX13_openRsa_100 : decode cX13_openRsa 100 = .ok (.aload_n 0, 1) := by decide +kernel
theorem dX13_openRsa_101 : decode cX13_openRsa 101 = .ok (.aload_n 0, 1) := by decide +kernel
theorem dX13_openRsa_102 : decode cX13_openRsa 102 = .ok (.getfield 195, 3) := by decide +kernel
theorem dX13_openRsa_105 : decode cX13_openRsa 105 = .ok (.iconst 1, 1) := by decide +kernel
theorem dX13_openRsa_106 : decode cX13_openRsa 106 = .ok (.bipush 32, 2) := by decide +kernel
theorem dX13_openRsa_108 : decode cX13_openRsa 108 = .ok (.aload_n 0, 1) := by decide +kernel
theorem dX13_openRsa_109 : decode cX13_openRsa 109 = .ok (.getfield 195, 3) := by decide +kernel
theorem dX13_openRsa_112 : decode cX13_openRsa 112 = .ok (.bipush 33, 2) := by decide +kernel
theorem dX13_openRsa_114 : decode cX13_openRsa 114 = .ok (.iload_n 2, 1) := by decide +kernel
theorem dX13_openRsa_115 : decode cX13_openRsa 115 = .ok (.bipush 33, 2) := by decide +kernel
theorem dX13_openRsa_117 : decode cX13_openRsa 117 = .ok (.isub, 1) := by decide +kernel
theorem dX13_openRsa_118 : decode cX13_openRsa 118 = .ok (.invokevirtual 784, 3) := by decide +kernel
theorem dX13_openRsa_121 : decode cX13_openRsa 121 = .ok (.aload_n 0, 1) := by decide +kernel
theorem dX13_openRsa_122 : decode cX13_openRsa 122 = .ok (.invokevirtual 570, 3) := by decide +kernel
theorem dX13_openRsa_125 : decode cX13_openRsa 125 = .ok (.aload_n 0, 1) := by decide +kernel
theorem dX13_openRsa_126 : decode cX13_openRsa 126 = .ok (.sipush 256, 3) := by decide +kernel
theorem dX13_openRsa_129 : decode cX13_openRsa 129 = .ok (.invokevirtual 576, 3) := by decide +kernel
theorem dX13_openRsa_132 : decode cX13_openRsa 132 = .ok (.istore_n 3, 1) := by decide +kernel
theorem dX13_openRsa_133 : decode cX13_openRsa 133 = .ok (.aload_n 0, 1) := by decide +kernel
theorem dX13_openRsa_134 : decode cX13_openRsa 134 = .ok (.getfield 195, 3) := by decide +kernel
theorem dX13_openRsa_137 : decode cX13_openRsa 137 = .ok (.iconst 0, 1) := by decide +kernel
theorem dX13_openRsa_138 : decode cX13_openRsa 138 = .ok (.baload, 1) := by decide +kernel
theorem dX13_openRsa_139 : decode cX13_openRsa 139 = .ok (.ifCond .ne 26, 3) := by decide +kernel
theorem dX13_openRsa_142 : decode cX13_openRsa 142 = .ok (.aload_n 0, 1) := by decide +kernel
theorem dX13_openRsa_143 : decode cX13_openRsa 143 = .ok (.getfield 76, 3) := by decide +kernel
theorem dX13_openRsa_146 : decode cX13_openRsa 146 = .ok (.iconst 0, 1) := by decide +kernel
theorem dX13_openRsa_147 : decode cX13_openRsa 147 = .ok (.aload_n 0, 1) := by decide +kernel
theorem dX13_openRsa_148 : decode cX13_openRsa 148 = .ok (.getfield 195, 3) := by decide +kernel
theorem dX13_openRsa_151 : decode cX13_openRsa 151 = .ok (.bipush 33, 2) := by decide +kernel
theorem dX13_openRsa_153 : decode cX13_openRsa 153 = .ok (.bipush 32, 2) := by decide +kernel
theorem dX13_openRsa_155 : decode cX13_openRsa 155 = .ok (.invokestatic 420, 3) := by decide +kernel
theorem dX13_openRsa_158 : decode cX13_openRsa 158 = .ok (.ifCond .eq 7, 3) := by decide +kernel
theorem dX13_openRsa_161 : decode cX13_openRsa 161 = .ok (.iconst 1, 1) := by decide +kernel
theorem dX13_openRsa_162 : decode cX13_openRsa 162 = .ok (.goto 4, 3) := by decide +kernel
theorem dX13_openRsa_165 : decode cX13_openRsa 165 = .ok (.iconst 0, 1) := by decide +kernel
theorem dX13_openRsa_166 : decode cX13_openRsa 166 = .ok (.istore 4, 2) := by decide +kernel
theorem dX13_openRsa_168 : decode cX13_openRsa 168 = .ok (.bipush 65, 2) := by decide +kernel
theorem dX13_openRsa_170 : decode cX13_openRsa 170 = .ok (.istore 5, 2) := by decide +kernel
theorem dX13_openRsa_172 : decode cX13_openRsa 172 = .ok (.iload 5, 2) := by decide +kernel
theorem dX13_openRsa_174 : decode cX13_openRsa 174 = .ok (.iload_n 2, 1) := by decide +kernel
theorem dX13_openRsa_175 : decode cX13_openRsa 175 = .ok (.if_icmp .ge 19, 3) := by decide +kernel
theorem dX13_openRsa_178 : decode cX13_openRsa 178 = .ok (.aload_n 0, 1) := by decide +kernel
theorem dX13_openRsa_179 : decode cX13_openRsa 179 = .ok (.getfield 195, 3) := by decide +kernel
theorem dX13_openRsa_182 : decode cX13_openRsa 182 = .ok (.iload 5, 2) := by decide +kernel
theorem dX13_openRsa_184 : decode cX13_openRsa 184 = .ok (.baload, 1) := by decide +kernel
theorem dX13_openRsa_185 : decode cX13_openRsa 185 = .ok (.ifCond .ne 9, 3) := by decide +kernel
theorem dX13_openRsa_188 : decode cX13_openRsa 188 = .ok (.iinc 5 1, 3) := by decide +kernel
theorem dX13_openRsa_191 : decode cX13_openRsa 191 = .ok (.goto (-19), 3) := by decide +kernel
theorem dX13_openRsa_194 : decode cX13_openRsa 194 = .ok (.iload 4, 2) := by decide +kernel
theorem dX13_openRsa_196 : decode cX13_openRsa 196 = .ok (.ifCond .eq 35, 3) := by decide +kernel
theorem dX13_openRsa_199 : decode cX13_openRsa 199 = .ok (.iload 5, 2) := by decide +kernel
theorem dX13_openRsa_201 : decode cX13_openRsa 201 = .ok (.iload_n 2, 1) := by decide +kernel
theorem dX13_openRsa_202 : decode cX13_openRsa 202 = .ok (.if_icmp .ge 29, 3) := by decide +kernel
theorem dX13_openRsa_205 : decode cX13_openRsa 205 = .ok (.aload_n 0, 1) := by decide +kernel
theorem dX13_openRsa_206 : decode cX13_openRsa 206 = .ok (.getfield 195, 3) := by decide +kernel
theorem dX13_openRsa_209 : decode cX13_openRsa 209 = .ok (.iload 5, 2) := by decide +kernel
theorem dX13_openRsa_211 : decode cX13_openRsa 211 = .ok (.baload, 1) := by decide +kernel
theorem dX13_openRsa_212 : decode cX13_openRsa 212 = .ok (.iconst 1, 1) := by decide +kernel
theorem dX13_openRsa_213 : decode cX13_openRsa 213 = .ok (.if_icmp .ne 18, 3) := by decide +kernel
theorem dX13_openRsa_216 : decode cX13_openRsa 216 = .ok (.iload_n 2, 1) := by decide +kernel
theorem dX13_openRsa_217 : decode cX13_openRsa 217 = .ok (.iload 5, 2) := by decide +kernel
theorem dX13_openRsa_219 : decode cX13_openRsa 219 = .ok (.isub, 1) := by decide +kernel
theorem dX13_openRsa_220 : decode cX13_openRsa 220 = .ok (.iconst 1, 1) := by decide +kernel
theorem dX13_openRsa_221 : decode cX13_openRsa 221 = .ok (.isub, 1) := by decide +kernel
theorem dX13_openRsa_222 : decode cX13_openRsa 222 = .ok (.bipush 64, 2) := by decide +kernel
theorem dX13_openRsa_224 : decode cX13_openRsa 224 = .ok (.if_icmp .gt 7, 3) := by decide +kernel
theorem dX13_openRsa_227 : decode cX13_openRsa 227 = .ok (.iconst 1, 1) := by decide +kernel
theorem dX13_openRsa_228 : decode cX13_openRsa 228 = .ok (.goto 4, 3) := by decide +kernel
theorem dX13_openRsa_231 : decode cX13_openRsa 231 = .ok (.iconst 0, 1) := by decide +kernel
theorem dX13_openRsa_232 : decode cX13_openRsa 232 = .ok (.istore 4, 2) := by decide +kernel
theorem dX13_openRsa_234 : decode cX13_openRsa 234 = .ok (.iload 4, 2) := by decide +kernel
theorem dX13_openRsa_236 : decode cX13_openRsa 236 = .ok (.ifCond .eq 25, 3) := by decide +kernel
theorem dX13_openRsa_239 : decode cX13_openRsa 239 = .ok (.aload_n 0, 1) := by decide +kernel
theorem dX13_openRsa_240 : decode cX13_openRsa 240 = .ok (.getfield 195, 3) := by decide +kernel
theorem dX13_openRsa_243 : decode cX13_openRsa 243 = .ok (.iload 5, 2) := by decide +kernel
theorem dX13_openRsa_245 : decode cX13_openRsa 245 = .ok (.iconst 1, 1) := by decide +kernel
theorem dX13_openRsa_246 : decode cX13_openRsa 246 = .ok (.iadd, 1) := by decide +kernel
theorem dX13_openRsa_247 : decode cX13_openRsa 247 = .ok (.aload_n 0, 1) := by decide +kernel
theorem dX13_openRsa_248 : decode cX13_openRsa 248 = .ok (.getfield 288, 3) := by decide +kernel
theorem dX13_openRsa_251 : decode cX13_openRsa 251 = .ok (.iconst 0, 1) := by decide +kernel
theorem dX13_openRsa_252 : decode cX13_openRsa 252 = .ok (.iload_n 2, 1) := by decide +kernel
theorem dX13_openRsa_253 : decode cX13_openRsa 253 = .ok (.iload 5, 2) := by decide +kernel
theorem dX13_openRsa_255 : decode cX13_openRsa 255 = .ok (.isub, 1) := by decide +kernel
theorem dX13_openRsa_256 : decode cX13_openRsa 256 = .ok (.iconst 1, 1) := by decide +kernel
theorem dX13_openRsa_257 : decode cX13_openRsa 257 = .ok (.isub, 1) := by decide +kernel
theorem dX13_openRsa_258 : decode cX13_openRsa 258 = .ok (.invokestatic 317, 3) := by decide +kernel
theorem dX13_openRsa_261 : decode cX13_openRsa 261 = .ok (.iload 4, 2) := by decide +kernel
theorem dX13_openRsa_263 : decode cX13_openRsa 263 = .ok (.ifCond .eq 12, 3) := by decide +kernel
theorem dX13_openRsa_266 : decode cX13_openRsa 266 = .ok (.iload_n 2, 1) := by decide +kernel
theorem dX13_openRsa_267 : decode cX13_openRsa 267 = .ok (.iload 5, 2) := by decide +kernel
theorem dX13_openRsa_269 : decode cX13_openRsa 269 = .ok (.isub, 1) := by decide +kernel
theorem dX13_openRsa_270 : decode cX13_openRsa 270 = .ok (.iconst 1, 1) := by decide +kernel
theorem dX13_openRsa_271 : decode cX13_openRsa 271 = .ok (.isub, 1) := by decide +kernel
theorem dX13_openRsa_272 : decode cX13_openRsa 272 = .ok (.goto 4, 3) := by decide +kernel
theorem dX13_openRsa_275 : decode cX13_openRsa 275 = .ok (.iconst (-1), 1) := by decide +kernel
theorem dX13_openRsa_276 : decode cX13_openRsa 276 = .ok (.ireturn, 1) := by decide +kernel
abbrev rmX13_openRsa : Room := { frames := 6, cells := 0, slots := 0, locals := 145 }
set_option maxHeartbeats 4000000 in
set_option maxRecDepth 100000 in
theorem wB_X13_openRsa_232 {G : mG} {F : Nat} {x : mXT} {sz : Nat} {r0 : Int32} {M0 : mM} (X : mCX G RX13 cX13_openRsa 6 (some .int) "openRsa" rmX13_openRsa x) (hQ : mQI x r0 M0 (sz, 0, 0)) {l0 : Nat} {l2 : Int32} {l5 : Int32} {sk0 : Int32} {M : mM} (h : B_X13_openRsa_232 G F l0 l2 l5 sk0 M = some (r0, M0)) : WW x (sz, 0, 0) M 232 [(0, .ref l0), (2, .int l2), (5, .int l5)] [.int sk0] := by
  unfold B_X13_openRsa_232 at h
  refine ww_istore 232 X dX13_openRsa_232 (lv' := [(0, .ref l0), (2, .int l2), (4, .int sk0), (5, .int l5)]) (by decide) [1, 2, 0, 3] rfl ?_
  refine ww_iload 234 X dX13_openRsa_234 2 rfl ?_
  refine ww_if_eq 236 261 X dX13_openRsa_236 (by decide) (fun q => ?_) (fun q => ?_)
  · replace h := (if_pos q).symm.trans h
    refine ww_iload 261 X dX13_openRsa_261 2 rfl ?_
    refine ww_if_eq 263 275 X dX13_openRsa_263 (by decide) (fun q => ?_) (fun q => ?_)
    · replace h := (if_pos q).symm.trans h
      refine ww_iconst 275 X (v := (-1 : Int32)) dX13_openRsa_275 (by decide) ?_
      exact ww_iretE 276 X hQ dX13_openRsa_276 h
    · replace h := (if_neg q).symm.trans h
      refine ww_iload_n 266 X dX13_openRsa_266 1 rfl rfl ?_
      refine ww_iload 267 X dX13_openRsa_267 3 rfl ?_
      refine ww_isub 269 X dX13_openRsa_269 ?_
      refine ww_iconst 270 X (v := (1 : Int32)) dX13_openRsa_270 (by decide) ?_
      refine ww_isub 271 X dX13_openRsa_271 ?_
      refine ww_goto 272 276 X dX13_openRsa_272 (by decide) ?_
      exact ww_iretE 276 X hQ dX13_openRsa_276 h
  · replace h := (if_neg q).symm.trans h
    refine ww_aload_n 239 X dX13_openRsa_239 0 rfl rfl ?_
    obtain ⟨v240, e240, h⟩ := bO_some h
    refine ww_getR 240 X dX13_openRsa_240 fG_X13_195 e240 ?_
    refine ww_iload 243 X dX13_openRsa_243 3 rfl ?_
    refine ww_iconst 245 X (v := (1 : Int32)) dX13_openRsa_245 (by decide) ?_
    refine ww_iadd 246 X dX13_openRsa_246 ?_
    refine ww_aload_n 247 X dX13_openRsa_247 0 rfl rfl ?_
    obtain ⟨v248, e248, h⟩ := bO_some h
    refine ww_getR 248 X dX13_openRsa_248 fG_X13_288 e248 ?_
    refine ww_iconst 251 X (v := (0 : Int32)) dX13_openRsa_251 (by decide) ?_
    refine ww_iload_n 252 X dX13_openRsa_252 1 rfl rfl ?_
    refine ww_iload 253 X dX13_openRsa_253 3 rfl ?_
    refine ww_isub 255 X dX13_openRsa_255 ?_
    refine ww_iconst 256 X (v := (1 : Int32)) dX13_openRsa_256 (by decide) ?_
    refine ww_isub 257 X dX13_openRsa_257 ?_
    obtain ⟨M258, e258, h⟩ := bO_some h
    refine ww_callSV0 258 X dX13_openRsa_258 mY_X13_move mL_X13_317 (As := [.ref v240, .int (l5 + (1 : Int32)), .ref v248, .int (0 : Int32), .int ((l2 - l5) - (1 : Int32))]) (rest := []) rfl rfl ⟨Nat.le_of_ble_eq_true rfl, Nat.le_of_ble_eq_true rfl⟩ (Nat.le_of_ble_eq_true rfl) (fun l D A => c_X13_move l D A e258) ?_
    refine ww_iload 261 X dX13_openRsa_261 2 rfl ?_
    refine ww_if_eq 263 275 X dX13_openRsa_263 (by decide) (fun q => ?_) (fun q => ?_)
    · replace h := (if_pos q).symm.trans h
      refine ww_iconst 275 X (v := (-1 : Int32)) dX13_openRsa_275 (by decide) ?_
      exact ww_iretE 276 X hQ dX13_openRsa_276 h
    · replace h := (if_neg q).symm.trans h
      refine ww_iload_n 266 X dX13_openRsa_266 1 rfl rfl ?_
      refine ww_iload 267 X dX13_openRsa_267 3 rfl ?_
      refine ww_isub 269 X dX13_openRsa_269 ?_
      refine ww_iconst 270 X (v := (1 : Int32)) dX13_openRsa_270 (by decide) ?_
      refine ww_isub 271 X dX13_openRsa_271 ?_
      refine ww_goto 272 276 X dX13_openRsa_272 (by decide) ?_
      exact ww_iretE 276 X hQ dX13_openRsa_276 h
set_option maxHeartbeats 4000000 in
set_option maxRecDepth 100000 in
theorem wB_X13_openRsa_194 {G : mG} {F : Nat} {x : mXT} {sz : Nat} {r0 : Int32} {M0 : mM} (X : mCX G RX13 cX13_openRsa 6 (some .int) "openRsa" rmX13_openRsa x) (hQ : mQI x r0 M0 (sz, 0, 0)) {l0 : Nat} {l2 : Int32} {l4 : Int32} {l5 : Int32} {M : mM} (h : B_X13_openRsa_194 G F l0 l2 l4 l5 M = some (r0, M0)) : WW x (sz, 0, 0) M 194 [(0, .ref l0), (2, .int l2), (4, .int l4), (5, .int l5)] [] := by
  unfold B_X13_openRsa_194 at h
  refine ww_iload 194 X dX13_openRsa_194 2 rfl ?_
  refine ww_if_eq 196 231 X dX13_openRsa_196 (by decide) (fun q => ?_) (fun q => ?_)
  · replace h := (if_pos q).symm.trans h
    refine ww_iconst 231 X (v := (0 : Int32)) dX13_openRsa_231 (by decide) ?_
    exact ww_sub [0, 1, 3] rfl (wB_X13_openRsa_232 X hQ h)
  · replace h := (if_neg q).symm.trans h
    refine ww_iload 199 X dX13_openRsa_199 3 rfl ?_
    refine ww_iload_n 201 X dX13_openRsa_201 1 rfl rfl ?_
    refine ww_icmp_ge 202 231 X dX13_openRsa_202 (by decide) (fun q => ?_) (fun q => ?_)
    · replace h := (if_pos q).symm.trans h
      refine ww_iconst 231 X (v := (0 : Int32)) dX13_openRsa_231 (by decide) ?_
      exact ww_sub [0, 1, 3] rfl (wB_X13_openRsa_232 X hQ h)
    · replace h := (if_neg q).symm.trans h
      refine ww_aload_n 205 X dX13_openRsa_205 0 rfl rfl ?_
      obtain ⟨v206, e206, h⟩ := bO_some h
      refine ww_getR 206 X dX13_openRsa_206 fG_X13_195 e206 ?_
      refine ww_iload 209 X dX13_openRsa_209 3 rfl ?_
      obtain ⟨v211, e211, h⟩ := bO_some h
      refine ww_bald 211 X dX13_openRsa_211 e211 ?_
      refine ww_iconst 212 X (v := (1 : Int32)) dX13_openRsa_212 (by decide) ?_
      refine ww_icmp_ne 213 231 X dX13_openRsa_213 (by decide) (fun q => ?_) (fun q => ?_)
      · replace h := (if_neg q).symm.trans h
        refine ww_iconst 231 X (v := (0 : Int32)) dX13_openRsa_231 (by decide) ?_
        exact ww_sub [0, 1, 3] rfl (wB_X13_openRsa_232 X hQ h)
      · replace h := (if_pos q).symm.trans h
        refine ww_iload_n 216 X dX13_openRsa_216 1 rfl rfl ?_
        refine ww_iload 217 X dX13_openRsa_217 3 rfl ?_
        refine ww_isub 219 X dX13_openRsa_219 ?_
        refine ww_iconst 220 X (v := (1 : Int32)) dX13_openRsa_220 (by decide) ?_
        refine ww_isub 221 X dX13_openRsa_221 ?_
        refine ww_bipush 222 X (v := (64 : Int32)) dX13_openRsa_222 (by decide) ?_
        refine ww_icmp_gt 224 231 X dX13_openRsa_224 (by decide) (fun q => ?_) (fun q => ?_)
        · replace h := (if_pos q).symm.trans h
          refine ww_iconst 231 X (v := (0 : Int32)) dX13_openRsa_231 (by decide) ?_
          exact ww_sub [0, 1, 3] rfl (wB_X13_openRsa_232 X hQ h)
        · replace h := (if_neg q).symm.trans h
          refine ww_iconst 227 X (v := (1 : Int32)) dX13_openRsa_227 (by decide) ?_
          refine ww_goto 228 232 X dX13_openRsa_228 (by decide) ?_
          exact ww_sub [0, 1, 3] rfl (wB_X13_openRsa_232 X hQ h)
set_option maxHeartbeats 4000000 in
set_option maxRecDepth 100000 in
theorem wB_X13_openRsa_172 {G : mG} {F : Nat} {x : mXT} {sz : Nat} {r0 : Int32} {M0 : mM} (X : mCX G RX13 cX13_openRsa 6 (some .int) "openRsa" rmX13_openRsa x) (hQ : mQI x r0 M0 (sz, 0, 0)) : ∀ (n : Nat) (l0 : Nat) (l2 : Int32) (l4 : Int32) (l5 : Int32) (M : mM), B_X13_openRsa_172 G F n l0 l2 l4 l5 M = some (r0, M0) → WW x (sz, 0, 0) M 172 [(0, .ref l0), (2, .int l2), (4, .int l4), (5, .int l5)] [] := by
  intro n
  induction n with
  | zero =>
    intro l0 l2 l4 l5 M h
    exact nomatch (show (none : Option (Int32 × mM)) = some (r0, M0) from h)
  | succ n ih =>
    intro l0 l2 l4 l5 M h
    rw [B_X13_openRsa_172] at h
    refine ww_iload 172 X dX13_openRsa_172 3 rfl ?_
    refine ww_iload_n 174 X dX13_openRsa_174 1 rfl rfl ?_
    refine ww_icmp_ge 175 194 X dX13_openRsa_175 (by decide) (fun q => ?_) (fun q => ?_)
    · replace h := (if_pos q).symm.trans h
      exact (wB_X13_openRsa_194 X hQ h)
    · replace h := (if_neg q).symm.trans h
      refine ww_aload_n 178 X dX13_openRsa_178 0 rfl rfl ?_
      obtain ⟨v179, e179, h⟩ := bO_some h
      refine ww_getR 179 X dX13_openRsa_179 fG_X13_195 e179 ?_
      refine ww_iload 182 X dX13_openRsa_182 3 rfl ?_
      obtain ⟨v184, e184, h⟩ := bO_some h
      refine ww_bald 184 X dX13_openRsa_184 e184 ?_
      refine ww_if_ne 185 194 X dX13_openRsa_185 (by decide) (fun q => ?_) (fun q => ?_)
      · replace h := (if_neg q).symm.trans h
        exact (wB_X13_openRsa_194 X hQ h)
      · replace h := (if_pos q).symm.trans h
        refine ww_iinc 188 X dX13_openRsa_188 (lv' := [(0, .ref l0), (2, .int l2), (4, .int l4), (5, .int (l5 + 1))]) 3 rfl rfl (by decide) [1, 2, 3, 0] rfl ?_
        refine ww_goto 191 172 X dX13_openRsa_191 (by decide) ?_
        exact (ih _ _ _ _ _ h)
set_option maxHeartbeats 4000000 in
set_option maxRecDepth 100000 in
theorem wP_X13_openRsa {G : mG} {F : Nat} {x : mXT} {sz : Nat} {r0 : Int32} {M0 : mM} (X : mCX G RX13 cX13_openRsa 6 (some .int) "openRsa" rmX13_openRsa x) (hQ : mQI x r0 M0 (sz, 0, 0)) {l0 : Nat} {l1 : Int32} {M : mM} (h : P_X13_openRsa G F l0 l1 M = some (r0, M0)) : WW x (sz, 0, 0) M 0 [(0, .ref l0), (1, .int l1)] [] := by
  unfold P_X13_openRsa at h
  refine ww_aload_n 0 X dX13_openRsa_0 0 rfl rfl ?_
  obtain ⟨v1, e1, h⟩ := bO_some h
  refine ww_getR 1 X dX13_openRsa_1 fG_X13_208 e1 ?_
  refine ww_iload_n 4 X dX13_openRsa_4 1 rfl rfl ?_
  obtain ⟨v5, e5, h⟩ := bO_some h
  refine ww_iald 5 X dX13_openRsa_5 e5 ?_
  refine ww_istore_n 6 X dX13_openRsa_6 (lv' := [(0, .ref l0), (1, .int l1), (2, .int v5)]) rfl (by decide) [1, 2, 0] rfl ?_
  refine ww_aload_n 7 X dX13_openRsa_7 0 rfl rfl ?_
  obtain ⟨v8, e8, h⟩ := bO_some h
  refine ww_getI 8 X dX13_openRsa_8 fG_X13_1038 e8 ?_
  refine ww_iload_n 11 X dX13_openRsa_11 2 rfl rfl ?_
  refine ww_icmp_ne 12 28 X dX13_openRsa_12 (by decide) (fun q => ?_) (fun q => ?_)
  · replace h := (if_neg q).symm.trans h
    refine ww_iconst 28 X (v := (-1 : Int32)) dX13_openRsa_28 (by decide) ?_
    exact ww_iretE 29 X hQ dX13_openRsa_29 h
  · replace h := (if_pos q).symm.trans h
    refine ww_aload_n 15 X dX13_openRsa_15 0 rfl rfl ?_
    refine ww_aload_n 16 X dX13_openRsa_16 0 rfl rfl ?_
    obtain ⟨v17, e17, h⟩ := bO_some h
    refine ww_getR 17 X dX13_openRsa_17 fG_X13_291 e17 ?_
    refine ww_iconst 20 X (v := (0 : Int32)) dX13_openRsa_20 (by decide) ?_
    refine ww_iload_n 21 X dX13_openRsa_21 1 rfl rfl ?_
    obtain ⟨_, f22, h⟩ := bO_some h
    obtain ⟨v22, M22, e22, h⟩ := bP_some h
    refine ww_callVI0 22 X dX13_openRsa_22 mY_X13_isBelow mL_X13_976 (rcv_spec f22) ⟨_, _, rfl⟩ (by decide) (As := [.ref v17, .int (0 : Int32), .int l1]) (rest := []) rfl rfl ⟨Nat.le_of_ble_eq_true rfl, Nat.le_of_ble_eq_true rfl⟩ (Nat.le_of_ble_eq_true rfl) (fun l D A => c_X13_isBelow l D A e22) ?_
    refine ww_if_ne 25 30 X dX13_openRsa_25 (by decide) (fun q => ?_) (fun q => ?_)
    · replace h := (if_neg q).symm.trans h
      refine ww_aload_n 30 X dX13_openRsa_30 0 rfl rfl ?_
      refine ww_aload_n 31 X dX13_openRsa_31 0 rfl rfl ?_
      obtain ⟨v32, e32, h⟩ := bO_some h
      refine ww_getR 32 X dX13_openRsa_32 fG_X13_291 e32 ?_
      refine ww_iconst 35 X (v := (0 : Int32)) dX13_openRsa_35 (by decide) ?_
      refine ww_iload_n 36 X dX13_openRsa_36 2 rfl rfl ?_
      refine ww_aload_n 37 X dX13_openRsa_37 0 rfl rfl ?_
      obtain ⟨v38, e38, h⟩ := bO_some h
      refine ww_getR 38 X dX13_openRsa_38 fG_X13_217 e38 ?_
      refine ww_sipush 41 X (v := (128 : Int32)) dX13_openRsa_41 (by decide) ?_
      refine ww_iload_n 44 X dX13_openRsa_44 1 rfl rfl ?_
      refine ww_imul 45 X dX13_openRsa_45 ?_
      refine ww_aload_n 46 X dX13_openRsa_46 0 rfl rfl ?_
      obtain ⟨v47, e47, h⟩ := bO_some h
      refine ww_getR 47 X dX13_openRsa_47 fG_X13_220 e47 ?_
      refine ww_iload_n 50 X dX13_openRsa_50 1 rfl rfl ?_
      obtain ⟨v51, e51, h⟩ := bO_some h
      refine ww_iald 51 X dX13_openRsa_51 e51 ?_
      refine ww_aload_n 52 X dX13_openRsa_52 0 rfl rfl ?_
      obtain ⟨v53, e53, h⟩ := bO_some h
      refine ww_getR 53 X dX13_openRsa_53 fG_X13_205 e53 ?_
      refine ww_sipush 56 X (v := (128 : Int32)) dX13_openRsa_56 (by decide) ?_
      refine ww_iload_n 59 X dX13_openRsa_59 1 rfl rfl ?_
      refine ww_imul 60 X dX13_openRsa_60 ?_
      refine ww_iload_n 61 X dX13_openRsa_61 2 rfl rfl ?_
      obtain ⟨_, f62, h⟩ := bO_some h
      obtain ⟨M62, e62, h⟩ := bO_some h
      refine ww_callVV0 62 X dX13_openRsa_62 mY_X13_raise mL_X13_709 (rcv_spec f62) ⟨_, _, rfl⟩ (by decide) (As := [.ref v32, .int (0 : Int32), .int v5, .ref v38, .int ((128 : Int32) * l1), .int v51, .ref v53, .int ((128 : Int32) * l1), .int v5]) (rest := []) rfl rfl ⟨Nat.le_of_ble_eq_true rfl, Nat.le_of_ble_eq_true rfl⟩ (Nat.le_of_ble_eq_true rfl) (fun l D A => c_X13_raise l D A e62) ?_
      refine ww_aload_n 65 X dX13_openRsa_65 0 rfl rfl ?_
      obtain ⟨v66, e66, h⟩ := bO_some h
      refine ww_getR 66 X dX13_openRsa_66 fG_X13_138 e66 ?_
      refine ww_iconst 69 X (v := (0 : Int32)) dX13_openRsa_69 (by decide) ?_
      refine ww_aload_n 70 X dX13_openRsa_70 0 rfl rfl ?_
      obtain ⟨v71, e71, h⟩ := bO_some h
      refine ww_getR 71 X dX13_openRsa_71 fG_X13_195 e71 ?_
      refine ww_iconst 74 X (v := (0 : Int32)) dX13_openRsa_74 (by decide) ?_
      refine ww_iload_n 75 X dX13_openRsa_75 2 rfl rfl ?_
      obtain ⟨M76, e76, h⟩ := bO_some h
      refine ww_callSV0 76 X dX13_openRsa_76 mY_X13_move mL_X13_317 (As := [.ref v66, .int (0 : Int32), .ref v71, .int (0 : Int32), .int v5]) (rest := []) rfl rfl ⟨Nat.le_of_ble_eq_true rfl, Nat.le_of_ble_eq_true rfl⟩ (Nat.le_of_ble_eq_true rfl) (fun l D A => c_X13_move l D A e76) ?_
      refine ww_aload_n 79 X dX13_openRsa_79 0 rfl rfl ?_
      refine ww_aload_n 80 X dX13_openRsa_80 0 rfl rfl ?_
      obtain ⟨v81, e81, h⟩ := bO_some h
      refine ww_getR 81 X dX13_openRsa_81 fG_X13_195 e81 ?_
      refine ww_bipush 84 X (v := (33 : Int32)) dX13_openRsa_84 (by decide) ?_
      refine ww_iload_n 86 X dX13_openRsa_86 2 rfl rfl ?_
      refine ww_bipush 87 X (v := (33 : Int32)) dX13_openRsa_87 (by decide) ?_
      refine ww_isub 89 X dX13_openRsa_89 ?_
      refine ww_aload_n 90 X dX13_openRsa_90 0 rfl rfl ?_
      obtain ⟨v91, e91, h⟩ := bO_some h
      refine ww_getR 91 X dX13_openRsa_91 fG_X13_195 e91 ?_
      refine ww_iconst 94 X (v := (1 : Int32)) dX13_openRsa_94 (by decide) ?_
      refine ww_bipush 95 X (v := (32 : Int32)) dX13_openRsa_95 (by decide) ?_
      obtain ⟨_, f97, h⟩ := bO_some h
      obtain ⟨M97, e97, h⟩ := bO_some h
      refine ww_callVV0 97 X dX13_openRsa_97 mY_X13_maskOn mL_X13_784 (rcv_spec f97) ⟨_, _, rfl⟩ (by decide) (As := [.ref v81, .int (33 : Int32), .int (v5 - (33 : Int32)), .ref v91, .int (1 : Int32), .int (32 : Int32)]) (rest := []) rfl rfl ⟨Nat.le_of_ble_eq_true rfl, Nat.le_of_ble_eq_true rfl⟩ (Nat.le_of_ble_eq_true rfl) (fun l D A => c_X13_maskOn l D A e97) ?_
      refine ww_aload_n 100 X dX13_openRsa_100 0 rfl rfl ?_
      refine ww_aload_n 101 X dX13_openRsa_101 0 rfl rfl ?_
      obtain ⟨v102, e102, h⟩ := bO_some h
      refine ww_getR 102 X dX13_openRsa_102 fG_X13_195 e102 ?_
      refine ww_iconst 105 X (v := (1 : Int32)) dX13_openRsa_105 (by decide) ?_
      refine ww_bipush 106 X (v := (32 : Int32)) dX13_openRsa_106 (by decide) ?_
      refine ww_aload_n 108 X dX13_openRsa_108 0 rfl rfl ?_
      obtain ⟨v109, e109, h⟩ := bO_some h
      refine ww_getR 109 X dX13_openRsa_109 fG_X13_195 e109 ?_
      refine ww_bipush 112 X (v := (33 : Int32)) dX13_openRsa_112 (by decide) ?_
      refine ww_iload_n 114 X dX13_openRsa_114 2 rfl rfl ?_
      refine ww_bipush 115 X (v := (33 : Int32)) dX13_openRsa_115 (by decide) ?_
      refine ww_isub 117 X dX13_openRsa_117 ?_
      obtain ⟨_, f118, h⟩ := bO_some h
      obtain ⟨M118, e118, h⟩ := bO_some h
      refine ww_callVV0 118 X dX13_openRsa_118 mY_X13_maskOn mL_X13_784 (rcv_spec f118) ⟨_, _, rfl⟩ (by decide) (As := [.ref v102, .int (1 : Int32), .int (32 : Int32), .ref v109, .int (33 : Int32), .int (v5 - (33 : Int32))]) (rest := []) rfl rfl ⟨Nat.le_of_ble_eq_true rfl, Nat.le_of_ble_eq_true rfl⟩ (Nat.le_of_ble_eq_true rfl) (fun l D A => c_X13_maskOn l D A e118) ?_
      refine ww_aload_n 121 X dX13_openRsa_121 0 rfl rfl ?_
      obtain ⟨_, f122, h⟩ := bO_some h
      obtain ⟨M122, e122, h⟩ := bO_some h
      refine ww_callVV0 122 X dX13_openRsa_122 mY_X13_empty mL_X13_570 (rcv_spec f122) ⟨_, _, rfl⟩ (by decide) (As := []) (rest := []) rfl rfl ⟨Nat.le_of_ble_eq_true rfl, Nat.le_of_ble_eq_true rfl⟩ (Nat.le_of_ble_eq_true rfl) (fun l D A => c_X13_empty l D A e122) ?_
      refine ww_aload_n 125 X dX13_openRsa_125 0 rfl rfl ?_
      refine ww_sipush 126 X (v := (256 : Int32)) dX13_openRsa_126 (by decide) ?_
      obtain ⟨_, f129, h⟩ := bO_some h
      obtain ⟨v129, M129, e129, h⟩ := bP_some h
      refine ww_callVI0 129 X dX13_openRsa_129 mY_X13_digestOf mL_X13_576 (rcv_spec f129) ⟨_, _, rfl⟩ (by decide) (As := [.int (256 : Int32)]) (rest := []) rfl rfl ⟨Nat.le_of_ble_eq_true rfl, Nat.le_of_ble_eq_true rfl⟩ (Nat.le_of_ble_eq_true rfl) (fun l D A => c_X13_digestOf l D A e129) ?_
      refine ww_istore_n 132 X dX13_openRsa_132 (lv' := [(0, .ref l0), (1, .int l1), (2, .int v5), (3, .int v129)]) rfl (by decide) [1, 2, 3, 0] rfl ?_
      refine ww_aload_n 133 X dX13_openRsa_133 0 rfl rfl ?_
      obtain ⟨v134, e134, h⟩ := bO_some h
      refine ww_getR 134 X dX13_openRsa_134 fG_X13_195 e134 ?_
      refine ww_iconst 137 X (v := (0 : Int32)) dX13_openRsa_137 (by decide) ?_
      obtain ⟨v138, e138, h⟩ := bO_some h
      refine ww_bald 138 X dX13_openRsa_138 e138 ?_
      refine ww_if_ne 139 165 X dX13_openRsa_139 (by decide) (fun q => ?_) (fun q => ?_)
      · replace h := (if_neg q).symm.trans h
        refine ww_iconst 165 X (v := (0 : Int32)) dX13_openRsa_165 (by decide) ?_
        refine ww_istore 166 X dX13_openRsa_166 (lv' := [(0, .ref l0), (1, .int l1), (2, .int v5), (3, .int v129), (4, .int (0 : Int32))]) (by decide) [1, 2, 3, 4, 0] rfl ?_
        refine ww_bipush 168 X (v := (65 : Int32)) dX13_openRsa_168 (by decide) ?_
        refine ww_istore 170 X dX13_openRsa_170 (lv' := [(0, .ref l0), (1, .int l1), (2, .int v5), (3, .int v129), (4, .int (0 : Int32)), (5, .int (65 : Int32))]) (by decide) [1, 2, 3, 4, 5, 0] rfl ?_
        exact ww_sub [0, 2, 4, 5] rfl (wB_X13_openRsa_172 X hQ F _ _ _ _ _ h)
      · replace h := (if_pos q).symm.trans h
        refine ww_aload_n 142 X dX13_openRsa_142 0 rfl rfl ?_
        obtain ⟨v143, e143, h⟩ := bO_some h
        refine ww_getR 143 X dX13_openRsa_143 fG_X13_76 e143 ?_
        refine ww_iconst 146 X (v := (0 : Int32)) dX13_openRsa_146 (by decide) ?_
        refine ww_aload_n 147 X dX13_openRsa_147 0 rfl rfl ?_
        obtain ⟨v148, e148, h⟩ := bO_some h
        refine ww_getR 148 X dX13_openRsa_148 fG_X13_195 e148 ?_
        refine ww_bipush 151 X (v := (33 : Int32)) dX13_openRsa_151 (by decide) ?_
        refine ww_bipush 153 X (v := (32 : Int32)) dX13_openRsa_153 (by decide) ?_
        obtain ⟨v155, M155, e155, h⟩ := bP_some h
        refine ww_callSI0 155 X dX13_openRsa_155 mY_X13_same mL_X13_420 (As := [.ref v143, .int (0 : Int32), .ref v148, .int (33 : Int32), .int (32 : Int32)]) (rest := []) rfl rfl ⟨Nat.le_of_ble_eq_true rfl, Nat.le_of_ble_eq_true rfl⟩ (Nat.le_of_ble_eq_true rfl) (fun l D A => c_X13_same l D A e155) ?_
        refine ww_if_eq 158 165 X dX13_openRsa_158 (by decide) (fun q => ?_) (fun q => ?_)
        · replace h := (if_pos q).symm.trans h
          refine ww_iconst 165 X (v := (0 : Int32)) dX13_openRsa_165 (by decide) ?_
          refine ww_istore 166 X dX13_openRsa_166 (lv' := [(0, .ref l0), (1, .int l1), (2, .int v5), (3, .int v129), (4, .int (0 : Int32))]) (by decide) [1, 2, 3, 4, 0] rfl ?_
          refine ww_bipush 168 X (v := (65 : Int32)) dX13_openRsa_168 (by decide) ?_
          refine ww_istore 170 X dX13_openRsa_170 (lv' := [(0, .ref l0), (1, .int l1), (2, .int v5), (3, .int v129), (4, .int (0 : Int32)), (5, .int (65 : Int32))]) (by decide) [1, 2, 3, 4, 5, 0] rfl ?_
          exact ww_sub [0, 2, 4, 5] rfl (wB_X13_openRsa_172 X hQ F _ _ _ _ _ h)
        · replace h := (if_neg q).symm.trans h
          refine ww_iconst 161 X (v := (1 : Int32)) dX13_openRsa_161 (by decide) ?_
          refine ww_goto 162 166 X dX13_openRsa_162 (by decide) ?_
          refine ww_istore 166 X dX13_openRsa_166 (lv' := [(0, .ref l0), (1, .int l1), (2, .int v5), (3, .int v129), (4, .int (1 : Int32))]) (by decide) [1, 2, 3, 4, 0] rfl ?_
          refine ww_bipush 168 X (v := (65 : Int32)) dX13_openRsa_168 (by decide) ?_
          refine ww_istore 170 X dX13_openRsa_170 (lv' := [(0, .ref l0), (1, .int l1), (2, .int v5), (3, .int v129), (4, .int (1 : Int32)), (5, .int (65 : Int32))]) (by decide) [1, 2, 3, 4, 5, 0] rfl ?_
          exact ww_sub [0, 2, 4, 5] rfl (wB_X13_openRsa_172 X hQ F _ _ _ _ _ h)
    · replace h := (if_pos q).symm.trans h
      refine ww_iconst 28 X (v := (-1 : Int32)) dX13_openRsa_28 (by decide) ?_
      exact ww_iretE 29 X hQ dX13_openRsa_29 h
theorem c_X13_openRsa {G : mG} {F sz : Nat} {r0 : Int32} {M0 : mM} (l : Launch) (D : mD) (A : Nat → Prop) {l0 : Nat} {l1 : Int32} {M : mM} (h : P_X13_openRsa G F l0 l1 M = some (r0, M0)) : mMetI l D G A yX13_openRsa cX13_openRsa 6 (some .int) 6 145 0 0 [.ref l0, .int l1] M sz r0 M0 sz := mMetI_of l D G A (by decide) (Nat.le_of_ble_eq_true rfl) (fun x X hQ => wP_X13_openRsa X hQ h)
/-! SealedTokensModel.agreeFresh(IIIIII)V -/
theorem dX13_agreeFresh_0 : decode cX13_agreeFresh 0 = .ok (.aload_n 0, 1) := by decide +kernel
theorem dX13_agreeFresh_1 : decode cX13_agreeFresh 1 = .ok (.aload_n 0, 1) := by decide +kernel
theorem dX13_agreeFresh_2 : decode cX13_agreeFresh 2 = .ok (.getfield 147, 3) := by decide +kernel
theorem dX13_agreeFresh_5 : decode cX13_agreeFresh 5 = .ok (.iconst 0, 1) := by decide +kernel
theorem dX13_agreeFresh_6 : decode cX13_agreeFresh 6 = .ok (.invokevirtual 766, 3) := by decide +kernel
theorem dX13_agreeFresh_9 : decode cX13_agreeFresh 9 = .ok (.istore 7, 2) := by decide +kernel
theorem dX13_agreeFresh_11 : decode cX13_agreeFresh 11 = .ok (.aload_n 0, 1) := by decide +kernel
theorem dX13_agreeFresh_12 : decode cX13_agreeFresh 12 = .ok (.aload_n 0, 1) := by decide +kernel
theorem dX13_agreeFresh_13 : decode cX13_agreeFresh 13 = .ok (.getfield 14, 3) := by decide +kernel
theorem dX13_agreeFresh_16 : decode cX13_agreeFresh 16 = .ok (.iload 4, 2) := by decide +kernel
theorem dX13_agreeFresh_18 : decode cX13_agreeFresh 18 = .ok (.invokevirtual 770, 3) := by decide +kernel
theorem dX13_agreeFresh_21 : decode cX13_agreeFresh 21 = .ok (.iload 7, 2) := by decide +kernel
theorem dX13_agreeFresh_23 : decode cX13_agreeFresh 23 = .ok (.ifCond .eq 19, 3) := by decide +kernel
theorem dX13_agreeFresh_26 : decode cX13_agreeFresh 26 = .ok (.aload_n 0, 1) := by decide +kernel
theorem dX13_agreeFresh_27 : decode cX13_agreeFresh 27 = .ok (.aload_n 0, 1) := by decide +kernel
theorem dX13_agreeFresh_28 : decode cX13_agreeFresh 28 = .ok (.getfield 248, 3) := by decide +kernel
theorem dX13_agreeFresh_31 : decode cX13_agreeFresh 31 = .ok (.iconst 0, 1) := by decide +kernel
theorem dX13_agreeFresh_32 : decode cX13_agreeFresh 32 = .ok (.invokevirtual 772, 3) := by decide +kernel
theorem dX13_agreeFresh_35 : decode cX13_agreeFresh 35 = .ok (.ifCond .eq 7, 3) := by decide +kernel
theorem dX13_agreeFresh_38 : decode cX13_agreeFresh 38 = .ok (.iconst 1, 1) := by decide +kernel
theorem dX13_agreeFresh_39 : decode cX13_agreeFresh 39 = .ok (.goto 4, 3) := by decide +kernel
theorem dX13_agreeFresh_42 : decode cX13_agreeFresh 42 = .ok (.iconst 0, 1) := by decide +kernel
theorem dX13_agreeFresh_43 : decode cX13_agreeFresh 43 = .ok (.istore 7, 2) := by decide +kernel
theorem dX13_agreeFresh_45 : decode cX13_agreeFresh 45 = .ok (.aload_n 0, 1) := by decide +kernel
theorem dX13_agreeFresh_46 : decode cX13_agreeFresh 46 = .ok (.iload 5, 2) := by decide +kernel
theorem dX13_agreeFresh_48 : decode cX13_agreeFresh 48 = .ok (.iconst (-1), 1) := by decide +kernel
theorem dX13_agreeFresh_49 : decode cX13_agreeFresh 49 = .ok (.if_icmp .ne 7, 3) := by decide +kernel
theorem dX13_agreeFresh_52 : decode cX13_agreeFresh 52 = .ok (.iconst 0, 1) := by decide +kernel
theorem dX13_agreeFresh_53 : decode cX13_agreeFresh 53 = .ok (.goto 10, 3) := by decide +kernel
theorem dX13_agreeFresh_56 : decode cX13_agreeFresh 56 = .ok (.aload_n 0, 1) := by decide +kernel
theorem dX13_agreeFresh_57 : decode cX13_agreeFresh 57 = .ok (.getfield 17, 3) := by decide +kernel
theorem dX13_agreeFresh_60 : decode cX13_agreeFresh 60 = .ok (.iload 5, 2) := by decide +kernel
theorem dX13_agreeFresh_62 : decode cX13_agreeFresh 62 = .ok (.iaload, 1) := by decide +kernel
theorem dX13_agreeFresh_63 : decode cX13_agreeFresh 63 = .ok (.putfield 942, 3) := by decide +kernel
theorem dX13_agreeFresh_66 : decode cX13_agreeFresh 66 = .ok (.aload_n 0, 1) := by decide +kernel
theorem dX13_agreeFresh_67 : decode cX13_agreeFresh 67 = .ok (.iload 6, 2) := by decide +kernel
theorem dX13_agreeFresh_69 : decode cX13_agreeFresh 69 = .ok (.iconst (-1), 1) := by decide +kernel
theorem dX13_agreeFresh_70 : decode cX13_agreeFresh 70 = .ok (.if_icmp .ne 7, 3) := by decide +kernel
theorem dX13_agreeFresh_73 : decode cX13_agreeFresh 73 = .ok (.iconst 0, 1) := by decide +kernel
theorem dX13_agreeFresh_74 : decode cX13_agreeFresh 74 = .ok (.goto 10, 3) := by decide +kernel
theorem dX13_agreeFresh_77 : decode cX13_agreeFresh 77 = .ok (.aload_n 0, 1) := by decide +kernel
theorem dX13_agreeFresh_78 : decode cX13_agreeFresh 78 = .ok (.getfield 17, 3) := by decide +kernel
theorem dX13_agreeFresh_81 : decode cX13_agreeFresh 81 = .ok (.iload 6, 2) := by decide +kernel
theorem dX13_agreeFresh_83 : decode cX13_agreeFresh 83 = .ok (.iaload, 1) := by decide +kernel
theorem dX13_agreeFresh_84 : decode cX13_agreeFresh 84 = .ok (.putfield 947, 3) := by decide +kernel
theorem dX13_agreeFresh_87 : decode cX13_agreeFresh 87 = .ok (.aload_n 0, 1) := by decide +kernel
theorem dX13_agreeFresh_88 : decode cX13_agreeFresh 88 = .ok (.getfield 14, 3) := by decide +kernel
theorem dX13_agreeFresh_91 : decode cX13_agreeFresh 91 = .ok (.iload 5, 2) := by decide +kernel
theorem dX13_agreeFresh_93 : decode cX13_agreeFresh 93 = .ok (.iconst (-1), 1) := by decide +kernel
theorem dX13_agreeFresh_94 : decode cX13_agreeFresh 94 = .ok (.if_icmp .ne 7, 3) := by decide +kernel
theorem dX13_agreeFresh_97 : decode cX13_agreeFresh 97 = .ok (.iconst 0, 1) := by decide +kernel
theorem dX13_agreeFresh_98 : decode cX13_agreeFresh 98 = .ok (.goto 9, 3) := by decide +kernel
theorem dX13_agreeFresh_101 : decode cX13_agreeFresh 101 = .ok (.sipush 8192, 3) := by decide +kernel
theorem dX13_agreeFresh_104 : decode cX13_agreeFresh 104 = .ok (.iload 5, 2) := by decide +kernel
theorem dX13_agreeFresh_106 : decode cX13_agreeFresh 106 = .ok (.imul, 1) := by decide +kernel
theorem dX13_agreeFresh_107 : decode cX13_agreeFresh 107 = .ok (.aload_n 0, 1) := by decide +kernel
theorem dX13_agreeFresh_108 : decode cX13_agreeFresh 108 = .ok (.getfield 251, 3) := by decide +kernel
theorem dX13_agreeFresh_111 : decode cX13_agreeFresh 111 = .ok (.iconst 0, 1) := by decide +kernel
theorem dX13_agreeFresh_112 : decode cX13_agreeFresh 112 = .ok (.aload_n 0, 1) := by decide +kernel
theorem dX13_agreeFresh_113 : decode cX13_agreeFresh 113 = .ok (.getfield 942, 3) := by decide +kernel
theorem dX13_agreeFresh_116 : decode cX13_agreeFresh 116 = .ok (.invokestatic 317, 3) := by decide +kernel
theorem dX13_agreeFresh_119 : decode cX13_agreeFresh 119 = .ok (.aload_n 0, 1) := by decide +kernel
theorem dX13_agreeFresh_120 : decode cX13_agreeFresh 120 = .ok (.getfield 14, 3) := by decide +kernel
theorem dX13_agreeFresh_123 : decode cX13_agreeFresh 123 = .ok (.iload 6, 2) := by decide +kernel
theorem dX13_agreeFresh_125 : decode cX13_agreeFresh 125 = .ok (.iconst (-1), 1) := by decide +kernel
theorem dX13_agreeFresh_126 : decode cX13_agreeFresh 126 = .ok (.if_icmp .ne 7, 3) := by decide +kernel
theorem dX13_agreeFresh_129 : decode cX13_agreeFresh 129 = .ok (.iconst 0, 1) := by decide +kernel
theorem dX13_agreeFresh_130 : decode cX13_agreeFresh 130 = .ok (.goto 9, 3) := by decide +kernel
theorem dX13_agreeFresh_133 : decode cX13_agreeFresh 133 = .ok (.sipush 8192, 3) := by decide +kernel
theorem dX13_agreeFresh_136 : decode cX13_agreeFresh 136 = .ok (.iload 6, 2) := by decide +kernel
theorem dX13_agreeFresh_138 : decode cX13_agreeFresh 138 = .ok (.imul, 1) := by decide +kernel
theorem dX13_agreeFresh_139 : decode cX13_agreeFresh 139 = .ok (.aload_n 0, 1) := by decide +kernel
theorem dX13_agreeFresh_140 : decode cX13_agreeFresh 140 = .ok (.getfield 254, 3) := by decide +kernel
theorem dX13_agreeFresh_143 : decode cX13_agreeFresh 143 = .ok (.iconst 0, 1) := by decide +kernel
theorem dX13_agreeFresh_144 : decode cX13_agreeFresh 144 = .ok (.aload_n 0, 1) := by decide +kernel
theorem dX13_agreeFresh_145 : decode cX13_agreeFresh 145 = .ok (.getfield 947, 3) := by decide +kernel
theorem dX13_agreeFresh_148 : decode cX13_agreeFresh 148 = .ok (.invokestatic 317, 3) := by decide +kernel
theorem dX13_agreeFresh_151 : decode cX13_agreeFresh 151 = .ok (.aload_n 0, 1) := by decide +kernel
theorem dX13_agreeFresh_152 : decode cX13_agreeFresh 152 = .ok (.getfield 205, 3) := by decide +kernel
theorem dX13_agreeFresh_155 : decode cX13_agreeFresh 155 = .ok (.sipush 128, 3) := by decide +kernel
theorem dX13_agreeFresh_158 : decode cX13_agreeFresh 158 = .ok (.iload_n 1, 1) := by decide +kernel
theorem dX13_agreeFresh_159 : decode cX13_agreeFresh 159 = .ok (.imul, 1) := by decide +kernel
theorem dX13_agreeFresh_160 : decode cX13_agreeFresh 160 = .ok (.aload_n 0, 1) := by decide +kernel
theorem dX13_agreeFresh_161 : decode cX13_agreeFresh 161 = .ok (.getfield 186, 3) := by decide +kernel
theorem dX13_agreeFresh_164 : decode cX13_agreeFresh 164 = .ok (.iconst 0, 1) := by decide +kernel
theorem dX13_agreeFresh_165 : decode cX13_agreeFresh 165 = .ok (.bipush 32, 2) := by decide +kernel
theorem dX13_agreeFresh_167 : decode cX13_agreeFresh 167 = .ok (.invokestatic 317, 3) := by decide +kernel
theorem dX13_agreeFresh_170 : decode cX13_agreeFresh 170 = .ok (.aload_n 0, 1) := by decide +kernel
theorem dX13_agreeFresh_171 : decode cX13_agreeFresh 171 = .ok (.getfield 211, 3) := by decide +kernel
theorem dX13_agreeFresh_174 : decode cX13_agreeFresh 174 = .ok (.sipush 128, 3) := by decide +kernel
theorem dX13_agreeFresh_177 : decode cX13_agreeFresh 177 = .ok (.iload_n 1, 1) := by decide +kernel
theorem dX13_agreeFresh_178 : decode cX13_agreeFresh 178 = .ok (.imul, 1) := by decide +kernel
theorem dX13_agreeFresh_179 : decode cX13_agreeFresh 179 = .ok (.aload_n 0, 1) := by decide +kernel
theorem dX13_agreeFresh_180 : decode cX13_agreeFresh 180 = .ok (.getfield 186, 3) := by decide +kernel
theorem dX13_agreeFresh_183 : decode cX13_agreeFresh 183 = .ok (.bipush 32, 2) := by decide +kernel
theorem dX13_agreeFresh_185 : decode cX13_agreeFresh 185 = .ok (.bipush 32, 2) := by decide +kernel
theorem dX13_agreeFresh_187 : decode cX13_agreeFresh 187 = .ok (.invokestatic 317, 3) := by decide +kernel
theorem dX13_agreeFresh_190 : decode cX13_agreeFresh 190 = .ok (.aload_n 0, 1) := by decide +kernel
theorem dX13_agreeFresh_191 : decode cX13_agreeFresh 191 = .ok (.aload_n 0, 1) := by decide +kernel
theorem dX13_agreeFresh_192 : decode cX13_agreeFresh 192 = .ok (.getfield 14, 3) := by decide +kernel
theorem dX13_agreeFresh_195 : decode cX13_agreeFresh 195 = .ok (.iload 4, 2) := by decide +kernel
theorem dX13_agreeFresh_197 : decode cX13_agreeFresh 197 = .ok (.aload_n 0, 1) := by decide +kernel
theorem dX13_agreeFresh_198 : decode cX13_agreeFresh 198 = .ok (.getfield 186, 3) := by decide +kernel
theorem dX13_agreeFresh_201 : decode cX13_agreeFresh 201 = .ok (.iconst 0, 1) := by decide +kernel
theorem dX13_agreeFresh_202 : decode cX13_agreeFresh 202 = .ok (.iload_n 2, 1) := by decide +kernel
theorem dX13_agreeFresh_203 : decode cX13_agreeFresh 203 = .ok (.iload_n 3, 1) := by decide +kernel
theorem dX13_agreeFresh_204 : decode cX13_agreeFresh 204 = .ok (.invokevirtual 1057, 3) := by decide +kernel
theorem dX13_agreeFresh_207 : decode cX13_agreeFresh 207 = .ok (.istore 7, 2) := by decide +kernel
theorem dX13_agreeFresh_209 : decode cX13_agreeFresh 209 = .ok (.return_, 1) := by decide +kernel
abbrev rmX13_agreeFresh : Room := { frames := 7, cells := 0, slots := 0, locals := 179 }
set_option maxHeartbeats 4000000 in
set_option maxRecDepth 100000 in
theorem wB_X13_agreeFresh_139 {G : mG} {F : Nat} {x : mXT} {sz : Nat} {M0 : mM} (X : mCX G RX13 cX13_agreeFresh 8 none "agreeFresh" rmX13_agreeFresh x) (hQ : mQV x M0 (sz, 0, 0)) {l0 : Nat} {l1 : Int32} {l2 : Int32} {l3 : Int32} {l4 : Int32} {sk0 : Nat} {sk1 : Int32} {M : mM} (h : B_X13_agreeFresh_139 G F l0 l1 l2 l3 l4 sk0 sk1 M = some M0) : WW x (sz, 0, 0) M 139 [(0, .ref l0), (1, .int l1), (2, .int l2), (3, .int l3), (4, .int l4)] [.int sk1, .ref sk0] := by
  unfold B_X13_agreeFresh_139 at h
  refine ww_aload_n 139 X dX13_agreeFresh_139 0 rfl rfl ?_
  obtain ⟨v140, e140, h⟩ := bO_some h
  refine ww_getR 140 X dX13_agreeFresh_140 fG_X13_254 e140 ?_
  refine ww_iconst 143 X (v := (0 : Int32)) dX13_agreeFresh_143 (by decide) ?_
  refine ww_aload_n 144 X dX13_agreeFresh_144 0 rfl rfl ?_
  obtain ⟨v145, e145, h⟩ := bO_some h
  refine ww_getI 145 X dX13_agreeFresh_145 fG_X13_947 e145 ?_
  obtain ⟨M148, e148, h⟩ := bO_some h
  refine ww_callSV0 148 X dX13_agreeFresh_148 mY_X13_move mL_X13_317 (As := [.ref sk0, .int sk1, .ref v140, .int (0 : Int32), .int v145]) (rest := []) rfl rfl ⟨Nat.le_of_ble_eq_true rfl, Nat.le_of_ble_eq_true rfl⟩ (Nat.le_of_ble_eq_true rfl) (fun l D A => c_X13_move l D A e148) ?_
  refine ww_aload_n 151 X dX13_agreeFresh_151 0 rfl rfl ?_
  obtain ⟨v152, e152, h⟩ := bO_some h
  refine ww_getR 152 X dX13_agreeFresh_152 fG_X13_205 e152 ?_
  refine ww_sipush 155 X (v := (128 : Int32)) dX13_agreeFresh_155 (by decide) ?_
  refine ww_iload_n 158 X dX13_agreeFresh_158 1 rfl rfl ?_
  refine ww_imul 159 X dX13_agreeFresh_159 ?_
  refine ww_aload_n 160 X dX13_agreeFresh_160 0 rfl rfl ?_
  obtain ⟨v161, e161, h⟩ := bO_some h
  refine ww_getR 161 X dX13_agreeFresh_161 fG_X13_186 e161 ?_
  refine ww_iconst 164 X (v := (0 : Int32)) dX13_agreeFresh_164 (by decide) ?_
  refine ww_bipush 165 X (v := (32 : Int32)) dX13_agreeFresh_165 (by decide) ?_
  obtain ⟨M167, e167, h⟩ := bO_some h
  refine ww_callSV0 167 X dX13_agreeFresh_167 mY_X13_move mL_X13_317 (As := [.ref v152, .int ((128 : Int32) * l1), .ref v161, .int (0 : Int32), .int (32 : Int32)]) (rest := []) rfl rfl ⟨Nat.le_of_ble_eq_true rfl, Nat.le_of_ble_eq_true rfl⟩ (Nat.le_of_ble_eq_true rfl) (fun l D A => c_X13_move l D A e167) ?_
  refine ww_aload_n 170 X dX13_agreeFresh_170 0 rfl rfl ?_
  obtain ⟨v171, e171, h⟩ := bO_some h
  refine ww_getR 171 X dX13_agreeFresh_171 fG_X13_211 e171 ?_
  refine ww_sipush 174 X (v := (128 : Int32)) dX13_agreeFresh_174 (by decide) ?_
  refine ww_iload_n 177 X dX13_agreeFresh_177 1 rfl rfl ?_
  refine ww_imul 178 X dX13_agreeFresh_178 ?_
  refine ww_aload_n 179 X dX13_agreeFresh_179 0 rfl rfl ?_
  obtain ⟨v180, e180, h⟩ := bO_some h
  refine ww_getR 180 X dX13_agreeFresh_180 fG_X13_186 e180 ?_
  refine ww_bipush 183 X (v := (32 : Int32)) dX13_agreeFresh_183 (by decide) ?_
  refine ww_bipush 185 X (v := (32 : Int32)) dX13_agreeFresh_185 (by decide) ?_
  obtain ⟨M187, e187, h⟩ := bO_some h
  refine ww_callSV0 187 X dX13_agreeFresh_187 mY_X13_move mL_X13_317 (As := [.ref v171, .int ((128 : Int32) * l1), .ref v180, .int (32 : Int32), .int (32 : Int32)]) (rest := []) rfl rfl ⟨Nat.le_of_ble_eq_true rfl, Nat.le_of_ble_eq_true rfl⟩ (Nat.le_of_ble_eq_true rfl) (fun l D A => c_X13_move l D A e187) ?_
  refine ww_aload_n 190 X dX13_agreeFresh_190 0 rfl rfl ?_
  refine ww_aload_n 191 X dX13_agreeFresh_191 0 rfl rfl ?_
  obtain ⟨v192, e192, h⟩ := bO_some h
  refine ww_getR 192 X dX13_agreeFresh_192 fG_X13_14 e192 ?_
  refine ww_iload 195 X dX13_agreeFresh_195 4 rfl ?_
  refine ww_aload_n 197 X dX13_agreeFresh_197 0 rfl rfl ?_
  obtain ⟨v198, e198, h⟩ := bO_some h
  refine ww_getR 198 X dX13_agreeFresh_198 fG_X13_186 e198 ?_
  refine ww_iconst 201 X (v := (0 : Int32)) dX13_agreeFresh_201 (by decide) ?_
  refine ww_iload_n 202 X dX13_agreeFresh_202 2 rfl rfl ?_
  refine ww_iload_n 203 X dX13_agreeFresh_203 3 rfl rfl ?_
  obtain ⟨_, f204, h⟩ := bO_some h
  obtain ⟨v204, M204, e204, h⟩ := bP_some h
  refine ww_callVI0 204 X dX13_agreeFresh_204 mY_X13_agree mL_X13_1057 (rcv_spec f204) ⟨_, _, rfl⟩ (by decide) (As := [.ref v192, .int l4, .ref v198, .int (0 : Int32), .int l2, .int l3]) (rest := []) rfl rfl ⟨Nat.le_of_ble_eq_true rfl, Nat.le_of_ble_eq_true rfl⟩ (Nat.le_of_ble_eq_true rfl) (fun l D A => c_X13_agree l D A e204) ?_
  refine ww_istore 207 X dX13_agreeFresh_207 (lv' := [(0, .ref l0), (1, .int l1), (2, .int l2), (3, .int l3), (4, .int l4), (7, .int v204)]) (by decide) [1, 2, 3, 4, 5, 0] rfl ?_
  exact ww_vretE 209 X hQ dX13_agreeFresh_209 h
set_option maxHeartbeats 4000000 in
set_option maxRecDepth 100000 in
theorem wB_X13_agreeFresh_107 {G : mG} {F : Nat} {x : mXT} {sz : Nat} {M0 : mM} (X : mCX G RX13 cX13_agreeFresh 8 none "agreeFresh" rmX13_agreeFresh x) (hQ : mQV x M0 (sz, 0, 0)) {l0 : Nat} {l1 : Int32} {l2 : Int32} {l3 : Int32} {l4 : Int32} {l6 : Int32} {sk0 : Nat} {sk1 : Int32} {M : mM} (h : B_X13_agreeFresh_107 G F l0 l1 l2 l3 l4 l6 sk0 sk1 M = some M0) : WW x (sz, 0, 0) M 107 [(0, .ref l0), (1, .int l1), (2, .int l2), (3, .int l3), (4, .int l4), (6, .int l6)] [.int sk1, .ref sk0] := by
  unfold B_X13_agreeFresh_107 at h
  refine ww_aload_n 107 X dX13_agreeFresh_107 0 rfl rfl ?_
  obtain ⟨v108, e108, h⟩ := bO_some h
  refine ww_getR 108 X dX13_agreeFresh_108 fG_X13_251 e108 ?_
  refine ww_iconst 111 X (v := (0 : Int32)) dX13_agreeFresh_111 (by decide) ?_
  refine ww_aload_n 112 X dX13_agreeFresh_112 0 rfl rfl ?_
  obtain ⟨v113, e113, h⟩ := bO_some h
  refine ww_getI 113 X dX13_agreeFresh_113 fG_X13_942 e113 ?_
  obtain ⟨M116, e116, h⟩ := bO_some h
  refine ww_callSV0 116 X dX13_agreeFresh_116 mY_X13_move mL_X13_317 (As := [.ref sk0, .int sk1, .ref v108, .int (0 : Int32), .int v113]) (rest := []) rfl rfl ⟨Nat.le_of_ble_eq_true rfl, Nat.le_of_ble_eq_true rfl⟩ (Nat.le_of_ble_eq_true rfl) (fun l D A => c_X13_move l D A e116) ?_
  refine ww_aload_n 119 X dX13_agreeFresh_119 0 rfl rfl ?_
  obtain ⟨v120, e120, h⟩ := bO_some h
  refine ww_getR 120 X dX13_agreeFresh_120 fG_X13_14 e120 ?_
  refine ww_iload 123 X dX13_agreeFresh_123 5 rfl ?_
  refine ww_iconst 125 X (v := (-1 : Int32)) dX13_agreeFresh_125 (by decide) ?_
  refine ww_icmp_ne 126 133 X dX13_agreeFresh_126 (by decide) (fun q => ?_) (fun q => ?_)
  · replace h := (if_neg q).symm.trans h
    refine ww_sipush 133 X (v := (8192 : Int32)) dX13_agreeFresh_133 (by decide) ?_
    refine ww_iload 136 X dX13_agreeFresh_136 5 rfl ?_
    refine ww_imul 138 X dX13_agreeFresh_138 ?_
    exact ww_sub [0, 1, 2, 3, 4] rfl (wB_X13_agreeFresh_139 X hQ h)
  · replace h := (if_pos q).symm.trans h
    refine ww_iconst 129 X (v := (0 : Int32)) dX13_agreeFresh_129 (by decide) ?_
    refine ww_goto 130 139 X dX13_agreeFresh_130 (by decide) ?_
    exact ww_sub [0, 1, 2, 3, 4] rfl (wB_X13_agreeFresh_139 X hQ h)
set_option maxHeartbeats 4000000 in
set_option maxRecDepth 100000 in
theorem wB_X13_agreeFresh_84 {G : mG} {F : Nat} {x : mXT} {sz : Nat} {M0 : mM} (X : mCX G RX13 cX13_agreeFresh 8 none "agreeFresh" rmX13_agreeFresh x) (hQ : mQV x M0 (sz, 0, 0)) {l0 : Nat} {l1 : Int32} {l2 : Int32} {l3 : Int32} {l4 : Int32} {l5 : Int32} {l6 : Int32} {sk0 : Nat} {sk1 : Int32} {M : mM} (h : B_X13_agreeFresh_84 G F l0 l1 l2 l3 l4 l5 l6 sk0 sk1 M = some M0) : WW x (sz, 0, 0) M 84 [(0, .ref l0), (1, .int l1), (2, .int l2), (3, .int l3), (4, .int l4), (5, .int l5), (6, .int l6)] [.int sk1, .ref sk0] := by
  unfold B_X13_agreeFresh_84 at h
  obtain ⟨M84, e84, h⟩ := bO_some h
  refine ww_putI 84 X dX13_agreeFresh_84 (fP_X13_947 _) e84 ?_
  refine ww_aload_n 87 X dX13_agreeFresh_87 0 rfl rfl ?_
  obtain ⟨v88, e88, h⟩ := bO_some h
  refine ww_getR 88 X dX13_agreeFresh_88 fG_X13_14 e88 ?_
  refine ww_iload 91 X dX13_agreeFresh_91 5 rfl ?_
  refine ww_iconst 93 X (v := (-1 : Int32)) dX13_agreeFresh_93 (by decide) ?_
  refine ww_icmp_ne 94 101 X dX13_agreeFresh_94 (by decide) (fun q => ?_) (fun q => ?_)
  · replace h := (if_neg q).symm.trans h
    refine ww_sipush 101 X (v := (8192 : Int32)) dX13_agreeFresh_101 (by decide) ?_
    refine ww_iload 104 X dX13_agreeFresh_104 5 rfl ?_
    refine ww_imul 106 X dX13_agreeFresh_106 ?_
    exact ww_sub [0, 1, 2, 3, 4, 6] rfl (wB_X13_agreeFresh_107 X hQ h)
  · replace h := (if_pos q).symm.trans h
    refine ww_iconst 97 X (v := (0 : Int32)) dX13_agreeFresh_97 (by decide) ?_
    refine ww_goto 98 107 X dX13_agreeFresh_98 (by decide) ?_
    exact ww_sub [0, 1, 2, 3, 4, 6] rfl (wB_X13_agreeFresh_107 X hQ h)
set_option maxHeartbeats 4000000 in
set_option maxRecDepth 100000 in
theorem wB_X13_agreeFresh_63 {G : mG} {F : Nat} {x : mXT} {sz : Nat} {M0 : mM} (X : mCX G RX13 cX13_agreeFresh 8 none "agreeFresh" rmX13_agreeFresh x) (hQ : mQV x M0 (sz, 0, 0)) {l0 : Nat} {l1 : Int32} {l2 : Int32} {l3 : Int32} {l4 : Int32} {l5 : Int32} {l6 : Int32} {sk0 : Nat} {sk1 : Int32} {M : mM} (h : B_X13_agreeFresh_63 G F l0 l1 l2 l3 l4 l5 l6 sk0 sk1 M = some M0) : WW x (sz, 0, 0) M 63 [(0, .ref l0), (1, .int l1), (2, .int l2), (3, .int l3), (4, .int l4), (5, .int l5), (6, .int l6)] [.int sk1, .ref sk0] := by
  unfold B_X13_agreeFresh_63 at h
  obtain ⟨M63, e63, h⟩ := bO_some h
  refine ww_putI 63 X dX13_agreeFresh_63 (fP_X13_942 _) e63 ?_
  refine ww_aload_n 66 X dX13_agreeFresh_66 0 rfl rfl ?_
  refine ww_iload 67 X dX13_agreeFresh_67 6 rfl ?_
  refine ww_iconst 69 X (v := (-1 : Int32)) dX13_agreeFresh_69 (by decide) ?_
  refine ww_icmp_ne 70 77 X dX13_agreeFresh_70 (by decide) (fun q => ?_) (fun q => ?_)
  · replace h := (if_neg q).symm.trans h
    refine ww_aload_n 77 X dX13_agreeFresh_77 0 rfl rfl ?_
    obtain ⟨v78, e78, h⟩ := bO_some h
    refine ww_getR 78 X dX13_agreeFresh_78 fG_X13_17 e78 ?_
    refine ww_iload 81 X dX13_agreeFresh_81 6 rfl ?_
    obtain ⟨v83, e83, h⟩ := bO_some h
    refine ww_iald 83 X dX13_agreeFresh_83 e83 ?_
    exact (wB_X13_agreeFresh_84 X hQ h)
  · replace h := (if_pos q).symm.trans h
    refine ww_iconst 73 X (v := (0 : Int32)) dX13_agreeFresh_73 (by decide) ?_
    refine ww_goto 74 84 X dX13_agreeFresh_74 (by decide) ?_
    exact (wB_X13_agreeFresh_84 X hQ h)
set_option maxHeartbeats 4000000 in
set_option maxRecDepth 100000 in
theorem wB_X13_agreeFresh_43 {G : mG} {F : Nat} {x : mXT} {sz : Nat} {M0 : mM} (X : mCX G RX13 cX13_agreeFresh 8 none "agreeFresh" rmX13_agreeFresh x) (hQ : mQV x M0 (sz, 0, 0)) {l0 : Nat} {l1 : Int32} {l2 : Int32} {l3 : Int32} {l4 : Int32} {l5 : Int32} {l6 : Int32} {sk0 : Int32} {M : mM} (h : B_X13_agreeFresh_43 G F l0 l1 l2 l3 l4 l5 l6 sk0 M = some M0) : WW x (sz, 0, 0) M 43 [(0, .ref l0), (1, .int l1), (2, .int l2), (3, .int l3), (4, .int l4), (5, .int l5), (6, .int l6)] [.int sk0] := by
  unfold B_X13_agreeFresh_43 at h
  refine ww_istore 43 X dX13_agreeFresh_43 (lv' := [(0, .ref l0), (1, .int l1), (2, .int l2), (3, .int l3), (4, .int l4), (5, .int l5), (6, .int l6), (7, .int sk0)]) (by decide) [1, 2, 3, 4, 5, 6, 7, 0] rfl ?_
  refine ww_aload_n 45 X dX13_agreeFresh_45 0 rfl rfl ?_
  refine ww_iload 46 X dX13_agreeFresh_46 5 rfl ?_
  refine ww_iconst 48 X (v := (-1 : Int32)) dX13_agreeFresh_48 (by decide) ?_
  refine ww_icmp_ne 49 56 X dX13_agreeFresh_49 (by decide) (fun q => ?_) (fun q => ?_)
  · replace h := (if_neg q).symm.trans h
    refine ww_aload_n 56 X dX13_agreeFresh_56 0 rfl rfl ?_
    obtain ⟨v57, e57, h⟩ := bO_some h
    refine ww_getR 57 X dX13_agreeFresh_57 fG_X13_17 e57 ?_
    refine ww_iload 60 X dX13_agreeFresh_60 5 rfl ?_
    obtain ⟨v62, e62, h⟩ := bO_some h
    refine ww_iald 62 X dX13_agreeFresh_62 e62 ?_
    exact ww_sub [0, 1, 2, 3, 4, 5, 6] rfl (wB_X13_agreeFresh_63 X hQ h)
  · replace h := (if_pos q).symm.trans h
    refine ww_iconst 52 X (v := (0 : Int32)) dX13_agreeFresh_52 (by decide) ?_
    refine ww_goto 53 63 X dX13_agreeFresh_53 (by decide) ?_
    exact ww_sub [0, 1, 2, 3, 4, 5, 6] rfl (wB_X13_agreeFresh_63 X hQ h)
set_option maxHeartbeats 4000000 in
set_option maxRecDepth 100000 in
theorem wP_X13_agreeFresh {G : mG} {F : Nat} {x : mXT} {sz : Nat} {M0 : mM} (X : mCX G RX13 cX13_agreeFresh 8 none "agreeFresh" rmX13_agreeFresh x) (hQ : mQV x M0 (sz, 0, 0)) {l0 : Nat} {l1 : Int32} {l2 : Int32} {l3 : Int32} {l4 : Int32} {l5 : Int32} {l6 : Int32} {M : mM} (h : P_X13_agreeFresh G F l0 l1 l2 l3 l4 l5 l6 M = some M0) : WW x (sz, 0, 0) M 0 [(0, .ref l0), (1, .int l1), (2, .int l2), (3, .int l3), (4, .int l4), (5, .int l5), (6, .int l6)] [] := by
  unfold P_X13_agreeFresh at h
  refine ww_aload_n 0 X dX13_agreeFresh_0 0 rfl rfl ?_
  refine ww_aload_n 1 X dX13_agreeFresh_1 0 rfl rfl ?_
  obtain ⟨v2, e2, h⟩ := bO_some h
  refine ww_getR 2 X dX13_agreeFresh_2 fG_X13_147 e2 ?_
  refine ww_iconst 5 X (v := (0 : Int32)) dX13_agreeFresh_5 (by decide) ?_
  obtain ⟨_, f6, h⟩ := bO_some h
  obtain ⟨v6, M6, e6, h⟩ := bP_some h
  refine ww_callVI0 6 X dX13_agreeFresh_6 mY_X13_setPoint mL_X13_766 (rcv_spec f6) ⟨_, _, rfl⟩ (by decide) (As := [.ref v2, .int (0 : Int32)]) (rest := []) rfl rfl ⟨Nat.le_of_ble_eq_true rfl, Nat.le_of_ble_eq_true rfl⟩ (Nat.le_of_ble_eq_true rfl) (fun l D A => c_X13_setPoint l D A e6) ?_
  refine ww_istore 9 X dX13_agreeFresh_9 (lv' := [(0, .ref l0), (1, .int l1), (2, .int l2), (3, .int l3), (4, .int l4), (5, .int l5), (6, .int l6), (7, .int v6)]) (by decide) [1, 2, 3, 4, 5, 6, 7, 0] rfl ?_
  refine ww_aload_n 11 X dX13_agreeFresh_11 0 rfl rfl ?_
  refine ww_aload_n 12 X dX13_agreeFresh_12 0 rfl rfl ?_
  obtain ⟨v13, e13, h⟩ := bO_some h
  refine ww_getR 13 X dX13_agreeFresh_13 fG_X13_14 e13 ?_
  refine ww_iload 16 X dX13_agreeFresh_16 4 rfl ?_
  obtain ⟨_, f18, h⟩ := bO_some h
  obtain ⟨M18, e18, h⟩ := bO_some h
  refine ww_callVV0 18 X dX13_agreeFresh_18 mY_X13_times_ mL_X13_770 (rcv_spec f18) ⟨_, _, rfl⟩ (by decide) (As := [.ref v13, .int l4]) (rest := []) rfl rfl ⟨Nat.le_of_ble_eq_true rfl, Nat.le_of_ble_eq_true rfl⟩ (Nat.le_of_ble_eq_true rfl) (fun l D A => c_X13_times_ l D A e18) ?_
  refine ww_iload 21 X dX13_agreeFresh_21 7 rfl ?_
  refine ww_if_eq 23 42 X dX13_agreeFresh_23 (by decide) (fun q => ?_) (fun q => ?_)
  · replace h := (if_pos q).symm.trans h
    refine ww_iconst 42 X (v := (0 : Int32)) dX13_agreeFresh_42 (by decide) ?_
    exact ww_sub [0, 1, 2, 3, 4, 5, 6] rfl (wB_X13_agreeFresh_43 X hQ h)
  · replace h := (if_neg q).symm.trans h
    refine ww_aload_n 26 X dX13_agreeFresh_26 0 rfl rfl ?_
    refine ww_aload_n 27 X dX13_agreeFresh_27 0 rfl rfl ?_
    obtain ⟨v28, e28, h⟩ := bO_some h
    refine ww_getR 28 X dX13_agreeFresh_28 fG_X13_248 e28 ?_
    refine ww_iconst 31 X (v := (0 : Int32)) dX13_agreeFresh_31 (by decide) ?_
    obtain ⟨_, f32, h⟩ := bO_some h
    obtain ⟨v32, M32, e32, h⟩ := bP_some h
    refine ww_callVI0 32 X dX13_agreeFresh_32 mY_X13_getPoint mL_X13_772 (rcv_spec f32) ⟨_, _, rfl⟩ (by decide) (As := [.ref v28, .int (0 : Int32)]) (rest := []) rfl rfl ⟨Nat.le_of_ble_eq_true rfl, Nat.le_of_ble_eq_true rfl⟩ (Nat.le_of_ble_eq_true rfl) (fun l D A => c_X13_getPoint l D A e32) ?_
    refine ww_if_eq 35 42 X dX13_agreeFresh_35 (by decide) (fun q => ?_) (fun q => ?_)
    · replace h := (if_pos q).symm.trans h
      refine ww_iconst 42 X (v := (0 : Int32)) dX13_agreeFresh_42 (by decide) ?_
      exact ww_sub [0, 1, 2, 3, 4, 5, 6] rfl (wB_X13_agreeFresh_43 X hQ h)
    · replace h := (if_neg q).symm.trans h
      refine ww_iconst 38 X (v := (1 : Int32)) dX13_agreeFresh_38 (by decide) ?_
      refine ww_goto 39 43 X dX13_agreeFresh_39 (by decide) ?_
      exact ww_sub [0, 1, 2, 3, 4, 5, 6] rfl (wB_X13_agreeFresh_43 X hQ h)
theorem c_X13_agreeFresh {G : mG} {F sz : Nat} {M0 : mM} (l : Launch) (D : mD) (A : Nat → Prop) {l0 : Nat} {l1 : Int32} {l2 : Int32} {l3 : Int32} {l4 : Int32} {l5 : Int32} {l6 : Int32} {M : mM} (h : P_X13_agreeFresh G F l0 l1 l2 l3 l4 l5 l6 M = some M0) : mMetV l D G A yX13_agreeFresh cX13_agreeFresh 8 none 7 179 0 0 [.ref l0, .int l1, .int l2, .int l3, .int l4, .int l5, .int l6] M sz M0 sz := mMetV_of l D G A (by decide) (Nat.le_of_ble_eq_true rfl) (fun x X hQ => wP_X13_agreeFresh X hQ h)
/-! SealedTokensModel.compose(IIIIIII)I -/
theorem dX13_compose_0 : decode cX13_compose 0 = .ok (.aload_n 0, 1) := by decide +kernel
theorem dX13_compose_1 : decode cX13_compose 1 = .ok (.iload_n 1, 1) := by decide +kernel
theorem dX13_compose_2 : decode cX13_compose 2 = .ok (.ldc_w 912, 3) := by decide +kernel
theorem dX13_compose_5 : decode cX13_compose 5 = .ok (.iload_n 2, 1) := by decide +kernel
theorem dX13_compose_6 : decode cX13_compose 6 = .ok (.iload_n 3, 1) := by decide +kernel
theorem dX13_compose_7 : decode cX13_compose 7 = .ok (.invokevirtual 999, 3) := by decide +kernel
theorem dX13_compose_10 : decode cX13_compose 10 = .ok (.iload_n 2, 1) := by decide +kernel
theorem dX13_compose_11 : decode cX13_compose 11 = .ok (.iconst 3, 1) := by decide +kernel
theorem dX13_compose_12 : decode cX13_compose 12 = .ok (.if_icmp .le 95, 3) := by decide +kernel
theorem dX13_compose_15 : decode cX13_compose 15 = .ok (.aload_n 0, 1) := by decide +kernel
theorem dX13_compose_16 : decode cX13_compose 16 = .ok (.ldc_w 1061, 3) := by decide +kernel
theorem dX13_compose_19 : decode cX13_compose 19 = .ok (.aload_n 0, 1) := by decide +kernel
theorem dX13_compose_20 : decode cX13_compose 20 = .ok (.getfield 248, 3) := by decide +kernel
theorem dX13_compose_23 : decode cX13_compose 23 = .ok (.iconst 0, 1) := by decide +kernel
theorem dX13_compose_24 : decode cX13_compose 24 = .ok (.bipush 32, 2) := by decide +kernel
theorem dX13_compose_26 : decode cX13_compose 26 = .ok (.invokevirtual 875, 3) := by decide +kernel
theorem dX13_compose_29 : decode cX13_compose 29 = .ok (.aload_n 0, 1) := by decide +kernel
theorem dX13_compose_30 : decode cX13_compose 30 = .ok (.ldc_w 889, 3) := by decide +kernel
theorem dX13_compose_33 : decode cX13_compose 33 = .ok (.aload_n 0, 1) := by decide +kernel
theorem dX13_compose_34 : decode cX13_compose 34 = .ok (.getfield 248, 3) := by decide +kernel
theorem dX13_compose_37 : decode cX13_compose 37 = .ok (.bipush 32, 2) := by decide +kernel
theorem dX13_compose_39 : decode cX13_compose 39 = .ok (.bipush 32, 2) := by decide +kernel
theorem dX13_compose_41 : decode cX13_compose 41 = .ok (.invokevirtual 875, 3) := by decide +kernel
theorem dX13_compose_44 : decode cX13_compose 44 = .ok (.aload_n 0, 1) := by decide +kernel
theorem dX13_compose_45 : decode cX13_compose 45 = .ok (.ldc_w 885, 3) := by decide +kernel
theorem dX13_compose_48 : decode cX13_compose 48 = .ok (.invokevirtual 477, 3) := by decide +kernel
theorem dX13_compose_51 : decode cX13_compose 51 = .ok (.iload 6, 2) := by decide +kernel
theorem dX13_compose_53 : decode cX13_compose 53 = .ok (.iconst (-1), 1) := by decide +kernel
theorem dX13_compose_54 : decode cX13_compose 54 = .ok (.if_icmp .eq 25, 3) := by decide +kernel
theorem dX13_compose_57 : decode cX13_compose 57 = .ok (.aload_n 0, 1) := by decide +kernel
theorem dX13_compose_58 : decode cX13_compose 58 = .ok (.ldc_w 1063, 3) := by decide +kernel
theorem dX13_compose_61 : decode cX13_compose 61 = .ok (.aload_n 0, 1) := by decide +kernel
theorem dX13_compose_62 : decode cX13_compose 62 = .ok (.getfield 251, 3) := by decide +kernel
theorem dX13_compose_65 : decode cX13_compose 65 = .ok (.iconst 0, 1) := by decide +kernel
theorem dX13_compose_66 : decode cX13_compose 66 = .ok (.aload_n 0, 1) := by decide +kernel
theorem dX13_compose_67 : decode cX13_compose 67 = .ok (.getfield 942, 3) := by decide +kernel
theorem dX13_compose_70 : decode cX13_compose 70 = .ok (.invokevirtual 875, 3) := by decide +kernel
theorem dX13_compose_73 : decode cX13_compose 73 = .ok (.aload_n 0, 1) := by decide +kernel
theorem dX13_compose_74 : decode cX13_compose 74 = .ok (.bipush 34, 2) := by decide +kernel
theorem dX13_compose_76 : decode cX13_compose 76 = .ok (.invokevirtual 470, 3) := by decide +kernel
theorem dX13_compose_79 : decode cX13_compose 79 = .ok (.iload 7, 2) := by decide +kernel
theorem dX13_compose_81 : decode cX13_compose 81 = .ok (.iconst (-1), 1) := by decide +kernel
theorem dX13_compose_82 : decode cX13_compose 82 = .ok (.if_icmp .eq 25, 3) := by decide +kernel
theorem dX13_compose_85 : decode cX13_compose 85 = .ok (.aload_n 0, 1) := by decide +kernel
theorem dX13_compose_86 : decode cX13_compose 86 = .ok (.ldc_w 1065, 3) := by decide +kernel
theorem dX13_compose_89 : decode cX13_compose 89 = .ok (.aload_n 0, 1) := by decide +kernel
theorem dX13_compose_90 : decode cX13_compose 90 = .ok (.getfield 254, 3) := by decide +kernel
theorem dX13_compose_93 : decode cX13_compose 93 = .ok (.iconst 0, 1) := by decide +kernel
theorem dX13_compose_94 : decode cX13_compose 94 = .ok (.aload_n 0, 1) := by decide +kernel
theorem dX13_compose_95 : decode cX13_compose 95 = .ok (.getfield 947, 3) := by decide +kernel
theorem dX13_compose_98 : decode cX13_compose 98 = .ok (.invokevirtual 875, 3) := by decide +kernel
theorem dX13_compose_101 : decode cX13_compose 101 = .ok (.aload_n 0, 1) := by decide +kernel
theorem dX13_compose_102 : decode cX13_compose 102 = .ok (.bipush 34, 2) := by decide +kernel
theorem dX13_compose_104 : decode cX13_compose 104 = .ok (.invokevirtual 470, 3) := by decide +kernel
theorem dX13_compose_107 : decode cX13_compose 107 = .ok (.aload_n 0, 1) := by decide +kernel
theorem dX13_compose_108 : decode cX13_compose 108 = .ok (.bipush 125, 2) := by decide +kernel
theorem dX13_compose_110 : decode cX13_compose 110 = .ok (.invokevirtual 470, 3) := by decide +kernel
theorem dX13_compose_113 : decode cX13_compose 113 = .ok (.aload_n 0, 1) := by decide +kernel
theorem dX13_compose_114 : decode cX13_compose 114 = .ok (.getfield 17, 3) := by decide +kernel
theorem dX13_compose_117 : decode cX13_compose 117 = .ok (.iload 4, 2) := by decide +kernel
theorem dX13_compose_119 : decode cX13_compose 119 = .ok (.iaload, 1) := by decide +kernel
theorem dX13_compose_120 : decode cX13_compose 120 = .ok (.istore 8, 2) := by decide +kernel
theorem dX13_compose_122 : decode cX13_compose 122 = .ok (.aload_n 0, 1) := by decide +kernel
theorem dX13_compose_123 : decode cX13_compose 123 = .ok (.getfield 467, 3) := by decide +kernel
theorem dX13_compose_126 : decode cX13_compose 126 = .ok (.sipush 8192, 3) := by decide +kernel
theorem dX13_compose_129 : decode cX13_compose 129 = .ok (.if_icmp .gt 11, 3) := by decide +kernel
theorem dX13_compose_132 : decode cX13_compose 132 = .ok (.iload 8, 2) := by decide +kernel
theorem dX13_compose_134 : decode cX13_compose 134 = .ok (.sipush 8000, 3) := by decide +kernel
theorem dX13_compose_137 : decode cX13_compose 137 = .ok (.if_icmp .le 6, 3) := by decide +kernel
theorem dX13_compose_140 : decode cX13_compose 140 = .ok (.bipush (-3), 2) := by decide +kernel
theorem dX13_compose_142 : decode cX13_compose 142 = .ok (.ireturn, 1) := by decide +kernel
theorem dX13_compose_143 : decode cX13_compose 143 = .ok (.aload_n 0, 1) := by decide +kernel
theorem dX13_compose_144 : decode cX13_compose 144 = .ok (.iconst 0, 1) := by decide +kernel
theorem dX13_compose_145 : decode cX13_compose 145 = .ok (.putfield 992, 3) := by decide +kernel
theorem dX13_compose_148 : decode cX13_compose 148 = .ok (.aload_n 0, 1) := by decide +kernel
theorem dX13_compose_149 : decode cX13_compose 149 = .ok (.aload_n 0, 1) := by decide +kernel
theorem dX13_compose_150 : decode cX13_compose 150 = .ok (.getfield 57, 3) := by decide +kernel
theorem dX13_compose_153 : decode cX13_compose 153 = .ok (.iconst 0, 1) := by decide +kernel
theorem dX13_compose_154 : decode cX13_compose 154 = .ok (.aload_n 0, 1) := by decide +kernel
theorem dX13_compose_155 : decode cX13_compose 155 = .ok (.getfield 467, 3) := by decide +kernel
theorem dX13_compose_158 : decode cX13_compose 158 = .ok (.invokevirtual 1014, 3) := by decide +kernel
theorem dX13_compose_161 : decode cX13_compose 161 = .ok (.aload_n 0, 1) := by decide +kernel
theorem dX13_compose_162 : decode cX13_compose 162 = .ok (.getfield 992, 3) := by decide +kernel
theorem dX13_compose_165 : decode cX13_compose 165 = .ok (.istore 9, 2) := by decide +kernel
theorem dX13_compose_167 : decode cX13_compose 167 = .ok (.aload_n 0, 1) := by decide +kernel
theorem dX13_compose_168 : decode cX13_compose 168 = .ok (.iload_n 3, 1) := by decide +kernel
theorem dX13_compose_169 : decode cX13_compose 169 = .ok (.aload_n 0, 1) := by decide +kernel
theorem dX13_compose_170 : decode cX13_compose 170 = .ok (.getfield 288, 3) := by decide +kernel
theorem dX13_compose_173 : decode cX13_compose 173 = .ok (.iconst 0, 1) := by decide +kernel
theorem dX13_compose_174 : decode cX13_compose 174 = .ok (.aload_n 0, 1) := by decide +kernel
theorem dX13_compose_175 : decode cX13_compose 175 = .ok (.getfield 14, 3) := by decide +kernel
theorem dX13_compose_178 : decode cX13_compose 178 = .ok (.iload 5, 2) := by decide +kernel
theorem dX13_compose_180 : decode cX13_compose 180 = .ok (.aload_n 0, 1) := by decide +kernel
theorem dX13_compose_181 : decode cX13_compose 181 = .ok (.getfield 279, 3) := by decide +kernel
theorem dX13_compose_184 : decode cX13_compose 184 = .ok (.iconst 0, 1) := by decide +kernel
theorem dX13_compose_185 : decode cX13_compose 185 = .ok (.iload 9, 2) := by decide +kernel
theorem dX13_compose_187 : decode cX13_compose 187 = .ok (.aload_n 0, 1) := by decide +kernel
theorem dX13_compose_188 : decode cX13_compose 188 = .ok (.getfield 14, 3) := by decide +kernel
theorem dX13_compose_191 : decode cX13_compose 191 = .ok (.sipush 8192, 3) := by decide +kernel
theorem dX13_compose_194 : decode cX13_compose 194 = .ok (.iload 4, 2) := by decide +kernel
theorem dX13_compose_196 : decode cX13_compose 196 = .ok (.imul, 1) := by decide +kernel
theorem dX13_compose_197 : decode cX13_compose 197 = .ok (.iload 8, 2) := by decide +kernel
theorem dX13_compose_199 : decode cX13_compose 199 = .ok (.invokevirtual 680, 3) := by decide +kernel
theorem dX13_compose_202 : decode cX13_compose 202 = .ok (.aload_n 0, 1) := by decide +kernel
theorem dX13_compose_203 : decode cX13_compose 203 = .ok (.bipush 46, 2) := by decide +kernel
theorem dX13_compose_205 : decode cX13_compose 205 = .ok (.invokevirtual 1017, 3) := by decide +kernel
theorem dX13_compose_208 : decode cX13_compose 208 = .ok (.aload_n 0, 1) := by decide +kernel
theorem dX13_compose_209 : decode cX13_compose 209 = .ok (.aload_n 0, 1) := by decide +kernel
theorem dX13_compose_210 : decode cX13_compose 210 = .ok (.getfield 291, 3) := by decide +kernel
theorem dX13_compose_213 : decode cX13_compose 213 = .ok (.iconst 0, 1) := by decide +kernel
theorem dX13_compose_214 : decode cX13_compose 214 = .ok (.aload_n 0, 1) := by decide +kernel
theorem dX13_compose_215 : decode cX13_compose 215 = .ok (.getfield 1038, 3) := by decide +kernel
theorem dX13_compose_218 : decode cX13_compose 218 = .ok (.invokevirtual 1014, 3) := by decide +kernel
theorem dX13_compose_221 : decode cX13_compose 221 = .ok (.aload_n 0, 1) := by decide +kernel
theorem dX13_compose_222 : decode cX13_compose 222 = .ok (.bipush 46, 2) := by decide +kernel
theorem dX13_compose_224 : decode cX13_compose 224 = .ok (.invokevirtual 1017, 3) := by decide +kernel
theorem dX13_compose_227 : decode cX13_compose 227 = .ok (.aload_n 0, 1) := by decide +kernel
theorem dX13_compose_228 : decode cX13_compose 228 = .ok (.aload_n 0, 1) := by decide +kernel
theorem dX13_compose_229 : decode cX13_compose 229 = .ok (.getfield 14, 3) := by decide +kernel
theorem dX13_compose_232 : decode cX13_compose 232 = .ok (.iload 5, 2) := by decide +kernel
theorem dX13_compose_234 : decode cX13_compose 234 = .ok (.iload_n 3, 1) := by decide +kernel
theorem dX13_compose_235 : decode cX13_compose 235 = .ok (.invokestatic 673, 3) := by decide +kernel
theorem dX13_compose_238 : decode cX13_compose 238 = .ok (.invokevirtual 1014, 3) := by decide +kernel
theorem dX13_compose_241 : decode cX13_compose 241 = .ok (.aload_n 0, 1) := by decide +kernel
theorem dX13_compose_242 : decode cX13_compose 242 = .ok (.bipush 46, 2) := by decide +kernel
theorem dX13_compose_244 : decode cX13_compose 244 = .ok (.invokevirtual 1017, 3) := by decide +kernel
theorem dX13_compose_247 : decode cX13_compose 247 = .ok (.aload_n 0, 1) := by decide +kernel
theorem dX13_compose_248 : decode cX13_compose 248 = .ok (.aload_n 0, 1) := by decide +kernel
theorem dX13_compose_249 : decode cX13_compose 249 = .ok (.getfield 110, 3) := by decide +kernel
theorem dX13_compose_252 : decode cX13_compose 252 = .ok (.iconst 0, 1) := by decide +kernel
theorem dX13_compose_253 : decode cX13_compose 253 = .ok (.aload_n 0, 1) := by decide +kernel
theorem dX13_compose_254 : decode cX13_compose 254 = .ok (.getfield 659, 3) := by decide +kernel
theorem dX13_compose_257 : decode cX13_compose 257 = .ok (.invokevirtual 1014, 3) := by decide +kernel
theorem dX13_compose_260 : decode cX13_compose 260 = .ok (.aload_n 0, 1) := by decide +kernel
theorem dX13_compose_261 : decode cX13_compose 261 = .ok (.bipush 46, 2) := by decide +kernel
theorem dX13_compose_263 : decode cX13_compose 263 = .ok (.invokevirtual 1017, 3) := by decide +kernel
theorem dX13_compose_266 : decode cX13_compose 266 = .ok (.aload_n 0, 1) := by decide +kernel
theorem dX13_compose_267 : decode cX13_compose 267 = .ok (.aload_n 0, 1) := by decide +kernel
theorem dX13_compose_268 : decode cX13_compose 268 = .ok (.getfield 113, 3) := by decide +kernel
theorem dX13_compose_271 : decode cX13_compose 271 = .ok (.iconst 0, 1) := by decide +kernel
theorem dX13_compose_272 : decode cX13_compose 272 = .ok (.iload_n 3, 1) := by decide +kernel
theorem dX13_compose_273 : decode cX13_compose 273 = .ok (.invokestatic 632, 3) := by decide +kernel
theorem dX13_compose_276 : decode cX13_compose 276 = .ok (.invokevirtual 1014, 3) := by decide +kernel
theorem dX13_compose_279 : decode cX13_compose 279 = .ok (.aload_n 0, 1) := by decide +kernel
theorem dX13_compose_280 : decode cX13_compose 280 = .ok (.invokevirtual 1023, 3) := by decide +kernel
theorem dX13_compose_283 : decode cX13_compose 283 = .ok (.ireturn, 1) := by decide +kernel
abbrev rmX13_compose : Room := { frames := 8, cells := 0, slots := 0, locals := 211 }
set_option maxHeartbeats 4000000 in
set_option maxRecDepth 100000 in
theorem wB_X13_compose_107 {G : mG} {F : Nat} {x : mXT} {sz : Nat} {r0 : Int32} {M0 : mM} (X : mCX G RX13 cX13_compose 10 (some .int) "compose" rmX13_compose x) (hQ : mQI x r0 M0 (sz, 0, 0)) {l0 : Nat} {l3 : Int32} {l4 : Int32} {l5 : Int32} {M : mM} (h : B_X13_compose_107 G F l0 l3 l4 l5 M = some (r0, M0)) : WW x (sz, 0, 0) M 107 [(0, .ref l0), (3, .int l3), (4, .int l4), (5, .int l5)] [] := by
  unfold B_X13_compose_107 at h
  refine ww_aload_n 107 X dX13_compose_107 0 rfl rfl ?_
  refine ww_bipush 108 X (v := (125 : Int32)) dX13_compose_108 (by decide) ?_
  obtain ⟨_, f110, h⟩ := bO_some h
  obtain ⟨M110, e110, h⟩ := bO_some h
  refine ww_callVV0 110 X dX13_compose_110 mY_X13_say mL_X13_470 (rcv_spec f110) ⟨_, _, rfl⟩ (by decide) (As := [.int (125 : Int32)]) (rest := []) rfl rfl ⟨Nat.le_of_ble_eq_true rfl, Nat.le_of_ble_eq_true rfl⟩ (Nat.le_of_ble_eq_true rfl) (fun l D A => c_X13_say l D A e110) ?_
  refine ww_aload_n 113 X dX13_compose_113 0 rfl rfl ?_
  obtain ⟨v114, e114, h⟩ := bO_some h
  refine ww_getR 114 X dX13_compose_114 fG_X13_17 e114 ?_
  refine ww_iload 117 X dX13_compose_117 2 rfl ?_
  obtain ⟨v119, e119, h⟩ := bO_some h
  refine ww_iald 119 X dX13_compose_119 e119 ?_
  refine ww_istore 120 X dX13_compose_120 (lv' := [(0, .ref l0), (3, .int l3), (4, .int l4), (5, .int l5), (8, .int v119)]) (by decide) [1, 2, 3, 4, 0] rfl ?_
  refine ww_aload_n 122 X dX13_compose_122 0 rfl rfl ?_
  obtain ⟨v123, e123, h⟩ := bO_some h
  refine ww_getI 123 X dX13_compose_123 fG_X13_467 e123 ?_
  refine ww_sipush 126 X (v := (8192 : Int32)) dX13_compose_126 (by decide) ?_
  refine ww_icmp_gt 129 140 X dX13_compose_129 (by decide) (fun q => ?_) (fun q => ?_)
  · replace h := (if_pos q).symm.trans h
    refine ww_bipush 140 X (v := (-3 : Int32)) dX13_compose_140 (by decide) ?_
    exact ww_iretE 142 X hQ dX13_compose_142 h
  · replace h := (if_neg q).symm.trans h
    refine ww_iload 132 X dX13_compose_132 4 rfl ?_
    refine ww_sipush 134 X (v := (8000 : Int32)) dX13_compose_134 (by decide) ?_
    refine ww_icmp_le 137 143 X dX13_compose_137 (by decide) (fun q => ?_) (fun q => ?_)
    · replace h := (if_pos q).symm.trans h
      refine ww_aload_n 143 X dX13_compose_143 0 rfl rfl ?_
      refine ww_iconst 144 X (v := (0 : Int32)) dX13_compose_144 (by decide) ?_
      obtain ⟨M145, e145, h⟩ := bO_some h
      refine ww_putI 145 X dX13_compose_145 (fP_X13_992 _) e145 ?_
      refine ww_aload_n 148 X dX13_compose_148 0 rfl rfl ?_
      refine ww_aload_n 149 X dX13_compose_149 0 rfl rfl ?_
      obtain ⟨v150, e150, h⟩ := bO_some h
      refine ww_getR 150 X dX13_compose_150 fG_X13_57 e150 ?_
      refine ww_iconst 153 X (v := (0 : Int32)) dX13_compose_153 (by decide) ?_
      refine ww_aload_n 154 X dX13_compose_154 0 rfl rfl ?_
      obtain ⟨v155, e155, h⟩ := bO_some h
      refine ww_getI 155 X dX13_compose_155 fG_X13_467 e155 ?_
      obtain ⟨_, f158, h⟩ := bO_some h
      obtain ⟨M158, e158, h⟩ := bO_some h
      refine ww_callVV0 158 X dX13_compose_158 mY_X13_addLetters mL_X13_1014 (rcv_spec f158) ⟨_, _, rfl⟩ (by decide) (As := [.ref v150, .int (0 : Int32), .int v155]) (rest := []) rfl rfl ⟨Nat.le_of_ble_eq_true rfl, Nat.le_of_ble_eq_true rfl⟩ (Nat.le_of_ble_eq_true rfl) (fun l D A => c_X13_addLetters l D A e158) ?_
      refine ww_aload_n 161 X dX13_compose_161 0 rfl rfl ?_
      obtain ⟨v162, e162, h⟩ := bO_some h
      refine ww_getI 162 X dX13_compose_162 fG_X13_992 e162 ?_
      refine ww_istore 165 X dX13_compose_165 (lv' := [(0, .ref l0), (3, .int l3), (4, .int l4), (5, .int l5), (8, .int v119), (9, .int v162)]) (by decide) [1, 2, 3, 4, 5, 0] rfl ?_
      refine ww_aload_n 167 X dX13_compose_167 0 rfl rfl ?_
      refine ww_iload_n 168 X dX13_compose_168 1 rfl rfl ?_
      refine ww_aload_n 169 X dX13_compose_169 0 rfl rfl ?_
      obtain ⟨v170, e170, h⟩ := bO_some h
      refine ww_getR 170 X dX13_compose_170 fG_X13_288 e170 ?_
      refine ww_iconst 173 X (v := (0 : Int32)) dX13_compose_173 (by decide) ?_
      refine ww_aload_n 174 X dX13_compose_174 0 rfl rfl ?_
      obtain ⟨v175, e175, h⟩ := bO_some h
      refine ww_getR 175 X dX13_compose_175 fG_X13_14 e175 ?_
      refine ww_iload 178 X dX13_compose_178 3 rfl ?_
      refine ww_aload_n 180 X dX13_compose_180 0 rfl rfl ?_
      obtain ⟨v181, e181, h⟩ := bO_some h
      refine ww_getR 181 X dX13_compose_181 fG_X13_279 e181 ?_
      refine ww_iconst 184 X (v := (0 : Int32)) dX13_compose_184 (by decide) ?_
      refine ww_iload 185 X dX13_compose_185 5 rfl ?_
      refine ww_aload_n 187 X dX13_compose_187 0 rfl rfl ?_
      obtain ⟨v188, e188, h⟩ := bO_some h
      refine ww_getR 188 X dX13_compose_188 fG_X13_14 e188 ?_
      refine ww_sipush 191 X (v := (8192 : Int32)) dX13_compose_191 (by decide) ?_
      refine ww_iload 194 X dX13_compose_194 2 rfl ?_
      refine ww_imul 196 X dX13_compose_196 ?_
      refine ww_iload 197 X dX13_compose_197 4 rfl ?_
      obtain ⟨_, f199, h⟩ := bO_some h
      obtain ⟨M199, e199, h⟩ := bO_some h
      refine ww_callVV0 199 X dX13_compose_199 mY_X13_sealIt mL_X13_680 (rcv_spec f199) ⟨_, _, rfl⟩ (by decide) (As := [.int l3, .ref v170, .int (0 : Int32), .ref v175, .int l5, .ref v181, .int (0 : Int32), .int v162, .ref v188, .int ((8192 : Int32) * l4), .int v119]) (rest := []) rfl rfl ⟨Nat.le_of_ble_eq_true rfl, Nat.le_of_ble_eq_true rfl⟩ (Nat.le_of_ble_eq_true rfl) (fun l D A => c_X13_sealIt l D A e199) ?_
      refine ww_aload_n 202 X dX13_compose_202 0 rfl rfl ?_
      refine ww_bipush 203 X (v := (46 : Int32)) dX13_compose_203 (by decide) ?_
      obtain ⟨_, f205, h⟩ := bO_some h
      obtain ⟨M205, e205, h⟩ := bO_some h
      refine ww_callVV0 205 X dX13_compose_205 mY_X13_addByte mL_X13_1017 (rcv_spec f205) ⟨_, _, rfl⟩ (by decide) (As := [.int (46 : Int32)]) (rest := []) rfl rfl ⟨Nat.le_of_ble_eq_true rfl, Nat.le_of_ble_eq_true rfl⟩ (Nat.le_of_ble_eq_true rfl) (fun l D A => c_X13_addByte l D A e205) ?_
      refine ww_aload_n 208 X dX13_compose_208 0 rfl rfl ?_
      refine ww_aload_n 209 X dX13_compose_209 0 rfl rfl ?_
      obtain ⟨v210, e210, h⟩ := bO_some h
      refine ww_getR 210 X dX13_compose_210 fG_X13_291 e210 ?_
      refine ww_iconst 213 X (v := (0 : Int32)) dX13_compose_213 (by decide) ?_
      refine ww_aload_n 214 X dX13_compose_214 0 rfl rfl ?_
      obtain ⟨v215, e215, h⟩ := bO_some h
      refine ww_getI 215 X dX13_compose_215 fG_X13_1038 e215 ?_
      obtain ⟨_, f218, h⟩ := bO_some h
      obtain ⟨M218, e218, h⟩ := bO_some h
      refine ww_callVV0 218 X dX13_compose_218 mY_X13_addLetters mL_X13_1014 (rcv_spec f218) ⟨_, _, rfl⟩ (by decide) (As := [.ref v210, .int (0 : Int32), .int v215]) (rest := []) rfl rfl ⟨Nat.le_of_ble_eq_true rfl, Nat.le_of_ble_eq_true rfl⟩ (Nat.le_of_ble_eq_true rfl) (fun l D A => c_X13_addLetters l D A e218) ?_
      refine ww_aload_n 221 X dX13_compose_221 0 rfl rfl ?_
      refine ww_bipush 222 X (v := (46 : Int32)) dX13_compose_222 (by decide) ?_
      obtain ⟨_, f224, h⟩ := bO_some h
      obtain ⟨M224, e224, h⟩ := bO_some h
      refine ww_callVV0 224 X dX13_compose_224 mY_X13_addByte mL_X13_1017 (rcv_spec f224) ⟨_, _, rfl⟩ (by decide) (As := [.int (46 : Int32)]) (rest := []) rfl rfl ⟨Nat.le_of_ble_eq_true rfl, Nat.le_of_ble_eq_true rfl⟩ (Nat.le_of_ble_eq_true rfl) (fun l D A => c_X13_addByte l D A e224) ?_
      refine ww_aload_n 227 X dX13_compose_227 0 rfl rfl ?_
      refine ww_aload_n 228 X dX13_compose_228 0 rfl rfl ?_
      obtain ⟨v229, e229, h⟩ := bO_some h
      refine ww_getR 229 X dX13_compose_229 fG_X13_14 e229 ?_
      refine ww_iload 232 X dX13_compose_232 3 rfl ?_
      refine ww_iload_n 234 X dX13_compose_234 1 rfl rfl ?_
      obtain ⟨v235, M235, e235, h⟩ := bP_some h
      refine ww_callSI0 235 X dX13_compose_235 mY_X13_beginningOf mL_X13_673 (As := [.int l3]) (rest := [.int l5, .ref v229, .ref l0]) rfl rfl ⟨Nat.le_of_ble_eq_true rfl, Nat.le_of_ble_eq_true rfl⟩ (Nat.le_of_ble_eq_true rfl) (fun l D A => c_X13_beginningOf l D A e235) ?_
      obtain ⟨_, f238, h⟩ := bO_some h
      obtain ⟨M238, e238, h⟩ := bO_some h
      refine ww_callVV0 238 X dX13_compose_238 mY_X13_addLetters mL_X13_1014 (rcv_spec f238) ⟨_, _, rfl⟩ (by decide) (As := [.ref v229, .int l5, .int v235]) (rest := []) rfl rfl ⟨Nat.le_of_ble_eq_true rfl, Nat.le_of_ble_eq_true rfl⟩ (Nat.le_of_ble_eq_true rfl) (fun l D A => c_X13_addLetters l D A e238) ?_
      refine ww_aload_n 241 X dX13_compose_241 0 rfl rfl ?_
      refine ww_bipush 242 X (v := (46 : Int32)) dX13_compose_242 (by decide) ?_
      obtain ⟨_, f244, h⟩ := bO_some h
      obtain ⟨M244, e244, h⟩ := bO_some h
      refine ww_callVV0 244 X dX13_compose_244 mY_X13_addByte mL_X13_1017 (rcv_spec f244) ⟨_, _, rfl⟩ (by decide) (As := [.int (46 : Int32)]) (rest := []) rfl rfl ⟨Nat.le_of_ble_eq_true rfl, Nat.le_of_ble_eq_true rfl⟩ (Nat.le_of_ble_eq_true rfl) (fun l D A => c_X13_addByte l D A e244) ?_
      refine ww_aload_n 247 X dX13_compose_247 0 rfl rfl ?_
      refine ww_aload_n 248 X dX13_compose_248 0 rfl rfl ?_
      obtain ⟨v249, e249, h⟩ := bO_some h
      refine ww_getR 249 X dX13_compose_249 fG_X13_110 e249 ?_
      refine ww_iconst 252 X (v := (0 : Int32)) dX13_compose_252 (by decide) ?_
      refine ww_aload_n 253 X dX13_compose_253 0 rfl rfl ?_
      obtain ⟨v254, e254, h⟩ := bO_some h
      refine ww_getI 254 X dX13_compose_254 fG_X13_659 e254 ?_
      obtain ⟨_, f257, h⟩ := bO_some h
      obtain ⟨M257, e257, h⟩ := bO_some h
      refine ww_callVV0 257 X dX13_compose_257 mY_X13_addLetters mL_X13_1014 (rcv_spec f257) ⟨_, _, rfl⟩ (by decide) (As := [.ref v249, .int (0 : Int32), .int v254]) (rest := []) rfl rfl ⟨Nat.le_of_ble_eq_true rfl, Nat.le_of_ble_eq_true rfl⟩ (Nat.le_of_ble_eq_true rfl) (fun l D A => c_X13_addLetters l D A e257) ?_
      refine ww_aload_n 260 X dX13_compose_260 0 rfl rfl ?_
      refine ww_bipush 261 X (v := (46 : Int32)) dX13_compose_261 (by decide) ?_
      obtain ⟨_, f263, h⟩ := bO_some h
      obtain ⟨M263, e263, h⟩ := bO_some h
      refine ww_callVV0 263 X dX13_compose_263 mY_X13_addByte mL_X13_1017 (rcv_spec f263) ⟨_, _, rfl⟩ (by decide) (As := [.int (46 : Int32)]) (rest := []) rfl rfl ⟨Nat.le_of_ble_eq_true rfl, Nat.le_of_ble_eq_true rfl⟩ (Nat.le_of_ble_eq_true rfl) (fun l D A => c_X13_addByte l D A e263) ?_
      refine ww_aload_n 266 X dX13_compose_266 0 rfl rfl ?_
      refine ww_aload_n 267 X dX13_compose_267 0 rfl rfl ?_
      obtain ⟨v268, e268, h⟩ := bO_some h
      refine ww_getR 268 X dX13_compose_268 fG_X13_113 e268 ?_
      refine ww_iconst 271 X (v := (0 : Int32)) dX13_compose_271 (by decide) ?_
      refine ww_iload_n 272 X dX13_compose_272 1 rfl rfl ?_
      obtain ⟨v273, M273, e273, h⟩ := bP_some h
      refine ww_callSI0 273 X dX13_compose_273 mY_X13_markOf mL_X13_632 (As := [.int l3]) (rest := [.int (0 : Int32), .ref v268, .ref l0]) rfl rfl ⟨Nat.le_of_ble_eq_true rfl, Nat.le_of_ble_eq_true rfl⟩ (Nat.le_of_ble_eq_true rfl) (fun l D A => c_X13_markOf l D A e273) ?_
      obtain ⟨_, f276, h⟩ := bO_some h
      obtain ⟨M276, e276, h⟩ := bO_some h
      refine ww_callVV0 276 X dX13_compose_276 mY_X13_addLetters mL_X13_1014 (rcv_spec f276) ⟨_, _, rfl⟩ (by decide) (As := [.ref v268, .int (0 : Int32), .int v273]) (rest := []) rfl rfl ⟨Nat.le_of_ble_eq_true rfl, Nat.le_of_ble_eq_true rfl⟩ (Nat.le_of_ble_eq_true rfl) (fun l D A => c_X13_addLetters l D A e276) ?_
      refine ww_aload_n 279 X dX13_compose_279 0 rfl rfl ?_
      obtain ⟨_, f280, h⟩ := bO_some h
      obtain ⟨v280, M280, e280, h⟩ := bP_some h
      refine ww_callVI0 280 X dX13_compose_280 mY_X13_saidOut mL_X13_1023 (rcv_spec f280) ⟨_, _, rfl⟩ (by decide) (As := []) (rest := []) rfl rfl ⟨Nat.le_of_ble_eq_true rfl, Nat.le_of_ble_eq_true rfl⟩ (Nat.le_of_ble_eq_true rfl) (fun l D A => c_X13_saidOut l D A e280) ?_
      exact ww_iretE 283 X hQ dX13_compose_283 h
    · replace h := (if_neg q).symm.trans h
      refine ww_bipush 140 X (v := (-3 : Int32)) dX13_compose_140 (by decide) ?_
      exact ww_iretE 142 X hQ dX13_compose_142 h
set_option maxHeartbeats 4000000 in
set_option maxRecDepth 100000 in
theorem wB_X13_compose_79 {G : mG} {F : Nat} {x : mXT} {sz : Nat} {r0 : Int32} {M0 : mM} (X : mCX G RX13 cX13_compose 10 (some .int) "compose" rmX13_compose x) (hQ : mQI x r0 M0 (sz, 0, 0)) {l0 : Nat} {l3 : Int32} {l4 : Int32} {l5 : Int32} {l7 : Int32} {M : mM} (h : B_X13_compose_79 G F l0 l3 l4 l5 l7 M = some (r0, M0)) : WW x (sz, 0, 0) M 79 [(0, .ref l0), (3, .int l3), (4, .int l4), (5, .int l5), (7, .int l7)] [] := by
  unfold B_X13_compose_79 at h
  refine ww_iload 79 X dX13_compose_79 4 rfl ?_
  refine ww_iconst 81 X (v := (-1 : Int32)) dX13_compose_81 (by decide) ?_
  refine ww_icmp_eq 82 107 X dX13_compose_82 (by decide) (fun q => ?_) (fun q => ?_)
  · replace h := (if_pos q).symm.trans h
    exact ww_sub [0, 1, 2, 3] rfl (wB_X13_compose_107 X hQ h)
  · replace h := (if_neg q).symm.trans h
    refine ww_aload_n 85 X dX13_compose_85 0 rfl rfl ?_
    refine ww_ldsw 86 X (j := 123) dX13_compose_86 rfl ?_
    refine ww_aload_n 89 X dX13_compose_89 0 rfl rfl ?_
    obtain ⟨v90, e90, h⟩ := bO_some h
    refine ww_getR 90 X dX13_compose_90 fG_X13_254 e90 ?_
    refine ww_iconst 93 X (v := (0 : Int32)) dX13_compose_93 (by decide) ?_
    refine ww_aload_n 94 X dX13_compose_94 0 rfl rfl ?_
    obtain ⟨v95, e95, h⟩ := bO_some h
    refine ww_getI 95 X dX13_compose_95 fG_X13_947 e95 ?_
    obtain ⟨_, f98, h⟩ := bO_some h
    obtain ⟨M98, e98, h⟩ := bO_some h
    refine ww_callVV0 98 X dX13_compose_98 mY_X13_sayPart mL_X13_875 (rcv_spec f98) ⟨_, _, rfl⟩ (by decide) (As := [.ref (G.1 123), .ref v90, .int (0 : Int32), .int v95]) (rest := []) rfl rfl ⟨Nat.le_of_ble_eq_true rfl, Nat.le_of_ble_eq_true rfl⟩ (Nat.le_of_ble_eq_true rfl) (fun l D A => c_X13_sayPart l D A e98) ?_
    refine ww_aload_n 101 X dX13_compose_101 0 rfl rfl ?_
    refine ww_bipush 102 X (v := (34 : Int32)) dX13_compose_102 (by decide) ?_
    obtain ⟨_, f104, h⟩ := bO_some h
    obtain ⟨M104, e104, h⟩ := bO_some h
    refine ww_callVV0 104 X dX13_compose_104 mY_X13_say mL_X13_470 (rcv_spec f104) ⟨_, _, rfl⟩ (by decide) (As := [.int (34 : Int32)]) (rest := []) rfl rfl ⟨Nat.le_of_ble_eq_true rfl, Nat.le_of_ble_eq_true rfl⟩ (Nat.le_of_ble_eq_true rfl) (fun l D A => c_X13_say l D A e104) ?_
    exact ww_sub [0, 1, 2, 3] rfl (wB_X13_compose_107 X hQ h)
set_option maxHeartbeats 4000000 in
set_option maxRecDepth 100000 in
theorem wP_X13_compose {G : mG} {F : Nat} {x : mXT} {sz : Nat} {r0 : Int32} {M0 : mM} (X : mCX G RX13 cX13_compose 10 (some .int) "compose" rmX13_compose x) (hQ : mQI x r0 M0 (sz, 0, 0)) {l0 : Nat} {l1 : Int32} {l2 : Int32} {l3 : Int32} {l4 : Int32} {l5 : Int32} {l6 : Int32} {l7 : Int32} {M : mM} (h : P_X13_compose G F l0 l1 l2 l3 l4 l5 l6 l7 M = some (r0, M0)) : WW x (sz, 0, 0) M 0 [(0, .ref l0), (1, .int l1), (2, .int l2), (3, .int l3), (4, .int l4), (5, .int l5), (6, .int l6), (7, .int l7)] [] := by
  unfold P_X13_compose at h
  refine ww_aload_n 0 X dX13_compose_0 0 rfl rfl ?_
  refine ww_iload_n 1 X dX13_compose_1 1 rfl rfl ?_
  refine ww_ldsw 2 X (j := 117) dX13_compose_2 rfl ?_
  refine ww_iload_n 5 X dX13_compose_5 2 rfl rfl ?_
  refine ww_iload_n 6 X dX13_compose_6 3 rfl rfl ?_
  obtain ⟨_, f7, h⟩ := bO_some h
  obtain ⟨M7, e7, h⟩ := bO_some h
  refine ww_callVV0 7 X dX13_compose_7 mY_X13_sayHead mL_X13_999 (rcv_spec f7) ⟨_, _, rfl⟩ (by decide) (As := [.int l1, .ref (G.1 117), .int l2, .int l3]) (rest := []) rfl rfl ⟨Nat.le_of_ble_eq_true rfl, Nat.le_of_ble_eq_true rfl⟩ (Nat.le_of_ble_eq_true rfl) (fun l D A => c_X13_sayHead l D A e7) ?_
  refine ww_iload_n 10 X dX13_compose_10 2 rfl rfl ?_
  refine ww_iconst 11 X (v := (3 : Int32)) dX13_compose_11 (by decide) ?_
  refine ww_icmp_le 12 107 X dX13_compose_12 (by decide) (fun q => ?_) (fun q => ?_)
  · replace h := (if_pos q).symm.trans h
    exact ww_sub [0, 3, 4, 5] rfl (wB_X13_compose_107 X hQ h)
  · replace h := (if_neg q).symm.trans h
    refine ww_aload_n 15 X dX13_compose_15 0 rfl rfl ?_
    refine ww_ldsw 16 X (j := 121) dX13_compose_16 rfl ?_
    refine ww_aload_n 19 X dX13_compose_19 0 rfl rfl ?_
    obtain ⟨v20, e20, h⟩ := bO_some h
    refine ww_getR 20 X dX13_compose_20 fG_X13_248 e20 ?_
    refine ww_iconst 23 X (v := (0 : Int32)) dX13_compose_23 (by decide) ?_
    refine ww_bipush 24 X (v := (32 : Int32)) dX13_compose_24 (by decide) ?_
    obtain ⟨_, f26, h⟩ := bO_some h
    obtain ⟨M26, e26, h⟩ := bO_some h
    refine ww_callVV0 26 X dX13_compose_26 mY_X13_sayPart mL_X13_875 (rcv_spec f26) ⟨_, _, rfl⟩ (by decide) (As := [.ref (G.1 121), .ref v20, .int (0 : Int32), .int (32 : Int32)]) (rest := []) rfl rfl ⟨Nat.le_of_ble_eq_true rfl, Nat.le_of_ble_eq_true rfl⟩ (Nat.le_of_ble_eq_true rfl) (fun l D A => c_X13_sayPart l D A e26) ?_
    refine ww_aload_n 29 X dX13_compose_29 0 rfl rfl ?_
    refine ww_ldsw 30 X (j := 107) dX13_compose_30 rfl ?_
    refine ww_aload_n 33 X dX13_compose_33 0 rfl rfl ?_
    obtain ⟨v34, e34, h⟩ := bO_some h
    refine ww_getR 34 X dX13_compose_34 fG_X13_248 e34 ?_
    refine ww_bipush 37 X (v := (32 : Int32)) dX13_compose_37 (by decide) ?_
    refine ww_bipush 39 X (v := (32 : Int32)) dX13_compose_39 (by decide) ?_
    obtain ⟨_, f41, h⟩ := bO_some h
    obtain ⟨M41, e41, h⟩ := bO_some h
    refine ww_callVV0 41 X dX13_compose_41 mY_X13_sayPart mL_X13_875 (rcv_spec f41) ⟨_, _, rfl⟩ (by decide) (As := [.ref (G.1 107), .ref v34, .int (32 : Int32), .int (32 : Int32)]) (rest := []) rfl rfl ⟨Nat.le_of_ble_eq_true rfl, Nat.le_of_ble_eq_true rfl⟩ (Nat.le_of_ble_eq_true rfl) (fun l D A => c_X13_sayPart l D A e41) ?_
    refine ww_aload_n 44 X dX13_compose_44 0 rfl rfl ?_
    refine ww_ldsw 45 X (j := 105) dX13_compose_45 rfl ?_
    obtain ⟨_, f48, h⟩ := bO_some h
    obtain ⟨M48, e48, h⟩ := bO_some h
    refine ww_callVV0 48 X dX13_compose_48 mY_X13_sayAll mL_X13_477 (rcv_spec f48) ⟨_, _, rfl⟩ (by decide) (As := [.ref (G.1 105)]) (rest := []) rfl rfl ⟨Nat.le_of_ble_eq_true rfl, Nat.le_of_ble_eq_true rfl⟩ (Nat.le_of_ble_eq_true rfl) (fun l D A => c_X13_sayAll l D A e48) ?_
    refine ww_iload 51 X dX13_compose_51 6 rfl ?_
    refine ww_iconst 53 X (v := (-1 : Int32)) dX13_compose_53 (by decide) ?_
    refine ww_icmp_eq 54 79 X dX13_compose_54 (by decide) (fun q => ?_) (fun q => ?_)
    · replace h := (if_pos q).symm.trans h
      exact ww_sub [0, 3, 4, 5, 7] rfl (wB_X13_compose_79 X hQ h)
    · replace h := (if_neg q).symm.trans h
      refine ww_aload_n 57 X dX13_compose_57 0 rfl rfl ?_
      refine ww_ldsw 58 X (j := 122) dX13_compose_58 rfl ?_
      refine ww_aload_n 61 X dX13_compose_61 0 rfl rfl ?_
      obtain ⟨v62, e62, h⟩ := bO_some h
      refine ww_getR 62 X dX13_compose_62 fG_X13_251 e62 ?_
      refine ww_iconst 65 X (v := (0 : Int32)) dX13_compose_65 (by decide) ?_
      refine ww_aload_n 66 X dX13_compose_66 0 rfl rfl ?_
      obtain ⟨v67, e67, h⟩ := bO_some h
      refine ww_getI 67 X dX13_compose_67 fG_X13_942 e67 ?_
      obtain ⟨_, f70, h⟩ := bO_some h
      obtain ⟨M70, e70, h⟩ := bO_some h
      refine ww_callVV0 70 X dX13_compose_70 mY_X13_sayPart mL_X13_875 (rcv_spec f70) ⟨_, _, rfl⟩ (by decide) (As := [.ref (G.1 122), .ref v62, .int (0 : Int32), .int v67]) (rest := []) rfl rfl ⟨Nat.le_of_ble_eq_true rfl, Nat.le_of_ble_eq_true rfl⟩ (Nat.le_of_ble_eq_true rfl) (fun l D A => c_X13_sayPart l D A e70) ?_
      refine ww_aload_n 73 X dX13_compose_73 0 rfl rfl ?_
      refine ww_bipush 74 X (v := (34 : Int32)) dX13_compose_74 (by decide) ?_
      obtain ⟨_, f76, h⟩ := bO_some h
      obtain ⟨M76, e76, h⟩ := bO_some h
      refine ww_callVV0 76 X dX13_compose_76 mY_X13_say mL_X13_470 (rcv_spec f76) ⟨_, _, rfl⟩ (by decide) (As := [.int (34 : Int32)]) (rest := []) rfl rfl ⟨Nat.le_of_ble_eq_true rfl, Nat.le_of_ble_eq_true rfl⟩ (Nat.le_of_ble_eq_true rfl) (fun l D A => c_X13_say l D A e76) ?_
      exact ww_sub [0, 3, 4, 5, 7] rfl (wB_X13_compose_79 X hQ h)
theorem c_X13_compose {G : mG} {F sz : Nat} {r0 : Int32} {M0 : mM} (l : Launch) (D : mD) (A : Nat → Prop) {l0 : Nat} {l1 : Int32} {l2 : Int32} {l3 : Int32} {l4 : Int32} {l5 : Int32} {l6 : Int32} {l7 : Int32} {M : mM} (h : P_X13_compose G F l0 l1 l2 l3 l4 l5 l6 l7 M = some (r0, M0)) : mMetI l D G A yX13_compose cX13_compose 10 (some .int) 8 211 0 0 [.ref l0, .int l1, .int l2, .int l3, .int l4, .int l5, .int l6, .int l7] M sz r0 M0 sz := mMetI_of l D G A (by decide) (Nat.le_of_ble_eq_true rfl) (fun x X hQ => wP_X13_compose X hQ h)
