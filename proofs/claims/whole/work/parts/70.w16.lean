/-! SealedTokensModel.isKey(I)Z -/
theorem dX13_isKey_0 : decode cX13_isKey 0 = .ok (.iload_n 1, 1) := by decide +kernel
theorem dX13_isKey_1 : decode cX13_isKey 1 = .ok (.ifCond .lt 22, 3) := by decide +kernel
theorem dX13_isKey_4 : decode cX13_isKey 4 = .ok (.iload_n 1, 1) := by decide +kernel
theorem dX13_isKey_5 : decode cX13_isKey 5 = .ok (.bipush 16, 2) := by decide +kernel
theorem dX13_isKey_7 : decode cX13_isKey 7 = .ok (.if_icmp .ge 16, 3) := by decide +kernel
theorem dX13_isKey_10 : decode cX13_isKey 10 = .ok (.aload_n 0, 1) := by decide +kernel
theorem dX13_isKey_11 : decode cX13_isKey 11 = .ok (.getfield 198, 3) := by decide +kernel
theorem dX13_isKey_14 : decode cX13_isKey 14 = .ok (.iload_n 1, 1) := by decide +kernel
theorem dX13_isKey_15 : decode cX13_isKey 15 = .ok (.baload, 1) := by decide +kernel
theorem dX13_isKey_16 : decode cX13_isKey 16 = .ok (.ifCond .eq 7, 3) := by decide +kernel
theorem dX13_isKey_19 : decode cX13_isKey 19 = .ok (.iconst 1, 1) := by decide +kernel
theorem dX13_isKey_20 : decode cX13_isKey 20 = .ok (.goto 4, 3) := by decide +kernel
theorem dX13_isKey_23 : decode cX13_isKey 23 = .ok (.iconst 0, 1) := by decide +kernel
theorem dX13_isKey_24 : decode cX13_isKey 24 = .ok (.ireturn, 1) := by decide +kernel
abbrev rmX13_isKey : Room := { frames := 0, cells := 0, slots := 0, locals := 0 }
set_option maxHeartbeats 4000000 in
set_option maxRecDepth 100000 in
theorem wP_X13_isKey {G : mG} {F : Nat} {x : mXT} {sz : Nat} {r0 : Int32} {M0 : mM} (X : mCX G RX13 cX13_isKey 2 (some .boolean) "isKey" rmX13_isKey x) (hQ : mQI x r0 M0 (sz, 0, 0)) {l0 : Nat} {l1 : Int32} {M : mM} (h : P_X13_isKey G F l0 l1 M = some (r0, M0)) : WW x (sz, 0, 0) M 0 [(0, .ref l0), (1, .int l1)] [] := by
  unfold P_X13_isKey at h
  refine ww_iload_n 0 X dX13_isKey_0 1 rfl rfl ?_
  refine ww_if_lt 1 23 X dX13_isKey_1 (by decide) (fun q => ?_) (fun q => ?_)
  · replace h := (if_pos q).symm.trans h
    refine ww_iconst 23 X (v := (0 : Int32)) dX13_isKey_23 (by decide) ?_
    exact ww_zretE 24 X hQ dX13_isKey_24 h
  · replace h := (if_neg q).symm.trans h
    refine ww_iload_n 4 X dX13_isKey_4 1 rfl rfl ?_
    refine ww_bipush 5 X (v := (16 : Int32)) dX13_isKey_5 (by decide) ?_
    refine ww_icmp_ge 7 23 X dX13_isKey_7 (by decide) (fun q => ?_) (fun q => ?_)
    · replace h := (if_pos q).symm.trans h
      refine ww_iconst 23 X (v := (0 : Int32)) dX13_isKey_23 (by decide) ?_
      exact ww_zretE 24 X hQ dX13_isKey_24 h
    · replace h := (if_neg q).symm.trans h
      refine ww_aload_n 10 X dX13_isKey_10 0 rfl rfl ?_
      obtain ⟨v11, e11, h⟩ := bO_some h
      refine ww_getR 11 X dX13_isKey_11 fG_X13_198 e11 ?_
      refine ww_iload_n 14 X dX13_isKey_14 1 rfl rfl ?_
      obtain ⟨v15, e15, h⟩ := bO_some h
      refine ww_zald 15 X dX13_isKey_15 e15 ?_
      refine ww_if_eq 16 23 X dX13_isKey_16 (by decide) (fun q => ?_) (fun q => ?_)
      · replace h := (if_pos q).symm.trans h
        refine ww_iconst 23 X (v := (0 : Int32)) dX13_isKey_23 (by decide) ?_
        exact ww_zretE 24 X hQ dX13_isKey_24 h
      · replace h := (if_neg q).symm.trans h
        refine ww_iconst 19 X (v := (1 : Int32)) dX13_isKey_19 (by decide) ?_
        refine ww_goto 20 24 X dX13_isKey_20 (by decide) ?_
        exact ww_zretE 24 X hQ dX13_isKey_24 h
theorem c_X13_isKey {G : mG} {F sz : Nat} {r0 : Int32} {M0 : mM} (l : Launch) (D : mD) (A : Nat → Prop) {l0 : Nat} {l1 : Int32} {M : mM} (h : P_X13_isKey G F l0 l1 M = some (r0, M0)) : mMetI l D G A yX13_isKey cX13_isKey 2 (some .boolean) 0 0 0 0 [.ref l0, .int l1] M sz r0 M0 sz := mMetI_of l D G A (by decide) (Nat.le_of_ble_eq_true rfl) (fun x X hQ => wP_X13_isKey X hQ h)
/-! SealedTokensModel.drop(I)I -/
theorem dX13_drop_0 : decode cX13_drop 0 = .ok (.aload_n 0, 1) := by decide +kernel
theorem dX13_drop_1 : decode cX13_drop 1 = .ok (.iload_n 1, 1) := by decide +kernel
theorem dX13_drop_2 : decode cX13_drop 2 = .ok (.invokevirtual 871, 3) := by decide +kernel
theorem dX13_drop_5 : decode cX13_drop 5 = .ok (.ifCond .ne 6, 3) := by decide +kernel
theorem dX13_drop_8 : decode cX13_drop 8 = .ok (.bipush (-2), 2) := by decide +kernel
theorem dX13_drop_10 : decode cX13_drop 10 = .ok (.ireturn, 1) := by decide +kernel
theorem dX13_drop_11 : decode cX13_drop 11 = .ok (.aload_n 0, 1) := by decide +kernel
theorem dX13_drop_12 : decode cX13_drop 12 = .ok (.getfield 198, 3) := by decide +kernel
theorem dX13_drop_15 : decode cX13_drop 15 = .ok (.iload_n 1, 1) := by decide +kernel
theorem dX13_drop_16 : decode cX13_drop 16 = .ok (.iconst 0, 1) := by decide +kernel
theorem dX13_drop_17 : decode cX13_drop 17 = .ok (.bastore, 1) := by decide +kernel
theorem dX13_drop_18 : decode cX13_drop 18 = .ok (.iconst 1, 1) := by decide +kernel
theorem dX13_drop_19 : decode cX13_drop 19 = .ok (.ireturn, 1) := by decide +kernel
abbrev rmX13_drop : Room := { frames := 1, cells := 0, slots := 0, locals := 21 }
set_option maxHeartbeats 4000000 in
set_option maxRecDepth 100000 in
theorem wP_X13_drop {G : mG} {F : Nat} {x : mXT} {sz : Nat} {r0 : Int32} {M0 : mM} (X : mCX G RX13 cX13_drop 2 (some .int) "drop" rmX13_drop x) (hQ : mQI x r0 M0 (sz, 0, 0)) {l0 : Nat} {l1 : Int32} {M : mM} (h : P_X13_drop G F l0 l1 M = some (r0, M0)) : WW x (sz, 0, 0) M 0 [(0, .ref l0), (1, .int l1)] [] := by
  unfold P_X13_drop at h
  refine ww_aload_n 0 X dX13_drop_0 0 rfl rfl ?_
  refine ww_iload_n 1 X dX13_drop_1 1 rfl rfl ?_
  obtain ⟨_, f2, h⟩ := bO_some h
  obtain ⟨v2, M2, e2, h⟩ := bP_some h
  refine ww_callVI0 2 X dX13_drop_2 mY_X13_isKey mL_X13_871 (rcv_spec f2) ⟨_, _, rfl⟩ (by decide) (As := [.int l1]) (rest := []) rfl rfl ⟨Nat.le_of_ble_eq_true rfl, Nat.le_of_ble_eq_true rfl⟩ (Nat.le_of_ble_eq_true rfl) (fun l D A => c_X13_isKey l D A e2) ?_
  refine ww_if_ne 5 11 X dX13_drop_5 (by decide) (fun q => ?_) (fun q => ?_)
  · replace h := (if_neg q).symm.trans h
    refine ww_aload_n 11 X dX13_drop_11 0 rfl rfl ?_
    obtain ⟨v12, e12, h⟩ := bO_some h
    refine ww_getR 12 X dX13_drop_12 fG_X13_198 e12 ?_
    refine ww_iload_n 15 X dX13_drop_15 1 rfl rfl ?_
    refine ww_iconst 16 X (v := (0 : Int32)) dX13_drop_16 (by decide) ?_
    obtain ⟨M17, e17, h⟩ := bO_some h
    refine ww_zast 17 X dX13_drop_17 e17 ?_
    refine ww_iconst 18 X (v := (1 : Int32)) dX13_drop_18 (by decide) ?_
    exact ww_iretE 19 X hQ dX13_drop_19 h
  · replace h := (if_pos q).symm.trans h
    refine ww_bipush 8 X (v := (-2 : Int32)) dX13_drop_8 (by decide) ?_
    exact ww_iretE 10 X hQ dX13_drop_10 h
theorem c_X13_drop {G : mG} {F sz : Nat} {r0 : Int32} {M0 : mM} (l : Launch) (D : mD) (A : Nat → Prop) {l0 : Nat} {l1 : Int32} {M : mM} (h : P_X13_drop G F l0 l1 M = some (r0, M0)) : mMetI l D G A yX13_drop cX13_drop 2 (some .int) 1 21 0 0 [.ref l0, .int l1] M sz r0 M0 sz := mMetI_of l D G A (by decide) (Nat.le_of_ble_eq_true rfl) (fun x X hQ => wP_X13_drop X hQ h)
/-! SealedTokensModel.told(II)I -/
theorem dX13_told_0 : decode cX13_told 0 = .ok (.aload_n 0, 1) := by decide +kernel
theorem dX13_told_1 : decode cX13_told 1 = .ok (.iload_n 1, 1) := by decide +kernel
theorem dX13_told_2 : decode cX13_told 2 = .ok (.invokevirtual 871, 3) := by decide +kernel
theorem dX13_told_5 : decode cX13_told 5 = .ok (.ifCond .eq 12, 3) := by decide +kernel
theorem dX13_told_8 : decode cX13_told 8 = .ok (.iload_n 2, 1) := by decide +kernel
theorem dX13_told_9 : decode cX13_told 9 = .ok (.ifCond .lt 8, 3) := by decide +kernel
theorem dX13_told_12 : decode cX13_told 12 = .ok (.iload_n 2, 1) := by decide +kernel
theorem dX13_told_13 : decode cX13_told 13 = .ok (.iconst 5, 1) := by decide +kernel
theorem dX13_told_14 : decode cX13_told 14 = .ok (.if_icmp .le 6, 3) := by decide +kernel
theorem dX13_told_17 : decode cX13_told 17 = .ok (.bipush (-2), 2) := by decide +kernel
theorem dX13_told_19 : decode cX13_told 19 = .ok (.ireturn, 1) := by decide +kernel
theorem dX13_told_20 : decode cX13_told 20 = .ok (.iload_n 2, 1) := by decide +kernel
theorem dX13_told_21 : decode cX13_told 21 = .ok (.tableswitch 78 0 4 #[35, 42, 49, 64, 71], 35) := by decide +kernel
theorem dX13_told_56 : decode cX13_told 56 = .ok (.aload_n 0, 1) := by decide +kernel
theorem dX13_told_57 : decode cX13_told 57 = .ok (.getfield 202, 3) := by decide +kernel
theorem dX13_told_60 : decode cX13_told 60 = .ok (.iload_n 1, 1) := by decide +kernel
theorem dX13_told_61 : decode cX13_told 61 = .ok (.iaload, 1) := by decide +kernel
theorem dX13_told_62 : decode cX13_told 62 = .ok (.ireturn, 1) := by decide +kernel
theorem dX13_told_63 : decode cX13_told 63 = .ok (.aload_n 0, 1) := by decide +kernel
theorem dX13_told_64 : decode cX13_told 64 = .ok (.getfield 208, 3) := by decide +kernel
theorem dX13_told_67 : decode cX13_told 67 = .ok (.iload_n 1, 1) := by decide +kernel
theorem dX13_told_68 : decode cX13_told 68 = .ok (.iaload, 1) := by decide +kernel
theorem dX13_told_69 : decode cX13_told 69 = .ok (.ireturn, 1) := by decide +kernel
theorem dX13_told_70 : decode cX13_told 70 = .ok (.aload_n 0, 1) := by decide +kernel
theorem dX13_told_71 : decode cX13_told 71 = .ok (.getfield 220, 3) := by decide +kernel
theorem dX13_told_74 : decode cX13_told 74 = .ok (.iload_n 1, 1) := by decide +kernel
theorem dX13_told_75 : decode cX13_told 75 = .ok (.iaload, 1) := by decide +kernel
theorem dX13_told_76 : decode cX13_told 76 = .ok (.ifCond .le 7, 3) := by decide +kernel
theorem dX13_told_79 : decode cX13_told 79 = .ok (.iconst 1, 1) := by decide +kernel
theorem dX13_told_80 : decode cX13_told 80 = .ok (.goto 4, 3) := by decide +kernel
theorem dX13_told_83 : decode cX13_told 83 = .ok (.iconst 0, 1) := by decide +kernel
theorem dX13_told_84 : decode cX13_told 84 = .ok (.ireturn, 1) := by decide +kernel
theorem dX13_told_85 : decode cX13_told 85 = .ok (.aload_n 0, 1) := by decide +kernel
theorem dX13_told_86 : decode cX13_told 86 = .ok (.getfield 223, 3) := by decide +kernel
theorem dX13_told_89 : decode cX13_told 89 = .ok (.iload_n 1, 1) := by decide +kernel
theorem dX13_told_90 : decode cX13_told 90 = .ok (.iaload, 1) := by decide +kernel
theorem dX13_told_91 : decode cX13_told 91 = .ok (.ireturn, 1) := by decide +kernel
theorem dX13_told_92 : decode cX13_told 92 = .ok (.aload_n 0, 1) := by decide +kernel
theorem dX13_told_93 : decode cX13_told 93 = .ok (.getfield 230, 3) := by decide +kernel
theorem dX13_told_96 : decode cX13_told 96 = .ok (.iload_n 1, 1) := by decide +kernel
theorem dX13_told_97 : decode cX13_told 97 = .ok (.iaload, 1) := by decide +kernel
theorem dX13_told_98 : decode cX13_told 98 = .ok (.ireturn, 1) := by decide +kernel
theorem dX13_told_99 : decode cX13_told 99 = .ok (.aload_n 0, 1) := by decide +kernel
theorem dX13_told_100 : decode cX13_told 100 = .ok (.getfield 236, 3) := by decide +kernel
theorem dX13_told_103 : decode cX13_told 103 = .ok (.iload_n 1, 1) := by decide +kernel
theorem dX13_told_104 : decode cX13_told 104 = .ok (.iaload, 1) := by decide +kernel
theorem dX13_told_105 : decode cX13_told 105 = .ok (.ifCond .lt 7, 3) := by decide +kernel
theorem dX13_told_108 : decode cX13_told 108 = .ok (.iconst 1, 1) := by decide +kernel
theorem dX13_told_109 : decode cX13_told 109 = .ok (.goto 4, 3) := by decide +kernel
theorem dX13_told_112 : decode cX13_told 112 = .ok (.iconst 0, 1) := by decide +kernel
theorem dX13_told_113 : decode cX13_told 113 = .ok (.ireturn, 1) := by decide +kernel
abbrev rmX13_told : Room := { frames := 1, cells := 0, slots := 0, locals := 21 }
set_option maxHeartbeats 4000000 in
set_option maxRecDepth 100000 in
theorem wP_X13_told {G : mG} {F : Nat} {x : mXT} {sz : Nat} {r0 : Int32} {M0 : mM} (X : mCX G RX13 cX13_told 3 (some .int) "told" rmX13_told x) (hQ : mQI x r0 M0 (sz, 0, 0)) {l0 : Nat} {l1 : Int32} {l2 : Int32} {M : mM} (h : P_X13_told G F l0 l1 l2 M = some (r0, M0)) : WW x (sz, 0, 0) M 0 [(0, .ref l0), (1, .int l1), (2, .int l2)] [] := by
  unfold P_X13_told at h
  refine ww_aload_n 0 X dX13_told_0 0 rfl rfl ?_
  refine ww_iload_n 1 X dX13_told_1 1 rfl rfl ?_
  obtain ⟨_, f2, h⟩ := bO_some h
  obtain ⟨v2, M2, e2, h⟩ := bP_some h
  refine ww_callVI0 2 X dX13_told_2 mY_X13_isKey mL_X13_871 (rcv_spec f2) ⟨_, _, rfl⟩ (by decide) (As := [.int l1]) (rest := []) rfl rfl ⟨Nat.le_of_ble_eq_true rfl, Nat.le_of_ble_eq_true rfl⟩ (Nat.le_of_ble_eq_true rfl) (fun l D A => c_X13_isKey l D A e2) ?_
  refine ww_if_eq 5 17 X dX13_told_5 (by decide) (fun q => ?_) (fun q => ?_)
  · replace h := (if_pos q).symm.trans h
    refine ww_bipush 17 X (v := (-2 : Int32)) dX13_told_17 (by decide) ?_
    exact ww_iretE 19 X hQ dX13_told_19 h
  · replace h := (if_neg q).symm.trans h
    refine ww_iload_n 8 X dX13_told_8 2 rfl rfl ?_
    refine ww_if_lt 9 17 X dX13_told_9 (by decide) (fun q => ?_) (fun q => ?_)
    · replace h := (if_pos q).symm.trans h
      refine ww_bipush 17 X (v := (-2 : Int32)) dX13_told_17 (by decide) ?_
      exact ww_iretE 19 X hQ dX13_told_19 h
    · replace h := (if_neg q).symm.trans h
      refine ww_iload_n 12 X dX13_told_12 2 rfl rfl ?_
      refine ww_iconst 13 X (v := (5 : Int32)) dX13_told_13 (by decide) ?_
      refine ww_icmp_le 14 20 X dX13_told_14 (by decide) (fun q => ?_) (fun q => ?_)
      · replace h := (if_pos q).symm.trans h
        refine ww_iload_n 20 X dX13_told_20 2 rfl rfl ?_
        by_cases q0 : l2 = (0 : Int32)
        · replace h := (if_pos q0).symm.trans h
          refine ww_tableIn 21 56 X dX13_told_21 (off := 35) (by rw [q0]; decide) (by rw [q0]; decide) (by rw [q0]; decide) (by decide) ?_
          refine ww_aload_n 56 X dX13_told_56 0 rfl rfl ?_
          obtain ⟨v57, e57, h⟩ := bO_some h
          refine ww_getR 57 X dX13_told_57 fG_X13_202 e57 ?_
          refine ww_iload_n 60 X dX13_told_60 1 rfl rfl ?_
          obtain ⟨v61, e61, h⟩ := bO_some h
          refine ww_iald 61 X dX13_told_61 e61 ?_
          exact ww_iretE 62 X hQ dX13_told_62 h
        · replace h := (if_neg q0).symm.trans h
          by_cases q1 : l2 = (1 : Int32)
          · replace h := (if_pos q1).symm.trans h
            refine ww_tableIn 21 63 X dX13_told_21 (off := 42) (by rw [q1]; decide) (by rw [q1]; decide) (by rw [q1]; decide) (by decide) ?_
            refine ww_aload_n 63 X dX13_told_63 0 rfl rfl ?_
            obtain ⟨v64, e64, h⟩ := bO_some h
            refine ww_getR 64 X dX13_told_64 fG_X13_208 e64 ?_
            refine ww_iload_n 67 X dX13_told_67 1 rfl rfl ?_
            obtain ⟨v68, e68, h⟩ := bO_some h
            refine ww_iald 68 X dX13_told_68 e68 ?_
            exact ww_iretE 69 X hQ dX13_told_69 h
          · replace h := (if_neg q1).symm.trans h
            by_cases q2 : l2 = (2 : Int32)
            · replace h := (if_pos q2).symm.trans h
              refine ww_tableIn 21 70 X dX13_told_21 (off := 49) (by rw [q2]; decide) (by rw [q2]; decide) (by rw [q2]; decide) (by decide) ?_
              refine ww_aload_n 70 X dX13_told_70 0 rfl rfl ?_
              obtain ⟨v71, e71, h⟩ := bO_some h
              refine ww_getR 71 X dX13_told_71 fG_X13_220 e71 ?_
              refine ww_iload_n 74 X dX13_told_74 1 rfl rfl ?_
              obtain ⟨v75, e75, h⟩ := bO_some h
              refine ww_iald 75 X dX13_told_75 e75 ?_
              refine ww_if_le 76 83 X dX13_told_76 (by decide) (fun q => ?_) (fun q => ?_)
              · replace h := (if_pos q).symm.trans h
                refine ww_iconst 83 X (v := (0 : Int32)) dX13_told_83 (by decide) ?_
                exact ww_iretE 84 X hQ dX13_told_84 h
              · replace h := (if_neg q).symm.trans h
                refine ww_iconst 79 X (v := (1 : Int32)) dX13_told_79 (by decide) ?_
                refine ww_goto 80 84 X dX13_told_80 (by decide) ?_
                exact ww_iretE 84 X hQ dX13_told_84 h
            · replace h := (if_neg q2).symm.trans h
              by_cases q3 : l2 = (3 : Int32)
              · replace h := (if_pos q3).symm.trans h
                refine ww_tableIn 21 85 X dX13_told_21 (off := 64) (by rw [q3]; decide) (by rw [q3]; decide) (by rw [q3]; decide) (by decide) ?_
                refine ww_aload_n 85 X dX13_told_85 0 rfl rfl ?_
                obtain ⟨v86, e86, h⟩ := bO_some h
                refine ww_getR 86 X dX13_told_86 fG_X13_223 e86 ?_
                refine ww_iload_n 89 X dX13_told_89 1 rfl rfl ?_
                obtain ⟨v90, e90, h⟩ := bO_some h
                refine ww_iald 90 X dX13_told_90 e90 ?_
                exact ww_iretE 91 X hQ dX13_told_91 h
              · replace h := (if_neg q3).symm.trans h
                by_cases q4 : l2 = (4 : Int32)
                · replace h := (if_pos q4).symm.trans h
                  refine ww_tableIn 21 92 X dX13_told_21 (off := 71) (by rw [q4]; decide) (by rw [q4]; decide) (by rw [q4]; decide) (by decide) ?_
                  refine ww_aload_n 92 X dX13_told_92 0 rfl rfl ?_
                  obtain ⟨v93, e93, h⟩ := bO_some h
                  refine ww_getR 93 X dX13_told_93 fG_X13_230 e93 ?_
                  refine ww_iload_n 96 X dX13_told_96 1 rfl rfl ?_
                  obtain ⟨v97, e97, h⟩ := bO_some h
                  refine ww_iald 97 X dX13_told_97 e97 ?_
                  exact ww_iretE 98 X hQ dX13_told_98 h
                · replace h := (if_neg q4).symm.trans h
                  have z0 := lv_neT q0 (show (0 : Int32).toInt = 0 by decide)
                  have z1 := lv_neT q1 (show (1 : Int32).toInt = 1 by decide)
                  have z2 := lv_neT q2 (show (2 : Int32).toInt = 2 by decide)
                  have z3 := lv_neT q3 (show (3 : Int32).toInt = 3 by decide)
                  have z4 := lv_neT q4 (show (4 : Int32).toInt = 4 by decide)
                  refine ww_tableOut 21 99 X dX13_told_21 (by omega) (by decide) ?_
                  refine ww_aload_n 99 X dX13_told_99 0 rfl rfl ?_
                  obtain ⟨v100, e100, h⟩ := bO_some h
                  refine ww_getR 100 X dX13_told_100 fG_X13_236 e100 ?_
                  refine ww_iload_n 103 X dX13_told_103 1 rfl rfl ?_
                  obtain ⟨v104, e104, h⟩ := bO_some h
                  refine ww_iald 104 X dX13_told_104 e104 ?_
                  refine ww_if_lt 105 112 X dX13_told_105 (by decide) (fun q => ?_) (fun q => ?_)
                  · replace h := (if_pos q).symm.trans h
                    refine ww_iconst 112 X (v := (0 : Int32)) dX13_told_112 (by decide) ?_
                    exact ww_iretE 113 X hQ dX13_told_113 h
                  · replace h := (if_neg q).symm.trans h
                    refine ww_iconst 108 X (v := (1 : Int32)) dX13_told_108 (by decide) ?_
                    refine ww_goto 109 113 X dX13_told_109 (by decide) ?_
                    exact ww_iretE 113 X hQ dX13_told_113 h
      · replace h := (if_neg q).symm.trans h
        refine ww_bipush 17 X (v := (-2 : Int32)) dX13_told_17 (by decide) ?_
        exact ww_iretE 19 X hQ dX13_told_19 h
theorem c_X13_told {G : mG} {F sz : Nat} {r0 : Int32} {M0 : mM} (l : Launch) (D : mD) (A : Nat → Prop) {l0 : Nat} {l1 : Int32} {l2 : Int32} {M : mM} (h : P_X13_told G F l0 l1 l2 M = some (r0, M0)) : mMetI l D G A yX13_told cX13_told 3 (some .int) 1 21 0 0 [.ref l0, .int l1, .int l2] M sz r0 M0 sz := mMetI_of l D G A (by decide) (Nat.le_of_ble_eq_true rfl) (fun x X hQ => wP_X13_told X hQ h)
/-! SealedTokensModel.sayPart(Ljava/lang/String;[BII)V -/
theorem dX13_sayPart_0 : decode cX13_sayPart 0 = .ok (.aload_n 0, 1) := by decide +kernel
theorem dX13_sayPart_1 : decode cX13_sayPart 1 = .ok (.aload_n 1, 1) := by decide +kernel
theorem dX13_sayPart_2 : decode cX13_sayPart 2 = .ok (.invokevirtual 477, 3) := by decide +kernel
theorem dX13_sayPart_5 : decode cX13_sayPart 5 = .ok (.aload_n 0, 1) := by decide +kernel
theorem dX13_sayPart_6 : decode cX13_sayPart 6 = .ok (.aload_n 2, 1) := by decide +kernel
theorem dX13_sayPart_7 : decode cX13_sayPart 7 = .ok (.iload_n 3, 1) := by decide +kernel
theorem dX13_sayPart_8 : decode cX13_sayPart 8 = .ok (.iload 4, 2) := by decide +kernel
theorem dX13_sayPart_10 : decode cX13_sayPart 10 = .ok (.invokevirtual 500, 3) := by decide +kernel
theorem dX13_sayPart_13 : decode cX13_sayPart 13 = .ok (.return_, 1) := by decide +kernel
abbrev rmX13_sayPart : Room := { frames := 5, cells := 0, slots := 0, locals := 107 }
set_option maxHeartbeats 4000000 in
set_option maxRecDepth 100000 in
theorem wP_X13_sayPart {G : mG} {F : Nat} {x : mXT} {sz : Nat} {M0 : mM} (X : mCX G RX13 cX13_sayPart 5 none "sayPart" rmX13_sayPart x) (hQ : mQV x M0 (sz, 0, 0)) {l0 : Nat} {l1 : Nat} {l2 : Nat} {l3 : Int32} {l4 : Int32} {M : mM} (h : P_X13_sayPart G F l0 l1 l2 l3 l4 M = some M0) : WW x (sz, 0, 0) M 0 [(0, .ref l0), (1, .ref l1), (2, .ref l2), (3, .int l3), (4, .int l4)] [] := by
  unfold P_X13_sayPart at h
  refine ww_aload_n 0 X dX13_sayPart_0 0 rfl rfl ?_
  refine ww_aload_n 1 X dX13_sayPart_1 1 rfl rfl ?_
  obtain ⟨_, f2, h⟩ := bO_some h
  obtain ⟨M2, e2, h⟩ := bO_some h
  refine ww_callVV0 2 X dX13_sayPart_2 mY_X13_sayAll mL_X13_477 (rcv_spec f2) ⟨_, _, rfl⟩ (by decide) (As := [.ref l1]) (rest := []) rfl rfl ⟨Nat.le_of_ble_eq_true rfl, Nat.le_of_ble_eq_true rfl⟩ (Nat.le_of_ble_eq_true rfl) (fun l D A => c_X13_sayAll l D A e2) ?_
  refine ww_aload_n 5 X dX13_sayPart_5 0 rfl rfl ?_
  refine ww_aload_n 6 X dX13_sayPart_6 2 rfl rfl ?_
  refine ww_iload_n 7 X dX13_sayPart_7 3 rfl rfl ?_
  refine ww_iload 8 X dX13_sayPart_8 4 rfl ?_
  obtain ⟨_, f10, h⟩ := bO_some h
  obtain ⟨M10, e10, h⟩ := bO_some h
  refine ww_callVV0 10 X dX13_sayPart_10 mY_X13_sayLetters mL_X13_500 (rcv_spec f10) ⟨_, _, rfl⟩ (by decide) (As := [.ref l2, .int l3, .int l4]) (rest := []) rfl rfl ⟨Nat.le_of_ble_eq_true rfl, Nat.le_of_ble_eq_true rfl⟩ (Nat.le_of_ble_eq_true rfl) (fun l D A => c_X13_sayLetters l D A e10) ?_
  exact ww_vretE 13 X hQ dX13_sayPart_13 h
theorem c_X13_sayPart {G : mG} {F sz : Nat} {M0 : mM} (l : Launch) (D : mD) (A : Nat → Prop) {l0 : Nat} {l1 : Nat} {l2 : Nat} {l3 : Int32} {l4 : Int32} {M : mM} (h : P_X13_sayPart G F l0 l1 l2 l3 l4 M = some M0) : mMetV l D G A yX13_sayPart cX13_sayPart 5 none 5 107 0 0 [.ref l0, .ref l1, .ref l2, .int l3, .int l4] M sz M0 sz := mMetV_of l D G A (by decide) (Nat.le_of_ble_eq_true rfl) (fun x X hQ => wP_X13_sayPart X hQ h)
/-! SealedTokensModel.print(I)I -/
theorem dX13_print_0 : decode cX13_print 0 = .ok (.aload_n 0, 1) := by decide +kernel
theorem dX13_print_1 : decode cX13_print 1 = .ok (.iload_n 1, 1) := by decide +kernel
theorem dX13_print_2 : decode cX13_print 2 = .ok (.invokevirtual 871, 3) := by decide +kernel
theorem dX13_print_5 : decode cX13_print 5 = .ok (.ifCond .ne 6, 3) := by decide +kernel
theorem dX13_print_8 : decode cX13_print 8 = .ok (.bipush (-2), 2) := by decide +kernel
theorem dX13_print_10 : decode cX13_print 10 = .ok (.ireturn, 1) := by decide +kernel
theorem dX13_print_11 : decode cX13_print 11 = .ok (.aload_n 0, 1) := by decide +kernel
theorem dX13_print_12 : decode cX13_print 12 = .ok (.iconst 0, 1) := by decide +kernel
theorem dX13_print_13 : decode cX13_print 13 = .ok (.putfield 467, 3) := by decide +kernel
theorem dX13_print_16 : decode cX13_print 16 = .ok (.aload_n 0, 1) := by decide +kernel
theorem dX13_print_17 : decode cX13_print 17 = .ok (.getfield 202, 3) := by decide +kernel
theorem dX13_print_20 : decode cX13_print 20 = .ok (.iload_n 1, 1) := by decide +kernel
theorem dX13_print_21 : decode cX13_print 21 = .ok (.iaload, 1) := by decide +kernel
theorem dX13_print_22 : decode cX13_print 22 = .ok (.ifCond .ne 35, 3) := by decide +kernel
theorem dX13_print_25 : decode cX13_print 25 = .ok (.aload_n 0, 1) := by decide +kernel
theorem dX13_print_26 : decode cX13_print 26 = .ok (.ldc_w 873, 3) := by decide +kernel
theorem dX13_print_29 : decode cX13_print 29 = .ok (.aload_n 0, 1) := by decide +kernel
theorem dX13_print_30 : decode cX13_print 30 = .ok (.getfield 205, 3) := by decide +kernel
theorem dX13_print_33 : decode cX13_print 33 = .ok (.sipush 128, 3) := by decide +kernel
theorem dX13_print_36 : decode cX13_print 36 = .ok (.iload_n 1, 1) := by decide +kernel
theorem dX13_print_37 : decode cX13_print 37 = .ok (.imul, 1) := by decide +kernel
theorem dX13_print_38 : decode cX13_print 38 = .ok (.aload_n 0, 1) := by decide +kernel
theorem dX13_print_39 : decode cX13_print 39 = .ok (.getfield 208, 3) := by decide +kernel
theorem dX13_print_42 : decode cX13_print 42 = .ok (.iload_n 1, 1) := by decide +kernel
theorem dX13_print_43 : decode cX13_print 43 = .ok (.iaload, 1) := by decide +kernel
theorem dX13_print_44 : decode cX13_print 44 = .ok (.invokevirtual 875, 3) := by decide +kernel
theorem dX13_print_47 : decode cX13_print 47 = .ok (.aload_n 0, 1) := by decide +kernel
theorem dX13_print_48 : decode cX13_print 48 = .ok (.ldc_w 879, 3) := by decide +kernel
theorem dX13_print_51 : decode cX13_print 51 = .ok (.invokevirtual 477, 3) := by decide +kernel
theorem dX13_print_54 : decode cX13_print 54 = .ok (.goto 110, 3) := by decide +kernel
theorem dX13_print_57 : decode cX13_print 57 = .ok (.aload_n 0, 1) := by decide +kernel
theorem dX13_print_58 : decode cX13_print 58 = .ok (.getfield 202, 3) := by decide +kernel
theorem dX13_print_61 : decode cX13_print 61 = .ok (.iload_n 1, 1) := by decide +kernel
theorem dX13_print_62 : decode cX13_print 62 = .ok (.iaload, 1) := by decide +kernel
theorem dX13_print_63 : decode cX13_print 63 = .ok (.iconst 1, 1) := by decide +kernel
theorem dX13_print_64 : decode cX13_print 64 = .ok (.if_icmp .ne 57, 3) := by decide +kernel
theorem dX13_print_67 : decode cX13_print 67 = .ok (.aload_n 0, 1) := by decide +kernel
theorem dX13_print_68 : decode cX13_print 68 = .ok (.ldc_w 881, 3) := by decide +kernel
theorem dX13_print_71 : decode cX13_print 71 = .ok (.aload_n 0, 1) := by decide +kernel
theorem dX13_print_72 : decode cX13_print 72 = .ok (.getfield 211, 3) := by decide +kernel
theorem dX13_print_75 : decode cX13_print 75 = .ok (.sipush 128, 3) := by decide +kernel
theorem dX13_print_78 : decode cX13_print 78 = .ok (.iload_n 1, 1) := by decide +kernel
theorem dX13_print_79 : decode cX13_print 79 = .ok (.imul, 1) := by decide +kernel
theorem dX13_print_80 : decode cX13_print 80 = .ok (.aload_n 0, 1) := by decide +kernel
theorem dX13_print_81 : decode cX13_print 81 = .ok (.getfield 214, 3) := by decide +kernel
theorem dX13_print_84 : decode cX13_print 84 = .ok (.iload_n 1, 1) := by decide +kernel
theorem dX13_print_85 : decode cX13_print 85 = .ok (.iaload, 1) := by decide +kernel
theorem dX13_print_86 : decode cX13_print 86 = .ok (.invokevirtual 875, 3) := by decide +kernel
theorem dX13_print_89 : decode cX13_print 89 = .ok (.aload_n 0, 1) := by decide +kernel
theorem dX13_print_90 : decode cX13_print 90 = .ok (.ldc_w 883, 3) := by decide +kernel
theorem dX13_print_93 : decode cX13_print 93 = .ok (.aload_n 0, 1) := by decide +kernel
theorem dX13_print_94 : decode cX13_print 94 = .ok (.getfield 205, 3) := by decide +kernel
theorem dX13_print_97 : decode cX13_print 97 = .ok (.sipush 128, 3) := by decide +kernel
theorem dX13_print_100 : decode cX13_print 100 = .ok (.iload_n 1, 1) := by decide +kernel
theorem dX13_print_101 : decode cX13_print 101 = .ok (.imul, 1) := by decide +kernel
theorem dX13_print_102 : decode cX13_print 102 = .ok (.aload_n 0, 1) := by decide +kernel
theorem dX13_print_103 : decode cX13_print 103 = .ok (.getfield 208, 3) := by decide +kernel
theorem dX13_print_106 : decode cX13_print 106 = .ok (.iload_n 1, 1) := by decide +kernel
theorem dX13_print_107 : decode cX13_print 107 = .ok (.iaload, 1) := by decide +kernel
theorem dX13_print_108 : decode cX13_print 108 = .ok (.invokevirtual 875, 3) := by decide +kernel
theorem dX13_print_111 : decode cX13_print 111 = .ok (.aload_n 0, 1) := by decide +kernel
theorem dX13_print_112 : decode cX13_print 112 = .ok (.ldc_w 885, 3) := by decide +kernel
theorem dX13_print_115 : decode cX13_print 115 = .ok (.invokevirtual 477, 3) := by decide +kernel
theorem dX13_print_118 : decode cX13_print 118 = .ok (.goto 46, 3) := by decide +kernel
theorem dX13_print_121 : decode cX13_print 121 = .ok (.aload_n 0, 1) := by decide +kernel
theorem dX13_print_122 : decode cX13_print 122 = .ok (.ldc_w 887, 3) := by decide +kernel
theorem dX13_print_125 : decode cX13_print 125 = .ok (.aload_n 0, 1) := by decide +kernel
theorem dX13_print_126 : decode cX13_print 126 = .ok (.getfield 205, 3) := by decide +kernel
theorem dX13_print_129 : decode cX13_print 129 = .ok (.sipush 128, 3) := by decide +kernel
theorem dX13_print_132 : decode cX13_print 132 = .ok (.iload_n 1, 1) := by decide +kernel
theorem dX13_print_133 : decode cX13_print 133 = .ok (.imul, 1) := by decide +kernel
theorem dX13_print_134 : decode cX13_print 134 = .ok (.bipush 32, 2) := by decide +kernel
theorem dX13_print_136 : decode cX13_print 136 = .ok (.invokevirtual 875, 3) := by decide +kernel
theorem dX13_print_139 : decode cX13_print 139 = .ok (.aload_n 0, 1) := by decide +kernel
theorem dX13_print_140 : decode cX13_print 140 = .ok (.ldc_w 889, 3) := by decide +kernel
theorem dX13_print_143 : decode cX13_print 143 = .ok (.aload_n 0, 1) := by decide +kernel
theorem dX13_print_144 : decode cX13_print 144 = .ok (.getfield 211, 3) := by decide +kernel
theorem dX13_print_147 : decode cX13_print 147 = .ok (.sipush 128, 3) := by decide +kernel
theorem dX13_print_150 : decode cX13_print 150 = .ok (.iload_n 1, 1) := by decide +kernel
theorem dX13_print_151 : decode cX13_print 151 = .ok (.imul, 1) := by decide +kernel
theorem dX13_print_152 : decode cX13_print 152 = .ok (.bipush 32, 2) := by decide +kernel
theorem dX13_print_154 : decode cX13_print 154 = .ok (.invokevirtual 875, 3) := by decide +kernel
theorem dX13_print_157 : decode cX13_print 157 = .ok (.aload_n 0, 1) := by decide +kernel
theorem dX13_print_158 : decode cX13_print 158 = .ok (.ldc_w 885, 3) := by decide +kernel
theorem dX13_print_161 : decode cX13_print 161 = .ok (.invokevirtual 477, 3) := by decide +kernel
theorem dX13_print_164 : decode cX13_print 164 = .ok (.aload_n 0, 1) := by decide +kernel
theorem dX13_print_165 : decode cX13_print 165 = .ok (.invokevirtual 570, 3) := by decide +kernel
theorem dX13_print_168 : decode cX13_print 168 = .ok (.aload_n 0, 1) := by decide +kernel
theorem dX13_print_169 : decode cX13_print 169 = .ok (.aload_n 0, 1) := by decide +kernel
theorem dX13_print_170 : decode cX13_print 170 = .ok (.getfield 57, 3) := by decide +kernel
theorem dX13_print_173 : decode cX13_print 173 = .ok (.iconst 0, 1) := by decide +kernel
theorem dX13_print_174 : decode cX13_print 174 = .ok (.aload_n 0, 1) := by decide +kernel
theorem dX13_print_175 : decode cX13_print 175 = .ok (.getfield 467, 3) := by decide +kernel
theorem dX13_print_178 : decode cX13_print 178 = .ok (.invokevirtual 573, 3) := by decide +kernel
theorem dX13_print_181 : decode cX13_print 181 = .ok (.aload_n 0, 1) := by decide +kernel
theorem dX13_print_182 : decode cX13_print 182 = .ok (.aload_n 0, 1) := by decide +kernel
theorem dX13_print_183 : decode cX13_print 183 = .ok (.getfield 76, 3) := by decide +kernel
theorem dX13_print_186 : decode cX13_print 186 = .ok (.iconst 0, 1) := by decide +kernel
theorem dX13_print_187 : decode cX13_print 187 = .ok (.aload_n 0, 1) := by decide +kernel
theorem dX13_print_188 : decode cX13_print 188 = .ok (.sipush 256, 3) := by decide +kernel
theorem dX13_print_191 : decode cX13_print 191 = .ok (.invokevirtual 576, 3) := by decide +kernel
theorem dX13_print_194 : decode cX13_print 194 = .ok (.invokevirtual 463, 3) := by decide +kernel
theorem dX13_print_197 : decode cX13_print 197 = .ok (.ireturn, 1) := by decide +kernel
abbrev rmX13_print : Room := { frames := 6, cells := 0, slots := 0, locals := 131 }
set_option maxHeartbeats 4000000 in
set_option maxRecDepth 100000 in
theorem wB_X13_print_164 {G : mG} {F : Nat} {x : mXT} {sz : Nat} {r0 : Int32} {M0 : mM} (X : mCX G RX13 cX13_print 2 (some .int) "print" rmX13_print x) (hQ : mQI x r0 M0 (sz, 0, 0)) {l0 : Nat} {M : mM} (h : B_X13_print_164 G F l0 M = some (r0, M0)) : WW x (sz, 0, 0) M 164 [(0, .ref l0)] [] := by
  unfold B_X13_print_164 at h
  refine ww_aload_n 164 X dX13_print_164 0 rfl rfl ?_
  obtain ⟨_, f165, h⟩ := bO_some h
  obtain ⟨M165, e165, h⟩ := bO_some h
  refine ww_callVV0 165 X dX13_print_165 mY_X13_empty mL_X13_570 (rcv_spec f165) ⟨_, _, rfl⟩ (by decide) (As := []) (rest := []) rfl rfl ⟨Nat.le_of_ble_eq_true rfl, Nat.le_of_ble_eq_true rfl⟩ (Nat.le_of_ble_eq_true rfl) (fun l D A => c_X13_empty l D A e165) ?_
  refine ww_aload_n 168 X dX13_print_168 0 rfl rfl ?_
  refine ww_aload_n 169 X dX13_print_169 0 rfl rfl ?_
  obtain ⟨v170, e170, h⟩ := bO_some h
  refine ww_getR 170 X dX13_print_170 fG_X13_57 e170 ?_
  refine ww_iconst 173 X (v := (0 : Int32)) dX13_print_173 (by decide) ?_
  refine ww_aload_n 174 X dX13_print_174 0 rfl rfl ?_
  obtain ⟨v175, e175, h⟩ := bO_some h
  refine ww_getI 175 X dX13_print_175 fG_X13_467 e175 ?_
  obtain ⟨_, f178, h⟩ := bO_some h
  obtain ⟨M178, e178, h⟩ := bO_some h
  refine ww_callVV0 178 X dX13_print_178 mY_X13_lay mL_X13_573 (rcv_spec f178) ⟨_, _, rfl⟩ (by decide) (As := [.ref v170, .int (0 : Int32), .int v175]) (rest := []) rfl rfl ⟨Nat.le_of_ble_eq_true rfl, Nat.le_of_ble_eq_true rfl⟩ (Nat.le_of_ble_eq_true rfl) (fun l D A => c_X13_lay l D A e178) ?_
  refine ww_aload_n 181 X dX13_print_181 0 rfl rfl ?_
  refine ww_aload_n 182 X dX13_print_182 0 rfl rfl ?_
  obtain ⟨v183, e183, h⟩ := bO_some h
  refine ww_getR 183 X dX13_print_183 fG_X13_76 e183 ?_
  refine ww_iconst 186 X (v := (0 : Int32)) dX13_print_186 (by decide) ?_
  refine ww_aload_n 187 X dX13_print_187 0 rfl rfl ?_
  refine ww_sipush 188 X (v := (256 : Int32)) dX13_print_188 (by decide) ?_
  obtain ⟨_, f191, h⟩ := bO_some h
  obtain ⟨v191, M191, e191, h⟩ := bP_some h
  refine ww_callVI0 191 X dX13_print_191 mY_X13_digestOf mL_X13_576 (rcv_spec f191) ⟨_, _, rfl⟩ (by decide) (As := [.int (256 : Int32)]) (rest := [.int (0 : Int32), .ref v183, .ref l0]) rfl rfl ⟨Nat.le_of_ble_eq_true rfl, Nat.le_of_ble_eq_true rfl⟩ (Nat.le_of_ble_eq_true rfl) (fun l D A => c_X13_digestOf l D A e191) ?_
  obtain ⟨_, f194, h⟩ := bO_some h
  obtain ⟨v194, M194, e194, h⟩ := bP_some h
  refine ww_callVI0 194 X dX13_print_194 mY_X13_tell mL_X13_463 (rcv_spec f194) ⟨_, _, rfl⟩ (by decide) (As := [.ref v183, .int (0 : Int32), .int v191]) (rest := []) rfl rfl ⟨Nat.le_of_ble_eq_true rfl, Nat.le_of_ble_eq_true rfl⟩ (Nat.le_of_ble_eq_true rfl) (fun l D A => c_X13_tell l D A e194) ?_
  exact ww_iretE 197 X hQ dX13_print_197 h
set_option maxHeartbeats 4000000 in
set_option maxRecDepth 100000 in
theorem wP_X13_print {G : mG} {F : Nat} {x : mXT} {sz : Nat} {r0 : Int32} {M0 : mM} (X : mCX G RX13 cX13_print 2 (some .int) "print" rmX13_print x) (hQ : mQI x r0 M0 (sz, 0, 0)) {l0 : Nat} {l1 : Int32} {M : mM} (h : P_X13_print G F l0 l1 M = some (r0, M0)) : WW x (sz, 0, 0) M 0 [(0, .ref l0), (1, .int l1)] [] := by
  unfold P_X13_print at h
  refine ww_aload_n 0 X dX13_print_0 0 rfl rfl ?_
  refine ww_iload_n 1 X dX13_print_1 1 rfl rfl ?_
  obtain ⟨_, f2, h⟩ := bO_some h
  obtain ⟨v2, M2, e2, h⟩ := bP_some h
  refine ww_callVI0 2 X dX13_print_2 mY_X13_isKey mL_X13_871 (rcv_spec f2) ⟨_, _, rfl⟩ (by decide) (As := [.int l1]) (rest := []) rfl rfl ⟨Nat.le_of_ble_eq_true rfl, Nat.le_of_ble_eq_true rfl⟩ (Nat.le_of_ble_eq_true rfl) (fun l D A => c_X13_isKey l D A e2) ?_
  refine ww_if_ne 5 11 X dX13_print_5 (by decide) (fun q => ?_) (fun q => ?_)
  · replace h := (if_neg q).symm.trans h
    refine ww_aload_n 11 X dX13_print_11 0 rfl rfl ?_
    refine ww_iconst 12 X (v := (0 : Int32)) dX13_print_12 (by decide) ?_
    obtain ⟨M13, e13, h⟩ := bO_some h
    refine ww_putI 13 X dX13_print_13 (fP_X13_467 _) e13 ?_
    refine ww_aload_n 16 X dX13_print_16 0 rfl rfl ?_
    obtain ⟨v17, e17, h⟩ := bO_some h
    refine ww_getR 17 X dX13_print_17 fG_X13_202 e17 ?_
    refine ww_iload_n 20 X dX13_print_20 1 rfl rfl ?_
    obtain ⟨v21, e21, h⟩ := bO_some h
    refine ww_iald 21 X dX13_print_21 e21 ?_
    refine ww_if_ne 22 57 X dX13_print_22 (by decide) (fun q => ?_) (fun q => ?_)
    · replace h := (if_neg q).symm.trans h
      refine ww_aload_n 57 X dX13_print_57 0 rfl rfl ?_
      obtain ⟨v58, e58, h⟩ := bO_some h
      refine ww_getR 58 X dX13_print_58 fG_X13_202 e58 ?_
      refine ww_iload_n 61 X dX13_print_61 1 rfl rfl ?_
      obtain ⟨v62, e62, h⟩ := bO_some h
      refine ww_iald 62 X dX13_print_62 e62 ?_
      refine ww_iconst 63 X (v := (1 : Int32)) dX13_print_63 (by decide) ?_
      refine ww_icmp_ne 64 121 X dX13_print_64 (by decide) (fun q => ?_) (fun q => ?_)
      · replace h := (if_neg q).symm.trans h
        refine ww_aload_n 121 X dX13_print_121 0 rfl rfl ?_
        refine ww_ldsw 122 X (j := 106) dX13_print_122 rfl ?_
        refine ww_aload_n 125 X dX13_print_125 0 rfl rfl ?_
        obtain ⟨v126, e126, h⟩ := bO_some h
        refine ww_getR 126 X dX13_print_126 fG_X13_205 e126 ?_
        refine ww_sipush 129 X (v := (128 : Int32)) dX13_print_129 (by decide) ?_
        refine ww_iload_n 132 X dX13_print_132 1 rfl rfl ?_
        refine ww_imul 133 X dX13_print_133 ?_
        refine ww_bipush 134 X (v := (32 : Int32)) dX13_print_134 (by decide) ?_
        obtain ⟨_, f136, h⟩ := bO_some h
        obtain ⟨M136, e136, h⟩ := bO_some h
        refine ww_callVV0 136 X dX13_print_136 mY_X13_sayPart mL_X13_875 (rcv_spec f136) ⟨_, _, rfl⟩ (by decide) (As := [.ref (G.1 106), .ref v126, .int ((128 : Int32) * l1), .int (32 : Int32)]) (rest := []) rfl rfl ⟨Nat.le_of_ble_eq_true rfl, Nat.le_of_ble_eq_true rfl⟩ (Nat.le_of_ble_eq_true rfl) (fun l D A => c_X13_sayPart l D A e136) ?_
        refine ww_aload_n 139 X dX13_print_139 0 rfl rfl ?_
        refine ww_ldsw 140 X (j := 107) dX13_print_140 rfl ?_
        refine ww_aload_n 143 X dX13_print_143 0 rfl rfl ?_
        obtain ⟨v144, e144, h⟩ := bO_some h
        refine ww_getR 144 X dX13_print_144 fG_X13_211 e144 ?_
        refine ww_sipush 147 X (v := (128 : Int32)) dX13_print_147 (by decide) ?_
        refine ww_iload_n 150 X dX13_print_150 1 rfl rfl ?_
        refine ww_imul 151 X dX13_print_151 ?_
        refine ww_bipush 152 X (v := (32 : Int32)) dX13_print_152 (by decide) ?_
        obtain ⟨_, f154, h⟩ := bO_some h
        obtain ⟨M154, e154, h⟩ := bO_some h
        refine ww_callVV0 154 X dX13_print_154 mY_X13_sayPart mL_X13_875 (rcv_spec f154) ⟨_, _, rfl⟩ (by decide) (As := [.ref (G.1 107), .ref v144, .int ((128 : Int32) * l1), .int (32 : Int32)]) (rest := []) rfl rfl ⟨Nat.le_of_ble_eq_true rfl, Nat.le_of_ble_eq_true rfl⟩ (Nat.le_of_ble_eq_true rfl) (fun l D A => c_X13_sayPart l D A e154) ?_
        refine ww_aload_n 157 X dX13_print_157 0 rfl rfl ?_
        refine ww_ldsw 158 X (j := 105) dX13_print_158 rfl ?_
        obtain ⟨_, f161, h⟩ := bO_some h
        obtain ⟨M161, e161, h⟩ := bO_some h
        refine ww_callVV0 161 X dX13_print_161 mY_X13_sayAll mL_X13_477 (rcv_spec f161) ⟨_, _, rfl⟩ (by decide) (As := [.ref (G.1 105)]) (rest := []) rfl rfl ⟨Nat.le_of_ble_eq_true rfl, Nat.le_of_ble_eq_true rfl⟩ (Nat.le_of_ble_eq_true rfl) (fun l D A => c_X13_sayAll l D A e161) ?_
        exact ww_sub [0] rfl (wB_X13_print_164 X hQ h)
      · replace h := (if_pos q).symm.trans h
        refine ww_aload_n 67 X dX13_print_67 0 rfl rfl ?_
        refine ww_ldsw 68 X (j := 103) dX13_print_68 rfl ?_
        refine ww_aload_n 71 X dX13_print_71 0 rfl rfl ?_
        obtain ⟨v72, e72, h⟩ := bO_some h
        refine ww_getR 72 X dX13_print_72 fG_X13_211 e72 ?_
        refine ww_sipush 75 X (v := (128 : Int32)) dX13_print_75 (by decide) ?_
        refine ww_iload_n 78 X dX13_print_78 1 rfl rfl ?_
        refine ww_imul 79 X dX13_print_79 ?_
        refine ww_aload_n 80 X dX13_print_80 0 rfl rfl ?_
        obtain ⟨v81, e81, h⟩ := bO_some h
        refine ww_getR 81 X dX13_print_81 fG_X13_214 e81 ?_
        refine ww_iload_n 84 X dX13_print_84 1 rfl rfl ?_
        obtain ⟨v85, e85, h⟩ := bO_some h
        refine ww_iald 85 X dX13_print_85 e85 ?_
        obtain ⟨_, f86, h⟩ := bO_some h
        obtain ⟨M86, e86, h⟩ := bO_some h
        refine ww_callVV0 86 X dX13_print_86 mY_X13_sayPart mL_X13_875 (rcv_spec f86) ⟨_, _, rfl⟩ (by decide) (As := [.ref (G.1 103), .ref v72, .int ((128 : Int32) * l1), .int v85]) (rest := []) rfl rfl ⟨Nat.le_of_ble_eq_true rfl, Nat.le_of_ble_eq_true rfl⟩ (Nat.le_of_ble_eq_true rfl) (fun l D A => c_X13_sayPart l D A e86) ?_
        refine ww_aload_n 89 X dX13_print_89 0 rfl rfl ?_
        refine ww_ldsw 90 X (j := 104) dX13_print_90 rfl ?_
        refine ww_aload_n 93 X dX13_print_93 0 rfl rfl ?_
        obtain ⟨v94, e94, h⟩ := bO_some h
        refine ww_getR 94 X dX13_print_94 fG_X13_205 e94 ?_
        refine ww_sipush 97 X (v := (128 : Int32)) dX13_print_97 (by decide) ?_
        refine ww_iload_n 100 X dX13_print_100 1 rfl rfl ?_
        refine ww_imul 101 X dX13_print_101 ?_
        refine ww_aload_n 102 X dX13_print_102 0 rfl rfl ?_
        obtain ⟨v103, e103, h⟩ := bO_some h
        refine ww_getR 103 X dX13_print_103 fG_X13_208 e103 ?_
        refine ww_iload_n 106 X dX13_print_106 1 rfl rfl ?_
        obtain ⟨v107, e107, h⟩ := bO_some h
        refine ww_iald 107 X dX13_print_107 e107 ?_
        obtain ⟨_, f108, h⟩ := bO_some h
        obtain ⟨M108, e108, h⟩ := bO_some h
        refine ww_callVV0 108 X dX13_print_108 mY_X13_sayPart mL_X13_875 (rcv_spec f108) ⟨_, _, rfl⟩ (by decide) (As := [.ref (G.1 104), .ref v94, .int ((128 : Int32) * l1), .int v107]) (rest := []) rfl rfl ⟨Nat.le_of_ble_eq_true rfl, Nat.le_of_ble_eq_true rfl⟩ (Nat.le_of_ble_eq_true rfl) (fun l D A => c_X13_sayPart l D A e108) ?_
        refine ww_aload_n 111 X dX13_print_111 0 rfl rfl ?_
        refine ww_ldsw 112 X (j := 105) dX13_print_112 rfl ?_
        obtain ⟨_, f115, h⟩ := bO_some h
        obtain ⟨M115, e115, h⟩ := bO_some h
        refine ww_callVV0 115 X dX13_print_115 mY_X13_sayAll mL_X13_477 (rcv_spec f115) ⟨_, _, rfl⟩ (by decide) (As := [.ref (G.1 105)]) (rest := []) rfl rfl ⟨Nat.le_of_ble_eq_true rfl, Nat.le_of_ble_eq_true rfl⟩ (Nat.le_of_ble_eq_true rfl) (fun l D A => c_X13_sayAll l D A e115) ?_
        refine ww_goto 118 164 X dX13_print_118 (by decide) ?_
        exact ww_sub [0] rfl (wB_X13_print_164 X hQ h)
    · replace h := (if_pos q).symm.trans h
      refine ww_aload_n 25 X dX13_print_25 0 rfl rfl ?_
      refine ww_ldsw 26 X (j := 101) dX13_print_26 rfl ?_
      refine ww_aload_n 29 X dX13_print_29 0 rfl rfl ?_
      obtain ⟨v30, e30, h⟩ := bO_some h
      refine ww_getR 30 X dX13_print_30 fG_X13_205 e30 ?_
      refine ww_sipush 33 X (v := (128 : Int32)) dX13_print_33 (by decide) ?_
      refine ww_iload_n 36 X dX13_print_36 1 rfl rfl ?_
      refine ww_imul 37 X dX13_print_37 ?_
      refine ww_aload_n 38 X dX13_print_38 0 rfl rfl ?_
      obtain ⟨v39, e39, h⟩ := bO_some h
      refine ww_getR 39 X dX13_print_39 fG_X13_208 e39 ?_
      refine ww_iload_n 42 X dX13_print_42 1 rfl rfl ?_
      obtain ⟨v43, e43, h⟩ := bO_some h
      refine ww_iald 43 X dX13_print_43 e43 ?_
      obtain ⟨_, f44, h⟩ := bO_some h
      obtain ⟨M44, e44, h⟩ := bO_some h
      refine ww_callVV0 44 X dX13_print_44 mY_X13_sayPart mL_X13_875 (rcv_spec f44) ⟨_, _, rfl⟩ (by decide) (As := [.ref (G.1 101), .ref v30, .int ((128 : Int32) * l1), .int v43]) (rest := []) rfl rfl ⟨Nat.le_of_ble_eq_true rfl, Nat.le_of_ble_eq_true rfl⟩ (Nat.le_of_ble_eq_true rfl) (fun l D A => c_X13_sayPart l D A e44) ?_
      refine ww_aload_n 47 X dX13_print_47 0 rfl rfl ?_
      refine ww_ldsw 48 X (j := 102) dX13_print_48 rfl ?_
      obtain ⟨_, f51, h⟩ := bO_some h
      obtain ⟨M51, e51, h⟩ := bO_some h
      refine ww_callVV0 51 X dX13_print_51 mY_X13_sayAll mL_X13_477 (rcv_spec f51) ⟨_, _, rfl⟩ (by decide) (As := [.ref (G.1 102)]) (rest := []) rfl rfl ⟨Nat.le_of_ble_eq_true rfl, Nat.le_of_ble_eq_true rfl⟩ (Nat.le_of_ble_eq_true rfl) (fun l D A => c_X13_sayAll l D A e51) ?_
      refine ww_goto 54 164 X dX13_print_54 (by decide) ?_
      exact ww_sub [0] rfl (wB_X13_print_164 X hQ h)
  · replace h := (if_pos q).symm.trans h
    refine ww_bipush 8 X (v := (-2 : Int32)) dX13_print_8 (by decide) ?_
    exact ww_iretE 10 X hQ dX13_print_10 h
theorem c_X13_print {G : mG} {F sz : Nat} {r0 : Int32} {M0 : mM} (l : Launch) (D : mD) (A : Nat → Prop) {l0 : Nat} {l1 : Int32} {M : mM} (h : P_X13_print G F l0 l1 M = some (r0, M0)) : mMetI l D G A yX13_print cX13_print 2 (some .int) 6 131 0 0 [.ref l0, .int l1] M sz r0 M0 sz := mMetI_of l D G A (by decide) (Nat.le_of_ble_eq_true rfl) (fun x X hQ => wP_X13_print X hQ h)
/-! SealedTokensModel.wordOf(Ljava/lang/String;[BII)I -/
theorem dX13_wordOf_0 : decode cX13_wordOf 0 = .ok (.iconst 0, 1) := by decide +kernel
theorem dX13_wordOf_1 : decode cX13_wordOf 1 = .ok (.istore 4, 2) := by decide +kernel
theorem dX13_wordOf_3 : decode cX13_wordOf 3 = .ok (.iconst 0, 1) := by decide +kernel
theorem dX13_wordOf_4 : decode cX13_wordOf 4 = .ok (.istore 5, 2) := by decide +kernel
theorem dX13_wordOf_6 : decode cX13_wordOf 6 = .ok (.iload 5, 2) := by decide +kernel
theorem dX13_wordOf_8 : decode cX13_wordOf 8 = .ok (.aload_n 0, 1) := by decide +kernel
theorem dX13_wordOf_9 : decode cX13_wordOf 9 = .ok (.invokevirtual 405, 3) := by decide +kernel
theorem dX13_wordOf_12 : decode cX13_wordOf 12 = .ok (.if_icmp .ge 99, 3) := by decide +kernel
theorem dX13_wordOf_15 : decode cX13_wordOf 15 = .ok (.iconst 0, 1) := by decide +kernel
theorem dX13_wordOf_16 : decode cX13_wordOf 16 = .ok (.istore 6, 2) := by decide +kernel
theorem dX13_wordOf_18 : decode cX13_wordOf 18 = .ok (.iload 6, 2) := by decide +kernel
theorem dX13_wordOf_20 : decode cX13_wordOf 20 = .ok (.iload_n 3, 1) := by decide +kernel
theorem dX13_wordOf_21 : decode cX13_wordOf 21 = .ok (.if_icmp .ge 41, 3) := by decide +kernel
theorem dX13_wordOf_24 : decode cX13_wordOf 24 = .ok (.aload_n 0, 1) := by decide +kernel
theorem dX13_wordOf_25 : decode cX13_wordOf 25 = .ok (.iload 5, 2) := by decide +kernel
theorem dX13_wordOf_27 : decode cX13_wordOf 27 = .ok (.iload 6, 2) := by decide +kernel
theorem dX13_wordOf_29 : decode cX13_wordOf 29 = .ok (.iadd, 1) := by decide +kernel
theorem dX13_wordOf_30 : decode cX13_wordOf 30 = .ok (.invokevirtual 410, 3) := by decide +kernel
theorem dX13_wordOf_33 : decode cX13_wordOf 33 = .ok (.bipush 32, 2) := by decide +kernel
theorem dX13_wordOf_35 : decode cX13_wordOf 35 = .ok (.if_icmp .eq 27, 3) := by decide +kernel
theorem dX13_wordOf_38 : decode cX13_wordOf 38 = .ok (.aload_n 0, 1) := by decide +kernel
theorem dX13_wordOf_39 : decode cX13_wordOf 39 = .ok (.iload 5, 2) := by decide +kernel
theorem dX13_wordOf_41 : decode cX13_wordOf 41 = .ok (.iload 6, 2) := by decide +kernel
theorem dX13_wordOf_43 : decode cX13_wordOf 43 = .ok (.iadd, 1) := by decide +kernel
theorem dX13_wordOf_44 : decode cX13_wordOf 44 = .ok (.invokevirtual 410, 3) := by decide +kernel
theorem dX13_wordOf_47 : decode cX13_wordOf 47 = .ok (.aload_n 1, 1) := by decide +kernel
theorem dX13_wordOf_48 : decode cX13_wordOf 48 = .ok (.iload_n 2, 1) := by decide +kernel
theorem dX13_wordOf_49 : decode cX13_wordOf 49 = .ok (.iload 6, 2) := by decide +kernel
theorem dX13_wordOf_51 : decode cX13_wordOf 51 = .ok (.iadd, 1) := by decide +kernel
theorem dX13_wordOf_52 : decode cX13_wordOf 52 = .ok (.baload, 1) := by decide +kernel
theorem dX13_wordOf_53 : decode cX13_wordOf 53 = .ok (.if_icmp .ne 9, 3) := by decide +kernel
theorem dX13_wordOf_56 : decode cX13_wordOf 56 = .ok (.iinc 6 1, 3) := by decide +kernel
theorem dX13_wordOf_59 : decode cX13_wordOf 59 = .ok (.goto (-41), 3) := by decide +kernel
theorem dX13_wordOf_62 : decode cX13_wordOf 62 = .ok (.iload 6, 2) := by decide +kernel
theorem dX13_wordOf_64 : decode cX13_wordOf 64 = .ok (.iload_n 3, 1) := by decide +kernel
theorem dX13_wordOf_65 : decode cX13_wordOf 65 = .ok (.if_icmp .ne 20, 3) := by decide +kernel
theorem dX13_wordOf_68 : decode cX13_wordOf 68 = .ok (.aload_n 0, 1) := by decide +kernel
theorem dX13_wordOf_69 : decode cX13_wordOf 69 = .ok (.iload 5, 2) := by decide +kernel
theorem dX13_wordOf_71 : decode cX13_wordOf 71 = .ok (.iload 6, 2) := by decide +kernel
theorem dX13_wordOf_73 : decode cX13_wordOf 73 = .ok (.iadd, 1) := by decide +kernel
theorem dX13_wordOf_74 : decode cX13_wordOf 74 = .ok (.invokevirtual 410, 3) := by decide +kernel
theorem dX13_wordOf_77 : decode cX13_wordOf 77 = .ok (.bipush 32, 2) := by decide +kernel
theorem dX13_wordOf_79 : decode cX13_wordOf 79 = .ok (.if_icmp .ne 6, 3) := by decide +kernel
theorem dX13_wordOf_82 : decode cX13_wordOf 82 = .ok (.iload 4, 2) := by decide +kernel
theorem dX13_wordOf_84 : decode cX13_wordOf 84 = .ok (.ireturn, 1) := by decide +kernel
theorem dX13_wordOf_85 : decode cX13_wordOf 85 = .ok (.aload_n 0, 1) := by decide +kernel
theorem dX13_wordOf_86 : decode cX13_wordOf 86 = .ok (.iload 5, 2) := by decide +kernel
theorem dX13_wordOf_88 : decode cX13_wordOf 88 = .ok (.invokevirtual 410, 3) := by decide +kernel
theorem dX13_wordOf_91 : decode cX13_wordOf 91 = .ok (.bipush 32, 2) := by decide +kernel
theorem dX13_wordOf_93 : decode cX13_wordOf 93 = .ok (.if_icmp .eq 9, 3) := by decide +kernel
theorem dX13_wordOf_96 : decode cX13_wordOf 96 = .ok (.iinc 5 1, 3) := by decide +kernel
theorem dX13_wordOf_99 : decode cX13_wordOf 99 = .ok (.goto (-14), 3) := by decide +kernel
theorem dX13_wordOf_102 : decode cX13_wordOf 102 = .ok (.iinc 5 1, 3) := by decide +kernel
theorem dX13_wordOf_105 : decode cX13_wordOf 105 = .ok (.iinc 4 1, 3) := by decide +kernel
theorem dX13_wordOf_108 : decode cX13_wordOf 108 = .ok (.goto (-102), 3) := by decide +kernel
theorem dX13_wordOf_111 : decode cX13_wordOf 111 = .ok (.iconst (-1), 1) := by decide +kernel
theorem dX13_wordOf_112 : decode cX13_wordOf 112 = .ok (.ireturn, 1) := by decide +kernel
abbrev rmX13_wordOf : Room := { frames := 4, cells := 0, slots := 0, locals := 85 }
set_option maxHeartbeats 4000000 in
set_option maxRecDepth 100000 in
theorem wB_X13_wordOf_85 {G : mG} {F : Nat} {x : mXT} {sz : Nat} {r0 : Int32} {M0 : mM} (X : mCX G RX13 cX13_wordOf 7 (some .int) "wordOf" rmX13_wordOf x) (hQ : mQI x r0 M0 (sz, 0, 0)) (r6 : Nat → Nat → Int32 → Int32 → Int32 → Int32 → mM → Option (Int32 × mM)) (hr6 : ∀ (l0 : Nat) (l1 : Nat) (l2 : Int32) (l3 : Int32) (l4 : Int32) (l5 : Int32) (M : mM), r6 l0 l1 l2 l3 l4 l5 M = some (r0, M0) → WW x (sz, 0, 0) M 6 [(0, .ref l0), (1, .ref l1), (2, .int l2), (3, .int l3), (4, .int l4), (5, .int l5)] []) : ∀ (n : Nat) (l0 : Nat) (l1 : Nat) (l2 : Int32) (l3 : Int32) (l4 : Int32) (l5 : Int32) (M : mM), B_X13_wordOf_85 G F r6 n l0 l1 l2 l3 l4 l5 M = some (r0, M0) → WW x (sz, 0, 0) M 85 [(0, .ref l0), (1, .ref l1), (2, .int l2), (3, .int l3), (4, .int l4), (5, .int l5)] [] := by
  intro n
  induction n with
  | zero =>
    intro l0 l1 l2 l3 l4 l5 M h
    exact nomatch (show (none : Option (Int32 × mM)) = some (r0, M0) from h)
  | succ n ih =>
    intro l0 l1 l2 l3 l4 l5 M h
    rw [B_X13_wordOf_85] at h
    refine ww_aload_n 85 X dX13_wordOf_85 0 rfl rfl ?_
    refine ww_iload 86 X dX13_wordOf_86 5 rfl ?_
    obtain ⟨_, f88, h⟩ := bO_some h
    obtain ⟨v88, M88, e88, h⟩ := bP_some h
    refine ww_callVIs 88 X dX13_wordOf_88 mY_J0_charAt_5068e mL_X13_410 (rcs_spec f88) rfl (As := [.int l5]) (rest := []) rfl rfl ⟨Nat.le_of_ble_eq_true rfl, Nat.le_of_ble_eq_true rfl⟩ (Nat.le_of_ble_eq_true rfl) (fun l D A => c_J0_charAt_5068e l D A e88) ?_
    refine ww_bipush 91 X (v := (32 : Int32)) dX13_wordOf_91 (by decide) ?_
    refine ww_icmp_eq 93 102 X dX13_wordOf_93 (by decide) (fun q => ?_) (fun q => ?_)
    · replace h := (if_pos q).symm.trans h
      refine ww_iinc 102 X dX13_wordOf_102 (lv' := [(0, .ref l0), (1, .ref l1), (2, .int l2), (3, .int l3), (4, .int l4), (5, .int (l5 + 1))]) 5 rfl rfl (by decide) [1, 2, 3, 4, 5, 0] rfl ?_
      refine ww_iinc 105 X dX13_wordOf_105 (lv' := [(0, .ref l0), (1, .ref l1), (2, .int l2), (3, .int l3), (4, .int (l4 + 1)), (5, .int (l5 + 1))]) 4 rfl rfl (by decide) [1, 2, 3, 4, 0, 5] rfl ?_
      refine ww_goto 108 6 X dX13_wordOf_108 (by decide) ?_
      exact (hr6 _ _ _ _ _ _ _ h)
    · replace h := (if_neg q).symm.trans h
      refine ww_iinc 96 X dX13_wordOf_96 (lv' := [(0, .ref l0), (1, .ref l1), (2, .int l2), (3, .int l3), (4, .int l4), (5, .int (l5 + 1))]) 5 rfl rfl (by decide) [1, 2, 3, 4, 5, 0] rfl ?_
      refine ww_goto 99 85 X dX13_wordOf_99 (by decide) ?_
      exact (ih _ _ _ _ _ _ _ h)
set_option maxHeartbeats 4000000 in
set_option maxRecDepth 100000 in
theorem wB_X13_wordOf_62 {G : mG} {F : Nat} {x : mXT} {sz : Nat} {r0 : Int32} {M0 : mM} (X : mCX G RX13 cX13_wordOf 7 (some .int) "wordOf" rmX13_wordOf x) (hQ : mQI x r0 M0 (sz, 0, 0)) (r6 : Nat → Nat → Int32 → Int32 → Int32 → Int32 → mM → Option (Int32 × mM)) (hr6 : ∀ (l0 : Nat) (l1 : Nat) (l2 : Int32) (l3 : Int32) (l4 : Int32) (l5 : Int32) (M : mM), r6 l0 l1 l2 l3 l4 l5 M = some (r0, M0) → WW x (sz, 0, 0) M 6 [(0, .ref l0), (1, .ref l1), (2, .int l2), (3, .int l3), (4, .int l4), (5, .int l5)] []) {l0 : Nat} {l1 : Nat} {l2 : Int32} {l3 : Int32} {l4 : Int32} {l5 : Int32} {l6 : Int32} {M : mM} (h : B_X13_wordOf_62 G F r6 l0 l1 l2 l3 l4 l5 l6 M = some (r0, M0)) : WW x (sz, 0, 0) M 62 [(0, .ref l0), (1, .ref l1), (2, .int l2), (3, .int l3), (4, .int l4), (5, .int l5), (6, .int l6)] [] := by
  unfold B_X13_wordOf_62 at h
  refine ww_iload 62 X dX13_wordOf_62 6 rfl ?_
  refine ww_iload_n 64 X dX13_wordOf_64 3 rfl rfl ?_
  refine ww_icmp_ne 65 85 X dX13_wordOf_65 (by decide) (fun q => ?_) (fun q => ?_)
  · replace h := (if_neg q).symm.trans h
    exact ww_sub [0, 1, 2, 3, 4, 5] rfl (wB_X13_wordOf_85 X hQ _ hr6 F _ _ _ _ _ _ _ h)
  · replace h := (if_pos q).symm.trans h
    refine ww_aload_n 68 X dX13_wordOf_68 0 rfl rfl ?_
    refine ww_iload 69 X dX13_wordOf_69 5 rfl ?_
    refine ww_iload 71 X dX13_wordOf_71 6 rfl ?_
    refine ww_iadd 73 X dX13_wordOf_73 ?_
    obtain ⟨_, f74, h⟩ := bO_some h
    obtain ⟨v74, M74, e74, h⟩ := bP_some h
    refine ww_callVIs 74 X dX13_wordOf_74 mY_J0_charAt_5068e mL_X13_410 (rcs_spec f74) rfl (As := [.int (l5 + l6)]) (rest := []) rfl rfl ⟨Nat.le_of_ble_eq_true rfl, Nat.le_of_ble_eq_true rfl⟩ (Nat.le_of_ble_eq_true rfl) (fun l D A => c_J0_charAt_5068e l D A e74) ?_
    refine ww_bipush 77 X (v := (32 : Int32)) dX13_wordOf_77 (by decide) ?_
    refine ww_icmp_ne 79 85 X dX13_wordOf_79 (by decide) (fun q => ?_) (fun q => ?_)
    · replace h := (if_neg q).symm.trans h
      exact ww_sub [0, 1, 2, 3, 4, 5] rfl (wB_X13_wordOf_85 X hQ _ hr6 F _ _ _ _ _ _ _ h)
    · replace h := (if_pos q).symm.trans h
      refine ww_iload 82 X dX13_wordOf_82 4 rfl ?_
      exact ww_iretE 84 X hQ dX13_wordOf_84 h
set_option maxHeartbeats 4000000 in
set_option maxRecDepth 100000 in
theorem wB_X13_wordOf_18 {G : mG} {F : Nat} {x : mXT} {sz : Nat} {r0 : Int32} {M0 : mM} (X : mCX G RX13 cX13_wordOf 7 (some .int) "wordOf" rmX13_wordOf x) (hQ : mQI x r0 M0 (sz, 0, 0)) (r6 : Nat → Nat → Int32 → Int32 → Int32 → Int32 → mM → Option (Int32 × mM)) (hr6 : ∀ (l0 : Nat) (l1 : Nat) (l2 : Int32) (l3 : Int32) (l4 : Int32) (l5 : Int32) (M : mM), r6 l0 l1 l2 l3 l4 l5 M = some (r0, M0) → WW x (sz, 0, 0) M 6 [(0, .ref l0), (1, .ref l1), (2, .int l2), (3, .int l3), (4, .int l4), (5, .int l5)] []) : ∀ (n : Nat) (l0 : Nat) (l1 : Nat) (l2 : Int32) (l3 : Int32) (l4 : Int32) (l5 : Int32) (l6 : Int32) (M : mM), B_X13_wordOf_18 G F r6 n l0 l1 l2 l3 l4 l5 l6 M = some (r0, M0) → WW x (sz, 0, 0) M 18 [(0, .ref l0), (1, .ref l1), (2, .int l2), (3, .int l3), (4, .int l4), (5, .int l5), (6, .int l6)] [] := by
  intro n
  induction n with
  | zero =>
    intro l0 l1 l2 l3 l4 l5 l6 M h
    exact nomatch (show (none : Option (Int32 × mM)) = some (r0, M0) from h)
  | succ n ih =>
    intro l0 l1 l2 l3 l4 l5 l6 M h
    rw [B_X13_wordOf_18] at h
    refine ww_iload 18 X dX13_wordOf_18 6 rfl ?_
    refine ww_iload_n 20 X dX13_wordOf_20 3 rfl rfl ?_
    refine ww_icmp_ge 21 62 X dX13_wordOf_21 (by decide) (fun q => ?_) (fun q => ?_)
    · replace h := (if_pos q).symm.trans h
      exact (wB_X13_wordOf_62 X hQ _ hr6 h)
    · replace h := (if_neg q).symm.trans h
      refine ww_aload_n 24 X dX13_wordOf_24 0 rfl rfl ?_
      refine ww_iload 25 X dX13_wordOf_25 5 rfl ?_
      refine ww_iload 27 X dX13_wordOf_27 6 rfl ?_
      refine ww_iadd 29 X dX13_wordOf_29 ?_
      obtain ⟨_, f30, h⟩ := bO_some h
      obtain ⟨v30, M30, e30, h⟩ := bP_some h
      refine ww_callVIs 30 X dX13_wordOf_30 mY_J0_charAt_5068e mL_X13_410 (rcs_spec f30) rfl (As := [.int (l5 + l6)]) (rest := []) rfl rfl ⟨Nat.le_of_ble_eq_true rfl, Nat.le_of_ble_eq_true rfl⟩ (Nat.le_of_ble_eq_true rfl) (fun l D A => c_J0_charAt_5068e l D A e30) ?_
      refine ww_bipush 33 X (v := (32 : Int32)) dX13_wordOf_33 (by decide) ?_
      refine ww_icmp_eq 35 62 X dX13_wordOf_35 (by decide) (fun q => ?_) (fun q => ?_)
      · replace h := (if_pos q).symm.trans h
        exact (wB_X13_wordOf_62 X hQ _ hr6 h)
      · replace h := (if_neg q).symm.trans h
        refine ww_aload_n 38 X dX13_wordOf_38 0 rfl rfl ?_
        refine ww_iload 39 X dX13_wordOf_39 5 rfl ?_
        refine ww_iload 41 X dX13_wordOf_41 6 rfl ?_
        refine ww_iadd 43 X dX13_wordOf_43 ?_
        obtain ⟨_, f44, h⟩ := bO_some h
        obtain ⟨v44, M44, e44, h⟩ := bP_some h
        refine ww_callVIs 44 X dX13_wordOf_44 mY_J0_charAt_5068e mL_X13_410 (rcs_spec f44) rfl (As := [.int (l5 + l6)]) (rest := []) rfl rfl ⟨Nat.le_of_ble_eq_true rfl, Nat.le_of_ble_eq_true rfl⟩ (Nat.le_of_ble_eq_true rfl) (fun l D A => c_J0_charAt_5068e l D A e44) ?_
        refine ww_aload_n 47 X dX13_wordOf_47 1 rfl rfl ?_
        refine ww_iload_n 48 X dX13_wordOf_48 2 rfl rfl ?_
        refine ww_iload 49 X dX13_wordOf_49 6 rfl ?_
        refine ww_iadd 51 X dX13_wordOf_51 ?_
        obtain ⟨v52, e52, h⟩ := bO_some h
        refine ww_bald 52 X dX13_wordOf_52 e52 ?_
        refine ww_icmp_ne 53 62 X dX13_wordOf_53 (by decide) (fun q => ?_) (fun q => ?_)
        · replace h := (if_neg q).symm.trans h
          exact (wB_X13_wordOf_62 X hQ _ hr6 h)
        · replace h := (if_pos q).symm.trans h
          refine ww_iinc 56 X dX13_wordOf_56 (lv' := [(0, .ref l0), (1, .ref l1), (2, .int l2), (3, .int l3), (4, .int l4), (5, .int l5), (6, .int (l6 + 1))]) 6 rfl rfl (by decide) [1, 2, 3, 4, 5, 6, 0] rfl ?_
          refine ww_goto 59 18 X dX13_wordOf_59 (by decide) ?_
          exact (ih _ _ _ _ _ _ _ _ h)
set_option maxHeartbeats 4000000 in
set_option maxRecDepth 100000 in
theorem wB_X13_wordOf_6 {G : mG} {F : Nat} {x : mXT} {sz : Nat} {r0 : Int32} {M0 : mM} (X : mCX G RX13 cX13_wordOf 7 (some .int) "wordOf" rmX13_wordOf x) (hQ : mQI x r0 M0 (sz, 0, 0)) : ∀ (n : Nat) (l0 : Nat) (l1 : Nat) (l2 : Int32) (l3 : Int32) (l4 : Int32) (l5 : Int32) (M : mM), B_X13_wordOf_6 G F n l0 l1 l2 l3 l4 l5 M = some (r0, M0) → WW x (sz, 0, 0) M 6 [(0, .ref l0), (1, .ref l1), (2, .int l2), (3, .int l3), (4, .int l4), (5, .int l5)] [] := by
  intro n
  induction n with
  | zero =>
    intro l0 l1 l2 l3 l4 l5 M h
    exact nomatch (show (none : Option (Int32 × mM)) = some (r0, M0) from h)
  | succ n ih =>
    intro l0 l1 l2 l3 l4 l5 M h
    rw [B_X13_wordOf_6] at h
    refine ww_iload 6 X dX13_wordOf_6 5 rfl ?_
    refine ww_aload_n 8 X dX13_wordOf_8 0 rfl rfl ?_
    obtain ⟨_, f9, h⟩ := bO_some h
    obtain ⟨v9, M9, e9, h⟩ := bP_some h
    refine ww_callVIs 9 X dX13_wordOf_9 mY_J0_length_8abf5 mL_X13_405 (rcs_spec f9) rfl (As := []) (rest := [.int l5]) rfl rfl ⟨Nat.le_of_ble_eq_true rfl, Nat.le_of_ble_eq_true rfl⟩ (Nat.le_of_ble_eq_true rfl) (fun l D A => c_J0_length_8abf5 l D A e9) ?_
    refine ww_icmp_ge 12 111 X dX13_wordOf_12 (by decide) (fun q => ?_) (fun q => ?_)
    · replace h := (if_pos q).symm.trans h
      refine ww_iconst 111 X (v := (-1 : Int32)) dX13_wordOf_111 (by decide) ?_
      exact ww_iretE 112 X hQ dX13_wordOf_112 h
    · replace h := (if_neg q).symm.trans h
      refine ww_iconst 15 X (v := (0 : Int32)) dX13_wordOf_15 (by decide) ?_
      refine ww_istore 16 X dX13_wordOf_16 (lv' := [(0, .ref l0), (1, .ref l1), (2, .int l2), (3, .int l3), (4, .int l4), (5, .int l5), (6, .int (0 : Int32))]) (by decide) [1, 2, 3, 4, 5, 6, 0] rfl ?_
      exact (wB_X13_wordOf_18 X hQ _ ih F _ _ _ _ _ _ _ _ h)
set_option maxHeartbeats 4000000 in
set_option maxRecDepth 100000 in
theorem wP_X13_wordOf {G : mG} {F : Nat} {x : mXT} {sz : Nat} {r0 : Int32} {M0 : mM} (X : mCX G RX13 cX13_wordOf 7 (some .int) "wordOf" rmX13_wordOf x) (hQ : mQI x r0 M0 (sz, 0, 0)) {l0 : Nat} {l1 : Nat} {l2 : Int32} {l3 : Int32} {M : mM} (h : P_X13_wordOf G F l0 l1 l2 l3 M = some (r0, M0)) : WW x (sz, 0, 0) M 0 [(0, .ref l0), (1, .ref l1), (2, .int l2), (3, .int l3)] [] := by
  unfold P_X13_wordOf at h
  refine ww_iconst 0 X (v := (0 : Int32)) dX13_wordOf_0 (by decide) ?_
  refine ww_istore 1 X dX13_wordOf_1 (lv' := [(0, .ref l0), (1, .ref l1), (2, .int l2), (3, .int l3), (4, .int (0 : Int32))]) (by decide) [1, 2, 3, 4, 0] rfl ?_
  refine ww_iconst 3 X (v := (0 : Int32)) dX13_wordOf_3 (by decide) ?_
  refine ww_istore 4 X dX13_wordOf_4 (lv' := [(0, .ref l0), (1, .ref l1), (2, .int l2), (3, .int l3), (4, .int (0 : Int32)), (5, .int (0 : Int32))]) (by decide) [1, 2, 3, 4, 5, 0] rfl ?_
  exact (wB_X13_wordOf_6 X hQ F _ _ _ _ _ _ _ h)
theorem c_X13_wordOf {G : mG} {F sz : Nat} {r0 : Int32} {M0 : mM} (l : Launch) (D : mD) (A : Nat → Prop) {l0 : Nat} {l1 : Nat} {l2 : Int32} {l3 : Int32} {M : mM} (h : P_X13_wordOf G F l0 l1 l2 l3 M = some (r0, M0)) : mMetI l D G A yX13_wordOf cX13_wordOf 7 (some .int) 4 85 0 0 [.ref l0, .ref l1, .int l2, .int l3] M sz r0 M0 sz := mMetI_of l D G A (by decide) (Nat.le_of_ble_eq_true rfl) (fun x X hQ => wP_X13_wordOf X hQ h)
/-! SealedTokensModel.begins(Ljava/lang/String;I)I -/
theorem dX13_begins_0 : decode cX13_begins 0 = .ok (.iconst 0, 1) := by decide +kernel
theorem dX13_begins_1 : decode cX13_begins 1 = .ok (.istore_n 2, 1) := by decide +kernel
theorem dX13_begins_2 : decode cX13_begins 2 = .ok (.iconst 0, 1) := by decide +kernel
theorem dX13_begins_3 : decode cX13_begins 3 = .ok (.istore_n 3, 1) := by decide +kernel
theorem dX13_begins_4 : decode cX13_begins 4 = .ok (.iload_n 3, 1) := by decide +kernel
theorem dX13_begins_5 : decode cX13_begins 5 = .ok (.iload_n 1, 1) := by decide +kernel
theorem dX13_begins_6 : decode cX13_begins 6 = .ok (.if_icmp .ge 28, 3) := by decide +kernel
theorem dX13_begins_9 : decode cX13_begins 9 = .ok (.aload_n 0, 1) := by decide +kernel
theorem dX13_begins_10 : decode cX13_begins 10 = .ok (.iload_n 2, 1) := by decide +kernel
theorem dX13_begins_11 : decode cX13_begins 11 = .ok (.invokevirtual 410, 3) := by decide +kernel
theorem dX13_begins_14 : decode cX13_begins 14 = .ok (.bipush 32, 2) := by decide +kernel
theorem dX13_begins_16 : decode cX13_begins 16 = .ok (.if_icmp .eq 9, 3) := by decide +kernel
theorem dX13_begins_19 : decode cX13_begins 19 = .ok (.iinc 2 1, 3) := by decide +kernel
theorem dX13_begins_22 : decode cX13_begins 22 = .ok (.goto (-13), 3) := by decide +kernel
theorem dX13_begins_25 : decode cX13_begins 25 = .ok (.iinc 2 1, 3) := by decide +kernel
theorem dX13_begins_28 : decode cX13_begins 28 = .ok (.iinc 3 1, 3) := by decide +kernel
theorem dX13_begins_31 : decode cX13_begins 31 = .ok (.goto (-27), 3) := by decide +kernel
theorem dX13_begins_34 : decode cX13_begins 34 = .ok (.iload_n 2, 1) := by decide +kernel
theorem dX13_begins_35 : decode cX13_begins 35 = .ok (.ireturn, 1) := by decide +kernel
abbrev rmX13_begins : Room := { frames := 4, cells := 0, slots := 0, locals := 85 }
set_option maxHeartbeats 4000000 in
set_option maxRecDepth 100000 in
theorem wB_X13_begins_9 {G : mG} {F : Nat} {x : mXT} {sz : Nat} {r0 : Int32} {M0 : mM} (X : mCX G RX13 cX13_begins 4 (some .int) "begins" rmX13_begins x) (hQ : mQI x r0 M0 (sz, 0, 0)) (r4 : Nat → Int32 → Int32 → Int32 → mM → Option (Int32 × mM)) (hr4 : ∀ (l0 : Nat) (l1 : Int32) (l2 : Int32) (l3 : Int32) (M : mM), r4 l0 l1 l2 l3 M = some (r0, M0) → WW x (sz, 0, 0) M 4 [(0, .ref l0), (1, .int l1), (2, .int l2), (3, .int l3)] []) : ∀ (n : Nat) (l0 : Nat) (l1 : Int32) (l2 : Int32) (l3 : Int32) (M : mM), B_X13_begins_9 G F r4 n l0 l1 l2 l3 M = some (r0, M0) → WW x (sz, 0, 0) M 9 [(0, .ref l0), (1, .int l1), (2, .int l2), (3, .int l3)] [] := by
  intro n
  induction n with
  | zero =>
    intro l0 l1 l2 l3 M h
    exact nomatch (show (none : Option (Int32 × mM)) = some (r0, M0) from h)
  | succ n ih =>
    intro l0 l1 l2 l3 M h
    rw [B_X13_begins_9] at h
    refine ww_aload_n 9 X dX13_begins_9 0 rfl rfl ?_
    refine ww_iload_n 10 X dX13_begins_10 2 rfl rfl ?_
    obtain ⟨_, f11, h⟩ := bO_some h
    obtain ⟨v11, M11, e11, h⟩ := bP_some h
    refine ww_callVIs 11 X dX13_begins_11 mY_J0_charAt_5068e mL_X13_410 (rcs_spec f11) rfl (As := [.int l2]) (rest := []) rfl rfl ⟨Nat.le_of_ble_eq_true rfl, Nat.le_of_ble_eq_true rfl⟩ (Nat.le_of_ble_eq_true rfl) (fun l D A => c_J0_charAt_5068e l D A e11) ?_
    refine ww_bipush 14 X (v := (32 : Int32)) dX13_begins_14 (by decide) ?_
    refine ww_icmp_eq 16 25 X dX13_begins_16 (by decide) (fun q => ?_) (fun q => ?_)
    · replace h := (if_pos q).symm.trans h
      refine ww_iinc 25 X dX13_begins_25 (lv' := [(0, .ref l0), (1, .int l1), (2, .int (l2 + 1)), (3, .int l3)]) 2 rfl rfl (by decide) [1, 2, 0, 3] rfl ?_
      refine ww_iinc 28 X dX13_begins_28 (lv' := [(0, .ref l0), (1, .int l1), (2, .int (l2 + 1)), (3, .int (l3 + 1))]) 3 rfl rfl (by decide) [1, 2, 3, 0] rfl ?_
      refine ww_goto 31 4 X dX13_begins_31 (by decide) ?_
      exact (hr4 _ _ _ _ _ h)
    · replace h := (if_neg q).symm.trans h
      refine ww_iinc 19 X dX13_begins_19 (lv' := [(0, .ref l0), (1, .int l1), (2, .int (l2 + 1)), (3, .int l3)]) 2 rfl rfl (by decide) [1, 2, 0, 3] rfl ?_
      refine ww_goto 22 9 X dX13_begins_22 (by decide) ?_
      exact (ih _ _ _ _ _ h)
set_option maxHeartbeats 4000000 in
set_option maxRecDepth 100000 in
theorem wB_X13_begins_4 {G : mG} {F : Nat} {x : mXT} {sz : Nat} {r0 : Int32} {M0 : mM} (X : mCX G RX13 cX13_begins 4 (some .int) "begins" rmX13_begins x) (hQ : mQI x r0 M0 (sz, 0, 0)) : ∀ (n : Nat) (l0 : Nat) (l1 : Int32) (l2 : Int32) (l3 : Int32) (M : mM), B_X13_begins_4 G F n l0 l1 l2 l3 M = some (r0, M0) → WW x (sz, 0, 0) M 4 [(0, .ref l0), (1, .int l1), (2, .int l2), (3, .int l3)] [] := by
  intro n
  induction n with
  | zero =>
    intro l0 l1 l2 l3 M h
    exact nomatch (show (none : Option (Int32 × mM)) = some (r0, M0) from h)
  | succ n ih =>
    intro l0 l1 l2 l3 M h
    rw [B_X13_begins_4] at h
    refine ww_iload_n 4 X dX13_begins_4 3 rfl rfl ?_
    refine ww_iload_n 5 X dX13_begins_5 1 rfl rfl ?_
    refine ww_icmp_ge 6 34 X dX13_begins_6 (by decide) (fun q => ?_) (fun q => ?_)
    · replace h := (if_pos q).symm.trans h
      refine ww_iload_n 34 X dX13_begins_34 2 rfl rfl ?_
      exact ww_iretE 35 X hQ dX13_begins_35 h
    · replace h := (if_neg q).symm.trans h
      exact (wB_X13_begins_9 X hQ _ ih F _ _ _ _ _ h)
set_option maxHeartbeats 4000000 in
set_option maxRecDepth 100000 in
theorem wP_X13_begins {G : mG} {F : Nat} {x : mXT} {sz : Nat} {r0 : Int32} {M0 : mM} (X : mCX G RX13 cX13_begins 4 (some .int) "begins" rmX13_begins x) (hQ : mQI x r0 M0 (sz, 0, 0)) {l0 : Nat} {l1 : Int32} {M : mM} (h : P_X13_begins G F l0 l1 M = some (r0, M0)) : WW x (sz, 0, 0) M 0 [(0, .ref l0), (1, .int l1)] [] := by
  unfold P_X13_begins at h
  refine ww_iconst 0 X (v := (0 : Int32)) dX13_begins_0 (by decide) ?_
  refine ww_istore_n 1 X dX13_begins_1 (lv' := [(0, .ref l0), (1, .int l1), (2, .int (0 : Int32))]) rfl (by decide) [1, 2, 0] rfl ?_
  refine ww_iconst 2 X (v := (0 : Int32)) dX13_begins_2 (by decide) ?_
  refine ww_istore_n 3 X dX13_begins_3 (lv' := [(0, .ref l0), (1, .int l1), (2, .int (0 : Int32)), (3, .int (0 : Int32))]) rfl (by decide) [1, 2, 3, 0] rfl ?_
  exact (wB_X13_begins_4 X hQ F _ _ _ _ _ h)
theorem c_X13_begins {G : mG} {F sz : Nat} {r0 : Int32} {M0 : mM} (l : Launch) (D : mD) (A : Nat → Prop) {l0 : Nat} {l1 : Int32} {M : mM} (h : P_X13_begins G F l0 l1 M = some (r0, M0)) : mMetI l D G A yX13_begins cX13_begins 4 (some .int) 4 85 0 0 [.ref l0, .int l1] M sz r0 M0 sz := mMetI_of l D G A (by decide) (Nat.le_of_ble_eq_true rfl) (fun x X hQ => wP_X13_begins X hQ h)
/-! SealedTokensModel.sayWord(Ljava/lang/String;I)V -/
theorem dX13_sayWord_0 : decode cX13_sayWord 0 = .ok (.aload_n 1, 1) := by decide +kernel
theorem dX13_sayWord_1 : decode cX13_sayWord 1 = .ok (.iload_n 2, 1) := by decide +kernel
theorem dX13_sayWord_2 : decode cX13_sayWord 2 = .ok (.invokestatic 891, 3) := by decide +kernel
theorem dX13_sayWord_5 : decode cX13_sayWord 5 = .ok (.istore_n 3, 1) := by decide +kernel
theorem dX13_sayWord_6 : decode cX13_sayWord 6 = .ok (.aload_n 1, 1) := by decide +kernel
theorem dX13_sayWord_7 : decode cX13_sayWord 7 = .ok (.iload_n 3, 1) := by decide +kernel
theorem dX13_sayWord_8 : decode cX13_sayWord 8 = .ok (.invokevirtual 410, 3) := by decide +kernel
theorem dX13_sayWord_11 : decode cX13_sayWord 11 = .ok (.bipush 32, 2) := by decide +kernel
theorem dX13_sayWord_13 : decode cX13_sayWord 13 = .ok (.if_icmp .eq 18, 3) := by decide +kernel
theorem dX13_sayWord_16 : decode cX13_sayWord 16 = .ok (.aload_n 0, 1) := by decide +kernel
theorem dX13_sayWord_17 : decode cX13_sayWord 17 = .ok (.aload_n 1, 1) := by decide +kernel
theorem dX13_sayWord_18 : decode cX13_sayWord 18 = .ok (.iload_n 3, 1) := by decide +kernel
theorem dX13_sayWord_19 : decode cX13_sayWord 19 = .ok (.invokevirtual 410, 3) := by decide +kernel
theorem dX13_sayWord_22 : decode cX13_sayWord 22 = .ok (.invokevirtual 470, 3) := by decide +kernel
theorem dX13_sayWord_25 : decode cX13_sayWord 25 = .ok (.iinc 3 1, 3) := by decide +kernel
theorem dX13_sayWord_28 : decode cX13_sayWord 28 = .ok (.goto (-22), 3) := by decide +kernel
theorem dX13_sayWord_31 : decode cX13_sayWord 31 = .ok (.return_, 1) := by decide +kernel
abbrev rmX13_sayWord : Room := { frames := 5, cells := 0, slots := 0, locals := 108 }
set_option maxHeartbeats 4000000 in
set_option maxRecDepth 100000 in
theorem wB_X13_sayWord_6 {G : mG} {F : Nat} {x : mXT} {sz : Nat} {M0 : mM} (X : mCX G RX13 cX13_sayWord 4 none "sayWord" rmX13_sayWord x) (hQ : mQV x M0 (sz, 0, 0)) : ∀ (n : Nat) (l0 : Nat) (l1 : Nat) (l3 : Int32) (M : mM), B_X13_sayWord_6 G F n l0 l1 l3 M = some M0 → WW x (sz, 0, 0) M 6 [(0, .ref l0), (1, .ref l1), (3, .int l3)] [] := by
  intro n
  induction n with
  | zero =>
    intro l0 l1 l3 M h
    exact nomatch (show (none : Option mM) = some M0 from h)
  | succ n ih =>
    intro l0 l1 l3 M h
    rw [B_X13_sayWord_6] at h
    refine ww_aload_n 6 X dX13_sayWord_6 1 rfl rfl ?_
    refine ww_iload_n 7 X dX13_sayWord_7 2 rfl rfl ?_
    obtain ⟨_, f8, h⟩ := bO_some h
    obtain ⟨v8, M8, e8, h⟩ := bP_some h
    refine ww_callVIs 8 X dX13_sayWord_8 mY_J0_charAt_5068e mL_X13_410 (rcs_spec f8) rfl (As := [.int l3]) (rest := []) rfl rfl ⟨Nat.le_of_ble_eq_true rfl, Nat.le_of_ble_eq_true rfl⟩ (Nat.le_of_ble_eq_true rfl) (fun l D A => c_J0_charAt_5068e l D A e8) ?_
    refine ww_bipush 11 X (v := (32 : Int32)) dX13_sayWord_11 (by decide) ?_
    refine ww_icmp_eq 13 31 X dX13_sayWord_13 (by decide) (fun q => ?_) (fun q => ?_)
    · replace h := (if_pos q).symm.trans h
      exact ww_vretE 31 X hQ dX13_sayWord_31 h
    · replace h := (if_neg q).symm.trans h
      refine ww_aload_n 16 X dX13_sayWord_16 0 rfl rfl ?_
      refine ww_aload_n 17 X dX13_sayWord_17 1 rfl rfl ?_
      refine ww_iload_n 18 X dX13_sayWord_18 2 rfl rfl ?_
      obtain ⟨_, f19, h⟩ := bO_some h
      obtain ⟨v19, M19, e19, h⟩ := bP_some h
      refine ww_callVIs 19 X dX13_sayWord_19 mY_J0_charAt_5068e mL_X13_410 (rcs_spec f19) rfl (As := [.int l3]) (rest := [.ref l0]) rfl rfl ⟨Nat.le_of_ble_eq_true rfl, Nat.le_of_ble_eq_true rfl⟩ (Nat.le_of_ble_eq_true rfl) (fun l D A => c_J0_charAt_5068e l D A e19) ?_
      obtain ⟨_, f22, h⟩ := bO_some h
      obtain ⟨M22, e22, h⟩ := bO_some h
      refine ww_callVV0 22 X dX13_sayWord_22 mY_X13_say mL_X13_470 (rcv_spec f22) ⟨_, _, rfl⟩ (by decide) (As := [.int v19]) (rest := []) rfl rfl ⟨Nat.le_of_ble_eq_true rfl, Nat.le_of_ble_eq_true rfl⟩ (Nat.le_of_ble_eq_true rfl) (fun l D A => c_X13_say l D A e22) ?_
      refine ww_iinc 25 X dX13_sayWord_25 (lv' := [(0, .ref l0), (1, .ref l1), (3, .int (l3 + 1))]) 2 rfl rfl (by decide) [1, 2, 0] rfl ?_
      refine ww_goto 28 6 X dX13_sayWord_28 (by decide) ?_
      exact (ih _ _ _ _ h)
set_option maxHeartbeats 4000000 in
set_option maxRecDepth 100000 in
theorem wP_X13_sayWord {G : mG} {F : Nat} {x : mXT} {sz : Nat} {M0 : mM} (X : mCX G RX13 cX13_sayWord 4 none "sayWord" rmX13_sayWord x) (hQ : mQV x M0 (sz, 0, 0)) {l0 : Nat} {l1 : Nat} {l2 : Int32} {M : mM} (h : P_X13_sayWord G F l0 l1 l2 M = some M0) : WW x (sz, 0, 0) M 0 [(0, .ref l0), (1, .ref l1), (2, .int l2)] [] := by
  unfold P_X13_sayWord at h
  refine ww_aload_n 0 X dX13_sayWord_0 1 rfl rfl ?_
  refine ww_iload_n 1 X dX13_sayWord_1 2 rfl rfl ?_
  obtain ⟨v2, M2, e2, h⟩ := bP_some h
  refine ww_callSI0 2 X dX13_sayWord_2 mY_X13_begins mL_X13_891 (As := [.ref l1, .int l2]) (rest := []) rfl rfl ⟨Nat.le_of_ble_eq_true rfl, Nat.le_of_ble_eq_true rfl⟩ (Nat.le_of_ble_eq_true rfl) (fun l D A => c_X13_begins l D A e2) ?_
  refine ww_istore_n 5 X dX13_sayWord_5 (lv' := [(0, .ref l0), (1, .ref l1), (2, .int l2), (3, .int v2)]) rfl (by decide) [1, 2, 3, 0] rfl ?_
  exact ww_sub [0, 1, 3] rfl (wB_X13_sayWord_6 X hQ F _ _ _ _ h)
theorem c_X13_sayWord {G : mG} {F sz : Nat} {M0 : mM} (l : Launch) (D : mD) (A : Nat → Prop) {l0 : Nat} {l1 : Nat} {l2 : Int32} {M : mM} (h : P_X13_sayWord G F l0 l1 l2 M = some M0) : mMetV l D G A yX13_sayWord cX13_sayWord 4 none 5 108 0 0 [.ref l0, .ref l1, .int l2] M sz M0 sz := mMetV_of l D G A (by decide) (Nat.le_of_ble_eq_true rfl) (fun x X hQ => wP_X13_sayWord X hQ h)
/-! SealedTokensModel.wordAt(IILjava/lang/String;)I -/
theorem dX13_wordAt_0 : decode cX13_wordAt 0 = .ok (.aload_n 3, 1) := by decide +kernel
theorem dX13_wordAt_1 : decode cX13_wordAt 1 = .ok (.aload_n 0, 1) := by decide +kernel
theorem dX13_wordAt_2 : decode cX13_wordAt 2 = .ok (.getfield 51, 3) := by decide +kernel
theorem dX13_wordAt_5 : decode cX13_wordAt 5 = .ok (.aload_n 0, 1) := by decide +kernel
theorem dX13_wordAt_6 : decode cX13_wordAt 6 = .ok (.getfield 39, 3) := by decide +kernel
theorem dX13_wordAt_9 : decode cX13_wordAt 9 = .ok (.sipush 600, 3) := by decide +kernel
theorem dX13_wordAt_12 : decode cX13_wordAt 12 = .ok (.iload_n 1, 1) := by decide +kernel
theorem dX13_wordAt_13 : decode cX13_wordAt 13 = .ok (.imul, 1) := by decide +kernel
theorem dX13_wordAt_14 : decode cX13_wordAt 14 = .ok (.iload_n 2, 1) := by decide +kernel
theorem dX13_wordAt_15 : decode cX13_wordAt 15 = .ok (.iadd, 1) := by decide +kernel
theorem dX13_wordAt_16 : decode cX13_wordAt 16 = .ok (.iaload, 1) := by decide +kernel
theorem dX13_wordAt_17 : decode cX13_wordAt 17 = .ok (.aload_n 0, 1) := by decide +kernel
theorem dX13_wordAt_18 : decode cX13_wordAt 18 = .ok (.getfield 42, 3) := by decide +kernel
theorem dX13_wordAt_21 : decode cX13_wordAt 21 = .ok (.sipush 600, 3) := by decide +kernel
theorem dX13_wordAt_24 : decode cX13_wordAt 24 = .ok (.iload_n 1, 1) := by decide +kernel
theorem dX13_wordAt_25 : decode cX13_wordAt 25 = .ok (.imul, 1) := by decide +kernel
theorem dX13_wordAt_26 : decode cX13_wordAt 26 = .ok (.iload_n 2, 1) := by decide +kernel
theorem dX13_wordAt_27 : decode cX13_wordAt 27 = .ok (.iadd, 1) := by decide +kernel
theorem dX13_wordAt_28 : decode cX13_wordAt 28 = .ok (.iaload, 1) := by decide +kernel
theorem dX13_wordAt_29 : decode cX13_wordAt 29 = .ok (.invokestatic 895, 3) := by decide +kernel
theorem dX13_wordAt_32 : decode cX13_wordAt 32 = .ok (.ireturn, 1) := by decide +kernel
abbrev rmX13_wordAt : Room := { frames := 5, cells := 0, slots := 0, locals := 111 }
set_option maxHeartbeats 4000000 in
set_option maxRecDepth 100000 in
theorem wP_X13_wordAt {G : mG} {F : Nat} {x : mXT} {sz : Nat} {r0 : Int32} {M0 : mM} (X : mCX G RX13 cX13_wordAt 4 (some .int) "wordAt" rmX13_wordAt x) (hQ : mQI x r0 M0 (sz, 0, 0)) {l0 : Nat} {l1 : Int32} {l2 : Int32} {l3 : Nat} {M : mM} (h : P_X13_wordAt G F l0 l1 l2 l3 M = some (r0, M0)) : WW x (sz, 0, 0) M 0 [(0, .ref l0), (1, .int l1), (2, .int l2), (3, .ref l3)] [] := by
  unfold P_X13_wordAt at h
  refine ww_aload_n 0 X dX13_wordAt_0 3 rfl rfl ?_
  refine ww_aload_n 1 X dX13_wordAt_1 0 rfl rfl ?_
  obtain ⟨v2, e2, h⟩ := bO_some h
  refine ww_getR 2 X dX13_wordAt_2 fG_X13_51 e2 ?_
  refine ww_aload_n 5 X dX13_wordAt_5 0 rfl rfl ?_
  obtain ⟨v6, e6, h⟩ := bO_some h
  refine ww_getR 6 X dX13_wordAt_6 fG_X13_39 e6 ?_
  refine ww_sipush 9 X (v := (600 : Int32)) dX13_wordAt_9 (by decide) ?_
  refine ww_iload_n 12 X dX13_wordAt_12 1 rfl rfl ?_
  refine ww_imul 13 X dX13_wordAt_13 ?_
  refine ww_iload_n 14 X dX13_wordAt_14 2 rfl rfl ?_
  refine ww_iadd 15 X dX13_wordAt_15 ?_
  obtain ⟨v16, e16, h⟩ := bO_some h
  refine ww_iald 16 X dX13_wordAt_16 e16 ?_
  refine ww_aload_n 17 X dX13_wordAt_17 0 rfl rfl ?_
  obtain ⟨v18, e18, h⟩ := bO_some h
  refine ww_getR 18 X dX13_wordAt_18 fG_X13_42 e18 ?_
  refine ww_sipush 21 X (v := (600 : Int32)) dX13_wordAt_21 (by decide) ?_
  refine ww_iload_n 24 X dX13_wordAt_24 1 rfl rfl ?_
  refine ww_imul 25 X dX13_wordAt_25 ?_
  refine ww_iload_n 26 X dX13_wordAt_26 2 rfl rfl ?_
  refine ww_iadd 27 X dX13_wordAt_27 ?_
  obtain ⟨v28, e28, h⟩ := bO_some h
  refine ww_iald 28 X dX13_wordAt_28 e28 ?_
  obtain ⟨v29, M29, e29, h⟩ := bP_some h
  refine ww_callSI0 29 X dX13_wordAt_29 mY_X13_wordOf mL_X13_895 (As := [.ref l3, .ref v2, .int v16, .int v28]) (rest := []) rfl rfl ⟨Nat.le_of_ble_eq_true rfl, Nat.le_of_ble_eq_true rfl⟩ (Nat.le_of_ble_eq_true rfl) (fun l D A => c_X13_wordOf l D A e29) ?_
  exact ww_iretE 32 X hQ dX13_wordAt_32 h
theorem c_X13_wordAt {G : mG} {F sz : Nat} {r0 : Int32} {M0 : mM} (l : Launch) (D : mD) (A : Nat → Prop) {l0 : Nat} {l1 : Int32} {l2 : Int32} {l3 : Nat} {M : mM} (h : P_X13_wordAt G F l0 l1 l2 l3 M = some (r0, M0)) : mMetI l D G A yX13_wordAt cX13_wordAt 4 (some .int) 5 111 0 0 [.ref l0, .int l1, .int l2, .ref l3] M sz r0 M0 sz := mMetI_of l D G A (by decide) (Nat.le_of_ble_eq_true rfl) (fun x X hQ => wP_X13_wordAt X hQ h)
/-! SealedTokensModel.isCrit(II)Z -/
theorem dX13_isCrit_0 : decode cX13_isCrit 0 = .ok (.sipush 600, 3) := by decide +kernel
theorem dX13_isCrit_3 : decode cX13_isCrit 3 = .ok (.iload_n 1, 1) := by decide +kernel
theorem dX13_isCrit_4 : decode cX13_isCrit 4 = .ok (.imul, 1) := by decide +kernel
theorem dX13_isCrit_5 : decode cX13_isCrit 5 = .ok (.iload_n 2, 1) := by decide +kernel
theorem dX13_isCrit_6 : decode cX13_isCrit 6 = .ok (.iadd, 1) := by decide +kernel
theorem dX13_isCrit_7 : decode cX13_isCrit 7 = .ok (.istore_n 3, 1) := by decide +kernel
theorem dX13_isCrit_8 : decode cX13_isCrit 8 = .ok (.aload_n 0, 1) := by decide +kernel
theorem dX13_isCrit_9 : decode cX13_isCrit 9 = .ok (.getfield 24, 3) := by decide +kernel
theorem dX13_isCrit_12 : decode cX13_isCrit 12 = .ok (.iload_n 3, 1) := by decide +kernel
theorem dX13_isCrit_13 : decode cX13_isCrit 13 = .ok (.iaload, 1) := by decide +kernel
theorem dX13_isCrit_14 : decode cX13_isCrit 14 = .ok (.iconst 5, 1) := by decide +kernel
theorem dX13_isCrit_15 : decode cX13_isCrit 15 = .ok (.if_icmp .ne 16, 3) := by decide +kernel
theorem dX13_isCrit_18 : decode cX13_isCrit 18 = .ok (.aload_n 0, 1) := by decide +kernel
theorem dX13_isCrit_19 : decode cX13_isCrit 19 = .ok (.getfield 36, 3) := by decide +kernel
theorem dX13_isCrit_22 : decode cX13_isCrit 22 = .ok (.iload_n 3, 1) := by decide +kernel
theorem dX13_isCrit_23 : decode cX13_isCrit 23 = .ok (.iaload, 1) := by decide +kernel
theorem dX13_isCrit_24 : decode cX13_isCrit 24 = .ok (.ifCond .le 7, 3) := by decide +kernel
theorem dX13_isCrit_27 : decode cX13_isCrit 27 = .ok (.iconst 1, 1) := by decide +kernel
theorem dX13_isCrit_28 : decode cX13_isCrit 28 = .ok (.goto 4, 3) := by decide +kernel
theorem dX13_isCrit_31 : decode cX13_isCrit 31 = .ok (.iconst 0, 1) := by decide +kernel
theorem dX13_isCrit_32 : decode cX13_isCrit 32 = .ok (.istore 4, 2) := by decide +kernel
theorem dX13_isCrit_34 : decode cX13_isCrit 34 = .ok (.iload_n 3, 1) := by decide +kernel
theorem dX13_isCrit_35 : decode cX13_isCrit 35 = .ok (.iconst 1, 1) := by decide +kernel
theorem dX13_isCrit_36 : decode cX13_isCrit 36 = .ok (.iadd, 1) := by decide +kernel
theorem dX13_isCrit_37 : decode cX13_isCrit 37 = .ok (.istore 5, 2) := by decide +kernel
theorem dX13_isCrit_39 : decode cX13_isCrit 39 = .ok (.iload 5, 2) := by decide +kernel
theorem dX13_isCrit_41 : decode cX13_isCrit 41 = .ok (.sipush 600, 3) := by decide +kernel
theorem dX13_isCrit_44 : decode cX13_isCrit 44 = .ok (.iload_n 1, 1) := by decide +kernel
theorem dX13_isCrit_45 : decode cX13_isCrit 45 = .ok (.imul, 1) := by decide +kernel
theorem dX13_isCrit_46 : decode cX13_isCrit 46 = .ok (.aload_n 0, 1) := by decide +kernel
theorem dX13_isCrit_47 : decode cX13_isCrit 47 = .ok (.getfield 54, 3) := by decide +kernel
theorem dX13_isCrit_50 : decode cX13_isCrit 50 = .ok (.iload_n 1, 1) := by decide +kernel
theorem dX13_isCrit_51 : decode cX13_isCrit 51 = .ok (.iaload, 1) := by decide +kernel
theorem dX13_isCrit_52 : decode cX13_isCrit 52 = .ok (.iadd, 1) := by decide +kernel
theorem dX13_isCrit_53 : decode cX13_isCrit 53 = .ok (.if_icmp .ge 136, 3) := by decide +kernel
theorem dX13_isCrit_56 : decode cX13_isCrit 56 = .ok (.iload 4, 2) := by decide +kernel
theorem dX13_isCrit_58 : decode cX13_isCrit 58 = .ok (.ifCond .eq 131, 3) := by decide +kernel
theorem dX13_isCrit_61 : decode cX13_isCrit 61 = .ok (.aload_n 0, 1) := by decide +kernel
theorem dX13_isCrit_62 : decode cX13_isCrit 62 = .ok (.getfield 27, 3) := by decide +kernel
theorem dX13_isCrit_65 : decode cX13_isCrit 65 = .ok (.iload 5, 2) := by decide +kernel
theorem dX13_isCrit_67 : decode cX13_isCrit 67 = .ok (.iaload, 1) := by decide +kernel
theorem dX13_isCrit_68 : decode cX13_isCrit 68 = .ok (.iload_n 2, 1) := by decide +kernel
theorem dX13_isCrit_69 : decode cX13_isCrit 69 = .ok (.if_icmp .ne 114, 3) := by decide +kernel
theorem dX13_isCrit_72 : decode cX13_isCrit 72 = .ok (.aload_n 0, 1) := by decide +kernel
theorem dX13_isCrit_73 : decode cX13_isCrit 73 = .ok (.getfield 24, 3) := by decide +kernel
theorem dX13_isCrit_76 : decode cX13_isCrit 76 = .ok (.iload 5, 2) := by decide +kernel
theorem dX13_isCrit_78 : decode cX13_isCrit 78 = .ok (.iaload, 1) := by decide +kernel
theorem dX13_isCrit_79 : decode cX13_isCrit 79 = .ok (.iconst 4, 1) := by decide +kernel
theorem dX13_isCrit_80 : decode cX13_isCrit 80 = .ok (.if_icmp .ne 7, 3) := by decide +kernel
theorem dX13_isCrit_83 : decode cX13_isCrit 83 = .ok (.iconst 1, 1) := by decide +kernel
theorem dX13_isCrit_84 : decode cX13_isCrit 84 = .ok (.goto 4, 3) := by decide +kernel
theorem dX13_isCrit_87 : decode cX13_isCrit 87 = .ok (.iconst 0, 1) := by decide +kernel
theorem dX13_isCrit_88 : decode cX13_isCrit 88 = .ok (.istore 4, 2) := by decide +kernel
theorem dX13_isCrit_90 : decode cX13_isCrit 90 = .ok (.iload_n 3, 1) := by decide +kernel
theorem dX13_isCrit_91 : decode cX13_isCrit 91 = .ok (.iconst 1, 1) := by decide +kernel
theorem dX13_isCrit_92 : decode cX13_isCrit 92 = .ok (.iadd, 1) := by decide +kernel
theorem dX13_isCrit_93 : decode cX13_isCrit 93 = .ok (.istore 6, 2) := by decide +kernel
theorem dX13_isCrit_95 : decode cX13_isCrit 95 = .ok (.iload 6, 2) := by decide +kernel
theorem dX13_isCrit_97 : decode cX13_isCrit 97 = .ok (.iload 5, 2) := by decide +kernel
theorem dX13_isCrit_99 : decode cX13_isCrit 99 = .ok (.if_icmp .ge 84, 3) := by decide +kernel
theorem dX13_isCrit_102 : decode cX13_isCrit 102 = .ok (.iload 4, 2) := by decide +kernel
theorem dX13_isCrit_104 : decode cX13_isCrit 104 = .ok (.ifCond .eq 79, 3) := by decide +kernel
theorem dX13_isCrit_107 : decode cX13_isCrit 107 = .ok (.aload_n 0, 1) := by decide +kernel
theorem dX13_isCrit_108 : decode cX13_isCrit 108 = .ok (.getfield 27, 3) := by decide +kernel
theorem dX13_isCrit_111 : decode cX13_isCrit 111 = .ok (.iload 6, 2) := by decide +kernel
theorem dX13_isCrit_113 : decode cX13_isCrit 113 = .ok (.iaload, 1) := by decide +kernel
theorem dX13_isCrit_114 : decode cX13_isCrit 114 = .ok (.iload_n 2, 1) := by decide +kernel
theorem dX13_isCrit_115 : decode cX13_isCrit 115 = .ok (.if_icmp .ne 55, 3) := by decide +kernel
theorem dX13_isCrit_118 : decode cX13_isCrit 118 = .ok (.aload_n 0, 1) := by decide +kernel
theorem dX13_isCrit_119 : decode cX13_isCrit 119 = .ok (.getfield 42, 3) := by decide +kernel
theorem dX13_isCrit_122 : decode cX13_isCrit 122 = .ok (.iload 6, 2) := by decide +kernel
theorem dX13_isCrit_124 : decode cX13_isCrit 124 = .ok (.iaload, 1) := by decide +kernel
theorem dX13_isCrit_125 : decode cX13_isCrit 125 = .ok (.aload_n 0, 1) := by decide +kernel
theorem dX13_isCrit_126 : decode cX13_isCrit 126 = .ok (.getfield 42, 3) := by decide +kernel
theorem dX13_isCrit_129 : decode cX13_isCrit 129 = .ok (.iload 5, 2) := by decide +kernel
theorem dX13_isCrit_131 : decode cX13_isCrit 131 = .ok (.iaload, 1) := by decide +kernel
theorem dX13_isCrit_132 : decode cX13_isCrit 132 = .ok (.if_icmp .ne 38, 3) := by decide +kernel
theorem dX13_isCrit_135 : decode cX13_isCrit 135 = .ok (.aload_n 0, 1) := by decide +kernel
theorem dX13_isCrit_136 : decode cX13_isCrit 136 = .ok (.getfield 51, 3) := by decide +kernel
theorem dX13_isCrit_139 : decode cX13_isCrit 139 = .ok (.aload_n 0, 1) := by decide +kernel
theorem dX13_isCrit_140 : decode cX13_isCrit 140 = .ok (.getfield 39, 3) := by decide +kernel
theorem dX13_isCrit_143 : decode cX13_isCrit 143 = .ok (.iload 6, 2) := by decide +kernel
theorem dX13_isCrit_145 : decode cX13_isCrit 145 = .ok (.iaload, 1) := by decide +kernel
theorem dX13_isCrit_146 : decode cX13_isCrit 146 = .ok (.aload_n 0, 1) := by decide +kernel
theorem dX13_isCrit_147 : decode cX13_isCrit 147 = .ok (.getfield 51, 3) := by decide +kernel
theorem dX13_isCrit_150 : decode cX13_isCrit 150 = .ok (.aload_n 0, 1) := by decide +kernel
theorem dX13_isCrit_151 : decode cX13_isCrit 151 = .ok (.getfield 39, 3) := by decide +kernel
theorem dX13_isCrit_154 : decode cX13_isCrit 154 = .ok (.iload 5, 2) := by decide +kernel
theorem dX13_isCrit_156 : decode cX13_isCrit 156 = .ok (.iaload, 1) := by decide +kernel
theorem dX13_isCrit_157 : decode cX13_isCrit 157 = .ok (.aload_n 0, 1) := by decide +kernel
theorem dX13_isCrit_158 : decode cX13_isCrit 158 = .ok (.getfield 42, 3) := by decide +kernel
theorem dX13_isCrit_161 : decode cX13_isCrit 161 = .ok (.iload 5, 2) := by decide +kernel
theorem dX13_isCrit_163 : decode cX13_isCrit 163 = .ok (.iaload, 1) := by decide +kernel
theorem dX13_isCrit_164 : decode cX13_isCrit 164 = .ok (.invokestatic 420, 3) := by decide +kernel
theorem dX13_isCrit_167 : decode cX13_isCrit 167 = .ok (.ifCond .ne 7, 3) := by decide +kernel
theorem dX13_isCrit_170 : decode cX13_isCrit 170 = .ok (.iconst 1, 1) := by decide +kernel
theorem dX13_isCrit_171 : decode cX13_isCrit 171 = .ok (.goto 4, 3) := by decide +kernel
theorem dX13_isCrit_174 : decode cX13_isCrit 174 = .ok (.iconst 0, 1) := by decide +kernel
theorem dX13_isCrit_175 : decode cX13_isCrit 175 = .ok (.istore 4, 2) := by decide +kernel
theorem dX13_isCrit_177 : decode cX13_isCrit 177 = .ok (.iinc 6 1, 3) := by decide +kernel
theorem dX13_isCrit_180 : decode cX13_isCrit 180 = .ok (.goto (-85), 3) := by decide +kernel
theorem dX13_isCrit_183 : decode cX13_isCrit 183 = .ok (.iinc 5 1, 3) := by decide +kernel
theorem dX13_isCrit_186 : decode cX13_isCrit 186 = .ok (.goto (-147), 3) := by decide +kernel
theorem dX13_isCrit_189 : decode cX13_isCrit 189 = .ok (.iload 4, 2) := by decide +kernel
theorem dX13_isCrit_191 : decode cX13_isCrit 191 = .ok (.ireturn, 1) := by decide +kernel
abbrev rmX13_isCrit : Room := { frames := 1, cells := 0, slots := 0, locals := 26 }
set_option maxHeartbeats 4000000 in
set_option maxRecDepth 100000 in
theorem wB_X13_isCrit_95 {G : mG} {F : Nat} {x : mXT} {sz : Nat} {r0 : Int32} {M0 : mM} (X : mCX G RX13 cX13_isCrit 7 (some .boolean) "isCrit" rmX13_isCrit x) (hQ : mQI x r0 M0 (sz, 0, 0)) (r39 : Nat → Int32 → Int32 → Int32 → Int32 → Int32 → mM → Option (Int32 × mM)) (hr39 : ∀ (l0 : Nat) (l1 : Int32) (l2 : Int32) (l3 : Int32) (l4 : Int32) (l5 : Int32) (M : mM), r39 l0 l1 l2 l3 l4 l5 M = some (r0, M0) → WW x (sz, 0, 0) M 39 [(0, .ref l0), (1, .int l1), (2, .int l2), (3, .int l3), (4, .int l4), (5, .int l5)] []) : ∀ (n : Nat) (l0 : Nat) (l1 : Int32) (l2 : Int32) (l3 : Int32) (l4 : Int32) (l5 : Int32) (l6 : Int32) (M : mM), B_X13_isCrit_95 G F r39 n l0 l1 l2 l3 l4 l5 l6 M = some (r0, M0) → WW x (sz, 0, 0) M 95 [(0, .ref l0), (1, .int l1), (2, .int l2), (3, .int l3), (4, .int l4), (5, .int l5), (6, .int l6)] [] := by
  intro n
  induction n with
  | zero =>
    intro l0 l1 l2 l3 l4 l5 l6 M h
    exact nomatch (show (none : Option (Int32 × mM)) = some (r0, M0) from h)
  | succ n ih =>
    intro l0 l1 l2 l3 l4 l5 l6 M h
    rw [B_X13_isCrit_95] at h
    refine ww_iload 95 X dX13_isCrit_95 6 rfl ?_
    refine ww_iload 97 X dX13_isCrit_97 5 rfl ?_
    refine ww_icmp_ge 99 183 X dX13_isCrit_99 (by decide) (fun q => ?_) (fun q => ?_)
    · replace h := (if_pos q).symm.trans h
      refine ww_iinc 183 X dX13_isCrit_183 (lv' := [(0, .ref l0), (1, .int l1), (2, .int l2), (3, .int l3), (4, .int l4), (5, .int (l5 + 1)), (6, .int l6)]) 5 rfl rfl (by decide) [1, 2, 3, 4, 5, 0, 6] rfl ?_
      refine ww_goto 186 39 X dX13_isCrit_186 (by decide) ?_
      exact ww_sub [0, 1, 2, 3, 4, 5] rfl (hr39 _ _ _ _ _ _ _ h)
    · replace h := (if_neg q).symm.trans h
      refine ww_iload 102 X dX13_isCrit_102 4 rfl ?_
      refine ww_if_eq 104 183 X dX13_isCrit_104 (by decide) (fun q => ?_) (fun q => ?_)
      · replace h := (if_pos q).symm.trans h
        refine ww_iinc 183 X dX13_isCrit_183 (lv' := [(0, .ref l0), (1, .int l1), (2, .int l2), (3, .int l3), (4, .int l4), (5, .int (l5 + 1)), (6, .int l6)]) 5 rfl rfl (by decide) [1, 2, 3, 4, 5, 0, 6] rfl ?_
        refine ww_goto 186 39 X dX13_isCrit_186 (by decide) ?_
        exact ww_sub [0, 1, 2, 3, 4, 5] rfl (hr39 _ _ _ _ _ _ _ h)
      · replace h := (if_neg q).symm.trans h
        refine ww_aload_n 107 X dX13_isCrit_107 0 rfl rfl ?_
        obtain ⟨v108, e108, h⟩ := bO_some h
        refine ww_getR 108 X dX13_isCrit_108 fG_X13_27 e108 ?_
        refine ww_iload 111 X dX13_isCrit_111 6 rfl ?_
        obtain ⟨v113, e113, h⟩ := bO_some h
        refine ww_iald 113 X dX13_isCrit_113 e113 ?_
        refine ww_iload_n 114 X dX13_isCrit_114 2 rfl rfl ?_
        refine ww_icmp_ne 115 170 X dX13_isCrit_115 (by decide) (fun q => ?_) (fun q => ?_)
        · replace h := (if_neg q).symm.trans h
          refine ww_iconst 170 X (v := (1 : Int32)) dX13_isCrit_170 (by decide) ?_
          refine ww_goto 171 175 X dX13_isCrit_171 (by decide) ?_
          refine ww_istore 175 X dX13_isCrit_175 (lv' := [(0, .ref l0), (1, .int l1), (2, .int l2), (3, .int l3), (4, .int (1 : Int32)), (5, .int l5), (6, .int l6)]) (by decide) [1, 2, 3, 4, 0, 5, 6] rfl ?_
          refine ww_iinc 177 X dX13_isCrit_177 (lv' := [(0, .ref l0), (1, .int l1), (2, .int l2), (3, .int l3), (4, .int (1 : Int32)), (5, .int l5), (6, .int (l6 + 1))]) 6 rfl rfl (by decide) [1, 2, 3, 4, 5, 6, 0] rfl ?_
          refine ww_goto 180 95 X dX13_isCrit_180 (by decide) ?_
          exact (ih _ _ _ _ _ _ _ _ h)
        · replace h := (if_pos q).symm.trans h
          refine ww_aload_n 118 X dX13_isCrit_118 0 rfl rfl ?_
          obtain ⟨v119, e119, h⟩ := bO_some h
          refine ww_getR 119 X dX13_isCrit_119 fG_X13_42 e119 ?_
          refine ww_iload 122 X dX13_isCrit_122 6 rfl ?_
          obtain ⟨v124, e124, h⟩ := bO_some h
          refine ww_iald 124 X dX13_isCrit_124 e124 ?_
          refine ww_aload_n 125 X dX13_isCrit_125 0 rfl rfl ?_
          obtain ⟨v126, e126, h⟩ := bO_some h
          refine ww_getR 126 X dX13_isCrit_126 fG_X13_42 e126 ?_
          refine ww_iload 129 X dX13_isCrit_129 5 rfl ?_
          obtain ⟨v131, e131, h⟩ := bO_some h
          refine ww_iald 131 X dX13_isCrit_131 e131 ?_
          refine ww_icmp_ne 132 170 X dX13_isCrit_132 (by decide) (fun q => ?_) (fun q => ?_)
          · replace h := (if_neg q).symm.trans h
            refine ww_iconst 170 X (v := (1 : Int32)) dX13_isCrit_170 (by decide) ?_
            refine ww_goto 171 175 X dX13_isCrit_171 (by decide) ?_
            refine ww_istore 175 X dX13_isCrit_175 (lv' := [(0, .ref l0), (1, .int l1), (2, .int l2), (3, .int l3), (4, .int (1 : Int32)), (5, .int l5), (6, .int l6)]) (by decide) [1, 2, 3, 4, 0, 5, 6] rfl ?_
            refine ww_iinc 177 X dX13_isCrit_177 (lv' := [(0, .ref l0), (1, .int l1), (2, .int l2), (3, .int l3), (4, .int (1 : Int32)), (5, .int l5), (6, .int (l6 + 1))]) 6 rfl rfl (by decide) [1, 2, 3, 4, 5, 6, 0] rfl ?_
            refine ww_goto 180 95 X dX13_isCrit_180 (by decide) ?_
            exact (ih _ _ _ _ _ _ _ _ h)
          · replace h := (if_pos q).symm.trans h
            refine ww_aload_n 135 X dX13_isCrit_135 0 rfl rfl ?_
            obtain ⟨v136, e136, h⟩ := bO_some h
            refine ww_getR 136 X dX13_isCrit_136 fG_X13_51 e136 ?_
            refine ww_aload_n 139 X dX13_isCrit_139 0 rfl rfl ?_
            obtain ⟨v140, e140, h⟩ := bO_some h
            refine ww_getR 140 X dX13_isCrit_140 fG_X13_39 e140 ?_
            refine ww_iload 143 X dX13_isCrit_143 6 rfl ?_
            obtain ⟨v145, e145, h⟩ := bO_some h
            refine ww_iald 145 X dX13_isCrit_145 e145 ?_
            refine ww_aload_n 146 X dX13_isCrit_146 0 rfl rfl ?_
            obtain ⟨v147, e147, h⟩ := bO_some h
            refine ww_getR 147 X dX13_isCrit_147 fG_X13_51 e147 ?_
            refine ww_aload_n 150 X dX13_isCrit_150 0 rfl rfl ?_
            obtain ⟨v151, e151, h⟩ := bO_some h
            refine ww_getR 151 X dX13_isCrit_151 fG_X13_39 e151 ?_
            refine ww_iload 154 X dX13_isCrit_154 5 rfl ?_
            obtain ⟨v156, e156, h⟩ := bO_some h
            refine ww_iald 156 X dX13_isCrit_156 e156 ?_
            refine ww_aload_n 157 X dX13_isCrit_157 0 rfl rfl ?_
            obtain ⟨v158, e158, h⟩ := bO_some h
            refine ww_getR 158 X dX13_isCrit_158 fG_X13_42 e158 ?_
            refine ww_iload 161 X dX13_isCrit_161 5 rfl ?_
            obtain ⟨v163, e163, h⟩ := bO_some h
            refine ww_iald 163 X dX13_isCrit_163 e163 ?_
            obtain ⟨v164, M164, e164, h⟩ := bP_some h
            refine ww_callSI0 164 X dX13_isCrit_164 mY_X13_same mL_X13_420 (As := [.ref v136, .int v145, .ref v147, .int v156, .int v163]) (rest := []) rfl rfl ⟨Nat.le_of_ble_eq_true rfl, Nat.le_of_ble_eq_true rfl⟩ (Nat.le_of_ble_eq_true rfl) (fun l D A => c_X13_same l D A e164) ?_
            refine ww_if_ne 167 174 X dX13_isCrit_167 (by decide) (fun q => ?_) (fun q => ?_)
            · replace h := (if_neg q).symm.trans h
              refine ww_iconst 174 X (v := (0 : Int32)) dX13_isCrit_174 (by decide) ?_
              refine ww_istore 175 X dX13_isCrit_175 (lv' := [(0, .ref l0), (1, .int l1), (2, .int l2), (3, .int l3), (4, .int (0 : Int32)), (5, .int l5), (6, .int l6)]) (by decide) [1, 2, 3, 4, 0, 5, 6] rfl ?_
              refine ww_iinc 177 X dX13_isCrit_177 (lv' := [(0, .ref l0), (1, .int l1), (2, .int l2), (3, .int l3), (4, .int (0 : Int32)), (5, .int l5), (6, .int (l6 + 1))]) 6 rfl rfl (by decide) [1, 2, 3, 4, 5, 6, 0] rfl ?_
              refine ww_goto 180 95 X dX13_isCrit_180 (by decide) ?_
              exact (ih _ _ _ _ _ _ _ _ h)
            · replace h := (if_pos q).symm.trans h
              refine ww_iconst 170 X (v := (1 : Int32)) dX13_isCrit_170 (by decide) ?_
              refine ww_goto 171 175 X dX13_isCrit_171 (by decide) ?_
              refine ww_istore 175 X dX13_isCrit_175 (lv' := [(0, .ref l0), (1, .int l1), (2, .int l2), (3, .int l3), (4, .int (1 : Int32)), (5, .int l5), (6, .int l6)]) (by decide) [1, 2, 3, 4, 0, 5, 6] rfl ?_
              refine ww_iinc 177 X dX13_isCrit_177 (lv' := [(0, .ref l0), (1, .int l1), (2, .int l2), (3, .int l3), (4, .int (1 : Int32)), (5, .int l5), (6, .int (l6 + 1))]) 6 rfl rfl (by decide) [1, 2, 3, 4, 5, 6, 0] rfl ?_
              refine ww_goto 180 95 X dX13_isCrit_180 (by decide) ?_
              exact (ih _ _ _ _ _ _ _ _ h)
set_option maxHeartbeats 4000000 in
set_option maxRecDepth 100000 in
theorem wB_X13_isCrit_39 {G : mG} {F : Nat} {x : mXT} {sz : Nat} {r0 : Int32} {M0 : mM} (X : mCX G RX13 cX13_isCrit 7 (some .boolean) "isCrit" rmX13_isCrit x) (hQ : mQI x r0 M0 (sz, 0, 0)) : ∀ (n : Nat) (l0 : Nat) (l1 : Int32) (l2 : Int32) (l3 : Int32) (l4 : Int32) (l5 : Int32) (M : mM), B_X13_isCrit_39 G F n l0 l1 l2 l3 l4 l5 M = some (r0, M0) → WW x (sz, 0, 0) M 39 [(0, .ref l0), (1, .int l1), (2, .int l2), (3, .int l3), (4, .int l4), (5, .int l5)] [] := by
  intro n
  induction n with
  | zero =>
    intro l0 l1 l2 l3 l4 l5 M h
    exact nomatch (show (none : Option (Int32 × mM)) = some (r0, M0) from h)
  | succ n ih =>
    intro l0 l1 l2 l3 l4 l5 M h
    rw [B_X13_isCrit_39] at h
    refine ww_iload 39 X dX13_isCrit_39 5 rfl ?_
    refine ww_sipush 41 X (v := (600 : Int32)) dX13_isCrit_41 (by decide) ?_
    refine ww_iload_n 44 X dX13_isCrit_44 1 rfl rfl ?_
    refine ww_imul 45 X dX13_isCrit_45 ?_
    refine ww_aload_n 46 X dX13_isCrit_46 0 rfl rfl ?_
    obtain ⟨v47, e47, h⟩ := bO_some h
    refine ww_getR 47 X dX13_isCrit_47 fG_X13_54 e47 ?_
    refine ww_iload_n 50 X dX13_isCrit_50 1 rfl rfl ?_
    obtain ⟨v51, e51, h⟩ := bO_some h
    refine ww_iald 51 X dX13_isCrit_51 e51 ?_
    refine ww_iadd 52 X dX13_isCrit_52 ?_
    refine ww_icmp_ge 53 189 X dX13_isCrit_53 (by decide) (fun q => ?_) (fun q => ?_)
    · replace h := (if_pos q).symm.trans h
      refine ww_iload 189 X dX13_isCrit_189 4 rfl ?_
      exact ww_zretE 191 X hQ dX13_isCrit_191 h
    · replace h := (if_neg q).symm.trans h
      refine ww_iload 56 X dX13_isCrit_56 4 rfl ?_
      refine ww_if_eq 58 189 X dX13_isCrit_58 (by decide) (fun q => ?_) (fun q => ?_)
      · replace h := (if_pos q).symm.trans h
        refine ww_iload 189 X dX13_isCrit_189 4 rfl ?_
        exact ww_zretE 191 X hQ dX13_isCrit_191 h
      · replace h := (if_neg q).symm.trans h
        refine ww_aload_n 61 X dX13_isCrit_61 0 rfl rfl ?_
        obtain ⟨v62, e62, h⟩ := bO_some h
        refine ww_getR 62 X dX13_isCrit_62 fG_X13_27 e62 ?_
        refine ww_iload 65 X dX13_isCrit_65 5 rfl ?_
        obtain ⟨v67, e67, h⟩ := bO_some h
        refine ww_iald 67 X dX13_isCrit_67 e67 ?_
        refine ww_iload_n 68 X dX13_isCrit_68 2 rfl rfl ?_
        refine ww_icmp_ne 69 183 X dX13_isCrit_69 (by decide) (fun q => ?_) (fun q => ?_)
        · replace h := (if_neg q).symm.trans h
          refine ww_iinc 183 X dX13_isCrit_183 (lv' := [(0, .ref l0), (1, .int l1), (2, .int l2), (3, .int l3), (4, .int l4), (5, .int (l5 + 1))]) 5 rfl rfl (by decide) [1, 2, 3, 4, 5, 0] rfl ?_
          refine ww_goto 186 39 X dX13_isCrit_186 (by decide) ?_
          exact (ih _ _ _ _ _ _ _ h)
        · replace h := (if_pos q).symm.trans h
          refine ww_aload_n 72 X dX13_isCrit_72 0 rfl rfl ?_
          obtain ⟨v73, e73, h⟩ := bO_some h
          refine ww_getR 73 X dX13_isCrit_73 fG_X13_24 e73 ?_
          refine ww_iload 76 X dX13_isCrit_76 5 rfl ?_
          obtain ⟨v78, e78, h⟩ := bO_some h
          refine ww_iald 78 X dX13_isCrit_78 e78 ?_
          refine ww_iconst 79 X (v := (4 : Int32)) dX13_isCrit_79 (by decide) ?_
          refine ww_icmp_ne 80 87 X dX13_isCrit_80 (by decide) (fun q => ?_) (fun q => ?_)
          · replace h := (if_neg q).symm.trans h
            refine ww_iconst 87 X (v := (0 : Int32)) dX13_isCrit_87 (by decide) ?_
            refine ww_istore 88 X dX13_isCrit_88 (lv' := [(0, .ref l0), (1, .int l1), (2, .int l2), (3, .int l3), (4, .int (0 : Int32)), (5, .int l5)]) (by decide) [1, 2, 3, 4, 0, 5] rfl ?_
            refine ww_iload_n 90 X dX13_isCrit_90 3 rfl rfl ?_
            refine ww_iconst 91 X (v := (1 : Int32)) dX13_isCrit_91 (by decide) ?_
            refine ww_iadd 92 X dX13_isCrit_92 ?_
            refine ww_istore 93 X dX13_isCrit_93 (lv' := [(0, .ref l0), (1, .int l1), (2, .int l2), (3, .int l3), (4, .int (0 : Int32)), (5, .int l5), (6, .int (l3 + (1 : Int32)))]) (by decide) [1, 2, 3, 4, 5, 6, 0] rfl ?_
            exact (wB_X13_isCrit_95 X hQ _ ih F _ _ _ _ _ _ _ _ h)
          · replace h := (if_pos q).symm.trans h
            refine ww_iconst 83 X (v := (1 : Int32)) dX13_isCrit_83 (by decide) ?_
            refine ww_goto 84 88 X dX13_isCrit_84 (by decide) ?_
            refine ww_istore 88 X dX13_isCrit_88 (lv' := [(0, .ref l0), (1, .int l1), (2, .int l2), (3, .int l3), (4, .int (1 : Int32)), (5, .int l5)]) (by decide) [1, 2, 3, 4, 0, 5] rfl ?_
            refine ww_iload_n 90 X dX13_isCrit_90 3 rfl rfl ?_
            refine ww_iconst 91 X (v := (1 : Int32)) dX13_isCrit_91 (by decide) ?_
            refine ww_iadd 92 X dX13_isCrit_92 ?_
            refine ww_istore 93 X dX13_isCrit_93 (lv' := [(0, .ref l0), (1, .int l1), (2, .int l2), (3, .int l3), (4, .int (1 : Int32)), (5, .int l5), (6, .int (l3 + (1 : Int32)))]) (by decide) [1, 2, 3, 4, 5, 6, 0] rfl ?_
            exact (wB_X13_isCrit_95 X hQ _ ih F _ _ _ _ _ _ _ _ h)
set_option maxHeartbeats 4000000 in
set_option maxRecDepth 100000 in
theorem wP_X13_isCrit {G : mG} {F : Nat} {x : mXT} {sz : Nat} {r0 : Int32} {M0 : mM} (X : mCX G RX13 cX13_isCrit 7 (some .boolean) "isCrit" rmX13_isCrit x) (hQ : mQI x r0 M0 (sz, 0, 0)) {l0 : Nat} {l1 : Int32} {l2 : Int32} {M : mM} (h : P_X13_isCrit G F l0 l1 l2 M = some (r0, M0)) : WW x (sz, 0, 0) M 0 [(0, .ref l0), (1, .int l1), (2, .int l2)] [] := by
  unfold P_X13_isCrit at h
  refine ww_sipush 0 X (v := (600 : Int32)) dX13_isCrit_0 (by decide) ?_
  refine ww_iload_n 3 X dX13_isCrit_3 1 rfl rfl ?_
  refine ww_imul 4 X dX13_isCrit_4 ?_
  refine ww_iload_n 5 X dX13_isCrit_5 2 rfl rfl ?_
  refine ww_iadd 6 X dX13_isCrit_6 ?_
  refine ww_istore_n 7 X dX13_isCrit_7 (lv' := [(0, .ref l0), (1, .int l1), (2, .int l2), (3, .int (((600 : Int32) * l1) + l2))]) rfl (by decide) [1, 2, 3, 0] rfl ?_
  refine ww_aload_n 8 X dX13_isCrit_8 0 rfl rfl ?_
  obtain ⟨v9, e9, h⟩ := bO_some h
  refine ww_getR 9 X dX13_isCrit_9 fG_X13_24 e9 ?_
  refine ww_iload_n 12 X dX13_isCrit_12 3 rfl rfl ?_
  obtain ⟨v13, e13, h⟩ := bO_some h
  refine ww_iald 13 X dX13_isCrit_13 e13 ?_
  refine ww_iconst 14 X (v := (5 : Int32)) dX13_isCrit_14 (by decide) ?_
  refine ww_icmp_ne 15 31 X dX13_isCrit_15 (by decide) (fun q => ?_) (fun q => ?_)
  · replace h := (if_neg q).symm.trans h
    refine ww_iconst 31 X (v := (0 : Int32)) dX13_isCrit_31 (by decide) ?_
    refine ww_istore 32 X dX13_isCrit_32 (lv' := [(0, .ref l0), (1, .int l1), (2, .int l2), (3, .int (((600 : Int32) * l1) + l2)), (4, .int (0 : Int32))]) (by decide) [1, 2, 3, 4, 0] rfl ?_
    refine ww_iload_n 34 X dX13_isCrit_34 3 rfl rfl ?_
    refine ww_iconst 35 X (v := (1 : Int32)) dX13_isCrit_35 (by decide) ?_
    refine ww_iadd 36 X dX13_isCrit_36 ?_
    refine ww_istore 37 X dX13_isCrit_37 (lv' := [(0, .ref l0), (1, .int l1), (2, .int l2), (3, .int (((600 : Int32) * l1) + l2)), (4, .int (0 : Int32)), (5, .int ((((600 : Int32) * l1) + l2) + (1 : Int32)))]) (by decide) [1, 2, 3, 4, 5, 0] rfl ?_
    exact (wB_X13_isCrit_39 X hQ F _ _ _ _ _ _ _ h)
  · replace h := (if_pos q).symm.trans h
    refine ww_aload_n 18 X dX13_isCrit_18 0 rfl rfl ?_
    obtain ⟨v19, e19, h⟩ := bO_some h
    refine ww_getR 19 X dX13_isCrit_19 fG_X13_36 e19 ?_
    refine ww_iload_n 22 X dX13_isCrit_22 3 rfl rfl ?_
    obtain ⟨v23, e23, h⟩ := bO_some h
    refine ww_iald 23 X dX13_isCrit_23 e23 ?_
    refine ww_if_le 24 31 X dX13_isCrit_24 (by decide) (fun q => ?_) (fun q => ?_)
    · replace h := (if_pos q).symm.trans h
      refine ww_iconst 31 X (v := (0 : Int32)) dX13_isCrit_31 (by decide) ?_
      refine ww_istore 32 X dX13_isCrit_32 (lv' := [(0, .ref l0), (1, .int l1), (2, .int l2), (3, .int (((600 : Int32) * l1) + l2)), (4, .int (0 : Int32))]) (by decide) [1, 2, 3, 4, 0] rfl ?_
      refine ww_iload_n 34 X dX13_isCrit_34 3 rfl rfl ?_
      refine ww_iconst 35 X (v := (1 : Int32)) dX13_isCrit_35 (by decide) ?_
      refine ww_iadd 36 X dX13_isCrit_36 ?_
      refine ww_istore 37 X dX13_isCrit_37 (lv' := [(0, .ref l0), (1, .int l1), (2, .int l2), (3, .int (((600 : Int32) * l1) + l2)), (4, .int (0 : Int32)), (5, .int ((((600 : Int32) * l1) + l2) + (1 : Int32)))]) (by decide) [1, 2, 3, 4, 5, 0] rfl ?_
      exact (wB_X13_isCrit_39 X hQ F _ _ _ _ _ _ _ h)
    · replace h := (if_neg q).symm.trans h
      refine ww_iconst 27 X (v := (1 : Int32)) dX13_isCrit_27 (by decide) ?_
      refine ww_goto 28 32 X dX13_isCrit_28 (by decide) ?_
      refine ww_istore 32 X dX13_isCrit_32 (lv' := [(0, .ref l0), (1, .int l1), (2, .int l2), (3, .int (((600 : Int32) * l1) + l2)), (4, .int (1 : Int32))]) (by decide) [1, 2, 3, 4, 0] rfl ?_
      refine ww_iload_n 34 X dX13_isCrit_34 3 rfl rfl ?_
      refine ww_iconst 35 X (v := (1 : Int32)) dX13_isCrit_35 (by decide) ?_
      refine ww_iadd 36 X dX13_isCrit_36 ?_
      refine ww_istore 37 X dX13_isCrit_37 (lv' := [(0, .ref l0), (1, .int l1), (2, .int l2), (3, .int (((600 : Int32) * l1) + l2)), (4, .int (1 : Int32)), (5, .int ((((600 : Int32) * l1) + l2) + (1 : Int32)))]) (by decide) [1, 2, 3, 4, 5, 0] rfl ?_
      exact (wB_X13_isCrit_39 X hQ F _ _ _ _ _ _ _ h)
theorem c_X13_isCrit {G : mG} {F sz : Nat} {r0 : Int32} {M0 : mM} (l : Launch) (D : mD) (A : Nat → Prop) {l0 : Nat} {l1 : Int32} {l2 : Int32} {M : mM} (h : P_X13_isCrit G F l0 l1 l2 M = some (r0, M0)) : mMetI l D G A yX13_isCrit cX13_isCrit 7 (some .boolean) 1 26 0 0 [.ref l0, .int l1, .int l2] M sz r0 M0 sz := mMetI_of l D G A (by decide) (Nat.le_of_ble_eq_true rfl) (fun x X hQ => wP_X13_isCrit X hQ h)
/-! SealedTokensModel.isKnown(II)Z -/
theorem dX13_isKnown_0 : decode cX13_isKnown 0 = .ok (.aload_n 0, 1) := by decide +kernel
theorem dX13_isKnown_1 : decode cX13_isKnown 1 = .ok (.iload_n 1, 1) := by decide +kernel
theorem dX13_isKnown_2 : decode cX13_isKnown 2 = .ok (.iconst 0, 1) := by decide +kernel
theorem dX13_isKnown_3 : decode cX13_isKnown 3 = .ok (.ldc_w 936, 3) := by decide +kernel
theorem dX13_isKnown_6 : decode cX13_isKnown 6 = .ok (.invokevirtual 796, 3) := by decide +kernel
theorem dX13_isKnown_9 : decode cX13_isKnown 9 = .ok (.istore_n 3, 1) := by decide +kernel
theorem dX13_isKnown_10 : decode cX13_isKnown 10 = .ok (.iload_n 3, 1) := by decide +kernel
theorem dX13_isKnown_11 : decode cX13_isKnown 11 = .ok (.ifCond .ge 7, 3) := by decide +kernel
theorem dX13_isKnown_14 : decode cX13_isKnown 14 = .ok (.iconst 0, 1) := by decide +kernel
theorem dX13_isKnown_15 : decode cX13_isKnown 15 = .ok (.goto 15, 3) := by decide +kernel
theorem dX13_isKnown_18 : decode cX13_isKnown 18 = .ok (.aload_n 0, 1) := by decide +kernel
theorem dX13_isKnown_19 : decode cX13_isKnown 19 = .ok (.getfield 24, 3) := by decide +kernel
theorem dX13_isKnown_22 : decode cX13_isKnown 22 = .ok (.sipush 600, 3) := by decide +kernel
theorem dX13_isKnown_25 : decode cX13_isKnown 25 = .ok (.iload_n 1, 1) := by decide +kernel
theorem dX13_isKnown_26 : decode cX13_isKnown 26 = .ok (.imul, 1) := by decide +kernel
theorem dX13_isKnown_27 : decode cX13_isKnown 27 = .ok (.iload_n 3, 1) := by decide +kernel
theorem dX13_isKnown_28 : decode cX13_isKnown 28 = .ok (.iadd, 1) := by decide +kernel
theorem dX13_isKnown_29 : decode cX13_isKnown 29 = .ok (.iaload, 1) := by decide +kernel
theorem dX13_isKnown_30 : decode cX13_isKnown 30 = .ok (.istore 4, 2) := by decide +kernel
theorem dX13_isKnown_32 : decode cX13_isKnown 32 = .ok (.aload_n 0, 1) := by decide +kernel
theorem dX13_isKnown_33 : decode cX13_isKnown 33 = .ok (.getfield 36, 3) := by decide +kernel
theorem dX13_isKnown_36 : decode cX13_isKnown 36 = .ok (.sipush 600, 3) := by decide +kernel
theorem dX13_isKnown_39 : decode cX13_isKnown 39 = .ok (.iload_n 1, 1) := by decide +kernel
theorem dX13_isKnown_40 : decode cX13_isKnown 40 = .ok (.imul, 1) := by decide +kernel
theorem dX13_isKnown_41 : decode cX13_isKnown 41 = .ok (.iload_n 2, 1) := by decide +kernel
theorem dX13_isKnown_42 : decode cX13_isKnown 42 = .ok (.iadd, 1) := by decide +kernel
theorem dX13_isKnown_43 : decode cX13_isKnown 43 = .ok (.iaload, 1) := by decide +kernel
theorem dX13_isKnown_44 : decode cX13_isKnown 44 = .ok (.iconst 1, 1) := by decide +kernel
theorem dX13_isKnown_45 : decode cX13_isKnown 45 = .ok (.if_icmp .ne 33, 3) := by decide +kernel
theorem dX13_isKnown_48 : decode cX13_isKnown 48 = .ok (.aload_n 0, 1) := by decide +kernel
theorem dX13_isKnown_49 : decode cX13_isKnown 49 = .ok (.iload_n 1, 1) := by decide +kernel
theorem dX13_isKnown_50 : decode cX13_isKnown 50 = .ok (.iload_n 2, 1) := by decide +kernel
theorem dX13_isKnown_51 : decode cX13_isKnown 51 = .ok (.iconst 1, 1) := by decide +kernel
theorem dX13_isKnown_52 : decode cX13_isKnown 52 = .ok (.iadd, 1) := by decide +kernel
theorem dX13_isKnown_53 : decode cX13_isKnown 53 = .ok (.ldc_w 936, 3) := by decide +kernel
theorem dX13_isKnown_56 : decode cX13_isKnown 56 = .ok (.invokevirtual 803, 3) := by decide +kernel
theorem dX13_isKnown_59 : decode cX13_isKnown 59 = .ok (.ifCond .eq 19, 3) := by decide +kernel
theorem dX13_isKnown_62 : decode cX13_isKnown 62 = .ok (.iload 4, 2) := by decide +kernel
theorem dX13_isKnown_64 : decode cX13_isKnown 64 = .ok (.iconst 1, 1) := by decide +kernel
theorem dX13_isKnown_65 : decode cX13_isKnown 65 = .ok (.if_icmp .eq 9, 3) := by decide +kernel
theorem dX13_isKnown_68 : decode cX13_isKnown 68 = .ok (.iload 4, 2) := by decide +kernel
theorem dX13_isKnown_70 : decode cX13_isKnown 70 = .ok (.iconst 2, 1) := by decide +kernel
theorem dX13_isKnown_71 : decode cX13_isKnown 71 = .ok (.if_icmp .ne 7, 3) := by decide +kernel
theorem dX13_isKnown_74 : decode cX13_isKnown 74 = .ok (.iconst 1, 1) := by decide +kernel
theorem dX13_isKnown_75 : decode cX13_isKnown 75 = .ok (.goto 4, 3) := by decide +kernel
theorem dX13_isKnown_78 : decode cX13_isKnown 78 = .ok (.iconst 0, 1) := by decide +kernel
theorem dX13_isKnown_79 : decode cX13_isKnown 79 = .ok (.istore 5, 2) := by decide +kernel
theorem dX13_isKnown_81 : decode cX13_isKnown 81 = .ok (.aload_n 0, 1) := by decide +kernel
theorem dX13_isKnown_82 : decode cX13_isKnown 82 = .ok (.iload 5, 2) := by decide +kernel
theorem dX13_isKnown_84 : decode cX13_isKnown 84 = .ok (.ifCond .eq 13, 3) := by decide +kernel
theorem dX13_isKnown_87 : decode cX13_isKnown 87 = .ok (.iload 4, 2) := by decide +kernel
theorem dX13_isKnown_89 : decode cX13_isKnown 89 = .ok (.iconst 1, 1) := by decide +kernel
theorem dX13_isKnown_90 : decode cX13_isKnown 90 = .ok (.if_icmp .ne 7, 3) := by decide +kernel
theorem dX13_isKnown_93 : decode cX13_isKnown 93 = .ok (.iconst 1, 1) := by decide +kernel
theorem dX13_isKnown_94 : decode cX13_isKnown 94 = .ok (.goto 4, 3) := by decide +kernel
theorem dX13_isKnown_97 : decode cX13_isKnown 97 = .ok (.iconst 0, 1) := by decide +kernel
theorem dX13_isKnown_98 : decode cX13_isKnown 98 = .ok (.putfield 906, 3) := by decide +kernel
theorem dX13_isKnown_101 : decode cX13_isKnown 101 = .ok (.iload 5, 2) := by decide +kernel
theorem dX13_isKnown_103 : decode cX13_isKnown 103 = .ok (.ireturn, 1) := by decide +kernel
abbrev rmX13_isKnown : Room := { frames := 6, cells := 0, slots := 0, locals := 135 }
set_option maxHeartbeats 4000000 in
set_option maxRecDepth 100000 in
theorem wB_X13_isKnown_79 {G : mG} {F : Nat} {x : mXT} {sz : Nat} {r0 : Int32} {M0 : mM} (X : mCX G RX13 cX13_isKnown 6 (some .boolean) "isKnown" rmX13_isKnown x) (hQ : mQI x r0 M0 (sz, 0, 0)) {l0 : Nat} {l4 : Int32} {sk0 : Int32} {M : mM} (h : B_X13_isKnown_79 G F l0 l4 sk0 M = some (r0, M0)) : WW x (sz, 0, 0) M 79 [(0, .ref l0), (4, .int l4)] [.int sk0] := by
  unfold B_X13_isKnown_79 at h
  refine ww_istore 79 X dX13_isKnown_79 (lv' := [(0, .ref l0), (4, .int l4), (5, .int sk0)]) (by decide) [1, 2, 0] rfl ?_
  refine ww_aload_n 81 X dX13_isKnown_81 0 rfl rfl ?_
  refine ww_iload 82 X dX13_isKnown_82 2 rfl ?_
  refine ww_if_eq 84 97 X dX13_isKnown_84 (by decide) (fun q => ?_) (fun q => ?_)
  · replace h := (if_pos q).symm.trans h
    refine ww_iconst 97 X (v := (0 : Int32)) dX13_isKnown_97 (by decide) ?_
    obtain ⟨M98, e98, h⟩ := bO_some h
    refine ww_putZ 98 X dX13_isKnown_98 (fP_X13_906 _) e98 ?_
    refine ww_iload 101 X dX13_isKnown_101 2 rfl ?_
    exact ww_zretE 103 X hQ dX13_isKnown_103 h
  · replace h := (if_neg q).symm.trans h
    refine ww_iload 87 X dX13_isKnown_87 1 rfl ?_
    refine ww_iconst 89 X (v := (1 : Int32)) dX13_isKnown_89 (by decide) ?_
    refine ww_icmp_ne 90 97 X dX13_isKnown_90 (by decide) (fun q => ?_) (fun q => ?_)
    · replace h := (if_neg q).symm.trans h
      refine ww_iconst 97 X (v := (0 : Int32)) dX13_isKnown_97 (by decide) ?_
      obtain ⟨M98, e98, h⟩ := bO_some h
      refine ww_putZ 98 X dX13_isKnown_98 (fP_X13_906 _) e98 ?_
      refine ww_iload 101 X dX13_isKnown_101 2 rfl ?_
      exact ww_zretE 103 X hQ dX13_isKnown_103 h
    · replace h := (if_pos q).symm.trans h
      refine ww_iconst 93 X (v := (1 : Int32)) dX13_isKnown_93 (by decide) ?_
      refine ww_goto 94 98 X dX13_isKnown_94 (by decide) ?_
      obtain ⟨M98, e98, h⟩ := bO_some h
      refine ww_putZ 98 X dX13_isKnown_98 (fP_X13_906 _) e98 ?_
      refine ww_iload 101 X dX13_isKnown_101 2 rfl ?_
      exact ww_zretE 103 X hQ dX13_isKnown_103 h
set_option maxHeartbeats 4000000 in
set_option maxRecDepth 100000 in
theorem wB_X13_isKnown_30 {G : mG} {F : Nat} {x : mXT} {sz : Nat} {r0 : Int32} {M0 : mM} (X : mCX G RX13 cX13_isKnown 6 (some .boolean) "isKnown" rmX13_isKnown x) (hQ : mQI x r0 M0 (sz, 0, 0)) {l0 : Nat} {l1 : Int32} {l2 : Int32} {sk0 : Int32} {M : mM} (h : B_X13_isKnown_30 G F l0 l1 l2 sk0 M = some (r0, M0)) : WW x (sz, 0, 0) M 30 [(0, .ref l0), (1, .int l1), (2, .int l2)] [.int sk0] := by
  unfold B_X13_isKnown_30 at h
  refine ww_istore 30 X dX13_isKnown_30 (lv' := [(0, .ref l0), (1, .int l1), (2, .int l2), (4, .int sk0)]) (by decide) [1, 2, 3, 0] rfl ?_
  refine ww_aload_n 32 X dX13_isKnown_32 0 rfl rfl ?_
  obtain ⟨v33, e33, h⟩ := bO_some h
  refine ww_getR 33 X dX13_isKnown_33 fG_X13_36 e33 ?_
  refine ww_sipush 36 X (v := (600 : Int32)) dX13_isKnown_36 (by decide) ?_
  refine ww_iload_n 39 X dX13_isKnown_39 1 rfl rfl ?_
  refine ww_imul 40 X dX13_isKnown_40 ?_
  refine ww_iload_n 41 X dX13_isKnown_41 2 rfl rfl ?_
  refine ww_iadd 42 X dX13_isKnown_42 ?_
  obtain ⟨v43, e43, h⟩ := bO_some h
  refine ww_iald 43 X dX13_isKnown_43 e43 ?_
  refine ww_iconst 44 X (v := (1 : Int32)) dX13_isKnown_44 (by decide) ?_
  refine ww_icmp_ne 45 78 X dX13_isKnown_45 (by decide) (fun q => ?_) (fun q => ?_)
  · replace h := (if_neg q).symm.trans h
    refine ww_iconst 78 X (v := (0 : Int32)) dX13_isKnown_78 (by decide) ?_
    exact ww_sub [0, 3] rfl (wB_X13_isKnown_79 X hQ h)
  · replace h := (if_pos q).symm.trans h
    refine ww_aload_n 48 X dX13_isKnown_48 0 rfl rfl ?_
    refine ww_iload_n 49 X dX13_isKnown_49 1 rfl rfl ?_
    refine ww_iload_n 50 X dX13_isKnown_50 2 rfl rfl ?_
    refine ww_iconst 51 X (v := (1 : Int32)) dX13_isKnown_51 (by decide) ?_
    refine ww_iadd 52 X dX13_isKnown_52 ?_
    refine ww_ldsw 53 X (j := 116) dX13_isKnown_53 rfl ?_
    obtain ⟨_, f56, h⟩ := bO_some h
    obtain ⟨v56, M56, e56, h⟩ := bP_some h
    refine ww_callVI0 56 X dX13_isKnown_56 mY_X13_says mL_X13_803 (rcv_spec f56) ⟨_, _, rfl⟩ (by decide) (As := [.int l1, .int (l2 + (1 : Int32)), .ref (G.1 116)]) (rest := []) rfl rfl ⟨Nat.le_of_ble_eq_true rfl, Nat.le_of_ble_eq_true rfl⟩ (Nat.le_of_ble_eq_true rfl) (fun l D A => c_X13_says l D A e56) ?_
    refine ww_if_eq 59 78 X dX13_isKnown_59 (by decide) (fun q => ?_) (fun q => ?_)
    · replace h := (if_pos q).symm.trans h
      refine ww_iconst 78 X (v := (0 : Int32)) dX13_isKnown_78 (by decide) ?_
      exact ww_sub [0, 3] rfl (wB_X13_isKnown_79 X hQ h)
    · replace h := (if_neg q).symm.trans h
      refine ww_iload 62 X dX13_isKnown_62 3 rfl ?_
      refine ww_iconst 64 X (v := (1 : Int32)) dX13_isKnown_64 (by decide) ?_
      refine ww_icmp_eq 65 74 X dX13_isKnown_65 (by decide) (fun q => ?_) (fun q => ?_)
      · replace h := (if_pos q).symm.trans h
        refine ww_iconst 74 X (v := (1 : Int32)) dX13_isKnown_74 (by decide) ?_
        refine ww_goto 75 79 X dX13_isKnown_75 (by decide) ?_
        exact ww_sub [0, 3] rfl (wB_X13_isKnown_79 X hQ h)
      · replace h := (if_neg q).symm.trans h
        refine ww_iload 68 X dX13_isKnown_68 3 rfl ?_
        refine ww_iconst 70 X (v := (2 : Int32)) dX13_isKnown_70 (by decide) ?_
        refine ww_icmp_ne 71 78 X dX13_isKnown_71 (by decide) (fun q => ?_) (fun q => ?_)
        · replace h := (if_neg q).symm.trans h
          refine ww_iconst 78 X (v := (0 : Int32)) dX13_isKnown_78 (by decide) ?_
          exact ww_sub [0, 3] rfl (wB_X13_isKnown_79 X hQ h)
        · replace h := (if_pos q).symm.trans h
          refine ww_iconst 74 X (v := (1 : Int32)) dX13_isKnown_74 (by decide) ?_
          refine ww_goto 75 79 X dX13_isKnown_75 (by decide) ?_
          exact ww_sub [0, 3] rfl (wB_X13_isKnown_79 X hQ h)
set_option maxHeartbeats 4000000 in
set_option maxRecDepth 100000 in
theorem wP_X13_isKnown {G : mG} {F : Nat} {x : mXT} {sz : Nat} {r0 : Int32} {M0 : mM} (X : mCX G RX13 cX13_isKnown 6 (some .boolean) "isKnown" rmX13_isKnown x) (hQ : mQI x r0 M0 (sz, 0, 0)) {l0 : Nat} {l1 : Int32} {l2 : Int32} {M : mM} (h : P_X13_isKnown G F l0 l1 l2 M = some (r0, M0)) : WW x (sz, 0, 0) M 0 [(0, .ref l0), (1, .int l1), (2, .int l2)] [] := by
  unfold P_X13_isKnown at h
  refine ww_aload_n 0 X dX13_isKnown_0 0 rfl rfl ?_
  refine ww_iload_n 1 X dX13_isKnown_1 1 rfl rfl ?_
  refine ww_iconst 2 X (v := (0 : Int32)) dX13_isKnown_2 (by decide) ?_
  refine ww_ldsw 3 X (j := 116) dX13_isKnown_3 rfl ?_
  obtain ⟨_, f6, h⟩ := bO_some h
  obtain ⟨v6, M6, e6, h⟩ := bP_some h
  refine ww_callVI0 6 X dX13_isKnown_6 mY_X13_memberOf mL_X13_796 (rcv_spec f6) ⟨_, _, rfl⟩ (by decide) (As := [.int l1, .int (0 : Int32), .ref (G.1 116)]) (rest := []) rfl rfl ⟨Nat.le_of_ble_eq_true rfl, Nat.le_of_ble_eq_true rfl⟩ (Nat.le_of_ble_eq_true rfl) (fun l D A => c_X13_memberOf l D A e6) ?_
  refine ww_istore_n 9 X dX13_isKnown_9 (lv' := [(0, .ref l0), (1, .int l1), (2, .int l2), (3, .int v6)]) rfl (by decide) [1, 2, 3, 0] rfl ?_
  refine ww_iload_n 10 X dX13_isKnown_10 3 rfl rfl ?_
  refine ww_if_ge 11 18 X dX13_isKnown_11 (by decide) (fun q => ?_) (fun q => ?_)
  · replace h := (if_pos q).symm.trans h
    refine ww_aload_n 18 X dX13_isKnown_18 0 rfl rfl ?_
    obtain ⟨v19, e19, h⟩ := bO_some h
    refine ww_getR 19 X dX13_isKnown_19 fG_X13_24 e19 ?_
    refine ww_sipush 22 X (v := (600 : Int32)) dX13_isKnown_22 (by decide) ?_
    refine ww_iload_n 25 X dX13_isKnown_25 1 rfl rfl ?_
    refine ww_imul 26 X dX13_isKnown_26 ?_
    refine ww_iload_n 27 X dX13_isKnown_27 3 rfl rfl ?_
    refine ww_iadd 28 X dX13_isKnown_28 ?_
    obtain ⟨v29, e29, h⟩ := bO_some h
    refine ww_iald 29 X dX13_isKnown_29 e29 ?_
    exact ww_sub [0, 1, 2] rfl (wB_X13_isKnown_30 X hQ h)
  · replace h := (if_neg q).symm.trans h
    refine ww_iconst 14 X (v := (0 : Int32)) dX13_isKnown_14 (by decide) ?_
    refine ww_goto 15 30 X dX13_isKnown_15 (by decide) ?_
    exact ww_sub [0, 1, 2] rfl (wB_X13_isKnown_30 X hQ h)
theorem c_X13_isKnown {G : mG} {F sz : Nat} {r0 : Int32} {M0 : mM} (l : Launch) (D : mD) (A : Nat → Prop) {l0 : Nat} {l1 : Int32} {l2 : Int32} {M : mM} (h : P_X13_isKnown G F l0 l1 l2 M = some (r0, M0)) : mMetI l D G A yX13_isKnown cX13_isKnown 6 (some .boolean) 6 135 0 0 [.ref l0, .int l1, .int l2] M sz r0 M0 sz := mMetI_of l D G A (by decide) (Nat.le_of_ble_eq_true rfl) (fun x X hQ => wP_X13_isKnown X hQ h)
/-! SealedTokensModel.agreed(I)I -/
theorem dX13_agreed_0 : decode cX13_agreed 0 = .ok (.aload_n 0, 1) := by decide +kernel
theorem dX13_agreed_1 : decode cX13_agreed 1 = .ok (.iload_n 1, 1) := by decide +kernel
theorem dX13_agreed_2 : decode cX13_agreed 2 = .ok (.iconst 0, 1) := by decide +kernel
theorem dX13_agreed_3 : decode cX13_agreed 3 = .ok (.ldc_w 938, 3) := by decide +kernel
theorem dX13_agreed_6 : decode cX13_agreed 6 = .ok (.invokevirtual 796, 3) := by decide +kernel
theorem dX13_agreed_9 : decode cX13_agreed 9 = .ok (.istore_n 2, 1) := by decide +kernel
theorem dX13_agreed_10 : decode cX13_agreed 10 = .ok (.iload_n 2, 1) := by decide +kernel
theorem dX13_agreed_11 : decode cX13_agreed 11 = .ok (.ifCond .lt 64, 3) := by decide +kernel
theorem dX13_agreed_14 : decode cX13_agreed 14 = .ok (.aload_n 0, 1) := by decide +kernel
theorem dX13_agreed_15 : decode cX13_agreed 15 = .ok (.getfield 24, 3) := by decide +kernel
theorem dX13_agreed_18 : decode cX13_agreed 18 = .ok (.sipush 600, 3) := by decide +kernel
theorem dX13_agreed_21 : decode cX13_agreed 21 = .ok (.iload_n 1, 1) := by decide +kernel
theorem dX13_agreed_22 : decode cX13_agreed 22 = .ok (.imul, 1) := by decide +kernel
theorem dX13_agreed_23 : decode cX13_agreed 23 = .ok (.iload_n 2, 1) := by decide +kernel
theorem dX13_agreed_24 : decode cX13_agreed 24 = .ok (.iadd, 1) := by decide +kernel
theorem dX13_agreed_25 : decode cX13_agreed 25 = .ok (.iaload, 1) := by decide +kernel
theorem dX13_agreed_26 : decode cX13_agreed 26 = .ok (.bipush 6, 2) := by decide +kernel
theorem dX13_agreed_28 : decode cX13_agreed 28 = .ok (.if_icmp .ne 47, 3) := by decide +kernel
theorem dX13_agreed_31 : decode cX13_agreed 31 = .ok (.aload_n 0, 1) := by decide +kernel
theorem dX13_agreed_32 : decode cX13_agreed 32 = .ok (.iload_n 1, 1) := by decide +kernel
theorem dX13_agreed_33 : decode cX13_agreed 33 = .ok (.aload_n 0, 1) := by decide +kernel
theorem dX13_agreed_34 : decode cX13_agreed 34 = .ok (.iload_n 1, 1) := by decide +kernel
theorem dX13_agreed_35 : decode cX13_agreed 35 = .ok (.iload_n 2, 1) := by decide +kernel
theorem dX13_agreed_36 : decode cX13_agreed 36 = .ok (.ldc_w 800, 3) := by decide +kernel
theorem dX13_agreed_39 : decode cX13_agreed 39 = .ok (.invokevirtual 796, 3) := by decide +kernel
theorem dX13_agreed_42 : decode cX13_agreed 42 = .ok (.ldc_w 808, 3) := by decide +kernel
theorem dX13_agreed_45 : decode cX13_agreed 45 = .ok (.invokevirtual 803, 3) := by decide +kernel
theorem dX13_agreed_48 : decode cX13_agreed 48 = .ok (.ifCond .eq 27, 3) := by decide +kernel
theorem dX13_agreed_51 : decode cX13_agreed 51 = .ok (.aload_n 0, 1) := by decide +kernel
theorem dX13_agreed_52 : decode cX13_agreed 52 = .ok (.iload_n 1, 1) := by decide +kernel
theorem dX13_agreed_53 : decode cX13_agreed 53 = .ok (.aload_n 0, 1) := by decide +kernel
theorem dX13_agreed_54 : decode cX13_agreed 54 = .ok (.iload_n 1, 1) := by decide +kernel
theorem dX13_agreed_55 : decode cX13_agreed 55 = .ok (.iload_n 2, 1) := by decide +kernel
theorem dX13_agreed_56 : decode cX13_agreed 56 = .ok (.ldc_w 824, 3) := by decide +kernel
theorem dX13_agreed_59 : decode cX13_agreed 59 = .ok (.invokevirtual 796, 3) := by decide +kernel
theorem dX13_agreed_62 : decode cX13_agreed 62 = .ok (.ldc_w 826, 3) := by decide +kernel
theorem dX13_agreed_65 : decode cX13_agreed 65 = .ok (.invokevirtual 803, 3) := by decide +kernel
theorem dX13_agreed_68 : decode cX13_agreed 68 = .ok (.ifCond .eq 7, 3) := by decide +kernel
theorem dX13_agreed_71 : decode cX13_agreed 71 = .ok (.iconst 1, 1) := by decide +kernel
theorem dX13_agreed_72 : decode cX13_agreed 72 = .ok (.goto 4, 3) := by decide +kernel
theorem dX13_agreed_75 : decode cX13_agreed 75 = .ok (.iconst 0, 1) := by decide +kernel
theorem dX13_agreed_76 : decode cX13_agreed 76 = .ok (.istore_n 3, 1) := by decide +kernel
theorem dX13_agreed_77 : decode cX13_agreed 77 = .ok (.iload_n 3, 1) := by decide +kernel
theorem dX13_agreed_78 : decode cX13_agreed 78 = .ok (.ifCond .eq 43, 3) := by decide +kernel
theorem dX13_agreed_81 : decode cX13_agreed 81 = .ok (.aload_n 0, 1) := by decide +kernel
theorem dX13_agreed_82 : decode cX13_agreed 82 = .ok (.iload_n 1, 1) := by decide +kernel
theorem dX13_agreed_83 : decode cX13_agreed 83 = .ok (.iload_n 2, 1) := by decide +kernel
theorem dX13_agreed_84 : decode cX13_agreed 84 = .ok (.ldc_w 832, 3) := by decide +kernel
theorem dX13_agreed_87 : decode cX13_agreed 87 = .ok (.aload_n 0, 1) := by decide +kernel
theorem dX13_agreed_88 : decode cX13_agreed 88 = .ok (.getfield 239, 3) := by decide +kernel
theorem dX13_agreed_91 : decode cX13_agreed 91 = .ok (.invokevirtual 834, 3) := by decide +kernel
theorem dX13_agreed_94 : decode cX13_agreed 94 = .ok (.bipush 32, 2) := by decide +kernel
theorem dX13_agreed_96 : decode cX13_agreed 96 = .ok (.if_icmp .ne 25, 3) := by decide +kernel
theorem dX13_agreed_99 : decode cX13_agreed 99 = .ok (.aload_n 0, 1) := by decide +kernel
theorem dX13_agreed_100 : decode cX13_agreed 100 = .ok (.iload_n 1, 1) := by decide +kernel
theorem dX13_agreed_101 : decode cX13_agreed 101 = .ok (.iload_n 2, 1) := by decide +kernel
theorem dX13_agreed_102 : decode cX13_agreed 102 = .ok (.ldc_w 843, 3) := by decide +kernel
theorem dX13_agreed_105 : decode cX13_agreed 105 = .ok (.aload_n 0, 1) := by decide +kernel
theorem dX13_agreed_106 : decode cX13_agreed 106 = .ok (.getfield 242, 3) := by decide +kernel
theorem dX13_agreed_109 : decode cX13_agreed 109 = .ok (.invokevirtual 834, 3) := by decide +kernel
theorem dX13_agreed_112 : decode cX13_agreed 112 = .ok (.bipush 32, 2) := by decide +kernel
theorem dX13_agreed_114 : decode cX13_agreed 114 = .ok (.if_icmp .ne 7, 3) := by decide +kernel
theorem dX13_agreed_117 : decode cX13_agreed 117 = .ok (.iconst 1, 1) := by decide +kernel
theorem dX13_agreed_118 : decode cX13_agreed 118 = .ok (.goto 4, 3) := by decide +kernel
theorem dX13_agreed_121 : decode cX13_agreed 121 = .ok (.iconst 0, 1) := by decide +kernel
theorem dX13_agreed_122 : decode cX13_agreed 122 = .ok (.istore_n 3, 1) := by decide +kernel
theorem dX13_agreed_123 : decode cX13_agreed 123 = .ok (.iload_n 3, 1) := by decide +kernel
theorem dX13_agreed_124 : decode cX13_agreed 124 = .ok (.ifCond .eq 44, 3) := by decide +kernel
theorem dX13_agreed_127 : decode cX13_agreed 127 = .ok (.aload_n 0, 1) := by decide +kernel
theorem dX13_agreed_128 : decode cX13_agreed 128 = .ok (.getfield 239, 3) := by decide +kernel
theorem dX13_agreed_131 : decode cX13_agreed 131 = .ok (.iconst 0, 1) := by decide +kernel
theorem dX13_agreed_132 : decode cX13_agreed 132 = .ok (.aload_n 0, 1) := by decide +kernel
theorem dX13_agreed_133 : decode cX13_agreed 133 = .ok (.getfield 248, 3) := by decide +kernel
theorem dX13_agreed_136 : decode cX13_agreed 136 = .ok (.iconst 0, 1) := by decide +kernel
theorem dX13_agreed_137 : decode cX13_agreed 137 = .ok (.bipush 32, 2) := by decide +kernel
theorem dX13_agreed_139 : decode cX13_agreed 139 = .ok (.invokestatic 317, 3) := by decide +kernel
theorem dX13_agreed_142 : decode cX13_agreed 142 = .ok (.aload_n 0, 1) := by decide +kernel
theorem dX13_agreed_143 : decode cX13_agreed 143 = .ok (.getfield 242, 3) := by decide +kernel
theorem dX13_agreed_146 : decode cX13_agreed 146 = .ok (.iconst 0, 1) := by decide +kernel
theorem dX13_agreed_147 : decode cX13_agreed 147 = .ok (.aload_n 0, 1) := by decide +kernel
theorem dX13_agreed_148 : decode cX13_agreed 148 = .ok (.getfield 248, 3) := by decide +kernel
theorem dX13_agreed_151 : decode cX13_agreed 151 = .ok (.bipush 32, 2) := by decide +kernel
theorem dX13_agreed_153 : decode cX13_agreed 153 = .ok (.bipush 32, 2) := by decide +kernel
theorem dX13_agreed_155 : decode cX13_agreed 155 = .ok (.invokestatic 317, 3) := by decide +kernel
theorem dX13_agreed_158 : decode cX13_agreed 158 = .ok (.aload_n 0, 1) := by decide +kernel
theorem dX13_agreed_159 : decode cX13_agreed 159 = .ok (.aload_n 0, 1) := by decide +kernel
theorem dX13_agreed_160 : decode cX13_agreed 160 = .ok (.getfield 248, 3) := by decide +kernel
theorem dX13_agreed_163 : decode cX13_agreed 163 = .ok (.iconst 0, 1) := by decide +kernel
theorem dX13_agreed_164 : decode cX13_agreed 164 = .ok (.invokevirtual 766, 3) := by decide +kernel
theorem dX13_agreed_167 : decode cX13_agreed 167 = .ok (.istore_n 3, 1) := by decide +kernel
theorem dX13_agreed_168 : decode cX13_agreed 168 = .ok (.aload_n 0, 1) := by decide +kernel
theorem dX13_agreed_169 : decode cX13_agreed 169 = .ok (.aload_n 0, 1) := by decide +kernel
theorem dX13_agreed_170 : decode cX13_agreed 170 = .ok (.iload_n 1, 1) := by decide +kernel
theorem dX13_agreed_171 : decode cX13_agreed 171 = .ok (.iconst 0, 1) := by decide +kernel
theorem dX13_agreed_172 : decode cX13_agreed 172 = .ok (.ldc_w 940, 3) := by decide +kernel
theorem dX13_agreed_175 : decode cX13_agreed 175 = .ok (.invokevirtual 796, 3) := by decide +kernel
theorem dX13_agreed_178 : decode cX13_agreed 178 = .ok (.ifCond .ge 7, 3) := by decide +kernel
theorem dX13_agreed_181 : decode cX13_agreed 181 = .ok (.iconst 0, 1) := by decide +kernel
theorem dX13_agreed_182 : decode cX13_agreed 182 = .ok (.goto 16, 3) := by decide +kernel
theorem dX13_agreed_185 : decode cX13_agreed 185 = .ok (.aload_n 0, 1) := by decide +kernel
theorem dX13_agreed_186 : decode cX13_agreed 186 = .ok (.iload_n 1, 1) := by decide +kernel
theorem dX13_agreed_187 : decode cX13_agreed 187 = .ok (.iconst 0, 1) := by decide +kernel
theorem dX13_agreed_188 : decode cX13_agreed 188 = .ok (.ldc_w 940, 3) := by decide +kernel
theorem dX13_agreed_191 : decode cX13_agreed 191 = .ok (.aload_n 0, 1) := by decide +kernel
theorem dX13_agreed_192 : decode cX13_agreed 192 = .ok (.getfield 251, 3) := by decide +kernel
theorem dX13_agreed_195 : decode cX13_agreed 195 = .ok (.invokevirtual 834, 3) := by decide +kernel
theorem dX13_agreed_198 : decode cX13_agreed 198 = .ok (.putfield 942, 3) := by decide +kernel
theorem dX13_agreed_201 : decode cX13_agreed 201 = .ok (.aload_n 0, 1) := by decide +kernel
theorem dX13_agreed_202 : decode cX13_agreed 202 = .ok (.aload_n 0, 1) := by decide +kernel
theorem dX13_agreed_203 : decode cX13_agreed 203 = .ok (.iload_n 1, 1) := by decide +kernel
theorem dX13_agreed_204 : decode cX13_agreed 204 = .ok (.iconst 0, 1) := by decide +kernel
theorem dX13_agreed_205 : decode cX13_agreed 205 = .ok (.ldc_w 945, 3) := by decide +kernel
theorem dX13_agreed_208 : decode cX13_agreed 208 = .ok (.invokevirtual 796, 3) := by decide +kernel
theorem dX13_agreed_211 : decode cX13_agreed 211 = .ok (.ifCond .ge 7, 3) := by decide +kernel
theorem dX13_agreed_214 : decode cX13_agreed 214 = .ok (.iconst 0, 1) := by decide +kernel
theorem dX13_agreed_215 : decode cX13_agreed 215 = .ok (.goto 16, 3) := by decide +kernel
theorem dX13_agreed_218 : decode cX13_agreed 218 = .ok (.aload_n 0, 1) := by decide +kernel
theorem dX13_agreed_219 : decode cX13_agreed 219 = .ok (.iload_n 1, 1) := by decide +kernel
theorem dX13_agreed_220 : decode cX13_agreed 220 = .ok (.iconst 0, 1) := by decide +kernel
theorem dX13_agreed_221 : decode cX13_agreed 221 = .ok (.ldc_w 945, 3) := by decide +kernel
theorem dX13_agreed_224 : decode cX13_agreed 224 = .ok (.aload_n 0, 1) := by decide +kernel
theorem dX13_agreed_225 : decode cX13_agreed 225 = .ok (.getfield 254, 3) := by decide +kernel
theorem dX13_agreed_228 : decode cX13_agreed 228 = .ok (.invokevirtual 834, 3) := by decide +kernel
theorem dX13_agreed_231 : decode cX13_agreed 231 = .ok (.putfield 947, 3) := by decide +kernel
theorem dX13_agreed_234 : decode cX13_agreed 234 = .ok (.iload_n 3, 1) := by decide +kernel
theorem dX13_agreed_235 : decode cX13_agreed 235 = .ok (.ifCond .eq 21, 3) := by decide +kernel
theorem dX13_agreed_238 : decode cX13_agreed 238 = .ok (.aload_n 0, 1) := by decide +kernel
theorem dX13_agreed_239 : decode cX13_agreed 239 = .ok (.getfield 942, 3) := by decide +kernel
theorem dX13_agreed_242 : decode cX13_agreed 242 = .ok (.ifCond .lt 14, 3) := by decide +kernel
theorem dX13_agreed_245 : decode cX13_agreed 245 = .ok (.aload_n 0, 1) := by decide +kernel
theorem dX13_agreed_246 : decode cX13_agreed 246 = .ok (.getfield 947, 3) := by decide +kernel
theorem dX13_agreed_249 : decode cX13_agreed 249 = .ok (.ifCond .lt 7, 3) := by decide +kernel
theorem dX13_agreed_252 : decode cX13_agreed 252 = .ok (.iconst 0, 1) := by decide +kernel
theorem dX13_agreed_253 : decode cX13_agreed 253 = .ok (.goto 5, 3) := by decide +kernel
theorem dX13_agreed_256 : decode cX13_agreed 256 = .ok (.bipush (-23), 2) := by decide +kernel
theorem dX13_agreed_258 : decode cX13_agreed 258 = .ok (.ireturn, 1) := by decide +kernel
abbrev rmX13_agreed : Room := { frames := 7, cells := 0, slots := 0, locals := 160 }
set_option maxHeartbeats 4000000 in
set_option maxRecDepth 100000 in
theorem wB_X13_agreed_231 {G : mG} {F : Nat} {x : mXT} {sz : Nat} {r0 : Int32} {M0 : mM} (X : mCX G RX13 cX13_agreed 4 (some .int) "agreed" rmX13_agreed x) (hQ : mQI x r0 M0 (sz, 0, 0)) {l0 : Nat} {l3 : Int32} {sk0 : Nat} {sk1 : Int32} {M : mM} (h : B_X13_agreed_231 G F l0 l3 sk0 sk1 M = some (r0, M0)) : WW x (sz, 0, 0) M 231 [(0, .ref l0), (3, .int l3)] [.int sk1, .ref sk0] := by
  unfold B_X13_agreed_231 at h
  obtain ⟨M231, e231, h⟩ := bO_some h
  refine ww_putI 231 X dX13_agreed_231 (fP_X13_947 _) e231 ?_
  refine ww_iload_n 234 X dX13_agreed_234 1 rfl rfl ?_
  refine ww_if_eq 235 256 X dX13_agreed_235 (by decide) (fun q => ?_) (fun q => ?_)
  · replace h := (if_pos q).symm.trans h
    refine ww_bipush 256 X (v := (-23 : Int32)) dX13_agreed_256 (by decide) ?_
    exact ww_iretE 258 X hQ dX13_agreed_258 h
  · replace h := (if_neg q).symm.trans h
    refine ww_aload_n 238 X dX13_agreed_238 0 rfl rfl ?_
    obtain ⟨v239, e239, h⟩ := bO_some h
    refine ww_getI 239 X dX13_agreed_239 fG_X13_942 e239 ?_
    refine ww_if_lt 242 256 X dX13_agreed_242 (by decide) (fun q => ?_) (fun q => ?_)
    · replace h := (if_pos q).symm.trans h
      refine ww_bipush 256 X (v := (-23 : Int32)) dX13_agreed_256 (by decide) ?_
      exact ww_iretE 258 X hQ dX13_agreed_258 h
    · replace h := (if_neg q).symm.trans h
      refine ww_aload_n 245 X dX13_agreed_245 0 rfl rfl ?_
      obtain ⟨v246, e246, h⟩ := bO_some h
      refine ww_getI 246 X dX13_agreed_246 fG_X13_947 e246 ?_
      refine ww_if_lt 249 256 X dX13_agreed_249 (by decide) (fun q => ?_) (fun q => ?_)
      · replace h := (if_pos q).symm.trans h
        refine ww_bipush 256 X (v := (-23 : Int32)) dX13_agreed_256 (by decide) ?_
        exact ww_iretE 258 X hQ dX13_agreed_258 h
      · replace h := (if_neg q).symm.trans h
        refine ww_iconst 252 X (v := (0 : Int32)) dX13_agreed_252 (by decide) ?_
        refine ww_goto 253 258 X dX13_agreed_253 (by decide) ?_
        exact ww_iretE 258 X hQ dX13_agreed_258 h
set_option maxHeartbeats 4000000 in
set_option maxRecDepth 100000 in
theorem wB_X13_agreed_198 {G : mG} {F : Nat} {x : mXT} {sz : Nat} {r0 : Int32} {M0 : mM} (X : mCX G RX13 cX13_agreed 4 (some .int) "agreed" rmX13_agreed x) (hQ : mQI x r0 M0 (sz, 0, 0)) {l0 : Nat} {l1 : Int32} {l3 : Int32} {sk0 : Nat} {sk1 : Int32} {M : mM} (h : B_X13_agreed_198 G F l0 l1 l3 sk0 sk1 M = some (r0, M0)) : WW x (sz, 0, 0) M 198 [(0, .ref l0), (1, .int l1), (3, .int l3)] [.int sk1, .ref sk0] := by
  unfold B_X13_agreed_198 at h
  obtain ⟨M198, e198, h⟩ := bO_some h
  refine ww_putI 198 X dX13_agreed_198 (fP_X13_942 _) e198 ?_
  refine ww_aload_n 201 X dX13_agreed_201 0 rfl rfl ?_
  refine ww_aload_n 202 X dX13_agreed_202 0 rfl rfl ?_
  refine ww_iload_n 203 X dX13_agreed_203 1 rfl rfl ?_
  refine ww_iconst 204 X (v := (0 : Int32)) dX13_agreed_204 (by decide) ?_
  refine ww_ldsw 205 X (j := 120) dX13_agreed_205 rfl ?_
  obtain ⟨_, f208, h⟩ := bO_some h
  obtain ⟨v208, M208, e208, h⟩ := bP_some h
  refine ww_callVI0 208 X dX13_agreed_208 mY_X13_memberOf mL_X13_796 (rcv_spec f208) ⟨_, _, rfl⟩ (by decide) (As := [.int l1, .int (0 : Int32), .ref (G.1 120)]) (rest := [.ref l0]) rfl rfl ⟨Nat.le_of_ble_eq_true rfl, Nat.le_of_ble_eq_true rfl⟩ (Nat.le_of_ble_eq_true rfl) (fun l D A => c_X13_memberOf l D A e208) ?_
  refine ww_if_ge 211 218 X dX13_agreed_211 (by decide) (fun q => ?_) (fun q => ?_)
  · replace h := (if_pos q).symm.trans h
    refine ww_aload_n 218 X dX13_agreed_218 0 rfl rfl ?_
    refine ww_iload_n 219 X dX13_agreed_219 1 rfl rfl ?_
    refine ww_iconst 220 X (v := (0 : Int32)) dX13_agreed_220 (by decide) ?_
    refine ww_ldsw 221 X (j := 120) dX13_agreed_221 rfl ?_
    refine ww_aload_n 224 X dX13_agreed_224 0 rfl rfl ?_
    obtain ⟨v225, e225, h⟩ := bO_some h
    refine ww_getR 225 X dX13_agreed_225 fG_X13_254 e225 ?_
    obtain ⟨_, f228, h⟩ := bO_some h
    obtain ⟨v228, M228, e228, h⟩ := bP_some h
    refine ww_callVI0 228 X dX13_agreed_228 mY_X13_bytesOf mL_X13_834 (rcv_spec f228) ⟨_, _, rfl⟩ (by decide) (As := [.int l1, .int (0 : Int32), .ref (G.1 120), .ref v225]) (rest := [.ref l0]) rfl rfl ⟨Nat.le_of_ble_eq_true rfl, Nat.le_of_ble_eq_true rfl⟩ (Nat.le_of_ble_eq_true rfl) (fun l D A => c_X13_bytesOf l D A e228) ?_
    exact ww_sub [0, 2] rfl (wB_X13_agreed_231 X hQ h)
  · replace h := (if_neg q).symm.trans h
    refine ww_iconst 214 X (v := (0 : Int32)) dX13_agreed_214 (by decide) ?_
    refine ww_goto 215 231 X dX13_agreed_215 (by decide) ?_
    exact ww_sub [0, 2] rfl (wB_X13_agreed_231 X hQ h)
set_option maxHeartbeats 4000000 in
set_option maxRecDepth 100000 in
theorem wB_X13_agreed_168 {G : mG} {F : Nat} {x : mXT} {sz : Nat} {r0 : Int32} {M0 : mM} (X : mCX G RX13 cX13_agreed 4 (some .int) "agreed" rmX13_agreed x) (hQ : mQI x r0 M0 (sz, 0, 0)) {l0 : Nat} {l1 : Int32} {l3 : Int32} {M : mM} (h : B_X13_agreed_168 G F l0 l1 l3 M = some (r0, M0)) : WW x (sz, 0, 0) M 168 [(0, .ref l0), (1, .int l1), (3, .int l3)] [] := by
  unfold B_X13_agreed_168 at h
  refine ww_aload_n 168 X dX13_agreed_168 0 rfl rfl ?_
  refine ww_aload_n 169 X dX13_agreed_169 0 rfl rfl ?_
  refine ww_iload_n 170 X dX13_agreed_170 1 rfl rfl ?_
  refine ww_iconst 171 X (v := (0 : Int32)) dX13_agreed_171 (by decide) ?_
  refine ww_ldsw 172 X (j := 119) dX13_agreed_172 rfl ?_
  obtain ⟨_, f175, h⟩ := bO_some h
  obtain ⟨v175, M175, e175, h⟩ := bP_some h
  refine ww_callVI0 175 X dX13_agreed_175 mY_X13_memberOf mL_X13_796 (rcv_spec f175) ⟨_, _, rfl⟩ (by decide) (As := [.int l1, .int (0 : Int32), .ref (G.1 119)]) (rest := [.ref l0]) rfl rfl ⟨Nat.le_of_ble_eq_true rfl, Nat.le_of_ble_eq_true rfl⟩ (Nat.le_of_ble_eq_true rfl) (fun l D A => c_X13_memberOf l D A e175) ?_
  refine ww_if_ge 178 185 X dX13_agreed_178 (by decide) (fun q => ?_) (fun q => ?_)
  · replace h := (if_pos q).symm.trans h
    refine ww_aload_n 185 X dX13_agreed_185 0 rfl rfl ?_
    refine ww_iload_n 186 X dX13_agreed_186 1 rfl rfl ?_
    refine ww_iconst 187 X (v := (0 : Int32)) dX13_agreed_187 (by decide) ?_
    refine ww_ldsw 188 X (j := 119) dX13_agreed_188 rfl ?_
    refine ww_aload_n 191 X dX13_agreed_191 0 rfl rfl ?_
    obtain ⟨v192, e192, h⟩ := bO_some h
    refine ww_getR 192 X dX13_agreed_192 fG_X13_251 e192 ?_
    obtain ⟨_, f195, h⟩ := bO_some h
    obtain ⟨v195, M195, e195, h⟩ := bP_some h
    refine ww_callVI0 195 X dX13_agreed_195 mY_X13_bytesOf mL_X13_834 (rcv_spec f195) ⟨_, _, rfl⟩ (by decide) (As := [.int l1, .int (0 : Int32), .ref (G.1 119), .ref v192]) (rest := [.ref l0]) rfl rfl ⟨Nat.le_of_ble_eq_true rfl, Nat.le_of_ble_eq_true rfl⟩ (Nat.le_of_ble_eq_true rfl) (fun l D A => c_X13_bytesOf l D A e195) ?_
    exact (wB_X13_agreed_198 X hQ h)
  · replace h := (if_neg q).symm.trans h
    refine ww_iconst 181 X (v := (0 : Int32)) dX13_agreed_181 (by decide) ?_
    refine ww_goto 182 198 X dX13_agreed_182 (by decide) ?_
    exact (wB_X13_agreed_198 X hQ h)
set_option maxHeartbeats 4000000 in
set_option maxRecDepth 100000 in
theorem wB_X13_agreed_122 {G : mG} {F : Nat} {x : mXT} {sz : Nat} {r0 : Int32} {M0 : mM} (X : mCX G RX13 cX13_agreed 4 (some .int) "agreed" rmX13_agreed x) (hQ : mQI x r0 M0 (sz, 0, 0)) {l0 : Nat} {l1 : Int32} {sk0 : Int32} {M : mM} (h : B_X13_agreed_122 G F l0 l1 sk0 M = some (r0, M0)) : WW x (sz, 0, 0) M 122 [(0, .ref l0), (1, .int l1)] [.int sk0] := by
  unfold B_X13_agreed_122 at h
  refine ww_istore_n 122 X dX13_agreed_122 (lv' := [(0, .ref l0), (1, .int l1), (3, .int sk0)]) rfl (by decide) [1, 2, 0] rfl ?_
  refine ww_iload_n 123 X dX13_agreed_123 2 rfl rfl ?_
  refine ww_if_eq 124 168 X dX13_agreed_124 (by decide) (fun q => ?_) (fun q => ?_)
  · replace h := (if_pos q).symm.trans h
    exact (wB_X13_agreed_168 X hQ h)
  · replace h := (if_neg q).symm.trans h
    refine ww_aload_n 127 X dX13_agreed_127 0 rfl rfl ?_
    obtain ⟨v128, e128, h⟩ := bO_some h
    refine ww_getR 128 X dX13_agreed_128 fG_X13_239 e128 ?_
    refine ww_iconst 131 X (v := (0 : Int32)) dX13_agreed_131 (by decide) ?_
    refine ww_aload_n 132 X dX13_agreed_132 0 rfl rfl ?_
    obtain ⟨v133, e133, h⟩ := bO_some h
    refine ww_getR 133 X dX13_agreed_133 fG_X13_248 e133 ?_
    refine ww_iconst 136 X (v := (0 : Int32)) dX13_agreed_136 (by decide) ?_
    refine ww_bipush 137 X (v := (32 : Int32)) dX13_agreed_137 (by decide) ?_
    obtain ⟨M139, e139, h⟩ := bO_some h
    refine ww_callSV0 139 X dX13_agreed_139 mY_X13_move mL_X13_317 (As := [.ref v128, .int (0 : Int32), .ref v133, .int (0 : Int32), .int (32 : Int32)]) (rest := []) rfl rfl ⟨Nat.le_of_ble_eq_true rfl, Nat.le_of_ble_eq_true rfl⟩ (Nat.le_of_ble_eq_true rfl) (fun l D A => c_X13_move l D A e139) ?_
    refine ww_aload_n 142 X dX13_agreed_142 0 rfl rfl ?_
    obtain ⟨v143, e143, h⟩ := bO_some h
    refine ww_getR 143 X dX13_agreed_143 fG_X13_242 e143 ?_
    refine ww_iconst 146 X (v := (0 : Int32)) dX13_agreed_146 (by decide) ?_
    refine ww_aload_n 147 X dX13_agreed_147 0 rfl rfl ?_
    obtain ⟨v148, e148, h⟩ := bO_some h
    refine ww_getR 148 X dX13_agreed_148 fG_X13_248 e148 ?_
    refine ww_bipush 151 X (v := (32 : Int32)) dX13_agreed_151 (by decide) ?_
    refine ww_bipush 153 X (v := (32 : Int32)) dX13_agreed_153 (by decide) ?_
    obtain ⟨M155, e155, h⟩ := bO_some h
    refine ww_callSV0 155 X dX13_agreed_155 mY_X13_move mL_X13_317 (As := [.ref v143, .int (0 : Int32), .ref v148, .int (32 : Int32), .int (32 : Int32)]) (rest := []) rfl rfl ⟨Nat.le_of_ble_eq_true rfl, Nat.le_of_ble_eq_true rfl⟩ (Nat.le_of_ble_eq_true rfl) (fun l D A => c_X13_move l D A e155) ?_
    refine ww_aload_n 158 X dX13_agreed_158 0 rfl rfl ?_
    refine ww_aload_n 159 X dX13_agreed_159 0 rfl rfl ?_
    obtain ⟨v160, e160, h⟩ := bO_some h
    refine ww_getR 160 X dX13_agreed_160 fG_X13_248 e160 ?_
    refine ww_iconst 163 X (v := (0 : Int32)) dX13_agreed_163 (by decide) ?_
    obtain ⟨_, f164, h⟩ := bO_some h
    obtain ⟨v164, M164, e164, h⟩ := bP_some h
    refine ww_callVI0 164 X dX13_agreed_164 mY_X13_setPoint mL_X13_766 (rcv_spec f164) ⟨_, _, rfl⟩ (by decide) (As := [.ref v160, .int (0 : Int32)]) (rest := []) rfl rfl ⟨Nat.le_of_ble_eq_true rfl, Nat.le_of_ble_eq_true rfl⟩ (Nat.le_of_ble_eq_true rfl) (fun l D A => c_X13_setPoint l D A e164) ?_
    refine ww_istore_n 167 X dX13_agreed_167 (lv' := [(0, .ref l0), (1, .int l1), (3, .int v164)]) rfl (by decide) [1, 2, 0] rfl ?_
    exact (wB_X13_agreed_168 X hQ h)
set_option maxHeartbeats 4000000 in
set_option maxRecDepth 100000 in
theorem wB_X13_agreed_76 {G : mG} {F : Nat} {x : mXT} {sz : Nat} {r0 : Int32} {M0 : mM} (X : mCX G RX13 cX13_agreed 4 (some .int) "agreed" rmX13_agreed x) (hQ : mQI x r0 M0 (sz, 0, 0)) {l0 : Nat} {l1 : Int32} {l2 : Int32} {sk0 : Int32} {M : mM} (h : B_X13_agreed_76 G F l0 l1 l2 sk0 M = some (r0, M0)) : WW x (sz, 0, 0) M 76 [(0, .ref l0), (1, .int l1), (2, .int l2)] [.int sk0] := by
  unfold B_X13_agreed_76 at h
  refine ww_istore_n 76 X dX13_agreed_76 (lv' := [(0, .ref l0), (1, .int l1), (2, .int l2), (3, .int sk0)]) rfl (by decide) [1, 2, 3, 0] rfl ?_
  refine ww_iload_n 77 X dX13_agreed_77 3 rfl rfl ?_
  refine ww_if_eq 78 121 X dX13_agreed_78 (by decide) (fun q => ?_) (fun q => ?_)
  · replace h := (if_pos q).symm.trans h
    refine ww_iconst 121 X (v := (0 : Int32)) dX13_agreed_121 (by decide) ?_
    exact ww_sub [0, 1] rfl (wB_X13_agreed_122 X hQ h)
  · replace h := (if_neg q).symm.trans h
    refine ww_aload_n 81 X dX13_agreed_81 0 rfl rfl ?_
    refine ww_iload_n 82 X dX13_agreed_82 1 rfl rfl ?_
    refine ww_iload_n 83 X dX13_agreed_83 2 rfl rfl ?_
    refine ww_ldsw 84 X (j := 95) dX13_agreed_84 rfl ?_
    refine ww_aload_n 87 X dX13_agreed_87 0 rfl rfl ?_
    obtain ⟨v88, e88, h⟩ := bO_some h
    refine ww_getR 88 X dX13_agreed_88 fG_X13_239 e88 ?_
    obtain ⟨_, f91, h⟩ := bO_some h
    obtain ⟨v91, M91, e91, h⟩ := bP_some h
    refine ww_callVI0 91 X dX13_agreed_91 mY_X13_bytesOf mL_X13_834 (rcv_spec f91) ⟨_, _, rfl⟩ (by decide) (As := [.int l1, .int l2, .ref (G.1 95), .ref v88]) (rest := []) rfl rfl ⟨Nat.le_of_ble_eq_true rfl, Nat.le_of_ble_eq_true rfl⟩ (Nat.le_of_ble_eq_true rfl) (fun l D A => c_X13_bytesOf l D A e91) ?_
    refine ww_bipush 94 X (v := (32 : Int32)) dX13_agreed_94 (by decide) ?_
    refine ww_icmp_ne 96 121 X dX13_agreed_96 (by decide) (fun q => ?_) (fun q => ?_)
    · replace h := (if_neg q).symm.trans h
      refine ww_iconst 121 X (v := (0 : Int32)) dX13_agreed_121 (by decide) ?_
      exact ww_sub [0, 1] rfl (wB_X13_agreed_122 X hQ h)
    · replace h := (if_pos q).symm.trans h
      refine ww_aload_n 99 X dX13_agreed_99 0 rfl rfl ?_
      refine ww_iload_n 100 X dX13_agreed_100 1 rfl rfl ?_
      refine ww_iload_n 101 X dX13_agreed_101 2 rfl rfl ?_
      refine ww_ldsw 102 X (j := 97) dX13_agreed_102 rfl ?_
      refine ww_aload_n 105 X dX13_agreed_105 0 rfl rfl ?_
      obtain ⟨v106, e106, h⟩ := bO_some h
      refine ww_getR 106 X dX13_agreed_106 fG_X13_242 e106 ?_
      obtain ⟨_, f109, h⟩ := bO_some h
      obtain ⟨v109, M109, e109, h⟩ := bP_some h
      refine ww_callVI0 109 X dX13_agreed_109 mY_X13_bytesOf mL_X13_834 (rcv_spec f109) ⟨_, _, rfl⟩ (by decide) (As := [.int l1, .int l2, .ref (G.1 97), .ref v106]) (rest := []) rfl rfl ⟨Nat.le_of_ble_eq_true rfl, Nat.le_of_ble_eq_true rfl⟩ (Nat.le_of_ble_eq_true rfl) (fun l D A => c_X13_bytesOf l D A e109) ?_
      refine ww_bipush 112 X (v := (32 : Int32)) dX13_agreed_112 (by decide) ?_
      refine ww_icmp_ne 114 121 X dX13_agreed_114 (by decide) (fun q => ?_) (fun q => ?_)
      · replace h := (if_neg q).symm.trans h
        refine ww_iconst 121 X (v := (0 : Int32)) dX13_agreed_121 (by decide) ?_
        exact ww_sub [0, 1] rfl (wB_X13_agreed_122 X hQ h)
      · replace h := (if_pos q).symm.trans h
        refine ww_iconst 117 X (v := (1 : Int32)) dX13_agreed_117 (by decide) ?_
        refine ww_goto 118 122 X dX13_agreed_118 (by decide) ?_
        exact ww_sub [0, 1] rfl (wB_X13_agreed_122 X hQ h)
set_option maxHeartbeats 4000000 in
set_option maxRecDepth 100000 in
theorem wP_X13_agreed {G : mG} {F : Nat} {x : mXT} {sz : Nat} {r0 : Int32} {M0 : mM} (X : mCX G RX13 cX13_agreed 4 (some .int) "agreed" rmX13_agreed x) (hQ : mQI x r0 M0 (sz, 0, 0)) {l0 : Nat} {l1 : Int32} {M : mM} (h : P_X13_agreed G F l0 l1 M = some (r0, M0)) : WW x (sz, 0, 0) M 0 [(0, .ref l0), (1, .int l1)] [] := by
  unfold P_X13_agreed at h
  refine ww_aload_n 0 X dX13_agreed_0 0 rfl rfl ?_
  refine ww_iload_n 1 X dX13_agreed_1 1 rfl rfl ?_
  refine ww_iconst 2 X (v := (0 : Int32)) dX13_agreed_2 (by decide) ?_
  refine ww_ldsw 3 X (j := 118) dX13_agreed_3 rfl ?_
  obtain ⟨_, f6, h⟩ := bO_some h
  obtain ⟨v6, M6, e6, h⟩ := bP_some h
  refine ww_callVI0 6 X dX13_agreed_6 mY_X13_memberOf mL_X13_796 (rcv_spec f6) ⟨_, _, rfl⟩ (by decide) (As := [.int l1, .int (0 : Int32), .ref (G.1 118)]) (rest := []) rfl rfl ⟨Nat.le_of_ble_eq_true rfl, Nat.le_of_ble_eq_true rfl⟩ (Nat.le_of_ble_eq_true rfl) (fun l D A => c_X13_memberOf l D A e6) ?_
  refine ww_istore_n 9 X dX13_agreed_9 (lv' := [(0, .ref l0), (1, .int l1), (2, .int v6)]) rfl (by decide) [1, 2, 0] rfl ?_
  refine ww_iload_n 10 X dX13_agreed_10 2 rfl rfl ?_
  refine ww_if_lt 11 75 X dX13_agreed_11 (by decide) (fun q => ?_) (fun q => ?_)
  · replace h := (if_pos q).symm.trans h
    refine ww_iconst 75 X (v := (0 : Int32)) dX13_agreed_75 (by decide) ?_
    exact (wB_X13_agreed_76 X hQ h)
  · replace h := (if_neg q).symm.trans h
    refine ww_aload_n 14 X dX13_agreed_14 0 rfl rfl ?_
    obtain ⟨v15, e15, h⟩ := bO_some h
    refine ww_getR 15 X dX13_agreed_15 fG_X13_24 e15 ?_
    refine ww_sipush 18 X (v := (600 : Int32)) dX13_agreed_18 (by decide) ?_
    refine ww_iload_n 21 X dX13_agreed_21 1 rfl rfl ?_
    refine ww_imul 22 X dX13_agreed_22 ?_
    refine ww_iload_n 23 X dX13_agreed_23 2 rfl rfl ?_
    refine ww_iadd 24 X dX13_agreed_24 ?_
    obtain ⟨v25, e25, h⟩ := bO_some h
    refine ww_iald 25 X dX13_agreed_25 e25 ?_
    refine ww_bipush 26 X (v := (6 : Int32)) dX13_agreed_26 (by decide) ?_
    refine ww_icmp_ne 28 75 X dX13_agreed_28 (by decide) (fun q => ?_) (fun q => ?_)
    · replace h := (if_neg q).symm.trans h
      refine ww_iconst 75 X (v := (0 : Int32)) dX13_agreed_75 (by decide) ?_
      exact (wB_X13_agreed_76 X hQ h)
    · replace h := (if_pos q).symm.trans h
      refine ww_aload_n 31 X dX13_agreed_31 0 rfl rfl ?_
      refine ww_iload_n 32 X dX13_agreed_32 1 rfl rfl ?_
      refine ww_aload_n 33 X dX13_agreed_33 0 rfl rfl ?_
      refine ww_iload_n 34 X dX13_agreed_34 1 rfl rfl ?_
      refine ww_iload_n 35 X dX13_agreed_35 2 rfl rfl ?_
      refine ww_ldsw 36 X (j := 84) dX13_agreed_36 rfl ?_
      obtain ⟨_, f39, h⟩ := bO_some h
      obtain ⟨v39, M39, e39, h⟩ := bP_some h
      refine ww_callVI0 39 X dX13_agreed_39 mY_X13_memberOf mL_X13_796 (rcv_spec f39) ⟨_, _, rfl⟩ (by decide) (As := [.int l1, .int v6, .ref (G.1 84)]) (rest := [.int l1, .ref l0]) rfl rfl ⟨Nat.le_of_ble_eq_true rfl, Nat.le_of_ble_eq_true rfl⟩ (Nat.le_of_ble_eq_true rfl) (fun l D A => c_X13_memberOf l D A e39) ?_
      refine ww_ldsw 42 X (j := 87) dX13_agreed_42 rfl ?_
      obtain ⟨_, f45, h⟩ := bO_some h
      obtain ⟨v45, M45, e45, h⟩ := bP_some h
      refine ww_callVI0 45 X dX13_agreed_45 mY_X13_says mL_X13_803 (rcv_spec f45) ⟨_, _, rfl⟩ (by decide) (As := [.int l1, .int v39, .ref (G.1 87)]) (rest := []) rfl rfl ⟨Nat.le_of_ble_eq_true rfl, Nat.le_of_ble_eq_true rfl⟩ (Nat.le_of_ble_eq_true rfl) (fun l D A => c_X13_says l D A e45) ?_
      refine ww_if_eq 48 75 X dX13_agreed_48 (by decide) (fun q => ?_) (fun q => ?_)
      · replace h := (if_pos q).symm.trans h
        refine ww_iconst 75 X (v := (0 : Int32)) dX13_agreed_75 (by decide) ?_
        exact (wB_X13_agreed_76 X hQ h)
      · replace h := (if_neg q).symm.trans h
        refine ww_aload_n 51 X dX13_agreed_51 0 rfl rfl ?_
        refine ww_iload_n 52 X dX13_agreed_52 1 rfl rfl ?_
        refine ww_aload_n 53 X dX13_agreed_53 0 rfl rfl ?_
        refine ww_iload_n 54 X dX13_agreed_54 1 rfl rfl ?_
        refine ww_iload_n 55 X dX13_agreed_55 2 rfl rfl ?_
        refine ww_ldsw 56 X (j := 91) dX13_agreed_56 rfl ?_
        obtain ⟨_, f59, h⟩ := bO_some h
        obtain ⟨v59, M59, e59, h⟩ := bP_some h
        refine ww_callVI0 59 X dX13_agreed_59 mY_X13_memberOf mL_X13_796 (rcv_spec f59) ⟨_, _, rfl⟩ (by decide) (As := [.int l1, .int v6, .ref (G.1 91)]) (rest := [.int l1, .ref l0]) rfl rfl ⟨Nat.le_of_ble_eq_true rfl, Nat.le_of_ble_eq_true rfl⟩ (Nat.le_of_ble_eq_true rfl) (fun l D A => c_X13_memberOf l D A e59) ?_
        refine ww_ldsw 62 X (j := 92) dX13_agreed_62 rfl ?_
        obtain ⟨_, f65, h⟩ := bO_some h
        obtain ⟨v65, M65, e65, h⟩ := bP_some h
        refine ww_callVI0 65 X dX13_agreed_65 mY_X13_says mL_X13_803 (rcv_spec f65) ⟨_, _, rfl⟩ (by decide) (As := [.int l1, .int v59, .ref (G.1 92)]) (rest := []) rfl rfl ⟨Nat.le_of_ble_eq_true rfl, Nat.le_of_ble_eq_true rfl⟩ (Nat.le_of_ble_eq_true rfl) (fun l D A => c_X13_says l D A e65) ?_
        refine ww_if_eq 68 75 X dX13_agreed_68 (by decide) (fun q => ?_) (fun q => ?_)
        · replace h := (if_pos q).symm.trans h
          refine ww_iconst 75 X (v := (0 : Int32)) dX13_agreed_75 (by decide) ?_
          exact (wB_X13_agreed_76 X hQ h)
        · replace h := (if_neg q).symm.trans h
          refine ww_iconst 71 X (v := (1 : Int32)) dX13_agreed_71 (by decide) ?_
          refine ww_goto 72 76 X dX13_agreed_72 (by decide) ?_
          exact (wB_X13_agreed_76 X hQ h)
theorem c_X13_agreed {G : mG} {F sz : Nat} {r0 : Int32} {M0 : mM} (l : Launch) (D : mD) (A : Nat → Prop) {l0 : Nat} {l1 : Int32} {M : mM} (h : P_X13_agreed G F l0 l1 M = some (r0, M0)) : mMetI l D G A yX13_agreed cX13_agreed 4 (some .int) 7 160 0 0 [.ref l0, .int l1] M sz r0 M0 sz := mMetI_of l D G A (by decide) (Nat.le_of_ble_eq_true rfl) (fun x X hQ => wP_X13_agreed X hQ h)
/-! SealedTokensModel.headOf([BIIZ)I -/
theorem dX13_headOf_0 : decode cX13_headOf 0 = .ok (.iconst 1, 1) := by decide +kernel
theorem dX13_headOf_1 : decode cX13_headOf 1 = .ok (.aload_n 0, 1) := by decide +kernel
theorem dX13_headOf_2 : decode cX13_headOf 2 = .ok (.getfield 449, 3) := by decide +kernel
theorem dX13_headOf_5 : decode cX13_headOf 5 = .ok (.isub, 1) := by decide +kernel
theorem dX13_headOf_6 : decode cX13_headOf 6 = .ok (.istore 5, 2) := by decide +kernel
theorem dX13_headOf_8 : decode cX13_headOf 8 = .ok (.aload_n 0, 1) := by decide +kernel
theorem dX13_headOf_9 : decode cX13_headOf 9 = .ok (.aload_n 1, 1) := by decide +kernel
theorem dX13_headOf_10 : decode cX13_headOf 10 = .ok (.iload_n 2, 1) := by decide +kernel
theorem dX13_headOf_11 : decode cX13_headOf 11 = .ok (.iload_n 3, 1) := by decide +kernel
theorem dX13_headOf_12 : decode cX13_headOf 12 = .ok (.iload 5, 2) := by decide +kernel
theorem dX13_headOf_14 : decode cX13_headOf 14 = .ok (.invokevirtual 452, 3) := by decide +kernel
theorem dX13_headOf_17 : decode cX13_headOf 17 = .ok (.ifCond .ne 6, 3) := by decide +kernel
theorem dX13_headOf_20 : decode cX13_headOf 20 = .ok (.bipush (-22), 2) := by decide +kernel
theorem dX13_headOf_22 : decode cX13_headOf 22 = .ok (.ireturn, 1) := by decide +kernel
theorem dX13_headOf_23 : decode cX13_headOf 23 = .ok (.aload_n 0, 1) := by decide +kernel
theorem dX13_headOf_24 : decode cX13_headOf 24 = .ok (.getfield 24, 3) := by decide +kernel
theorem dX13_headOf_27 : decode cX13_headOf 27 = .ok (.sipush 600, 3) := by decide +kernel
theorem dX13_headOf_30 : decode cX13_headOf 30 = .ok (.iload 5, 2) := by decide +kernel
theorem dX13_headOf_32 : decode cX13_headOf 32 = .ok (.imul, 1) := by decide +kernel
theorem dX13_headOf_33 : decode cX13_headOf 33 = .ok (.iaload, 1) := by decide +kernel
theorem dX13_headOf_34 : decode cX13_headOf 34 = .ok (.bipush 6, 2) := by decide +kernel
theorem dX13_headOf_36 : decode cX13_headOf 36 = .ok (.if_icmp .eq 6, 3) := by decide +kernel
theorem dX13_headOf_39 : decode cX13_headOf 39 = .ok (.bipush (-23), 2) := by decide +kernel
theorem dX13_headOf_41 : decode cX13_headOf 41 = .ok (.ireturn, 1) := by decide +kernel
theorem dX13_headOf_42 : decode cX13_headOf 42 = .ok (.aload_n 0, 1) := by decide +kernel
theorem dX13_headOf_43 : decode cX13_headOf 43 = .ok (.iload 5, 2) := by decide +kernel
theorem dX13_headOf_45 : decode cX13_headOf 45 = .ok (.iconst 0, 1) := by decide +kernel
theorem dX13_headOf_46 : decode cX13_headOf 46 = .ok (.ldc_w 816, 3) := by decide +kernel
theorem dX13_headOf_49 : decode cX13_headOf 49 = .ok (.invokevirtual 796, 3) := by decide +kernel
theorem dX13_headOf_52 : decode cX13_headOf 52 = .ok (.istore 6, 2) := by decide +kernel
theorem dX13_headOf_54 : decode cX13_headOf 54 = .ok (.aload_n 0, 1) := by decide +kernel
theorem dX13_headOf_55 : decode cX13_headOf 55 = .ok (.iload 5, 2) := by decide +kernel
theorem dX13_headOf_57 : decode cX13_headOf 57 = .ok (.iconst 0, 1) := by decide +kernel
theorem dX13_headOf_58 : decode cX13_headOf 58 = .ok (.ldc_w 865, 3) := by decide +kernel
theorem dX13_headOf_61 : decode cX13_headOf 61 = .ok (.invokevirtual 796, 3) := by decide +kernel
theorem dX13_headOf_64 : decode cX13_headOf 64 = .ok (.istore 7, 2) := by decide +kernel
theorem dX13_headOf_66 : decode cX13_headOf 66 = .ok (.aload_n 0, 1) := by decide +kernel
theorem dX13_headOf_67 : decode cX13_headOf 67 = .ok (.iload 5, 2) := by decide +kernel
theorem dX13_headOf_69 : decode cX13_headOf 69 = .ok (.iconst 0, 1) := by decide +kernel
theorem dX13_headOf_70 : decode cX13_headOf 70 = .ok (.ldc_w 810, 3) := by decide +kernel
theorem dX13_headOf_73 : decode cX13_headOf 73 = .ok (.invokevirtual 796, 3) := by decide +kernel
theorem dX13_headOf_76 : decode cX13_headOf 76 = .ok (.istore 8, 2) := by decide +kernel
theorem dX13_headOf_78 : decode cX13_headOf 78 = .ok (.aload_n 0, 1) := by decide +kernel
theorem dX13_headOf_79 : decode cX13_headOf 79 = .ok (.iload 5, 2) := by decide +kernel
theorem dX13_headOf_81 : decode cX13_headOf 81 = .ok (.iconst 0, 1) := by decide +kernel
theorem dX13_headOf_82 : decode cX13_headOf 82 = .ok (.ldc_w 899, 3) := by decide +kernel
theorem dX13_headOf_85 : decode cX13_headOf 85 = .ok (.invokevirtual 796, 3) := by decide +kernel
theorem dX13_headOf_88 : decode cX13_headOf 88 = .ok (.istore 9, 2) := by decide +kernel
theorem dX13_headOf_90 : decode cX13_headOf 90 = .ok (.aload_n 0, 1) := by decide +kernel
theorem dX13_headOf_91 : decode cX13_headOf 91 = .ok (.iload 5, 2) := by decide +kernel
theorem dX13_headOf_93 : decode cX13_headOf 93 = .ok (.iload 6, 2) := by decide +kernel
theorem dX13_headOf_95 : decode cX13_headOf 95 = .ok (.invokevirtual 792, 3) := by decide +kernel
theorem dX13_headOf_98 : decode cX13_headOf 98 = .ok (.ifCond .eq 55, 3) := by decide +kernel
theorem dX13_headOf_101 : decode cX13_headOf 101 = .ok (.iload 4, 2) := by decide +kernel
theorem dX13_headOf_103 : decode cX13_headOf 103 = .ok (.ifCond .eq 14, 3) := by decide +kernel
theorem dX13_headOf_106 : decode cX13_headOf 106 = .ok (.aload_n 0, 1) := by decide +kernel
theorem dX13_headOf_107 : decode cX13_headOf 107 = .ok (.iload 5, 2) := by decide +kernel
theorem dX13_headOf_109 : decode cX13_headOf 109 = .ok (.iload 7, 2) := by decide +kernel
theorem dX13_headOf_111 : decode cX13_headOf 111 = .ok (.invokevirtual 792, 3) := by decide +kernel
theorem dX13_headOf_114 : decode cX13_headOf 114 = .ok (.ifCond .eq 39, 3) := by decide +kernel
theorem dX13_headOf_117 : decode cX13_headOf 117 = .ok (.iload 8, 2) := by decide +kernel
theorem dX13_headOf_119 : decode cX13_headOf 119 = .ok (.ifCond .lt 14, 3) := by decide +kernel
theorem dX13_headOf_122 : decode cX13_headOf 122 = .ok (.aload_n 0, 1) := by decide +kernel
theorem dX13_headOf_123 : decode cX13_headOf 123 = .ok (.iload 5, 2) := by decide +kernel
theorem dX13_headOf_125 : decode cX13_headOf 125 = .ok (.iload 8, 2) := by decide +kernel
theorem dX13_headOf_127 : decode cX13_headOf 127 = .ok (.invokevirtual 792, 3) := by decide +kernel
theorem dX13_headOf_130 : decode cX13_headOf 130 = .ok (.ifCond .eq 23, 3) := by decide +kernel
theorem dX13_headOf_133 : decode cX13_headOf 133 = .ok (.iload 9, 2) := by decide +kernel
theorem dX13_headOf_135 : decode cX13_headOf 135 = .ok (.ifCond .lt 14, 3) := by decide +kernel
theorem dX13_headOf_138 : decode cX13_headOf 138 = .ok (.aload_n 0, 1) := by decide +kernel
theorem dX13_headOf_139 : decode cX13_headOf 139 = .ok (.iload 5, 2) := by decide +kernel
theorem dX13_headOf_141 : decode cX13_headOf 141 = .ok (.iload 9, 2) := by decide +kernel
theorem dX13_headOf_143 : decode cX13_headOf 143 = .ok (.invokevirtual 901, 3) := by decide +kernel
theorem dX13_headOf_146 : decode cX13_headOf 146 = .ok (.ifCond .eq 7, 3) := by decide +kernel
theorem dX13_headOf_149 : decode cX13_headOf 149 = .ok (.iconst 1, 1) := by decide +kernel
theorem dX13_headOf_150 : decode cX13_headOf 150 = .ok (.goto 4, 3) := by decide +kernel
theorem dX13_headOf_153 : decode cX13_headOf 153 = .ok (.iconst 0, 1) := by decide +kernel
theorem dX13_headOf_154 : decode cX13_headOf 154 = .ok (.istore 10, 2) := by decide +kernel
theorem dX13_headOf_156 : decode cX13_headOf 156 = .ok (.iload 10, 2) := by decide +kernel
theorem dX13_headOf_158 : decode cX13_headOf 158 = .ok (.ifCond .eq 21, 3) := by decide +kernel
theorem dX13_headOf_161 : decode cX13_headOf 161 = .ok (.iload 4, 2) := by decide +kernel
theorem dX13_headOf_163 : decode cX13_headOf 163 = .ok (.ifCond .eq 19, 3) := by decide +kernel
theorem dX13_headOf_166 : decode cX13_headOf 166 = .ok (.aload_n 0, 1) := by decide +kernel
theorem dX13_headOf_167 : decode cX13_headOf 167 = .ok (.iload 5, 2) := by decide +kernel
theorem dX13_headOf_169 : decode cX13_headOf 169 = .ok (.iconst 0, 1) := by decide +kernel
theorem dX13_headOf_170 : decode cX13_headOf 170 = .ok (.ldc_w 904, 3) := by decide +kernel
theorem dX13_headOf_173 : decode cX13_headOf 173 = .ok (.invokevirtual 796, 3) := by decide +kernel
theorem dX13_headOf_176 : decode cX13_headOf 176 = .ok (.ifCond .lt 6, 3) := by decide +kernel
theorem dX13_headOf_179 : decode cX13_headOf 179 = .ok (.bipush (-23), 2) := by decide +kernel
theorem dX13_headOf_181 : decode cX13_headOf 181 = .ok (.ireturn, 1) := by decide +kernel
theorem dX13_headOf_182 : decode cX13_headOf 182 = .ok (.aload_n 0, 1) := by decide +kernel
theorem dX13_headOf_183 : decode cX13_headOf 183 = .ok (.iconst 0, 1) := by decide +kernel
theorem dX13_headOf_184 : decode cX13_headOf 184 = .ok (.putfield 906, 3) := by decide +kernel
theorem dX13_headOf_187 : decode cX13_headOf 187 = .ok (.iload 9, 2) := by decide +kernel
theorem dX13_headOf_189 : decode cX13_headOf 189 = .ok (.ifCond .lt 22, 3) := by decide +kernel
theorem dX13_headOf_192 : decode cX13_headOf 192 = .ok (.iload 4, 2) := by decide +kernel
theorem dX13_headOf_194 : decode cX13_headOf 194 = .ok (.ifCond .ne 14, 3) := by decide +kernel
theorem dX13_headOf_197 : decode cX13_headOf 197 = .ok (.aload_n 0, 1) := by decide +kernel
theorem dX13_headOf_198 : decode cX13_headOf 198 = .ok (.iload 5, 2) := by decide +kernel
theorem dX13_headOf_200 : decode cX13_headOf 200 = .ok (.iload 9, 2) := by decide +kernel
theorem dX13_headOf_202 : decode cX13_headOf 202 = .ok (.invokevirtual 909, 3) := by decide +kernel
theorem dX13_headOf_205 : decode cX13_headOf 205 = .ok (.ifCond .ne 6, 3) := by decide +kernel
theorem dX13_headOf_208 : decode cX13_headOf 208 = .ok (.bipush (-24), 2) := by decide +kernel
theorem dX13_headOf_210 : decode cX13_headOf 210 = .ok (.ireturn, 1) := by decide +kernel
theorem dX13_headOf_211 : decode cX13_headOf 211 = .ok (.aload_n 0, 1) := by decide +kernel
theorem dX13_headOf_212 : decode cX13_headOf 212 = .ok (.aload_n 0, 1) := by decide +kernel
theorem dX13_headOf_213 : decode cX13_headOf 213 = .ok (.iload 5, 2) := by decide +kernel
theorem dX13_headOf_215 : decode cX13_headOf 215 = .ok (.iload 6, 2) := by decide +kernel
theorem dX13_headOf_217 : decode cX13_headOf 217 = .ok (.iload 4, 2) := by decide +kernel
theorem dX13_headOf_219 : decode cX13_headOf 219 = .ok (.ifCond .eq 9, 3) := by decide +kernel
theorem dX13_headOf_222 : decode cX13_headOf 222 = .ok (.ldc_w 912, 3) := by decide +kernel
theorem dX13_headOf_225 : decode cX13_headOf 225 = .ok (.goto 6, 3) := by decide +kernel
theorem dX13_headOf_228 : decode cX13_headOf 228 = .ok (.ldc_w 914, 3) := by decide +kernel
theorem dX13_headOf_231 : decode cX13_headOf 231 = .ok (.invokevirtual 916, 3) := by decide +kernel
theorem dX13_headOf_234 : decode cX13_headOf 234 = .ok (.putfield 919, 3) := by decide +kernel
theorem dX13_headOf_237 : decode cX13_headOf 237 = .ok (.aload_n 0, 1) := by decide +kernel
theorem dX13_headOf_238 : decode cX13_headOf 238 = .ok (.iload 4, 2) := by decide +kernel
theorem dX13_headOf_240 : decode cX13_headOf 240 = .ok (.ifCond .eq 17, 3) := by decide +kernel
theorem dX13_headOf_243 : decode cX13_headOf 243 = .ok (.aload_n 0, 1) := by decide +kernel
theorem dX13_headOf_244 : decode cX13_headOf 244 = .ok (.iload 5, 2) := by decide +kernel
theorem dX13_headOf_246 : decode cX13_headOf 246 = .ok (.iload 7, 2) := by decide +kernel
theorem dX13_headOf_248 : decode cX13_headOf 248 = .ok (.ldc_w 922, 3) := by decide +kernel
theorem dX13_headOf_251 : decode cX13_headOf 251 = .ok (.invokevirtual 916, 3) := by decide +kernel
theorem dX13_headOf_254 : decode cX13_headOf 254 = .ok (.goto 4, 3) := by decide +kernel
theorem dX13_headOf_257 : decode cX13_headOf 257 = .ok (.iconst 0, 1) := by decide +kernel
theorem dX13_headOf_258 : decode cX13_headOf 258 = .ok (.putfield 924, 3) := by decide +kernel
theorem dX13_headOf_261 : decode cX13_headOf 261 = .ok (.aload_n 0, 1) := by decide +kernel
theorem dX13_headOf_262 : decode cX13_headOf 262 = .ok (.iload 8, 2) := by decide +kernel
theorem dX13_headOf_264 : decode cX13_headOf 264 = .ok (.ifCond .ge 7, 3) := by decide +kernel
theorem dX13_headOf_267 : decode cX13_headOf 267 = .ok (.iconst 0, 1) := by decide +kernel
theorem dX13_headOf_268 : decode cX13_headOf 268 = .ok (.goto 17, 3) := by decide +kernel
theorem dX13_headOf_271 : decode cX13_headOf 271 = .ok (.aload_n 0, 1) := by decide +kernel
theorem dX13_headOf_272 : decode cX13_headOf 272 = .ok (.getfield 39, 3) := by decide +kernel
theorem dX13_headOf_275 : decode cX13_headOf 275 = .ok (.sipush 600, 3) := by decide +kernel
theorem dX13_headOf_278 : decode cX13_headOf 278 = .ok (.iload 5, 2) := by decide +kernel
theorem dX13_headOf_280 : decode cX13_headOf 280 = .ok (.imul, 1) := by decide +kernel
theorem dX13_headOf_281 : decode cX13_headOf 281 = .ok (.iload 8, 2) := by decide +kernel
theorem dX13_headOf_283 : decode cX13_headOf 283 = .ok (.iadd, 1) := by decide +kernel
theorem dX13_headOf_284 : decode cX13_headOf 284 = .ok (.iaload, 1) := by decide +kernel
theorem dX13_headOf_285 : decode cX13_headOf 285 = .ok (.putfield 927, 3) := by decide +kernel
theorem dX13_headOf_288 : decode cX13_headOf 288 = .ok (.aload_n 0, 1) := by decide +kernel
theorem dX13_headOf_289 : decode cX13_headOf 289 = .ok (.iload 8, 2) := by decide +kernel
theorem dX13_headOf_291 : decode cX13_headOf 291 = .ok (.ifCond .ge 7, 3) := by decide +kernel
theorem dX13_headOf_294 : decode cX13_headOf 294 = .ok (.iconst (-1), 1) := by decide +kernel
theorem dX13_headOf_295 : decode cX13_headOf 295 = .ok (.goto 17, 3) := by decide +kernel
theorem dX13_headOf_298 : decode cX13_headOf 298 = .ok (.aload_n 0, 1) := by decide +kernel
theorem dX13_headOf_299 : decode cX13_headOf 299 = .ok (.getfield 42, 3) := by decide +kernel
theorem dX13_headOf_302 : decode cX13_headOf 302 = .ok (.sipush 600, 3) := by decide +kernel
theorem dX13_headOf_305 : decode cX13_headOf 305 = .ok (.iload 5, 2) := by decide +kernel
theorem dX13_headOf_307 : decode cX13_headOf 307 = .ok (.imul, 1) := by decide +kernel
theorem dX13_headOf_308 : decode cX13_headOf 308 = .ok (.iload 8, 2) := by decide +kernel
theorem dX13_headOf_310 : decode cX13_headOf 310 = .ok (.iadd, 1) := by decide +kernel
theorem dX13_headOf_311 : decode cX13_headOf 311 = .ok (.iaload, 1) := by decide +kernel
theorem dX13_headOf_312 : decode cX13_headOf 312 = .ok (.putfield 930, 3) := by decide +kernel
theorem dX13_headOf_315 : decode cX13_headOf 315 = .ok (.aload_n 0, 1) := by decide +kernel
theorem dX13_headOf_316 : decode cX13_headOf 316 = .ok (.getfield 919, 3) := by decide +kernel
theorem dX13_headOf_319 : decode cX13_headOf 319 = .ok (.ifCond .lt 10, 3) := by decide +kernel
theorem dX13_headOf_322 : decode cX13_headOf 322 = .ok (.aload_n 0, 1) := by decide +kernel
theorem dX13_headOf_323 : decode cX13_headOf 323 = .ok (.getfield 924, 3) := by decide +kernel
theorem dX13_headOf_326 : decode cX13_headOf 326 = .ok (.ifCond .ge 6, 3) := by decide +kernel
theorem dX13_headOf_329 : decode cX13_headOf 329 = .ok (.bipush (-25), 2) := by decide +kernel
theorem dX13_headOf_331 : decode cX13_headOf 331 = .ok (.ireturn, 1) := by decide +kernel
theorem dX13_headOf_332 : decode cX13_headOf 332 = .ok (.iload 4, 2) := by decide +kernel
theorem dX13_headOf_334 : decode cX13_headOf 334 = .ok (.ifCond .eq 20, 3) := by decide +kernel
theorem dX13_headOf_337 : decode cX13_headOf 337 = .ok (.aload_n 0, 1) := by decide +kernel
theorem dX13_headOf_338 : decode cX13_headOf 338 = .ok (.getfield 919, 3) := by decide +kernel
theorem dX13_headOf_341 : decode cX13_headOf 341 = .ok (.iconst 3, 1) := by decide +kernel
theorem dX13_headOf_342 : decode cX13_headOf 342 = .ok (.if_icmp .le 12, 3) := by decide +kernel
theorem dX13_headOf_345 : decode cX13_headOf 345 = .ok (.aload_n 0, 1) := by decide +kernel
theorem dX13_headOf_346 : decode cX13_headOf 346 = .ok (.iload 5, 2) := by decide +kernel
theorem dX13_headOf_348 : decode cX13_headOf 348 = .ok (.invokevirtual 933, 3) := by decide +kernel
theorem dX13_headOf_351 : decode cX13_headOf 351 = .ok (.goto 4, 3) := by decide +kernel
theorem dX13_headOf_354 : decode cX13_headOf 354 = .ok (.iconst 0, 1) := by decide +kernel
theorem dX13_headOf_355 : decode cX13_headOf 355 = .ok (.ireturn, 1) := by decide +kernel
abbrev rmX13_headOf : Room := { frames := 362, cells := 0, slots := 0, locals := 8556 }
set_option maxHeartbeats 4000000 in
set_option maxRecDepth 100000 in
theorem wB_X13_headOf_312 {G : mG} {F : Nat} {x : mXT} {sz : Nat} {r0 : Int32} {M0 : mM} (X : mCX G RX13 cX13_headOf 11 (some .int) "headOf" rmX13_headOf x) (hQ : mQI x r0 M0 (sz, 0, 0)) {l0 : Nat} {l4 : Int32} {l5 : Int32} {sk0 : Nat} {sk1 : Int32} {M : mM} (h : B_X13_headOf_312 G F l0 l4 l5 sk0 sk1 M = some (r0, M0)) : WW x (sz, 0, 0) M 312 [(0, .ref l0), (4, .int l4), (5, .int l5)] [.int sk1, .ref sk0] := by
  unfold B_X13_headOf_312 at h
  obtain ⟨M312, e312, h⟩ := bO_some h
  refine ww_putI 312 X dX13_headOf_312 (fP_X13_930 _) e312 ?_
  refine ww_aload_n 315 X dX13_headOf_315 0 rfl rfl ?_
  obtain ⟨v316, e316, h⟩ := bO_some h
  refine ww_getI 316 X dX13_headOf_316 fG_X13_919 e316 ?_
  refine ww_if_lt 319 329 X dX13_headOf_319 (by decide) (fun q => ?_) (fun q => ?_)
  · replace h := (if_pos q).symm.trans h
    refine ww_bipush 329 X (v := (-25 : Int32)) dX13_headOf_329 (by decide) ?_
    exact ww_iretE 331 X hQ dX13_headOf_331 h
  · replace h := (if_neg q).symm.trans h
    refine ww_aload_n 322 X dX13_headOf_322 0 rfl rfl ?_
    obtain ⟨v323, e323, h⟩ := bO_some h
    refine ww_getI 323 X dX13_headOf_323 fG_X13_924 e323 ?_
    refine ww_if_ge 326 332 X dX13_headOf_326 (by decide) (fun q => ?_) (fun q => ?_)
    · replace h := (if_pos q).symm.trans h
      refine ww_iload 332 X dX13_headOf_332 1 rfl ?_
      refine ww_if_eq 334 354 X dX13_headOf_334 (by decide) (fun q => ?_) (fun q => ?_)
      · replace h := (if_pos q).symm.trans h
        refine ww_iconst 354 X (v := (0 : Int32)) dX13_headOf_354 (by decide) ?_
        exact ww_iretE 355 X hQ dX13_headOf_355 h
      · replace h := (if_neg q).symm.trans h
        refine ww_aload_n 337 X dX13_headOf_337 0 rfl rfl ?_
        obtain ⟨v338, e338, h⟩ := bO_some h
        refine ww_getI 338 X dX13_headOf_338 fG_X13_919 e338 ?_
        refine ww_iconst 341 X (v := (3 : Int32)) dX13_headOf_341 (by decide) ?_
        refine ww_icmp_le 342 354 X dX13_headOf_342 (by decide) (fun q => ?_) (fun q => ?_)
        · replace h := (if_pos q).symm.trans h
          refine ww_iconst 354 X (v := (0 : Int32)) dX13_headOf_354 (by decide) ?_
          exact ww_iretE 355 X hQ dX13_headOf_355 h
        · replace h := (if_neg q).symm.trans h
          refine ww_aload_n 345 X dX13_headOf_345 0 rfl rfl ?_
          refine ww_iload 346 X dX13_headOf_346 2 rfl ?_
          obtain ⟨_, f348, h⟩ := bO_some h
          obtain ⟨v348, M348, e348, h⟩ := bP_some h
          refine ww_callVI0 348 X dX13_headOf_348 mY_X13_agreed mL_X13_933 (rcv_spec f348) ⟨_, _, rfl⟩ (by decide) (As := [.int l5]) (rest := []) rfl rfl ⟨Nat.le_of_ble_eq_true rfl, Nat.le_of_ble_eq_true rfl⟩ (Nat.le_of_ble_eq_true rfl) (fun l D A => c_X13_agreed l D A e348) ?_
          refine ww_goto 351 355 X dX13_headOf_351 (by decide) ?_
          exact ww_iretE 355 X hQ dX13_headOf_355 h
    · replace h := (if_neg q).symm.trans h
      refine ww_bipush 329 X (v := (-25 : Int32)) dX13_headOf_329 (by decide) ?_
      exact ww_iretE 331 X hQ dX13_headOf_331 h
set_option maxHeartbeats 4000000 in
set_option maxRecDepth 100000 in
theorem wB_X13_headOf_285 {G : mG} {F : Nat} {x : mXT} {sz : Nat} {r0 : Int32} {M0 : mM} (X : mCX G RX13 cX13_headOf 11 (some .int) "headOf" rmX13_headOf x) (hQ : mQI x r0 M0 (sz, 0, 0)) {l0 : Nat} {l4 : Int32} {l5 : Int32} {l8 : Int32} {sk0 : Nat} {sk1 : Int32} {M : mM} (h : B_X13_headOf_285 G F l0 l4 l5 l8 sk0 sk1 M = some (r0, M0)) : WW x (sz, 0, 0) M 285 [(0, .ref l0), (4, .int l4), (5, .int l5), (8, .int l8)] [.int sk1, .ref sk0] := by
  unfold B_X13_headOf_285 at h
  obtain ⟨M285, e285, h⟩ := bO_some h
  refine ww_putI 285 X dX13_headOf_285 (fP_X13_927 _) e285 ?_
  refine ww_aload_n 288 X dX13_headOf_288 0 rfl rfl ?_
  refine ww_iload 289 X dX13_headOf_289 3 rfl ?_
  refine ww_if_ge 291 298 X dX13_headOf_291 (by decide) (fun q => ?_) (fun q => ?_)
  · replace h := (if_pos q).symm.trans h
    refine ww_aload_n 298 X dX13_headOf_298 0 rfl rfl ?_
    obtain ⟨v299, e299, h⟩ := bO_some h
    refine ww_getR 299 X dX13_headOf_299 fG_X13_42 e299 ?_
    refine ww_sipush 302 X (v := (600 : Int32)) dX13_headOf_302 (by decide) ?_
    refine ww_iload 305 X dX13_headOf_305 2 rfl ?_
    refine ww_imul 307 X dX13_headOf_307 ?_
    refine ww_iload 308 X dX13_headOf_308 3 rfl ?_
    refine ww_iadd 310 X dX13_headOf_310 ?_
    obtain ⟨v311, e311, h⟩ := bO_some h
    refine ww_iald 311 X dX13_headOf_311 e311 ?_
    exact ww_sub [0, 1, 2] rfl (wB_X13_headOf_312 X hQ h)
  · replace h := (if_neg q).symm.trans h
    refine ww_iconst 294 X (v := (-1 : Int32)) dX13_headOf_294 (by decide) ?_
    refine ww_goto 295 312 X dX13_headOf_295 (by decide) ?_
    exact ww_sub [0, 1, 2] rfl (wB_X13_headOf_312 X hQ h)
set_option maxHeartbeats 4000000 in
set_option maxRecDepth 100000 in
theorem wB_X13_headOf_258 {G : mG} {F : Nat} {x : mXT} {sz : Nat} {r0 : Int32} {M0 : mM} (X : mCX G RX13 cX13_headOf 11 (some .int) "headOf" rmX13_headOf x) (hQ : mQI x r0 M0 (sz, 0, 0)) {l0 : Nat} {l4 : Int32} {l5 : Int32} {l8 : Int32} {sk0 : Nat} {sk1 : Int32} {M : mM} (h : B_X13_headOf_258 G F l0 l4 l5 l8 sk0 sk1 M = some (r0, M0)) : WW x (sz, 0, 0) M 258 [(0, .ref l0), (4, .int l4), (5, .int l5), (8, .int l8)] [.int sk1, .ref sk0] := by
  unfold B_X13_headOf_258 at h
  obtain ⟨M258, e258, h⟩ := bO_some h
  refine ww_putI 258 X dX13_headOf_258 (fP_X13_924 _) e258 ?_
  refine ww_aload_n 261 X dX13_headOf_261 0 rfl rfl ?_
  refine ww_iload 262 X dX13_headOf_262 3 rfl ?_
  refine ww_if_ge 264 271 X dX13_headOf_264 (by decide) (fun q => ?_) (fun q => ?_)
  · replace h := (if_pos q).symm.trans h
    refine ww_aload_n 271 X dX13_headOf_271 0 rfl rfl ?_
    obtain ⟨v272, e272, h⟩ := bO_some h
    refine ww_getR 272 X dX13_headOf_272 fG_X13_39 e272 ?_
    refine ww_sipush 275 X (v := (600 : Int32)) dX13_headOf_275 (by decide) ?_
    refine ww_iload 278 X dX13_headOf_278 2 rfl ?_
    refine ww_imul 280 X dX13_headOf_280 ?_
    refine ww_iload 281 X dX13_headOf_281 3 rfl ?_
    refine ww_iadd 283 X dX13_headOf_283 ?_
    obtain ⟨v284, e284, h⟩ := bO_some h
    refine ww_iald 284 X dX13_headOf_284 e284 ?_
    exact (wB_X13_headOf_285 X hQ h)
  · replace h := (if_neg q).symm.trans h
    refine ww_iconst 267 X (v := (0 : Int32)) dX13_headOf_267 (by decide) ?_
    refine ww_goto 268 285 X dX13_headOf_268 (by decide) ?_
    exact (wB_X13_headOf_285 X hQ h)
set_option maxHeartbeats 4000000 in
set_option maxRecDepth 100000 in
theorem wB_X13_headOf_231 {G : mG} {F : Nat} {x : mXT} {sz : Nat} {r0 : Int32} {M0 : mM} (X : mCX G RX13 cX13_headOf 11 (some .int) "headOf" rmX13_headOf x) (hQ : mQI x r0 M0 (sz, 0, 0)) {l0 : Nat} {l4 : Int32} {l5 : Int32} {l7 : Int32} {l8 : Int32} {sk0 : Nat} {sk1 : Nat} {sk2 : Int32} {sk3 : Int32} {sk4 : Nat} {M : mM} (h : B_X13_headOf_231 G F l0 l4 l5 l7 l8 sk0 sk1 sk2 sk3 sk4 M = some (r0, M0)) : WW x (sz, 0, 0) M 231 [(0, .ref l0), (4, .int l4), (5, .int l5), (7, .int l7), (8, .int l8)] [.ref sk4, .int sk3, .int sk2, .ref sk1, .ref sk0] := by
  unfold B_X13_headOf_231 at h
  obtain ⟨_, f231, h⟩ := bO_some h
  obtain ⟨v231, M231, e231, h⟩ := bP_some h
  refine ww_callVI0 231 X dX13_headOf_231 mY_X13_wordAt mL_X13_916 (rcv_spec f231) ⟨_, _, rfl⟩ (by decide) (As := [.int sk2, .int sk3, .ref sk4]) (rest := [.ref sk0]) rfl rfl ⟨Nat.le_of_ble_eq_true rfl, Nat.le_of_ble_eq_true rfl⟩ (Nat.le_of_ble_eq_true rfl) (fun l D A => c_X13_wordAt l D A e231) ?_
  obtain ⟨M234, e234, h⟩ := bO_some h
  refine ww_putI 234 X dX13_headOf_234 (fP_X13_919 _) e234 ?_
  refine ww_aload_n 237 X dX13_headOf_237 0 rfl rfl ?_
  refine ww_iload 238 X dX13_headOf_238 1 rfl ?_
  refine ww_if_eq 240 257 X dX13_headOf_240 (by decide) (fun q => ?_) (fun q => ?_)
  · replace h := (if_pos q).symm.trans h
    refine ww_iconst 257 X (v := (0 : Int32)) dX13_headOf_257 (by decide) ?_
    exact ww_sub [0, 1, 2, 4] rfl (wB_X13_headOf_258 X hQ h)
  · replace h := (if_neg q).symm.trans h
    refine ww_aload_n 243 X dX13_headOf_243 0 rfl rfl ?_
    refine ww_iload 244 X dX13_headOf_244 2 rfl ?_
    refine ww_iload 246 X dX13_headOf_246 3 rfl ?_
    refine ww_ldsw 248 X (j := 111) dX13_headOf_248 rfl ?_
    obtain ⟨_, f251, h⟩ := bO_some h
    obtain ⟨v251, M251, e251, h⟩ := bP_some h
    refine ww_callVI0 251 X dX13_headOf_251 mY_X13_wordAt mL_X13_916 (rcv_spec f251) ⟨_, _, rfl⟩ (by decide) (As := [.int l5, .int l7, .ref (G.1 111)]) (rest := [.ref l0]) rfl rfl ⟨Nat.le_of_ble_eq_true rfl, Nat.le_of_ble_eq_true rfl⟩ (Nat.le_of_ble_eq_true rfl) (fun l D A => c_X13_wordAt l D A e251) ?_
    refine ww_goto 254 258 X dX13_headOf_254 (by decide) ?_
    exact ww_sub [0, 1, 2, 4] rfl (wB_X13_headOf_258 X hQ h)
set_option maxHeartbeats 4000000 in
set_option maxRecDepth 100000 in
theorem wB_X13_headOf_182 {G : mG} {F : Nat} {x : mXT} {sz : Nat} {r0 : Int32} {M0 : mM} (X : mCX G RX13 cX13_headOf 11 (some .int) "headOf" rmX13_headOf x) (hQ : mQI x r0 M0 (sz, 0, 0)) {l0 : Nat} {l4 : Int32} {l5 : Int32} {l6 : Int32} {l7 : Int32} {l8 : Int32} {l9 : Int32} {M : mM} (h : B_X13_headOf_182 G F l0 l4 l5 l6 l7 l8 l9 M = some (r0, M0)) : WW x (sz, 0, 0) M 182 [(0, .ref l0), (4, .int l4), (5, .int l5), (6, .int l6), (7, .int l7), (8, .int l8), (9, .int l9)] [] := by
  unfold B_X13_headOf_182 at h
  refine ww_aload_n 182 X dX13_headOf_182 0 rfl rfl ?_
  refine ww_iconst 183 X (v := (0 : Int32)) dX13_headOf_183 (by decide) ?_
  obtain ⟨M184, e184, h⟩ := bO_some h
  refine ww_putZ 184 X dX13_headOf_184 (fP_X13_906 _) e184 ?_
  refine ww_iload 187 X dX13_headOf_187 6 rfl ?_
  refine ww_if_lt 189 211 X dX13_headOf_189 (by decide) (fun q => ?_) (fun q => ?_)
  · replace h := (if_pos q).symm.trans h
    refine ww_aload_n 211 X dX13_headOf_211 0 rfl rfl ?_
    refine ww_aload_n 212 X dX13_headOf_212 0 rfl rfl ?_
    refine ww_iload 213 X dX13_headOf_213 2 rfl ?_
    refine ww_iload 215 X dX13_headOf_215 3 rfl ?_
    refine ww_iload 217 X dX13_headOf_217 1 rfl ?_
    refine ww_if_eq 219 228 X dX13_headOf_219 (by decide) (fun q => ?_) (fun q => ?_)
    · replace h := (if_pos q).symm.trans h
      refine ww_ldsw 228 X (j := 108) dX13_headOf_228 rfl ?_
      exact ww_sub [0, 1, 2, 4, 5] rfl (wB_X13_headOf_231 X hQ h)
    · replace h := (if_neg q).symm.trans h
      refine ww_ldsw 222 X (j := 117) dX13_headOf_222 rfl ?_
      refine ww_goto 225 231 X dX13_headOf_225 (by decide) ?_
      exact ww_sub [0, 1, 2, 4, 5] rfl (wB_X13_headOf_231 X hQ h)
  · replace h := (if_neg q).symm.trans h
    refine ww_iload 192 X dX13_headOf_192 1 rfl ?_
    refine ww_if_ne 194 208 X dX13_headOf_194 (by decide) (fun q => ?_) (fun q => ?_)
    · replace h := (if_neg q).symm.trans h
      refine ww_bipush 208 X (v := (-24 : Int32)) dX13_headOf_208 (by decide) ?_
      exact ww_iretE 210 X hQ dX13_headOf_210 h
    · replace h := (if_pos q).symm.trans h
      refine ww_aload_n 197 X dX13_headOf_197 0 rfl rfl ?_
      refine ww_iload 198 X dX13_headOf_198 2 rfl ?_
      refine ww_iload 200 X dX13_headOf_200 6 rfl ?_
      obtain ⟨_, f202, h⟩ := bO_some h
      obtain ⟨v202, M202, e202, h⟩ := bP_some h
      refine ww_callVI0 202 X dX13_headOf_202 mY_X13_isKnown mL_X13_909 (rcv_spec f202) ⟨_, _, rfl⟩ (by decide) (As := [.int l5, .int l9]) (rest := []) rfl rfl ⟨Nat.le_of_ble_eq_true rfl, Nat.le_of_ble_eq_true rfl⟩ (Nat.le_of_ble_eq_true rfl) (fun l D A => c_X13_isKnown l D A e202) ?_
      refine ww_if_ne 205 211 X dX13_headOf_205 (by decide) (fun q => ?_) (fun q => ?_)
      · replace h := (if_neg q).symm.trans h
        refine ww_aload_n 211 X dX13_headOf_211 0 rfl rfl ?_
        refine ww_aload_n 212 X dX13_headOf_212 0 rfl rfl ?_
        refine ww_iload 213 X dX13_headOf_213 2 rfl ?_
        refine ww_iload 215 X dX13_headOf_215 3 rfl ?_
        refine ww_iload 217 X dX13_headOf_217 1 rfl ?_
        refine ww_if_eq 219 228 X dX13_headOf_219 (by decide) (fun q => ?_) (fun q => ?_)
        · replace h := (if_pos q).symm.trans h
          refine ww_ldsw 228 X (j := 108) dX13_headOf_228 rfl ?_
          exact ww_sub [0, 1, 2, 4, 5] rfl (wB_X13_headOf_231 X hQ h)
        · replace h := (if_neg q).symm.trans h
          refine ww_ldsw 222 X (j := 117) dX13_headOf_222 rfl ?_
          refine ww_goto 225 231 X dX13_headOf_225 (by decide) ?_
          exact ww_sub [0, 1, 2, 4, 5] rfl (wB_X13_headOf_231 X hQ h)
      · replace h := (if_pos q).symm.trans h
        refine ww_bipush 208 X (v := (-24 : Int32)) dX13_headOf_208 (by decide) ?_
        exact ww_iretE 210 X hQ dX13_headOf_210 h
set_option maxHeartbeats 4000000 in
set_option maxRecDepth 100000 in
theorem wB_X13_headOf_154 {G : mG} {F : Nat} {x : mXT} {sz : Nat} {r0 : Int32} {M0 : mM} (X : mCX G RX13 cX13_headOf 11 (some .int) "headOf" rmX13_headOf x) (hQ : mQI x r0 M0 (sz, 0, 0)) {l0 : Nat} {l4 : Int32} {l5 : Int32} {l6 : Int32} {l7 : Int32} {l8 : Int32} {l9 : Int32} {sk0 : Int32} {M : mM} (h : B_X13_headOf_154 G F l0 l4 l5 l6 l7 l8 l9 sk0 M = some (r0, M0)) : WW x (sz, 0, 0) M 154 [(0, .ref l0), (4, .int l4), (5, .int l5), (6, .int l6), (7, .int l7), (8, .int l8), (9, .int l9)] [.int sk0] := by
  unfold B_X13_headOf_154 at h
  refine ww_istore 154 X dX13_headOf_154 (lv' := [(0, .ref l0), (4, .int l4), (5, .int l5), (6, .int l6), (7, .int l7), (8, .int l8), (9, .int l9), (10, .int sk0)]) (by decide) [1, 2, 3, 4, 5, 6, 7, 0] rfl ?_
  refine ww_iload 156 X dX13_headOf_156 7 rfl ?_
  refine ww_if_eq 158 179 X dX13_headOf_158 (by decide) (fun q => ?_) (fun q => ?_)
  · replace h := (if_pos q).symm.trans h
    refine ww_bipush 179 X (v := (-23 : Int32)) dX13_headOf_179 (by decide) ?_
    exact ww_iretE 181 X hQ dX13_headOf_181 h
  · replace h := (if_neg q).symm.trans h
    refine ww_iload 161 X dX13_headOf_161 1 rfl ?_
    refine ww_if_eq 163 182 X dX13_headOf_163 (by decide) (fun q => ?_) (fun q => ?_)
    · replace h := (if_pos q).symm.trans h
      exact ww_sub [0, 1, 2, 3, 4, 5, 6] rfl (wB_X13_headOf_182 X hQ h)
    · replace h := (if_neg q).symm.trans h
      refine ww_aload_n 166 X dX13_headOf_166 0 rfl rfl ?_
      refine ww_iload 167 X dX13_headOf_167 2 rfl ?_
      refine ww_iconst 169 X (v := (0 : Int32)) dX13_headOf_169 (by decide) ?_
      refine ww_ldsw 170 X (j := 115) dX13_headOf_170 rfl ?_
      obtain ⟨_, f173, h⟩ := bO_some h
      obtain ⟨v173, M173, e173, h⟩ := bP_some h
      refine ww_callVI0 173 X dX13_headOf_173 mY_X13_memberOf mL_X13_796 (rcv_spec f173) ⟨_, _, rfl⟩ (by decide) (As := [.int l5, .int (0 : Int32), .ref (G.1 115)]) (rest := []) rfl rfl ⟨Nat.le_of_ble_eq_true rfl, Nat.le_of_ble_eq_true rfl⟩ (Nat.le_of_ble_eq_true rfl) (fun l D A => c_X13_memberOf l D A e173) ?_
      refine ww_if_lt 176 182 X dX13_headOf_176 (by decide) (fun q => ?_) (fun q => ?_)
      · replace h := (if_pos q).symm.trans h
        exact ww_sub [0, 1, 2, 3, 4, 5, 6] rfl (wB_X13_headOf_182 X hQ h)
      · replace h := (if_neg q).symm.trans h
        refine ww_bipush 179 X (v := (-23 : Int32)) dX13_headOf_179 (by decide) ?_
        exact ww_iretE 181 X hQ dX13_headOf_181 h
set_option maxHeartbeats 4000000 in
set_option maxRecDepth 100000 in
theorem wB_X13_headOf_133 {G : mG} {F : Nat} {x : mXT} {sz : Nat} {r0 : Int32} {M0 : mM} (X : mCX G RX13 cX13_headOf 11 (some .int) "headOf" rmX13_headOf x) (hQ : mQI x r0 M0 (sz, 0, 0)) {l0 : Nat} {l4 : Int32} {l5 : Int32} {l6 : Int32} {l7 : Int32} {l8 : Int32} {l9 : Int32} {M : mM} (h : B_X13_headOf_133 G F l0 l4 l5 l6 l7 l8 l9 M = some (r0, M0)) : WW x (sz, 0, 0) M 133 [(0, .ref l0), (4, .int l4), (5, .int l5), (6, .int l6), (7, .int l7), (8, .int l8), (9, .int l9)] [] := by
  unfold B_X13_headOf_133 at h
  refine ww_iload 133 X dX13_headOf_133 6 rfl ?_
  refine ww_if_lt 135 149 X dX13_headOf_135 (by decide) (fun q => ?_) (fun q => ?_)
  · replace h := (if_pos q).symm.trans h
    refine ww_iconst 149 X (v := (1 : Int32)) dX13_headOf_149 (by decide) ?_
    refine ww_goto 150 154 X dX13_headOf_150 (by decide) ?_
    exact (wB_X13_headOf_154 X hQ h)
  · replace h := (if_neg q).symm.trans h
    refine ww_aload_n 138 X dX13_headOf_138 0 rfl rfl ?_
    refine ww_iload 139 X dX13_headOf_139 2 rfl ?_
    refine ww_iload 141 X dX13_headOf_141 6 rfl ?_
    obtain ⟨_, f143, h⟩ := bO_some h
    obtain ⟨v143, M143, e143, h⟩ := bP_some h
    refine ww_callVI0 143 X dX13_headOf_143 mY_X13_isCrit mL_X13_901 (rcv_spec f143) ⟨_, _, rfl⟩ (by decide) (As := [.int l5, .int l9]) (rest := []) rfl rfl ⟨Nat.le_of_ble_eq_true rfl, Nat.le_of_ble_eq_true rfl⟩ (Nat.le_of_ble_eq_true rfl) (fun l D A => c_X13_isCrit l D A e143) ?_
    refine ww_if_eq 146 153 X dX13_headOf_146 (by decide) (fun q => ?_) (fun q => ?_)
    · replace h := (if_pos q).symm.trans h
      refine ww_iconst 153 X (v := (0 : Int32)) dX13_headOf_153 (by decide) ?_
      exact (wB_X13_headOf_154 X hQ h)
    · replace h := (if_neg q).symm.trans h
      refine ww_iconst 149 X (v := (1 : Int32)) dX13_headOf_149 (by decide) ?_
      refine ww_goto 150 154 X dX13_headOf_150 (by decide) ?_
      exact (wB_X13_headOf_154 X hQ h)
set_option maxHeartbeats 4000000 in
set_option maxRecDepth 100000 in
theorem wP_X13_headOf {G : mG} {F : Nat} {x : mXT} {sz : Nat} {r0 : Int32} {M0 : mM} (X : mCX G RX13 cX13_headOf 11 (some .int) "headOf" rmX13_headOf x) (hQ : mQI x r0 M0 (sz, 0, 0)) {l0 : Nat} {l1 : Nat} {l2 : Int32} {l3 : Int32} {l4 : Int32} {M : mM} (h : P_X13_headOf G F l0 l1 l2 l3 l4 M = some (r0, M0)) : WW x (sz, 0, 0) M 0 [(0, .ref l0), (1, .ref l1), (2, .int l2), (3, .int l3), (4, .int l4)] [] := by
  unfold P_X13_headOf at h
  refine ww_iconst 0 X (v := (1 : Int32)) dX13_headOf_0 (by decide) ?_
  refine ww_aload_n 1 X dX13_headOf_1 0 rfl rfl ?_
  obtain ⟨v2, e2, h⟩ := bO_some h
  refine ww_getI 2 X dX13_headOf_2 fG_X13_449 e2 ?_
  refine ww_isub 5 X dX13_headOf_5 ?_
  refine ww_istore 6 X dX13_headOf_6 (lv' := [(0, .ref l0), (1, .ref l1), (2, .int l2), (3, .int l3), (4, .int l4), (5, .int ((1 : Int32) - v2))]) (by decide) [1, 2, 3, 4, 5, 0] rfl ?_
  refine ww_aload_n 8 X dX13_headOf_8 0 rfl rfl ?_
  refine ww_aload_n 9 X dX13_headOf_9 1 rfl rfl ?_
  refine ww_iload_n 10 X dX13_headOf_10 2 rfl rfl ?_
  refine ww_iload_n 11 X dX13_headOf_11 3 rfl rfl ?_
  refine ww_iload 12 X dX13_headOf_12 5 rfl ?_
  obtain ⟨_, f14, h⟩ := bO_some h
  obtain ⟨v14, M14, e14, h⟩ := bP_some h
  refine ww_callVI0 14 X dX13_headOf_14 mY_X13_read mL_X13_452 (rcv_spec f14) ⟨_, _, rfl⟩ (by decide) (As := [.ref l1, .int l2, .int l3, .int ((1 : Int32) - v2)]) (rest := []) rfl rfl ⟨Nat.le_of_ble_eq_true rfl, Nat.le_of_ble_eq_true rfl⟩ (Nat.le_of_ble_eq_true rfl) (fun l D A => c_X13_read l D A e14) ?_
  refine ww_if_ne 17 23 X dX13_headOf_17 (by decide) (fun q => ?_) (fun q => ?_)
  · replace h := (if_neg q).symm.trans h
    refine ww_aload_n 23 X dX13_headOf_23 0 rfl rfl ?_
    obtain ⟨v24, e24, h⟩ := bO_some h
    refine ww_getR 24 X dX13_headOf_24 fG_X13_24 e24 ?_
    refine ww_sipush 27 X (v := (600 : Int32)) dX13_headOf_27 (by decide) ?_
    refine ww_iload 30 X dX13_headOf_30 5 rfl ?_
    refine ww_imul 32 X dX13_headOf_32 ?_
    obtain ⟨v33, e33, h⟩ := bO_some h
    refine ww_iald 33 X dX13_headOf_33 e33 ?_
    refine ww_bipush 34 X (v := (6 : Int32)) dX13_headOf_34 (by decide) ?_
    refine ww_icmp_eq 36 42 X dX13_headOf_36 (by decide) (fun q => ?_) (fun q => ?_)
    · replace h := (if_pos q).symm.trans h
      refine ww_aload_n 42 X dX13_headOf_42 0 rfl rfl ?_
      refine ww_iload 43 X dX13_headOf_43 5 rfl ?_
      refine ww_iconst 45 X (v := (0 : Int32)) dX13_headOf_45 (by decide) ?_
      refine ww_ldsw 46 X (j := 90) dX13_headOf_46 rfl ?_
      obtain ⟨_, f49, h⟩ := bO_some h
      obtain ⟨v49, M49, e49, h⟩ := bP_some h
      refine ww_callVI0 49 X dX13_headOf_49 mY_X13_memberOf mL_X13_796 (rcv_spec f49) ⟨_, _, rfl⟩ (by decide) (As := [.int ((1 : Int32) - v2), .int (0 : Int32), .ref (G.1 90)]) (rest := []) rfl rfl ⟨Nat.le_of_ble_eq_true rfl, Nat.le_of_ble_eq_true rfl⟩ (Nat.le_of_ble_eq_true rfl) (fun l D A => c_X13_memberOf l D A e49) ?_
      refine ww_istore 52 X dX13_headOf_52 (lv' := [(0, .ref l0), (1, .ref l1), (2, .int l2), (3, .int l3), (4, .int l4), (5, .int ((1 : Int32) - v2)), (6, .int v49)]) (by decide) [1, 2, 3, 4, 5, 6, 0] rfl ?_
      refine ww_aload_n 54 X dX13_headOf_54 0 rfl rfl ?_
      refine ww_iload 55 X dX13_headOf_55 5 rfl ?_
      refine ww_iconst 57 X (v := (0 : Int32)) dX13_headOf_57 (by decide) ?_
      refine ww_ldsw 58 X (j := 100) dX13_headOf_58 rfl ?_
      obtain ⟨_, f61, h⟩ := bO_some h
      obtain ⟨v61, M61, e61, h⟩ := bP_some h
      refine ww_callVI0 61 X dX13_headOf_61 mY_X13_memberOf mL_X13_796 (rcv_spec f61) ⟨_, _, rfl⟩ (by decide) (As := [.int ((1 : Int32) - v2), .int (0 : Int32), .ref (G.1 100)]) (rest := []) rfl rfl ⟨Nat.le_of_ble_eq_true rfl, Nat.le_of_ble_eq_true rfl⟩ (Nat.le_of_ble_eq_true rfl) (fun l D A => c_X13_memberOf l D A e61) ?_
      refine ww_istore 64 X dX13_headOf_64 (lv' := [(0, .ref l0), (1, .ref l1), (2, .int l2), (3, .int l3), (4, .int l4), (5, .int ((1 : Int32) - v2)), (6, .int v49), (7, .int v61)]) (by decide) [1, 2, 3, 4, 5, 6, 7, 0] rfl ?_
      refine ww_aload_n 66 X dX13_headOf_66 0 rfl rfl ?_
      refine ww_iload 67 X dX13_headOf_67 5 rfl ?_
      refine ww_iconst 69 X (v := (0 : Int32)) dX13_headOf_69 (by decide) ?_
      refine ww_ldsw 70 X (j := 88) dX13_headOf_70 rfl ?_
      obtain ⟨_, f73, h⟩ := bO_some h
      obtain ⟨v73, M73, e73, h⟩ := bP_some h
      refine ww_callVI0 73 X dX13_headOf_73 mY_X13_memberOf mL_X13_796 (rcv_spec f73) ⟨_, _, rfl⟩ (by decide) (As := [.int ((1 : Int32) - v2), .int (0 : Int32), .ref (G.1 88)]) (rest := []) rfl rfl ⟨Nat.le_of_ble_eq_true rfl, Nat.le_of_ble_eq_true rfl⟩ (Nat.le_of_ble_eq_true rfl) (fun l D A => c_X13_memberOf l D A e73) ?_
      refine ww_istore 76 X dX13_headOf_76 (lv' := [(0, .ref l0), (1, .ref l1), (2, .int l2), (3, .int l3), (4, .int l4), (5, .int ((1 : Int32) - v2)), (6, .int v49), (7, .int v61), (8, .int v73)]) (by decide) [1, 2, 3, 4, 5, 6, 7, 8, 0] rfl ?_
      refine ww_aload_n 78 X dX13_headOf_78 0 rfl rfl ?_
      refine ww_iload 79 X dX13_headOf_79 5 rfl ?_
      refine ww_iconst 81 X (v := (0 : Int32)) dX13_headOf_81 (by decide) ?_
      refine ww_ldsw 82 X (j := 114) dX13_headOf_82 rfl ?_
      obtain ⟨_, f85, h⟩ := bO_some h
      obtain ⟨v85, M85, e85, h⟩ := bP_some h
      refine ww_callVI0 85 X dX13_headOf_85 mY_X13_memberOf mL_X13_796 (rcv_spec f85) ⟨_, _, rfl⟩ (by decide) (As := [.int ((1 : Int32) - v2), .int (0 : Int32), .ref (G.1 114)]) (rest := []) rfl rfl ⟨Nat.le_of_ble_eq_true rfl, Nat.le_of_ble_eq_true rfl⟩ (Nat.le_of_ble_eq_true rfl) (fun l D A => c_X13_memberOf l D A e85) ?_
      refine ww_istore 88 X dX13_headOf_88 (lv' := [(0, .ref l0), (1, .ref l1), (2, .int l2), (3, .int l3), (4, .int l4), (5, .int ((1 : Int32) - v2)), (6, .int v49), (7, .int v61), (8, .int v73), (9, .int v85)]) (by decide) [1, 2, 3, 4, 5, 6, 7, 8, 9, 0] rfl ?_
      refine ww_aload_n 90 X dX13_headOf_90 0 rfl rfl ?_
      refine ww_iload 91 X dX13_headOf_91 5 rfl ?_
      refine ww_iload 93 X dX13_headOf_93 6 rfl ?_
      obtain ⟨_, f95, h⟩ := bO_some h
      obtain ⟨v95, M95, e95, h⟩ := bP_some h
      refine ww_callVI0 95 X dX13_headOf_95 mY_X13_isString mL_X13_792 (rcv_spec f95) ⟨_, _, rfl⟩ (by decide) (As := [.int ((1 : Int32) - v2), .int v49]) (rest := []) rfl rfl ⟨Nat.le_of_ble_eq_true rfl, Nat.le_of_ble_eq_true rfl⟩ (Nat.le_of_ble_eq_true rfl) (fun l D A => c_X13_isString l D A e95) ?_
      refine ww_if_eq 98 153 X dX13_headOf_98 (by decide) (fun q => ?_) (fun q => ?_)
      · replace h := (if_pos q).symm.trans h
        refine ww_iconst 153 X (v := (0 : Int32)) dX13_headOf_153 (by decide) ?_
        exact ww_sub [0, 4, 5, 6, 7, 8, 9] rfl (wB_X13_headOf_154 X hQ h)
      · replace h := (if_neg q).symm.trans h
        refine ww_iload 101 X dX13_headOf_101 4 rfl ?_
        refine ww_if_eq 103 117 X dX13_headOf_103 (by decide) (fun q => ?_) (fun q => ?_)
        · replace h := (if_pos q).symm.trans h
          refine ww_iload 117 X dX13_headOf_117 8 rfl ?_
          refine ww_if_lt 119 133 X dX13_headOf_119 (by decide) (fun q => ?_) (fun q => ?_)
          · replace h := (if_pos q).symm.trans h
            exact ww_sub [0, 4, 5, 6, 7, 8, 9] rfl (wB_X13_headOf_133 X hQ h)
          · replace h := (if_neg q).symm.trans h
            refine ww_aload_n 122 X dX13_headOf_122 0 rfl rfl ?_
            refine ww_iload 123 X dX13_headOf_123 5 rfl ?_
            refine ww_iload 125 X dX13_headOf_125 8 rfl ?_
            obtain ⟨_, f127, h⟩ := bO_some h
            obtain ⟨v127, M127, e127, h⟩ := bP_some h
            refine ww_callVI0 127 X dX13_headOf_127 mY_X13_isString mL_X13_792 (rcv_spec f127) ⟨_, _, rfl⟩ (by decide) (As := [.int ((1 : Int32) - v2), .int v73]) (rest := []) rfl rfl ⟨Nat.le_of_ble_eq_true rfl, Nat.le_of_ble_eq_true rfl⟩ (Nat.le_of_ble_eq_true rfl) (fun l D A => c_X13_isString l D A e127) ?_
            refine ww_if_eq 130 153 X dX13_headOf_130 (by decide) (fun q => ?_) (fun q => ?_)
            · replace h := (if_pos q).symm.trans h
              refine ww_iconst 153 X (v := (0 : Int32)) dX13_headOf_153 (by decide) ?_
              exact ww_sub [0, 4, 5, 6, 7, 8, 9] rfl (wB_X13_headOf_154 X hQ h)
            · replace h := (if_neg q).symm.trans h
              exact ww_sub [0, 4, 5, 6, 7, 8, 9] rfl (wB_X13_headOf_133 X hQ h)
        · replace h := (if_neg q).symm.trans h
          refine ww_aload_n 106 X dX13_headOf_106 0 rfl rfl ?_
          refine ww_iload 107 X dX13_headOf_107 5 rfl ?_
          refine ww_iload 109 X dX13_headOf_109 7 rfl ?_
          obtain ⟨_, f111, h⟩ := bO_some h
          obtain ⟨v111, M111, e111, h⟩ := bP_some h
          refine ww_callVI0 111 X dX13_headOf_111 mY_X13_isString mL_X13_792 (rcv_spec f111) ⟨_, _, rfl⟩ (by decide) (As := [.int ((1 : Int32) - v2), .int v61]) (rest := []) rfl rfl ⟨Nat.le_of_ble_eq_true rfl, Nat.le_of_ble_eq_true rfl⟩ (Nat.le_of_ble_eq_true rfl) (fun l D A => c_X13_isString l D A e111) ?_
          refine ww_if_eq 114 153 X dX13_headOf_114 (by decide) (fun q => ?_) (fun q => ?_)
          · replace h := (if_pos q).symm.trans h
            refine ww_iconst 153 X (v := (0 : Int32)) dX13_headOf_153 (by decide) ?_
            exact ww_sub [0, 4, 5, 6, 7, 8, 9] rfl (wB_X13_headOf_154 X hQ h)
          · replace h := (if_neg q).symm.trans h
            refine ww_iload 117 X dX13_headOf_117 8 rfl ?_
            refine ww_if_lt 119 133 X dX13_headOf_119 (by decide) (fun q => ?_) (fun q => ?_)
            · replace h := (if_pos q).symm.trans h
              exact ww_sub [0, 4, 5, 6, 7, 8, 9] rfl (wB_X13_headOf_133 X hQ h)
            · replace h := (if_neg q).symm.trans h
              refine ww_aload_n 122 X dX13_headOf_122 0 rfl rfl ?_
              refine ww_iload 123 X dX13_headOf_123 5 rfl ?_
              refine ww_iload 125 X dX13_headOf_125 8 rfl ?_
              obtain ⟨_, f127, h⟩ := bO_some h
              obtain ⟨v127, M127, e127, h⟩ := bP_some h
              refine ww_callVI0 127 X dX13_headOf_127 mY_X13_isString mL_X13_792 (rcv_spec f127) ⟨_, _, rfl⟩ (by decide) (As := [.int ((1 : Int32) - v2), .int v73]) (rest := []) rfl rfl ⟨Nat.le_of_ble_eq_true rfl, Nat.le_of_ble_eq_true rfl⟩ (Nat.le_of_ble_eq_true rfl) (fun l D A => c_X13_isString l D A e127) ?_
              refine ww_if_eq 130 153 X dX13_headOf_130 (by decide) (fun q => ?_) (fun q => ?_)
              · replace h := (if_pos q).symm.trans h
                refine ww_iconst 153 X (v := (0 : Int32)) dX13_headOf_153 (by decide) ?_
                exact ww_sub [0, 4, 5, 6, 7, 8, 9] rfl (wB_X13_headOf_154 X hQ h)
              · replace h := (if_neg q).symm.trans h
                exact ww_sub [0, 4, 5, 6, 7, 8, 9] rfl (wB_X13_headOf_133 X hQ h)
    · replace h := (if_neg q).symm.trans h
      refine ww_bipush 39 X (v := (-23 : Int32)) dX13_headOf_39 (by decide) ?_
      exact ww_iretE 41 X hQ dX13_headOf_41 h
  · replace h := (if_pos q).symm.trans h
    refine ww_bipush 20 X (v := (-22 : Int32)) dX13_headOf_20 (by decide) ?_
    exact ww_iretE 22 X hQ dX13_headOf_22 h
theorem c_X13_headOf {G : mG} {F sz : Nat} {r0 : Int32} {M0 : mM} (l : Launch) (D : mD) (A : Nat → Prop) {l0 : Nat} {l1 : Nat} {l2 : Int32} {l3 : Int32} {l4 : Int32} {M : mM} (h : P_X13_headOf G F l0 l1 l2 l3 l4 M = some (r0, M0)) : mMetI l D G A yX13_headOf cX13_headOf 11 (some .int) 362 8556 0 0 [.ref l0, .ref l1, .int l2, .int l3, .int l4] M sz r0 M0 sz := mMetI_of l D G A (by decide) (Nat.le_of_ble_eq_true rfl) (fun x X hQ => wP_X13_headOf X hQ h)
/-! SealedTokensModel.lets(ILjava/lang/String;II)Z -/
theorem dX13_lets_0 : decode cX13_lets 0 = .ok (.aload_n 0, 1) := by decide +kernel
theorem dX13_lets_1 : decode cX13_lets 1 = .ok (.getfield 236, 3) := by decide +kernel
theorem dX13_lets_4 : decode cX13_lets 4 = .ok (.iload_n 1, 1) := by decide +kernel
theorem dX13_lets_5 : decode cX13_lets 5 = .ok (.iaload, 1) := by decide +kernel
theorem dX13_lets_6 : decode cX13_lets 6 = .ok (.ifCond .lt 26, 3) := by decide +kernel
theorem dX13_lets_9 : decode cX13_lets 9 = .ok (.aload_n 2, 1) := by decide +kernel
theorem dX13_lets_10 : decode cX13_lets 10 = .ok (.aload_n 0, 1) := by decide +kernel
theorem dX13_lets_11 : decode cX13_lets 11 = .ok (.getfield 233, 3) := by decide +kernel
theorem dX13_lets_14 : decode cX13_lets 14 = .ok (.sipush 8200, 3) := by decide +kernel
theorem dX13_lets_17 : decode cX13_lets 17 = .ok (.iload_n 1, 1) := by decide +kernel
theorem dX13_lets_18 : decode cX13_lets 18 = .ok (.imul, 1) := by decide +kernel
theorem dX13_lets_19 : decode cX13_lets 19 = .ok (.aload_n 0, 1) := by decide +kernel
theorem dX13_lets_20 : decode cX13_lets 20 = .ok (.getfield 236, 3) := by decide +kernel
theorem dX13_lets_23 : decode cX13_lets 23 = .ok (.iload_n 1, 1) := by decide +kernel
theorem dX13_lets_24 : decode cX13_lets 24 = .ok (.iaload, 1) := by decide +kernel
theorem dX13_lets_25 : decode cX13_lets 25 = .ok (.invokestatic 895, 3) := by decide +kernel
theorem dX13_lets_28 : decode cX13_lets 28 = .ok (.iload_n 3, 1) := by decide +kernel
theorem dX13_lets_29 : decode cX13_lets 29 = .ok (.if_icmp .ne 7, 3) := by decide +kernel
theorem dX13_lets_32 : decode cX13_lets 32 = .ok (.iconst 1, 1) := by decide +kernel
theorem dX13_lets_33 : decode cX13_lets 33 = .ok (.goto 4, 3) := by decide +kernel
theorem dX13_lets_36 : decode cX13_lets 36 = .ok (.iconst 0, 1) := by decide +kernel
theorem dX13_lets_37 : decode cX13_lets 37 = .ok (.istore 5, 2) := by decide +kernel
theorem dX13_lets_39 : decode cX13_lets 39 = .ok (.aload_n 0, 1) := by decide +kernel
theorem dX13_lets_40 : decode cX13_lets 40 = .ok (.getfield 198, 3) := by decide +kernel
theorem dX13_lets_43 : decode cX13_lets 43 = .ok (.iload_n 1, 1) := by decide +kernel
theorem dX13_lets_44 : decode cX13_lets 44 = .ok (.baload, 1) := by decide +kernel
theorem dX13_lets_45 : decode cX13_lets 45 = .ok (.ifCond .eq 32, 3) := by decide +kernel
theorem dX13_lets_48 : decode cX13_lets 48 = .ok (.iload 5, 2) := by decide +kernel
theorem dX13_lets_50 : decode cX13_lets 50 = .ok (.ifCond .eq 27, 3) := by decide +kernel
theorem dX13_lets_53 : decode cX13_lets 53 = .ok (.aload_n 0, 1) := by decide +kernel
theorem dX13_lets_54 : decode cX13_lets 54 = .ok (.getfield 223, 3) := by decide +kernel
theorem dX13_lets_57 : decode cX13_lets 57 = .ok (.iload_n 1, 1) := by decide +kernel
theorem dX13_lets_58 : decode cX13_lets 58 = .ok (.iaload, 1) := by decide +kernel
theorem dX13_lets_59 : decode cX13_lets 59 = .ok (.ifCond .eq 14, 3) := by decide +kernel
theorem dX13_lets_62 : decode cX13_lets 62 = .ok (.aload_n 0, 1) := by decide +kernel
theorem dX13_lets_63 : decode cX13_lets 63 = .ok (.getfield 223, 3) := by decide +kernel
theorem dX13_lets_66 : decode cX13_lets 66 = .ok (.iload_n 1, 1) := by decide +kernel
theorem dX13_lets_67 : decode cX13_lets 67 = .ok (.iaload, 1) := by decide +kernel
theorem dX13_lets_68 : decode cX13_lets 68 = .ok (.iload 4, 2) := by decide +kernel
theorem dX13_lets_70 : decode cX13_lets 70 = .ok (.if_icmp .ne 7, 3) := by decide +kernel
theorem dX13_lets_73 : decode cX13_lets 73 = .ok (.iconst 1, 1) := by decide +kernel
theorem dX13_lets_74 : decode cX13_lets 74 = .ok (.goto 4, 3) := by decide +kernel
theorem dX13_lets_77 : decode cX13_lets 77 = .ok (.iconst 0, 1) := by decide +kernel
theorem dX13_lets_78 : decode cX13_lets 78 = .ok (.ireturn, 1) := by decide +kernel
abbrev rmX13_lets : Room := { frames := 5, cells := 0, slots := 0, locals := 111 }
set_option maxHeartbeats 4000000 in
set_option maxRecDepth 100000 in
theorem wB_X13_lets_37 {G : mG} {F : Nat} {x : mXT} {sz : Nat} {r0 : Int32} {M0 : mM} (X : mCX G RX13 cX13_lets 6 (some .boolean) "lets" rmX13_lets x) (hQ : mQI x r0 M0 (sz, 0, 0)) {l0 : Nat} {l1 : Int32} {l4 : Int32} {sk0 : Int32} {M : mM} (h : B_X13_lets_37 G F l0 l1 l4 sk0 M = some (r0, M0)) : WW x (sz, 0, 0) M 37 [(0, .ref l0), (1, .int l1), (4, .int l4)] [.int sk0] := by
  unfold B_X13_lets_37 at h
  refine ww_istore 37 X dX13_lets_37 (lv' := [(0, .ref l0), (1, .int l1), (4, .int l4), (5, .int sk0)]) (by decide) [1, 2, 3, 0] rfl ?_
  refine ww_aload_n 39 X dX13_lets_39 0 rfl rfl ?_
  obtain ⟨v40, e40, h⟩ := bO_some h
  refine ww_getR 40 X dX13_lets_40 fG_X13_198 e40 ?_
  refine ww_iload_n 43 X dX13_lets_43 1 rfl rfl ?_
  obtain ⟨v44, e44, h⟩ := bO_some h
  refine ww_zald 44 X dX13_lets_44 e44 ?_
  refine ww_if_eq 45 77 X dX13_lets_45 (by decide) (fun q => ?_) (fun q => ?_)
  · replace h := (if_pos q).symm.trans h
    refine ww_iconst 77 X (v := (0 : Int32)) dX13_lets_77 (by decide) ?_
    exact ww_zretE 78 X hQ dX13_lets_78 h
  · replace h := (if_neg q).symm.trans h
    refine ww_iload 48 X dX13_lets_48 3 rfl ?_
    refine ww_if_eq 50 77 X dX13_lets_50 (by decide) (fun q => ?_) (fun q => ?_)
    · replace h := (if_pos q).symm.trans h
      refine ww_iconst 77 X (v := (0 : Int32)) dX13_lets_77 (by decide) ?_
      exact ww_zretE 78 X hQ dX13_lets_78 h
    · replace h := (if_neg q).symm.trans h
      refine ww_aload_n 53 X dX13_lets_53 0 rfl rfl ?_
      obtain ⟨v54, e54, h⟩ := bO_some h
      refine ww_getR 54 X dX13_lets_54 fG_X13_223 e54 ?_
      refine ww_iload_n 57 X dX13_lets_57 1 rfl rfl ?_
      obtain ⟨v58, e58, h⟩ := bO_some h
      refine ww_iald 58 X dX13_lets_58 e58 ?_
      refine ww_if_eq 59 73 X dX13_lets_59 (by decide) (fun q => ?_) (fun q => ?_)
      · replace h := (if_pos q).symm.trans h
        refine ww_iconst 73 X (v := (1 : Int32)) dX13_lets_73 (by decide) ?_
        refine ww_goto 74 78 X dX13_lets_74 (by decide) ?_
        exact ww_zretE 78 X hQ dX13_lets_78 h
      · replace h := (if_neg q).symm.trans h
        refine ww_aload_n 62 X dX13_lets_62 0 rfl rfl ?_
        obtain ⟨v63, e63, h⟩ := bO_some h
        refine ww_getR 63 X dX13_lets_63 fG_X13_223 e63 ?_
        refine ww_iload_n 66 X dX13_lets_66 1 rfl rfl ?_
        obtain ⟨v67, e67, h⟩ := bO_some h
        refine ww_iald 67 X dX13_lets_67 e67 ?_
        refine ww_iload 68 X dX13_lets_68 2 rfl ?_
        refine ww_icmp_ne 70 77 X dX13_lets_70 (by decide) (fun q => ?_) (fun q => ?_)
        · replace h := (if_neg q).symm.trans h
          refine ww_iconst 77 X (v := (0 : Int32)) dX13_lets_77 (by decide) ?_
          exact ww_zretE 78 X hQ dX13_lets_78 h
        · replace h := (if_pos q).symm.trans h
          refine ww_iconst 73 X (v := (1 : Int32)) dX13_lets_73 (by decide) ?_
          refine ww_goto 74 78 X dX13_lets_74 (by decide) ?_
          exact ww_zretE 78 X hQ dX13_lets_78 h
set_option maxHeartbeats 4000000 in
set_option maxRecDepth 100000 in
theorem wP_X13_lets {G : mG} {F : Nat} {x : mXT} {sz : Nat} {r0 : Int32} {M0 : mM} (X : mCX G RX13 cX13_lets 6 (some .boolean) "lets" rmX13_lets x) (hQ : mQI x r0 M0 (sz, 0, 0)) {l0 : Nat} {l1 : Int32} {l2 : Nat} {l3 : Int32} {l4 : Int32} {M : mM} (h : P_X13_lets G F l0 l1 l2 l3 l4 M = some (r0, M0)) : WW x (sz, 0, 0) M 0 [(0, .ref l0), (1, .int l1), (2, .ref l2), (3, .int l3), (4, .int l4)] [] := by
  unfold P_X13_lets at h
  refine ww_aload_n 0 X dX13_lets_0 0 rfl rfl ?_
  obtain ⟨v1, e1, h⟩ := bO_some h
  refine ww_getR 1 X dX13_lets_1 fG_X13_236 e1 ?_
  refine ww_iload_n 4 X dX13_lets_4 1 rfl rfl ?_
  obtain ⟨v5, e5, h⟩ := bO_some h
  refine ww_iald 5 X dX13_lets_5 e5 ?_
  refine ww_if_lt 6 32 X dX13_lets_6 (by decide) (fun q => ?_) (fun q => ?_)
  · replace h := (if_pos q).symm.trans h
    refine ww_iconst 32 X (v := (1 : Int32)) dX13_lets_32 (by decide) ?_
    refine ww_goto 33 37 X dX13_lets_33 (by decide) ?_
    exact ww_sub [0, 1, 4] rfl (wB_X13_lets_37 X hQ h)
  · replace h := (if_neg q).symm.trans h
    refine ww_aload_n 9 X dX13_lets_9 2 rfl rfl ?_
    refine ww_aload_n 10 X dX13_lets_10 0 rfl rfl ?_
    obtain ⟨v11, e11, h⟩ := bO_some h
    refine ww_getR 11 X dX13_lets_11 fG_X13_233 e11 ?_
    refine ww_sipush 14 X (v := (8200 : Int32)) dX13_lets_14 (by decide) ?_
    refine ww_iload_n 17 X dX13_lets_17 1 rfl rfl ?_
    refine ww_imul 18 X dX13_lets_18 ?_
    refine ww_aload_n 19 X dX13_lets_19 0 rfl rfl ?_
    obtain ⟨v20, e20, h⟩ := bO_some h
    refine ww_getR 20 X dX13_lets_20 fG_X13_236 e20 ?_
    refine ww_iload_n 23 X dX13_lets_23 1 rfl rfl ?_
    obtain ⟨v24, e24, h⟩ := bO_some h
    refine ww_iald 24 X dX13_lets_24 e24 ?_
    obtain ⟨v25, M25, e25, h⟩ := bP_some h
    refine ww_callSI0 25 X dX13_lets_25 mY_X13_wordOf mL_X13_895 (As := [.ref l2, .ref v11, .int ((8200 : Int32) * l1), .int v24]) (rest := []) rfl rfl ⟨Nat.le_of_ble_eq_true rfl, Nat.le_of_ble_eq_true rfl⟩ (Nat.le_of_ble_eq_true rfl) (fun l D A => c_X13_wordOf l D A e25) ?_
    refine ww_iload_n 28 X dX13_lets_28 3 rfl rfl ?_
    refine ww_icmp_ne 29 36 X dX13_lets_29 (by decide) (fun q => ?_) (fun q => ?_)
    · replace h := (if_neg q).symm.trans h
      refine ww_iconst 36 X (v := (0 : Int32)) dX13_lets_36 (by decide) ?_
      exact ww_sub [0, 1, 4] rfl (wB_X13_lets_37 X hQ h)
    · replace h := (if_pos q).symm.trans h
      refine ww_iconst 32 X (v := (1 : Int32)) dX13_lets_32 (by decide) ?_
      refine ww_goto 33 37 X dX13_lets_33 (by decide) ?_
      exact ww_sub [0, 1, 4] rfl (wB_X13_lets_37 X hQ h)
theorem c_X13_lets {G : mG} {F sz : Nat} {r0 : Int32} {M0 : mM} (l : Launch) (D : mD) (A : Nat → Prop) {l0 : Nat} {l1 : Int32} {l2 : Nat} {l3 : Int32} {l4 : Int32} {M : mM} (h : P_X13_lets G F l0 l1 l2 l3 l4 M = some (r0, M0)) : mMetI l D G A yX13_lets cX13_lets 6 (some .boolean) 5 111 0 0 [.ref l0, .int l1, .ref l2, .int l3, .int l4] M sz r0 M0 sz := mMetI_of l D G A (by decide) (Nat.le_of_ble_eq_true rfl) (fun x X hQ => wP_X13_lets X hQ h)
/-! SealedTokensModel.maySign(IIZ)Z -/
theorem dX13_maySign_0 : decode cX13_maySign 0 = .ok (.iload_n 2, 1) := by decide +kernel
theorem dX13_maySign_1 : decode cX13_maySign 1 = .ok (.iconst 2, 1) := by decide +kernel
theorem dX13_maySign_2 : decode cX13_maySign 2 = .ok (.if_icmp .ge 7, 3) := by decide +kernel
theorem dX13_maySign_5 : decode cX13_maySign 5 = .ok (.iconst 0, 1) := by decide +kernel
theorem dX13_maySign_6 : decode cX13_maySign 6 = .ok (.goto 13, 3) := by decide +kernel
theorem dX13_maySign_9 : decode cX13_maySign 9 = .ok (.iload_n 2, 1) := by decide +kernel
theorem dX13_maySign_10 : decode cX13_maySign 10 = .ok (.iconst 4, 1) := by decide +kernel
theorem dX13_maySign_11 : decode cX13_maySign 11 = .ok (.if_icmp .ge 7, 3) := by decide +kernel
theorem dX13_maySign_14 : decode cX13_maySign 14 = .ok (.iconst 1, 1) := by decide +kernel
theorem dX13_maySign_15 : decode cX13_maySign 15 = .ok (.goto 4, 3) := by decide +kernel
theorem dX13_maySign_18 : decode cX13_maySign 18 = .ok (.iconst 2, 1) := by decide +kernel
theorem dX13_maySign_19 : decode cX13_maySign 19 = .ok (.istore 4, 2) := by decide +kernel
theorem dX13_maySign_21 : decode cX13_maySign 21 = .ok (.iload_n 2, 1) := by decide +kernel
theorem dX13_maySign_22 : decode cX13_maySign 22 = .ok (.ifCond .ne 8, 3) := by decide +kernel
theorem dX13_maySign_25 : decode cX13_maySign 25 = .ok (.bipush 32, 2) := by decide +kernel
theorem dX13_maySign_27 : decode cX13_maySign 27 = .ok (.goto 24, 3) := by decide +kernel
theorem dX13_maySign_30 : decode cX13_maySign 30 = .ok (.iload_n 2, 1) := by decide +kernel
theorem dX13_maySign_31 : decode cX13_maySign 31 = .ok (.iconst 1, 1) := by decide +kernel
theorem dX13_maySign_32 : decode cX13_maySign 32 = .ok (.if_icmp .ne 8, 3) := by decide +kernel
theorem dX13_maySign_35 : decode cX13_maySign 35 = .ok (.bipush 64, 2) := by decide +kernel
theorem dX13_maySign_37 : decode cX13_maySign 37 = .ok (.goto 14, 3) := by decide +kernel
theorem dX13_maySign_40 : decode cX13_maySign 40 = .ok (.iload_n 2, 1) := by decide +kernel
theorem dX13_maySign_41 : decode cX13_maySign 41 = .ok (.iconst 3, 1) := by decide +kernel
theorem dX13_maySign_42 : decode cX13_maySign 42 = .ok (.if_icmp .ne 8, 3) := by decide +kernel
theorem dX13_maySign_45 : decode cX13_maySign 45 = .ok (.bipush 67, 2) := by decide +kernel
theorem dX13_maySign_47 : decode cX13_maySign 47 = .ok (.goto 4, 3) := by decide +kernel
theorem dX13_maySign_50 : decode cX13_maySign 50 = .ok (.iconst 0, 1) := by decide +kernel
theorem dX13_maySign_51 : decode cX13_maySign 51 = .ok (.istore 5, 2) := by decide +kernel
theorem dX13_maySign_53 : decode cX13_maySign 53 = .ok (.aload_n 0, 1) := by decide +kernel
theorem dX13_maySign_54 : decode cX13_maySign 54 = .ok (.iload_n 1, 1) := by decide +kernel
theorem dX13_maySign_55 : decode cX13_maySign 55 = .ok (.ldc_w 914, 3) := by decide +kernel
theorem dX13_maySign_58 : decode cX13_maySign 58 = .ok (.iload_n 2, 1) := by decide +kernel
theorem dX13_maySign_59 : decode cX13_maySign 59 = .ok (.iconst 1, 1) := by decide +kernel
theorem dX13_maySign_60 : decode cX13_maySign 60 = .ok (.invokevirtual 950, 3) := by decide +kernel
theorem dX13_maySign_63 : decode cX13_maySign 63 = .ok (.ifCond .eq 47, 3) := by decide +kernel
theorem dX13_maySign_66 : decode cX13_maySign 66 = .ok (.aload_n 0, 1) := by decide +kernel
theorem dX13_maySign_67 : decode cX13_maySign 67 = .ok (.getfield 202, 3) := by decide +kernel
theorem dX13_maySign_70 : decode cX13_maySign 70 = .ok (.iload_n 1, 1) := by decide +kernel
theorem dX13_maySign_71 : decode cX13_maySign 71 = .ok (.iaload, 1) := by decide +kernel
theorem dX13_maySign_72 : decode cX13_maySign 72 = .ok (.iload 4, 2) := by decide +kernel
theorem dX13_maySign_74 : decode cX13_maySign 74 = .ok (.if_icmp .ne 36, 3) := by decide +kernel
theorem dX13_maySign_77 : decode cX13_maySign 77 = .ok (.aload_n 0, 1) := by decide +kernel
theorem dX13_maySign_78 : decode cX13_maySign 78 = .ok (.getfield 208, 3) := by decide +kernel
theorem dX13_maySign_81 : decode cX13_maySign 81 = .ok (.iload_n 1, 1) := by decide +kernel
theorem dX13_maySign_82 : decode cX13_maySign 82 = .ok (.iaload, 1) := by decide +kernel
theorem dX13_maySign_83 : decode cX13_maySign 83 = .ok (.iload 5, 2) := by decide +kernel
theorem dX13_maySign_85 : decode cX13_maySign 85 = .ok (.if_icmp .lt 25, 3) := by decide +kernel
theorem dX13_maySign_88 : decode cX13_maySign 88 = .ok (.iload_n 3, 1) := by decide +kernel
theorem dX13_maySign_89 : decode cX13_maySign 89 = .ok (.ifCond .eq 17, 3) := by decide +kernel
theorem dX13_maySign_92 : decode cX13_maySign 92 = .ok (.iload 4, 2) := by decide +kernel
theorem dX13_maySign_94 : decode cX13_maySign 94 = .ok (.ifCond .eq 12, 3) := by decide +kernel
theorem dX13_maySign_97 : decode cX13_maySign 97 = .ok (.aload_n 0, 1) := by decide +kernel
theorem dX13_maySign_98 : decode cX13_maySign 98 = .ok (.getfield 220, 3) := by decide +kernel
theorem dX13_maySign_101 : decode cX13_maySign 101 = .ok (.iload_n 1, 1) := by decide +kernel
theorem dX13_maySign_102 : decode cX13_maySign 102 = .ok (.iaload, 1) := by decide +kernel
theorem dX13_maySign_103 : decode cX13_maySign 103 = .ok (.ifCond .le 7, 3) := by decide +kernel
theorem dX13_maySign_106 : decode cX13_maySign 106 = .ok (.iconst 1, 1) := by decide +kernel
theorem dX13_maySign_107 : decode cX13_maySign 107 = .ok (.goto 4, 3) := by decide +kernel
theorem dX13_maySign_110 : decode cX13_maySign 110 = .ok (.iconst 0, 1) := by decide +kernel
theorem dX13_maySign_111 : decode cX13_maySign 111 = .ok (.ireturn, 1) := by decide +kernel
abbrev rmX13_maySign : Room := { frames := 6, cells := 0, slots := 0, locals := 136 }
set_option maxHeartbeats 4000000 in
set_option maxRecDepth 100000 in
theorem wB_X13_maySign_51 {G : mG} {F : Nat} {x : mXT} {sz : Nat} {r0 : Int32} {M0 : mM} (X : mCX G RX13 cX13_maySign 6 (some .boolean) "maySign" rmX13_maySign x) (hQ : mQI x r0 M0 (sz, 0, 0)) {l0 : Nat} {l1 : Int32} {l2 : Int32} {l3 : Int32} {l4 : Int32} {sk0 : Int32} {M : mM} (h : B_X13_maySign_51 G F l0 l1 l2 l3 l4 sk0 M = some (r0, M0)) : WW x (sz, 0, 0) M 51 [(0, .ref l0), (1, .int l1), (2, .int l2), (3, .int l3), (4, .int l4)] [.int sk0] := by
  unfold B_X13_maySign_51 at h
  refine ww_istore 51 X dX13_maySign_51 (lv' := [(0, .ref l0), (1, .int l1), (2, .int l2), (3, .int l3), (4, .int l4), (5, .int sk0)]) (by decide) [1, 2, 3, 4, 5, 0] rfl ?_
  refine ww_aload_n 53 X dX13_maySign_53 0 rfl rfl ?_
  refine ww_iload_n 54 X dX13_maySign_54 1 rfl rfl ?_
  refine ww_ldsw 55 X (j := 108) dX13_maySign_55 rfl ?_
  refine ww_iload_n 58 X dX13_maySign_58 2 rfl rfl ?_
  refine ww_iconst 59 X (v := (1 : Int32)) dX13_maySign_59 (by decide) ?_
  obtain ⟨_, f60, h⟩ := bO_some h
  obtain ⟨v60, M60, e60, h⟩ := bP_some h
  refine ww_callVI0 60 X dX13_maySign_60 mY_X13_lets mL_X13_950 (rcv_spec f60) ⟨_, _, rfl⟩ (by decide) (As := [.int l1, .ref (G.1 108), .int l2, .int (1 : Int32)]) (rest := []) rfl rfl ⟨Nat.le_of_ble_eq_true rfl, Nat.le_of_ble_eq_true rfl⟩ (Nat.le_of_ble_eq_true rfl) (fun l D A => c_X13_lets l D A e60) ?_
  refine ww_if_eq 63 110 X dX13_maySign_63 (by decide) (fun q => ?_) (fun q => ?_)
  · replace h := (if_pos q).symm.trans h
    refine ww_iconst 110 X (v := (0 : Int32)) dX13_maySign_110 (by decide) ?_
    exact ww_zretE 111 X hQ dX13_maySign_111 h
  · replace h := (if_neg q).symm.trans h
    refine ww_aload_n 66 X dX13_maySign_66 0 rfl rfl ?_
    obtain ⟨v67, e67, h⟩ := bO_some h
    refine ww_getR 67 X dX13_maySign_67 fG_X13_202 e67 ?_
    refine ww_iload_n 70 X dX13_maySign_70 1 rfl rfl ?_
    obtain ⟨v71, e71, h⟩ := bO_some h
    refine ww_iald 71 X dX13_maySign_71 e71 ?_
    refine ww_iload 72 X dX13_maySign_72 4 rfl ?_
    refine ww_icmp_ne 74 110 X dX13_maySign_74 (by decide) (fun q => ?_) (fun q => ?_)
    · replace h := (if_neg q).symm.trans h
      refine ww_iconst 110 X (v := (0 : Int32)) dX13_maySign_110 (by decide) ?_
      exact ww_zretE 111 X hQ dX13_maySign_111 h
    · replace h := (if_pos q).symm.trans h
      refine ww_aload_n 77 X dX13_maySign_77 0 rfl rfl ?_
      obtain ⟨v78, e78, h⟩ := bO_some h
      refine ww_getR 78 X dX13_maySign_78 fG_X13_208 e78 ?_
      refine ww_iload_n 81 X dX13_maySign_81 1 rfl rfl ?_
      obtain ⟨v82, e82, h⟩ := bO_some h
      refine ww_iald 82 X dX13_maySign_82 e82 ?_
      refine ww_iload 83 X dX13_maySign_83 5 rfl ?_
      refine ww_icmp_lt 85 110 X dX13_maySign_85 (by decide) (fun q => ?_) (fun q => ?_)
      · replace h := (if_pos q).symm.trans h
        refine ww_iconst 110 X (v := (0 : Int32)) dX13_maySign_110 (by decide) ?_
        exact ww_zretE 111 X hQ dX13_maySign_111 h
      · replace h := (if_neg q).symm.trans h
        refine ww_iload_n 88 X dX13_maySign_88 3 rfl rfl ?_
        refine ww_if_eq 89 106 X dX13_maySign_89 (by decide) (fun q => ?_) (fun q => ?_)
        · replace h := (if_pos q).symm.trans h
          refine ww_iconst 106 X (v := (1 : Int32)) dX13_maySign_106 (by decide) ?_
          refine ww_goto 107 111 X dX13_maySign_107 (by decide) ?_
          exact ww_zretE 111 X hQ dX13_maySign_111 h
        · replace h := (if_neg q).symm.trans h
          refine ww_iload 92 X dX13_maySign_92 4 rfl ?_
          refine ww_if_eq 94 106 X dX13_maySign_94 (by decide) (fun q => ?_) (fun q => ?_)
          · replace h := (if_pos q).symm.trans h
            refine ww_iconst 106 X (v := (1 : Int32)) dX13_maySign_106 (by decide) ?_
            refine ww_goto 107 111 X dX13_maySign_107 (by decide) ?_
            exact ww_zretE 111 X hQ dX13_maySign_111 h
          · replace h := (if_neg q).symm.trans h
            refine ww_aload_n 97 X dX13_maySign_97 0 rfl rfl ?_
            obtain ⟨v98, e98, h⟩ := bO_some h
            refine ww_getR 98 X dX13_maySign_98 fG_X13_220 e98 ?_
            refine ww_iload_n 101 X dX13_maySign_101 1 rfl rfl ?_
            obtain ⟨v102, e102, h⟩ := bO_some h
            refine ww_iald 102 X dX13_maySign_102 e102 ?_
            refine ww_if_le 103 110 X dX13_maySign_103 (by decide) (fun q => ?_) (fun q => ?_)
            · replace h := (if_pos q).symm.trans h
              refine ww_iconst 110 X (v := (0 : Int32)) dX13_maySign_110 (by decide) ?_
              exact ww_zretE 111 X hQ dX13_maySign_111 h
            · replace h := (if_neg q).symm.trans h
              refine ww_iconst 106 X (v := (1 : Int32)) dX13_maySign_106 (by decide) ?_
              refine ww_goto 107 111 X dX13_maySign_107 (by decide) ?_
              exact ww_zretE 111 X hQ dX13_maySign_111 h
set_option maxHeartbeats 4000000 in
set_option maxRecDepth 100000 in
theorem wB_X13_maySign_19 {G : mG} {F : Nat} {x : mXT} {sz : Nat} {r0 : Int32} {M0 : mM} (X : mCX G RX13 cX13_maySign 6 (some .boolean) "maySign" rmX13_maySign x) (hQ : mQI x r0 M0 (sz, 0, 0)) {l0 : Nat} {l1 : Int32} {l2 : Int32} {l3 : Int32} {sk0 : Int32} {M : mM} (h : B_X13_maySign_19 G F l0 l1 l2 l3 sk0 M = some (r0, M0)) : WW x (sz, 0, 0) M 19 [(0, .ref l0), (1, .int l1), (2, .int l2), (3, .int l3)] [.int sk0] := by
  unfold B_X13_maySign_19 at h
  refine ww_istore 19 X dX13_maySign_19 (lv' := [(0, .ref l0), (1, .int l1), (2, .int l2), (3, .int l3), (4, .int sk0)]) (by decide) [1, 2, 3, 4, 0] rfl ?_
  refine ww_iload_n 21 X dX13_maySign_21 2 rfl rfl ?_
  refine ww_if_ne 22 30 X dX13_maySign_22 (by decide) (fun q => ?_) (fun q => ?_)
  · replace h := (if_neg q).symm.trans h
    refine ww_iload_n 30 X dX13_maySign_30 2 rfl rfl ?_
    refine ww_iconst 31 X (v := (1 : Int32)) dX13_maySign_31 (by decide) ?_
    refine ww_icmp_ne 32 40 X dX13_maySign_32 (by decide) (fun q => ?_) (fun q => ?_)
    · replace h := (if_neg q).symm.trans h
      refine ww_iload_n 40 X dX13_maySign_40 2 rfl rfl ?_
      refine ww_iconst 41 X (v := (3 : Int32)) dX13_maySign_41 (by decide) ?_
      refine ww_icmp_ne 42 50 X dX13_maySign_42 (by decide) (fun q => ?_) (fun q => ?_)
      · replace h := (if_neg q).symm.trans h
        refine ww_iconst 50 X (v := (0 : Int32)) dX13_maySign_50 (by decide) ?_
        exact (wB_X13_maySign_51 X hQ h)
      · replace h := (if_pos q).symm.trans h
        refine ww_bipush 45 X (v := (67 : Int32)) dX13_maySign_45 (by decide) ?_
        refine ww_goto 47 51 X dX13_maySign_47 (by decide) ?_
        exact (wB_X13_maySign_51 X hQ h)
    · replace h := (if_pos q).symm.trans h
      refine ww_bipush 35 X (v := (64 : Int32)) dX13_maySign_35 (by decide) ?_
      refine ww_goto 37 51 X dX13_maySign_37 (by decide) ?_
      exact (wB_X13_maySign_51 X hQ h)
  · replace h := (if_pos q).symm.trans h
    refine ww_bipush 25 X (v := (32 : Int32)) dX13_maySign_25 (by decide) ?_
    refine ww_goto 27 51 X dX13_maySign_27 (by decide) ?_
    exact (wB_X13_maySign_51 X hQ h)
set_option maxHeartbeats 4000000 in
set_option maxRecDepth 100000 in
theorem wP_X13_maySign {G : mG} {F : Nat} {x : mXT} {sz : Nat} {r0 : Int32} {M0 : mM} (X : mCX G RX13 cX13_maySign 6 (some .boolean) "maySign" rmX13_maySign x) (hQ : mQI x r0 M0 (sz, 0, 0)) {l0 : Nat} {l1 : Int32} {l2 : Int32} {l3 : Int32} {M : mM} (h : P_X13_maySign G F l0 l1 l2 l3 M = some (r0, M0)) : WW x (sz, 0, 0) M 0 [(0, .ref l0), (1, .int l1), (2, .int l2), (3, .int l3)] [] := by
  unfold P_X13_maySign at h
  refine ww_iload_n 0 X dX13_maySign_0 2 rfl rfl ?_
  refine ww_iconst 1 X (v := (2 : Int32)) dX13_maySign_1 (by decide) ?_
  refine ww_icmp_ge 2 9 X dX13_maySign_2 (by decide) (fun q => ?_) (fun q => ?_)
  · replace h := (if_pos q).symm.trans h
    refine ww_iload_n 9 X dX13_maySign_9 2 rfl rfl ?_
    refine ww_iconst 10 X (v := (4 : Int32)) dX13_maySign_10 (by decide) ?_
    refine ww_icmp_ge 11 18 X dX13_maySign_11 (by decide) (fun q => ?_) (fun q => ?_)
    · replace h := (if_pos q).symm.trans h
      refine ww_iconst 18 X (v := (2 : Int32)) dX13_maySign_18 (by decide) ?_
      exact (wB_X13_maySign_19 X hQ h)
    · replace h := (if_neg q).symm.trans h
      refine ww_iconst 14 X (v := (1 : Int32)) dX13_maySign_14 (by decide) ?_
      refine ww_goto 15 19 X dX13_maySign_15 (by decide) ?_
      exact (wB_X13_maySign_19 X hQ h)
  · replace h := (if_neg q).symm.trans h
    refine ww_iconst 5 X (v := (0 : Int32)) dX13_maySign_5 (by decide) ?_
    refine ww_goto 6 19 X dX13_maySign_6 (by decide) ?_
    exact (wB_X13_maySign_19 X hQ h)
theorem c_X13_maySign {G : mG} {F sz : Nat} {r0 : Int32} {M0 : mM} (l : Launch) (D : mD) (A : Nat → Prop) {l0 : Nat} {l1 : Int32} {l2 : Int32} {l3 : Int32} {M : mM} (h : P_X13_maySign G F l0 l1 l2 l3 M = some (r0, M0)) : mMetI l D G A yX13_maySign cX13_maySign 6 (some .boolean) 6 136 0 0 [.ref l0, .int l1, .int l2, .int l3] M sz r0 M0 sz := mMetI_of l D G A (by decide) (Nat.le_of_ble_eq_true rfl) (fun x X hQ => wP_X13_maySign X hQ h)
/-! SealedTokensModel.digestNumber()V -/
theorem dX13_digestNumber_0 : decode cX13_digestNumber 0 = .ok (.aload_n 0, 1) := by decide +kernel
theorem dX13_digestNumber_1 : decode cX13_digestNumber 1 = .ok (.invokevirtual 779, 3) := by decide +kernel
theorem dX13_digestNumber_4 : decode cX13_digestNumber 4 = .ok (.aload_n 0, 1) := by decide +kernel
theorem dX13_digestNumber_5 : decode cX13_digestNumber 5 = .ok (.getfield 129, 3) := by decide +kernel
theorem dX13_digestNumber_8 : decode cX13_digestNumber 8 = .ok (.aload_n 0, 1) := by decide +kernel
theorem dX13_digestNumber_9 : decode cX13_digestNumber 9 = .ok (.getfield 76, 3) := by decide +kernel
theorem dX13_digestNumber_12 : decode cX13_digestNumber 12 = .ok (.iconst 0, 1) := by decide +kernel
theorem dX13_digestNumber_13 : decode cX13_digestNumber 13 = .ok (.bipush 32, 2) := by decide +kernel
theorem dX13_digestNumber_15 : decode cX13_digestNumber 15 = .ok (.aload_n 0, 1) := by decide +kernel
theorem dX13_digestNumber_16 : decode cX13_digestNumber 16 = .ok (.getfield 266, 3) := by decide +kernel
theorem dX13_digestNumber_19 : decode cX13_digestNumber 19 = .ok (.invokevirtual 690, 3) := by decide +kernel
theorem dX13_digestNumber_22 : decode cX13_digestNumber 22 = .ok (.aload_n 0, 1) := by decide +kernel
theorem dX13_digestNumber_23 : decode cX13_digestNumber 23 = .ok (.getfield 129, 3) := by decide +kernel
theorem dX13_digestNumber_26 : decode cX13_digestNumber 26 = .ok (.aload_n 0, 1) := by decide +kernel
theorem dX13_digestNumber_27 : decode cX13_digestNumber 27 = .ok (.getfield 266, 3) := by decide +kernel
theorem dX13_digestNumber_30 : decode cX13_digestNumber 30 = .ok (.aload_n 0, 1) := by decide +kernel
theorem dX13_digestNumber_31 : decode cX13_digestNumber 31 = .ok (.getfield 266, 3) := by decide +kernel
theorem dX13_digestNumber_34 : decode cX13_digestNumber 34 = .ok (.invokevirtual 694, 3) := by decide +kernel
theorem dX13_digestNumber_37 : decode cX13_digestNumber 37 = .ok (.return_, 1) := by decide +kernel
abbrev rmX13_digestNumber : Room := { frames := 6, cells := 0, slots := 0, locals := 137 }
set_option maxHeartbeats 4000000 in
set_option maxRecDepth 100000 in
theorem wP_X13_digestNumber {G : mG} {F : Nat} {x : mXT} {sz : Nat} {M0 : mM} (X : mCX G RX13 cX13_digestNumber 1 none "digestNumber" rmX13_digestNumber x) (hQ : mQV x M0 (sz, 0, 0)) {l0 : Nat} {M : mM} (h : P_X13_digestNumber G F l0 M = some M0) : WW x (sz, 0, 0) M 0 [(0, .ref l0)] [] := by
  unfold P_X13_digestNumber at h
  refine ww_aload_n 0 X dX13_digestNumber_0 0 rfl rfl ?_
  obtain ⟨_, f1, h⟩ := bO_some h
  obtain ⟨M1, e1, h⟩ := bO_some h
  refine ww_callVV0 1 X dX13_digestNumber_1 mY_X13_digestMessage mL_X13_779 (rcv_spec f1) ⟨_, _, rfl⟩ (by decide) (As := []) (rest := []) rfl rfl ⟨Nat.le_of_ble_eq_true rfl, Nat.le_of_ble_eq_true rfl⟩ (Nat.le_of_ble_eq_true rfl) (fun l D A => c_X13_digestMessage l D A e1) ?_
  refine ww_aload_n 4 X dX13_digestNumber_4 0 rfl rfl ?_
  obtain ⟨v5, e5, h⟩ := bO_some h
  refine ww_getR 5 X dX13_digestNumber_5 fG_X13_129 e5 ?_
  refine ww_aload_n 8 X dX13_digestNumber_8 0 rfl rfl ?_
  obtain ⟨v9, e9, h⟩ := bO_some h
  refine ww_getR 9 X dX13_digestNumber_9 fG_X13_76 e9 ?_
  refine ww_iconst 12 X (v := (0 : Int32)) dX13_digestNumber_12 (by decide) ?_
  refine ww_bipush 13 X (v := (32 : Int32)) dX13_digestNumber_13 (by decide) ?_
  refine ww_aload_n 15 X dX13_digestNumber_15 0 rfl rfl ?_
  obtain ⟨v16, e16, h⟩ := bO_some h
  refine ww_getR 16 X dX13_digestNumber_16 fG_X13_266 e16 ?_
  obtain ⟨_, f19, h⟩ := bO_some h
  obtain ⟨M19, e19, h⟩ := bO_some h
  refine ww_callVV0 19 X dX13_digestNumber_19 mY_X12_reduce mL_X13_690 (rcv_spec f19) ⟨_, _, rfl⟩ (by decide) (As := [.ref v9, .int (0 : Int32), .int (32 : Int32), .ref v16]) (rest := []) rfl rfl ⟨Nat.le_of_ble_eq_true rfl, Nat.le_of_ble_eq_true rfl⟩ (Nat.le_of_ble_eq_true rfl) (fun l D A => c_X12_reduce l D A e19) ?_
  refine ww_aload_n 22 X dX13_digestNumber_22 0 rfl rfl ?_
  obtain ⟨v23, e23, h⟩ := bO_some h
  refine ww_getR 23 X dX13_digestNumber_23 fG_X13_129 e23 ?_
  refine ww_aload_n 26 X dX13_digestNumber_26 0 rfl rfl ?_
  obtain ⟨v27, e27, h⟩ := bO_some h
  refine ww_getR 27 X dX13_digestNumber_27 fG_X13_266 e27 ?_
  refine ww_aload_n 30 X dX13_digestNumber_30 0 rfl rfl ?_
  obtain ⟨v31, e31, h⟩ := bO_some h
  refine ww_getR 31 X dX13_digestNumber_31 fG_X13_266 e31 ?_
  obtain ⟨_, f34, h⟩ := bO_some h
  obtain ⟨M34, e34, h⟩ := bO_some h
  refine ww_callVV0 34 X dX13_digestNumber_34 mY_X12_into mL_X13_694 (rcv_spec f34) ⟨_, _, rfl⟩ (by decide) (As := [.ref v27, .ref v31]) (rest := []) rfl rfl ⟨Nat.le_of_ble_eq_true rfl, Nat.le_of_ble_eq_true rfl⟩ (Nat.le_of_ble_eq_true rfl) (fun l D A => c_X12_into l D A e34) ?_
  exact ww_vretE 37 X hQ dX13_digestNumber_37 h
theorem c_X13_digestNumber {G : mG} {F sz : Nat} {M0 : mM} (l : Launch) (D : mD) (A : Nat → Prop) {l0 : Nat} {M : mM} (h : P_X13_digestNumber G F l0 M = some M0) : mMetV l D G A yX13_digestNumber cX13_digestNumber 1 none 6 137 0 0 [.ref l0] M sz M0 sz := mMetV_of l D G A (by decide) (Nat.le_of_ble_eq_true rfl) (fun x X hQ => wP_X13_digestNumber X hQ h)
/-! SealedTokensModel.signPoint(II)I -/
theorem dX13_signPoint_0 : decode cX13_signPoint 0 = .ok (.sipush 8192, 3) := by decide +kernel
theorem dX13_signPoint_3 : decode cX13_signPoint 3 = .ok (.iload_n 2, 1) := by decide +kernel
theorem dX13_signPoint_4 : decode cX13_signPoint 4 = .ok (.imul, 1) := by decide +kernel
theorem dX13_signPoint_5 : decode cX13_signPoint 5 = .ok (.istore_n 3, 1) := by decide +kernel
theorem dX13_signPoint_6 : decode cX13_signPoint 6 = .ok (.aload_n 0, 1) := by decide +kernel
theorem dX13_signPoint_7 : decode cX13_signPoint 7 = .ok (.getfield 17, 3) := by decide +kernel
theorem dX13_signPoint_10 : decode cX13_signPoint 10 = .ok (.iload_n 2, 1) := by decide +kernel
theorem dX13_signPoint_11 : decode cX13_signPoint 11 = .ok (.iaload, 1) := by decide +kernel
theorem dX13_signPoint_12 : decode cX13_signPoint 12 = .ok (.bipush 32, 2) := by decide +kernel
theorem dX13_signPoint_14 : decode cX13_signPoint 14 = .ok (.if_icmp .lt 15, 3) := by decide +kernel
theorem dX13_signPoint_17 : decode cX13_signPoint 17 = .ok (.aload_n 0, 1) := by decide +kernel
theorem dX13_signPoint_18 : decode cX13_signPoint 18 = .ok (.aload_n 0, 1) := by decide +kernel
theorem dX13_signPoint_19 : decode cX13_signPoint 19 = .ok (.getfield 14, 3) := by decide +kernel
theorem dX13_signPoint_22 : decode cX13_signPoint 22 = .ok (.iload_n 3, 1) := by decide +kernel
theorem dX13_signPoint_23 : decode cX13_signPoint 23 = .ok (.invokevirtual 861, 3) := by decide +kernel
theorem dX13_signPoint_26 : decode cX13_signPoint 26 = .ok (.ifCond .ne 6, 3) := by decide +kernel
theorem dX13_signPoint_29 : decode cX13_signPoint 29 = .ok (.bipush (-4), 2) := by decide +kernel
theorem dX13_signPoint_31 : decode cX13_signPoint 31 = .ok (.ireturn, 1) := by decide +kernel
theorem dX13_signPoint_32 : decode cX13_signPoint 32 = .ok (.aload_n 0, 1) := by decide +kernel
theorem dX13_signPoint_33 : decode cX13_signPoint 33 = .ok (.invokevirtual 970, 3) := by decide +kernel
theorem dX13_signPoint_36 : decode cX13_signPoint 36 = .ok (.aload_n 0, 1) := by decide +kernel
theorem dX13_signPoint_37 : decode cX13_signPoint 37 = .ok (.aload_n 0, 1) := by decide +kernel
theorem dX13_signPoint_38 : decode cX13_signPoint 38 = .ok (.getfield 147, 3) := by decide +kernel
theorem dX13_signPoint_41 : decode cX13_signPoint 41 = .ok (.iconst 0, 1) := by decide +kernel
theorem dX13_signPoint_42 : decode cX13_signPoint 42 = .ok (.invokevirtual 766, 3) := by decide +kernel
theorem dX13_signPoint_45 : decode cX13_signPoint 45 = .ok (.istore 4, 2) := by decide +kernel
theorem dX13_signPoint_47 : decode cX13_signPoint 47 = .ok (.aload_n 0, 1) := by decide +kernel
theorem dX13_signPoint_48 : decode cX13_signPoint 48 = .ok (.aload_n 0, 1) := by decide +kernel
theorem dX13_signPoint_49 : decode cX13_signPoint 49 = .ok (.getfield 14, 3) := by decide +kernel
theorem dX13_signPoint_52 : decode cX13_signPoint 52 = .ok (.iload_n 3, 1) := by decide +kernel
theorem dX13_signPoint_53 : decode cX13_signPoint 53 = .ok (.invokevirtual 770, 3) := by decide +kernel
theorem dX13_signPoint_56 : decode cX13_signPoint 56 = .ok (.iload 4, 2) := by decide +kernel
theorem dX13_signPoint_58 : decode cX13_signPoint 58 = .ok (.ifCond .eq 19, 3) := by decide +kernel
theorem dX13_signPoint_61 : decode cX13_signPoint 61 = .ok (.aload_n 0, 1) := by decide +kernel
theorem dX13_signPoint_62 : decode cX13_signPoint 62 = .ok (.aload_n 0, 1) := by decide +kernel
theorem dX13_signPoint_63 : decode cX13_signPoint 63 = .ok (.getfield 186, 3) := by decide +kernel
theorem dX13_signPoint_66 : decode cX13_signPoint 66 = .ok (.iconst 0, 1) := by decide +kernel
theorem dX13_signPoint_67 : decode cX13_signPoint 67 = .ok (.invokevirtual 772, 3) := by decide +kernel
theorem dX13_signPoint_70 : decode cX13_signPoint 70 = .ok (.ifCond .eq 7, 3) := by decide +kernel
theorem dX13_signPoint_73 : decode cX13_signPoint 73 = .ok (.iconst 1, 1) := by decide +kernel
theorem dX13_signPoint_74 : decode cX13_signPoint 74 = .ok (.goto 4, 3) := by decide +kernel
theorem dX13_signPoint_77 : decode cX13_signPoint 77 = .ok (.iconst 0, 1) := by decide +kernel
theorem dX13_signPoint_78 : decode cX13_signPoint 78 = .ok (.istore 4, 2) := by decide +kernel
theorem dX13_signPoint_80 : decode cX13_signPoint 80 = .ok (.aload_n 0, 1) := by decide +kernel
theorem dX13_signPoint_81 : decode cX13_signPoint 81 = .ok (.getfield 129, 3) := by decide +kernel
theorem dX13_signPoint_84 : decode cX13_signPoint 84 = .ok (.aload_n 0, 1) := by decide +kernel
theorem dX13_signPoint_85 : decode cX13_signPoint 85 = .ok (.getfield 186, 3) := by decide +kernel
theorem dX13_signPoint_88 : decode cX13_signPoint 88 = .ok (.iconst 0, 1) := by decide +kernel
theorem dX13_signPoint_89 : decode cX13_signPoint 89 = .ok (.bipush 32, 2) := by decide +kernel
theorem dX13_signPoint_91 : decode cX13_signPoint 91 = .ok (.aload_n 0, 1) := by decide +kernel
theorem dX13_signPoint_92 : decode cX13_signPoint 92 = .ok (.getfield 269, 3) := by decide +kernel
theorem dX13_signPoint_95 : decode cX13_signPoint 95 = .ok (.invokevirtual 690, 3) := by decide +kernel
theorem dX13_signPoint_98 : decode cX13_signPoint 98 = .ok (.aload_n 0, 1) := by decide +kernel
theorem dX13_signPoint_99 : decode cX13_signPoint 99 = .ok (.getfield 129, 3) := by decide +kernel
theorem dX13_signPoint_102 : decode cX13_signPoint 102 = .ok (.aload_n 0, 1) := by decide +kernel
theorem dX13_signPoint_103 : decode cX13_signPoint 103 = .ok (.getfield 269, 3) := by decide +kernel
theorem dX13_signPoint_106 : decode cX13_signPoint 106 = .ok (.aload_n 0, 1) := by decide +kernel
theorem dX13_signPoint_107 : decode cX13_signPoint 107 = .ok (.getfield 257, 3) := by decide +kernel
theorem dX13_signPoint_110 : decode cX13_signPoint 110 = .ok (.iconst 0, 1) := by decide +kernel
theorem dX13_signPoint_111 : decode cX13_signPoint 111 = .ok (.bipush 32, 2) := by decide +kernel
theorem dX13_signPoint_113 : decode cX13_signPoint 113 = .ok (.invokevirtual 705, 3) := by decide +kernel
theorem dX13_signPoint_116 : decode cX13_signPoint 116 = .ok (.aload_n 0, 1) := by decide +kernel
theorem dX13_signPoint_117 : decode cX13_signPoint 117 = .ok (.getfield 129, 3) := by decide +kernel
theorem dX13_signPoint_120 : decode cX13_signPoint 120 = .ok (.aload_n 0, 1) := by decide +kernel
theorem dX13_signPoint_121 : decode cX13_signPoint 121 = .ok (.getfield 269, 3) := by decide +kernel
theorem dX13_signPoint_124 : decode cX13_signPoint 124 = .ok (.invokevirtual 749, 3) := by decide +kernel
theorem dX13_signPoint_127 : decode cX13_signPoint 127 = .ok (.istore 5, 2) := by decide +kernel
theorem dX13_signPoint_129 : decode cX13_signPoint 129 = .ok (.aload_n 0, 1) := by decide +kernel
theorem dX13_signPoint_130 : decode cX13_signPoint 130 = .ok (.getfield 129, 3) := by decide +kernel
theorem dX13_signPoint_133 : decode cX13_signPoint 133 = .ok (.aload_n 0, 1) := by decide +kernel
theorem dX13_signPoint_134 : decode cX13_signPoint 134 = .ok (.getfield 269, 3) := by decide +kernel
theorem dX13_signPoint_137 : decode cX13_signPoint 137 = .ok (.aload_n 0, 1) := by decide +kernel
theorem dX13_signPoint_138 : decode cX13_signPoint 138 = .ok (.getfield 269, 3) := by decide +kernel
theorem dX13_signPoint_141 : decode cX13_signPoint 141 = .ok (.invokevirtual 694, 3) := by decide +kernel
theorem dX13_signPoint_144 : decode cX13_signPoint 144 = .ok (.aload_n 0, 1) := by decide +kernel
theorem dX13_signPoint_145 : decode cX13_signPoint 145 = .ok (.getfield 129, 3) := by decide +kernel
theorem dX13_signPoint_148 : decode cX13_signPoint 148 = .ok (.aload_n 0, 1) := by decide +kernel
theorem dX13_signPoint_149 : decode cX13_signPoint 149 = .ok (.getfield 217, 3) := by decide +kernel
theorem dX13_signPoint_152 : decode cX13_signPoint 152 = .ok (.sipush 128, 3) := by decide +kernel
theorem dX13_signPoint_155 : decode cX13_signPoint 155 = .ok (.iload_n 1, 1) := by decide +kernel
theorem dX13_signPoint_156 : decode cX13_signPoint 156 = .ok (.imul, 1) := by decide +kernel
theorem dX13_signPoint_157 : decode cX13_signPoint 157 = .ok (.bipush 32, 2) := by decide +kernel
theorem dX13_signPoint_159 : decode cX13_signPoint 159 = .ok (.aload_n 0, 1) := by decide +kernel
theorem dX13_signPoint_160 : decode cX13_signPoint 160 = .ok (.getfield 272, 3) := by decide +kernel
theorem dX13_signPoint_163 : decode cX13_signPoint 163 = .ok (.invokevirtual 726, 3) := by decide +kernel
theorem dX13_signPoint_166 : decode cX13_signPoint 166 = .ok (.aload_n 0, 1) := by decide +kernel
theorem dX13_signPoint_167 : decode cX13_signPoint 167 = .ok (.getfield 129, 3) := by decide +kernel
theorem dX13_signPoint_170 : decode cX13_signPoint 170 = .ok (.aload_n 0, 1) := by decide +kernel
theorem dX13_signPoint_171 : decode cX13_signPoint 171 = .ok (.getfield 272, 3) := by decide +kernel
theorem dX13_signPoint_174 : decode cX13_signPoint 174 = .ok (.aload_n 0, 1) := by decide +kernel
theorem dX13_signPoint_175 : decode cX13_signPoint 175 = .ok (.getfield 272, 3) := by decide +kernel
theorem dX13_signPoint_178 : decode cX13_signPoint 178 = .ok (.invokevirtual 694, 3) := by decide +kernel
theorem dX13_signPoint_181 : decode cX13_signPoint 181 = .ok (.aload_n 0, 1) := by decide +kernel
theorem dX13_signPoint_182 : decode cX13_signPoint 182 = .ok (.getfield 129, 3) := by decide +kernel
theorem dX13_signPoint_185 : decode cX13_signPoint 185 = .ok (.aload_n 0, 1) := by decide +kernel
theorem dX13_signPoint_186 : decode cX13_signPoint 186 = .ok (.getfield 269, 3) := by decide +kernel
theorem dX13_signPoint_189 : decode cX13_signPoint 189 = .ok (.aload_n 0, 1) := by decide +kernel
theorem dX13_signPoint_190 : decode cX13_signPoint 190 = .ok (.getfield 272, 3) := by decide +kernel
theorem dX13_signPoint_193 : decode cX13_signPoint 193 = .ok (.aload_n 0, 1) := by decide +kernel
theorem dX13_signPoint_194 : decode cX13_signPoint 194 = .ok (.getfield 272, 3) := by decide +kernel
theorem dX13_signPoint_197 : decode cX13_signPoint 197 = .ok (.invokevirtual 736, 3) := by decide +kernel
theorem dX13_signPoint_200 : decode cX13_signPoint 200 = .ok (.aload_n 0, 1) := by decide +kernel
theorem dX13_signPoint_201 : decode cX13_signPoint 201 = .ok (.getfield 129, 3) := by decide +kernel
theorem dX13_signPoint_204 : decode cX13_signPoint 204 = .ok (.aload_n 0, 1) := by decide +kernel
theorem dX13_signPoint_205 : decode cX13_signPoint 205 = .ok (.getfield 272, 3) := by decide +kernel
theorem dX13_signPoint_208 : decode cX13_signPoint 208 = .ok (.aload_n 0, 1) := by decide +kernel
theorem dX13_signPoint_209 : decode cX13_signPoint 209 = .ok (.getfield 266, 3) := by decide +kernel
theorem dX13_signPoint_212 : decode cX13_signPoint 212 = .ok (.aload_n 0, 1) := by decide +kernel
theorem dX13_signPoint_213 : decode cX13_signPoint 213 = .ok (.getfield 272, 3) := by decide +kernel
theorem dX13_signPoint_216 : decode cX13_signPoint 216 = .ok (.invokevirtual 740, 3) := by decide +kernel
theorem dX13_signPoint_219 : decode cX13_signPoint 219 = .ok (.aload_n 0, 1) := by decide +kernel
theorem dX13_signPoint_220 : decode cX13_signPoint 220 = .ok (.getfield 129, 3) := by decide +kernel
theorem dX13_signPoint_223 : decode cX13_signPoint 223 = .ok (.aload_n 0, 1) := by decide +kernel
theorem dX13_signPoint_224 : decode cX13_signPoint 224 = .ok (.getfield 14, 3) := by decide +kernel
theorem dX13_signPoint_227 : decode cX13_signPoint 227 = .ok (.iload_n 3, 1) := by decide +kernel
theorem dX13_signPoint_228 : decode cX13_signPoint 228 = .ok (.bipush 32, 2) := by decide +kernel
theorem dX13_signPoint_230 : decode cX13_signPoint 230 = .ok (.aload_n 0, 1) := by decide +kernel
theorem dX13_signPoint_231 : decode cX13_signPoint 231 = .ok (.getfield 132, 3) := by decide +kernel
theorem dX13_signPoint_234 : decode cX13_signPoint 234 = .ok (.invokevirtual 726, 3) := by decide +kernel
theorem dX13_signPoint_237 : decode cX13_signPoint 237 = .ok (.aload_n 0, 1) := by decide +kernel
theorem dX13_signPoint_238 : decode cX13_signPoint 238 = .ok (.getfield 129, 3) := by decide +kernel
theorem dX13_signPoint_241 : decode cX13_signPoint 241 = .ok (.aload_n 0, 1) := by decide +kernel
theorem dX13_signPoint_242 : decode cX13_signPoint 242 = .ok (.getfield 132, 3) := by decide +kernel
theorem dX13_signPoint_245 : decode cX13_signPoint 245 = .ok (.aload_n 0, 1) := by decide +kernel
theorem dX13_signPoint_246 : decode cX13_signPoint 246 = .ok (.getfield 132, 3) := by decide +kernel
theorem dX13_signPoint_249 : decode cX13_signPoint 249 = .ok (.invokevirtual 694, 3) := by decide +kernel
theorem dX13_signPoint_252 : decode cX13_signPoint 252 = .ok (.aload_n 0, 1) := by decide +kernel
theorem dX13_signPoint_253 : decode cX13_signPoint 253 = .ok (.aload_n 0, 1) := by decide +kernel
theorem dX13_signPoint_254 : decode cX13_signPoint 254 = .ok (.getfield 144, 3) := by decide +kernel
theorem dX13_signPoint_257 : decode cX13_signPoint 257 = .ok (.invokevirtual 762, 3) := by decide +kernel
theorem dX13_signPoint_260 : decode cX13_signPoint 260 = .ok (.aload_n 0, 1) := by decide +kernel
theorem dX13_signPoint_261 : decode cX13_signPoint 261 = .ok (.getfield 129, 3) := by decide +kernel
theorem dX13_signPoint_264 : decode cX13_signPoint 264 = .ok (.aload_n 0, 1) := by decide +kernel
theorem dX13_signPoint_265 : decode cX13_signPoint 265 = .ok (.getfield 132, 3) := by decide +kernel
theorem dX13_signPoint_268 : decode cX13_signPoint 268 = .ok (.aload_n 0, 1) := by decide +kernel
theorem dX13_signPoint_269 : decode cX13_signPoint 269 = .ok (.getfield 153, 3) := by decide +kernel
theorem dX13_signPoint_272 : decode cX13_signPoint 272 = .ok (.iconst 0, 1) := by decide +kernel
theorem dX13_signPoint_273 : decode cX13_signPoint 273 = .ok (.bipush 32, 2) := by decide +kernel
theorem dX13_signPoint_275 : decode cX13_signPoint 275 = .ok (.aload_n 0, 1) := by decide +kernel
theorem dX13_signPoint_276 : decode cX13_signPoint 276 = .ok (.getfield 132, 3) := by decide +kernel
theorem dX13_signPoint_279 : decode cX13_signPoint 279 = .ok (.invokevirtual 698, 3) := by decide +kernel
theorem dX13_signPoint_282 : decode cX13_signPoint 282 = .ok (.aload_n 0, 1) := by decide +kernel
theorem dX13_signPoint_283 : decode cX13_signPoint 283 = .ok (.getfield 129, 3) := by decide +kernel
theorem dX13_signPoint_286 : decode cX13_signPoint 286 = .ok (.aload_n 0, 1) := by decide +kernel
theorem dX13_signPoint_287 : decode cX13_signPoint 287 = .ok (.getfield 272, 3) := by decide +kernel
theorem dX13_signPoint_290 : decode cX13_signPoint 290 = .ok (.aload_n 0, 1) := by decide +kernel
theorem dX13_signPoint_291 : decode cX13_signPoint 291 = .ok (.getfield 132, 3) := by decide +kernel
theorem dX13_signPoint_294 : decode cX13_signPoint 294 = .ok (.aload_n 0, 1) := by decide +kernel
theorem dX13_signPoint_295 : decode cX13_signPoint 295 = .ok (.getfield 272, 3) := by decide +kernel
theorem dX13_signPoint_298 : decode cX13_signPoint 298 = .ok (.invokevirtual 736, 3) := by decide +kernel
theorem dX13_signPoint_301 : decode cX13_signPoint 301 = .ok (.aload_n 0, 1) := by decide +kernel
theorem dX13_signPoint_302 : decode cX13_signPoint 302 = .ok (.getfield 129, 3) := by decide +kernel
theorem dX13_signPoint_305 : decode cX13_signPoint 305 = .ok (.aload_n 0, 1) := by decide +kernel
theorem dX13_signPoint_306 : decode cX13_signPoint 306 = .ok (.getfield 272, 3) := by decide +kernel
theorem dX13_signPoint_309 : decode cX13_signPoint 309 = .ok (.aload_n 0, 1) := by decide +kernel
theorem dX13_signPoint_310 : decode cX13_signPoint 310 = .ok (.getfield 272, 3) := by decide +kernel
theorem dX13_signPoint_313 : decode cX13_signPoint 313 = .ok (.invokevirtual 702, 3) := by decide +kernel
theorem dX13_signPoint_316 : decode cX13_signPoint 316 = .ok (.iload 5, 2) := by decide +kernel
theorem dX13_signPoint_318 : decode cX13_signPoint 318 = .ok (.ifCond .ne 17, 3) := by decide +kernel
theorem dX13_signPoint_321 : decode cX13_signPoint 321 = .ok (.aload_n 0, 1) := by decide +kernel
theorem dX13_signPoint_322 : decode cX13_signPoint 322 = .ok (.getfield 129, 3) := by decide +kernel
theorem dX13_signPoint_325 : decode cX13_signPoint 325 = .ok (.aload_n 0, 1) := by decide +kernel
theorem dX13_signPoint_326 : decode cX13_signPoint 326 = .ok (.getfield 272, 3) := by decide +kernel
theorem dX13_signPoint_329 : decode cX13_signPoint 329 = .ok (.invokevirtual 749, 3) := by decide +kernel
theorem dX13_signPoint_332 : decode cX13_signPoint 332 = .ok (.ifCond .eq 7, 3) := by decide +kernel
theorem dX13_signPoint_335 : decode cX13_signPoint 335 = .ok (.iconst 1, 1) := by decide +kernel
theorem dX13_signPoint_336 : decode cX13_signPoint 336 = .ok (.goto 4, 3) := by decide +kernel
theorem dX13_signPoint_339 : decode cX13_signPoint 339 = .ok (.iconst 0, 1) := by decide +kernel
theorem dX13_signPoint_340 : decode cX13_signPoint 340 = .ok (.istore 5, 2) := by decide +kernel
theorem dX13_signPoint_342 : decode cX13_signPoint 342 = .ok (.aload_n 0, 1) := by decide +kernel
theorem dX13_signPoint_343 : decode cX13_signPoint 343 = .ok (.getfield 129, 3) := by decide +kernel
theorem dX13_signPoint_346 : decode cX13_signPoint 346 = .ok (.aload_n 0, 1) := by decide +kernel
theorem dX13_signPoint_347 : decode cX13_signPoint 347 = .ok (.getfield 272, 3) := by decide +kernel
theorem dX13_signPoint_350 : decode cX13_signPoint 350 = .ok (.aload_n 0, 1) := by decide +kernel
theorem dX13_signPoint_351 : decode cX13_signPoint 351 = .ok (.getfield 257, 3) := by decide +kernel
theorem dX13_signPoint_354 : decode cX13_signPoint 354 = .ok (.bipush 32, 2) := by decide +kernel
theorem dX13_signPoint_356 : decode cX13_signPoint 356 = .ok (.bipush 32, 2) := by decide +kernel
theorem dX13_signPoint_358 : decode cX13_signPoint 358 = .ok (.invokevirtual 705, 3) := by decide +kernel
theorem dX13_signPoint_361 : decode cX13_signPoint 361 = .ok (.aload_n 0, 1) := by decide +kernel
theorem dX13_signPoint_362 : decode cX13_signPoint 362 = .ok (.bipush 64, 2) := by decide +kernel
theorem dX13_signPoint_364 : decode cX13_signPoint 364 = .ok (.putfield 954, 3) := by decide +kernel
theorem dX13_signPoint_367 : decode cX13_signPoint 367 = .ok (.iload 5, 2) := by decide +kernel
theorem dX13_signPoint_369 : decode cX13_signPoint 369 = .ok (.ifCond .ne 8, 3) := by decide +kernel
theorem dX13_signPoint_372 : decode cX13_signPoint 372 = .ok (.iload 4, 2) := by decide +kernel
theorem dX13_signPoint_374 : decode cX13_signPoint 374 = .ok (.ifCond .ne 8, 3) := by decide +kernel
theorem dX13_signPoint_377 : decode cX13_signPoint 377 = .ok (.bipush (-4), 2) := by decide +kernel
theorem dX13_signPoint_379 : decode cX13_signPoint 379 = .ok (.goto 4, 3) := by decide +kernel
theorem dX13_signPoint_382 : decode cX13_signPoint 382 = .ok (.iconst 0, 1) := by decide +kernel
theorem dX13_signPoint_383 : decode cX13_signPoint 383 = .ok (.ireturn, 1) := by decide +kernel
abbrev rmX13_signPoint : Room := { frames := 7, cells := 0, slots := 0, locals := 157 }
set_option maxHeartbeats 4000000 in
set_option maxRecDepth 100000 in
theorem wB_X13_signPoint_340 {G : mG} {F : Nat} {x : mXT} {sz : Nat} {r0 : Int32} {M0 : mM} (X : mCX G RX13 cX13_signPoint 6 (some .int) "signPoint" rmX13_signPoint x) (hQ : mQI x r0 M0 (sz, 0, 0)) {l0 : Nat} {l4 : Int32} {sk0 : Int32} {M : mM} (h : B_X13_signPoint_340 G F l0 l4 sk0 M = some (r0, M0)) : WW x (sz, 0, 0) M 340 [(0, .ref l0), (4, .int l4)] [.int sk0] := by
  unfold B_X13_signPoint_340 at h
  refine ww_istore 340 X dX13_signPoint_340 (lv' := [(0, .ref l0), (4, .int l4), (5, .int sk0)]) (by decide) [1, 2, 0] rfl ?_
  refine ww_aload_n 342 X dX13_signPoint_342 0 rfl rfl ?_
  obtain ⟨v343, e343, h⟩ := bO_some h
  refine ww_getR 343 X dX13_signPoint_343 fG_X13_129 e343 ?_
  refine ww_aload_n 346 X dX13_signPoint_346 0 rfl rfl ?_
  obtain ⟨v347, e347, h⟩ := bO_some h
  refine ww_getR 347 X dX13_signPoint_347 fG_X13_272 e347 ?_
  refine ww_aload_n 350 X dX13_signPoint_350 0 rfl rfl ?_
  obtain ⟨v351, e351, h⟩ := bO_some h
  refine ww_getR 351 X dX13_signPoint_351 fG_X13_257 e351 ?_
  refine ww_bipush 354 X (v := (32 : Int32)) dX13_signPoint_354 (by decide) ?_
  refine ww_bipush 356 X (v := (32 : Int32)) dX13_signPoint_356 (by decide) ?_
  obtain ⟨_, f358, h⟩ := bO_some h
  obtain ⟨M358, e358, h⟩ := bO_some h
  refine ww_callVV0 358 X dX13_signPoint_358 mY_X12_store mL_X13_705 (rcv_spec f358) ⟨_, _, rfl⟩ (by decide) (As := [.ref v347, .ref v351, .int (32 : Int32), .int (32 : Int32)]) (rest := []) rfl rfl ⟨Nat.le_of_ble_eq_true rfl, Nat.le_of_ble_eq_true rfl⟩ (Nat.le_of_ble_eq_true rfl) (fun l D A => c_X12_store l D A e358) ?_
  refine ww_aload_n 361 X dX13_signPoint_361 0 rfl rfl ?_
  refine ww_bipush 362 X (v := (64 : Int32)) dX13_signPoint_362 (by decide) ?_
  obtain ⟨M364, e364, h⟩ := bO_some h
  refine ww_putI 364 X dX13_signPoint_364 (fP_X13_954 _) e364 ?_
  refine ww_iload 367 X dX13_signPoint_367 2 rfl ?_
  refine ww_if_ne 369 377 X dX13_signPoint_369 (by decide) (fun q => ?_) (fun q => ?_)
  · replace h := (if_neg q).symm.trans h
    refine ww_bipush 377 X (v := (-4 : Int32)) dX13_signPoint_377 (by decide) ?_
    refine ww_goto 379 383 X dX13_signPoint_379 (by decide) ?_
    exact ww_iretE 383 X hQ dX13_signPoint_383 h
  · replace h := (if_pos q).symm.trans h
    refine ww_iload 372 X dX13_signPoint_372 1 rfl ?_
    refine ww_if_ne 374 382 X dX13_signPoint_374 (by decide) (fun q => ?_) (fun q => ?_)
    · replace h := (if_neg q).symm.trans h
      refine ww_iconst 382 X (v := (0 : Int32)) dX13_signPoint_382 (by decide) ?_
      exact ww_iretE 383 X hQ dX13_signPoint_383 h
    · replace h := (if_pos q).symm.trans h
      refine ww_bipush 377 X (v := (-4 : Int32)) dX13_signPoint_377 (by decide) ?_
      refine ww_goto 379 383 X dX13_signPoint_379 (by decide) ?_
      exact ww_iretE 383 X hQ dX13_signPoint_383 h
set_option maxHeartbeats 4000000 in
set_option maxRecDepth 100000 in
theorem wB_X13_signPoint_78 {G : mG} {F : Nat} {x : mXT} {sz : Nat} {r0 : Int32} {M0 : mM} (X : mCX G RX13 cX13_signPoint 6 (some .int) "signPoint" rmX13_signPoint x) (hQ : mQI x r0 M0 (sz, 0, 0)) {l0 : Nat} {l1 : Int32} {l3 : Int32} {sk0 : Int32} {M : mM} (h : B_X13_signPoint_78 G F l0 l1 l3 sk0 M = some (r0, M0)) : WW x (sz, 0, 0) M 78 [(0, .ref l0), (1, .int l1), (3, .int l3)] [.int sk0] := by
  unfold B_X13_signPoint_78 at h
  refine ww_istore 78 X dX13_signPoint_78 (lv' := [(0, .ref l0), (1, .int l1), (3, .int l3), (4, .int sk0)]) (by decide) [1, 2, 3, 0] rfl ?_
  refine ww_aload_n 80 X dX13_signPoint_80 0 rfl rfl ?_
  obtain ⟨v81, e81, h⟩ := bO_some h
  refine ww_getR 81 X dX13_signPoint_81 fG_X13_129 e81 ?_
  refine ww_aload_n 84 X dX13_signPoint_84 0 rfl rfl ?_
  obtain ⟨v85, e85, h⟩ := bO_some h
  refine ww_getR 85 X dX13_signPoint_85 fG_X13_186 e85 ?_
  refine ww_iconst 88 X (v := (0 : Int32)) dX13_signPoint_88 (by decide) ?_
  refine ww_bipush 89 X (v := (32 : Int32)) dX13_signPoint_89 (by decide) ?_
  refine ww_aload_n 91 X dX13_signPoint_91 0 rfl rfl ?_
  obtain ⟨v92, e92, h⟩ := bO_some h
  refine ww_getR 92 X dX13_signPoint_92 fG_X13_269 e92 ?_
  obtain ⟨_, f95, h⟩ := bO_some h
  obtain ⟨M95, e95, h⟩ := bO_some h
  refine ww_callVV0 95 X dX13_signPoint_95 mY_X12_reduce mL_X13_690 (rcv_spec f95) ⟨_, _, rfl⟩ (by decide) (As := [.ref v85, .int (0 : Int32), .int (32 : Int32), .ref v92]) (rest := []) rfl rfl ⟨Nat.le_of_ble_eq_true rfl, Nat.le_of_ble_eq_true rfl⟩ (Nat.le_of_ble_eq_true rfl) (fun l D A => c_X12_reduce l D A e95) ?_
  refine ww_aload_n 98 X dX13_signPoint_98 0 rfl rfl ?_
  obtain ⟨v99, e99, h⟩ := bO_some h
  refine ww_getR 99 X dX13_signPoint_99 fG_X13_129 e99 ?_
  refine ww_aload_n 102 X dX13_signPoint_102 0 rfl rfl ?_
  obtain ⟨v103, e103, h⟩ := bO_some h
  refine ww_getR 103 X dX13_signPoint_103 fG_X13_269 e103 ?_
  refine ww_aload_n 106 X dX13_signPoint_106 0 rfl rfl ?_
  obtain ⟨v107, e107, h⟩ := bO_some h
  refine ww_getR 107 X dX13_signPoint_107 fG_X13_257 e107 ?_
  refine ww_iconst 110 X (v := (0 : Int32)) dX13_signPoint_110 (by decide) ?_
  refine ww_bipush 111 X (v := (32 : Int32)) dX13_signPoint_111 (by decide) ?_
  obtain ⟨_, f113, h⟩ := bO_some h
  obtain ⟨M113, e113, h⟩ := bO_some h
  refine ww_callVV0 113 X dX13_signPoint_113 mY_X12_store mL_X13_705 (rcv_spec f113) ⟨_, _, rfl⟩ (by decide) (As := [.ref v103, .ref v107, .int (0 : Int32), .int (32 : Int32)]) (rest := []) rfl rfl ⟨Nat.le_of_ble_eq_true rfl, Nat.le_of_ble_eq_true rfl⟩ (Nat.le_of_ble_eq_true rfl) (fun l D A => c_X12_store l D A e113) ?_
  refine ww_aload_n 116 X dX13_signPoint_116 0 rfl rfl ?_
  obtain ⟨v117, e117, h⟩ := bO_some h
  refine ww_getR 117 X dX13_signPoint_117 fG_X13_129 e117 ?_
  refine ww_aload_n 120 X dX13_signPoint_120 0 rfl rfl ?_
  obtain ⟨v121, e121, h⟩ := bO_some h
  refine ww_getR 121 X dX13_signPoint_121 fG_X13_269 e121 ?_
  obtain ⟨_, f124, h⟩ := bO_some h
  obtain ⟨v124, M124, e124, h⟩ := bP_some h
  refine ww_callVI0 124 X dX13_signPoint_124 mY_X12_isZero mL_X13_749 (rcv_spec f124) ⟨_, _, rfl⟩ (by decide) (As := [.ref v121]) (rest := []) rfl rfl ⟨Nat.le_of_ble_eq_true rfl, Nat.le_of_ble_eq_true rfl⟩ (Nat.le_of_ble_eq_true rfl) (fun l D A => c_X12_isZero l D A e124) ?_
  refine ww_istore 127 X dX13_signPoint_127 (lv' := [(0, .ref l0), (1, .int l1), (3, .int l3), (4, .int sk0), (5, .int v124)]) (by decide) [1, 2, 3, 4, 0] rfl ?_
  refine ww_aload_n 129 X dX13_signPoint_129 0 rfl rfl ?_
  obtain ⟨v130, e130, h⟩ := bO_some h
  refine ww_getR 130 X dX13_signPoint_130 fG_X13_129 e130 ?_
  refine ww_aload_n 133 X dX13_signPoint_133 0 rfl rfl ?_
  obtain ⟨v134, e134, h⟩ := bO_some h
  refine ww_getR 134 X dX13_signPoint_134 fG_X13_269 e134 ?_
  refine ww_aload_n 137 X dX13_signPoint_137 0 rfl rfl ?_
  obtain ⟨v138, e138, h⟩ := bO_some h
  refine ww_getR 138 X dX13_signPoint_138 fG_X13_269 e138 ?_
  obtain ⟨_, f141, h⟩ := bO_some h
  obtain ⟨M141, e141, h⟩ := bO_some h
  refine ww_callVV0 141 X dX13_signPoint_141 mY_X12_into mL_X13_694 (rcv_spec f141) ⟨_, _, rfl⟩ (by decide) (As := [.ref v134, .ref v138]) (rest := []) rfl rfl ⟨Nat.le_of_ble_eq_true rfl, Nat.le_of_ble_eq_true rfl⟩ (Nat.le_of_ble_eq_true rfl) (fun l D A => c_X12_into l D A e141) ?_
  refine ww_aload_n 144 X dX13_signPoint_144 0 rfl rfl ?_
  obtain ⟨v145, e145, h⟩ := bO_some h
  refine ww_getR 145 X dX13_signPoint_145 fG_X13_129 e145 ?_
  refine ww_aload_n 148 X dX13_signPoint_148 0 rfl rfl ?_
  obtain ⟨v149, e149, h⟩ := bO_some h
  refine ww_getR 149 X dX13_signPoint_149 fG_X13_217 e149 ?_
  refine ww_sipush 152 X (v := (128 : Int32)) dX13_signPoint_152 (by decide) ?_
  refine ww_iload_n 155 X dX13_signPoint_155 1 rfl rfl ?_
  refine ww_imul 156 X dX13_signPoint_156 ?_
  refine ww_bipush 157 X (v := (32 : Int32)) dX13_signPoint_157 (by decide) ?_
  refine ww_aload_n 159 X dX13_signPoint_159 0 rfl rfl ?_
  obtain ⟨v160, e160, h⟩ := bO_some h
  refine ww_getR 160 X dX13_signPoint_160 fG_X13_272 e160 ?_
  obtain ⟨_, f163, h⟩ := bO_some h
  obtain ⟨M163, e163, h⟩ := bO_some h
  refine ww_callVV0 163 X dX13_signPoint_163 mY_X12_load mL_X13_726 (rcv_spec f163) ⟨_, _, rfl⟩ (by decide) (As := [.ref v149, .int ((128 : Int32) * l1), .int (32 : Int32), .ref v160]) (rest := []) rfl rfl ⟨Nat.le_of_ble_eq_true rfl, Nat.le_of_ble_eq_true rfl⟩ (Nat.le_of_ble_eq_true rfl) (fun l D A => c_X12_load l D A e163) ?_
  refine ww_aload_n 166 X dX13_signPoint_166 0 rfl rfl ?_
  obtain ⟨v167, e167, h⟩ := bO_some h
  refine ww_getR 167 X dX13_signPoint_167 fG_X13_129 e167 ?_
  refine ww_aload_n 170 X dX13_signPoint_170 0 rfl rfl ?_
  obtain ⟨v171, e171, h⟩ := bO_some h
  refine ww_getR 171 X dX13_signPoint_171 fG_X13_272 e171 ?_
  refine ww_aload_n 174 X dX13_signPoint_174 0 rfl rfl ?_
  obtain ⟨v175, e175, h⟩ := bO_some h
  refine ww_getR 175 X dX13_signPoint_175 fG_X13_272 e175 ?_
  obtain ⟨_, f178, h⟩ := bO_some h
  obtain ⟨M178, e178, h⟩ := bO_some h
  refine ww_callVV0 178 X dX13_signPoint_178 mY_X12_into mL_X13_694 (rcv_spec f178) ⟨_, _, rfl⟩ (by decide) (As := [.ref v171, .ref v175]) (rest := []) rfl rfl ⟨Nat.le_of_ble_eq_true rfl, Nat.le_of_ble_eq_true rfl⟩ (Nat.le_of_ble_eq_true rfl) (fun l D A => c_X12_into l D A e178) ?_
  refine ww_aload_n 181 X dX13_signPoint_181 0 rfl rfl ?_
  obtain ⟨v182, e182, h⟩ := bO_some h
  refine ww_getR 182 X dX13_signPoint_182 fG_X13_129 e182 ?_
  refine ww_aload_n 185 X dX13_signPoint_185 0 rfl rfl ?_
  obtain ⟨v186, e186, h⟩ := bO_some h
  refine ww_getR 186 X dX13_signPoint_186 fG_X13_269 e186 ?_
  refine ww_aload_n 189 X dX13_signPoint_189 0 rfl rfl ?_
  obtain ⟨v190, e190, h⟩ := bO_some h
  refine ww_getR 190 X dX13_signPoint_190 fG_X13_272 e190 ?_
  refine ww_aload_n 193 X dX13_signPoint_193 0 rfl rfl ?_
  obtain ⟨v194, e194, h⟩ := bO_some h
  refine ww_getR 194 X dX13_signPoint_194 fG_X13_272 e194 ?_
  obtain ⟨_, f197, h⟩ := bO_some h
  obtain ⟨M197, e197, h⟩ := bO_some h
  refine ww_callVV0 197 X dX13_signPoint_197 mY_X12_product mL_X13_736 (rcv_spec f197) ⟨_, _, rfl⟩ (by decide) (As := [.ref v186, .ref v190, .ref v194]) (rest := []) rfl rfl ⟨Nat.le_of_ble_eq_true rfl, Nat.le_of_ble_eq_true rfl⟩ (Nat.le_of_ble_eq_true rfl) (fun l D A => c_X12_product l D A e197) ?_
  refine ww_aload_n 200 X dX13_signPoint_200 0 rfl rfl ?_
  obtain ⟨v201, e201, h⟩ := bO_some h
  refine ww_getR 201 X dX13_signPoint_201 fG_X13_129 e201 ?_
  refine ww_aload_n 204 X dX13_signPoint_204 0 rfl rfl ?_
  obtain ⟨v205, e205, h⟩ := bO_some h
  refine ww_getR 205 X dX13_signPoint_205 fG_X13_272 e205 ?_
  refine ww_aload_n 208 X dX13_signPoint_208 0 rfl rfl ?_
  obtain ⟨v209, e209, h⟩ := bO_some h
  refine ww_getR 209 X dX13_signPoint_209 fG_X13_266 e209 ?_
  refine ww_aload_n 212 X dX13_signPoint_212 0 rfl rfl ?_
  obtain ⟨v213, e213, h⟩ := bO_some h
  refine ww_getR 213 X dX13_signPoint_213 fG_X13_272 e213 ?_
  obtain ⟨_, f216, h⟩ := bO_some h
  obtain ⟨M216, e216, h⟩ := bO_some h
  refine ww_callVV0 216 X dX13_signPoint_216 mY_X12_add mL_X13_740 (rcv_spec f216) ⟨_, _, rfl⟩ (by decide) (As := [.ref v205, .ref v209, .ref v213]) (rest := []) rfl rfl ⟨Nat.le_of_ble_eq_true rfl, Nat.le_of_ble_eq_true rfl⟩ (Nat.le_of_ble_eq_true rfl) (fun l D A => c_X12_add l D A e216) ?_
  refine ww_aload_n 219 X dX13_signPoint_219 0 rfl rfl ?_
  obtain ⟨v220, e220, h⟩ := bO_some h
  refine ww_getR 220 X dX13_signPoint_220 fG_X13_129 e220 ?_
  refine ww_aload_n 223 X dX13_signPoint_223 0 rfl rfl ?_
  obtain ⟨v224, e224, h⟩ := bO_some h
  refine ww_getR 224 X dX13_signPoint_224 fG_X13_14 e224 ?_
  refine ww_iload_n 227 X dX13_signPoint_227 2 rfl rfl ?_
  refine ww_bipush 228 X (v := (32 : Int32)) dX13_signPoint_228 (by decide) ?_
  refine ww_aload_n 230 X dX13_signPoint_230 0 rfl rfl ?_
  obtain ⟨v231, e231, h⟩ := bO_some h
  refine ww_getR 231 X dX13_signPoint_231 fG_X13_132 e231 ?_
  obtain ⟨_, f234, h⟩ := bO_some h
  obtain ⟨M234, e234, h⟩ := bO_some h
  refine ww_callVV0 234 X dX13_signPoint_234 mY_X12_load mL_X13_726 (rcv_spec f234) ⟨_, _, rfl⟩ (by decide) (As := [.ref v224, .int l3, .int (32 : Int32), .ref v231]) (rest := []) rfl rfl ⟨Nat.le_of_ble_eq_true rfl, Nat.le_of_ble_eq_true rfl⟩ (Nat.le_of_ble_eq_true rfl) (fun l D A => c_X12_load l D A e234) ?_
  refine ww_aload_n 237 X dX13_signPoint_237 0 rfl rfl ?_
  obtain ⟨v238, e238, h⟩ := bO_some h
  refine ww_getR 238 X dX13_signPoint_238 fG_X13_129 e238 ?_
  refine ww_aload_n 241 X dX13_signPoint_241 0 rfl rfl ?_
  obtain ⟨v242, e242, h⟩ := bO_some h
  refine ww_getR 242 X dX13_signPoint_242 fG_X13_132 e242 ?_
  refine ww_aload_n 245 X dX13_signPoint_245 0 rfl rfl ?_
  obtain ⟨v246, e246, h⟩ := bO_some h
  refine ww_getR 246 X dX13_signPoint_246 fG_X13_132 e246 ?_
  obtain ⟨_, f249, h⟩ := bO_some h
  obtain ⟨M249, e249, h⟩ := bO_some h
  refine ww_callVV0 249 X dX13_signPoint_249 mY_X12_into mL_X13_694 (rcv_spec f249) ⟨_, _, rfl⟩ (by decide) (As := [.ref v242, .ref v246]) (rest := []) rfl rfl ⟨Nat.le_of_ble_eq_true rfl, Nat.le_of_ble_eq_true rfl⟩ (Nat.le_of_ble_eq_true rfl) (fun l D A => c_X12_into l D A e249) ?_
  refine ww_aload_n 252 X dX13_signPoint_252 0 rfl rfl ?_
  refine ww_aload_n 253 X dX13_signPoint_253 0 rfl rfl ?_
  obtain ⟨v254, e254, h⟩ := bO_some h
  refine ww_getR 254 X dX13_signPoint_254 fG_X13_144 e254 ?_
  obtain ⟨_, f257, h⟩ := bO_some h
  obtain ⟨M257, e257, h⟩ := bO_some h
  refine ww_callVV0 257 X dX13_signPoint_257 mY_X13_setLessTwo mL_X13_762 (rcv_spec f257) ⟨_, _, rfl⟩ (by decide) (As := [.ref v254]) (rest := []) rfl rfl ⟨Nat.le_of_ble_eq_true rfl, Nat.le_of_ble_eq_true rfl⟩ (Nat.le_of_ble_eq_true rfl) (fun l D A => c_X13_setLessTwo l D A e257) ?_
  refine ww_aload_n 260 X dX13_signPoint_260 0 rfl rfl ?_
  obtain ⟨v261, e261, h⟩ := bO_some h
  refine ww_getR 261 X dX13_signPoint_261 fG_X13_129 e261 ?_
  refine ww_aload_n 264 X dX13_signPoint_264 0 rfl rfl ?_
  obtain ⟨v265, e265, h⟩ := bO_some h
  refine ww_getR 265 X dX13_signPoint_265 fG_X13_132 e265 ?_
  refine ww_aload_n 268 X dX13_signPoint_268 0 rfl rfl ?_
  obtain ⟨v269, e269, h⟩ := bO_some h
  refine ww_getR 269 X dX13_signPoint_269 fG_X13_153 e269 ?_
  refine ww_iconst 272 X (v := (0 : Int32)) dX13_signPoint_272 (by decide) ?_
  refine ww_bipush 273 X (v := (32 : Int32)) dX13_signPoint_273 (by decide) ?_
  refine ww_aload_n 275 X dX13_signPoint_275 0 rfl rfl ?_
  obtain ⟨v276, e276, h⟩ := bO_some h
  refine ww_getR 276 X dX13_signPoint_276 fG_X13_132 e276 ?_
  obtain ⟨_, f279, h⟩ := bO_some h
  obtain ⟨M279, e279, h⟩ := bO_some h
  refine ww_callVV0 279 X dX13_signPoint_279 mY_X12_power mL_X13_698 (rcv_spec f279) ⟨_, _, rfl⟩ (by decide) (As := [.ref v265, .ref v269, .int (0 : Int32), .int (32 : Int32), .ref v276]) (rest := []) rfl rfl ⟨Nat.le_of_ble_eq_true rfl, Nat.le_of_ble_eq_true rfl⟩ (Nat.le_of_ble_eq_true rfl) (fun l D A => c_X12_power l D A e279) ?_
  refine ww_aload_n 282 X dX13_signPoint_282 0 rfl rfl ?_
  obtain ⟨v283, e283, h⟩ := bO_some h
  refine ww_getR 283 X dX13_signPoint_283 fG_X13_129 e283 ?_
  refine ww_aload_n 286 X dX13_signPoint_286 0 rfl rfl ?_
  obtain ⟨v287, e287, h⟩ := bO_some h
  refine ww_getR 287 X dX13_signPoint_287 fG_X13_272 e287 ?_
  refine ww_aload_n 290 X dX13_signPoint_290 0 rfl rfl ?_
  obtain ⟨v291, e291, h⟩ := bO_some h
  refine ww_getR 291 X dX13_signPoint_291 fG_X13_132 e291 ?_
  refine ww_aload_n 294 X dX13_signPoint_294 0 rfl rfl ?_
  obtain ⟨v295, e295, h⟩ := bO_some h
  refine ww_getR 295 X dX13_signPoint_295 fG_X13_272 e295 ?_
  obtain ⟨_, f298, h⟩ := bO_some h
  obtain ⟨M298, e298, h⟩ := bO_some h
  refine ww_callVV0 298 X dX13_signPoint_298 mY_X12_product mL_X13_736 (rcv_spec f298) ⟨_, _, rfl⟩ (by decide) (As := [.ref v287, .ref v291, .ref v295]) (rest := []) rfl rfl ⟨Nat.le_of_ble_eq_true rfl, Nat.le_of_ble_eq_true rfl⟩ (Nat.le_of_ble_eq_true rfl) (fun l D A => c_X12_product l D A e298) ?_
  refine ww_aload_n 301 X dX13_signPoint_301 0 rfl rfl ?_
  obtain ⟨v302, e302, h⟩ := bO_some h
  refine ww_getR 302 X dX13_signPoint_302 fG_X13_129 e302 ?_
  refine ww_aload_n 305 X dX13_signPoint_305 0 rfl rfl ?_
  obtain ⟨v306, e306, h⟩ := bO_some h
  refine ww_getR 306 X dX13_signPoint_306 fG_X13_272 e306 ?_
  refine ww_aload_n 309 X dX13_signPoint_309 0 rfl rfl ?_
  obtain ⟨v310, e310, h⟩ := bO_some h
  refine ww_getR 310 X dX13_signPoint_310 fG_X13_272 e310 ?_
  obtain ⟨_, f313, h⟩ := bO_some h
  obtain ⟨M313, e313, h⟩ := bO_some h
  refine ww_callVV0 313 X dX13_signPoint_313 mY_X12_outOf mL_X13_702 (rcv_spec f313) ⟨_, _, rfl⟩ (by decide) (As := [.ref v306, .ref v310]) (rest := []) rfl rfl ⟨Nat.le_of_ble_eq_true rfl, Nat.le_of_ble_eq_true rfl⟩ (Nat.le_of_ble_eq_true rfl) (fun l D A => c_X12_outOf l D A e313) ?_
  refine ww_iload 316 X dX13_signPoint_316 4 rfl ?_
  refine ww_if_ne 318 335 X dX13_signPoint_318 (by decide) (fun q => ?_) (fun q => ?_)
  · replace h := (if_neg q).symm.trans h
    refine ww_iconst 335 X (v := (1 : Int32)) dX13_signPoint_335 (by decide) ?_
    refine ww_goto 336 340 X dX13_signPoint_336 (by decide) ?_
    exact ww_sub [0, 3] rfl (wB_X13_signPoint_340 X hQ h)
  · replace h := (if_pos q).symm.trans h
    refine ww_aload_n 321 X dX13_signPoint_321 0 rfl rfl ?_
    obtain ⟨v322, e322, h⟩ := bO_some h
    refine ww_getR 322 X dX13_signPoint_322 fG_X13_129 e322 ?_
    refine ww_aload_n 325 X dX13_signPoint_325 0 rfl rfl ?_
    obtain ⟨v326, e326, h⟩ := bO_some h
    refine ww_getR 326 X dX13_signPoint_326 fG_X13_272 e326 ?_
    obtain ⟨_, f329, h⟩ := bO_some h
    obtain ⟨v329, M329, e329, h⟩ := bP_some h
    refine ww_callVI0 329 X dX13_signPoint_329 mY_X12_isZero mL_X13_749 (rcv_spec f329) ⟨_, _, rfl⟩ (by decide) (As := [.ref v326]) (rest := []) rfl rfl ⟨Nat.le_of_ble_eq_true rfl, Nat.le_of_ble_eq_true rfl⟩ (Nat.le_of_ble_eq_true rfl) (fun l D A => c_X12_isZero l D A e329) ?_
    refine ww_if_eq 332 339 X dX13_signPoint_332 (by decide) (fun q => ?_) (fun q => ?_)
    · replace h := (if_pos q).symm.trans h
      refine ww_iconst 339 X (v := (0 : Int32)) dX13_signPoint_339 (by decide) ?_
      exact ww_sub [0, 3] rfl (wB_X13_signPoint_340 X hQ h)
    · replace h := (if_neg q).symm.trans h
      refine ww_iconst 335 X (v := (1 : Int32)) dX13_signPoint_335 (by decide) ?_
      refine ww_goto 336 340 X dX13_signPoint_336 (by decide) ?_
      exact ww_sub [0, 3] rfl (wB_X13_signPoint_340 X hQ h)
set_option maxHeartbeats 4000000 in
set_option maxRecDepth 100000 in
theorem wP_X13_signPoint {G : mG} {F : Nat} {x : mXT} {sz : Nat} {r0 : Int32} {M0 : mM} (X : mCX G RX13 cX13_signPoint 6 (some .int) "signPoint" rmX13_signPoint x) (hQ : mQI x r0 M0 (sz, 0, 0)) {l0 : Nat} {l1 : Int32} {l2 : Int32} {M : mM} (h : P_X13_signPoint G F l0 l1 l2 M = some (r0, M0)) : WW x (sz, 0, 0) M 0 [(0, .ref l0), (1, .int l1), (2, .int l2)] [] := by
  unfold P_X13_signPoint at h
  refine ww_sipush 0 X (v := (8192 : Int32)) dX13_signPoint_0 (by decide) ?_
  refine ww_iload_n 3 X dX13_signPoint_3 2 rfl rfl ?_
  refine ww_imul 4 X dX13_signPoint_4 ?_
  refine ww_istore_n 5 X dX13_signPoint_5 (lv' := [(0, .ref l0), (1, .int l1), (2, .int l2), (3, .int ((8192 : Int32) * l2))]) rfl (by decide) [1, 2, 3, 0] rfl ?_
  refine ww_aload_n 6 X dX13_signPoint_6 0 rfl rfl ?_
  obtain ⟨v7, e7, h⟩ := bO_some h
  refine ww_getR 7 X dX13_signPoint_7 fG_X13_17 e7 ?_
  refine ww_iload_n 10 X dX13_signPoint_10 2 rfl rfl ?_
  obtain ⟨v11, e11, h⟩ := bO_some h
  refine ww_iald 11 X dX13_signPoint_11 e11 ?_
  refine ww_bipush 12 X (v := (32 : Int32)) dX13_signPoint_12 (by decide) ?_
  refine ww_icmp_lt 14 29 X dX13_signPoint_14 (by decide) (fun q => ?_) (fun q => ?_)
  · replace h := (if_pos q).symm.trans h
    refine ww_bipush 29 X (v := (-4 : Int32)) dX13_signPoint_29 (by decide) ?_
    exact ww_iretE 31 X hQ dX13_signPoint_31 h
  · replace h := (if_neg q).symm.trans h
    refine ww_aload_n 17 X dX13_signPoint_17 0 rfl rfl ?_
    refine ww_aload_n 18 X dX13_signPoint_18 0 rfl rfl ?_
    obtain ⟨v19, e19, h⟩ := bO_some h
    refine ww_getR 19 X dX13_signPoint_19 fG_X13_14 e19 ?_
    refine ww_iload_n 22 X dX13_signPoint_22 3 rfl rfl ?_
    obtain ⟨_, f23, h⟩ := bO_some h
    obtain ⟨v23, M23, e23, h⟩ := bP_some h
    refine ww_callVI0 23 X dX13_signPoint_23 mY_X13_isSecret mL_X13_861 (rcv_spec f23) ⟨_, _, rfl⟩ (by decide) (As := [.ref v19, .int ((8192 : Int32) * l2)]) (rest := []) rfl rfl ⟨Nat.le_of_ble_eq_true rfl, Nat.le_of_ble_eq_true rfl⟩ (Nat.le_of_ble_eq_true rfl) (fun l D A => c_X13_isSecret l D A e23) ?_
    refine ww_if_ne 26 32 X dX13_signPoint_26 (by decide) (fun q => ?_) (fun q => ?_)
    · replace h := (if_neg q).symm.trans h
      refine ww_aload_n 32 X dX13_signPoint_32 0 rfl rfl ?_
      obtain ⟨_, f33, h⟩ := bO_some h
      obtain ⟨M33, e33, h⟩ := bO_some h
      refine ww_callVV0 33 X dX13_signPoint_33 mY_X13_digestNumber mL_X13_970 (rcv_spec f33) ⟨_, _, rfl⟩ (by decide) (As := []) (rest := []) rfl rfl ⟨Nat.le_of_ble_eq_true rfl, Nat.le_of_ble_eq_true rfl⟩ (Nat.le_of_ble_eq_true rfl) (fun l D A => c_X13_digestNumber l D A e33) ?_
      refine ww_aload_n 36 X dX13_signPoint_36 0 rfl rfl ?_
      refine ww_aload_n 37 X dX13_signPoint_37 0 rfl rfl ?_
      obtain ⟨v38, e38, h⟩ := bO_some h
      refine ww_getR 38 X dX13_signPoint_38 fG_X13_147 e38 ?_
      refine ww_iconst 41 X (v := (0 : Int32)) dX13_signPoint_41 (by decide) ?_
      obtain ⟨_, f42, h⟩ := bO_some h
      obtain ⟨v42, M42, e42, h⟩ := bP_some h
      refine ww_callVI0 42 X dX13_signPoint_42 mY_X13_setPoint mL_X13_766 (rcv_spec f42) ⟨_, _, rfl⟩ (by decide) (As := [.ref v38, .int (0 : Int32)]) (rest := []) rfl rfl ⟨Nat.le_of_ble_eq_true rfl, Nat.le_of_ble_eq_true rfl⟩ (Nat.le_of_ble_eq_true rfl) (fun l D A => c_X13_setPoint l D A e42) ?_
      refine ww_istore 45 X dX13_signPoint_45 (lv' := [(0, .ref l0), (1, .int l1), (2, .int l2), (3, .int ((8192 : Int32) * l2)), (4, .int v42)]) (by decide) [1, 2, 3, 4, 0] rfl ?_
      refine ww_aload_n 47 X dX13_signPoint_47 0 rfl rfl ?_
      refine ww_aload_n 48 X dX13_signPoint_48 0 rfl rfl ?_
      obtain ⟨v49, e49, h⟩ := bO_some h
      refine ww_getR 49 X dX13_signPoint_49 fG_X13_14 e49 ?_
      refine ww_iload_n 52 X dX13_signPoint_52 3 rfl rfl ?_
      obtain ⟨_, f53, h⟩ := bO_some h
      obtain ⟨M53, e53, h⟩ := bO_some h
      refine ww_callVV0 53 X dX13_signPoint_53 mY_X13_times_ mL_X13_770 (rcv_spec f53) ⟨_, _, rfl⟩ (by decide) (As := [.ref v49, .int ((8192 : Int32) * l2)]) (rest := []) rfl rfl ⟨Nat.le_of_ble_eq_true rfl, Nat.le_of_ble_eq_true rfl⟩ (Nat.le_of_ble_eq_true rfl) (fun l D A => c_X13_times_ l D A e53) ?_
      refine ww_iload 56 X dX13_signPoint_56 4 rfl ?_
      refine ww_if_eq 58 77 X dX13_signPoint_58 (by decide) (fun q => ?_) (fun q => ?_)
      · replace h := (if_pos q).symm.trans h
        refine ww_iconst 77 X (v := (0 : Int32)) dX13_signPoint_77 (by decide) ?_
        exact ww_sub [0, 1, 3] rfl (wB_X13_signPoint_78 X hQ h)
      · replace h := (if_neg q).symm.trans h
        refine ww_aload_n 61 X dX13_signPoint_61 0 rfl rfl ?_
        refine ww_aload_n 62 X dX13_signPoint_62 0 rfl rfl ?_
        obtain ⟨v63, e63, h⟩ := bO_some h
        refine ww_getR 63 X dX13_signPoint_63 fG_X13_186 e63 ?_
        refine ww_iconst 66 X (v := (0 : Int32)) dX13_signPoint_66 (by decide) ?_
        obtain ⟨_, f67, h⟩ := bO_some h
        obtain ⟨v67, M67, e67, h⟩ := bP_some h
        refine ww_callVI0 67 X dX13_signPoint_67 mY_X13_getPoint mL_X13_772 (rcv_spec f67) ⟨_, _, rfl⟩ (by decide) (As := [.ref v63, .int (0 : Int32)]) (rest := []) rfl rfl ⟨Nat.le_of_ble_eq_true rfl, Nat.le_of_ble_eq_true rfl⟩ (Nat.le_of_ble_eq_true rfl) (fun l D A => c_X13_getPoint l D A e67) ?_
        refine ww_if_eq 70 77 X dX13_signPoint_70 (by decide) (fun q => ?_) (fun q => ?_)
        · replace h := (if_pos q).symm.trans h
          refine ww_iconst 77 X (v := (0 : Int32)) dX13_signPoint_77 (by decide) ?_
          exact ww_sub [0, 1, 3] rfl (wB_X13_signPoint_78 X hQ h)
        · replace h := (if_neg q).symm.trans h
          refine ww_iconst 73 X (v := (1 : Int32)) dX13_signPoint_73 (by decide) ?_
          refine ww_goto 74 78 X dX13_signPoint_74 (by decide) ?_
          exact ww_sub [0, 1, 3] rfl (wB_X13_signPoint_78 X hQ h)
    · replace h := (if_pos q).symm.trans h
      refine ww_bipush 29 X (v := (-4 : Int32)) dX13_signPoint_29 (by decide) ?_
      exact ww_iretE 31 X hQ dX13_signPoint_31 h
theorem c_X13_signPoint {G : mG} {F sz : Nat} {r0 : Int32} {M0 : mM} (l : Launch) (D : mD) (A : Nat → Prop) {l0 : Nat} {l1 : Int32} {l2 : Int32} {M : mM} (h : P_X13_signPoint G F l0 l1 l2 M = some (r0, M0)) : mMetI l D G A yX13_signPoint cX13_signPoint 6 (some .int) 7 157 0 0 [.ref l0, .int l1, .int l2] M sz r0 M0 sz := mMetI_of l D G A (by decide) (Nat.le_of_ble_eq_true rfl) (fun x X hQ => wP_X13_signPoint X hQ h)
/-! SealedTokensModel.signIt(III)I -/
theorem dX13_signIt_0 : decode cX13_signIt 0 = .ok (.aload_n 0, 1) := by decide +kernel
theorem dX13_signIt_1 : decode cX13_signIt 1 = .ok (.getfield 208, 3) := by decide +kernel
theorem dX13_signIt_4 : decode cX13_signIt 4 = .ok (.iload_n 1, 1) := by decide +kernel
theorem dX13_signIt_5 : decode cX13_signIt 5 = .ok (.iaload, 1) := by decide +kernel
theorem dX13_signIt_6 : decode cX13_signIt 6 = .ok (.istore 4, 2) := by decide +kernel
theorem dX13_signIt_8 : decode cX13_signIt 8 = .ok (.iload_n 2, 1) := by decide +kernel
theorem dX13_signIt_9 : decode cX13_signIt 9 = .ok (.iconst 2, 1) := by decide +kernel
theorem dX13_signIt_10 : decode cX13_signIt 10 = .ok (.if_icmp .ge 54, 3) := by decide +kernel
theorem dX13_signIt_13 : decode cX13_signIt 13 = .ok (.aload_n 0, 1) := by decide +kernel
theorem dX13_signIt_14 : decode cX13_signIt 14 = .ok (.aload_n 0, 1) := by decide +kernel
theorem dX13_signIt_15 : decode cX13_signIt 15 = .ok (.iload_n 2, 1) := by decide +kernel
theorem dX13_signIt_16 : decode cX13_signIt 16 = .ok (.ifCond .ne 9, 3) := by decide +kernel
theorem dX13_signIt_19 : decode cX13_signIt 19 = .ok (.sipush 256, 3) := by decide +kernel
theorem dX13_signIt_22 : decode cX13_signIt 22 = .ok (.goto 6, 3) := by decide +kernel
theorem dX13_signIt_25 : decode cX13_signIt 25 = .ok (.sipush 512, 3) := by decide +kernel
theorem dX13_signIt_28 : decode cX13_signIt 28 = .ok (.aload_n 0, 1) := by decide +kernel
theorem dX13_signIt_29 : decode cX13_signIt 29 = .ok (.getfield 205, 3) := by decide +kernel
theorem dX13_signIt_32 : decode cX13_signIt 32 = .ok (.sipush 128, 3) := by decide +kernel
theorem dX13_signIt_35 : decode cX13_signIt 35 = .ok (.iload_n 1, 1) := by decide +kernel
theorem dX13_signIt_36 : decode cX13_signIt 36 = .ok (.imul, 1) := by decide +kernel
theorem dX13_signIt_37 : decode cX13_signIt 37 = .ok (.iload 4, 2) := by decide +kernel
theorem dX13_signIt_39 : decode cX13_signIt 39 = .ok (.invokevirtual 585, 3) := by decide +kernel
theorem dX13_signIt_42 : decode cX13_signIt 42 = .ok (.putfield 954, 3) := by decide +kernel
theorem dX13_signIt_45 : decode cX13_signIt 45 = .ok (.aload_n 0, 1) := by decide +kernel
theorem dX13_signIt_46 : decode cX13_signIt 46 = .ok (.getfield 76, 3) := by decide +kernel
theorem dX13_signIt_49 : decode cX13_signIt 49 = .ok (.iconst 0, 1) := by decide +kernel
theorem dX13_signIt_50 : decode cX13_signIt 50 = .ok (.aload_n 0, 1) := by decide +kernel
theorem dX13_signIt_51 : decode cX13_signIt 51 = .ok (.getfield 257, 3) := by decide +kernel
theorem dX13_signIt_54 : decode cX13_signIt 54 = .ok (.iconst 0, 1) := by decide +kernel
theorem dX13_signIt_55 : decode cX13_signIt 55 = .ok (.aload_n 0, 1) := by decide +kernel
theorem dX13_signIt_56 : decode cX13_signIt 56 = .ok (.getfield 954, 3) := by decide +kernel
theorem dX13_signIt_59 : decode cX13_signIt 59 = .ok (.invokestatic 317, 3) := by decide +kernel
theorem dX13_signIt_62 : decode cX13_signIt 62 = .ok (.iconst 0, 1) := by decide +kernel
theorem dX13_signIt_63 : decode cX13_signIt 63 = .ok (.ireturn, 1) := by decide +kernel
theorem dX13_signIt_64 : decode cX13_signIt 64 = .ok (.iload_n 2, 1) := by decide +kernel
theorem dX13_signIt_65 : decode cX13_signIt 65 = .ok (.iconst 4, 1) := by decide +kernel
theorem dX13_signIt_66 : decode cX13_signIt 66 = .ok (.if_icmp .ne 10, 3) := by decide +kernel
theorem dX13_signIt_69 : decode cX13_signIt 69 = .ok (.aload_n 0, 1) := by decide +kernel
theorem dX13_signIt_70 : decode cX13_signIt 70 = .ok (.iload_n 1, 1) := by decide +kernel
theorem dX13_signIt_71 : decode cX13_signIt 71 = .ok (.iload_n 3, 1) := by decide +kernel
theorem dX13_signIt_72 : decode cX13_signIt 72 = .ok (.invokevirtual 957, 3) := by decide +kernel
theorem dX13_signIt_75 : decode cX13_signIt 75 = .ok (.ireturn, 1) := by decide +kernel
theorem dX13_signIt_76 : decode cX13_signIt 76 = .ok (.iload_n 2, 1) := by decide +kernel
theorem dX13_signIt_77 : decode cX13_signIt 77 = .ok (.iconst 3, 1) := by decide +kernel
theorem dX13_signIt_78 : decode cX13_signIt 78 = .ok (.if_icmp .ne 17, 3) := by decide +kernel
theorem dX13_signIt_81 : decode cX13_signIt 81 = .ok (.aload_n 0, 1) := by decide +kernel
theorem dX13_signIt_82 : decode cX13_signIt 82 = .ok (.getfield 17, 3) := by decide +kernel
theorem dX13_signIt_85 : decode cX13_signIt 85 = .ok (.iload_n 3, 1) := by decide +kernel
theorem dX13_signIt_86 : decode cX13_signIt 86 = .ok (.iaload, 1) := by decide +kernel
theorem dX13_signIt_87 : decode cX13_signIt 87 = .ok (.bipush 32, 2) := by decide +kernel
theorem dX13_signIt_89 : decode cX13_signIt 89 = .ok (.if_icmp .ge 6, 3) := by decide +kernel
theorem dX13_signIt_92 : decode cX13_signIt 92 = .ok (.bipush (-4), 2) := by decide +kernel
theorem dX13_signIt_94 : decode cX13_signIt 94 = .ok (.ireturn, 1) := by decide +kernel
theorem dX13_signIt_95 : decode cX13_signIt 95 = .ok (.iload_n 2, 1) := by decide +kernel
theorem dX13_signIt_96 : decode cX13_signIt 96 = .ok (.iconst 3, 1) := by decide +kernel
theorem dX13_signIt_97 : decode cX13_signIt 97 = .ok (.if_icmp .ne 37, 3) := by decide +kernel
theorem dX13_signIt_100 : decode cX13_signIt 100 = .ok (.aload_n 0, 1) := by decide +kernel
theorem dX13_signIt_101 : decode cX13_signIt 101 = .ok (.aload_n 0, 1) := by decide +kernel
theorem dX13_signIt_102 : decode cX13_signIt 102 = .ok (.getfield 14, 3) := by decide +kernel
theorem dX13_signIt_105 : decode cX13_signIt 105 = .ok (.sipush 8192, 3) := by decide +kernel
theorem dX13_signIt_108 : decode cX13_signIt 108 = .ok (.iload_n 3, 1) := by decide +kernel
theorem dX13_signIt_109 : decode cX13_signIt 109 = .ok (.imul, 1) := by decide +kernel
theorem dX13_signIt_110 : decode cX13_signIt 110 = .ok (.aload_n 0, 1) := by decide +kernel
theorem dX13_signIt_111 : decode cX13_signIt 111 = .ok (.getfield 205, 3) := by decide +kernel
theorem dX13_signIt_114 : decode cX13_signIt 114 = .ok (.sipush 128, 3) := by decide +kernel
theorem dX13_signIt_117 : decode cX13_signIt 117 = .ok (.iload_n 1, 1) := by decide +kernel
theorem dX13_signIt_118 : decode cX13_signIt 118 = .ok (.imul, 1) := by decide +kernel
theorem dX13_signIt_119 : decode cX13_signIt 119 = .ok (.iload 4, 2) := by decide +kernel
theorem dX13_signIt_121 : decode cX13_signIt 121 = .ok (.invokestatic 960, 3) := by decide +kernel
theorem dX13_signIt_124 : decode cX13_signIt 124 = .ok (.iconst 1, 1) := by decide +kernel
theorem dX13_signIt_125 : decode cX13_signIt 125 = .ok (.isub, 1) := by decide +kernel
theorem dX13_signIt_126 : decode cX13_signIt 126 = .ok (.iload 4, 2) := by decide +kernel
theorem dX13_signIt_128 : decode cX13_signIt 128 = .ok (.invokevirtual 963, 3) := by decide +kernel
theorem dX13_signIt_131 : decode cX13_signIt 131 = .ok (.goto 9, 3) := by decide +kernel
theorem dX13_signIt_134 : decode cX13_signIt 134 = .ok (.aload_n 0, 1) := by decide +kernel
theorem dX13_signIt_135 : decode cX13_signIt 135 = .ok (.iload 4, 2) := by decide +kernel
theorem dX13_signIt_137 : decode cX13_signIt 137 = .ok (.invokevirtual 967, 3) := by decide +kernel
theorem dX13_signIt_140 : decode cX13_signIt 140 = .ok (.aload_n 0, 1) := by decide +kernel
theorem dX13_signIt_141 : decode cX13_signIt 141 = .ok (.aload_n 0, 1) := by decide +kernel
theorem dX13_signIt_142 : decode cX13_signIt 142 = .ok (.getfield 195, 3) := by decide +kernel
theorem dX13_signIt_145 : decode cX13_signIt 145 = .ok (.iconst 0, 1) := by decide +kernel
theorem dX13_signIt_146 : decode cX13_signIt 146 = .ok (.iload 4, 2) := by decide +kernel
theorem dX13_signIt_148 : decode cX13_signIt 148 = .ok (.aload_n 0, 1) := by decide +kernel
theorem dX13_signIt_149 : decode cX13_signIt 149 = .ok (.getfield 217, 3) := by decide +kernel
theorem dX13_signIt_152 : decode cX13_signIt 152 = .ok (.sipush 128, 3) := by decide +kernel
theorem dX13_signIt_155 : decode cX13_signIt 155 = .ok (.iload_n 1, 1) := by decide +kernel
theorem dX13_signIt_156 : decode cX13_signIt 156 = .ok (.imul, 1) := by decide +kernel
theorem dX13_signIt_157 : decode cX13_signIt 157 = .ok (.aload_n 0, 1) := by decide +kernel
theorem dX13_signIt_158 : decode cX13_signIt 158 = .ok (.getfield 220, 3) := by decide +kernel
theorem dX13_signIt_161 : decode cX13_signIt 161 = .ok (.iload_n 1, 1) := by decide +kernel
theorem dX13_signIt_162 : decode cX13_signIt 162 = .ok (.iaload, 1) := by decide +kernel
theorem dX13_signIt_163 : decode cX13_signIt 163 = .ok (.aload_n 0, 1) := by decide +kernel
theorem dX13_signIt_164 : decode cX13_signIt 164 = .ok (.getfield 205, 3) := by decide +kernel
theorem dX13_signIt_167 : decode cX13_signIt 167 = .ok (.sipush 128, 3) := by decide +kernel
theorem dX13_signIt_170 : decode cX13_signIt 170 = .ok (.iload_n 1, 1) := by decide +kernel
theorem dX13_signIt_171 : decode cX13_signIt 171 = .ok (.imul, 1) := by decide +kernel
theorem dX13_signIt_172 : decode cX13_signIt 172 = .ok (.iload 4, 2) := by decide +kernel
theorem dX13_signIt_174 : decode cX13_signIt 174 = .ok (.invokevirtual 709, 3) := by decide +kernel
theorem dX13_signIt_177 : decode cX13_signIt 177 = .ok (.aload_n 0, 1) := by decide +kernel
theorem dX13_signIt_178 : decode cX13_signIt 178 = .ok (.iload 4, 2) := by decide +kernel
theorem dX13_signIt_180 : decode cX13_signIt 180 = .ok (.putfield 954, 3) := by decide +kernel
theorem dX13_signIt_183 : decode cX13_signIt 183 = .ok (.aload_n 0, 1) := by decide +kernel
theorem dX13_signIt_184 : decode cX13_signIt 184 = .ok (.getfield 138, 3) := by decide +kernel
theorem dX13_signIt_187 : decode cX13_signIt 187 = .ok (.iconst 0, 1) := by decide +kernel
theorem dX13_signIt_188 : decode cX13_signIt 188 = .ok (.aload_n 0, 1) := by decide +kernel
theorem dX13_signIt_189 : decode cX13_signIt 189 = .ok (.getfield 257, 3) := by decide +kernel
theorem dX13_signIt_192 : decode cX13_signIt 192 = .ok (.iconst 0, 1) := by decide +kernel
theorem dX13_signIt_193 : decode cX13_signIt 193 = .ok (.iload 4, 2) := by decide +kernel
theorem dX13_signIt_195 : decode cX13_signIt 195 = .ok (.invokestatic 317, 3) := by decide +kernel
theorem dX13_signIt_198 : decode cX13_signIt 198 = .ok (.iconst 0, 1) := by decide +kernel
theorem dX13_signIt_199 : decode cX13_signIt 199 = .ok (.ireturn, 1) := by decide +kernel
abbrev rmX13_signIt : Room := { frames := 8, cells := 0, slots := 0, locals := 182 }
set_option maxHeartbeats 4000000 in
set_option maxRecDepth 100000 in
theorem wB_X13_signIt_140 {G : mG} {F : Nat} {x : mXT} {sz : Nat} {r0 : Int32} {M0 : mM} (X : mCX G RX13 cX13_signIt 5 (some .int) "signIt" rmX13_signIt x) (hQ : mQI x r0 M0 (sz, 0, 0)) {l0 : Nat} {l1 : Int32} {l4 : Int32} {M : mM} (h : B_X13_signIt_140 G F l0 l1 l4 M = some (r0, M0)) : WW x (sz, 0, 0) M 140 [(0, .ref l0), (1, .int l1), (4, .int l4)] [] := by
  unfold B_X13_signIt_140 at h
  refine ww_aload_n 140 X dX13_signIt_140 0 rfl rfl ?_
  refine ww_aload_n 141 X dX13_signIt_141 0 rfl rfl ?_
  obtain ⟨v142, e142, h⟩ := bO_some h
  refine ww_getR 142 X dX13_signIt_142 fG_X13_195 e142 ?_
  refine ww_iconst 145 X (v := (0 : Int32)) dX13_signIt_145 (by decide) ?_
  refine ww_iload 146 X dX13_signIt_146 2 rfl ?_
  refine ww_aload_n 148 X dX13_signIt_148 0 rfl rfl ?_
  obtain ⟨v149, e149, h⟩ := bO_some h
  refine ww_getR 149 X dX13_signIt_149 fG_X13_217 e149 ?_
  refine ww_sipush 152 X (v := (128 : Int32)) dX13_signIt_152 (by decide) ?_
  refine ww_iload_n 155 X dX13_signIt_155 1 rfl rfl ?_
  refine ww_imul 156 X dX13_signIt_156 ?_
  refine ww_aload_n 157 X dX13_signIt_157 0 rfl rfl ?_
  obtain ⟨v158, e158, h⟩ := bO_some h
  refine ww_getR 158 X dX13_signIt_158 fG_X13_220 e158 ?_
  refine ww_iload_n 161 X dX13_signIt_161 1 rfl rfl ?_
  obtain ⟨v162, e162, h⟩ := bO_some h
  refine ww_iald 162 X dX13_signIt_162 e162 ?_
  refine ww_aload_n 163 X dX13_signIt_163 0 rfl rfl ?_
  obtain ⟨v164, e164, h⟩ := bO_some h
  refine ww_getR 164 X dX13_signIt_164 fG_X13_205 e164 ?_
  refine ww_sipush 167 X (v := (128 : Int32)) dX13_signIt_167 (by decide) ?_
  refine ww_iload_n 170 X dX13_signIt_170 1 rfl rfl ?_
  refine ww_imul 171 X dX13_signIt_171 ?_
  refine ww_iload 172 X dX13_signIt_172 2 rfl ?_
  obtain ⟨_, f174, h⟩ := bO_some h
  obtain ⟨M174, e174, h⟩ := bO_some h
  refine ww_callVV0 174 X dX13_signIt_174 mY_X13_raise mL_X13_709 (rcv_spec f174) ⟨_, _, rfl⟩ (by decide) (As := [.ref v142, .int (0 : Int32), .int l4, .ref v149, .int ((128 : Int32) * l1), .int v162, .ref v164, .int ((128 : Int32) * l1), .int l4]) (rest := []) rfl rfl ⟨Nat.le_of_ble_eq_true rfl, Nat.le_of_ble_eq_true rfl⟩ (Nat.le_of_ble_eq_true rfl) (fun l D A => c_X13_raise l D A e174) ?_
  refine ww_aload_n 177 X dX13_signIt_177 0 rfl rfl ?_
  refine ww_iload 178 X dX13_signIt_178 2 rfl ?_
  obtain ⟨M180, e180, h⟩ := bO_some h
  refine ww_putI 180 X dX13_signIt_180 (fP_X13_954 _) e180 ?_
  refine ww_aload_n 183 X dX13_signIt_183 0 rfl rfl ?_
  obtain ⟨v184, e184, h⟩ := bO_some h
  refine ww_getR 184 X dX13_signIt_184 fG_X13_138 e184 ?_
  refine ww_iconst 187 X (v := (0 : Int32)) dX13_signIt_187 (by decide) ?_
  refine ww_aload_n 188 X dX13_signIt_188 0 rfl rfl ?_
  obtain ⟨v189, e189, h⟩ := bO_some h
  refine ww_getR 189 X dX13_signIt_189 fG_X13_257 e189 ?_
  refine ww_iconst 192 X (v := (0 : Int32)) dX13_signIt_192 (by decide) ?_
  refine ww_iload 193 X dX13_signIt_193 2 rfl ?_
  obtain ⟨M195, e195, h⟩ := bO_some h
  refine ww_callSV0 195 X dX13_signIt_195 mY_X13_move mL_X13_317 (As := [.ref v184, .int (0 : Int32), .ref v189, .int (0 : Int32), .int l4]) (rest := []) rfl rfl ⟨Nat.le_of_ble_eq_true rfl, Nat.le_of_ble_eq_true rfl⟩ (Nat.le_of_ble_eq_true rfl) (fun l D A => c_X13_move l D A e195) ?_
  refine ww_iconst 198 X (v := (0 : Int32)) dX13_signIt_198 (by decide) ?_
  exact ww_iretE 199 X hQ dX13_signIt_199 h
set_option maxHeartbeats 4000000 in
set_option maxRecDepth 100000 in
theorem wB_X13_signIt_95 {G : mG} {F : Nat} {x : mXT} {sz : Nat} {r0 : Int32} {M0 : mM} (X : mCX G RX13 cX13_signIt 5 (some .int) "signIt" rmX13_signIt x) (hQ : mQI x r0 M0 (sz, 0, 0)) {l0 : Nat} {l1 : Int32} {l2 : Int32} {l3 : Int32} {l4 : Int32} {M : mM} (h : B_X13_signIt_95 G F l0 l1 l2 l3 l4 M = some (r0, M0)) : WW x (sz, 0, 0) M 95 [(0, .ref l0), (1, .int l1), (2, .int l2), (3, .int l3), (4, .int l4)] [] := by
  unfold B_X13_signIt_95 at h
  refine ww_iload_n 95 X dX13_signIt_95 2 rfl rfl ?_
  refine ww_iconst 96 X (v := (3 : Int32)) dX13_signIt_96 (by decide) ?_
  refine ww_icmp_ne 97 134 X dX13_signIt_97 (by decide) (fun q => ?_) (fun q => ?_)
  · replace h := (if_neg q).symm.trans h
    refine ww_aload_n 134 X dX13_signIt_134 0 rfl rfl ?_
    refine ww_iload 135 X dX13_signIt_135 4 rfl ?_
    obtain ⟨_, f137, h⟩ := bO_some h
    obtain ⟨M137, e137, h⟩ := bO_some h
    refine ww_callVV0 137 X dX13_signIt_137 mY_X13_fillOut mL_X13_967 (rcv_spec f137) ⟨_, _, rfl⟩ (by decide) (As := [.int l4]) (rest := []) rfl rfl ⟨Nat.le_of_ble_eq_true rfl, Nat.le_of_ble_eq_true rfl⟩ (Nat.le_of_ble_eq_true rfl) (fun l D A => c_X13_fillOut l D A e137) ?_
    exact ww_sub [0, 1, 4] rfl (wB_X13_signIt_140 X hQ h)
  · replace h := (if_pos q).symm.trans h
    refine ww_aload_n 100 X dX13_signIt_100 0 rfl rfl ?_
    refine ww_aload_n 101 X dX13_signIt_101 0 rfl rfl ?_
    obtain ⟨v102, e102, h⟩ := bO_some h
    refine ww_getR 102 X dX13_signIt_102 fG_X13_14 e102 ?_
    refine ww_sipush 105 X (v := (8192 : Int32)) dX13_signIt_105 (by decide) ?_
    refine ww_iload_n 108 X dX13_signIt_108 3 rfl rfl ?_
    refine ww_imul 109 X dX13_signIt_109 ?_
    refine ww_aload_n 110 X dX13_signIt_110 0 rfl rfl ?_
    obtain ⟨v111, e111, h⟩ := bO_some h
    refine ww_getR 111 X dX13_signIt_111 fG_X13_205 e111 ?_
    refine ww_sipush 114 X (v := (128 : Int32)) dX13_signIt_114 (by decide) ?_
    refine ww_iload_n 117 X dX13_signIt_117 1 rfl rfl ?_
    refine ww_imul 118 X dX13_signIt_118 ?_
    refine ww_iload 119 X dX13_signIt_119 4 rfl ?_
    obtain ⟨v121, M121, e121, h⟩ := bP_some h
    refine ww_callSI0 121 X dX13_signIt_121 mY_X13_bitsOf mL_X13_960 (As := [.ref v111, .int ((128 : Int32) * l1), .int l4]) (rest := [.int ((8192 : Int32) * l3), .ref v102, .ref l0]) rfl rfl ⟨Nat.le_of_ble_eq_true rfl, Nat.le_of_ble_eq_true rfl⟩ (Nat.le_of_ble_eq_true rfl) (fun l D A => c_X13_bitsOf l D A e121) ?_
    refine ww_iconst 124 X (v := (1 : Int32)) dX13_signIt_124 (by decide) ?_
    refine ww_isub 125 X dX13_signIt_125 ?_
    refine ww_iload 126 X dX13_signIt_126 4 rfl ?_
    obtain ⟨_, f128, h⟩ := bO_some h
    obtain ⟨M128, e128, h⟩ := bO_some h
    refine ww_callVV0 128 X dX13_signIt_128 mY_X13_saltOut mL_X13_963 (rcv_spec f128) ⟨_, _, rfl⟩ (by decide) (As := [.ref v102, .int ((8192 : Int32) * l3), .int (v121 - (1 : Int32)), .int l4]) (rest := []) rfl rfl ⟨Nat.le_of_ble_eq_true rfl, Nat.le_of_ble_eq_true rfl⟩ (Nat.le_of_ble_eq_true rfl) (fun l D A => c_X13_saltOut l D A e128) ?_
    refine ww_goto 131 140 X dX13_signIt_131 (by decide) ?_
    exact ww_sub [0, 1, 4] rfl (wB_X13_signIt_140 X hQ h)
set_option maxHeartbeats 4000000 in
set_option maxRecDepth 100000 in
theorem wB_X13_signIt_28 {G : mG} {F : Nat} {x : mXT} {sz : Nat} {r0 : Int32} {M0 : mM} (X : mCX G RX13 cX13_signIt 5 (some .int) "signIt" rmX13_signIt x) (hQ : mQI x r0 M0 (sz, 0, 0)) {l0 : Nat} {l1 : Int32} {l4 : Int32} {sk0 : Nat} {sk1 : Nat} {sk2 : Int32} {M : mM} (h : B_X13_signIt_28 G F l0 l1 l4 sk0 sk1 sk2 M = some (r0, M0)) : WW x (sz, 0, 0) M 28 [(0, .ref l0), (1, .int l1), (4, .int l4)] [.int sk2, .ref sk1, .ref sk0] := by
  unfold B_X13_signIt_28 at h
  refine ww_aload_n 28 X dX13_signIt_28 0 rfl rfl ?_
  obtain ⟨v29, e29, h⟩ := bO_some h
  refine ww_getR 29 X dX13_signIt_29 fG_X13_205 e29 ?_
  refine ww_sipush 32 X (v := (128 : Int32)) dX13_signIt_32 (by decide) ?_
  refine ww_iload_n 35 X dX13_signIt_35 1 rfl rfl ?_
  refine ww_imul 36 X dX13_signIt_36 ?_
  refine ww_iload 37 X dX13_signIt_37 2 rfl ?_
  obtain ⟨_, f39, h⟩ := bO_some h
  obtain ⟨v39, M39, e39, h⟩ := bP_some h
  refine ww_callVI0 39 X dX13_signIt_39 mY_X13_codeOf mL_X13_585 (rcv_spec f39) ⟨_, _, rfl⟩ (by decide) (As := [.int sk2, .ref v29, .int ((128 : Int32) * l1), .int l4]) (rest := [.ref sk0]) rfl rfl ⟨Nat.le_of_ble_eq_true rfl, Nat.le_of_ble_eq_true rfl⟩ (Nat.le_of_ble_eq_true rfl) (fun l D A => c_X13_codeOf l D A e39) ?_
  obtain ⟨M42, e42, h⟩ := bO_some h
  refine ww_putI 42 X dX13_signIt_42 (fP_X13_954 _) e42 ?_
  refine ww_aload_n 45 X dX13_signIt_45 0 rfl rfl ?_
  obtain ⟨v46, e46, h⟩ := bO_some h
  refine ww_getR 46 X dX13_signIt_46 fG_X13_76 e46 ?_
  refine ww_iconst 49 X (v := (0 : Int32)) dX13_signIt_49 (by decide) ?_
  refine ww_aload_n 50 X dX13_signIt_50 0 rfl rfl ?_
  obtain ⟨v51, e51, h⟩ := bO_some h
  refine ww_getR 51 X dX13_signIt_51 fG_X13_257 e51 ?_
  refine ww_iconst 54 X (v := (0 : Int32)) dX13_signIt_54 (by decide) ?_
  refine ww_aload_n 55 X dX13_signIt_55 0 rfl rfl ?_
  obtain ⟨v56, e56, h⟩ := bO_some h
  refine ww_getI 56 X dX13_signIt_56 fG_X13_954 e56 ?_
  obtain ⟨M59, e59, h⟩ := bO_some h
  refine ww_callSV0 59 X dX13_signIt_59 mY_X13_move mL_X13_317 (As := [.ref v46, .int (0 : Int32), .ref v51, .int (0 : Int32), .int v56]) (rest := []) rfl rfl ⟨Nat.le_of_ble_eq_true rfl, Nat.le_of_ble_eq_true rfl⟩ (Nat.le_of_ble_eq_true rfl) (fun l D A => c_X13_move l D A e59) ?_
  refine ww_iconst 62 X (v := (0 : Int32)) dX13_signIt_62 (by decide) ?_
  exact ww_iretE 63 X hQ dX13_signIt_63 h
set_option maxHeartbeats 4000000 in
set_option maxRecDepth 100000 in
theorem wP_X13_signIt {G : mG} {F : Nat} {x : mXT} {sz : Nat} {r0 : Int32} {M0 : mM} (X : mCX G RX13 cX13_signIt 5 (some .int) "signIt" rmX13_signIt x) (hQ : mQI x r0 M0 (sz, 0, 0)) {l0 : Nat} {l1 : Int32} {l2 : Int32} {l3 : Int32} {M : mM} (h : P_X13_signIt G F l0 l1 l2 l3 M = some (r0, M0)) : WW x (sz, 0, 0) M 0 [(0, .ref l0), (1, .int l1), (2, .int l2), (3, .int l3)] [] := by
  unfold P_X13_signIt at h
  refine ww_aload_n 0 X dX13_signIt_0 0 rfl rfl ?_
  obtain ⟨v1, e1, h⟩ := bO_some h
  refine ww_getR 1 X dX13_signIt_1 fG_X13_208 e1 ?_
  refine ww_iload_n 4 X dX13_signIt_4 1 rfl rfl ?_
  obtain ⟨v5, e5, h⟩ := bO_some h
  refine ww_iald 5 X dX13_signIt_5 e5 ?_
  refine ww_istore 6 X dX13_signIt_6 (lv' := [(0, .ref l0), (1, .int l1), (2, .int l2), (3, .int l3), (4, .int v5)]) (by decide) [1, 2, 3, 4, 0] rfl ?_
  refine ww_iload_n 8 X dX13_signIt_8 2 rfl rfl ?_
  refine ww_iconst 9 X (v := (2 : Int32)) dX13_signIt_9 (by decide) ?_
  refine ww_icmp_ge 10 64 X dX13_signIt_10 (by decide) (fun q => ?_) (fun q => ?_)
  · replace h := (if_pos q).symm.trans h
    refine ww_iload_n 64 X dX13_signIt_64 2 rfl rfl ?_
    refine ww_iconst 65 X (v := (4 : Int32)) dX13_signIt_65 (by decide) ?_
    refine ww_icmp_ne 66 76 X dX13_signIt_66 (by decide) (fun q => ?_) (fun q => ?_)
    · replace h := (if_neg q).symm.trans h
      refine ww_iload_n 76 X dX13_signIt_76 2 rfl rfl ?_
      refine ww_iconst 77 X (v := (3 : Int32)) dX13_signIt_77 (by decide) ?_
      refine ww_icmp_ne 78 95 X dX13_signIt_78 (by decide) (fun q => ?_) (fun q => ?_)
      · replace h := (if_neg q).symm.trans h
        exact (wB_X13_signIt_95 X hQ h)
      · replace h := (if_pos q).symm.trans h
        refine ww_aload_n 81 X dX13_signIt_81 0 rfl rfl ?_
        obtain ⟨v82, e82, h⟩ := bO_some h
        refine ww_getR 82 X dX13_signIt_82 fG_X13_17 e82 ?_
        refine ww_iload_n 85 X dX13_signIt_85 3 rfl rfl ?_
        obtain ⟨v86, e86, h⟩ := bO_some h
        refine ww_iald 86 X dX13_signIt_86 e86 ?_
        refine ww_bipush 87 X (v := (32 : Int32)) dX13_signIt_87 (by decide) ?_
        refine ww_icmp_ge 89 95 X dX13_signIt_89 (by decide) (fun q => ?_) (fun q => ?_)
        · replace h := (if_pos q).symm.trans h
          exact (wB_X13_signIt_95 X hQ h)
        · replace h := (if_neg q).symm.trans h
          refine ww_bipush 92 X (v := (-4 : Int32)) dX13_signIt_92 (by decide) ?_
          exact ww_iretE 94 X hQ dX13_signIt_94 h
    · replace h := (if_pos q).symm.trans h
      refine ww_aload_n 69 X dX13_signIt_69 0 rfl rfl ?_
      refine ww_iload_n 70 X dX13_signIt_70 1 rfl rfl ?_
      refine ww_iload_n 71 X dX13_signIt_71 3 rfl rfl ?_
      obtain ⟨_, f72, h⟩ := bO_some h
      obtain ⟨v72, M72, e72, h⟩ := bP_some h
      refine ww_callVI0 72 X dX13_signIt_72 mY_X13_signPoint mL_X13_957 (rcv_spec f72) ⟨_, _, rfl⟩ (by decide) (As := [.int l1, .int l3]) (rest := []) rfl rfl ⟨Nat.le_of_ble_eq_true rfl, Nat.le_of_ble_eq_true rfl⟩ (Nat.le_of_ble_eq_true rfl) (fun l D A => c_X13_signPoint l D A e72) ?_
      exact ww_iretE 75 X hQ dX13_signIt_75 h
  · replace h := (if_neg q).symm.trans h
    refine ww_aload_n 13 X dX13_signIt_13 0 rfl rfl ?_
    refine ww_aload_n 14 X dX13_signIt_14 0 rfl rfl ?_
    refine ww_iload_n 15 X dX13_signIt_15 2 rfl rfl ?_
    refine ww_if_ne 16 25 X dX13_signIt_16 (by decide) (fun q => ?_) (fun q => ?_)
    · replace h := (if_neg q).symm.trans h
      refine ww_sipush 25 X (v := (512 : Int32)) dX13_signIt_25 (by decide) ?_
      exact ww_sub [0, 1, 4] rfl (wB_X13_signIt_28 X hQ h)
    · replace h := (if_pos q).symm.trans h
      refine ww_sipush 19 X (v := (256 : Int32)) dX13_signIt_19 (by decide) ?_
      refine ww_goto 22 28 X dX13_signIt_22 (by decide) ?_
      exact ww_sub [0, 1, 4] rfl (wB_X13_signIt_28 X hQ h)
theorem c_X13_signIt {G : mG} {F sz : Nat} {r0 : Int32} {M0 : mM} (l : Launch) (D : mD) (A : Nat → Prop) {l0 : Nat} {l1 : Int32} {l2 : Int32} {l3 : Int32} {M : mM} (h : P_X13_signIt G F l0 l1 l2 l3 M = some (r0, M0)) : mMetI l D G A yX13_signIt cX13_signIt 5 (some .int) 8 182 0 0 [.ref l0, .int l1, .int l2, .int l3] M sz r0 M0 sz := mMetI_of l D G A (by decide) (Nat.le_of_ble_eq_true rfl) (fun x X hQ => wP_X13_signIt X hQ h)
/-! SealedTokensModel.isSignedPoint(I)Z -/
theorem dX13_isSignedPoint_0 : decode cX13_isSignedPoint 0 = .ok (.aload_n 0, 1) := by decide +kernel
theorem dX13_isSignedPoint_1 : decode cX13_isSignedPoint 1 = .ok (.aload_n 0, 1) := by decide +kernel
theorem dX13_isSignedPoint_2 : decode cX13_isSignedPoint 2 = .ok (.getfield 257, 3) := by decide +kernel
theorem dX13_isSignedPoint_5 : decode cX13_isSignedPoint 5 = .ok (.iconst 0, 1) := by decide +kernel
theorem dX13_isSignedPoint_6 : decode cX13_isSignedPoint 6 = .ok (.invokevirtual 861, 3) := by decide +kernel
theorem dX13_isSignedPoint_9 : decode cX13_isSignedPoint 9 = .ok (.ifCond .eq 16, 3) := by decide +kernel
theorem dX13_isSignedPoint_12 : decode cX13_isSignedPoint 12 = .ok (.aload_n 0, 1) := by decide +kernel
theorem dX13_isSignedPoint_13 : decode cX13_isSignedPoint 13 = .ok (.aload_n 0, 1) := by decide +kernel
theorem dX13_isSignedPoint_14 : decode cX13_isSignedPoint 14 = .ok (.getfield 257, 3) := by decide +kernel
theorem dX13_isSignedPoint_17 : decode cX13_isSignedPoint 17 = .ok (.bipush 32, 2) := by decide +kernel
theorem dX13_isSignedPoint_19 : decode cX13_isSignedPoint 19 = .ok (.invokevirtual 861, 3) := by decide +kernel
theorem dX13_isSignedPoint_22 : decode cX13_isSignedPoint 22 = .ok (.ifCond .ne 5, 3) := by decide +kernel
theorem dX13_isSignedPoint_25 : decode cX13_isSignedPoint 25 = .ok (.iconst 0, 1) := by decide +kernel
theorem dX13_isSignedPoint_26 : decode cX13_isSignedPoint 26 = .ok (.ireturn, 1) := by decide +kernel
theorem dX13_isSignedPoint_27 : decode cX13_isSignedPoint 27 = .ok (.aload_n 0, 1) := by decide +kernel
theorem dX13_isSignedPoint_28 : decode cX13_isSignedPoint 28 = .ok (.invokevirtual 970, 3) := by decide +kernel
theorem dX13_isSignedPoint_31 : decode cX13_isSignedPoint 31 = .ok (.aload_n 0, 1) := by decide +kernel
theorem dX13_isSignedPoint_32 : decode cX13_isSignedPoint 32 = .ok (.getfield 129, 3) := by decide +kernel
theorem dX13_isSignedPoint_35 : decode cX13_isSignedPoint 35 = .ok (.aload_n 0, 1) := by decide +kernel
theorem dX13_isSignedPoint_36 : decode cX13_isSignedPoint 36 = .ok (.getfield 257, 3) := by decide +kernel
theorem dX13_isSignedPoint_39 : decode cX13_isSignedPoint 39 = .ok (.iconst 0, 1) := by decide +kernel
theorem dX13_isSignedPoint_40 : decode cX13_isSignedPoint 40 = .ok (.bipush 32, 2) := by decide +kernel
theorem dX13_isSignedPoint_42 : decode cX13_isSignedPoint 42 = .ok (.aload_n 0, 1) := by decide +kernel
theorem dX13_isSignedPoint_43 : decode cX13_isSignedPoint 43 = .ok (.getfield 269, 3) := by decide +kernel
theorem dX13_isSignedPoint_46 : decode cX13_isSignedPoint 46 = .ok (.invokevirtual 726, 3) := by decide +kernel
theorem dX13_isSignedPoint_49 : decode cX13_isSignedPoint 49 = .ok (.aload_n 0, 1) := by decide +kernel
theorem dX13_isSignedPoint_50 : decode cX13_isSignedPoint 50 = .ok (.getfield 129, 3) := by decide +kernel
theorem dX13_isSignedPoint_53 : decode cX13_isSignedPoint 53 = .ok (.aload_n 0, 1) := by decide +kernel
theorem dX13_isSignedPoint_54 : decode cX13_isSignedPoint 54 = .ok (.getfield 269, 3) := by decide +kernel
theorem dX13_isSignedPoint_57 : decode cX13_isSignedPoint 57 = .ok (.aload_n 0, 1) := by decide +kernel
theorem dX13_isSignedPoint_58 : decode cX13_isSignedPoint 58 = .ok (.getfield 269, 3) := by decide +kernel
theorem dX13_isSignedPoint_61 : decode cX13_isSignedPoint 61 = .ok (.invokevirtual 694, 3) := by decide +kernel
theorem dX13_isSignedPoint_64 : decode cX13_isSignedPoint 64 = .ok (.aload_n 0, 1) := by decide +kernel
theorem dX13_isSignedPoint_65 : decode cX13_isSignedPoint 65 = .ok (.getfield 129, 3) := by decide +kernel
theorem dX13_isSignedPoint_68 : decode cX13_isSignedPoint 68 = .ok (.aload_n 0, 1) := by decide +kernel
theorem dX13_isSignedPoint_69 : decode cX13_isSignedPoint 69 = .ok (.getfield 257, 3) := by decide +kernel
theorem dX13_isSignedPoint_72 : decode cX13_isSignedPoint 72 = .ok (.bipush 32, 2) := by decide +kernel
theorem dX13_isSignedPoint_74 : decode cX13_isSignedPoint 74 = .ok (.bipush 32, 2) := by decide +kernel
theorem dX13_isSignedPoint_76 : decode cX13_isSignedPoint 76 = .ok (.aload_n 0, 1) := by decide +kernel
theorem dX13_isSignedPoint_77 : decode cX13_isSignedPoint 77 = .ok (.getfield 272, 3) := by decide +kernel
theorem dX13_isSignedPoint_80 : decode cX13_isSignedPoint 80 = .ok (.invokevirtual 726, 3) := by decide +kernel
theorem dX13_isSignedPoint_83 : decode cX13_isSignedPoint 83 = .ok (.aload_n 0, 1) := by decide +kernel
theorem dX13_isSignedPoint_84 : decode cX13_isSignedPoint 84 = .ok (.getfield 129, 3) := by decide +kernel
theorem dX13_isSignedPoint_87 : decode cX13_isSignedPoint 87 = .ok (.aload_n 0, 1) := by decide +kernel
theorem dX13_isSignedPoint_88 : decode cX13_isSignedPoint 88 = .ok (.getfield 272, 3) := by decide +kernel
theorem dX13_isSignedPoint_91 : decode cX13_isSignedPoint 91 = .ok (.aload_n 0, 1) := by decide +kernel
theorem dX13_isSignedPoint_92 : decode cX13_isSignedPoint 92 = .ok (.getfield 272, 3) := by decide +kernel
theorem dX13_isSignedPoint_95 : decode cX13_isSignedPoint 95 = .ok (.invokevirtual 694, 3) := by decide +kernel
theorem dX13_isSignedPoint_98 : decode cX13_isSignedPoint 98 = .ok (.aload_n 0, 1) := by decide +kernel
theorem dX13_isSignedPoint_99 : decode cX13_isSignedPoint 99 = .ok (.aload_n 0, 1) := by decide +kernel
theorem dX13_isSignedPoint_100 : decode cX13_isSignedPoint 100 = .ok (.getfield 144, 3) := by decide +kernel
theorem dX13_isSignedPoint_103 : decode cX13_isSignedPoint 103 = .ok (.invokevirtual 762, 3) := by decide +kernel
theorem dX13_isSignedPoint_106 : decode cX13_isSignedPoint 106 = .ok (.aload_n 0, 1) := by decide +kernel
theorem dX13_isSignedPoint_107 : decode cX13_isSignedPoint 107 = .ok (.getfield 129, 3) := by decide +kernel
theorem dX13_isSignedPoint_110 : decode cX13_isSignedPoint 110 = .ok (.aload_n 0, 1) := by decide +kernel
theorem dX13_isSignedPoint_111 : decode cX13_isSignedPoint 111 = .ok (.getfield 272, 3) := by decide +kernel
theorem dX13_isSignedPoint_114 : decode cX13_isSignedPoint 114 = .ok (.aload_n 0, 1) := by decide +kernel
theorem dX13_isSignedPoint_115 : decode cX13_isSignedPoint 115 = .ok (.getfield 153, 3) := by decide +kernel
theorem dX13_isSignedPoint_118 : decode cX13_isSignedPoint 118 = .ok (.iconst 0, 1) := by decide +kernel
theorem dX13_isSignedPoint_119 : decode cX13_isSignedPoint 119 = .ok (.bipush 32, 2) := by decide +kernel
theorem dX13_isSignedPoint_121 : decode cX13_isSignedPoint 121 = .ok (.aload_n 0, 1) := by decide +kernel
theorem dX13_isSignedPoint_122 : decode cX13_isSignedPoint 122 = .ok (.getfield 272, 3) := by decide +kernel
theorem dX13_isSignedPoint_125 : decode cX13_isSignedPoint 125 = .ok (.invokevirtual 698, 3) := by decide +kernel
theorem dX13_isSignedPoint_128 : decode cX13_isSignedPoint 128 = .ok (.aload_n 0, 1) := by decide +kernel
theorem dX13_isSignedPoint_129 : decode cX13_isSignedPoint 129 = .ok (.getfield 129, 3) := by decide +kernel
theorem dX13_isSignedPoint_132 : decode cX13_isSignedPoint 132 = .ok (.aload_n 0, 1) := by decide +kernel
theorem dX13_isSignedPoint_133 : decode cX13_isSignedPoint 133 = .ok (.getfield 266, 3) := by decide +kernel
theorem dX13_isSignedPoint_136 : decode cX13_isSignedPoint 136 = .ok (.aload_n 0, 1) := by decide +kernel
theorem dX13_isSignedPoint_137 : decode cX13_isSignedPoint 137 = .ok (.getfield 272, 3) := by decide +kernel
theorem dX13_isSignedPoint_140 : decode cX13_isSignedPoint 140 = .ok (.aload_n 0, 1) := by decide +kernel
theorem dX13_isSignedPoint_141 : decode cX13_isSignedPoint 141 = .ok (.getfield 266, 3) := by decide +kernel
theorem dX13_isSignedPoint_144 : decode cX13_isSignedPoint 144 = .ok (.invokevirtual 736, 3) := by decide +kernel
theorem dX13_isSignedPoint_147 : decode cX13_isSignedPoint 147 = .ok (.aload_n 0, 1) := by decide +kernel
theorem dX13_isSignedPoint_148 : decode cX13_isSignedPoint 148 = .ok (.getfield 129, 3) := by decide +kernel
theorem dX13_isSignedPoint_151 : decode cX13_isSignedPoint 151 = .ok (.aload_n 0, 1) := by decide +kernel
theorem dX13_isSignedPoint_152 : decode cX13_isSignedPoint 152 = .ok (.getfield 269, 3) := by decide +kernel
theorem dX13_isSignedPoint_155 : decode cX13_isSignedPoint 155 = .ok (.aload_n 0, 1) := by decide +kernel
theorem dX13_isSignedPoint_156 : decode cX13_isSignedPoint 156 = .ok (.getfield 272, 3) := by decide +kernel
theorem dX13_isSignedPoint_159 : decode cX13_isSignedPoint 159 = .ok (.aload_n 0, 1) := by decide +kernel
theorem dX13_isSignedPoint_160 : decode cX13_isSignedPoint 160 = .ok (.getfield 269, 3) := by decide +kernel
theorem dX13_isSignedPoint_163 : decode cX13_isSignedPoint 163 = .ok (.invokevirtual 736, 3) := by decide +kernel
theorem dX13_isSignedPoint_166 : decode cX13_isSignedPoint 166 = .ok (.aload_n 0, 1) := by decide +kernel
theorem dX13_isSignedPoint_167 : decode cX13_isSignedPoint 167 = .ok (.getfield 129, 3) := by decide +kernel
theorem dX13_isSignedPoint_170 : decode cX13_isSignedPoint 170 = .ok (.aload_n 0, 1) := by decide +kernel
theorem dX13_isSignedPoint_171 : decode cX13_isSignedPoint 171 = .ok (.getfield 266, 3) := by decide +kernel
theorem dX13_isSignedPoint_174 : decode cX13_isSignedPoint 174 = .ok (.aload_n 0, 1) := by decide +kernel
theorem dX13_isSignedPoint_175 : decode cX13_isSignedPoint 175 = .ok (.getfield 266, 3) := by decide +kernel
theorem dX13_isSignedPoint_178 : decode cX13_isSignedPoint 178 = .ok (.invokevirtual 702, 3) := by decide +kernel
theorem dX13_isSignedPoint_181 : decode cX13_isSignedPoint 181 = .ok (.aload_n 0, 1) := by decide +kernel
theorem dX13_isSignedPoint_182 : decode cX13_isSignedPoint 182 = .ok (.getfield 129, 3) := by decide +kernel
theorem dX13_isSignedPoint_185 : decode cX13_isSignedPoint 185 = .ok (.aload_n 0, 1) := by decide +kernel
theorem dX13_isSignedPoint_186 : decode cX13_isSignedPoint 186 = .ok (.getfield 269, 3) := by decide +kernel
theorem dX13_isSignedPoint_189 : decode cX13_isSignedPoint 189 = .ok (.aload_n 0, 1) := by decide +kernel
theorem dX13_isSignedPoint_190 : decode cX13_isSignedPoint 190 = .ok (.getfield 269, 3) := by decide +kernel
theorem dX13_isSignedPoint_193 : decode cX13_isSignedPoint 193 = .ok (.invokevirtual 702, 3) := by decide +kernel
theorem dX13_isSignedPoint_196 : decode cX13_isSignedPoint 196 = .ok (.aload_n 0, 1) := by decide +kernel
theorem dX13_isSignedPoint_197 : decode cX13_isSignedPoint 197 = .ok (.getfield 129, 3) := by decide +kernel
theorem dX13_isSignedPoint_200 : decode cX13_isSignedPoint 200 = .ok (.aload_n 0, 1) := by decide +kernel
theorem dX13_isSignedPoint_201 : decode cX13_isSignedPoint 201 = .ok (.getfield 266, 3) := by decide +kernel
theorem dX13_isSignedPoint_204 : decode cX13_isSignedPoint 204 = .ok (.aload_n 0, 1) := by decide +kernel
theorem dX13_isSignedPoint_205 : decode cX13_isSignedPoint 205 = .ok (.getfield 260, 3) := by decide +kernel
theorem dX13_isSignedPoint_208 : decode cX13_isSignedPoint 208 = .ok (.iconst 0, 1) := by decide +kernel
theorem dX13_isSignedPoint_209 : decode cX13_isSignedPoint 209 = .ok (.bipush 32, 2) := by decide +kernel
theorem dX13_isSignedPoint_211 : decode cX13_isSignedPoint 211 = .ok (.invokevirtual 705, 3) := by decide +kernel
theorem dX13_isSignedPoint_214 : decode cX13_isSignedPoint 214 = .ok (.aload_n 0, 1) := by decide +kernel
theorem dX13_isSignedPoint_215 : decode cX13_isSignedPoint 215 = .ok (.aload_n 0, 1) := by decide +kernel
theorem dX13_isSignedPoint_216 : decode cX13_isSignedPoint 216 = .ok (.getfield 147, 3) := by decide +kernel
theorem dX13_isSignedPoint_219 : decode cX13_isSignedPoint 219 = .ok (.iconst 0, 1) := by decide +kernel
theorem dX13_isSignedPoint_220 : decode cX13_isSignedPoint 220 = .ok (.invokevirtual 766, 3) := by decide +kernel
theorem dX13_isSignedPoint_223 : decode cX13_isSignedPoint 223 = .ok (.istore_n 2, 1) := by decide +kernel
theorem dX13_isSignedPoint_224 : decode cX13_isSignedPoint 224 = .ok (.aload_n 0, 1) := by decide +kernel
theorem dX13_isSignedPoint_225 : decode cX13_isSignedPoint 225 = .ok (.aload_n 0, 1) := by decide +kernel
theorem dX13_isSignedPoint_226 : decode cX13_isSignedPoint 226 = .ok (.getfield 260, 3) := by decide +kernel
theorem dX13_isSignedPoint_229 : decode cX13_isSignedPoint 229 = .ok (.iconst 0, 1) := by decide +kernel
theorem dX13_isSignedPoint_230 : decode cX13_isSignedPoint 230 = .ok (.invokevirtual 770, 3) := by decide +kernel
theorem dX13_isSignedPoint_233 : decode cX13_isSignedPoint 233 = .ok (.aload_n 0, 1) := by decide +kernel
theorem dX13_isSignedPoint_234 : decode cX13_isSignedPoint 234 = .ok (.aload_n 0, 1) := by decide +kernel
theorem dX13_isSignedPoint_235 : decode cX13_isSignedPoint 235 = .ok (.getfield 263, 3) := by decide +kernel
theorem dX13_isSignedPoint_238 : decode cX13_isSignedPoint 238 = .ok (.iconst 0, 1) := by decide +kernel
theorem dX13_isSignedPoint_239 : decode cX13_isSignedPoint 239 = .ok (.invokevirtual 772, 3) := by decide +kernel
theorem dX13_isSignedPoint_242 : decode cX13_isSignedPoint 242 = .ok (.istore_n 3, 1) := by decide +kernel
theorem dX13_isSignedPoint_243 : decode cX13_isSignedPoint 243 = .ok (.aload_n 0, 1) := by decide +kernel
theorem dX13_isSignedPoint_244 : decode cX13_isSignedPoint 244 = .ok (.getfield 129, 3) := by decide +kernel
theorem dX13_isSignedPoint_247 : decode cX13_isSignedPoint 247 = .ok (.aload_n 0, 1) := by decide +kernel
theorem dX13_isSignedPoint_248 : decode cX13_isSignedPoint 248 = .ok (.getfield 269, 3) := by decide +kernel
theorem dX13_isSignedPoint_251 : decode cX13_isSignedPoint 251 = .ok (.aload_n 0, 1) := by decide +kernel
theorem dX13_isSignedPoint_252 : decode cX13_isSignedPoint 252 = .ok (.getfield 260, 3) := by decide +kernel
theorem dX13_isSignedPoint_255 : decode cX13_isSignedPoint 255 = .ok (.iconst 0, 1) := by decide +kernel
theorem dX13_isSignedPoint_256 : decode cX13_isSignedPoint 256 = .ok (.bipush 32, 2) := by decide +kernel
theorem dX13_isSignedPoint_258 : decode cX13_isSignedPoint 258 = .ok (.invokevirtual 705, 3) := by decide +kernel
theorem dX13_isSignedPoint_261 : decode cX13_isSignedPoint 261 = .ok (.aload_n 0, 1) := by decide +kernel
theorem dX13_isSignedPoint_262 : decode cX13_isSignedPoint 262 = .ok (.getfield 205, 3) := by decide +kernel
theorem dX13_isSignedPoint_265 : decode cX13_isSignedPoint 265 = .ok (.sipush 128, 3) := by decide +kernel
theorem dX13_isSignedPoint_268 : decode cX13_isSignedPoint 268 = .ok (.iload_n 1, 1) := by decide +kernel
theorem dX13_isSignedPoint_269 : decode cX13_isSignedPoint 269 = .ok (.imul, 1) := by decide +kernel
theorem dX13_isSignedPoint_270 : decode cX13_isSignedPoint 270 = .ok (.aload_n 0, 1) := by decide +kernel
theorem dX13_isSignedPoint_271 : decode cX13_isSignedPoint 271 = .ok (.getfield 186, 3) := by decide +kernel
theorem dX13_isSignedPoint_274 : decode cX13_isSignedPoint 274 = .ok (.iconst 0, 1) := by decide +kernel
theorem dX13_isSignedPoint_275 : decode cX13_isSignedPoint 275 = .ok (.bipush 32, 2) := by decide +kernel
theorem dX13_isSignedPoint_277 : decode cX13_isSignedPoint 277 = .ok (.invokestatic 317, 3) := by decide +kernel
theorem dX13_isSignedPoint_280 : decode cX13_isSignedPoint 280 = .ok (.aload_n 0, 1) := by decide +kernel
theorem dX13_isSignedPoint_281 : decode cX13_isSignedPoint 281 = .ok (.getfield 211, 3) := by decide +kernel
theorem dX13_isSignedPoint_284 : decode cX13_isSignedPoint 284 = .ok (.sipush 128, 3) := by decide +kernel
theorem dX13_isSignedPoint_287 : decode cX13_isSignedPoint 287 = .ok (.iload_n 1, 1) := by decide +kernel
theorem dX13_isSignedPoint_288 : decode cX13_isSignedPoint 288 = .ok (.imul, 1) := by decide +kernel
theorem dX13_isSignedPoint_289 : decode cX13_isSignedPoint 289 = .ok (.aload_n 0, 1) := by decide +kernel
theorem dX13_isSignedPoint_290 : decode cX13_isSignedPoint 290 = .ok (.getfield 186, 3) := by decide +kernel
theorem dX13_isSignedPoint_293 : decode cX13_isSignedPoint 293 = .ok (.bipush 32, 2) := by decide +kernel
theorem dX13_isSignedPoint_295 : decode cX13_isSignedPoint 295 = .ok (.bipush 32, 2) := by decide +kernel
theorem dX13_isSignedPoint_297 : decode cX13_isSignedPoint 297 = .ok (.invokestatic 317, 3) := by decide +kernel
theorem dX13_isSignedPoint_300 : decode cX13_isSignedPoint 300 = .ok (.iload_n 2, 1) := by decide +kernel
theorem dX13_isSignedPoint_301 : decode cX13_isSignedPoint 301 = .ok (.ifCond .eq 19, 3) := by decide +kernel
theorem dX13_isSignedPoint_304 : decode cX13_isSignedPoint 304 = .ok (.aload_n 0, 1) := by decide +kernel
theorem dX13_isSignedPoint_305 : decode cX13_isSignedPoint 305 = .ok (.aload_n 0, 1) := by decide +kernel
theorem dX13_isSignedPoint_306 : decode cX13_isSignedPoint 306 = .ok (.getfield 186, 3) := by decide +kernel
theorem dX13_isSignedPoint_309 : decode cX13_isSignedPoint 309 = .ok (.iconst 0, 1) := by decide +kernel
theorem dX13_isSignedPoint_310 : decode cX13_isSignedPoint 310 = .ok (.invokevirtual 766, 3) := by decide +kernel
theorem dX13_isSignedPoint_313 : decode cX13_isSignedPoint 313 = .ok (.ifCond .eq 7, 3) := by decide +kernel
theorem dX13_isSignedPoint_316 : decode cX13_isSignedPoint 316 = .ok (.iconst 1, 1) := by decide +kernel
theorem dX13_isSignedPoint_317 : decode cX13_isSignedPoint 317 = .ok (.goto 4, 3) := by decide +kernel
theorem dX13_isSignedPoint_320 : decode cX13_isSignedPoint 320 = .ok (.iconst 0, 1) := by decide +kernel
theorem dX13_isSignedPoint_321 : decode cX13_isSignedPoint 321 = .ok (.istore_n 2, 1) := by decide +kernel
theorem dX13_isSignedPoint_322 : decode cX13_isSignedPoint 322 = .ok (.aload_n 0, 1) := by decide +kernel
theorem dX13_isSignedPoint_323 : decode cX13_isSignedPoint 323 = .ok (.aload_n 0, 1) := by decide +kernel
theorem dX13_isSignedPoint_324 : decode cX13_isSignedPoint 324 = .ok (.getfield 260, 3) := by decide +kernel
theorem dX13_isSignedPoint_327 : decode cX13_isSignedPoint 327 = .ok (.iconst 0, 1) := by decide +kernel
theorem dX13_isSignedPoint_328 : decode cX13_isSignedPoint 328 = .ok (.invokevirtual 770, 3) := by decide +kernel
theorem dX13_isSignedPoint_331 : decode cX13_isSignedPoint 331 = .ok (.iload_n 3, 1) := by decide +kernel
theorem dX13_isSignedPoint_332 : decode cX13_isSignedPoint 332 = .ok (.ifCond .eq 29, 3) := by decide +kernel
theorem dX13_isSignedPoint_335 : decode cX13_isSignedPoint 335 = .ok (.iload_n 2, 1) := by decide +kernel
theorem dX13_isSignedPoint_336 : decode cX13_isSignedPoint 336 = .ok (.ifCond .eq 19, 3) := by decide +kernel
theorem dX13_isSignedPoint_339 : decode cX13_isSignedPoint 339 = .ok (.aload_n 0, 1) := by decide +kernel
theorem dX13_isSignedPoint_340 : decode cX13_isSignedPoint 340 = .ok (.aload_n 0, 1) := by decide +kernel
theorem dX13_isSignedPoint_341 : decode cX13_isSignedPoint 341 = .ok (.getfield 263, 3) := by decide +kernel
theorem dX13_isSignedPoint_344 : decode cX13_isSignedPoint 344 = .ok (.iconst 0, 1) := by decide +kernel
theorem dX13_isSignedPoint_345 : decode cX13_isSignedPoint 345 = .ok (.invokevirtual 766, 3) := by decide +kernel
theorem dX13_isSignedPoint_348 : decode cX13_isSignedPoint 348 = .ok (.ifCond .eq 7, 3) := by decide +kernel
theorem dX13_isSignedPoint_351 : decode cX13_isSignedPoint 351 = .ok (.iconst 1, 1) := by decide +kernel
theorem dX13_isSignedPoint_352 : decode cX13_isSignedPoint 352 = .ok (.goto 4, 3) := by decide +kernel
theorem dX13_isSignedPoint_355 : decode cX13_isSignedPoint 355 = .ok (.iconst 0, 1) := by decide +kernel
theorem dX13_isSignedPoint_356 : decode cX13_isSignedPoint 356 = .ok (.istore_n 2, 1) := by decide +kernel
theorem dX13_isSignedPoint_357 : decode cX13_isSignedPoint 357 = .ok (.aload_n 0, 1) := by decide +kernel
theorem dX13_isSignedPoint_358 : decode cX13_isSignedPoint 358 = .ok (.invokevirtual 759, 3) := by decide +kernel
theorem dX13_isSignedPoint_361 : decode cX13_isSignedPoint 361 = .ok (.iload_n 2, 1) := by decide +kernel
theorem dX13_isSignedPoint_362 : decode cX13_isSignedPoint 362 = .ok (.ifCond .eq 15, 3) := by decide +kernel
theorem dX13_isSignedPoint_365 : decode cX13_isSignedPoint 365 = .ok (.aload_n 0, 1) := by decide +kernel
theorem dX13_isSignedPoint_366 : decode cX13_isSignedPoint 366 = .ok (.aload_n 0, 1) := by decide +kernel
theorem dX13_isSignedPoint_367 : decode cX13_isSignedPoint 367 = .ok (.getfield 186, 3) := by decide +kernel
theorem dX13_isSignedPoint_370 : decode cX13_isSignedPoint 370 = .ok (.iconst 0, 1) := by decide +kernel
theorem dX13_isSignedPoint_371 : decode cX13_isSignedPoint 371 = .ok (.invokevirtual 772, 3) := by decide +kernel
theorem dX13_isSignedPoint_374 : decode cX13_isSignedPoint 374 = .ok (.ifCond .ne 5, 3) := by decide +kernel
theorem dX13_isSignedPoint_377 : decode cX13_isSignedPoint 377 = .ok (.iconst 0, 1) := by decide +kernel
theorem dX13_isSignedPoint_378 : decode cX13_isSignedPoint 378 = .ok (.ireturn, 1) := by decide +kernel
theorem dX13_isSignedPoint_379 : decode cX13_isSignedPoint 379 = .ok (.aload_n 0, 1) := by decide +kernel
theorem dX13_isSignedPoint_380 : decode cX13_isSignedPoint 380 = .ok (.getfield 129, 3) := by decide +kernel
theorem dX13_isSignedPoint_383 : decode cX13_isSignedPoint 383 = .ok (.aload_n 0, 1) := by decide +kernel
theorem dX13_isSignedPoint_384 : decode cX13_isSignedPoint 384 = .ok (.getfield 186, 3) := by decide +kernel
theorem dX13_isSignedPoint_387 : decode cX13_isSignedPoint 387 = .ok (.iconst 0, 1) := by decide +kernel
theorem dX13_isSignedPoint_388 : decode cX13_isSignedPoint 388 = .ok (.bipush 32, 2) := by decide +kernel
theorem dX13_isSignedPoint_390 : decode cX13_isSignedPoint 390 = .ok (.aload_n 0, 1) := by decide +kernel
theorem dX13_isSignedPoint_391 : decode cX13_isSignedPoint 391 = .ok (.getfield 132, 3) := by decide +kernel
theorem dX13_isSignedPoint_394 : decode cX13_isSignedPoint 394 = .ok (.invokevirtual 690, 3) := by decide +kernel
theorem dX13_isSignedPoint_397 : decode cX13_isSignedPoint 397 = .ok (.aload_n 0, 1) := by decide +kernel
theorem dX13_isSignedPoint_398 : decode cX13_isSignedPoint 398 = .ok (.getfield 129, 3) := by decide +kernel
theorem dX13_isSignedPoint_401 : decode cX13_isSignedPoint 401 = .ok (.aload_n 0, 1) := by decide +kernel
theorem dX13_isSignedPoint_402 : decode cX13_isSignedPoint 402 = .ok (.getfield 257, 3) := by decide +kernel
theorem dX13_isSignedPoint_405 : decode cX13_isSignedPoint 405 = .ok (.iconst 0, 1) := by decide +kernel
theorem dX13_isSignedPoint_406 : decode cX13_isSignedPoint 406 = .ok (.bipush 32, 2) := by decide +kernel
theorem dX13_isSignedPoint_408 : decode cX13_isSignedPoint 408 = .ok (.aload_n 0, 1) := by decide +kernel
theorem dX13_isSignedPoint_409 : decode cX13_isSignedPoint 409 = .ok (.getfield 135, 3) := by decide +kernel
theorem dX13_isSignedPoint_412 : decode cX13_isSignedPoint 412 = .ok (.invokevirtual 726, 3) := by decide +kernel
theorem dX13_isSignedPoint_415 : decode cX13_isSignedPoint 415 = .ok (.aload_n 0, 1) := by decide +kernel
theorem dX13_isSignedPoint_416 : decode cX13_isSignedPoint 416 = .ok (.getfield 129, 3) := by decide +kernel
theorem dX13_isSignedPoint_419 : decode cX13_isSignedPoint 419 = .ok (.aload_n 0, 1) := by decide +kernel
theorem dX13_isSignedPoint_420 : decode cX13_isSignedPoint 420 = .ok (.getfield 132, 3) := by decide +kernel
theorem dX13_isSignedPoint_423 : decode cX13_isSignedPoint 423 = .ok (.aload_n 0, 1) := by decide +kernel
theorem dX13_isSignedPoint_424 : decode cX13_isSignedPoint 424 = .ok (.getfield 135, 3) := by decide +kernel
theorem dX13_isSignedPoint_427 : decode cX13_isSignedPoint 427 = .ok (.invokevirtual 732, 3) := by decide +kernel
theorem dX13_isSignedPoint_430 : decode cX13_isSignedPoint 430 = .ok (.ifCond .ne 7, 3) := by decide +kernel
theorem dX13_isSignedPoint_433 : decode cX13_isSignedPoint 433 = .ok (.iconst 1, 1) := by decide +kernel
theorem dX13_isSignedPoint_434 : decode cX13_isSignedPoint 434 = .ok (.goto 4, 3) := by decide +kernel
theorem dX13_isSignedPoint_437 : decode cX13_isSignedPoint 437 = .ok (.iconst 0, 1) := by decide +kernel
theorem dX13_isSignedPoint_438 : decode cX13_isSignedPoint 438 = .ok (.ireturn, 1) := by decide +kernel
abbrev rmX13_isSignedPoint : Room := { frames := 7, cells := 0, slots := 0, locals := 157 }
set_option maxHeartbeats 4000000 in
set_option maxRecDepth 100000 in
theorem wB_X13_isSignedPoint_361 {G : mG} {F : Nat} {x : mXT} {sz : Nat} {r0 : Int32} {M0 : mM} (X : mCX G RX13 cX13_isSignedPoint 4 (some .boolean) "isSignedPoint" rmX13_isSignedPoint x) (hQ : mQI x r0 M0 (sz, 0, 0)) {l0 : Nat} {l2 : Int32} {M : mM} (h : B_X13_isSignedPoint_361 G F l0 l2 M = some (r0, M0)) : WW x (sz, 0, 0) M 361 [(0, .ref l0), (2, .int l2)] [] := by
  unfold B_X13_isSignedPoint_361 at h
  refine ww_iload_n 361 X dX13_isSignedPoint_361 1 rfl rfl ?_
  refine ww_if_eq 362 377 X dX13_isSignedPoint_362 (by decide) (fun q => ?_) (fun q => ?_)
  · replace h := (if_pos q).symm.trans h
    refine ww_iconst 377 X (v := (0 : Int32)) dX13_isSignedPoint_377 (by decide) ?_
    exact ww_zretE 378 X hQ dX13_isSignedPoint_378 h
  · replace h := (if_neg q).symm.trans h
    refine ww_aload_n 365 X dX13_isSignedPoint_365 0 rfl rfl ?_
    refine ww_aload_n 366 X dX13_isSignedPoint_366 0 rfl rfl ?_
    obtain ⟨v367, e367, h⟩ := bO_some h
    refine ww_getR 367 X dX13_isSignedPoint_367 fG_X13_186 e367 ?_
    refine ww_iconst 370 X (v := (0 : Int32)) dX13_isSignedPoint_370 (by decide) ?_
    obtain ⟨_, f371, h⟩ := bO_some h
    obtain ⟨v371, M371, e371, h⟩ := bP_some h
    refine ww_callVI0 371 X dX13_isSignedPoint_371 mY_X13_getPoint mL_X13_772 (rcv_spec f371) ⟨_, _, rfl⟩ (by decide) (As := [.ref v367, .int (0 : Int32)]) (rest := []) rfl rfl ⟨Nat.le_of_ble_eq_true rfl, Nat.le_of_ble_eq_true rfl⟩ (Nat.le_of_ble_eq_true rfl) (fun l D A => c_X13_getPoint l D A e371) ?_
    refine ww_if_ne 374 379 X dX13_isSignedPoint_374 (by decide) (fun q => ?_) (fun q => ?_)
    · replace h := (if_neg q).symm.trans h
      refine ww_aload_n 379 X dX13_isSignedPoint_379 0 rfl rfl ?_
      obtain ⟨v380, e380, h⟩ := bO_some h
      refine ww_getR 380 X dX13_isSignedPoint_380 fG_X13_129 e380 ?_
      refine ww_aload_n 383 X dX13_isSignedPoint_383 0 rfl rfl ?_
      obtain ⟨v384, e384, h⟩ := bO_some h
      refine ww_getR 384 X dX13_isSignedPoint_384 fG_X13_186 e384 ?_
      refine ww_iconst 387 X (v := (0 : Int32)) dX13_isSignedPoint_387 (by decide) ?_
      refine ww_bipush 388 X (v := (32 : Int32)) dX13_isSignedPoint_388 (by decide) ?_
      refine ww_aload_n 390 X dX13_isSignedPoint_390 0 rfl rfl ?_
      obtain ⟨v391, e391, h⟩ := bO_some h
      refine ww_getR 391 X dX13_isSignedPoint_391 fG_X13_132 e391 ?_
      obtain ⟨_, f394, h⟩ := bO_some h
      obtain ⟨M394, e394, h⟩ := bO_some h
      refine ww_callVV0 394 X dX13_isSignedPoint_394 mY_X12_reduce mL_X13_690 (rcv_spec f394) ⟨_, _, rfl⟩ (by decide) (As := [.ref v384, .int (0 : Int32), .int (32 : Int32), .ref v391]) (rest := []) rfl rfl ⟨Nat.le_of_ble_eq_true rfl, Nat.le_of_ble_eq_true rfl⟩ (Nat.le_of_ble_eq_true rfl) (fun l D A => c_X12_reduce l D A e394) ?_
      refine ww_aload_n 397 X dX13_isSignedPoint_397 0 rfl rfl ?_
      obtain ⟨v398, e398, h⟩ := bO_some h
      refine ww_getR 398 X dX13_isSignedPoint_398 fG_X13_129 e398 ?_
      refine ww_aload_n 401 X dX13_isSignedPoint_401 0 rfl rfl ?_
      obtain ⟨v402, e402, h⟩ := bO_some h
      refine ww_getR 402 X dX13_isSignedPoint_402 fG_X13_257 e402 ?_
      refine ww_iconst 405 X (v := (0 : Int32)) dX13_isSignedPoint_405 (by decide) ?_
      refine ww_bipush 406 X (v := (32 : Int32)) dX13_isSignedPoint_406 (by decide) ?_
      refine ww_aload_n 408 X dX13_isSignedPoint_408 0 rfl rfl ?_
      obtain ⟨v409, e409, h⟩ := bO_some h
      refine ww_getR 409 X dX13_isSignedPoint_409 fG_X13_135 e409 ?_
      obtain ⟨_, f412, h⟩ := bO_some h
      obtain ⟨M412, e412, h⟩ := bO_some h
      refine ww_callVV0 412 X dX13_isSignedPoint_412 mY_X12_load mL_X13_726 (rcv_spec f412) ⟨_, _, rfl⟩ (by decide) (As := [.ref v402, .int (0 : Int32), .int (32 : Int32), .ref v409]) (rest := []) rfl rfl ⟨Nat.le_of_ble_eq_true rfl, Nat.le_of_ble_eq_true rfl⟩ (Nat.le_of_ble_eq_true rfl) (fun l D A => c_X12_load l D A e412) ?_
      refine ww_aload_n 415 X dX13_isSignedPoint_415 0 rfl rfl ?_
      obtain ⟨v416, e416, h⟩ := bO_some h
      refine ww_getR 416 X dX13_isSignedPoint_416 fG_X13_129 e416 ?_
      refine ww_aload_n 419 X dX13_isSignedPoint_419 0 rfl rfl ?_
      obtain ⟨v420, e420, h⟩ := bO_some h
      refine ww_getR 420 X dX13_isSignedPoint_420 fG_X13_132 e420 ?_
      refine ww_aload_n 423 X dX13_isSignedPoint_423 0 rfl rfl ?_
      obtain ⟨v424, e424, h⟩ := bO_some h
      refine ww_getR 424 X dX13_isSignedPoint_424 fG_X13_135 e424 ?_
      obtain ⟨_, f427, h⟩ := bO_some h
      obtain ⟨v427, M427, e427, h⟩ := bP_some h
      refine ww_callVI0 427 X dX13_isSignedPoint_427 mY_X12_order mL_X13_732 (rcv_spec f427) ⟨_, _, rfl⟩ (by decide) (As := [.ref v420, .ref v424]) (rest := []) rfl rfl ⟨Nat.le_of_ble_eq_true rfl, Nat.le_of_ble_eq_true rfl⟩ (Nat.le_of_ble_eq_true rfl) (fun l D A => c_X12_order l D A e427) ?_
      refine ww_if_ne 430 437 X dX13_isSignedPoint_430 (by decide) (fun q => ?_) (fun q => ?_)
      · replace h := (if_neg q).symm.trans h
        refine ww_iconst 437 X (v := (0 : Int32)) dX13_isSignedPoint_437 (by decide) ?_
        exact ww_zretE 438 X hQ dX13_isSignedPoint_438 h
      · replace h := (if_pos q).symm.trans h
        refine ww_iconst 433 X (v := (1 : Int32)) dX13_isSignedPoint_433 (by decide) ?_
        refine ww_goto 434 438 X dX13_isSignedPoint_434 (by decide) ?_
        exact ww_zretE 438 X hQ dX13_isSignedPoint_438 h
    · replace h := (if_pos q).symm.trans h
      refine ww_iconst 377 X (v := (0 : Int32)) dX13_isSignedPoint_377 (by decide) ?_
      exact ww_zretE 378 X hQ dX13_isSignedPoint_378 h
set_option maxHeartbeats 4000000 in
set_option maxRecDepth 100000 in
theorem wB_X13_isSignedPoint_321 {G : mG} {F : Nat} {x : mXT} {sz : Nat} {r0 : Int32} {M0 : mM} (X : mCX G RX13 cX13_isSignedPoint 4 (some .boolean) "isSignedPoint" rmX13_isSignedPoint x) (hQ : mQI x r0 M0 (sz, 0, 0)) {l0 : Nat} {l3 : Int32} {sk0 : Int32} {M : mM} (h : B_X13_isSignedPoint_321 G F l0 l3 sk0 M = some (r0, M0)) : WW x (sz, 0, 0) M 321 [(0, .ref l0), (3, .int l3)] [.int sk0] := by
  unfold B_X13_isSignedPoint_321 at h
  refine ww_istore_n 321 X dX13_isSignedPoint_321 (lv' := [(0, .ref l0), (2, .int sk0), (3, .int l3)]) rfl (by decide) [1, 0, 2] rfl ?_
  refine ww_aload_n 322 X dX13_isSignedPoint_322 0 rfl rfl ?_
  refine ww_aload_n 323 X dX13_isSignedPoint_323 0 rfl rfl ?_
  obtain ⟨v324, e324, h⟩ := bO_some h
  refine ww_getR 324 X dX13_isSignedPoint_324 fG_X13_260 e324 ?_
  refine ww_iconst 327 X (v := (0 : Int32)) dX13_isSignedPoint_327 (by decide) ?_
  obtain ⟨_, f328, h⟩ := bO_some h
  obtain ⟨M328, e328, h⟩ := bO_some h
  refine ww_callVV0 328 X dX13_isSignedPoint_328 mY_X13_times_ mL_X13_770 (rcv_spec f328) ⟨_, _, rfl⟩ (by decide) (As := [.ref v324, .int (0 : Int32)]) (rest := []) rfl rfl ⟨Nat.le_of_ble_eq_true rfl, Nat.le_of_ble_eq_true rfl⟩ (Nat.le_of_ble_eq_true rfl) (fun l D A => c_X13_times_ l D A e328) ?_
  refine ww_iload_n 331 X dX13_isSignedPoint_331 2 rfl rfl ?_
  refine ww_if_eq 332 361 X dX13_isSignedPoint_332 (by decide) (fun q => ?_) (fun q => ?_)
  · replace h := (if_pos q).symm.trans h
    exact ww_sub [0, 1] rfl (wB_X13_isSignedPoint_361 X hQ h)
  · replace h := (if_neg q).symm.trans h
    refine ww_iload_n 335 X dX13_isSignedPoint_335 1 rfl rfl ?_
    refine ww_if_eq 336 355 X dX13_isSignedPoint_336 (by decide) (fun q => ?_) (fun q => ?_)
    · replace h := (if_pos q).symm.trans h
      refine ww_iconst 355 X (v := (0 : Int32)) dX13_isSignedPoint_355 (by decide) ?_
      refine ww_istore_n 356 X dX13_isSignedPoint_356 (lv' := [(0, .ref l0), (2, .int (0 : Int32)), (3, .int l3)]) rfl (by decide) [1, 0, 2] rfl ?_
      refine ww_aload_n 357 X dX13_isSignedPoint_357 0 rfl rfl ?_
      obtain ⟨_, f358, h⟩ := bO_some h
      obtain ⟨M358, e358, h⟩ := bO_some h
      refine ww_callVV0 358 X dX13_isSignedPoint_358 mY_X13_addPoint mL_X13_759 (rcv_spec f358) ⟨_, _, rfl⟩ (by decide) (As := []) (rest := []) rfl rfl ⟨Nat.le_of_ble_eq_true rfl, Nat.le_of_ble_eq_true rfl⟩ (Nat.le_of_ble_eq_true rfl) (fun l D A => c_X13_addPoint l D A e358) ?_
      exact ww_sub [0, 1] rfl (wB_X13_isSignedPoint_361 X hQ h)
    · replace h := (if_neg q).symm.trans h
      refine ww_aload_n 339 X dX13_isSignedPoint_339 0 rfl rfl ?_
      refine ww_aload_n 340 X dX13_isSignedPoint_340 0 rfl rfl ?_
      obtain ⟨v341, e341, h⟩ := bO_some h
      refine ww_getR 341 X dX13_isSignedPoint_341 fG_X13_263 e341 ?_
      refine ww_iconst 344 X (v := (0 : Int32)) dX13_isSignedPoint_344 (by decide) ?_
      obtain ⟨_, f345, h⟩ := bO_some h
      obtain ⟨v345, M345, e345, h⟩ := bP_some h
      refine ww_callVI0 345 X dX13_isSignedPoint_345 mY_X13_setPoint mL_X13_766 (rcv_spec f345) ⟨_, _, rfl⟩ (by decide) (As := [.ref v341, .int (0 : Int32)]) (rest := []) rfl rfl ⟨Nat.le_of_ble_eq_true rfl, Nat.le_of_ble_eq_true rfl⟩ (Nat.le_of_ble_eq_true rfl) (fun l D A => c_X13_setPoint l D A e345) ?_
      refine ww_if_eq 348 355 X dX13_isSignedPoint_348 (by decide) (fun q => ?_) (fun q => ?_)
      · replace h := (if_pos q).symm.trans h
        refine ww_iconst 355 X (v := (0 : Int32)) dX13_isSignedPoint_355 (by decide) ?_
        refine ww_istore_n 356 X dX13_isSignedPoint_356 (lv' := [(0, .ref l0), (2, .int (0 : Int32)), (3, .int l3)]) rfl (by decide) [1, 0, 2] rfl ?_
        refine ww_aload_n 357 X dX13_isSignedPoint_357 0 rfl rfl ?_
        obtain ⟨_, f358, h⟩ := bO_some h
        obtain ⟨M358, e358, h⟩ := bO_some h
        refine ww_callVV0 358 X dX13_isSignedPoint_358 mY_X13_addPoint mL_X13_759 (rcv_spec f358) ⟨_, _, rfl⟩ (by decide) (As := []) (rest := []) rfl rfl ⟨Nat.le_of_ble_eq_true rfl, Nat.le_of_ble_eq_true rfl⟩ (Nat.le_of_ble_eq_true rfl) (fun l D A => c_X13_addPoint l D A e358) ?_
        exact ww_sub [0, 1] rfl (wB_X13_isSignedPoint_361 X hQ h)
      · replace h := (if_neg q).symm.trans h
        refine ww_iconst 351 X (v := (1 : Int32)) dX13_isSignedPoint_351 (by decide) ?_
        refine ww_goto 352 356 X dX13_isSignedPoint_352 (by decide) ?_
        refine ww_istore_n 356 X dX13_isSignedPoint_356 (lv' := [(0, .ref l0), (2, .int (1 : Int32)), (3, .int l3)]) rfl (by decide) [1, 0, 2] rfl ?_
        refine ww_aload_n 357 X dX13_isSignedPoint_357 0 rfl rfl ?_
        obtain ⟨_, f358, h⟩ := bO_some h
        obtain ⟨M358, e358, h⟩ := bO_some h
        refine ww_callVV0 358 X dX13_isSignedPoint_358 mY_X13_addPoint mL_X13_759 (rcv_spec f358) ⟨_, _, rfl⟩ (by decide) (As := []) (rest := []) rfl rfl ⟨Nat.le_of_ble_eq_true rfl, Nat.le_of_ble_eq_true rfl⟩ (Nat.le_of_ble_eq_true rfl) (fun l D A => c_X13_addPoint l D A e358) ?_
        exact ww_sub [0, 1] rfl (wB_X13_isSignedPoint_361 X hQ h)
set_option maxHeartbeats 4000000 in
set_option maxRecDepth 100000 in
theorem wP_X13_isSignedPoint {G : mG} {F : Nat} {x : mXT} {sz : Nat} {r0 : Int32} {M0 : mM} (X : mCX G RX13 cX13_isSignedPoint 4 (some .boolean) "isSignedPoint" rmX13_isSignedPoint x) (hQ : mQI x r0 M0 (sz, 0, 0)) {l0 : Nat} {l1 : Int32} {M : mM} (h : P_X13_isSignedPoint G F l0 l1 M = some (r0, M0)) : WW x (sz, 0, 0) M 0 [(0, .ref l0), (1, .int l1)] [] := by
  unfold P_X13_isSignedPoint at h
  refine ww_aload_n 0 X dX13_isSignedPoint_0 0 rfl rfl ?_
  refine ww_aload_n 1 X dX13_isSignedPoint_1 0 rfl rfl ?_
  obtain ⟨v2, e2, h⟩ := bO_some h
  refine ww_getR 2 X dX13_isSignedPoint_2 fG_X13_257 e2 ?_
  refine ww_iconst 5 X (v := (0 : Int32)) dX13_isSignedPoint_5 (by decide) ?_
  obtain ⟨_, f6, h⟩ := bO_some h
  obtain ⟨v6, M6, e6, h⟩ := bP_some h
  refine ww_callVI0 6 X dX13_isSignedPoint_6 mY_X13_isSecret mL_X13_861 (rcv_spec f6) ⟨_, _, rfl⟩ (by decide) (As := [.ref v2, .int (0 : Int32)]) (rest := []) rfl rfl ⟨Nat.le_of_ble_eq_true rfl, Nat.le_of_ble_eq_true rfl⟩ (Nat.le_of_ble_eq_true rfl) (fun l D A => c_X13_isSecret l D A e6) ?_
  refine ww_if_eq 9 25 X dX13_isSignedPoint_9 (by decide) (fun q => ?_) (fun q => ?_)
  · replace h := (if_pos q).symm.trans h
    refine ww_iconst 25 X (v := (0 : Int32)) dX13_isSignedPoint_25 (by decide) ?_
    exact ww_zretE 26 X hQ dX13_isSignedPoint_26 h
  · replace h := (if_neg q).symm.trans h
    refine ww_aload_n 12 X dX13_isSignedPoint_12 0 rfl rfl ?_
    refine ww_aload_n 13 X dX13_isSignedPoint_13 0 rfl rfl ?_
    obtain ⟨v14, e14, h⟩ := bO_some h
    refine ww_getR 14 X dX13_isSignedPoint_14 fG_X13_257 e14 ?_
    refine ww_bipush 17 X (v := (32 : Int32)) dX13_isSignedPoint_17 (by decide) ?_
    obtain ⟨_, f19, h⟩ := bO_some h
    obtain ⟨v19, M19, e19, h⟩ := bP_some h
    refine ww_callVI0 19 X dX13_isSignedPoint_19 mY_X13_isSecret mL_X13_861 (rcv_spec f19) ⟨_, _, rfl⟩ (by decide) (As := [.ref v14, .int (32 : Int32)]) (rest := []) rfl rfl ⟨Nat.le_of_ble_eq_true rfl, Nat.le_of_ble_eq_true rfl⟩ (Nat.le_of_ble_eq_true rfl) (fun l D A => c_X13_isSecret l D A e19) ?_
    refine ww_if_ne 22 27 X dX13_isSignedPoint_22 (by decide) (fun q => ?_) (fun q => ?_)
    · replace h := (if_neg q).symm.trans h
      refine ww_aload_n 27 X dX13_isSignedPoint_27 0 rfl rfl ?_
      obtain ⟨_, f28, h⟩ := bO_some h
      obtain ⟨M28, e28, h⟩ := bO_some h
      refine ww_callVV0 28 X dX13_isSignedPoint_28 mY_X13_digestNumber mL_X13_970 (rcv_spec f28) ⟨_, _, rfl⟩ (by decide) (As := []) (rest := []) rfl rfl ⟨Nat.le_of_ble_eq_true rfl, Nat.le_of_ble_eq_true rfl⟩ (Nat.le_of_ble_eq_true rfl) (fun l D A => c_X13_digestNumber l D A e28) ?_
      refine ww_aload_n 31 X dX13_isSignedPoint_31 0 rfl rfl ?_
      obtain ⟨v32, e32, h⟩ := bO_some h
      refine ww_getR 32 X dX13_isSignedPoint_32 fG_X13_129 e32 ?_
      refine ww_aload_n 35 X dX13_isSignedPoint_35 0 rfl rfl ?_
      obtain ⟨v36, e36, h⟩ := bO_some h
      refine ww_getR 36 X dX13_isSignedPoint_36 fG_X13_257 e36 ?_
      refine ww_iconst 39 X (v := (0 : Int32)) dX13_isSignedPoint_39 (by decide) ?_
      refine ww_bipush 40 X (v := (32 : Int32)) dX13_isSignedPoint_40 (by decide) ?_
      refine ww_aload_n 42 X dX13_isSignedPoint_42 0 rfl rfl ?_
      obtain ⟨v43, e43, h⟩ := bO_some h
      refine ww_getR 43 X dX13_isSignedPoint_43 fG_X13_269 e43 ?_
      obtain ⟨_, f46, h⟩ := bO_some h
      obtain ⟨M46, e46, h⟩ := bO_some h
      refine ww_callVV0 46 X dX13_isSignedPoint_46 mY_X12_load mL_X13_726 (rcv_spec f46) ⟨_, _, rfl⟩ (by decide) (As := [.ref v36, .int (0 : Int32), .int (32 : Int32), .ref v43]) (rest := []) rfl rfl ⟨Nat.le_of_ble_eq_true rfl, Nat.le_of_ble_eq_true rfl⟩ (Nat.le_of_ble_eq_true rfl) (fun l D A => c_X12_load l D A e46) ?_
      refine ww_aload_n 49 X dX13_isSignedPoint_49 0 rfl rfl ?_
      obtain ⟨v50, e50, h⟩ := bO_some h
      refine ww_getR 50 X dX13_isSignedPoint_50 fG_X13_129 e50 ?_
      refine ww_aload_n 53 X dX13_isSignedPoint_53 0 rfl rfl ?_
      obtain ⟨v54, e54, h⟩ := bO_some h
      refine ww_getR 54 X dX13_isSignedPoint_54 fG_X13_269 e54 ?_
      refine ww_aload_n 57 X dX13_isSignedPoint_57 0 rfl rfl ?_
      obtain ⟨v58, e58, h⟩ := bO_some h
      refine ww_getR 58 X dX13_isSignedPoint_58 fG_X13_269 e58 ?_
      obtain ⟨_, f61, h⟩ := bO_some h
      obtain ⟨M61, e61, h⟩ := bO_some h
      refine ww_callVV0 61 X dX13_isSignedPoint_61 mY_X12_into mL_X13_694 (rcv_spec f61) ⟨_, _, rfl⟩ (by decide) (As := [.ref v54, .ref v58]) (rest := []) rfl rfl ⟨Nat.le_of_ble_eq_true rfl, Nat.le_of_ble_eq_true rfl⟩ (Nat.le_of_ble_eq_true rfl) (fun l D A => c_X12_into l D A e61) ?_
      refine ww_aload_n 64 X dX13_isSignedPoint_64 0 rfl rfl ?_
      obtain ⟨v65, e65, h⟩ := bO_some h
      refine ww_getR 65 X dX13_isSignedPoint_65 fG_X13_129 e65 ?_
      refine ww_aload_n 68 X dX13_isSignedPoint_68 0 rfl rfl ?_
      obtain ⟨v69, e69, h⟩ := bO_some h
      refine ww_getR 69 X dX13_isSignedPoint_69 fG_X13_257 e69 ?_
      refine ww_bipush 72 X (v := (32 : Int32)) dX13_isSignedPoint_72 (by decide) ?_
      refine ww_bipush 74 X (v := (32 : Int32)) dX13_isSignedPoint_74 (by decide) ?_
      refine ww_aload_n 76 X dX13_isSignedPoint_76 0 rfl rfl ?_
      obtain ⟨v77, e77, h⟩ := bO_some h
      refine ww_getR 77 X dX13_isSignedPoint_77 fG_X13_272 e77 ?_
      obtain ⟨_, f80, h⟩ := bO_some h
      obtain ⟨M80, e80, h⟩ := bO_some h
      refine ww_callVV0 80 X dX13_isSignedPoint_80 mY_X12_load mL_X13_726 (rcv_spec f80) ⟨_, _, rfl⟩ (by decide) (As := [.ref v69, .int (32 : Int32), .int (32 : Int32), .ref v77]) (rest := []) rfl rfl ⟨Nat.le_of_ble_eq_true rfl, Nat.le_of_ble_eq_true rfl⟩ (Nat.le_of_ble_eq_true rfl) (fun l D A => c_X12_load l D A e80) ?_
      refine ww_aload_n 83 X dX13_isSignedPoint_83 0 rfl rfl ?_
      obtain ⟨v84, e84, h⟩ := bO_some h
      refine ww_getR 84 X dX13_isSignedPoint_84 fG_X13_129 e84 ?_
      refine ww_aload_n 87 X dX13_isSignedPoint_87 0 rfl rfl ?_
      obtain ⟨v88, e88, h⟩ := bO_some h
      refine ww_getR 88 X dX13_isSignedPoint_88 fG_X13_272 e88 ?_
      refine ww_aload_n 91 X dX13_isSignedPoint_91 0 rfl rfl ?_
      obtain ⟨v92, e92, h⟩ := bO_some h
      refine ww_getR 92 X dX13_isSignedPoint_92 fG_X13_272 e92 ?_
      obtain ⟨_, f95, h⟩ := bO_some h
      obtain ⟨M95, e95, h⟩ := bO_some h
      refine ww_callVV0 95 X dX13_isSignedPoint_95 mY_X12_into mL_X13_694 (rcv_spec f95) ⟨_, _, rfl⟩ (by decide) (As := [.ref v88, .ref v92]) (rest := []) rfl rfl ⟨Nat.le_of_ble_eq_true rfl, Nat.le_of_ble_eq_true rfl⟩ (Nat.le_of_ble_eq_true rfl) (fun l D A => c_X12_into l D A e95) ?_
      refine ww_aload_n 98 X dX13_isSignedPoint_98 0 rfl rfl ?_
      refine ww_aload_n 99 X dX13_isSignedPoint_99 0 rfl rfl ?_
      obtain ⟨v100, e100, h⟩ := bO_some h
      refine ww_getR 100 X dX13_isSignedPoint_100 fG_X13_144 e100 ?_
      obtain ⟨_, f103, h⟩ := bO_some h
      obtain ⟨M103, e103, h⟩ := bO_some h
      refine ww_callVV0 103 X dX13_isSignedPoint_103 mY_X13_setLessTwo mL_X13_762 (rcv_spec f103) ⟨_, _, rfl⟩ (by decide) (As := [.ref v100]) (rest := []) rfl rfl ⟨Nat.le_of_ble_eq_true rfl, Nat.le_of_ble_eq_true rfl⟩ (Nat.le_of_ble_eq_true rfl) (fun l D A => c_X13_setLessTwo l D A e103) ?_
      refine ww_aload_n 106 X dX13_isSignedPoint_106 0 rfl rfl ?_
      obtain ⟨v107, e107, h⟩ := bO_some h
      refine ww_getR 107 X dX13_isSignedPoint_107 fG_X13_129 e107 ?_
      refine ww_aload_n 110 X dX13_isSignedPoint_110 0 rfl rfl ?_
      obtain ⟨v111, e111, h⟩ := bO_some h
      refine ww_getR 111 X dX13_isSignedPoint_111 fG_X13_272 e111 ?_
      refine ww_aload_n 114 X dX13_isSignedPoint_114 0 rfl rfl ?_
      obtain ⟨v115, e115, h⟩ := bO_some h
      refine ww_getR 115 X dX13_isSignedPoint_115 fG_X13_153 e115 ?_
      refine ww_iconst 118 X (v := (0 : Int32)) dX13_isSignedPoint_118 (by decide) ?_
      refine ww_bipush 119 X (v := (32 : Int32)) dX13_isSignedPoint_119 (by decide) ?_
      refine ww_aload_n 121 X dX13_isSignedPoint_121 0 rfl rfl ?_
      obtain ⟨v122, e122, h⟩ := bO_some h
      refine ww_getR 122 X dX13_isSignedPoint_122 fG_X13_272 e122 ?_
      obtain ⟨_, f125, h⟩ := bO_some h
      obtain ⟨M125, e125, h⟩ := bO_some h
      refine ww_callVV0 125 X dX13_isSignedPoint_125 mY_X12_power mL_X13_698 (rcv_spec f125) ⟨_, _, rfl⟩ (by decide) (As := [.ref v111, .ref v115, .int (0 : Int32), .int (32 : Int32), .ref v122]) (rest := []) rfl rfl ⟨Nat.le_of_ble_eq_true rfl, Nat.le_of_ble_eq_true rfl⟩ (Nat.le_of_ble_eq_true rfl) (fun l D A => c_X12_power l D A e125) ?_
      refine ww_aload_n 128 X dX13_isSignedPoint_128 0 rfl rfl ?_
      obtain ⟨v129, e129, h⟩ := bO_some h
      refine ww_getR 129 X dX13_isSignedPoint_129 fG_X13_129 e129 ?_
      refine ww_aload_n 132 X dX13_isSignedPoint_132 0 rfl rfl ?_
      obtain ⟨v133, e133, h⟩ := bO_some h
      refine ww_getR 133 X dX13_isSignedPoint_133 fG_X13_266 e133 ?_
      refine ww_aload_n 136 X dX13_isSignedPoint_136 0 rfl rfl ?_
      obtain ⟨v137, e137, h⟩ := bO_some h
      refine ww_getR 137 X dX13_isSignedPoint_137 fG_X13_272 e137 ?_
      refine ww_aload_n 140 X dX13_isSignedPoint_140 0 rfl rfl ?_
      obtain ⟨v141, e141, h⟩ := bO_some h
      refine ww_getR 141 X dX13_isSignedPoint_141 fG_X13_266 e141 ?_
      obtain ⟨_, f144, h⟩ := bO_some h
      obtain ⟨M144, e144, h⟩ := bO_some h
      refine ww_callVV0 144 X dX13_isSignedPoint_144 mY_X12_product mL_X13_736 (rcv_spec f144) ⟨_, _, rfl⟩ (by decide) (As := [.ref v133, .ref v137, .ref v141]) (rest := []) rfl rfl ⟨Nat.le_of_ble_eq_true rfl, Nat.le_of_ble_eq_true rfl⟩ (Nat.le_of_ble_eq_true rfl) (fun l D A => c_X12_product l D A e144) ?_
      refine ww_aload_n 147 X dX13_isSignedPoint_147 0 rfl rfl ?_
      obtain ⟨v148, e148, h⟩ := bO_some h
      refine ww_getR 148 X dX13_isSignedPoint_148 fG_X13_129 e148 ?_
      refine ww_aload_n 151 X dX13_isSignedPoint_151 0 rfl rfl ?_
      obtain ⟨v152, e152, h⟩ := bO_some h
      refine ww_getR 152 X dX13_isSignedPoint_152 fG_X13_269 e152 ?_
      refine ww_aload_n 155 X dX13_isSignedPoint_155 0 rfl rfl ?_
      obtain ⟨v156, e156, h⟩ := bO_some h
      refine ww_getR 156 X dX13_isSignedPoint_156 fG_X13_272 e156 ?_
      refine ww_aload_n 159 X dX13_isSignedPoint_159 0 rfl rfl ?_
      obtain ⟨v160, e160, h⟩ := bO_some h
      refine ww_getR 160 X dX13_isSignedPoint_160 fG_X13_269 e160 ?_
      obtain ⟨_, f163, h⟩ := bO_some h
      obtain ⟨M163, e163, h⟩ := bO_some h
      refine ww_callVV0 163 X dX13_isSignedPoint_163 mY_X12_product mL_X13_736 (rcv_spec f163) ⟨_, _, rfl⟩ (by decide) (As := [.ref v152, .ref v156, .ref v160]) (rest := []) rfl rfl ⟨Nat.le_of_ble_eq_true rfl, Nat.le_of_ble_eq_true rfl⟩ (Nat.le_of_ble_eq_true rfl) (fun l D A => c_X12_product l D A e163) ?_
      refine ww_aload_n 166 X dX13_isSignedPoint_166 0 rfl rfl ?_
      obtain ⟨v167, e167, h⟩ := bO_some h
      refine ww_getR 167 X dX13_isSignedPoint_167 fG_X13_129 e167 ?_
      refine ww_aload_n 170 X dX13_isSignedPoint_170 0 rfl rfl ?_
      obtain ⟨v171, e171, h⟩ := bO_some h
      refine ww_getR 171 X dX13_isSignedPoint_171 fG_X13_266 e171 ?_
      refine ww_aload_n 174 X dX13_isSignedPoint_174 0 rfl rfl ?_
      obtain ⟨v175, e175, h⟩ := bO_some h
      refine ww_getR 175 X dX13_isSignedPoint_175 fG_X13_266 e175 ?_
      obtain ⟨_, f178, h⟩ := bO_some h
      obtain ⟨M178, e178, h⟩ := bO_some h
      refine ww_callVV0 178 X dX13_isSignedPoint_178 mY_X12_outOf mL_X13_702 (rcv_spec f178) ⟨_, _, rfl⟩ (by decide) (As := [.ref v171, .ref v175]) (rest := []) rfl rfl ⟨Nat.le_of_ble_eq_true rfl, Nat.le_of_ble_eq_true rfl⟩ (Nat.le_of_ble_eq_true rfl) (fun l D A => c_X12_outOf l D A e178) ?_
      refine ww_aload_n 181 X dX13_isSignedPoint_181 0 rfl rfl ?_
      obtain ⟨v182, e182, h⟩ := bO_some h
      refine ww_getR 182 X dX13_isSignedPoint_182 fG_X13_129 e182 ?_
      refine ww_aload_n 185 X dX13_isSignedPoint_185 0 rfl rfl ?_
      obtain ⟨v186, e186, h⟩ := bO_some h
      refine ww_getR 186 X dX13_isSignedPoint_186 fG_X13_269 e186 ?_
      refine ww_aload_n 189 X dX13_isSignedPoint_189 0 rfl rfl ?_
      obtain ⟨v190, e190, h⟩ := bO_some h
      refine ww_getR 190 X dX13_isSignedPoint_190 fG_X13_269 e190 ?_
      obtain ⟨_, f193, h⟩ := bO_some h
      obtain ⟨M193, e193, h⟩ := bO_some h
      refine ww_callVV0 193 X dX13_isSignedPoint_193 mY_X12_outOf mL_X13_702 (rcv_spec f193) ⟨_, _, rfl⟩ (by decide) (As := [.ref v186, .ref v190]) (rest := []) rfl rfl ⟨Nat.le_of_ble_eq_true rfl, Nat.le_of_ble_eq_true rfl⟩ (Nat.le_of_ble_eq_true rfl) (fun l D A => c_X12_outOf l D A e193) ?_
      refine ww_aload_n 196 X dX13_isSignedPoint_196 0 rfl rfl ?_
      obtain ⟨v197, e197, h⟩ := bO_some h
      refine ww_getR 197 X dX13_isSignedPoint_197 fG_X13_129 e197 ?_
      refine ww_aload_n 200 X dX13_isSignedPoint_200 0 rfl rfl ?_
      obtain ⟨v201, e201, h⟩ := bO_some h
      refine ww_getR 201 X dX13_isSignedPoint_201 fG_X13_266 e201 ?_
      refine ww_aload_n 204 X dX13_isSignedPoint_204 0 rfl rfl ?_
      obtain ⟨v205, e205, h⟩ := bO_some h
      refine ww_getR 205 X dX13_isSignedPoint_205 fG_X13_260 e205 ?_
      refine ww_iconst 208 X (v := (0 : Int32)) dX13_isSignedPoint_208 (by decide) ?_
      refine ww_bipush 209 X (v := (32 : Int32)) dX13_isSignedPoint_209 (by decide) ?_
      obtain ⟨_, f211, h⟩ := bO_some h
      obtain ⟨M211, e211, h⟩ := bO_some h
      refine ww_callVV0 211 X dX13_isSignedPoint_211 mY_X12_store mL_X13_705 (rcv_spec f211) ⟨_, _, rfl⟩ (by decide) (As := [.ref v201, .ref v205, .int (0 : Int32), .int (32 : Int32)]) (rest := []) rfl rfl ⟨Nat.le_of_ble_eq_true rfl, Nat.le_of_ble_eq_true rfl⟩ (Nat.le_of_ble_eq_true rfl) (fun l D A => c_X12_store l D A e211) ?_
      refine ww_aload_n 214 X dX13_isSignedPoint_214 0 rfl rfl ?_
      refine ww_aload_n 215 X dX13_isSignedPoint_215 0 rfl rfl ?_
      obtain ⟨v216, e216, h⟩ := bO_some h
      refine ww_getR 216 X dX13_isSignedPoint_216 fG_X13_147 e216 ?_
      refine ww_iconst 219 X (v := (0 : Int32)) dX13_isSignedPoint_219 (by decide) ?_
      obtain ⟨_, f220, h⟩ := bO_some h
      obtain ⟨v220, M220, e220, h⟩ := bP_some h
      refine ww_callVI0 220 X dX13_isSignedPoint_220 mY_X13_setPoint mL_X13_766 (rcv_spec f220) ⟨_, _, rfl⟩ (by decide) (As := [.ref v216, .int (0 : Int32)]) (rest := []) rfl rfl ⟨Nat.le_of_ble_eq_true rfl, Nat.le_of_ble_eq_true rfl⟩ (Nat.le_of_ble_eq_true rfl) (fun l D A => c_X13_setPoint l D A e220) ?_
      refine ww_istore_n 223 X dX13_isSignedPoint_223 (lv' := [(0, .ref l0), (1, .int l1), (2, .int v220)]) rfl (by decide) [1, 2, 0] rfl ?_
      refine ww_aload_n 224 X dX13_isSignedPoint_224 0 rfl rfl ?_
      refine ww_aload_n 225 X dX13_isSignedPoint_225 0 rfl rfl ?_
      obtain ⟨v226, e226, h⟩ := bO_some h
      refine ww_getR 226 X dX13_isSignedPoint_226 fG_X13_260 e226 ?_
      refine ww_iconst 229 X (v := (0 : Int32)) dX13_isSignedPoint_229 (by decide) ?_
      obtain ⟨_, f230, h⟩ := bO_some h
      obtain ⟨M230, e230, h⟩ := bO_some h
      refine ww_callVV0 230 X dX13_isSignedPoint_230 mY_X13_times_ mL_X13_770 (rcv_spec f230) ⟨_, _, rfl⟩ (by decide) (As := [.ref v226, .int (0 : Int32)]) (rest := []) rfl rfl ⟨Nat.le_of_ble_eq_true rfl, Nat.le_of_ble_eq_true rfl⟩ (Nat.le_of_ble_eq_true rfl) (fun l D A => c_X13_times_ l D A e230) ?_
      refine ww_aload_n 233 X dX13_isSignedPoint_233 0 rfl rfl ?_
      refine ww_aload_n 234 X dX13_isSignedPoint_234 0 rfl rfl ?_
      obtain ⟨v235, e235, h⟩ := bO_some h
      refine ww_getR 235 X dX13_isSignedPoint_235 fG_X13_263 e235 ?_
      refine ww_iconst 238 X (v := (0 : Int32)) dX13_isSignedPoint_238 (by decide) ?_
      obtain ⟨_, f239, h⟩ := bO_some h
      obtain ⟨v239, M239, e239, h⟩ := bP_some h
      refine ww_callVI0 239 X dX13_isSignedPoint_239 mY_X13_getPoint mL_X13_772 (rcv_spec f239) ⟨_, _, rfl⟩ (by decide) (As := [.ref v235, .int (0 : Int32)]) (rest := []) rfl rfl ⟨Nat.le_of_ble_eq_true rfl, Nat.le_of_ble_eq_true rfl⟩ (Nat.le_of_ble_eq_true rfl) (fun l D A => c_X13_getPoint l D A e239) ?_
      refine ww_istore_n 242 X dX13_isSignedPoint_242 (lv' := [(0, .ref l0), (1, .int l1), (2, .int v220), (3, .int v239)]) rfl (by decide) [1, 2, 3, 0] rfl ?_
      refine ww_aload_n 243 X dX13_isSignedPoint_243 0 rfl rfl ?_
      obtain ⟨v244, e244, h⟩ := bO_some h
      refine ww_getR 244 X dX13_isSignedPoint_244 fG_X13_129 e244 ?_
      refine ww_aload_n 247 X dX13_isSignedPoint_247 0 rfl rfl ?_
      obtain ⟨v248, e248, h⟩ := bO_some h
      refine ww_getR 248 X dX13_isSignedPoint_248 fG_X13_269 e248 ?_
      refine ww_aload_n 251 X dX13_isSignedPoint_251 0 rfl rfl ?_
      obtain ⟨v252, e252, h⟩ := bO_some h
      refine ww_getR 252 X dX13_isSignedPoint_252 fG_X13_260 e252 ?_
      refine ww_iconst 255 X (v := (0 : Int32)) dX13_isSignedPoint_255 (by decide) ?_
      refine ww_bipush 256 X (v := (32 : Int32)) dX13_isSignedPoint_256 (by decide) ?_
      obtain ⟨_, f258, h⟩ := bO_some h
      obtain ⟨M258, e258, h⟩ := bO_some h
      refine ww_callVV0 258 X dX13_isSignedPoint_258 mY_X12_store mL_X13_705 (rcv_spec f258) ⟨_, _, rfl⟩ (by decide) (As := [.ref v248, .ref v252, .int (0 : Int32), .int (32 : Int32)]) (rest := []) rfl rfl ⟨Nat.le_of_ble_eq_true rfl, Nat.le_of_ble_eq_true rfl⟩ (Nat.le_of_ble_eq_true rfl) (fun l D A => c_X12_store l D A e258) ?_
      refine ww_aload_n 261 X dX13_isSignedPoint_261 0 rfl rfl ?_
      obtain ⟨v262, e262, h⟩ := bO_some h
      refine ww_getR 262 X dX13_isSignedPoint_262 fG_X13_205 e262 ?_
      refine ww_sipush 265 X (v := (128 : Int32)) dX13_isSignedPoint_265 (by decide) ?_
      refine ww_iload_n 268 X dX13_isSignedPoint_268 1 rfl rfl ?_
      refine ww_imul 269 X dX13_isSignedPoint_269 ?_
      refine ww_aload_n 270 X dX13_isSignedPoint_270 0 rfl rfl ?_
      obtain ⟨v271, e271, h⟩ := bO_some h
      refine ww_getR 271 X dX13_isSignedPoint_271 fG_X13_186 e271 ?_
      refine ww_iconst 274 X (v := (0 : Int32)) dX13_isSignedPoint_274 (by decide) ?_
      refine ww_bipush 275 X (v := (32 : Int32)) dX13_isSignedPoint_275 (by decide) ?_
      obtain ⟨M277, e277, h⟩ := bO_some h
      refine ww_callSV0 277 X dX13_isSignedPoint_277 mY_X13_move mL_X13_317 (As := [.ref v262, .int ((128 : Int32) * l1), .ref v271, .int (0 : Int32), .int (32 : Int32)]) (rest := []) rfl rfl ⟨Nat.le_of_ble_eq_true rfl, Nat.le_of_ble_eq_true rfl⟩ (Nat.le_of_ble_eq_true rfl) (fun l D A => c_X13_move l D A e277) ?_
      refine ww_aload_n 280 X dX13_isSignedPoint_280 0 rfl rfl ?_
      obtain ⟨v281, e281, h⟩ := bO_some h
      refine ww_getR 281 X dX13_isSignedPoint_281 fG_X13_211 e281 ?_
      refine ww_sipush 284 X (v := (128 : Int32)) dX13_isSignedPoint_284 (by decide) ?_
      refine ww_iload_n 287 X dX13_isSignedPoint_287 1 rfl rfl ?_
      refine ww_imul 288 X dX13_isSignedPoint_288 ?_
      refine ww_aload_n 289 X dX13_isSignedPoint_289 0 rfl rfl ?_
      obtain ⟨v290, e290, h⟩ := bO_some h
      refine ww_getR 290 X dX13_isSignedPoint_290 fG_X13_186 e290 ?_
      refine ww_bipush 293 X (v := (32 : Int32)) dX13_isSignedPoint_293 (by decide) ?_
      refine ww_bipush 295 X (v := (32 : Int32)) dX13_isSignedPoint_295 (by decide) ?_
      obtain ⟨M297, e297, h⟩ := bO_some h
      refine ww_callSV0 297 X dX13_isSignedPoint_297 mY_X13_move mL_X13_317 (As := [.ref v281, .int ((128 : Int32) * l1), .ref v290, .int (32 : Int32), .int (32 : Int32)]) (rest := []) rfl rfl ⟨Nat.le_of_ble_eq_true rfl, Nat.le_of_ble_eq_true rfl⟩ (Nat.le_of_ble_eq_true rfl) (fun l D A => c_X13_move l D A e297) ?_
      refine ww_iload_n 300 X dX13_isSignedPoint_300 2 rfl rfl ?_
      refine ww_if_eq 301 320 X dX13_isSignedPoint_301 (by decide) (fun q => ?_) (fun q => ?_)
      · replace h := (if_pos q).symm.trans h
        refine ww_iconst 320 X (v := (0 : Int32)) dX13_isSignedPoint_320 (by decide) ?_
        exact ww_sub [0, 3] rfl (wB_X13_isSignedPoint_321 X hQ h)
      · replace h := (if_neg q).symm.trans h
        refine ww_aload_n 304 X dX13_isSignedPoint_304 0 rfl rfl ?_
        refine ww_aload_n 305 X dX13_isSignedPoint_305 0 rfl rfl ?_
        obtain ⟨v306, e306, h⟩ := bO_some h
        refine ww_getR 306 X dX13_isSignedPoint_306 fG_X13_186 e306 ?_
        refine ww_iconst 309 X (v := (0 : Int32)) dX13_isSignedPoint_309 (by decide) ?_
        obtain ⟨_, f310, h⟩ := bO_some h
        obtain ⟨v310, M310, e310, h⟩ := bP_some h
        refine ww_callVI0 310 X dX13_isSignedPoint_310 mY_X13_setPoint mL_X13_766 (rcv_spec f310) ⟨_, _, rfl⟩ (by decide) (As := [.ref v306, .int (0 : Int32)]) (rest := []) rfl rfl ⟨Nat.le_of_ble_eq_true rfl, Nat.le_of_ble_eq_true rfl⟩ (Nat.le_of_ble_eq_true rfl) (fun l D A => c_X13_setPoint l D A e310) ?_
        refine ww_if_eq 313 320 X dX13_isSignedPoint_313 (by decide) (fun q => ?_) (fun q => ?_)
        · replace h := (if_pos q).symm.trans h
          refine ww_iconst 320 X (v := (0 : Int32)) dX13_isSignedPoint_320 (by decide) ?_
          exact ww_sub [0, 3] rfl (wB_X13_isSignedPoint_321 X hQ h)
        · replace h := (if_neg q).symm.trans h
          refine ww_iconst 316 X (v := (1 : Int32)) dX13_isSignedPoint_316 (by decide) ?_
          refine ww_goto 317 321 X dX13_isSignedPoint_317 (by decide) ?_
          exact ww_sub [0, 3] rfl (wB_X13_isSignedPoint_321 X hQ h)
    · replace h := (if_pos q).symm.trans h
      refine ww_iconst 25 X (v := (0 : Int32)) dX13_isSignedPoint_25 (by decide) ?_
      exact ww_zretE 26 X hQ dX13_isSignedPoint_26 h
theorem c_X13_isSignedPoint {G : mG} {F sz : Nat} {r0 : Int32} {M0 : mM} (l : Launch) (D : mD) (A : Nat → Prop) {l0 : Nat} {l1 : Int32} {M : mM} (h : P_X13_isSignedPoint G F l0 l1 M = some (r0, M0)) : mMetI l D G A yX13_isSignedPoint cX13_isSignedPoint 4 (some .boolean) 7 157 0 0 [.ref l0, .int l1] M sz r0 M0 sz := mMetI_of l D G A (by decide) (Nat.le_of_ble_eq_true rfl) (fun x X hQ => wP_X13_isSignedPoint X hQ h)
