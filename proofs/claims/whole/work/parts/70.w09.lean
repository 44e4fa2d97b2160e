/-! SealedTokens.isKey(I)Z -/
theorem dX11_isKey_0 : decode cX11_isKey 0 = .ok (.iload_n 1, 1) := by decide +kernel
theorem dX11_isKey_1 : decode cX11_isKey 1 = .ok (.ifCond .lt 25, 3) := by decide +kernel
theorem dX11_isKey_4 : decode cX11_isKey 4 = .ok (.iload_n 1, 1) := by decide +kernel
theorem dX11_isKey_5 : decode cX11_isKey 5 = .ok (.bipush 16, 2) := by decide +kernel
theorem dX11_isKey_7 : decode cX11_isKey 7 = .ok (.if_icmp .ge 19, 3) := by decide +kernel
theorem dX11_isKey_10 : decode cX11_isKey 10 = .ok (.aload_n 0, 1) := by decide +kernel
theorem dX11_isKey_11 : decode cX11_isKey 11 = .ok (.getfield 58, 3) := by decide +kernel
theorem dX11_isKey_14 : decode cX11_isKey 14 = .ok (.iload_n 1, 1) := by decide +kernel
theorem dX11_isKey_15 : decode cX11_isKey 15 = .ok (.aaload, 1) := by decide +kernel
theorem dX11_isKey_16 : decode cX11_isKey 16 = .ok (.getfield 308, 3) := by decide +kernel
theorem dX11_isKey_19 : decode cX11_isKey 19 = .ok (.ifCond .eq 7, 3) := by decide +kernel
theorem dX11_isKey_22 : decode cX11_isKey 22 = .ok (.iconst 1, 1) := by decide +kernel
theorem dX11_isKey_23 : decode cX11_isKey 23 = .ok (.goto 4, 3) := by decide +kernel
theorem dX11_isKey_26 : decode cX11_isKey 26 = .ok (.iconst 0, 1) := by decide +kernel
theorem dX11_isKey_27 : decode cX11_isKey 27 = .ok (.ireturn, 1) := by decide +kernel
abbrev rmX11_isKey : Room := { frames := 0, cells := 0, slots := 0, locals := 0 }
set_option maxHeartbeats 4000000 in
set_option maxRecDepth 100000 in
theorem wP_X11_isKey {G : Nat → Nat} {F : Nat} {x : mXT} {sz : Nat} {r0 : Int32} {M0 : mM} (X : mCX G RX11 cX11_isKey 2 (some .boolean) "isKey" rmX11_isKey x) (hQ : mQI x r0 M0 (sz, 0, 0)) {l0 : Nat} {l1 : Int32} {M : mM} (h : P_X11_isKey G F l0 l1 M = some (r0, M0)) : WW x (sz, 0, 0) M 0 [(0, .ref l0), (1, .int l1)] [] := by
  unfold P_X11_isKey at h
  refine ww_iload_n 0 X dX11_isKey_0 1 rfl rfl ?_
  refine ww_if_lt 1 26 X dX11_isKey_1 (by decide) (fun q => ?_) (fun q => ?_)
  · replace h := (if_pos q).symm.trans h
    refine ww_iconst 26 X (v := (0 : Int32)) dX11_isKey_26 (by decide) ?_
    exact ww_zretE 27 X hQ dX11_isKey_27 h
  · replace h := (if_neg q).symm.trans h
    refine ww_iload_n 4 X dX11_isKey_4 1 rfl rfl ?_
    refine ww_bipush 5 X (v := (16 : Int32)) dX11_isKey_5 (by decide) ?_
    refine ww_icmp_ge 7 26 X dX11_isKey_7 (by decide) (fun q => ?_) (fun q => ?_)
    · replace h := (if_pos q).symm.trans h
      refine ww_iconst 26 X (v := (0 : Int32)) dX11_isKey_26 (by decide) ?_
      exact ww_zretE 27 X hQ dX11_isKey_27 h
    · replace h := (if_neg q).symm.trans h
      refine ww_aload_n 10 X dX11_isKey_10 0 rfl rfl ?_
      obtain ⟨v11, e11, h⟩ := bO_some h
      refine ww_getR 11 X dX11_isKey_11 fG_X11_58 e11 ?_
      refine ww_iload_n 14 X dX11_isKey_14 1 rfl rfl ?_
      obtain ⟨v15, e15, h⟩ := bO_some h
      refine ww_aald5 15 X dX11_isKey_15 e15 ?_
      obtain ⟨v16, e16, h⟩ := bO_some h
      refine ww_getI 16 X dX11_isKey_16 fG_X11_308 e16 ?_
      refine ww_if_eq 19 26 X dX11_isKey_19 (by decide) (fun q => ?_) (fun q => ?_)
      · replace h := (if_pos q).symm.trans h
        refine ww_iconst 26 X (v := (0 : Int32)) dX11_isKey_26 (by decide) ?_
        exact ww_zretE 27 X hQ dX11_isKey_27 h
      · replace h := (if_neg q).symm.trans h
        refine ww_iconst 22 X (v := (1 : Int32)) dX11_isKey_22 (by decide) ?_
        refine ww_goto 23 27 X dX11_isKey_23 (by decide) ?_
        exact ww_zretE 27 X hQ dX11_isKey_27 h
theorem c_X11_isKey {G : Nat → Nat} {F sz : Nat} {r0 : Int32} {M0 : mM} (l : Launch) (D : mD) (A : Nat → Prop) {l0 : Nat} {l1 : Int32} {M : mM} (h : P_X11_isKey G F l0 l1 M = some (r0, M0)) : mMetI l D G A yX11_isKey cX11_isKey 2 (some .boolean) 0 0 0 0 [.ref l0, .int l1] M sz r0 M0 sz := mMetI_of l D G A (by decide) (Nat.le_of_ble_eq_true rfl) (fun x X hQ => wP_X11_isKey X hQ h)
/-! SealedTokens.drop(I)I -/
theorem dX11_drop_0 : decode cX11_drop 0 = .ok (.aload_n 0, 1) := by decide +kernel
theorem dX11_drop_1 : decode cX11_drop 1 = .ok (.iload_n 1, 1) := by decide +kernel
theorem dX11_drop_2 : decode cX11_drop 2 = .ok (.invokevirtual 311, 3) := by decide +kernel
theorem dX11_drop_5 : decode cX11_drop 5 = .ok (.ifCond .ne 6, 3) := by decide +kernel
theorem dX11_drop_8 : decode cX11_drop 8 = .ok (.bipush (-2), 2) := by decide +kernel
theorem dX11_drop_10 : decode cX11_drop 10 = .ok (.ireturn, 1) := by decide +kernel
theorem dX11_drop_11 : decode cX11_drop 11 = .ok (.aload_n 0, 1) := by decide +kernel
theorem dX11_drop_12 : decode cX11_drop 12 = .ok (.getfield 58, 3) := by decide +kernel
theorem dX11_drop_15 : decode cX11_drop 15 = .ok (.iload_n 1, 1) := by decide +kernel
theorem dX11_drop_16 : decode cX11_drop 16 = .ok (.aaload, 1) := by decide +kernel
theorem dX11_drop_17 : decode cX11_drop 17 = .ok (.iconst 0, 1) := by decide +kernel
theorem dX11_drop_18 : decode cX11_drop 18 = .ok (.putfield 308, 3) := by decide +kernel
theorem dX11_drop_21 : decode cX11_drop 21 = .ok (.iconst 1, 1) := by decide +kernel
theorem dX11_drop_22 : decode cX11_drop 22 = .ok (.ireturn, 1) := by decide +kernel
abbrev rmX11_drop : Room := { frames := 1, cells := 0, slots := 0, locals := 21 }
set_option maxHeartbeats 4000000 in
set_option maxRecDepth 100000 in
theorem wP_X11_drop {G : Nat → Nat} {F : Nat} {x : mXT} {sz : Nat} {r0 : Int32} {M0 : mM} (X : mCX G RX11 cX11_drop 2 (some .int) "drop" rmX11_drop x) (hQ : mQI x r0 M0 (sz, 0, 0)) {l0 : Nat} {l1 : Int32} {M : mM} (h : P_X11_drop G F l0 l1 M = some (r0, M0)) : WW x (sz, 0, 0) M 0 [(0, .ref l0), (1, .int l1)] [] := by
  unfold P_X11_drop at h
  refine ww_aload_n 0 X dX11_drop_0 0 rfl rfl ?_
  refine ww_iload_n 1 X dX11_drop_1 1 rfl rfl ?_
  obtain ⟨_, f2, h⟩ := bO_some h
  obtain ⟨v2, M2, e2, h⟩ := bP_some h
  refine ww_callVI0 2 X dX11_drop_2 mY_X11_isKey mL_X11_311 (rcv_spec f2) ⟨_, _, rfl⟩ (by decide) (As := [.int l1]) (rest := []) rfl rfl ⟨Nat.le_of_ble_eq_true rfl, Nat.le_of_ble_eq_true rfl⟩ (Nat.le_of_ble_eq_true rfl) (fun l D A => c_X11_isKey l D A e2) ?_
  refine ww_if_ne 5 11 X dX11_drop_5 (by decide) (fun q => ?_) (fun q => ?_)
  · replace h := (if_neg q).symm.trans h
    refine ww_aload_n 11 X dX11_drop_11 0 rfl rfl ?_
    obtain ⟨v12, e12, h⟩ := bO_some h
    refine ww_getR 12 X dX11_drop_12 fG_X11_58 e12 ?_
    refine ww_iload_n 15 X dX11_drop_15 1 rfl rfl ?_
    obtain ⟨v16, e16, h⟩ := bO_some h
    refine ww_aald5 16 X dX11_drop_16 e16 ?_
    refine ww_iconst 17 X (v := (0 : Int32)) dX11_drop_17 (by decide) ?_
    obtain ⟨M18, e18, h⟩ := bO_some h
    refine ww_putZ 18 X dX11_drop_18 (fP_X11_308 _) e18 ?_
    refine ww_iconst 21 X (v := (1 : Int32)) dX11_drop_21 (by decide) ?_
    exact ww_iretE 22 X hQ dX11_drop_22 h
  · replace h := (if_pos q).symm.trans h
    refine ww_bipush 8 X (v := (-2 : Int32)) dX11_drop_8 (by decide) ?_
    exact ww_iretE 10 X hQ dX11_drop_10 h
theorem c_X11_drop {G : Nat → Nat} {F sz : Nat} {r0 : Int32} {M0 : mM} (l : Launch) (D : mD) (A : Nat → Prop) {l0 : Nat} {l1 : Int32} {M : mM} (h : P_X11_drop G F l0 l1 M = some (r0, M0)) : mMetI l D G A yX11_drop cX11_drop 2 (some .int) 1 21 0 0 [.ref l0, .int l1] M sz r0 M0 sz := mMetI_of l D G A (by decide) (Nat.le_of_ble_eq_true rfl) (fun x X hQ => wP_X11_drop X hQ h)
/-! SealedTokens.told(II)I -/
theorem dX11_told_0 : decode cX11_told 0 = .ok (.aload_n 0, 1) := by decide +kernel
theorem dX11_told_1 : decode cX11_told 1 = .ok (.iload_n 1, 1) := by decide +kernel
theorem dX11_told_2 : decode cX11_told 2 = .ok (.invokevirtual 311, 3) := by decide +kernel
theorem dX11_told_5 : decode cX11_told 5 = .ok (.ifCond .ne 6, 3) := by decide +kernel
theorem dX11_told_8 : decode cX11_told 8 = .ok (.bipush (-2), 2) := by decide +kernel
theorem dX11_told_10 : decode cX11_told 10 = .ok (.ireturn, 1) := by decide +kernel
theorem dX11_told_11 : decode cX11_told 11 = .ok (.aload_n 0, 1) := by decide +kernel
theorem dX11_told_12 : decode cX11_told 12 = .ok (.getfield 58, 3) := by decide +kernel
theorem dX11_told_15 : decode cX11_told 15 = .ok (.iload_n 1, 1) := by decide +kernel
theorem dX11_told_16 : decode cX11_told 16 = .ok (.aaload, 1) := by decide +kernel
theorem dX11_told_17 : decode cX11_told 17 = .ok (.astore_n 3, 1) := by decide +kernel
theorem dX11_told_18 : decode cX11_told 18 = .ok (.iload_n 2, 1) := by decide +kernel
theorem dX11_told_19 : decode cX11_told 19 = .ok (.tableswitch 114 0 5 #[37, 42, 63, 76, 81, 100], 37) := by decide +kernel
theorem dX11_told_56 : decode cX11_told 56 = .ok (.aload_n 3, 1) := by decide +kernel
theorem dX11_told_57 : decode cX11_told 57 = .ok (.getfield 314, 3) := by decide +kernel
theorem dX11_told_60 : decode cX11_told 60 = .ok (.ireturn, 1) := by decide +kernel
theorem dX11_told_61 : decode cX11_told 61 = .ok (.aload_n 3, 1) := by decide +kernel
theorem dX11_told_62 : decode cX11_told 62 = .ok (.getfield 314, 3) := by decide +kernel
theorem dX11_told_65 : decode cX11_told 65 = .ok (.iconst 2, 1) := by decide +kernel
theorem dX11_told_66 : decode cX11_told 66 = .ok (.if_icmp .ne 8, 3) := by decide +kernel
theorem dX11_told_69 : decode cX11_told 69 = .ok (.bipush 32, 2) := by decide +kernel
theorem dX11_told_71 : decode cX11_told 71 = .ok (.goto 10, 3) := by decide +kernel
theorem dX11_told_74 : decode cX11_told 74 = .ok (.aload_n 3, 1) := by decide +kernel
theorem dX11_told_75 : decode cX11_told 75 = .ok (.getfield 316, 3) := by decide +kernel
theorem dX11_told_78 : decode cX11_told 78 = .ok (.getfield 113, 3) := by decide +kernel
theorem dX11_told_81 : decode cX11_told 81 = .ok (.ireturn, 1) := by decide +kernel
theorem dX11_told_82 : decode cX11_told 82 = .ok (.aload_n 3, 1) := by decide +kernel
theorem dX11_told_83 : decode cX11_told 83 = .ok (.getfield 319, 3) := by decide +kernel
theorem dX11_told_86 : decode cX11_told 86 = .ok (.ifCond .eq 7, 3) := by decide +kernel
theorem dX11_told_89 : decode cX11_told 89 = .ok (.iconst 1, 1) := by decide +kernel
theorem dX11_told_90 : decode cX11_told 90 = .ok (.goto 4, 3) := by decide +kernel
theorem dX11_told_93 : decode cX11_told 93 = .ok (.iconst 0, 1) := by decide +kernel
theorem dX11_told_94 : decode cX11_told 94 = .ok (.ireturn, 1) := by decide +kernel
theorem dX11_told_95 : decode cX11_told 95 = .ok (.aload_n 3, 1) := by decide +kernel
theorem dX11_told_96 : decode cX11_told 96 = .ok (.getfield 322, 3) := by decide +kernel
theorem dX11_told_99 : decode cX11_told 99 = .ok (.ireturn, 1) := by decide +kernel
theorem dX11_told_100 : decode cX11_told 100 = .ok (.aload_n 3, 1) := by decide +kernel
theorem dX11_told_101 : decode cX11_told 101 = .ok (.getfield 325, 3) := by decide +kernel
theorem dX11_told_104 : decode cX11_told 104 = .ok (.ifCond .eq 13, 3) := by decide +kernel
theorem dX11_told_107 : decode cX11_told 107 = .ok (.aload_n 3, 1) := by decide +kernel
theorem dX11_told_108 : decode cX11_told 108 = .ok (.getfield 328, 3) := by decide +kernel
theorem dX11_told_111 : decode cX11_told 111 = .ok (.getfield 113, 3) := by decide +kernel
theorem dX11_told_114 : decode cX11_told 114 = .ok (.goto 4, 3) := by decide +kernel
theorem dX11_told_117 : decode cX11_told 117 = .ok (.iconst (-1), 1) := by decide +kernel
theorem dX11_told_118 : decode cX11_told 118 = .ok (.ireturn, 1) := by decide +kernel
theorem dX11_told_119 : decode cX11_told 119 = .ok (.aload_n 3, 1) := by decide +kernel
theorem dX11_told_120 : decode cX11_told 120 = .ok (.getfield 331, 3) := by decide +kernel
theorem dX11_told_123 : decode cX11_told 123 = .ok (.iconst (-1), 1) := by decide +kernel
theorem dX11_told_124 : decode cX11_told 124 = .ok (.if_icmp .ne 7, 3) := by decide +kernel
theorem dX11_told_127 : decode cX11_told 127 = .ok (.iconst 0, 1) := by decide +kernel
theorem dX11_told_128 : decode cX11_told 128 = .ok (.goto 4, 3) := by decide +kernel
theorem dX11_told_131 : decode cX11_told 131 = .ok (.iconst 1, 1) := by decide +kernel
theorem dX11_told_132 : decode cX11_told 132 = .ok (.ireturn, 1) := by decide +kernel
theorem dX11_told_133 : decode cX11_told 133 = .ok (.bipush (-2), 2) := by decide +kernel
theorem dX11_told_135 : decode cX11_told 135 = .ok (.ireturn, 1) := by decide +kernel
abbrev rmX11_told : Room := { frames := 1, cells := 0, slots := 0, locals := 21 }
set_option maxHeartbeats 4000000 in
set_option maxRecDepth 100000 in
theorem wP_X11_told {G : Nat → Nat} {F : Nat} {x : mXT} {sz : Nat} {r0 : Int32} {M0 : mM} (X : mCX G RX11 cX11_told 4 (some .int) "told" rmX11_told x) (hQ : mQI x r0 M0 (sz, 0, 0)) {l0 : Nat} {l1 : Int32} {l2 : Int32} {M : mM} (h : P_X11_told G F l0 l1 l2 M = some (r0, M0)) : WW x (sz, 0, 0) M 0 [(0, .ref l0), (1, .int l1), (2, .int l2)] [] := by
  unfold P_X11_told at h
  refine ww_aload_n 0 X dX11_told_0 0 rfl rfl ?_
  refine ww_iload_n 1 X dX11_told_1 1 rfl rfl ?_
  obtain ⟨_, f2, h⟩ := bO_some h
  obtain ⟨v2, M2, e2, h⟩ := bP_some h
  refine ww_callVI0 2 X dX11_told_2 mY_X11_isKey mL_X11_311 (rcv_spec f2) ⟨_, _, rfl⟩ (by decide) (As := [.int l1]) (rest := []) rfl rfl ⟨Nat.le_of_ble_eq_true rfl, Nat.le_of_ble_eq_true rfl⟩ (Nat.le_of_ble_eq_true rfl) (fun l D A => c_X11_isKey l D A e2) ?_
  refine ww_if_ne 5 11 X dX11_told_5 (by decide) (fun q => ?_) (fun q => ?_)
  · replace h := (if_neg q).symm.trans h
    refine ww_aload_n 11 X dX11_told_11 0 rfl rfl ?_
    obtain ⟨v12, e12, h⟩ := bO_some h
    refine ww_getR 12 X dX11_told_12 fG_X11_58 e12 ?_
    refine ww_iload_n 15 X dX11_told_15 1 rfl rfl ?_
    obtain ⟨v16, e16, h⟩ := bO_some h
    refine ww_aald5 16 X dX11_told_16 e16 ?_
    refine ww_astore_n 17 X dX11_told_17 (lv' := [(0, .ref l0), (1, .int l1), (2, .int l2), (3, .ref v16)]) rfl (by decide) [1, 2, 3, 0] rfl ?_
    refine ww_iload_n 18 X dX11_told_18 2 rfl rfl ?_
    by_cases q0 : l2 = (0 : Int32)
    · replace h := (if_pos q0).symm.trans h
      refine ww_tableIn 19 56 X dX11_told_19 (off := 37) (by rw [q0]; decide) (by rw [q0]; decide) (by rw [q0]; decide) (by decide) ?_
      refine ww_aload_n 56 X dX11_told_56 3 rfl rfl ?_
      obtain ⟨v57, e57, h⟩ := bO_some h
      refine ww_getI 57 X dX11_told_57 fG_X11_314 e57 ?_
      exact ww_iretE 60 X hQ dX11_told_60 h
    · replace h := (if_neg q0).symm.trans h
      by_cases q1 : l2 = (1 : Int32)
      · replace h := (if_pos q1).symm.trans h
        refine ww_tableIn 19 61 X dX11_told_19 (off := 42) (by rw [q1]; decide) (by rw [q1]; decide) (by rw [q1]; decide) (by decide) ?_
        refine ww_aload_n 61 X dX11_told_61 3 rfl rfl ?_
        obtain ⟨v62, e62, h⟩ := bO_some h
        refine ww_getI 62 X dX11_told_62 fG_X11_314 e62 ?_
        refine ww_iconst 65 X (v := (2 : Int32)) dX11_told_65 (by decide) ?_
        refine ww_icmp_ne 66 74 X dX11_told_66 (by decide) (fun q => ?_) (fun q => ?_)
        · replace h := (if_neg q).symm.trans h
          refine ww_aload_n 74 X dX11_told_74 3 rfl rfl ?_
          obtain ⟨v75, e75, h⟩ := bO_some h
          refine ww_getR 75 X dX11_told_75 fG_X11_316 e75 ?_
          obtain ⟨v78, e78, h⟩ := bO_some h
          refine ww_getI 78 X dX11_told_78 fG_X11_113 e78 ?_
          exact ww_iretE 81 X hQ dX11_told_81 h
        · replace h := (if_pos q).symm.trans h
          refine ww_bipush 69 X (v := (32 : Int32)) dX11_told_69 (by decide) ?_
          refine ww_goto 71 81 X dX11_told_71 (by decide) ?_
          exact ww_iretE 81 X hQ dX11_told_81 h
      · replace h := (if_neg q1).symm.trans h
        by_cases q2 : l2 = (2 : Int32)
        · replace h := (if_pos q2).symm.trans h
          refine ww_tableIn 19 82 X dX11_told_19 (off := 63) (by rw [q2]; decide) (by rw [q2]; decide) (by rw [q2]; decide) (by decide) ?_
          refine ww_aload_n 82 X dX11_told_82 3 rfl rfl ?_
          obtain ⟨v83, e83, h⟩ := bO_some h
          refine ww_getI 83 X dX11_told_83 fG_X11_319 e83 ?_
          refine ww_if_eq 86 93 X dX11_told_86 (by decide) (fun q => ?_) (fun q => ?_)
          · replace h := (if_pos q).symm.trans h
            refine ww_iconst 93 X (v := (0 : Int32)) dX11_told_93 (by decide) ?_
            exact ww_iretE 94 X hQ dX11_told_94 h
          · replace h := (if_neg q).symm.trans h
            refine ww_iconst 89 X (v := (1 : Int32)) dX11_told_89 (by decide) ?_
            refine ww_goto 90 94 X dX11_told_90 (by decide) ?_
            exact ww_iretE 94 X hQ dX11_told_94 h
        · replace h := (if_neg q2).symm.trans h
          by_cases q3 : l2 = (3 : Int32)
          · replace h := (if_pos q3).symm.trans h
            refine ww_tableIn 19 95 X dX11_told_19 (off := 76) (by rw [q3]; decide) (by rw [q3]; decide) (by rw [q3]; decide) (by decide) ?_
            refine ww_aload_n 95 X dX11_told_95 3 rfl rfl ?_
            obtain ⟨v96, e96, h⟩ := bO_some h
            refine ww_getI 96 X dX11_told_96 fG_X11_322 e96 ?_
            exact ww_iretE 99 X hQ dX11_told_99 h
          · replace h := (if_neg q3).symm.trans h
            by_cases q4 : l2 = (4 : Int32)
            · replace h := (if_pos q4).symm.trans h
              refine ww_tableIn 19 100 X dX11_told_19 (off := 81) (by rw [q4]; decide) (by rw [q4]; decide) (by rw [q4]; decide) (by decide) ?_
              refine ww_aload_n 100 X dX11_told_100 3 rfl rfl ?_
              obtain ⟨v101, e101, h⟩ := bO_some h
              refine ww_getI 101 X dX11_told_101 fG_X11_325 e101 ?_
              refine ww_if_eq 104 117 X dX11_told_104 (by decide) (fun q => ?_) (fun q => ?_)
              · replace h := (if_pos q).symm.trans h
                refine ww_iconst 117 X (v := (-1 : Int32)) dX11_told_117 (by decide) ?_
                exact ww_iretE 118 X hQ dX11_told_118 h
              · replace h := (if_neg q).symm.trans h
                refine ww_aload_n 107 X dX11_told_107 3 rfl rfl ?_
                obtain ⟨v108, e108, h⟩ := bO_some h
                refine ww_getR 108 X dX11_told_108 fG_X11_328 e108 ?_
                obtain ⟨v111, e111, h⟩ := bO_some h
                refine ww_getI 111 X dX11_told_111 fG_X11_113 e111 ?_
                refine ww_goto 114 118 X dX11_told_114 (by decide) ?_
                exact ww_iretE 118 X hQ dX11_told_118 h
            · replace h := (if_neg q4).symm.trans h
              by_cases q5 : l2 = (5 : Int32)
              · replace h := (if_pos q5).symm.trans h
                refine ww_tableIn 19 119 X dX11_told_19 (off := 100) (by rw [q5]; decide) (by rw [q5]; decide) (by rw [q5]; decide) (by decide) ?_
                refine ww_aload_n 119 X dX11_told_119 3 rfl rfl ?_
                obtain ⟨v120, e120, h⟩ := bO_some h
                refine ww_getI 120 X dX11_told_120 fG_X11_331 e120 ?_
                refine ww_iconst 123 X (v := (-1 : Int32)) dX11_told_123 (by decide) ?_
                refine ww_icmp_ne 124 131 X dX11_told_124 (by decide) (fun q => ?_) (fun q => ?_)
                · replace h := (if_neg q).symm.trans h
                  refine ww_iconst 131 X (v := (1 : Int32)) dX11_told_131 (by decide) ?_
                  exact ww_iretE 132 X hQ dX11_told_132 h
                · replace h := (if_pos q).symm.trans h
                  refine ww_iconst 127 X (v := (0 : Int32)) dX11_told_127 (by decide) ?_
                  refine ww_goto 128 132 X dX11_told_128 (by decide) ?_
                  exact ww_iretE 132 X hQ dX11_told_132 h
              · replace h := (if_neg q5).symm.trans h
                have z0 := lv_neT q0 (show (0 : Int32).toInt = 0 by decide)
                have z1 := lv_neT q1 (show (1 : Int32).toInt = 1 by decide)
                have z2 := lv_neT q2 (show (2 : Int32).toInt = 2 by decide)
                have z3 := lv_neT q3 (show (3 : Int32).toInt = 3 by decide)
                have z4 := lv_neT q4 (show (4 : Int32).toInt = 4 by decide)
                have z5 := lv_neT q5 (show (5 : Int32).toInt = 5 by decide)
                refine ww_tableOut 19 133 X dX11_told_19 (by omega) (by decide) ?_
                refine ww_bipush 133 X (v := (-2 : Int32)) dX11_told_133 (by decide) ?_
                exact ww_iretE 135 X hQ dX11_told_135 h
  · replace h := (if_pos q).symm.trans h
    refine ww_bipush 8 X (v := (-2 : Int32)) dX11_told_8 (by decide) ?_
    exact ww_iretE 10 X hQ dX11_told_10 h
theorem c_X11_told {G : Nat → Nat} {F sz : Nat} {r0 : Int32} {M0 : mM} (l : Launch) (D : mD) (A : Nat → Prop) {l0 : Nat} {l1 : Int32} {l2 : Int32} {M : mM} (h : P_X11_told G F l0 l1 l2 M = some (r0, M0)) : mMetI l D G A yX11_told cX11_told 4 (some .int) 1 21 0 0 [.ref l0, .int l1, .int l2] M sz r0 M0 sz := mMetI_of l D G A (by decide) (Nat.le_of_ble_eq_true rfl) (fun x X hQ => wP_X11_told X hQ h)
/-! SealedTokens.print(I)I -/
theorem dX11_print_0 : decode cX11_print 0 = .ok (.aload_n 0, 1) := by decide +kernel
theorem dX11_print_1 : decode cX11_print 1 = .ok (.iload_n 1, 1) := by decide +kernel
theorem dX11_print_2 : decode cX11_print 2 = .ok (.invokevirtual 311, 3) := by decide +kernel
theorem dX11_print_5 : decode cX11_print 5 = .ok (.ifCond .ne 6, 3) := by decide +kernel
theorem dX11_print_8 : decode cX11_print 8 = .ok (.bipush (-2), 2) := by decide +kernel
theorem dX11_print_10 : decode cX11_print 10 = .ok (.ireturn, 1) := by decide +kernel
theorem dX11_print_11 : decode cX11_print 11 = .ok (.aload_n 0, 1) := by decide +kernel
theorem dX11_print_12 : decode cX11_print 12 = .ok (.getfield 28, 3) := by decide +kernel
theorem dX11_print_15 : decode cX11_print 15 = .ok (.invokevirtual 131, 3) := by decide +kernel
theorem dX11_print_18 : decode cX11_print 18 = .ok (.aload_n 0, 1) := by decide +kernel
theorem dX11_print_19 : decode cX11_print 19 = .ok (.getfield 58, 3) := by decide +kernel
theorem dX11_print_22 : decode cX11_print 22 = .ok (.iload_n 1, 1) := by decide +kernel
theorem dX11_print_23 : decode cX11_print 23 = .ok (.aaload, 1) := by decide +kernel
theorem dX11_print_24 : decode cX11_print 24 = .ok (.aload_n 0, 1) := by decide +kernel
theorem dX11_print_25 : decode cX11_print 25 = .ok (.getfield 28, 3) := by decide +kernel
theorem dX11_print_28 : decode cX11_print 28 = .ok (.invokevirtual 334, 3) := by decide +kernel
theorem dX11_print_31 : decode cX11_print 31 = .ok (.aload_n 0, 1) := by decide +kernel
theorem dX11_print_32 : decode cX11_print 32 = .ok (.getfield 70, 3) := by decide +kernel
theorem dX11_print_35 : decode cX11_print 35 = .ok (.sipush 256, 3) := by decide +kernel
theorem dX11_print_38 : decode cX11_print 38 = .ok (.invokevirtual 215, 3) := by decide +kernel
theorem dX11_print_41 : decode cX11_print 41 = .ok (.aload_n 0, 1) := by decide +kernel
theorem dX11_print_42 : decode cX11_print 42 = .ok (.getfield 70, 3) := by decide +kernel
theorem dX11_print_45 : decode cX11_print 45 = .ok (.aload_n 0, 1) := by decide +kernel
theorem dX11_print_46 : decode cX11_print 46 = .ok (.getfield 28, 3) := by decide +kernel
theorem dX11_print_49 : decode cX11_print 49 = .ok (.iconst 0, 1) := by decide +kernel
theorem dX11_print_50 : decode cX11_print 50 = .ok (.aload_n 0, 1) := by decide +kernel
theorem dX11_print_51 : decode cX11_print 51 = .ok (.getfield 28, 3) := by decide +kernel
theorem dX11_print_54 : decode cX11_print 54 = .ok (.getfield 113, 3) := by decide +kernel
theorem dX11_print_57 : decode cX11_print 57 = .ok (.invokevirtual 217, 3) := by decide +kernel
theorem dX11_print_60 : decode cX11_print 60 = .ok (.aload_n 0, 1) := by decide +kernel
theorem dX11_print_61 : decode cX11_print 61 = .ok (.getfield 22, 3) := by decide +kernel
theorem dX11_print_64 : decode cX11_print 64 = .ok (.invokevirtual 131, 3) := by decide +kernel
theorem dX11_print_67 : decode cX11_print 67 = .ok (.aload_n 0, 1) := by decide +kernel
theorem dX11_print_68 : decode cX11_print 68 = .ok (.getfield 70, 3) := by decide +kernel
theorem dX11_print_71 : decode cX11_print 71 = .ok (.aload_n 0, 1) := by decide +kernel
theorem dX11_print_72 : decode cX11_print 72 = .ok (.getfield 22, 3) := by decide +kernel
theorem dX11_print_75 : decode cX11_print 75 = .ok (.invokevirtual 220, 3) := by decide +kernel
theorem dX11_print_78 : decode cX11_print 78 = .ok (.aload_n 0, 1) := by decide +kernel
theorem dX11_print_79 : decode cX11_print 79 = .ok (.getfield 22, 3) := by decide +kernel
theorem dX11_print_82 : decode cX11_print 82 = .ok (.getfield 113, 3) := by decide +kernel
theorem dX11_print_85 : decode cX11_print 85 = .ok (.ireturn, 1) := by decide +kernel
abbrev rmX11_print : Room := { frames := 7, cells := 0, slots := 0, locals := 153 }
set_option maxHeartbeats 4000000 in
set_option maxRecDepth 100000 in
theorem wP_X11_print {G : Nat → Nat} {F : Nat} {x : mXT} {sz : Nat} {r0 : Int32} {M0 : mM} (X : mCX G RX11 cX11_print 2 (some .int) "print" rmX11_print x) (hQ : mQI x r0 M0 (sz, 0, 0)) {l0 : Nat} {l1 : Int32} {M : mM} (h : P_X11_print G F l0 l1 M = some (r0, M0)) : WW x (sz, 0, 0) M 0 [(0, .ref l0), (1, .int l1)] [] := by
  unfold P_X11_print at h
  refine ww_aload_n 0 X dX11_print_0 0 rfl rfl ?_
  refine ww_iload_n 1 X dX11_print_1 1 rfl rfl ?_
  obtain ⟨_, f2, h⟩ := bO_some h
  obtain ⟨v2, M2, e2, h⟩ := bP_some h
  refine ww_callVI0 2 X dX11_print_2 mY_X11_isKey mL_X11_311 (rcv_spec f2) ⟨_, _, rfl⟩ (by decide) (As := [.int l1]) (rest := []) rfl rfl ⟨Nat.le_of_ble_eq_true rfl, Nat.le_of_ble_eq_true rfl⟩ (Nat.le_of_ble_eq_true rfl) (fun l D A => c_X11_isKey l D A e2) ?_
  refine ww_if_ne 5 11 X dX11_print_5 (by decide) (fun q => ?_) (fun q => ?_)
  · replace h := (if_neg q).symm.trans h
    refine ww_aload_n 11 X dX11_print_11 0 rfl rfl ?_
    obtain ⟨v12, e12, h⟩ := bO_some h
    refine ww_getR 12 X dX11_print_12 fG_X11_28 e12 ?_
    obtain ⟨_, f15, h⟩ := bO_some h
    obtain ⟨M15, e15, h⟩ := bO_some h
    refine ww_callVV0 15 X dX11_print_15 mY_X0_clear mL_X11_131 (rcv_spec f15) ⟨_, _, rfl⟩ (by decide) (As := []) (rest := []) rfl rfl ⟨Nat.le_of_ble_eq_true rfl, Nat.le_of_ble_eq_true rfl⟩ (Nat.le_of_ble_eq_true rfl) (fun l D A => c_X0_clear l D A e15) ?_
    refine ww_aload_n 18 X dX11_print_18 0 rfl rfl ?_
    obtain ⟨v19, e19, h⟩ := bO_some h
    refine ww_getR 19 X dX11_print_19 fG_X11_58 e19 ?_
    refine ww_iload_n 22 X dX11_print_22 1 rfl rfl ?_
    obtain ⟨v23, e23, h⟩ := bO_some h
    refine ww_aald5 23 X dX11_print_23 e23 ?_
    refine ww_aload_n 24 X dX11_print_24 0 rfl rfl ?_
    obtain ⟨v25, e25, h⟩ := bO_some h
    refine ww_getR 25 X dX11_print_25 fG_X11_28 e25 ?_
    obtain ⟨_, f28, h⟩ := bO_some h
    obtain ⟨M28, e28, h⟩ := bO_some h
    refine ww_callVV0 28 X dX11_print_28 mY_X5_putPrinted mL_X11_334 (rcv_spec f28) ⟨_, _, rfl⟩ (by decide) (As := [.ref v25]) (rest := []) rfl rfl ⟨Nat.le_of_ble_eq_true rfl, Nat.le_of_ble_eq_true rfl⟩ (Nat.le_of_ble_eq_true rfl) (fun l D A => c_X5_putPrinted l D A e28) ?_
    refine ww_aload_n 31 X dX11_print_31 0 rfl rfl ?_
    obtain ⟨v32, e32, h⟩ := bO_some h
    refine ww_getR 32 X dX11_print_32 fG_X11_70 e32 ?_
    refine ww_sipush 35 X (v := (256 : Int32)) dX11_print_35 (by decide) ?_
    obtain ⟨_, f38, h⟩ := bO_some h
    obtain ⟨M38, e38, h⟩ := bO_some h
    refine ww_callVV0 38 X dX11_print_38 mY_X4_start mL_X11_215 (rcv_spec f38) ⟨_, _, rfl⟩ (by decide) (As := [.int (256 : Int32)]) (rest := []) rfl rfl ⟨Nat.le_of_ble_eq_true rfl, Nat.le_of_ble_eq_true rfl⟩ (Nat.le_of_ble_eq_true rfl) (fun l D A => c_X4_start l D A e38) ?_
    refine ww_aload_n 41 X dX11_print_41 0 rfl rfl ?_
    obtain ⟨v42, e42, h⟩ := bO_some h
    refine ww_getR 42 X dX11_print_42 fG_X11_70 e42 ?_
    refine ww_aload_n 45 X dX11_print_45 0 rfl rfl ?_
    obtain ⟨v46, e46, h⟩ := bO_some h
    refine ww_getR 46 X dX11_print_46 fG_X11_28 e46 ?_
    refine ww_iconst 49 X (v := (0 : Int32)) dX11_print_49 (by decide) ?_
    refine ww_aload_n 50 X dX11_print_50 0 rfl rfl ?_
    obtain ⟨v51, e51, h⟩ := bO_some h
    refine ww_getR 51 X dX11_print_51 fG_X11_28 e51 ?_
    obtain ⟨v54, e54, h⟩ := bO_some h
    refine ww_getI 54 X dX11_print_54 fG_X11_113 e54 ?_
    obtain ⟨_, f57, h⟩ := bO_some h
    obtain ⟨M57, e57, h⟩ := bO_some h
    refine ww_callVV0 57 X dX11_print_57 mY_X4_add mL_X11_217 (rcv_spec f57) ⟨_, _, rfl⟩ (by decide) (As := [.ref v46, .int (0 : Int32), .int v54]) (rest := []) rfl rfl ⟨Nat.le_of_ble_eq_true rfl, Nat.le_of_ble_eq_true rfl⟩ (Nat.le_of_ble_eq_true rfl) (fun l D A => c_X4_add l D A e57) ?_
    refine ww_aload_n 60 X dX11_print_60 0 rfl rfl ?_
    obtain ⟨v61, e61, h⟩ := bO_some h
    refine ww_getR 61 X dX11_print_61 fG_X11_22 e61 ?_
    obtain ⟨_, f64, h⟩ := bO_some h
    obtain ⟨M64, e64, h⟩ := bO_some h
    refine ww_callVV0 64 X dX11_print_64 mY_X0_clear mL_X11_131 (rcv_spec f64) ⟨_, _, rfl⟩ (by decide) (As := []) (rest := []) rfl rfl ⟨Nat.le_of_ble_eq_true rfl, Nat.le_of_ble_eq_true rfl⟩ (Nat.le_of_ble_eq_true rfl) (fun l D A => c_X0_clear l D A e64) ?_
    refine ww_aload_n 67 X dX11_print_67 0 rfl rfl ?_
    obtain ⟨v68, e68, h⟩ := bO_some h
    refine ww_getR 68 X dX11_print_68 fG_X11_70 e68 ?_
    refine ww_aload_n 71 X dX11_print_71 0 rfl rfl ?_
    obtain ⟨v72, e72, h⟩ := bO_some h
    refine ww_getR 72 X dX11_print_72 fG_X11_22 e72 ?_
    obtain ⟨_, f75, h⟩ := bO_some h
    obtain ⟨M75, e75, h⟩ := bO_some h
    refine ww_callVV0 75 X dX11_print_75 mY_X4_finish mL_X11_220 (rcv_spec f75) ⟨_, _, rfl⟩ (by decide) (As := [.ref v72]) (rest := []) rfl rfl ⟨Nat.le_of_ble_eq_true rfl, Nat.le_of_ble_eq_true rfl⟩ (Nat.le_of_ble_eq_true rfl) (fun l D A => c_X4_finish l D A e75) ?_
    refine ww_aload_n 78 X dX11_print_78 0 rfl rfl ?_
    obtain ⟨v79, e79, h⟩ := bO_some h
    refine ww_getR 79 X dX11_print_79 fG_X11_22 e79 ?_
    obtain ⟨v82, e82, h⟩ := bO_some h
    refine ww_getI 82 X dX11_print_82 fG_X11_113 e82 ?_
    exact ww_iretE 85 X hQ dX11_print_85 h
  · replace h := (if_pos q).symm.trans h
    refine ww_bipush 8 X (v := (-2 : Int32)) dX11_print_8 (by decide) ?_
    exact ww_iretE 10 X hQ dX11_print_10 h
theorem c_X11_print {G : Nat → Nat} {F sz : Nat} {r0 : Int32} {M0 : mM} (l : Launch) (D : mD) (A : Nat → Prop) {l0 : Nat} {l1 : Int32} {M : mM} (h : P_X11_print G F l0 l1 M = some (r0, M0)) : mMetI l D G A yX11_print cX11_print 2 (some .int) 7 153 0 0 [.ref l0, .int l1] M sz r0 M0 sz := mMetI_of l D G A (by decide) (Nat.le_of_ble_eq_true rfl) (fun x X hQ => wP_X11_print X hQ h)
/-! SealedTokens.isRowOrNone(I)Z -/
theorem dX11_isRowOrNone_0 : decode cX11_isRowOrNone 0 = .ok (.iload_n 1, 1) := by decide +kernel
theorem dX11_isRowOrNone_1 : decode cX11_isRowOrNone 1 = .ok (.iconst (-1), 1) := by decide +kernel
theorem dX11_isRowOrNone_2 : decode cX11_isRowOrNone 2 = .ok (.if_icmp .eq 11, 3) := by decide +kernel
theorem dX11_isRowOrNone_5 : decode cX11_isRowOrNone 5 = .ok (.aload_n 0, 1) := by decide +kernel
theorem dX11_isRowOrNone_6 : decode cX11_isRowOrNone 6 = .ok (.iload_n 1, 1) := by decide +kernel
theorem dX11_isRowOrNone_7 : decode cX11_isRowOrNone 7 = .ok (.invokevirtual 123, 3) := by decide +kernel
theorem dX11_isRowOrNone_10 : decode cX11_isRowOrNone 10 = .ok (.ifCond .eq 7, 3) := by decide +kernel
theorem dX11_isRowOrNone_13 : decode cX11_isRowOrNone 13 = .ok (.iconst 1, 1) := by decide +kernel
theorem dX11_isRowOrNone_14 : decode cX11_isRowOrNone 14 = .ok (.goto 4, 3) := by decide +kernel
theorem dX11_isRowOrNone_17 : decode cX11_isRowOrNone 17 = .ok (.iconst 0, 1) := by decide +kernel
theorem dX11_isRowOrNone_18 : decode cX11_isRowOrNone 18 = .ok (.ireturn, 1) := by decide +kernel
abbrev rmX11_isRowOrNone : Room := { frames := 1, cells := 0, slots := 0, locals := 21 }
set_option maxHeartbeats 4000000 in
set_option maxRecDepth 100000 in
theorem wP_X11_isRowOrNone {G : Nat → Nat} {F : Nat} {x : mXT} {sz : Nat} {r0 : Int32} {M0 : mM} (X : mCX G RX11 cX11_isRowOrNone 2 (some .boolean) "isRowOrNone" rmX11_isRowOrNone x) (hQ : mQI x r0 M0 (sz, 0, 0)) {l0 : Nat} {l1 : Int32} {M : mM} (h : P_X11_isRowOrNone G F l0 l1 M = some (r0, M0)) : WW x (sz, 0, 0) M 0 [(0, .ref l0), (1, .int l1)] [] := by
  unfold P_X11_isRowOrNone at h
  refine ww_iload_n 0 X dX11_isRowOrNone_0 1 rfl rfl ?_
  refine ww_iconst 1 X (v := (-1 : Int32)) dX11_isRowOrNone_1 (by decide) ?_
  refine ww_icmp_eq 2 13 X dX11_isRowOrNone_2 (by decide) (fun q => ?_) (fun q => ?_)
  · replace h := (if_pos q).symm.trans h
    refine ww_iconst 13 X (v := (1 : Int32)) dX11_isRowOrNone_13 (by decide) ?_
    refine ww_goto 14 18 X dX11_isRowOrNone_14 (by decide) ?_
    exact ww_zretE 18 X hQ dX11_isRowOrNone_18 h
  · replace h := (if_neg q).symm.trans h
    refine ww_aload_n 5 X dX11_isRowOrNone_5 0 rfl rfl ?_
    refine ww_iload_n 6 X dX11_isRowOrNone_6 1 rfl rfl ?_
    obtain ⟨_, f7, h⟩ := bO_some h
    obtain ⟨v7, M7, e7, h⟩ := bP_some h
    refine ww_callVI0 7 X dX11_isRowOrNone_7 mY_X11_isRow mL_X11_123 (rcv_spec f7) ⟨_, _, rfl⟩ (by decide) (As := [.int l1]) (rest := []) rfl rfl ⟨Nat.le_of_ble_eq_true rfl, Nat.le_of_ble_eq_true rfl⟩ (Nat.le_of_ble_eq_true rfl) (fun l D A => c_X11_isRow l D A e7) ?_
    refine ww_if_eq 10 17 X dX11_isRowOrNone_10 (by decide) (fun q => ?_) (fun q => ?_)
    · replace h := (if_pos q).symm.trans h
      refine ww_iconst 17 X (v := (0 : Int32)) dX11_isRowOrNone_17 (by decide) ?_
      exact ww_zretE 18 X hQ dX11_isRowOrNone_18 h
    · replace h := (if_neg q).symm.trans h
      refine ww_iconst 13 X (v := (1 : Int32)) dX11_isRowOrNone_13 (by decide) ?_
      refine ww_goto 14 18 X dX11_isRowOrNone_14 (by decide) ?_
      exact ww_zretE 18 X hQ dX11_isRowOrNone_18 h
theorem c_X11_isRowOrNone {G : Nat → Nat} {F sz : Nat} {r0 : Int32} {M0 : mM} (l : Launch) (D : mD) (A : Nat → Prop) {l0 : Nat} {l1 : Int32} {M : mM} (h : P_X11_isRowOrNone G F l0 l1 M = some (r0, M0)) : mMetI l D G A yX11_isRowOrNone cX11_isRowOrNone 2 (some .boolean) 1 21 0 0 [.ref l0, .int l1] M sz r0 M0 sz := mMetI_of l D G A (by decide) (Nat.le_of_ble_eq_true rfl) (fun x X hQ => wP_X11_isRowOrNone X hQ h)
/-! SealedTokens.codeWork(LSealedTokens$Key;ILSealedTokens$Bytes;)V -/
theorem dX11_codeWork_0 : decode cX11_codeWork 0 = .ok (.aload_n 0, 1) := by decide +kernel
theorem dX11_codeWork_1 : decode cX11_codeWork 1 = .ok (.getfield 70, 3) := by decide +kernel
theorem dX11_codeWork_4 : decode cX11_codeWork 4 = .ok (.iload_n 2, 1) := by decide +kernel
theorem dX11_codeWork_5 : decode cX11_codeWork 5 = .ok (.ifCond .ne 9, 3) := by decide +kernel
theorem dX11_codeWork_8 : decode cX11_codeWork 8 = .ok (.sipush 256, 3) := by decide +kernel
theorem dX11_codeWork_11 : decode cX11_codeWork 11 = .ok (.goto 6, 3) := by decide +kernel
theorem dX11_codeWork_14 : decode cX11_codeWork 14 = .ok (.sipush 512, 3) := by decide +kernel
theorem dX11_codeWork_17 : decode cX11_codeWork 17 = .ok (.aload_n 1, 1) := by decide +kernel
theorem dX11_codeWork_18 : decode cX11_codeWork 18 = .ok (.getfield 316, 3) := by decide +kernel
theorem dX11_codeWork_21 : decode cX11_codeWork 21 = .ok (.iconst 0, 1) := by decide +kernel
theorem dX11_codeWork_22 : decode cX11_codeWork 22 = .ok (.aload_n 1, 1) := by decide +kernel
theorem dX11_codeWork_23 : decode cX11_codeWork 23 = .ok (.getfield 316, 3) := by decide +kernel
theorem dX11_codeWork_26 : decode cX11_codeWork 26 = .ok (.getfield 113, 3) := by decide +kernel
theorem dX11_codeWork_29 : decode cX11_codeWork 29 = .ok (.invokevirtual 223, 3) := by decide +kernel
theorem dX11_codeWork_32 : decode cX11_codeWork 32 = .ok (.aload_n 0, 1) := by decide +kernel
theorem dX11_codeWork_33 : decode cX11_codeWork 33 = .ok (.getfield 70, 3) := by decide +kernel
theorem dX11_codeWork_36 : decode cX11_codeWork 36 = .ok (.aload_n 0, 1) := by decide +kernel
theorem dX11_codeWork_37 : decode cX11_codeWork 37 = .ok (.getfield 28, 3) := by decide +kernel
theorem dX11_codeWork_40 : decode cX11_codeWork 40 = .ok (.iconst 0, 1) := by decide +kernel
theorem dX11_codeWork_41 : decode cX11_codeWork 41 = .ok (.aload_n 0, 1) := by decide +kernel
theorem dX11_codeWork_42 : decode cX11_codeWork 42 = .ok (.getfield 28, 3) := by decide +kernel
theorem dX11_codeWork_45 : decode cX11_codeWork 45 = .ok (.getfield 113, 3) := by decide +kernel
theorem dX11_codeWork_48 : decode cX11_codeWork 48 = .ok (.invokevirtual 217, 3) := by decide +kernel
theorem dX11_codeWork_51 : decode cX11_codeWork 51 = .ok (.aload_n 0, 1) := by decide +kernel
theorem dX11_codeWork_52 : decode cX11_codeWork 52 = .ok (.getfield 70, 3) := by decide +kernel
theorem dX11_codeWork_55 : decode cX11_codeWork 55 = .ok (.aload_n 3, 1) := by decide +kernel
theorem dX11_codeWork_56 : decode cX11_codeWork 56 = .ok (.invokevirtual 227, 3) := by decide +kernel
theorem dX11_codeWork_59 : decode cX11_codeWork 59 = .ok (.return_, 1) := by decide +kernel
abbrev rmX11_codeWork : Room := { frames := 4, cells := 0, slots := 0, locals := 117 }
set_option maxHeartbeats 4000000 in
set_option maxRecDepth 100000 in
theorem wB_X11_codeWork_17 {G : Nat → Nat} {F : Nat} {x : mXT} {sz : Nat} {M0 : mM} (X : mCX G RX11 cX11_codeWork 4 none "codeWork" rmX11_codeWork x) (hQ : mQV x M0 (sz, 0, 0)) {l0 : Nat} {l1 : Nat} {l3 : Nat} {s0 : Nat} {s1 : Int32} {M : mM} (h : B_X11_codeWork_17 G F l0 l1 l3 s0 s1 M = some M0) : WW x (sz, 0, 0) M 17 [(0, .ref l0), (1, .ref l1), (3, .ref l3)] [.int s1, .ref s0] := by
  unfold B_X11_codeWork_17 at h
  refine ww_aload_n 17 X dX11_codeWork_17 1 rfl rfl ?_
  obtain ⟨v18, e18, h⟩ := bO_some h
  refine ww_getR 18 X dX11_codeWork_18 fG_X11_316 e18 ?_
  refine ww_iconst 21 X (v := (0 : Int32)) dX11_codeWork_21 (by decide) ?_
  refine ww_aload_n 22 X dX11_codeWork_22 1 rfl rfl ?_
  obtain ⟨v23, e23, h⟩ := bO_some h
  refine ww_getR 23 X dX11_codeWork_23 fG_X11_316 e23 ?_
  obtain ⟨v26, e26, h⟩ := bO_some h
  refine ww_getI 26 X dX11_codeWork_26 fG_X11_113 e26 ?_
  obtain ⟨_, f29, h⟩ := bO_some h
  obtain ⟨M29, e29, h⟩ := bO_some h
  refine ww_callVV0 29 X dX11_codeWork_29 mY_X4_startCode mL_X11_223 (rcv_spec f29) ⟨_, _, rfl⟩ (by decide) (As := [.int s1, .ref v18, .int (0 : Int32), .int v26]) (rest := []) rfl rfl ⟨Nat.le_of_ble_eq_true rfl, Nat.le_of_ble_eq_true rfl⟩ (Nat.le_of_ble_eq_true rfl) (fun l D A => c_X4_startCode l D A e29) ?_
  refine ww_aload_n 32 X dX11_codeWork_32 0 rfl rfl ?_
  obtain ⟨v33, e33, h⟩ := bO_some h
  refine ww_getR 33 X dX11_codeWork_33 fG_X11_70 e33 ?_
  refine ww_aload_n 36 X dX11_codeWork_36 0 rfl rfl ?_
  obtain ⟨v37, e37, h⟩ := bO_some h
  refine ww_getR 37 X dX11_codeWork_37 fG_X11_28 e37 ?_
  refine ww_iconst 40 X (v := (0 : Int32)) dX11_codeWork_40 (by decide) ?_
  refine ww_aload_n 41 X dX11_codeWork_41 0 rfl rfl ?_
  obtain ⟨v42, e42, h⟩ := bO_some h
  refine ww_getR 42 X dX11_codeWork_42 fG_X11_28 e42 ?_
  obtain ⟨v45, e45, h⟩ := bO_some h
  refine ww_getI 45 X dX11_codeWork_45 fG_X11_113 e45 ?_
  obtain ⟨_, f48, h⟩ := bO_some h
  obtain ⟨M48, e48, h⟩ := bO_some h
  refine ww_callVV0 48 X dX11_codeWork_48 mY_X4_add mL_X11_217 (rcv_spec f48) ⟨_, _, rfl⟩ (by decide) (As := [.ref v37, .int (0 : Int32), .int v45]) (rest := []) rfl rfl ⟨Nat.le_of_ble_eq_true rfl, Nat.le_of_ble_eq_true rfl⟩ (Nat.le_of_ble_eq_true rfl) (fun l D A => c_X4_add l D A e48) ?_
  refine ww_aload_n 51 X dX11_codeWork_51 0 rfl rfl ?_
  obtain ⟨v52, e52, h⟩ := bO_some h
  refine ww_getR 52 X dX11_codeWork_52 fG_X11_70 e52 ?_
  refine ww_aload_n 55 X dX11_codeWork_55 2 rfl rfl ?_
  obtain ⟨_, f56, h⟩ := bO_some h
  obtain ⟨M56, e56, h⟩ := bO_some h
  refine ww_callVV0 56 X dX11_codeWork_56 mY_X4_finishCode mL_X11_227 (rcv_spec f56) ⟨_, _, rfl⟩ (by decide) (As := [.ref l3]) (rest := []) rfl rfl ⟨Nat.le_of_ble_eq_true rfl, Nat.le_of_ble_eq_true rfl⟩ (Nat.le_of_ble_eq_true rfl) (fun l D A => c_X4_finishCode l D A e56) ?_
  exact ww_vretE 59 X hQ dX11_codeWork_59 h
set_option maxHeartbeats 4000000 in
set_option maxRecDepth 100000 in
theorem wP_X11_codeWork {G : Nat → Nat} {F : Nat} {x : mXT} {sz : Nat} {M0 : mM} (X : mCX G RX11 cX11_codeWork 4 none "codeWork" rmX11_codeWork x) (hQ : mQV x M0 (sz, 0, 0)) {l0 : Nat} {l1 : Nat} {l2 : Int32} {l3 : Nat} {M : mM} (h : P_X11_codeWork G F l0 l1 l2 l3 M = some M0) : WW x (sz, 0, 0) M 0 [(0, .ref l0), (1, .ref l1), (2, .int l2), (3, .ref l3)] [] := by
  unfold P_X11_codeWork at h
  refine ww_aload_n 0 X dX11_codeWork_0 0 rfl rfl ?_
  obtain ⟨v1, e1, h⟩ := bO_some h
  refine ww_getR 1 X dX11_codeWork_1 fG_X11_70 e1 ?_
  refine ww_iload_n 4 X dX11_codeWork_4 2 rfl rfl ?_
  refine ww_if_ne 5 14 X dX11_codeWork_5 (by decide) (fun q => ?_) (fun q => ?_)
  · replace h := (if_neg q).symm.trans h
    refine ww_sipush 14 X (v := (512 : Int32)) dX11_codeWork_14 (by decide) ?_
    exact ww_sub [0, 1, 3] rfl (wB_X11_codeWork_17 X hQ h)
  · replace h := (if_pos q).symm.trans h
    refine ww_sipush 8 X (v := (256 : Int32)) dX11_codeWork_8 (by decide) ?_
    refine ww_goto 11 17 X dX11_codeWork_11 (by decide) ?_
    exact ww_sub [0, 1, 3] rfl (wB_X11_codeWork_17 X hQ h)
theorem c_X11_codeWork {G : Nat → Nat} {F sz : Nat} {M0 : mM} (l : Launch) (D : mD) (A : Nat → Prop) {l0 : Nat} {l1 : Nat} {l2 : Int32} {l3 : Nat} {M : mM} (h : P_X11_codeWork G F l0 l1 l2 l3 M = some M0) : mMetV l D G A yX11_codeWork cX11_codeWork 4 none 4 117 0 0 [.ref l0, .ref l1, .int l2, .ref l3] M sz M0 sz := mMetV_of l D G A (by decide) (Nat.le_of_ble_eq_true rfl) (fun x X hQ => wP_X11_codeWork X hQ h)
/-! SealedTokens.hashWork(LSealedTokens$Bytes;)V -/
theorem dX11_hashWork_0 : decode cX11_hashWork 0 = .ok (.aload_n 1, 1) := by decide +kernel
theorem dX11_hashWork_1 : decode cX11_hashWork 1 = .ok (.invokevirtual 131, 3) := by decide +kernel
theorem dX11_hashWork_4 : decode cX11_hashWork 4 = .ok (.aload_n 0, 1) := by decide +kernel
theorem dX11_hashWork_5 : decode cX11_hashWork 5 = .ok (.getfield 70, 3) := by decide +kernel
theorem dX11_hashWork_8 : decode cX11_hashWork 8 = .ok (.sipush 256, 3) := by decide +kernel
theorem dX11_hashWork_11 : decode cX11_hashWork 11 = .ok (.invokevirtual 215, 3) := by decide +kernel
theorem dX11_hashWork_14 : decode cX11_hashWork 14 = .ok (.aload_n 0, 1) := by decide +kernel
theorem dX11_hashWork_15 : decode cX11_hashWork 15 = .ok (.getfield 70, 3) := by decide +kernel
theorem dX11_hashWork_18 : decode cX11_hashWork 18 = .ok (.aload_n 0, 1) := by decide +kernel
theorem dX11_hashWork_19 : decode cX11_hashWork 19 = .ok (.getfield 28, 3) := by decide +kernel
theorem dX11_hashWork_22 : decode cX11_hashWork 22 = .ok (.iconst 0, 1) := by decide +kernel
theorem dX11_hashWork_23 : decode cX11_hashWork 23 = .ok (.aload_n 0, 1) := by decide +kernel
theorem dX11_hashWork_24 : decode cX11_hashWork 24 = .ok (.getfield 28, 3) := by decide +kernel
theorem dX11_hashWork_27 : decode cX11_hashWork 27 = .ok (.getfield 113, 3) := by decide +kernel
theorem dX11_hashWork_30 : decode cX11_hashWork 30 = .ok (.invokevirtual 217, 3) := by decide +kernel
theorem dX11_hashWork_33 : decode cX11_hashWork 33 = .ok (.aload_n 0, 1) := by decide +kernel
theorem dX11_hashWork_34 : decode cX11_hashWork 34 = .ok (.getfield 70, 3) := by decide +kernel
theorem dX11_hashWork_37 : decode cX11_hashWork 37 = .ok (.aload_n 1, 1) := by decide +kernel
theorem dX11_hashWork_38 : decode cX11_hashWork 38 = .ok (.invokevirtual 220, 3) := by decide +kernel
theorem dX11_hashWork_41 : decode cX11_hashWork 41 = .ok (.return_, 1) := by decide +kernel
abbrev rmX11_hashWork : Room := { frames := 3, cells := 0, slots := 0, locals := 91 }
set_option maxHeartbeats 4000000 in
set_option maxRecDepth 100000 in
theorem wP_X11_hashWork {G : Nat → Nat} {F : Nat} {x : mXT} {sz : Nat} {M0 : mM} (X : mCX G RX11 cX11_hashWork 2 none "hashWork" rmX11_hashWork x) (hQ : mQV x M0 (sz, 0, 0)) {l0 : Nat} {l1 : Nat} {M : mM} (h : P_X11_hashWork G F l0 l1 M = some M0) : WW x (sz, 0, 0) M 0 [(0, .ref l0), (1, .ref l1)] [] := by
  unfold P_X11_hashWork at h
  refine ww_aload_n 0 X dX11_hashWork_0 1 rfl rfl ?_
  obtain ⟨_, f1, h⟩ := bO_some h
  obtain ⟨M1, e1, h⟩ := bO_some h
  refine ww_callVV0 1 X dX11_hashWork_1 mY_X0_clear mL_X11_131 (rcv_spec f1) ⟨_, _, rfl⟩ (by decide) (As := []) (rest := []) rfl rfl ⟨Nat.le_of_ble_eq_true rfl, Nat.le_of_ble_eq_true rfl⟩ (Nat.le_of_ble_eq_true rfl) (fun l D A => c_X0_clear l D A e1) ?_
  refine ww_aload_n 4 X dX11_hashWork_4 0 rfl rfl ?_
  obtain ⟨v5, e5, h⟩ := bO_some h
  refine ww_getR 5 X dX11_hashWork_5 fG_X11_70 e5 ?_
  refine ww_sipush 8 X (v := (256 : Int32)) dX11_hashWork_8 (by decide) ?_
  obtain ⟨_, f11, h⟩ := bO_some h
  obtain ⟨M11, e11, h⟩ := bO_some h
  refine ww_callVV0 11 X dX11_hashWork_11 mY_X4_start mL_X11_215 (rcv_spec f11) ⟨_, _, rfl⟩ (by decide) (As := [.int (256 : Int32)]) (rest := []) rfl rfl ⟨Nat.le_of_ble_eq_true rfl, Nat.le_of_ble_eq_true rfl⟩ (Nat.le_of_ble_eq_true rfl) (fun l D A => c_X4_start l D A e11) ?_
  refine ww_aload_n 14 X dX11_hashWork_14 0 rfl rfl ?_
  obtain ⟨v15, e15, h⟩ := bO_some h
  refine ww_getR 15 X dX11_hashWork_15 fG_X11_70 e15 ?_
  refine ww_aload_n 18 X dX11_hashWork_18 0 rfl rfl ?_
  obtain ⟨v19, e19, h⟩ := bO_some h
  refine ww_getR 19 X dX11_hashWork_19 fG_X11_28 e19 ?_
  refine ww_iconst 22 X (v := (0 : Int32)) dX11_hashWork_22 (by decide) ?_
  refine ww_aload_n 23 X dX11_hashWork_23 0 rfl rfl ?_
  obtain ⟨v24, e24, h⟩ := bO_some h
  refine ww_getR 24 X dX11_hashWork_24 fG_X11_28 e24 ?_
  obtain ⟨v27, e27, h⟩ := bO_some h
  refine ww_getI 27 X dX11_hashWork_27 fG_X11_113 e27 ?_
  obtain ⟨_, f30, h⟩ := bO_some h
  obtain ⟨M30, e30, h⟩ := bO_some h
  refine ww_callVV0 30 X dX11_hashWork_30 mY_X4_add mL_X11_217 (rcv_spec f30) ⟨_, _, rfl⟩ (by decide) (As := [.ref v19, .int (0 : Int32), .int v27]) (rest := []) rfl rfl ⟨Nat.le_of_ble_eq_true rfl, Nat.le_of_ble_eq_true rfl⟩ (Nat.le_of_ble_eq_true rfl) (fun l D A => c_X4_add l D A e30) ?_
  refine ww_aload_n 33 X dX11_hashWork_33 0 rfl rfl ?_
  obtain ⟨v34, e34, h⟩ := bO_some h
  refine ww_getR 34 X dX11_hashWork_34 fG_X11_70 e34 ?_
  refine ww_aload_n 37 X dX11_hashWork_37 1 rfl rfl ?_
  obtain ⟨_, f38, h⟩ := bO_some h
  obtain ⟨M38, e38, h⟩ := bO_some h
  refine ww_callVV0 38 X dX11_hashWork_38 mY_X4_finish mL_X11_220 (rcv_spec f38) ⟨_, _, rfl⟩ (by decide) (As := [.ref l1]) (rest := []) rfl rfl ⟨Nat.le_of_ble_eq_true rfl, Nat.le_of_ble_eq_true rfl⟩ (Nat.le_of_ble_eq_true rfl) (fun l D A => c_X4_finish l D A e38) ?_
  exact ww_vretE 41 X hQ dX11_hashWork_41 h
theorem c_X11_hashWork {G : Nat → Nat} {F sz : Nat} {M0 : mM} (l : Launch) (D : mD) (A : Nat → Prop) {l0 : Nat} {l1 : Nat} {M : mM} (h : P_X11_hashWork G F l0 l1 M = some M0) : mMetV l D G A yX11_hashWork cX11_hashWork 2 none 3 91 0 0 [.ref l0, .ref l1] M sz M0 sz := mMetV_of l D G A (by decide) (Nat.le_of_ble_eq_true rfl) (fun x X hQ => wP_X11_hashWork X hQ h)
/-! SealedTokens.makeSignature(LSealedTokens$Key;ILSealedTokens$Bytes;)Z -/
theorem dX11_makeSignature_0 : decode cX11_makeSignature 0 = .ok (.aload_n 0, 1) := by decide +kernel
theorem dX11_makeSignature_1 : decode cX11_makeSignature 1 = .ok (.getfield 31, 3) := by decide +kernel
theorem dX11_makeSignature_4 : decode cX11_makeSignature 4 = .ok (.invokevirtual 131, 3) := by decide +kernel
theorem dX11_makeSignature_7 : decode cX11_makeSignature 7 = .ok (.iload_n 2, 1) := by decide +kernel
theorem dX11_makeSignature_8 : decode cX11_makeSignature 8 = .ok (.ifCond .eq 8, 3) := by decide +kernel
theorem dX11_makeSignature_11 : decode cX11_makeSignature 11 = .ok (.iload_n 2, 1) := by decide +kernel
theorem dX11_makeSignature_12 : decode cX11_makeSignature 12 = .ok (.iconst 1, 1) := by decide +kernel
theorem dX11_makeSignature_13 : decode cX11_makeSignature 13 = .ok (.if_icmp .ne 15, 3) := by decide +kernel
theorem dX11_makeSignature_16 : decode cX11_makeSignature 16 = .ok (.aload_n 0, 1) := by decide +kernel
theorem dX11_makeSignature_17 : decode cX11_makeSignature 17 = .ok (.aload_n 1, 1) := by decide +kernel
theorem dX11_makeSignature_18 : decode cX11_makeSignature 18 = .ok (.iload_n 2, 1) := by decide +kernel
theorem dX11_makeSignature_19 : decode cX11_makeSignature 19 = .ok (.aload_n 0, 1) := by decide +kernel
theorem dX11_makeSignature_20 : decode cX11_makeSignature 20 = .ok (.getfield 31, 3) := by decide +kernel
theorem dX11_makeSignature_23 : decode cX11_makeSignature 23 = .ok (.invokevirtual 500, 3) := by decide +kernel
theorem dX11_makeSignature_26 : decode cX11_makeSignature 26 = .ok (.iconst 1, 1) := by decide +kernel
theorem dX11_makeSignature_27 : decode cX11_makeSignature 27 = .ok (.ireturn, 1) := by decide +kernel
theorem dX11_makeSignature_28 : decode cX11_makeSignature 28 = .ok (.aload_n 0, 1) := by decide +kernel
theorem dX11_makeSignature_29 : decode cX11_makeSignature 29 = .ok (.aload_n 0, 1) := by decide +kernel
theorem dX11_makeSignature_30 : decode cX11_makeSignature 30 = .ok (.getfield 34, 3) := by decide +kernel
theorem dX11_makeSignature_33 : decode cX11_makeSignature 33 = .ok (.invokevirtual 504, 3) := by decide +kernel
theorem dX11_makeSignature_36 : decode cX11_makeSignature 36 = .ok (.iload_n 2, 1) := by decide +kernel
theorem dX11_makeSignature_37 : decode cX11_makeSignature 37 = .ok (.lookupswitch 77 #[(2, 27), (3, 52)], 27) := by decide +kernel
theorem dX11_makeSignature_64 : decode cX11_makeSignature 64 = .ok (.aload_n 0, 1) := by decide +kernel
theorem dX11_makeSignature_65 : decode cX11_makeSignature 65 = .ok (.getfield 95, 3) := by decide +kernel
theorem dX11_makeSignature_68 : decode cX11_makeSignature 68 = .ok (.aload_n 0, 1) := by decide +kernel
theorem dX11_makeSignature_69 : decode cX11_makeSignature 69 = .ok (.getfield 34, 3) := by decide +kernel
theorem dX11_makeSignature_72 : decode cX11_makeSignature 72 = .ok (.aload_n 1, 1) := by decide +kernel
theorem dX11_makeSignature_73 : decode cX11_makeSignature 73 = .ok (.getfield 459, 3) := by decide +kernel
theorem dX11_makeSignature_76 : decode cX11_makeSignature 76 = .ok (.aload_n 1, 1) := by decide +kernel
theorem dX11_makeSignature_77 : decode cX11_makeSignature 77 = .ok (.getfield 316, 3) := by decide +kernel
theorem dX11_makeSignature_80 : decode cX11_makeSignature 80 = .ok (.aload_n 0, 1) := by decide +kernel
theorem dX11_makeSignature_81 : decode cX11_makeSignature 81 = .ok (.getfield 31, 3) := by decide +kernel
theorem dX11_makeSignature_84 : decode cX11_makeSignature 84 = .ok (.invokevirtual 507, 3) := by decide +kernel
theorem dX11_makeSignature_87 : decode cX11_makeSignature 87 = .ok (.iconst 1, 1) := by decide +kernel
theorem dX11_makeSignature_88 : decode cX11_makeSignature 88 = .ok (.ireturn, 1) := by decide +kernel
theorem dX11_makeSignature_89 : decode cX11_makeSignature 89 = .ok (.aload_n 0, 1) := by decide +kernel
theorem dX11_makeSignature_90 : decode cX11_makeSignature 90 = .ok (.getfield 95, 3) := by decide +kernel
theorem dX11_makeSignature_93 : decode cX11_makeSignature 93 = .ok (.aload_n 0, 1) := by decide +kernel
theorem dX11_makeSignature_94 : decode cX11_makeSignature 94 = .ok (.getfield 34, 3) := by decide +kernel
theorem dX11_makeSignature_97 : decode cX11_makeSignature 97 = .ok (.aload_n 3, 1) := by decide +kernel
theorem dX11_makeSignature_98 : decode cX11_makeSignature 98 = .ok (.aload_n 1, 1) := by decide +kernel
theorem dX11_makeSignature_99 : decode cX11_makeSignature 99 = .ok (.getfield 459, 3) := by decide +kernel
theorem dX11_makeSignature_102 : decode cX11_makeSignature 102 = .ok (.aload_n 1, 1) := by decide +kernel
theorem dX11_makeSignature_103 : decode cX11_makeSignature 103 = .ok (.getfield 316, 3) := by decide +kernel
theorem dX11_makeSignature_106 : decode cX11_makeSignature 106 = .ok (.aload_n 0, 1) := by decide +kernel
theorem dX11_makeSignature_107 : decode cX11_makeSignature 107 = .ok (.getfield 31, 3) := by decide +kernel
theorem dX11_makeSignature_110 : decode cX11_makeSignature 110 = .ok (.invokevirtual 510, 3) := by decide +kernel
theorem dX11_makeSignature_113 : decode cX11_makeSignature 113 = .ok (.ireturn, 1) := by decide +kernel
theorem dX11_makeSignature_114 : decode cX11_makeSignature 114 = .ok (.aload_n 0, 1) := by decide +kernel
theorem dX11_makeSignature_115 : decode cX11_makeSignature 115 = .ok (.getfield 102, 3) := by decide +kernel
theorem dX11_makeSignature_118 : decode cX11_makeSignature 118 = .ok (.aload_n 0, 1) := by decide +kernel
theorem dX11_makeSignature_119 : decode cX11_makeSignature 119 = .ok (.getfield 34, 3) := by decide +kernel
theorem dX11_makeSignature_122 : decode cX11_makeSignature 122 = .ok (.aload_n 1, 1) := by decide +kernel
theorem dX11_makeSignature_123 : decode cX11_makeSignature 123 = .ok (.getfield 459, 3) := by decide +kernel
theorem dX11_makeSignature_126 : decode cX11_makeSignature 126 = .ok (.aload_n 3, 1) := by decide +kernel
theorem dX11_makeSignature_127 : decode cX11_makeSignature 127 = .ok (.aload_n 0, 1) := by decide +kernel
theorem dX11_makeSignature_128 : decode cX11_makeSignature 128 = .ok (.getfield 31, 3) := by decide +kernel
theorem dX11_makeSignature_131 : decode cX11_makeSignature 131 = .ok (.invokevirtual 514, 3) := by decide +kernel
theorem dX11_makeSignature_134 : decode cX11_makeSignature 134 = .ok (.ireturn, 1) := by decide +kernel
abbrev rmX11_makeSignature : Room := { frames := 6, cells := 0, slots := 0, locals := 196 }
set_option maxHeartbeats 4000000 in
set_option maxRecDepth 100000 in
theorem wP_X11_makeSignature {G : Nat → Nat} {F : Nat} {x : mXT} {sz : Nat} {r0 : Int32} {M0 : mM} (X : mCX G RX11 cX11_makeSignature 4 (some .boolean) "makeSignature" rmX11_makeSignature x) (hQ : mQI x r0 M0 (sz, 0, 0)) {l0 : Nat} {l1 : Nat} {l2 : Int32} {l3 : Nat} {M : mM} (h : P_X11_makeSignature G F l0 l1 l2 l3 M = some (r0, M0)) : WW x (sz, 0, 0) M 0 [(0, .ref l0), (1, .ref l1), (2, .int l2), (3, .ref l3)] [] := by
  unfold P_X11_makeSignature at h
  refine ww_aload_n 0 X dX11_makeSignature_0 0 rfl rfl ?_
  obtain ⟨v1, e1, h⟩ := bO_some h
  refine ww_getR 1 X dX11_makeSignature_1 fG_X11_31 e1 ?_
  obtain ⟨_, f4, h⟩ := bO_some h
  obtain ⟨M4, e4, h⟩ := bO_some h
  refine ww_callVV0 4 X dX11_makeSignature_4 mY_X0_clear mL_X11_131 (rcv_spec f4) ⟨_, _, rfl⟩ (by decide) (As := []) (rest := []) rfl rfl ⟨Nat.le_of_ble_eq_true rfl, Nat.le_of_ble_eq_true rfl⟩ (Nat.le_of_ble_eq_true rfl) (fun l D A => c_X0_clear l D A e4) ?_
  refine ww_iload_n 7 X dX11_makeSignature_7 2 rfl rfl ?_
  refine ww_if_eq 8 16 X dX11_makeSignature_8 (by decide) (fun q => ?_) (fun q => ?_)
  · replace h := (if_pos q).symm.trans h
    refine ww_aload_n 16 X dX11_makeSignature_16 0 rfl rfl ?_
    refine ww_aload_n 17 X dX11_makeSignature_17 1 rfl rfl ?_
    refine ww_iload_n 18 X dX11_makeSignature_18 2 rfl rfl ?_
    refine ww_aload_n 19 X dX11_makeSignature_19 0 rfl rfl ?_
    obtain ⟨v20, e20, h⟩ := bO_some h
    refine ww_getR 20 X dX11_makeSignature_20 fG_X11_31 e20 ?_
    obtain ⟨_, f23, h⟩ := bO_some h
    obtain ⟨M23, e23, h⟩ := bO_some h
    refine ww_callVV0 23 X dX11_makeSignature_23 mY_X11_codeWork mL_X11_500 (rcv_spec f23) ⟨_, _, rfl⟩ (by decide) (As := [.ref l1, .int l2, .ref v20]) (rest := []) rfl rfl ⟨Nat.le_of_ble_eq_true rfl, Nat.le_of_ble_eq_true rfl⟩ (Nat.le_of_ble_eq_true rfl) (fun l D A => c_X11_codeWork l D A e23) ?_
    refine ww_iconst 26 X (v := (1 : Int32)) dX11_makeSignature_26 (by decide) ?_
    exact ww_zretE 27 X hQ dX11_makeSignature_27 h
  · replace h := (if_neg q).symm.trans h
    refine ww_iload_n 11 X dX11_makeSignature_11 2 rfl rfl ?_
    refine ww_iconst 12 X (v := (1 : Int32)) dX11_makeSignature_12 (by decide) ?_
    refine ww_icmp_ne 13 28 X dX11_makeSignature_13 (by decide) (fun q => ?_) (fun q => ?_)
    · replace h := (if_neg q).symm.trans h
      refine ww_aload_n 28 X dX11_makeSignature_28 0 rfl rfl ?_
      refine ww_aload_n 29 X dX11_makeSignature_29 0 rfl rfl ?_
      obtain ⟨v30, e30, h⟩ := bO_some h
      refine ww_getR 30 X dX11_makeSignature_30 fG_X11_34 e30 ?_
      obtain ⟨_, f33, h⟩ := bO_some h
      obtain ⟨M33, e33, h⟩ := bO_some h
      refine ww_callVV0 33 X dX11_makeSignature_33 mY_X11_hashWork mL_X11_504 (rcv_spec f33) ⟨_, _, rfl⟩ (by decide) (As := [.ref v30]) (rest := []) rfl rfl ⟨Nat.le_of_ble_eq_true rfl, Nat.le_of_ble_eq_true rfl⟩ (Nat.le_of_ble_eq_true rfl) (fun l D A => c_X11_hashWork l D A e33) ?_
      refine ww_iload_n 36 X dX11_makeSignature_36 2 rfl rfl ?_
      by_cases q2 : l2 = (2 : Int32)
      · replace h := (if_pos q2).symm.trans h
        refine ww_lookup 37 64 X dX11_makeSignature_37 (off := 27) (by decide) (by rw [q2]; decide) (by decide) ?_
        refine ww_aload_n 64 X dX11_makeSignature_64 0 rfl rfl ?_
        obtain ⟨v65, e65, h⟩ := bO_some h
        refine ww_getR 65 X dX11_makeSignature_65 fG_X11_95 e65 ?_
        refine ww_aload_n 68 X dX11_makeSignature_68 0 rfl rfl ?_
        obtain ⟨v69, e69, h⟩ := bO_some h
        refine ww_getR 69 X dX11_makeSignature_69 fG_X11_34 e69 ?_
        refine ww_aload_n 72 X dX11_makeSignature_72 1 rfl rfl ?_
        obtain ⟨v73, e73, h⟩ := bO_some h
        refine ww_getR 73 X dX11_makeSignature_73 fG_X11_459 e73 ?_
        refine ww_aload_n 76 X dX11_makeSignature_76 1 rfl rfl ?_
        obtain ⟨v77, e77, h⟩ := bO_some h
        refine ww_getR 77 X dX11_makeSignature_77 fG_X11_316 e77 ?_
        refine ww_aload_n 80 X dX11_makeSignature_80 0 rfl rfl ?_
        obtain ⟨v81, e81, h⟩ := bO_some h
        refine ww_getR 81 X dX11_makeSignature_81 fG_X11_31 e81 ?_
        obtain ⟨_, f84, h⟩ := bO_some h
        obtain ⟨M84, e84, h⟩ := bO_some h
        refine ww_callVV0 84 X dX11_makeSignature_84 mY_X8_signPkcs mL_X11_507 (rcv_spec f84) ⟨_, _, rfl⟩ (by decide) (As := [.ref v69, .ref v73, .ref v77, .ref v81]) (rest := []) rfl rfl ⟨Nat.le_of_ble_eq_true rfl, Nat.le_of_ble_eq_true rfl⟩ (Nat.le_of_ble_eq_true rfl) (fun l D A => c_X8_signPkcs l D A e84) ?_
        refine ww_iconst 87 X (v := (1 : Int32)) dX11_makeSignature_87 (by decide) ?_
        exact ww_zretE 88 X hQ dX11_makeSignature_88 h
      · replace h := (if_neg q2).symm.trans h
        by_cases q3 : l2 = (3 : Int32)
        · replace h := (if_pos q3).symm.trans h
          refine ww_lookup 37 89 X dX11_makeSignature_37 (off := 52) (by decide) (by rw [q3]; decide) (by decide) ?_
          refine ww_aload_n 89 X dX11_makeSignature_89 0 rfl rfl ?_
          obtain ⟨v90, e90, h⟩ := bO_some h
          refine ww_getR 90 X dX11_makeSignature_90 fG_X11_95 e90 ?_
          refine ww_aload_n 93 X dX11_makeSignature_93 0 rfl rfl ?_
          obtain ⟨v94, e94, h⟩ := bO_some h
          refine ww_getR 94 X dX11_makeSignature_94 fG_X11_34 e94 ?_
          refine ww_aload_n 97 X dX11_makeSignature_97 3 rfl rfl ?_
          refine ww_aload_n 98 X dX11_makeSignature_98 1 rfl rfl ?_
          obtain ⟨v99, e99, h⟩ := bO_some h
          refine ww_getR 99 X dX11_makeSignature_99 fG_X11_459 e99 ?_
          refine ww_aload_n 102 X dX11_makeSignature_102 1 rfl rfl ?_
          obtain ⟨v103, e103, h⟩ := bO_some h
          refine ww_getR 103 X dX11_makeSignature_103 fG_X11_316 e103 ?_
          refine ww_aload_n 106 X dX11_makeSignature_106 0 rfl rfl ?_
          obtain ⟨v107, e107, h⟩ := bO_some h
          refine ww_getR 107 X dX11_makeSignature_107 fG_X11_31 e107 ?_
          obtain ⟨_, f110, h⟩ := bO_some h
          obtain ⟨v110, M110, e110, h⟩ := bP_some h
          refine ww_callVI0 110 X dX11_makeSignature_110 mY_X8_signPss mL_X11_510 (rcv_spec f110) ⟨_, _, rfl⟩ (by decide) (As := [.ref v94, .ref l3, .ref v99, .ref v103, .ref v107]) (rest := []) rfl rfl ⟨Nat.le_of_ble_eq_true rfl, Nat.le_of_ble_eq_true rfl⟩ (Nat.le_of_ble_eq_true rfl) (fun l D A => c_X8_signPss l D A e110) ?_
          exact ww_zretE 113 X hQ dX11_makeSignature_113 h
        · replace h := (if_neg q3).symm.trans h
          refine ww_lookup 37 114 X dX11_makeSignature_37 (off := 77) (by decide) (by show Op.lookupswitch.offset [(2, 27), (3, 52)] 77 _ = _; rw [lv_osw q2 (show (2 : Int32).toInt = 2 by decide), lv_osw q3 (show (3 : Int32).toInt = 3 by decide)]; rfl) (by decide) ?_
          refine ww_aload_n 114 X dX11_makeSignature_114 0 rfl rfl ?_
          obtain ⟨v115, e115, h⟩ := bO_some h
          refine ww_getR 115 X dX11_makeSignature_115 fG_X11_102 e115 ?_
          refine ww_aload_n 118 X dX11_makeSignature_118 0 rfl rfl ?_
          obtain ⟨v119, e119, h⟩ := bO_some h
          refine ww_getR 119 X dX11_makeSignature_119 fG_X11_34 e119 ?_
          refine ww_aload_n 122 X dX11_makeSignature_122 1 rfl rfl ?_
          obtain ⟨v123, e123, h⟩ := bO_some h
          refine ww_getR 123 X dX11_makeSignature_123 fG_X11_459 e123 ?_
          refine ww_aload_n 126 X dX11_makeSignature_126 3 rfl rfl ?_
          refine ww_aload_n 127 X dX11_makeSignature_127 0 rfl rfl ?_
          obtain ⟨v128, e128, h⟩ := bO_some h
          refine ww_getR 128 X dX11_makeSignature_128 fG_X11_31 e128 ?_
          obtain ⟨_, f131, h⟩ := bO_some h
          obtain ⟨v131, M131, e131, h⟩ := bP_some h
          refine ww_callVI0 131 X dX11_makeSignature_131 mY_X3_putSignature mL_X11_514 (rcv_spec f131) ⟨_, _, rfl⟩ (by decide) (As := [.ref v119, .ref v123, .ref l3, .ref v128]) (rest := []) rfl rfl ⟨Nat.le_of_ble_eq_true rfl, Nat.le_of_ble_eq_true rfl⟩ (Nat.le_of_ble_eq_true rfl) (fun l D A => c_X3_putSignature l D A e131) ?_
          exact ww_zretE 134 X hQ dX11_makeSignature_134 h
    · replace h := (if_pos q).symm.trans h
      refine ww_aload_n 16 X dX11_makeSignature_16 0 rfl rfl ?_
      refine ww_aload_n 17 X dX11_makeSignature_17 1 rfl rfl ?_
      refine ww_iload_n 18 X dX11_makeSignature_18 2 rfl rfl ?_
      refine ww_aload_n 19 X dX11_makeSignature_19 0 rfl rfl ?_
      obtain ⟨v20, e20, h⟩ := bO_some h
      refine ww_getR 20 X dX11_makeSignature_20 fG_X11_31 e20 ?_
      obtain ⟨_, f23, h⟩ := bO_some h
      obtain ⟨M23, e23, h⟩ := bO_some h
      refine ww_callVV0 23 X dX11_makeSignature_23 mY_X11_codeWork mL_X11_500 (rcv_spec f23) ⟨_, _, rfl⟩ (by decide) (As := [.ref l1, .int l2, .ref v20]) (rest := []) rfl rfl ⟨Nat.le_of_ble_eq_true rfl, Nat.le_of_ble_eq_true rfl⟩ (Nat.le_of_ble_eq_true rfl) (fun l D A => c_X11_codeWork l D A e23) ?_
      refine ww_iconst 26 X (v := (1 : Int32)) dX11_makeSignature_26 (by decide) ?_
      exact ww_zretE 27 X hQ dX11_makeSignature_27 h
theorem c_X11_makeSignature {G : Nat → Nat} {F sz : Nat} {r0 : Int32} {M0 : mM} (l : Launch) (D : mD) (A : Nat → Prop) {l0 : Nat} {l1 : Nat} {l2 : Int32} {l3 : Nat} {M : mM} (h : P_X11_makeSignature G F l0 l1 l2 l3 M = some (r0, M0)) : mMetI l D G A yX11_makeSignature cX11_makeSignature 4 (some .boolean) 6 196 0 0 [.ref l0, .ref l1, .int l2, .ref l3] M sz r0 M0 sz := mMetI_of l D G A (by decide) (Nat.le_of_ble_eq_true rfl) (fun x X hQ => wP_X11_makeSignature X hQ h)
/-! SealedTokens.sign(IIIII)I -/
theorem dX11_sign_0 : decode cX11_sign 0 = .ok (.iload_n 2, 1) := by decide +kernel
theorem dX11_sign_1 : decode cX11_sign 1 = .ok (.iconst 3, 1) := by decide +kernel
theorem dX11_sign_2 : decode cX11_sign 2 = .ok (.if_icmp .eq 8, 3) := by decide +kernel
theorem dX11_sign_5 : decode cX11_sign 5 = .ok (.iload_n 2, 1) := by decide +kernel
theorem dX11_sign_6 : decode cX11_sign 6 = .ok (.iconst 4, 1) := by decide +kernel
theorem dX11_sign_7 : decode cX11_sign 7 = .ok (.if_icmp .ne 7, 3) := by decide +kernel
theorem dX11_sign_10 : decode cX11_sign 10 = .ok (.iconst 1, 1) := by decide +kernel
theorem dX11_sign_11 : decode cX11_sign 11 = .ok (.goto 4, 3) := by decide +kernel
theorem dX11_sign_14 : decode cX11_sign 14 = .ok (.iconst 0, 1) := by decide +kernel
theorem dX11_sign_15 : decode cX11_sign 15 = .ok (.istore 6, 2) := by decide +kernel
theorem dX11_sign_17 : decode cX11_sign 17 = .ok (.aload_n 0, 1) := by decide +kernel
theorem dX11_sign_18 : decode cX11_sign 18 = .ok (.iload_n 1, 1) := by decide +kernel
theorem dX11_sign_19 : decode cX11_sign 19 = .ok (.invokevirtual 311, 3) := by decide +kernel
theorem dX11_sign_22 : decode cX11_sign 22 = .ok (.ifCond .eq 43, 3) := by decide +kernel
theorem dX11_sign_25 : decode cX11_sign 25 = .ok (.iload_n 2, 1) := by decide +kernel
theorem dX11_sign_26 : decode cX11_sign 26 = .ok (.ifCond .lt 39, 3) := by decide +kernel
theorem dX11_sign_29 : decode cX11_sign 29 = .ok (.iload_n 2, 1) := by decide +kernel
theorem dX11_sign_30 : decode cX11_sign 30 = .ok (.iconst 5, 1) := by decide +kernel
theorem dX11_sign_31 : decode cX11_sign 31 = .ok (.if_icmp .ge 34, 3) := by decide +kernel
theorem dX11_sign_34 : decode cX11_sign 34 = .ok (.aload_n 0, 1) := by decide +kernel
theorem dX11_sign_35 : decode cX11_sign 35 = .ok (.iload_n 3, 1) := by decide +kernel
theorem dX11_sign_36 : decode cX11_sign 36 = .ok (.invokevirtual 337, 3) := by decide +kernel
theorem dX11_sign_39 : decode cX11_sign 39 = .ok (.ifCond .eq 26, 3) := by decide +kernel
theorem dX11_sign_42 : decode cX11_sign 42 = .ok (.aload_n 0, 1) := by decide +kernel
theorem dX11_sign_43 : decode cX11_sign 43 = .ok (.iload 4, 2) := by decide +kernel
theorem dX11_sign_45 : decode cX11_sign 45 = .ok (.invokevirtual 123, 3) := by decide +kernel
theorem dX11_sign_48 : decode cX11_sign 48 = .ok (.ifCond .eq 17, 3) := by decide +kernel
theorem dX11_sign_51 : decode cX11_sign 51 = .ok (.iload 6, 2) := by decide +kernel
theorem dX11_sign_53 : decode cX11_sign 53 = .ok (.ifCond .eq 15, 3) := by decide +kernel
theorem dX11_sign_56 : decode cX11_sign 56 = .ok (.aload_n 0, 1) := by decide +kernel
theorem dX11_sign_57 : decode cX11_sign 57 = .ok (.iload 5, 2) := by decide +kernel
theorem dX11_sign_59 : decode cX11_sign 59 = .ok (.invokevirtual 123, 3) := by decide +kernel
theorem dX11_sign_62 : decode cX11_sign 62 = .ok (.ifCond .ne 6, 3) := by decide +kernel
theorem dX11_sign_65 : decode cX11_sign 65 = .ok (.bipush (-2), 2) := by decide +kernel
theorem dX11_sign_67 : decode cX11_sign 67 = .ok (.ireturn, 1) := by decide +kernel
theorem dX11_sign_68 : decode cX11_sign 68 = .ok (.aload_n 0, 1) := by decide +kernel
theorem dX11_sign_69 : decode cX11_sign 69 = .ok (.getfield 58, 3) := by decide +kernel
theorem dX11_sign_72 : decode cX11_sign 72 = .ok (.iload_n 1, 1) := by decide +kernel
theorem dX11_sign_73 : decode cX11_sign 73 = .ok (.aaload, 1) := by decide +kernel
theorem dX11_sign_74 : decode cX11_sign 74 = .ok (.astore 7, 2) := by decide +kernel
theorem dX11_sign_76 : decode cX11_sign 76 = .ok (.aload 7, 2) := by decide +kernel
theorem dX11_sign_78 : decode cX11_sign 78 = .ok (.iload_n 2, 1) := by decide +kernel
theorem dX11_sign_79 : decode cX11_sign 79 = .ok (.iconst 1, 1) := by decide +kernel
theorem dX11_sign_80 : decode cX11_sign 80 = .ok (.invokevirtual 340, 3) := by decide +kernel
theorem dX11_sign_83 : decode cX11_sign 83 = .ok (.ifCond .ne 6, 3) := by decide +kernel
theorem dX11_sign_86 : decode cX11_sign 86 = .ok (.bipush (-26), 2) := by decide +kernel
theorem dX11_sign_88 : decode cX11_sign 88 = .ok (.ireturn, 1) := by decide +kernel
theorem dX11_sign_89 : decode cX11_sign 89 = .ok (.iload_n 3, 1) := by decide +kernel
theorem dX11_sign_90 : decode cX11_sign 90 = .ok (.iconst (-1), 1) := by decide +kernel
theorem dX11_sign_91 : decode cX11_sign 91 = .ok (.if_icmp .ne 16, 3) := by decide +kernel
theorem dX11_sign_94 : decode cX11_sign 94 = .ok (.aload_n 0, 1) := by decide +kernel
theorem dX11_sign_95 : decode cX11_sign 95 = .ok (.getfield 109, 3) := by decide +kernel
theorem dX11_sign_98 : decode cX11_sign 98 = .ok (.iload_n 2, 1) := by decide +kernel
theorem dX11_sign_99 : decode cX11_sign 99 = .ok (.aload 7, 2) := by decide +kernel
theorem dX11_sign_101 : decode cX11_sign 101 = .ok (.invokevirtual 344, 3) := by decide +kernel
theorem dX11_sign_104 : decode cX11_sign 104 = .ok (.goto 78, 3) := by decide +kernel
theorem dX11_sign_107 : decode cX11_sign 107 = .ok (.aload_n 0, 1) := by decide +kernel
theorem dX11_sign_108 : decode cX11_sign 108 = .ok (.getfield 52, 3) := by decide +kernel
theorem dX11_sign_111 : decode cX11_sign 111 = .ok (.aload_n 0, 1) := by decide +kernel
theorem dX11_sign_112 : decode cX11_sign 112 = .ok (.getfield 11, 3) := by decide +kernel
theorem dX11_sign_115 : decode cX11_sign 115 = .ok (.iload_n 3, 1) := by decide +kernel
theorem dX11_sign_116 : decode cX11_sign 116 = .ok (.aaload, 1) := by decide +kernel
theorem dX11_sign_117 : decode cX11_sign 117 = .ok (.aload_n 0, 1) := by decide +kernel
theorem dX11_sign_118 : decode cX11_sign 118 = .ok (.getfield 44, 3) := by decide +kernel
theorem dX11_sign_121 : decode cX11_sign 121 = .ok (.invokevirtual 142, 3) := by decide +kernel
theorem dX11_sign_124 : decode cX11_sign 124 = .ok (.iconst (-1), 1) := by decide +kernel
theorem dX11_sign_125 : decode cX11_sign 125 = .ok (.if_icmp .eq 6, 3) := by decide +kernel
theorem dX11_sign_128 : decode cX11_sign 128 = .ok (.bipush (-22), 2) := by decide +kernel
theorem dX11_sign_130 : decode cX11_sign 130 = .ok (.ireturn, 1) := by decide +kernel
theorem dX11_sign_131 : decode cX11_sign 131 = .ok (.aload_n 0, 1) := by decide +kernel
theorem dX11_sign_132 : decode cX11_sign 132 = .ok (.getfield 109, 3) := by decide +kernel
theorem dX11_sign_135 : decode cX11_sign 135 = .ok (.aload_n 0, 1) := by decide +kernel
theorem dX11_sign_136 : decode cX11_sign 136 = .ok (.getfield 44, 3) := by decide +kernel
theorem dX11_sign_139 : decode cX11_sign 139 = .ok (.invokevirtual 348, 3) := by decide +kernel
theorem dX11_sign_142 : decode cX11_sign 142 = .ok (.istore 8, 2) := by decide +kernel
theorem dX11_sign_144 : decode cX11_sign 144 = .ok (.iload 8, 2) := by decide +kernel
theorem dX11_sign_146 : decode cX11_sign 146 = .ok (.ifCond .eq 6, 3) := by decide +kernel
theorem dX11_sign_149 : decode cX11_sign 149 = .ok (.iload 8, 2) := by decide +kernel
theorem dX11_sign_151 : decode cX11_sign 151 = .ok (.ireturn, 1) := by decide +kernel
theorem dX11_sign_152 : decode cX11_sign 152 = .ok (.aload_n 0, 1) := by decide +kernel
theorem dX11_sign_153 : decode cX11_sign 153 = .ok (.getfield 109, 3) := by decide +kernel
theorem dX11_sign_156 : decode cX11_sign 156 = .ok (.getfield 351, 3) := by decide +kernel
theorem dX11_sign_159 : decode cX11_sign 159 = .ok (.iload_n 2, 1) := by decide +kernel
theorem dX11_sign_160 : decode cX11_sign 160 = .ok (.if_icmp .eq 6, 3) := by decide +kernel
theorem dX11_sign_163 : decode cX11_sign 163 = .ok (.bipush (-27), 2) := by decide +kernel
theorem dX11_sign_165 : decode cX11_sign 165 = .ok (.ireturn, 1) := by decide +kernel
theorem dX11_sign_166 : decode cX11_sign 166 = .ok (.aload_n 0, 1) := by decide +kernel
theorem dX11_sign_167 : decode cX11_sign 167 = .ok (.getfield 109, 3) := by decide +kernel
theorem dX11_sign_170 : decode cX11_sign 170 = .ok (.getfield 352, 3) := by decide +kernel
theorem dX11_sign_173 : decode cX11_sign 173 = .ok (.aload_n 0, 1) := by decide +kernel
theorem dX11_sign_174 : decode cX11_sign 174 = .ok (.getfield 11, 3) := by decide +kernel
theorem dX11_sign_177 : decode cX11_sign 177 = .ok (.iload_n 3, 1) := by decide +kernel
theorem dX11_sign_178 : decode cX11_sign 178 = .ok (.aaload, 1) := by decide +kernel
theorem dX11_sign_179 : decode cX11_sign 179 = .ok (.invokevirtual 127, 3) := by decide +kernel
theorem dX11_sign_182 : decode cX11_sign 182 = .ok (.aload_n 0, 1) := by decide +kernel
theorem dX11_sign_183 : decode cX11_sign 183 = .ok (.getfield 109, 3) := by decide +kernel
theorem dX11_sign_186 : decode cX11_sign 186 = .ok (.getfield 355, 3) := by decide +kernel
theorem dX11_sign_189 : decode cX11_sign 189 = .ok (.ifCond .eq 21, 3) := by decide +kernel
theorem dX11_sign_192 : decode cX11_sign 192 = .ok (.aload_n 0, 1) := by decide +kernel
theorem dX11_sign_193 : decode cX11_sign 193 = .ok (.getfield 11, 3) := by decide +kernel
theorem dX11_sign_196 : decode cX11_sign 196 = .ok (.iload 4, 2) := by decide +kernel
theorem dX11_sign_198 : decode cX11_sign 198 = .ok (.aaload, 1) := by decide +kernel
theorem dX11_sign_199 : decode cX11_sign 199 = .ok (.bipush 46, 2) := by decide +kernel
theorem dX11_sign_201 : decode cX11_sign 201 = .ok (.invokevirtual 358, 3) := by decide +kernel
theorem dX11_sign_204 : decode cX11_sign 204 = .ok (.ifCond .eq 6, 3) := by decide +kernel
theorem dX11_sign_207 : decode cX11_sign 207 = .ok (.bipush (-5), 2) := by decide +kernel
theorem dX11_sign_209 : decode cX11_sign 209 = .ok (.ireturn, 1) := by decide +kernel
theorem dX11_sign_210 : decode cX11_sign 210 = .ok (.aload_n 0, 1) := by decide +kernel
theorem dX11_sign_211 : decode cX11_sign 211 = .ok (.getfield 28, 3) := by decide +kernel
theorem dX11_sign_214 : decode cX11_sign 214 = .ok (.invokevirtual 131, 3) := by decide +kernel
theorem dX11_sign_217 : decode cX11_sign 217 = .ok (.aload_n 0, 1) := by decide +kernel
theorem dX11_sign_218 : decode cX11_sign 218 = .ok (.getfield 28, 3) := by decide +kernel
theorem dX11_sign_221 : decode cX11_sign 221 = .ok (.aload_n 0, 1) := by decide +kernel
theorem dX11_sign_222 : decode cX11_sign 222 = .ok (.getfield 109, 3) := by decide +kernel
theorem dX11_sign_225 : decode cX11_sign 225 = .ok (.getfield 352, 3) := by decide +kernel
theorem dX11_sign_228 : decode cX11_sign 228 = .ok (.iconst 0, 1) := by decide +kernel
theorem dX11_sign_229 : decode cX11_sign 229 = .ok (.aload_n 0, 1) := by decide +kernel
theorem dX11_sign_230 : decode cX11_sign 230 = .ok (.getfield 109, 3) := by decide +kernel
theorem dX11_sign_233 : decode cX11_sign 233 = .ok (.getfield 352, 3) := by decide +kernel
theorem dX11_sign_236 : decode cX11_sign 236 = .ok (.getfield 113, 3) := by decide +kernel
theorem dX11_sign_239 : decode cX11_sign 239 = .ok (.invokevirtual 205, 3) := by decide +kernel
theorem dX11_sign_242 : decode cX11_sign 242 = .ok (.aload_n 0, 1) := by decide +kernel
theorem dX11_sign_243 : decode cX11_sign 243 = .ok (.getfield 28, 3) := by decide +kernel
theorem dX11_sign_246 : decode cX11_sign 246 = .ok (.bipush 46, 2) := by decide +kernel
theorem dX11_sign_248 : decode cX11_sign 248 = .ok (.invokevirtual 361, 3) := by decide +kernel
theorem dX11_sign_251 : decode cX11_sign 251 = .ok (.aload_n 0, 1) := by decide +kernel
theorem dX11_sign_252 : decode cX11_sign 252 = .ok (.getfield 109, 3) := by decide +kernel
theorem dX11_sign_255 : decode cX11_sign 255 = .ok (.getfield 355, 3) := by decide +kernel
theorem dX11_sign_258 : decode cX11_sign 258 = .ok (.ifCond .eq 20, 3) := by decide +kernel
theorem dX11_sign_261 : decode cX11_sign 261 = .ok (.aload_n 0, 1) := by decide +kernel
theorem dX11_sign_262 : decode cX11_sign 262 = .ok (.getfield 28, 3) := by decide +kernel
theorem dX11_sign_265 : decode cX11_sign 265 = .ok (.aload_n 0, 1) := by decide +kernel
theorem dX11_sign_266 : decode cX11_sign 266 = .ok (.getfield 11, 3) := by decide +kernel
theorem dX11_sign_269 : decode cX11_sign 269 = .ok (.iload 4, 2) := by decide +kernel
theorem dX11_sign_271 : decode cX11_sign 271 = .ok (.aaload, 1) := by decide +kernel
theorem dX11_sign_272 : decode cX11_sign 272 = .ok (.invokevirtual 364, 3) := by decide +kernel
theorem dX11_sign_275 : decode cX11_sign 275 = .ok (.goto 28, 3) := by decide +kernel
theorem dX11_sign_278 : decode cX11_sign 278 = .ok (.aload_n 0, 1) := by decide +kernel
theorem dX11_sign_279 : decode cX11_sign 279 = .ok (.getfield 28, 3) := by decide +kernel
theorem dX11_sign_282 : decode cX11_sign 282 = .ok (.aload_n 0, 1) := by decide +kernel
theorem dX11_sign_283 : decode cX11_sign 283 = .ok (.getfield 11, 3) := by decide +kernel
theorem dX11_sign_286 : decode cX11_sign 286 = .ok (.iload 4, 2) := by decide +kernel
theorem dX11_sign_288 : decode cX11_sign 288 = .ok (.aaload, 1) := by decide +kernel
theorem dX11_sign_289 : decode cX11_sign 289 = .ok (.iconst 0, 1) := by decide +kernel
theorem dX11_sign_290 : decode cX11_sign 290 = .ok (.aload_n 0, 1) := by decide +kernel
theorem dX11_sign_291 : decode cX11_sign 291 = .ok (.getfield 11, 3) := by decide +kernel
theorem dX11_sign_294 : decode cX11_sign 294 = .ok (.iload 4, 2) := by decide +kernel
theorem dX11_sign_296 : decode cX11_sign 296 = .ok (.aaload, 1) := by decide +kernel
theorem dX11_sign_297 : decode cX11_sign 297 = .ok (.getfield 113, 3) := by decide +kernel
theorem dX11_sign_300 : decode cX11_sign 300 = .ok (.invokevirtual 205, 3) := by decide +kernel
theorem dX11_sign_303 : decode cX11_sign 303 = .ok (.aload_n 0, 1) := by decide +kernel
theorem dX11_sign_304 : decode cX11_sign 304 = .ok (.aload 7, 2) := by decide +kernel
theorem dX11_sign_306 : decode cX11_sign 306 = .ok (.iload_n 2, 1) := by decide +kernel
theorem dX11_sign_307 : decode cX11_sign 307 = .ok (.iload 6, 2) := by decide +kernel
theorem dX11_sign_309 : decode cX11_sign 309 = .ok (.ifCond .eq 13, 3) := by decide +kernel
theorem dX11_sign_312 : decode cX11_sign 312 = .ok (.aload_n 0, 1) := by decide +kernel
theorem dX11_sign_313 : decode cX11_sign 313 = .ok (.getfield 11, 3) := by decide +kernel
theorem dX11_sign_316 : decode cX11_sign 316 = .ok (.iload 5, 2) := by decide +kernel
theorem dX11_sign_318 : decode cX11_sign 318 = .ok (.aaload, 1) := by decide +kernel
theorem dX11_sign_319 : decode cX11_sign 319 = .ok (.goto 7, 3) := by decide +kernel
theorem dX11_sign_322 : decode cX11_sign 322 = .ok (.aload_n 0, 1) := by decide +kernel
theorem dX11_sign_323 : decode cX11_sign 323 = .ok (.getfield 25, 3) := by decide +kernel
theorem dX11_sign_326 : decode cX11_sign 326 = .ok (.invokevirtual 367, 3) := by decide +kernel
theorem dX11_sign_329 : decode cX11_sign 329 = .ok (.ifCond .ne 6, 3) := by decide +kernel
theorem dX11_sign_332 : decode cX11_sign 332 = .ok (.bipush (-4), 2) := by decide +kernel
theorem dX11_sign_334 : decode cX11_sign 334 = .ok (.ireturn, 1) := by decide +kernel
theorem dX11_sign_335 : decode cX11_sign 335 = .ok (.aload_n 0, 1) := by decide +kernel
theorem dX11_sign_336 : decode cX11_sign 336 = .ok (.getfield 28, 3) := by decide +kernel
theorem dX11_sign_339 : decode cX11_sign 339 = .ok (.getfield 113, 3) := by decide +kernel
theorem dX11_sign_342 : decode cX11_sign 342 = .ok (.iconst 1, 1) := by decide +kernel
theorem dX11_sign_343 : decode cX11_sign 343 = .ok (.iadd, 1) := by decide +kernel
theorem dX11_sign_344 : decode cX11_sign 344 = .ok (.aload_n 0, 1) := by decide +kernel
theorem dX11_sign_345 : decode cX11_sign 345 = .ok (.getfield 31, 3) := by decide +kernel
theorem dX11_sign_348 : decode cX11_sign 348 = .ok (.getfield 113, 3) := by decide +kernel
theorem dX11_sign_351 : decode cX11_sign 351 = .ok (.invokestatic 202, 3) := by decide +kernel
theorem dX11_sign_354 : decode cX11_sign 354 = .ok (.iadd, 1) := by decide +kernel
theorem dX11_sign_355 : decode cX11_sign 355 = .ok (.sipush 8192, 3) := by decide +kernel
theorem dX11_sign_358 : decode cX11_sign 358 = .ok (.if_icmp .le 6, 3) := by decide +kernel
theorem dX11_sign_361 : decode cX11_sign 361 = .ok (.bipush (-3), 2) := by decide +kernel
theorem dX11_sign_363 : decode cX11_sign 363 = .ok (.ireturn, 1) := by decide +kernel
theorem dX11_sign_364 : decode cX11_sign 364 = .ok (.aload_n 0, 1) := by decide +kernel
theorem dX11_sign_365 : decode cX11_sign 365 = .ok (.getfield 28, 3) := by decide +kernel
theorem dX11_sign_368 : decode cX11_sign 368 = .ok (.bipush 46, 2) := by decide +kernel
theorem dX11_sign_370 : decode cX11_sign 370 = .ok (.invokevirtual 361, 3) := by decide +kernel
theorem dX11_sign_373 : decode cX11_sign 373 = .ok (.aload_n 0, 1) := by decide +kernel
theorem dX11_sign_374 : decode cX11_sign 374 = .ok (.getfield 28, 3) := by decide +kernel
theorem dX11_sign_377 : decode cX11_sign 377 = .ok (.aload_n 0, 1) := by decide +kernel
theorem dX11_sign_378 : decode cX11_sign 378 = .ok (.getfield 31, 3) := by decide +kernel
theorem dX11_sign_381 : decode cX11_sign 381 = .ok (.iconst 0, 1) := by decide +kernel
theorem dX11_sign_382 : decode cX11_sign 382 = .ok (.aload_n 0, 1) := by decide +kernel
theorem dX11_sign_383 : decode cX11_sign 383 = .ok (.getfield 31, 3) := by decide +kernel
theorem dX11_sign_386 : decode cX11_sign 386 = .ok (.getfield 113, 3) := by decide +kernel
theorem dX11_sign_389 : decode cX11_sign 389 = .ok (.invokevirtual 205, 3) := by decide +kernel
theorem dX11_sign_392 : decode cX11_sign 392 = .ok (.aload_n 0, 1) := by decide +kernel
theorem dX11_sign_393 : decode cX11_sign 393 = .ok (.aload_n 0, 1) := by decide +kernel
theorem dX11_sign_394 : decode cX11_sign 394 = .ok (.getfield 28, 3) := by decide +kernel
theorem dX11_sign_397 : decode cX11_sign 397 = .ok (.iconst 0, 1) := by decide +kernel
theorem dX11_sign_398 : decode cX11_sign 398 = .ok (.aload_n 0, 1) := by decide +kernel
theorem dX11_sign_399 : decode cX11_sign 399 = .ok (.getfield 28, 3) := by decide +kernel
theorem dX11_sign_402 : decode cX11_sign 402 = .ok (.getfield 113, 3) := by decide +kernel
theorem dX11_sign_405 : decode cX11_sign 405 = .ok (.invokevirtual 176, 3) := by decide +kernel
theorem dX11_sign_408 : decode cX11_sign 408 = .ok (.ireturn, 1) := by decide +kernel
abbrev rmX11_sign : Room := { frames := 9, cells := 0, slots := 0, locals := 219 }
set_option maxHeartbeats 4000000 in
set_option maxRecDepth 100000 in
theorem wB_X11_sign_326 {G : Nat → Nat} {F : Nat} {x : mXT} {sz : Nat} {r0 : Int32} {M0 : mM} (X : mCX G RX11 cX11_sign 9 (some .int) "sign" rmX11_sign x) (hQ : mQI x r0 M0 (sz, 0, 0)) {l0 : Nat} {s0 : Nat} {s1 : Nat} {s2 : Int32} {s3 : Nat} {M : mM} (h : B_X11_sign_326 G F l0 s0 s1 s2 s3 M = some (r0, M0)) : WW x (sz, 0, 0) M 326 [(0, .ref l0)] [.ref s3, .int s2, .ref s1, .ref s0] := by
  unfold B_X11_sign_326 at h
  obtain ⟨_, f326, h⟩ := bO_some h
  obtain ⟨v326, M326, e326, h⟩ := bP_some h
  refine ww_callVI0 326 X dX11_sign_326 mY_X11_makeSignature mL_X11_367 (rcv_spec f326) ⟨_, _, rfl⟩ (by decide) (As := [.ref s1, .int s2, .ref s3]) (rest := []) rfl rfl ⟨Nat.le_of_ble_eq_true rfl, Nat.le_of_ble_eq_true rfl⟩ (Nat.le_of_ble_eq_true rfl) (fun l D A => c_X11_makeSignature l D A e326) ?_
  refine ww_if_ne 329 335 X dX11_sign_329 (by decide) (fun q => ?_) (fun q => ?_)
  · replace h := (if_neg q).symm.trans h
    refine ww_aload_n 335 X dX11_sign_335 0 rfl rfl ?_
    obtain ⟨v336, e336, h⟩ := bO_some h
    refine ww_getR 336 X dX11_sign_336 fG_X11_28 e336 ?_
    obtain ⟨v339, e339, h⟩ := bO_some h
    refine ww_getI 339 X dX11_sign_339 fG_X11_113 e339 ?_
    refine ww_iconst 342 X (v := (1 : Int32)) dX11_sign_342 (by decide) ?_
    refine ww_iadd 343 X dX11_sign_343 ?_
    refine ww_aload_n 344 X dX11_sign_344 0 rfl rfl ?_
    obtain ⟨v345, e345, h⟩ := bO_some h
    refine ww_getR 345 X dX11_sign_345 fG_X11_31 e345 ?_
    obtain ⟨v348, e348, h⟩ := bO_some h
    refine ww_getI 348 X dX11_sign_348 fG_X11_113 e348 ?_
    obtain ⟨v351, M351, e351, h⟩ := bP_some h
    refine ww_callSI0 351 X dX11_sign_351 mY_X0_lettersFor mL_X11_202 (As := [.int v348]) (rest := [.int (v339 + (1 : Int32))]) rfl rfl ⟨Nat.le_of_ble_eq_true rfl, Nat.le_of_ble_eq_true rfl⟩ (Nat.le_of_ble_eq_true rfl) (fun l D A => c_X0_lettersFor l D A e351) ?_
    refine ww_iadd 354 X dX11_sign_354 ?_
    refine ww_sipush 355 X (v := (8192 : Int32)) dX11_sign_355 (by decide) ?_
    refine ww_icmp_le 358 364 X dX11_sign_358 (by decide) (fun q => ?_) (fun q => ?_)
    · replace h := (if_pos q).symm.trans h
      refine ww_aload_n 364 X dX11_sign_364 0 rfl rfl ?_
      obtain ⟨v365, e365, h⟩ := bO_some h
      refine ww_getR 365 X dX11_sign_365 fG_X11_28 e365 ?_
      refine ww_bipush 368 X (v := (46 : Int32)) dX11_sign_368 (by decide) ?_
      obtain ⟨_, f370, h⟩ := bO_some h
      obtain ⟨M370, e370, h⟩ := bO_some h
      refine ww_callVV0 370 X dX11_sign_370 mY_X0_put mL_X11_361 (rcv_spec f370) ⟨_, _, rfl⟩ (by decide) (As := [.int (46 : Int32)]) (rest := []) rfl rfl ⟨Nat.le_of_ble_eq_true rfl, Nat.le_of_ble_eq_true rfl⟩ (Nat.le_of_ble_eq_true rfl) (fun l D A => c_X0_put l D A e370) ?_
      refine ww_aload_n 373 X dX11_sign_373 0 rfl rfl ?_
      obtain ⟨v374, e374, h⟩ := bO_some h
      refine ww_getR 374 X dX11_sign_374 fG_X11_28 e374 ?_
      refine ww_aload_n 377 X dX11_sign_377 0 rfl rfl ?_
      obtain ⟨v378, e378, h⟩ := bO_some h
      refine ww_getR 378 X dX11_sign_378 fG_X11_31 e378 ?_
      refine ww_iconst 381 X (v := (0 : Int32)) dX11_sign_381 (by decide) ?_
      refine ww_aload_n 382 X dX11_sign_382 0 rfl rfl ?_
      obtain ⟨v383, e383, h⟩ := bO_some h
      refine ww_getR 383 X dX11_sign_383 fG_X11_31 e383 ?_
      obtain ⟨v386, e386, h⟩ := bO_some h
      refine ww_getI 386 X dX11_sign_386 fG_X11_113 e386 ?_
      obtain ⟨_, f389, h⟩ := bO_some h
      obtain ⟨M389, e389, h⟩ := bO_some h
      refine ww_callVV0 389 X dX11_sign_389 mY_X0_putLetters mL_X11_205 (rcv_spec f389) ⟨_, _, rfl⟩ (by decide) (As := [.ref v378, .int (0 : Int32), .int v386]) (rest := []) rfl rfl ⟨Nat.le_of_ble_eq_true rfl, Nat.le_of_ble_eq_true rfl⟩ (Nat.le_of_ble_eq_true rfl) (fun l D A => c_X0_putLetters l D A e389) ?_
      refine ww_aload_n 392 X dX11_sign_392 0 rfl rfl ?_
      refine ww_aload_n 393 X dX11_sign_393 0 rfl rfl ?_
      obtain ⟨v394, e394, h⟩ := bO_some h
      refine ww_getR 394 X dX11_sign_394 fG_X11_28 e394 ?_
      refine ww_iconst 397 X (v := (0 : Int32)) dX11_sign_397 (by decide) ?_
      refine ww_aload_n 398 X dX11_sign_398 0 rfl rfl ?_
      obtain ⟨v399, e399, h⟩ := bO_some h
      refine ww_getR 399 X dX11_sign_399 fG_X11_28 e399 ?_
      obtain ⟨v402, e402, h⟩ := bO_some h
      refine ww_getI 402 X dX11_sign_402 fG_X11_113 e402 ?_
      obtain ⟨_, f405, h⟩ := bO_some h
      obtain ⟨v405, M405, e405, h⟩ := bP_some h
      refine ww_callVI0 405 X dX11_sign_405 mY_X11_show mL_X11_176 (rcv_spec f405) ⟨_, _, rfl⟩ (by decide) (As := [.ref v394, .int (0 : Int32), .int v402]) (rest := []) rfl rfl ⟨Nat.le_of_ble_eq_true rfl, Nat.le_of_ble_eq_true rfl⟩ (Nat.le_of_ble_eq_true rfl) (fun l D A => c_X11_show l D A e405) ?_
      exact ww_iretE 408 X hQ dX11_sign_408 h
    · replace h := (if_neg q).symm.trans h
      refine ww_bipush 361 X (v := (-3 : Int32)) dX11_sign_361 (by decide) ?_
      exact ww_iretE 363 X hQ dX11_sign_363 h
  · replace h := (if_pos q).symm.trans h
    refine ww_bipush 332 X (v := (-4 : Int32)) dX11_sign_332 (by decide) ?_
    exact ww_iretE 334 X hQ dX11_sign_334 h
set_option maxHeartbeats 4000000 in
set_option maxRecDepth 100000 in
theorem wB_X11_sign_303 {G : Nat → Nat} {F : Nat} {x : mXT} {sz : Nat} {r0 : Int32} {M0 : mM} (X : mCX G RX11 cX11_sign 9 (some .int) "sign" rmX11_sign x) (hQ : mQI x r0 M0 (sz, 0, 0)) {l0 : Nat} {l2 : Int32} {l5 : Int32} {l6 : Int32} {l7 : Nat} {M : mM} (h : B_X11_sign_303 G F l0 l2 l5 l6 l7 M = some (r0, M0)) : WW x (sz, 0, 0) M 303 [(0, .ref l0), (2, .int l2), (5, .int l5), (6, .int l6), (7, .ref l7)] [] := by
  unfold B_X11_sign_303 at h
  refine ww_aload_n 303 X dX11_sign_303 0 rfl rfl ?_
  refine ww_aload 304 X dX11_sign_304 4 rfl ?_
  refine ww_iload_n 306 X dX11_sign_306 1 rfl rfl ?_
  refine ww_iload 307 X dX11_sign_307 3 rfl ?_
  refine ww_if_eq 309 322 X dX11_sign_309 (by decide) (fun q => ?_) (fun q => ?_)
  · replace h := (if_pos q).symm.trans h
    refine ww_aload_n 322 X dX11_sign_322 0 rfl rfl ?_
    obtain ⟨v323, e323, h⟩ := bO_some h
    refine ww_getR 323 X dX11_sign_323 fG_X11_25 e323 ?_
    exact ww_sub [0] rfl (wB_X11_sign_326 X hQ h)
  · replace h := (if_neg q).symm.trans h
    refine ww_aload_n 312 X dX11_sign_312 0 rfl rfl ?_
    obtain ⟨v313, e313, h⟩ := bO_some h
    refine ww_getR 313 X dX11_sign_313 fG_X11_11 e313 ?_
    refine ww_iload 316 X dX11_sign_316 2 rfl ?_
    obtain ⟨v318, e318, h⟩ := bO_some h
    refine ww_aald4 318 X dX11_sign_318 e318 ?_
    refine ww_goto 319 326 X dX11_sign_319 (by decide) ?_
    exact ww_sub [0] rfl (wB_X11_sign_326 X hQ h)
set_option maxHeartbeats 4000000 in
set_option maxRecDepth 100000 in
theorem wB_X11_sign_210 {G : Nat → Nat} {F : Nat} {x : mXT} {sz : Nat} {r0 : Int32} {M0 : mM} (X : mCX G RX11 cX11_sign 9 (some .int) "sign" rmX11_sign x) (hQ : mQI x r0 M0 (sz, 0, 0)) {l0 : Nat} {l2 : Int32} {l4 : Int32} {l5 : Int32} {l6 : Int32} {l7 : Nat} {M : mM} (h : B_X11_sign_210 G F l0 l2 l4 l5 l6 l7 M = some (r0, M0)) : WW x (sz, 0, 0) M 210 [(0, .ref l0), (2, .int l2), (4, .int l4), (5, .int l5), (6, .int l6), (7, .ref l7)] [] := by
  unfold B_X11_sign_210 at h
  refine ww_aload_n 210 X dX11_sign_210 0 rfl rfl ?_
  obtain ⟨v211, e211, h⟩ := bO_some h
  refine ww_getR 211 X dX11_sign_211 fG_X11_28 e211 ?_
  obtain ⟨_, f214, h⟩ := bO_some h
  obtain ⟨M214, e214, h⟩ := bO_some h
  refine ww_callVV0 214 X dX11_sign_214 mY_X0_clear mL_X11_131 (rcv_spec f214) ⟨_, _, rfl⟩ (by decide) (As := []) (rest := []) rfl rfl ⟨Nat.le_of_ble_eq_true rfl, Nat.le_of_ble_eq_true rfl⟩ (Nat.le_of_ble_eq_true rfl) (fun l D A => c_X0_clear l D A e214) ?_
  refine ww_aload_n 217 X dX11_sign_217 0 rfl rfl ?_
  obtain ⟨v218, e218, h⟩ := bO_some h
  refine ww_getR 218 X dX11_sign_218 fG_X11_28 e218 ?_
  refine ww_aload_n 221 X dX11_sign_221 0 rfl rfl ?_
  obtain ⟨v222, e222, h⟩ := bO_some h
  refine ww_getR 222 X dX11_sign_222 fG_X11_109 e222 ?_
  obtain ⟨v225, e225, h⟩ := bO_some h
  refine ww_getR 225 X dX11_sign_225 fG_X11_352 e225 ?_
  refine ww_iconst 228 X (v := (0 : Int32)) dX11_sign_228 (by decide) ?_
  refine ww_aload_n 229 X dX11_sign_229 0 rfl rfl ?_
  obtain ⟨v230, e230, h⟩ := bO_some h
  refine ww_getR 230 X dX11_sign_230 fG_X11_109 e230 ?_
  obtain ⟨v233, e233, h⟩ := bO_some h
  refine ww_getR 233 X dX11_sign_233 fG_X11_352 e233 ?_
  obtain ⟨v236, e236, h⟩ := bO_some h
  refine ww_getI 236 X dX11_sign_236 fG_X11_113 e236 ?_
  obtain ⟨_, f239, h⟩ := bO_some h
  obtain ⟨M239, e239, h⟩ := bO_some h
  refine ww_callVV0 239 X dX11_sign_239 mY_X0_putLetters mL_X11_205 (rcv_spec f239) ⟨_, _, rfl⟩ (by decide) (As := [.ref v225, .int (0 : Int32), .int v236]) (rest := []) rfl rfl ⟨Nat.le_of_ble_eq_true rfl, Nat.le_of_ble_eq_true rfl⟩ (Nat.le_of_ble_eq_true rfl) (fun l D A => c_X0_putLetters l D A e239) ?_
  refine ww_aload_n 242 X dX11_sign_242 0 rfl rfl ?_
  obtain ⟨v243, e243, h⟩ := bO_some h
  refine ww_getR 243 X dX11_sign_243 fG_X11_28 e243 ?_
  refine ww_bipush 246 X (v := (46 : Int32)) dX11_sign_246 (by decide) ?_
  obtain ⟨_, f248, h⟩ := bO_some h
  obtain ⟨M248, e248, h⟩ := bO_some h
  refine ww_callVV0 248 X dX11_sign_248 mY_X0_put mL_X11_361 (rcv_spec f248) ⟨_, _, rfl⟩ (by decide) (As := [.int (46 : Int32)]) (rest := []) rfl rfl ⟨Nat.le_of_ble_eq_true rfl, Nat.le_of_ble_eq_true rfl⟩ (Nat.le_of_ble_eq_true rfl) (fun l D A => c_X0_put l D A e248) ?_
  refine ww_aload_n 251 X dX11_sign_251 0 rfl rfl ?_
  obtain ⟨v252, e252, h⟩ := bO_some h
  refine ww_getR 252 X dX11_sign_252 fG_X11_109 e252 ?_
  obtain ⟨v255, e255, h⟩ := bO_some h
  refine ww_getI 255 X dX11_sign_255 fG_X11_355 e255 ?_
  refine ww_if_eq 258 278 X dX11_sign_258 (by decide) (fun q => ?_) (fun q => ?_)
  · replace h := (if_pos q).symm.trans h
    refine ww_aload_n 278 X dX11_sign_278 0 rfl rfl ?_
    obtain ⟨v279, e279, h⟩ := bO_some h
    refine ww_getR 279 X dX11_sign_279 fG_X11_28 e279 ?_
    refine ww_aload_n 282 X dX11_sign_282 0 rfl rfl ?_
    obtain ⟨v283, e283, h⟩ := bO_some h
    refine ww_getR 283 X dX11_sign_283 fG_X11_11 e283 ?_
    refine ww_iload 286 X dX11_sign_286 2 rfl ?_
    obtain ⟨v288, e288, h⟩ := bO_some h
    refine ww_aald4 288 X dX11_sign_288 e288 ?_
    refine ww_iconst 289 X (v := (0 : Int32)) dX11_sign_289 (by decide) ?_
    refine ww_aload_n 290 X dX11_sign_290 0 rfl rfl ?_
    obtain ⟨v291, e291, h⟩ := bO_some h
    refine ww_getR 291 X dX11_sign_291 fG_X11_11 e291 ?_
    refine ww_iload 294 X dX11_sign_294 2 rfl ?_
    obtain ⟨v296, e296, h⟩ := bO_some h
    refine ww_aald4 296 X dX11_sign_296 e296 ?_
    obtain ⟨v297, e297, h⟩ := bO_some h
    refine ww_getI 297 X dX11_sign_297 fG_X11_113 e297 ?_
    obtain ⟨_, f300, h⟩ := bO_some h
    obtain ⟨M300, e300, h⟩ := bO_some h
    refine ww_callVV0 300 X dX11_sign_300 mY_X0_putLetters mL_X11_205 (rcv_spec f300) ⟨_, _, rfl⟩ (by decide) (As := [.ref v288, .int (0 : Int32), .int v297]) (rest := []) rfl rfl ⟨Nat.le_of_ble_eq_true rfl, Nat.le_of_ble_eq_true rfl⟩ (Nat.le_of_ble_eq_true rfl) (fun l D A => c_X0_putLetters l D A e300) ?_
    exact ww_sub [0, 1, 3, 4, 5] rfl (wB_X11_sign_303 X hQ h)
  · replace h := (if_neg q).symm.trans h
    refine ww_aload_n 261 X dX11_sign_261 0 rfl rfl ?_
    obtain ⟨v262, e262, h⟩ := bO_some h
    refine ww_getR 262 X dX11_sign_262 fG_X11_28 e262 ?_
    refine ww_aload_n 265 X dX11_sign_265 0 rfl rfl ?_
    obtain ⟨v266, e266, h⟩ := bO_some h
    refine ww_getR 266 X dX11_sign_266 fG_X11_11 e266 ?_
    refine ww_iload 269 X dX11_sign_269 2 rfl ?_
    obtain ⟨v271, e271, h⟩ := bO_some h
    refine ww_aald4 271 X dX11_sign_271 e271 ?_
    obtain ⟨_, f272, h⟩ := bO_some h
    obtain ⟨M272, e272, h⟩ := bO_some h
    refine ww_callVV0 272 X dX11_sign_272 mY_X0_putAll mL_X11_364 (rcv_spec f272) ⟨_, _, rfl⟩ (by decide) (As := [.ref v271]) (rest := []) rfl rfl ⟨Nat.le_of_ble_eq_true rfl, Nat.le_of_ble_eq_true rfl⟩ (Nat.le_of_ble_eq_true rfl) (fun l D A => c_X0_putAll l D A e272) ?_
    refine ww_goto 275 303 X dX11_sign_275 (by decide) ?_
    exact ww_sub [0, 1, 3, 4, 5] rfl (wB_X11_sign_303 X hQ h)
set_option maxHeartbeats 4000000 in
set_option maxRecDepth 100000 in
theorem wB_X11_sign_182 {G : Nat → Nat} {F : Nat} {x : mXT} {sz : Nat} {r0 : Int32} {M0 : mM} (X : mCX G RX11 cX11_sign 9 (some .int) "sign" rmX11_sign x) (hQ : mQI x r0 M0 (sz, 0, 0)) {l0 : Nat} {l2 : Int32} {l4 : Int32} {l5 : Int32} {l6 : Int32} {l7 : Nat} {M : mM} (h : B_X11_sign_182 G F l0 l2 l4 l5 l6 l7 M = some (r0, M0)) : WW x (sz, 0, 0) M 182 [(0, .ref l0), (2, .int l2), (4, .int l4), (5, .int l5), (6, .int l6), (7, .ref l7)] [] := by
  unfold B_X11_sign_182 at h
  refine ww_aload_n 182 X dX11_sign_182 0 rfl rfl ?_
  obtain ⟨v183, e183, h⟩ := bO_some h
  refine ww_getR 183 X dX11_sign_183 fG_X11_109 e183 ?_
  obtain ⟨v186, e186, h⟩ := bO_some h
  refine ww_getI 186 X dX11_sign_186 fG_X11_355 e186 ?_
  refine ww_if_eq 189 210 X dX11_sign_189 (by decide) (fun q => ?_) (fun q => ?_)
  · replace h := (if_pos q).symm.trans h
    exact (wB_X11_sign_210 X hQ h)
  · replace h := (if_neg q).symm.trans h
    refine ww_aload_n 192 X dX11_sign_192 0 rfl rfl ?_
    obtain ⟨v193, e193, h⟩ := bO_some h
    refine ww_getR 193 X dX11_sign_193 fG_X11_11 e193 ?_
    refine ww_iload 196 X dX11_sign_196 2 rfl ?_
    obtain ⟨v198, e198, h⟩ := bO_some h
    refine ww_aald4 198 X dX11_sign_198 e198 ?_
    refine ww_bipush 199 X (v := (46 : Int32)) dX11_sign_199 (by decide) ?_
    obtain ⟨_, f201, h⟩ := bO_some h
    obtain ⟨v201, M201, e201, h⟩ := bP_some h
    refine ww_callVI0 201 X dX11_sign_201 mY_X0_holds mL_X11_358 (rcv_spec f201) ⟨_, _, rfl⟩ (by decide) (As := [.int (46 : Int32)]) (rest := []) rfl rfl ⟨Nat.le_of_ble_eq_true rfl, Nat.le_of_ble_eq_true rfl⟩ (Nat.le_of_ble_eq_true rfl) (fun l D A => c_X0_holds l D A e201) ?_
    refine ww_if_eq 204 210 X dX11_sign_204 (by decide) (fun q => ?_) (fun q => ?_)
    · replace h := (if_pos q).symm.trans h
      exact (wB_X11_sign_210 X hQ h)
    · replace h := (if_neg q).symm.trans h
      refine ww_bipush 207 X (v := (-5 : Int32)) dX11_sign_207 (by decide) ?_
      exact ww_iretE 209 X hQ dX11_sign_209 h
set_option maxHeartbeats 4000000 in
set_option maxRecDepth 100000 in
theorem wB_X11_sign_68 {G : Nat → Nat} {F : Nat} {x : mXT} {sz : Nat} {r0 : Int32} {M0 : mM} (X : mCX G RX11 cX11_sign 9 (some .int) "sign" rmX11_sign x) (hQ : mQI x r0 M0 (sz, 0, 0)) {l0 : Nat} {l1 : Int32} {l2 : Int32} {l3 : Int32} {l4 : Int32} {l5 : Int32} {l6 : Int32} {M : mM} (h : B_X11_sign_68 G F l0 l1 l2 l3 l4 l5 l6 M = some (r0, M0)) : WW x (sz, 0, 0) M 68 [(0, .ref l0), (1, .int l1), (2, .int l2), (3, .int l3), (4, .int l4), (5, .int l5), (6, .int l6)] [] := by
  unfold B_X11_sign_68 at h
  refine ww_aload_n 68 X dX11_sign_68 0 rfl rfl ?_
  obtain ⟨v69, e69, h⟩ := bO_some h
  refine ww_getR 69 X dX11_sign_69 fG_X11_58 e69 ?_
  refine ww_iload_n 72 X dX11_sign_72 1 rfl rfl ?_
  obtain ⟨v73, e73, h⟩ := bO_some h
  refine ww_aald5 73 X dX11_sign_73 e73 ?_
  refine ww_astore 74 X dX11_sign_74 (lv' := [(0, .ref l0), (1, .int l1), (2, .int l2), (3, .int l3), (4, .int l4), (5, .int l5), (6, .int l6), (7, .ref v73)]) (by decide) [1, 2, 3, 4, 5, 6, 7, 0] rfl ?_
  refine ww_aload 76 X dX11_sign_76 7 rfl ?_
  refine ww_iload_n 78 X dX11_sign_78 2 rfl rfl ?_
  refine ww_iconst 79 X (v := (1 : Int32)) dX11_sign_79 (by decide) ?_
  obtain ⟨_, f80, h⟩ := bO_some h
  obtain ⟨v80, M80, e80, h⟩ := bP_some h
  refine ww_callVI0 80 X dX11_sign_80 mY_X5_maySign mL_X11_340 (rcv_spec f80) ⟨_, _, rfl⟩ (by decide) (As := [.int l2, .int (1 : Int32)]) (rest := []) rfl rfl ⟨Nat.le_of_ble_eq_true rfl, Nat.le_of_ble_eq_true rfl⟩ (Nat.le_of_ble_eq_true rfl) (fun l D A => c_X5_maySign l D A e80) ?_
  refine ww_if_ne 83 89 X dX11_sign_83 (by decide) (fun q => ?_) (fun q => ?_)
  · replace h := (if_neg q).symm.trans h
    refine ww_iload_n 89 X dX11_sign_89 3 rfl rfl ?_
    refine ww_iconst 90 X (v := (-1 : Int32)) dX11_sign_90 (by decide) ?_
    refine ww_icmp_ne 91 107 X dX11_sign_91 (by decide) (fun q => ?_) (fun q => ?_)
    · replace h := (if_neg q).symm.trans h
      refine ww_aload_n 107 X dX11_sign_107 0 rfl rfl ?_
      obtain ⟨v108, e108, h⟩ := bO_some h
      refine ww_getR 108 X dX11_sign_108 fG_X11_52 e108 ?_
      refine ww_aload_n 111 X dX11_sign_111 0 rfl rfl ?_
      obtain ⟨v112, e112, h⟩ := bO_some h
      refine ww_getR 112 X dX11_sign_112 fG_X11_11 e112 ?_
      refine ww_iload_n 115 X dX11_sign_115 3 rfl rfl ?_
      obtain ⟨v116, e116, h⟩ := bO_some h
      refine ww_aald4 116 X dX11_sign_116 e116 ?_
      refine ww_aload_n 117 X dX11_sign_117 0 rfl rfl ?_
      obtain ⟨v118, e118, h⟩ := bO_some h
      refine ww_getR 118 X dX11_sign_118 fG_X11_44 e118 ?_
      obtain ⟨_, f121, h⟩ := bO_some h
      obtain ⟨v121, M121, e121, h⟩ := bP_some h
      refine ww_callVI0 121 X dX11_sign_121 mY_X7_read mL_X11_142 (rcv_spec f121) ⟨_, _, rfl⟩ (by decide) (As := [.ref v116, .ref v118]) (rest := []) rfl rfl ⟨Nat.le_of_ble_eq_true rfl, Nat.le_of_ble_eq_true rfl⟩ (Nat.le_of_ble_eq_true rfl) (fun l D A => c_X7_read l D A e121) ?_
      refine ww_iconst 124 X (v := (-1 : Int32)) dX11_sign_124 (by decide) ?_
      refine ww_icmp_eq 125 131 X dX11_sign_125 (by decide) (fun q => ?_) (fun q => ?_)
      · replace h := (if_pos q).symm.trans h
        refine ww_aload_n 131 X dX11_sign_131 0 rfl rfl ?_
        obtain ⟨v132, e132, h⟩ := bO_some h
        refine ww_getR 132 X dX11_sign_132 fG_X11_109 e132 ?_
        refine ww_aload_n 135 X dX11_sign_135 0 rfl rfl ?_
        obtain ⟨v136, e136, h⟩ := bO_some h
        refine ww_getR 136 X dX11_sign_136 fG_X11_44 e136 ?_
        obtain ⟨_, f139, h⟩ := bO_some h
        obtain ⟨v139, M139, e139, h⟩ := bP_some h
        refine ww_callVI0 139 X dX11_sign_139 mY_X10_signedHeadReason mL_X11_348 (rcv_spec f139) ⟨_, _, rfl⟩ (by decide) (As := [.ref v136]) (rest := []) rfl rfl ⟨Nat.le_of_ble_eq_true rfl, Nat.le_of_ble_eq_true rfl⟩ (Nat.le_of_ble_eq_true rfl) (fun l D A => c_X10_signedHeadReason l D A e139) ?_
        refine ww_istore 142 X dX11_sign_142 (lv' := [(0, .ref l0), (1, .int l1), (2, .int l2), (3, .int l3), (4, .int l4), (5, .int l5), (6, .int l6), (7, .ref v73), (8, .int v139)]) (by decide) [1, 2, 3, 4, 5, 6, 7, 8, 0] rfl ?_
        refine ww_iload 144 X dX11_sign_144 8 rfl ?_
        refine ww_if_eq 146 152 X dX11_sign_146 (by decide) (fun q => ?_) (fun q => ?_)
        · replace h := (if_pos q).symm.trans h
          refine ww_aload_n 152 X dX11_sign_152 0 rfl rfl ?_
          obtain ⟨v153, e153, h⟩ := bO_some h
          refine ww_getR 153 X dX11_sign_153 fG_X11_109 e153 ?_
          obtain ⟨v156, e156, h⟩ := bO_some h
          refine ww_getI 156 X dX11_sign_156 fG_X11_351 e156 ?_
          refine ww_iload_n 159 X dX11_sign_159 2 rfl rfl ?_
          refine ww_icmp_eq 160 166 X dX11_sign_160 (by decide) (fun q => ?_) (fun q => ?_)
          · replace h := (if_pos q).symm.trans h
            refine ww_aload_n 166 X dX11_sign_166 0 rfl rfl ?_
            obtain ⟨v167, e167, h⟩ := bO_some h
            refine ww_getR 167 X dX11_sign_167 fG_X11_109 e167 ?_
            obtain ⟨v170, e170, h⟩ := bO_some h
            refine ww_getR 170 X dX11_sign_170 fG_X11_352 e170 ?_
            refine ww_aload_n 173 X dX11_sign_173 0 rfl rfl ?_
            obtain ⟨v174, e174, h⟩ := bO_some h
            refine ww_getR 174 X dX11_sign_174 fG_X11_11 e174 ?_
            refine ww_iload_n 177 X dX11_sign_177 3 rfl rfl ?_
            obtain ⟨v178, e178, h⟩ := bO_some h
            refine ww_aald4 178 X dX11_sign_178 e178 ?_
            obtain ⟨_, f179, h⟩ := bO_some h
            obtain ⟨M179, e179, h⟩ := bO_some h
            refine ww_callVV0 179 X dX11_sign_179 mY_X0_become mL_X11_127 (rcv_spec f179) ⟨_, _, rfl⟩ (by decide) (As := [.ref v178]) (rest := []) rfl rfl ⟨Nat.le_of_ble_eq_true rfl, Nat.le_of_ble_eq_true rfl⟩ (Nat.le_of_ble_eq_true rfl) (fun l D A => c_X0_become l D A e179) ?_
            exact ww_sub [0, 2, 4, 5, 6, 7] rfl (wB_X11_sign_182 X hQ h)
          · replace h := (if_neg q).symm.trans h
            refine ww_bipush 163 X (v := (-27 : Int32)) dX11_sign_163 (by decide) ?_
            exact ww_iretE 165 X hQ dX11_sign_165 h
        · replace h := (if_neg q).symm.trans h
          refine ww_iload 149 X dX11_sign_149 8 rfl ?_
          exact ww_iretE 151 X hQ dX11_sign_151 h
      · replace h := (if_neg q).symm.trans h
        refine ww_bipush 128 X (v := (-22 : Int32)) dX11_sign_128 (by decide) ?_
        exact ww_iretE 130 X hQ dX11_sign_130 h
    · replace h := (if_pos q).symm.trans h
      refine ww_aload_n 94 X dX11_sign_94 0 rfl rfl ?_
      obtain ⟨v95, e95, h⟩ := bO_some h
      refine ww_getR 95 X dX11_sign_95 fG_X11_109 e95 ?_
      refine ww_iload_n 98 X dX11_sign_98 2 rfl rfl ?_
      refine ww_aload 99 X dX11_sign_99 7 rfl ?_
      obtain ⟨_, f101, h⟩ := bO_some h
      obtain ⟨M101, e101, h⟩ := bO_some h
      refine ww_callVV0 101 X dX11_sign_101 mY_X10_makeSignedHead mL_X11_344 (rcv_spec f101) ⟨_, _, rfl⟩ (by decide) (As := [.int l2, .ref v73]) (rest := []) rfl rfl ⟨Nat.le_of_ble_eq_true rfl, Nat.le_of_ble_eq_true rfl⟩ (Nat.le_of_ble_eq_true rfl) (fun l D A => c_X10_makeSignedHead l D A e101) ?_
      refine ww_goto 104 182 X dX11_sign_104 (by decide) ?_
      exact ww_sub [0, 2, 4, 5, 6, 7] rfl (wB_X11_sign_182 X hQ h)
  · replace h := (if_pos q).symm.trans h
    refine ww_bipush 86 X (v := (-26 : Int32)) dX11_sign_86 (by decide) ?_
    exact ww_iretE 88 X hQ dX11_sign_88 h
set_option maxHeartbeats 4000000 in
set_option maxRecDepth 100000 in
theorem wB_X11_sign_15 {G : Nat → Nat} {F : Nat} {x : mXT} {sz : Nat} {r0 : Int32} {M0 : mM} (X : mCX G RX11 cX11_sign 9 (some .int) "sign" rmX11_sign x) (hQ : mQI x r0 M0 (sz, 0, 0)) {l0 : Nat} {l1 : Int32} {l2 : Int32} {l3 : Int32} {l4 : Int32} {l5 : Int32} {s0 : Int32} {M : mM} (h : B_X11_sign_15 G F l0 l1 l2 l3 l4 l5 s0 M = some (r0, M0)) : WW x (sz, 0, 0) M 15 [(0, .ref l0), (1, .int l1), (2, .int l2), (3, .int l3), (4, .int l4), (5, .int l5)] [.int s0] := by
  unfold B_X11_sign_15 at h
  refine ww_istore 15 X dX11_sign_15 (lv' := [(0, .ref l0), (1, .int l1), (2, .int l2), (3, .int l3), (4, .int l4), (5, .int l5), (6, .int s0)]) (by decide) [1, 2, 3, 4, 5, 6, 0] rfl ?_
  refine ww_aload_n 17 X dX11_sign_17 0 rfl rfl ?_
  refine ww_iload_n 18 X dX11_sign_18 1 rfl rfl ?_
  obtain ⟨_, f19, h⟩ := bO_some h
  obtain ⟨v19, M19, e19, h⟩ := bP_some h
  refine ww_callVI0 19 X dX11_sign_19 mY_X11_isKey mL_X11_311 (rcv_spec f19) ⟨_, _, rfl⟩ (by decide) (As := [.int l1]) (rest := []) rfl rfl ⟨Nat.le_of_ble_eq_true rfl, Nat.le_of_ble_eq_true rfl⟩ (Nat.le_of_ble_eq_true rfl) (fun l D A => c_X11_isKey l D A e19) ?_
  refine ww_if_eq 22 65 X dX11_sign_22 (by decide) (fun q => ?_) (fun q => ?_)
  · replace h := (if_pos q).symm.trans h
    refine ww_bipush 65 X (v := (-2 : Int32)) dX11_sign_65 (by decide) ?_
    exact ww_iretE 67 X hQ dX11_sign_67 h
  · replace h := (if_neg q).symm.trans h
    refine ww_iload_n 25 X dX11_sign_25 2 rfl rfl ?_
    refine ww_if_lt 26 65 X dX11_sign_26 (by decide) (fun q => ?_) (fun q => ?_)
    · replace h := (if_pos q).symm.trans h
      refine ww_bipush 65 X (v := (-2 : Int32)) dX11_sign_65 (by decide) ?_
      exact ww_iretE 67 X hQ dX11_sign_67 h
    · replace h := (if_neg q).symm.trans h
      refine ww_iload_n 29 X dX11_sign_29 2 rfl rfl ?_
      refine ww_iconst 30 X (v := (5 : Int32)) dX11_sign_30 (by decide) ?_
      refine ww_icmp_ge 31 65 X dX11_sign_31 (by decide) (fun q => ?_) (fun q => ?_)
      · replace h := (if_pos q).symm.trans h
        refine ww_bipush 65 X (v := (-2 : Int32)) dX11_sign_65 (by decide) ?_
        exact ww_iretE 67 X hQ dX11_sign_67 h
      · replace h := (if_neg q).symm.trans h
        refine ww_aload_n 34 X dX11_sign_34 0 rfl rfl ?_
        refine ww_iload_n 35 X dX11_sign_35 3 rfl rfl ?_
        obtain ⟨_, f36, h⟩ := bO_some h
        obtain ⟨v36, M36, e36, h⟩ := bP_some h
        refine ww_callVI0 36 X dX11_sign_36 mY_X11_isRowOrNone mL_X11_337 (rcv_spec f36) ⟨_, _, rfl⟩ (by decide) (As := [.int l3]) (rest := []) rfl rfl ⟨Nat.le_of_ble_eq_true rfl, Nat.le_of_ble_eq_true rfl⟩ (Nat.le_of_ble_eq_true rfl) (fun l D A => c_X11_isRowOrNone l D A e36) ?_
        refine ww_if_eq 39 65 X dX11_sign_39 (by decide) (fun q => ?_) (fun q => ?_)
        · replace h := (if_pos q).symm.trans h
          refine ww_bipush 65 X (v := (-2 : Int32)) dX11_sign_65 (by decide) ?_
          exact ww_iretE 67 X hQ dX11_sign_67 h
        · replace h := (if_neg q).symm.trans h
          refine ww_aload_n 42 X dX11_sign_42 0 rfl rfl ?_
          refine ww_iload 43 X dX11_sign_43 4 rfl ?_
          obtain ⟨_, f45, h⟩ := bO_some h
          obtain ⟨v45, M45, e45, h⟩ := bP_some h
          refine ww_callVI0 45 X dX11_sign_45 mY_X11_isRow mL_X11_123 (rcv_spec f45) ⟨_, _, rfl⟩ (by decide) (As := [.int l4]) (rest := []) rfl rfl ⟨Nat.le_of_ble_eq_true rfl, Nat.le_of_ble_eq_true rfl⟩ (Nat.le_of_ble_eq_true rfl) (fun l D A => c_X11_isRow l D A e45) ?_
          refine ww_if_eq 48 65 X dX11_sign_48 (by decide) (fun q => ?_) (fun q => ?_)
          · replace h := (if_pos q).symm.trans h
            refine ww_bipush 65 X (v := (-2 : Int32)) dX11_sign_65 (by decide) ?_
            exact ww_iretE 67 X hQ dX11_sign_67 h
          · replace h := (if_neg q).symm.trans h
            refine ww_iload 51 X dX11_sign_51 6 rfl ?_
            refine ww_if_eq 53 68 X dX11_sign_53 (by decide) (fun q => ?_) (fun q => ?_)
            · replace h := (if_pos q).symm.trans h
              exact (wB_X11_sign_68 X hQ h)
            · replace h := (if_neg q).symm.trans h
              refine ww_aload_n 56 X dX11_sign_56 0 rfl rfl ?_
              refine ww_iload 57 X dX11_sign_57 5 rfl ?_
              obtain ⟨_, f59, h⟩ := bO_some h
              obtain ⟨v59, M59, e59, h⟩ := bP_some h
              refine ww_callVI0 59 X dX11_sign_59 mY_X11_isRow mL_X11_123 (rcv_spec f59) ⟨_, _, rfl⟩ (by decide) (As := [.int l5]) (rest := []) rfl rfl ⟨Nat.le_of_ble_eq_true rfl, Nat.le_of_ble_eq_true rfl⟩ (Nat.le_of_ble_eq_true rfl) (fun l D A => c_X11_isRow l D A e59) ?_
              refine ww_if_ne 62 68 X dX11_sign_62 (by decide) (fun q => ?_) (fun q => ?_)
              · replace h := (if_neg q).symm.trans h
                exact (wB_X11_sign_68 X hQ h)
              · replace h := (if_pos q).symm.trans h
                refine ww_bipush 65 X (v := (-2 : Int32)) dX11_sign_65 (by decide) ?_
                exact ww_iretE 67 X hQ dX11_sign_67 h
set_option maxHeartbeats 4000000 in
set_option maxRecDepth 100000 in
theorem wP_X11_sign {G : Nat → Nat} {F : Nat} {x : mXT} {sz : Nat} {r0 : Int32} {M0 : mM} (X : mCX G RX11 cX11_sign 9 (some .int) "sign" rmX11_sign x) (hQ : mQI x r0 M0 (sz, 0, 0)) {l0 : Nat} {l1 : Int32} {l2 : Int32} {l3 : Int32} {l4 : Int32} {l5 : Int32} {M : mM} (h : P_X11_sign G F l0 l1 l2 l3 l4 l5 M = some (r0, M0)) : WW x (sz, 0, 0) M 0 [(0, .ref l0), (1, .int l1), (2, .int l2), (3, .int l3), (4, .int l4), (5, .int l5)] [] := by
  unfold P_X11_sign at h
  refine ww_iload_n 0 X dX11_sign_0 2 rfl rfl ?_
  refine ww_iconst 1 X (v := (3 : Int32)) dX11_sign_1 (by decide) ?_
  refine ww_icmp_eq 2 10 X dX11_sign_2 (by decide) (fun q => ?_) (fun q => ?_)
  · replace h := (if_pos q).symm.trans h
    refine ww_iconst 10 X (v := (1 : Int32)) dX11_sign_10 (by decide) ?_
    refine ww_goto 11 15 X dX11_sign_11 (by decide) ?_
    exact (wB_X11_sign_15 X hQ h)
  · replace h := (if_neg q).symm.trans h
    refine ww_iload_n 5 X dX11_sign_5 2 rfl rfl ?_
    refine ww_iconst 6 X (v := (4 : Int32)) dX11_sign_6 (by decide) ?_
    refine ww_icmp_ne 7 14 X dX11_sign_7 (by decide) (fun q => ?_) (fun q => ?_)
    · replace h := (if_neg q).symm.trans h
      refine ww_iconst 14 X (v := (0 : Int32)) dX11_sign_14 (by decide) ?_
      exact (wB_X11_sign_15 X hQ h)
    · replace h := (if_pos q).symm.trans h
      refine ww_iconst 10 X (v := (1 : Int32)) dX11_sign_10 (by decide) ?_
      refine ww_goto 11 15 X dX11_sign_11 (by decide) ?_
      exact (wB_X11_sign_15 X hQ h)
theorem c_X11_sign {G : Nat → Nat} {F sz : Nat} {r0 : Int32} {M0 : mM} (l : Launch) (D : mD) (A : Nat → Prop) {l0 : Nat} {l1 : Int32} {l2 : Int32} {l3 : Int32} {l4 : Int32} {l5 : Int32} {M : mM} (h : P_X11_sign G F l0 l1 l2 l3 l4 l5 M = some (r0, M0)) : mMetI l D G A yX11_sign cX11_sign 9 (some .int) 9 219 0 0 [.ref l0, .int l1, .int l2, .int l3, .int l4, .int l5] M sz r0 M0 sz := mMetI_of l D G A (by decide) (Nat.le_of_ble_eq_true rfl) (fun x X hQ => wP_X11_sign X hQ h)
/-! SealedTokens.signatureIsRight(LSealedTokens$Key;)Z -/
theorem dX11_signatureIsRight_0 : decode cX11_signatureIsRight 0 = .ok (.aload_n 0, 1) := by decide +kernel
theorem dX11_signatureIsRight_1 : decode cX11_signatureIsRight 1 = .ok (.getfield 34, 3) := by decide +kernel
theorem dX11_signatureIsRight_4 : decode cX11_signatureIsRight 4 = .ok (.invokevirtual 131, 3) := by decide +kernel
theorem dX11_signatureIsRight_7 : decode cX11_signatureIsRight 7 = .ok (.aload_n 0, 1) := by decide +kernel
theorem dX11_signatureIsRight_8 : decode cX11_signatureIsRight 8 = .ok (.getfield 109, 3) := by decide +kernel
theorem dX11_signatureIsRight_11 : decode cX11_signatureIsRight 11 = .ok (.getfield 351, 3) := by decide +kernel
theorem dX11_signatureIsRight_14 : decode cX11_signatureIsRight 14 = .ok (.ifCond .eq 14, 3) := by decide +kernel
theorem dX11_signatureIsRight_17 : decode cX11_signatureIsRight 17 = .ok (.aload_n 0, 1) := by decide +kernel
theorem dX11_signatureIsRight_18 : decode cX11_signatureIsRight 18 = .ok (.getfield 109, 3) := by decide +kernel
theorem dX11_signatureIsRight_21 : decode cX11_signatureIsRight 21 = .ok (.getfield 351, 3) := by decide +kernel
theorem dX11_signatureIsRight_24 : decode cX11_signatureIsRight 24 = .ok (.iconst 1, 1) := by decide +kernel
theorem dX11_signatureIsRight_25 : decode cX11_signatureIsRight 25 = .ok (.if_icmp .ne 31, 3) := by decide +kernel
theorem dX11_signatureIsRight_28 : decode cX11_signatureIsRight 28 = .ok (.aload_n 0, 1) := by decide +kernel
theorem dX11_signatureIsRight_29 : decode cX11_signatureIsRight 29 = .ok (.aload_n 1, 1) := by decide +kernel
theorem dX11_signatureIsRight_30 : decode cX11_signatureIsRight 30 = .ok (.aload_n 0, 1) := by decide +kernel
theorem dX11_signatureIsRight_31 : decode cX11_signatureIsRight 31 = .ok (.getfield 109, 3) := by decide +kernel
theorem dX11_signatureIsRight_34 : decode cX11_signatureIsRight 34 = .ok (.getfield 351, 3) := by decide +kernel
theorem dX11_signatureIsRight_37 : decode cX11_signatureIsRight 37 = .ok (.aload_n 0, 1) := by decide +kernel
theorem dX11_signatureIsRight_38 : decode cX11_signatureIsRight 38 = .ok (.getfield 34, 3) := by decide +kernel
theorem dX11_signatureIsRight_41 : decode cX11_signatureIsRight 41 = .ok (.invokevirtual 500, 3) := by decide +kernel
theorem dX11_signatureIsRight_44 : decode cX11_signatureIsRight 44 = .ok (.aload_n 0, 1) := by decide +kernel
theorem dX11_signatureIsRight_45 : decode cX11_signatureIsRight 45 = .ok (.getfield 34, 3) := by decide +kernel
theorem dX11_signatureIsRight_48 : decode cX11_signatureIsRight 48 = .ok (.aload_n 0, 1) := by decide +kernel
theorem dX11_signatureIsRight_49 : decode cX11_signatureIsRight 49 = .ok (.getfield 31, 3) := by decide +kernel
theorem dX11_signatureIsRight_52 : decode cX11_signatureIsRight 52 = .ok (.invokevirtual 518, 3) := by decide +kernel
theorem dX11_signatureIsRight_55 : decode cX11_signatureIsRight 55 = .ok (.ireturn, 1) := by decide +kernel
theorem dX11_signatureIsRight_56 : decode cX11_signatureIsRight 56 = .ok (.aload_n 0, 1) := by decide +kernel
theorem dX11_signatureIsRight_57 : decode cX11_signatureIsRight 57 = .ok (.aload_n 0, 1) := by decide +kernel
theorem dX11_signatureIsRight_58 : decode cX11_signatureIsRight 58 = .ok (.getfield 34, 3) := by decide +kernel
theorem dX11_signatureIsRight_61 : decode cX11_signatureIsRight 61 = .ok (.invokevirtual 504, 3) := by decide +kernel
theorem dX11_signatureIsRight_64 : decode cX11_signatureIsRight 64 = .ok (.aload_n 0, 1) := by decide +kernel
theorem dX11_signatureIsRight_65 : decode cX11_signatureIsRight 65 = .ok (.getfield 109, 3) := by decide +kernel
theorem dX11_signatureIsRight_68 : decode cX11_signatureIsRight 68 = .ok (.getfield 351, 3) := by decide +kernel
theorem dX11_signatureIsRight_71 : decode cX11_signatureIsRight 71 = .ok (.lookupswitch 73 #[(2, 25), (3, 49)], 25) := by decide +kernel
theorem dX11_signatureIsRight_96 : decode cX11_signatureIsRight 96 = .ok (.aload_n 0, 1) := by decide +kernel
theorem dX11_signatureIsRight_97 : decode cX11_signatureIsRight 97 = .ok (.getfield 95, 3) := by decide +kernel
theorem dX11_signatureIsRight_100 : decode cX11_signatureIsRight 100 = .ok (.aload_n 0, 1) := by decide +kernel
theorem dX11_signatureIsRight_101 : decode cX11_signatureIsRight 101 = .ok (.getfield 34, 3) := by decide +kernel
theorem dX11_signatureIsRight_104 : decode cX11_signatureIsRight 104 = .ok (.aload_n 0, 1) := by decide +kernel
theorem dX11_signatureIsRight_105 : decode cX11_signatureIsRight 105 = .ok (.getfield 31, 3) := by decide +kernel
theorem dX11_signatureIsRight_108 : decode cX11_signatureIsRight 108 = .ok (.aload_n 1, 1) := by decide +kernel
theorem dX11_signatureIsRight_109 : decode cX11_signatureIsRight 109 = .ok (.getfield 456, 3) := by decide +kernel
theorem dX11_signatureIsRight_112 : decode cX11_signatureIsRight 112 = .ok (.aload_n 1, 1) := by decide +kernel
theorem dX11_signatureIsRight_113 : decode cX11_signatureIsRight 113 = .ok (.getfield 316, 3) := by decide +kernel
theorem dX11_signatureIsRight_116 : decode cX11_signatureIsRight 116 = .ok (.invokevirtual 521, 3) := by decide +kernel
theorem dX11_signatureIsRight_119 : decode cX11_signatureIsRight 119 = .ok (.ireturn, 1) := by decide +kernel
theorem dX11_signatureIsRight_120 : decode cX11_signatureIsRight 120 = .ok (.aload_n 0, 1) := by decide +kernel
theorem dX11_signatureIsRight_121 : decode cX11_signatureIsRight 121 = .ok (.getfield 95, 3) := by decide +kernel
theorem dX11_signatureIsRight_124 : decode cX11_signatureIsRight 124 = .ok (.aload_n 0, 1) := by decide +kernel
theorem dX11_signatureIsRight_125 : decode cX11_signatureIsRight 125 = .ok (.getfield 34, 3) := by decide +kernel
theorem dX11_signatureIsRight_128 : decode cX11_signatureIsRight 128 = .ok (.aload_n 0, 1) := by decide +kernel
theorem dX11_signatureIsRight_129 : decode cX11_signatureIsRight 129 = .ok (.getfield 31, 3) := by decide +kernel
theorem dX11_signatureIsRight_132 : decode cX11_signatureIsRight 132 = .ok (.aload_n 1, 1) := by decide +kernel
theorem dX11_signatureIsRight_133 : decode cX11_signatureIsRight 133 = .ok (.getfield 456, 3) := by decide +kernel
theorem dX11_signatureIsRight_136 : decode cX11_signatureIsRight 136 = .ok (.aload_n 1, 1) := by decide +kernel
theorem dX11_signatureIsRight_137 : decode cX11_signatureIsRight 137 = .ok (.getfield 316, 3) := by decide +kernel
theorem dX11_signatureIsRight_140 : decode cX11_signatureIsRight 140 = .ok (.invokevirtual 524, 3) := by decide +kernel
theorem dX11_signatureIsRight_143 : decode cX11_signatureIsRight 143 = .ok (.ireturn, 1) := by decide +kernel
theorem dX11_signatureIsRight_144 : decode cX11_signatureIsRight 144 = .ok (.aload_n 0, 1) := by decide +kernel
theorem dX11_signatureIsRight_145 : decode cX11_signatureIsRight 145 = .ok (.getfield 102, 3) := by decide +kernel
theorem dX11_signatureIsRight_148 : decode cX11_signatureIsRight 148 = .ok (.aload_n 0, 1) := by decide +kernel
theorem dX11_signatureIsRight_149 : decode cX11_signatureIsRight 149 = .ok (.getfield 34, 3) := by decide +kernel
theorem dX11_signatureIsRight_152 : decode cX11_signatureIsRight 152 = .ok (.aload_n 0, 1) := by decide +kernel
theorem dX11_signatureIsRight_153 : decode cX11_signatureIsRight 153 = .ok (.getfield 31, 3) := by decide +kernel
theorem dX11_signatureIsRight_156 : decode cX11_signatureIsRight 156 = .ok (.aload_n 1, 1) := by decide +kernel
theorem dX11_signatureIsRight_157 : decode cX11_signatureIsRight 157 = .ok (.getfield 316, 3) := by decide +kernel
theorem dX11_signatureIsRight_160 : decode cX11_signatureIsRight 160 = .ok (.invokevirtual 527, 3) := by decide +kernel
theorem dX11_signatureIsRight_163 : decode cX11_signatureIsRight 163 = .ok (.ireturn, 1) := by decide +kernel
abbrev rmX11_signatureIsRight : Room := { frames := 6, cells := 0, slots := 0, locals := 199 }
set_option maxHeartbeats 4000000 in
set_option maxRecDepth 100000 in
theorem wB_X11_signatureIsRight_28 {G : Nat → Nat} {F : Nat} {x : mXT} {sz : Nat} {r0 : Int32} {M0 : mM} (X : mCX G RX11 cX11_signatureIsRight 2 (some .boolean) "signatureIsRight" rmX11_signatureIsRight x) (hQ : mQI x r0 M0 (sz, 0, 0)) {l0 : Nat} {l1 : Nat} {M : mM} (h : B_X11_signatureIsRight_28 G F l0 l1 M = some (r0, M0)) : WW x (sz, 0, 0) M 28 [(0, .ref l0), (1, .ref l1)] [] := by
  unfold B_X11_signatureIsRight_28 at h
  refine ww_aload_n 28 X dX11_signatureIsRight_28 0 rfl rfl ?_
  refine ww_aload_n 29 X dX11_signatureIsRight_29 1 rfl rfl ?_
  refine ww_aload_n 30 X dX11_signatureIsRight_30 0 rfl rfl ?_
  obtain ⟨v31, e31, h⟩ := bO_some h
  refine ww_getR 31 X dX11_signatureIsRight_31 fG_X11_109 e31 ?_
  obtain ⟨v34, e34, h⟩ := bO_some h
  refine ww_getI 34 X dX11_signatureIsRight_34 fG_X11_351 e34 ?_
  refine ww_aload_n 37 X dX11_signatureIsRight_37 0 rfl rfl ?_
  obtain ⟨v38, e38, h⟩ := bO_some h
  refine ww_getR 38 X dX11_signatureIsRight_38 fG_X11_34 e38 ?_
  obtain ⟨_, f41, h⟩ := bO_some h
  obtain ⟨M41, e41, h⟩ := bO_some h
  refine ww_callVV0 41 X dX11_signatureIsRight_41 mY_X11_codeWork mL_X11_500 (rcv_spec f41) ⟨_, _, rfl⟩ (by decide) (As := [.ref l1, .int v34, .ref v38]) (rest := []) rfl rfl ⟨Nat.le_of_ble_eq_true rfl, Nat.le_of_ble_eq_true rfl⟩ (Nat.le_of_ble_eq_true rfl) (fun l D A => c_X11_codeWork l D A e41) ?_
  refine ww_aload_n 44 X dX11_signatureIsRight_44 0 rfl rfl ?_
  obtain ⟨v45, e45, h⟩ := bO_some h
  refine ww_getR 45 X dX11_signatureIsRight_45 fG_X11_34 e45 ?_
  refine ww_aload_n 48 X dX11_signatureIsRight_48 0 rfl rfl ?_
  obtain ⟨v49, e49, h⟩ := bO_some h
  refine ww_getR 49 X dX11_signatureIsRight_49 fG_X11_31 e49 ?_
  obtain ⟨_, f52, h⟩ := bO_some h
  obtain ⟨v52, M52, e52, h⟩ := bP_some h
  refine ww_callVI0 52 X dX11_signatureIsRight_52 mY_X0_same mL_X11_518 (rcv_spec f52) ⟨_, _, rfl⟩ (by decide) (As := [.ref v49]) (rest := []) rfl rfl ⟨Nat.le_of_ble_eq_true rfl, Nat.le_of_ble_eq_true rfl⟩ (Nat.le_of_ble_eq_true rfl) (fun l D A => c_X0_same l D A e52) ?_
  exact ww_zretE 55 X hQ dX11_signatureIsRight_55 h
set_option maxHeartbeats 4000000 in
set_option maxRecDepth 100000 in
theorem wP_X11_signatureIsRight {G : Nat → Nat} {F : Nat} {x : mXT} {sz : Nat} {r0 : Int32} {M0 : mM} (X : mCX G RX11 cX11_signatureIsRight 2 (some .boolean) "signatureIsRight" rmX11_signatureIsRight x) (hQ : mQI x r0 M0 (sz, 0, 0)) {l0 : Nat} {l1 : Nat} {M : mM} (h : P_X11_signatureIsRight G F l0 l1 M = some (r0, M0)) : WW x (sz, 0, 0) M 0 [(0, .ref l0), (1, .ref l1)] [] := by
  unfold P_X11_signatureIsRight at h
  refine ww_aload_n 0 X dX11_signatureIsRight_0 0 rfl rfl ?_
  obtain ⟨v1, e1, h⟩ := bO_some h
  refine ww_getR 1 X dX11_signatureIsRight_1 fG_X11_34 e1 ?_
  obtain ⟨_, f4, h⟩ := bO_some h
  obtain ⟨M4, e4, h⟩ := bO_some h
  refine ww_callVV0 4 X dX11_signatureIsRight_4 mY_X0_clear mL_X11_131 (rcv_spec f4) ⟨_, _, rfl⟩ (by decide) (As := []) (rest := []) rfl rfl ⟨Nat.le_of_ble_eq_true rfl, Nat.le_of_ble_eq_true rfl⟩ (Nat.le_of_ble_eq_true rfl) (fun l D A => c_X0_clear l D A e4) ?_
  refine ww_aload_n 7 X dX11_signatureIsRight_7 0 rfl rfl ?_
  obtain ⟨v8, e8, h⟩ := bO_some h
  refine ww_getR 8 X dX11_signatureIsRight_8 fG_X11_109 e8 ?_
  obtain ⟨v11, e11, h⟩ := bO_some h
  refine ww_getI 11 X dX11_signatureIsRight_11 fG_X11_351 e11 ?_
  refine ww_if_eq 14 28 X dX11_signatureIsRight_14 (by decide) (fun q => ?_) (fun q => ?_)
  · replace h := (if_pos q).symm.trans h
    exact (wB_X11_signatureIsRight_28 X hQ h)
  · replace h := (if_neg q).symm.trans h
    refine ww_aload_n 17 X dX11_signatureIsRight_17 0 rfl rfl ?_
    obtain ⟨v18, e18, h⟩ := bO_some h
    refine ww_getR 18 X dX11_signatureIsRight_18 fG_X11_109 e18 ?_
    obtain ⟨v21, e21, h⟩ := bO_some h
    refine ww_getI 21 X dX11_signatureIsRight_21 fG_X11_351 e21 ?_
    refine ww_iconst 24 X (v := (1 : Int32)) dX11_signatureIsRight_24 (by decide) ?_
    refine ww_icmp_ne 25 56 X dX11_signatureIsRight_25 (by decide) (fun q => ?_) (fun q => ?_)
    · replace h := (if_neg q).symm.trans h
      refine ww_aload_n 56 X dX11_signatureIsRight_56 0 rfl rfl ?_
      refine ww_aload_n 57 X dX11_signatureIsRight_57 0 rfl rfl ?_
      obtain ⟨v58, e58, h⟩ := bO_some h
      refine ww_getR 58 X dX11_signatureIsRight_58 fG_X11_34 e58 ?_
      obtain ⟨_, f61, h⟩ := bO_some h
      obtain ⟨M61, e61, h⟩ := bO_some h
      refine ww_callVV0 61 X dX11_signatureIsRight_61 mY_X11_hashWork mL_X11_504 (rcv_spec f61) ⟨_, _, rfl⟩ (by decide) (As := [.ref v58]) (rest := []) rfl rfl ⟨Nat.le_of_ble_eq_true rfl, Nat.le_of_ble_eq_true rfl⟩ (Nat.le_of_ble_eq_true rfl) (fun l D A => c_X11_hashWork l D A e61) ?_
      refine ww_aload_n 64 X dX11_signatureIsRight_64 0 rfl rfl ?_
      obtain ⟨v65, e65, h⟩ := bO_some h
      refine ww_getR 65 X dX11_signatureIsRight_65 fG_X11_109 e65 ?_
      obtain ⟨v68, e68, h⟩ := bO_some h
      refine ww_getI 68 X dX11_signatureIsRight_68 fG_X11_351 e68 ?_
      by_cases q2 : v68 = (2 : Int32)
      · replace h := (if_pos q2).symm.trans h
        refine ww_lookup 71 96 X dX11_signatureIsRight_71 (off := 25) (by decide) (by rw [q2]; decide) (by decide) ?_
        refine ww_aload_n 96 X dX11_signatureIsRight_96 0 rfl rfl ?_
        obtain ⟨v97, e97, h⟩ := bO_some h
        refine ww_getR 97 X dX11_signatureIsRight_97 fG_X11_95 e97 ?_
        refine ww_aload_n 100 X dX11_signatureIsRight_100 0 rfl rfl ?_
        obtain ⟨v101, e101, h⟩ := bO_some h
        refine ww_getR 101 X dX11_signatureIsRight_101 fG_X11_34 e101 ?_
        refine ww_aload_n 104 X dX11_signatureIsRight_104 0 rfl rfl ?_
        obtain ⟨v105, e105, h⟩ := bO_some h
        refine ww_getR 105 X dX11_signatureIsRight_105 fG_X11_31 e105 ?_
        refine ww_aload_n 108 X dX11_signatureIsRight_108 1 rfl rfl ?_
        obtain ⟨v109, e109, h⟩ := bO_some h
        refine ww_getR 109 X dX11_signatureIsRight_109 fG_X11_456 e109 ?_
        refine ww_aload_n 112 X dX11_signatureIsRight_112 1 rfl rfl ?_
        obtain ⟨v113, e113, h⟩ := bO_some h
        refine ww_getR 113 X dX11_signatureIsRight_113 fG_X11_316 e113 ?_
        obtain ⟨_, f116, h⟩ := bO_some h
        obtain ⟨v116, M116, e116, h⟩ := bP_some h
        refine ww_callVI0 116 X dX11_signatureIsRight_116 mY_X8_isPkcsRight mL_X11_521 (rcv_spec f116) ⟨_, _, rfl⟩ (by decide) (As := [.ref v101, .ref v105, .ref v109, .ref v113]) (rest := []) rfl rfl ⟨Nat.le_of_ble_eq_true rfl, Nat.le_of_ble_eq_true rfl⟩ (Nat.le_of_ble_eq_true rfl) (fun l D A => c_X8_isPkcsRight l D A e116) ?_
        exact ww_zretE 119 X hQ dX11_signatureIsRight_119 h
      · replace h := (if_neg q2).symm.trans h
        by_cases q3 : v68 = (3 : Int32)
        · replace h := (if_pos q3).symm.trans h
          refine ww_lookup 71 120 X dX11_signatureIsRight_71 (off := 49) (by decide) (by rw [q3]; decide) (by decide) ?_
          refine ww_aload_n 120 X dX11_signatureIsRight_120 0 rfl rfl ?_
          obtain ⟨v121, e121, h⟩ := bO_some h
          refine ww_getR 121 X dX11_signatureIsRight_121 fG_X11_95 e121 ?_
          refine ww_aload_n 124 X dX11_signatureIsRight_124 0 rfl rfl ?_
          obtain ⟨v125, e125, h⟩ := bO_some h
          refine ww_getR 125 X dX11_signatureIsRight_125 fG_X11_34 e125 ?_
          refine ww_aload_n 128 X dX11_signatureIsRight_128 0 rfl rfl ?_
          obtain ⟨v129, e129, h⟩ := bO_some h
          refine ww_getR 129 X dX11_signatureIsRight_129 fG_X11_31 e129 ?_
          refine ww_aload_n 132 X dX11_signatureIsRight_132 1 rfl rfl ?_
          obtain ⟨v133, e133, h⟩ := bO_some h
          refine ww_getR 133 X dX11_signatureIsRight_133 fG_X11_456 e133 ?_
          refine ww_aload_n 136 X dX11_signatureIsRight_136 1 rfl rfl ?_
          obtain ⟨v137, e137, h⟩ := bO_some h
          refine ww_getR 137 X dX11_signatureIsRight_137 fG_X11_316 e137 ?_
          obtain ⟨_, f140, h⟩ := bO_some h
          obtain ⟨v140, M140, e140, h⟩ := bP_some h
          refine ww_callVI0 140 X dX11_signatureIsRight_140 mY_X8_isPssRight mL_X11_524 (rcv_spec f140) ⟨_, _, rfl⟩ (by decide) (As := [.ref v125, .ref v129, .ref v133, .ref v137]) (rest := []) rfl rfl ⟨Nat.le_of_ble_eq_true rfl, Nat.le_of_ble_eq_true rfl⟩ (Nat.le_of_ble_eq_true rfl) (fun l D A => c_X8_isPssRight l D A e140) ?_
          exact ww_zretE 143 X hQ dX11_signatureIsRight_143 h
        · replace h := (if_neg q3).symm.trans h
          refine ww_lookup 71 144 X dX11_signatureIsRight_71 (off := 73) (by decide) (by show Op.lookupswitch.offset [(2, 25), (3, 49)] 73 _ = _; rw [lv_osw q2 (show (2 : Int32).toInt = 2 by decide), lv_osw q3 (show (3 : Int32).toInt = 3 by decide)]; rfl) (by decide) ?_
          refine ww_aload_n 144 X dX11_signatureIsRight_144 0 rfl rfl ?_
          obtain ⟨v145, e145, h⟩ := bO_some h
          refine ww_getR 145 X dX11_signatureIsRight_145 fG_X11_102 e145 ?_
          refine ww_aload_n 148 X dX11_signatureIsRight_148 0 rfl rfl ?_
          obtain ⟨v149, e149, h⟩ := bO_some h
          refine ww_getR 149 X dX11_signatureIsRight_149 fG_X11_34 e149 ?_
          refine ww_aload_n 152 X dX11_signatureIsRight_152 0 rfl rfl ?_
          obtain ⟨v153, e153, h⟩ := bO_some h
          refine ww_getR 153 X dX11_signatureIsRight_153 fG_X11_31 e153 ?_
          refine ww_aload_n 156 X dX11_signatureIsRight_156 1 rfl rfl ?_
          obtain ⟨v157, e157, h⟩ := bO_some h
          refine ww_getR 157 X dX11_signatureIsRight_157 fG_X11_316 e157 ?_
          obtain ⟨_, f160, h⟩ := bO_some h
          obtain ⟨v160, M160, e160, h⟩ := bP_some h
          refine ww_callVI0 160 X dX11_signatureIsRight_160 mY_X3_isSignatureRight mL_X11_527 (rcv_spec f160) ⟨_, _, rfl⟩ (by decide) (As := [.ref v149, .ref v153, .ref v157]) (rest := []) rfl rfl ⟨Nat.le_of_ble_eq_true rfl, Nat.le_of_ble_eq_true rfl⟩ (Nat.le_of_ble_eq_true rfl) (fun l D A => c_X3_isSignatureRight l D A e160) ?_
          exact ww_zretE 163 X hQ dX11_signatureIsRight_163 h
    · replace h := (if_pos q).symm.trans h
      exact (wB_X11_signatureIsRight_28 X hQ h)
theorem c_X11_signatureIsRight {G : Nat → Nat} {F sz : Nat} {r0 : Int32} {M0 : mM} (l : Launch) (D : mD) (A : Nat → Prop) {l0 : Nat} {l1 : Nat} {M : mM} (h : P_X11_signatureIsRight G F l0 l1 M = some (r0, M0)) : mMetI l D G A yX11_signatureIsRight cX11_signatureIsRight 2 (some .boolean) 6 199 0 0 [.ref l0, .ref l1] M sz r0 M0 sz := mMetI_of l D G A (by decide) (Nat.le_of_ble_eq_true rfl) (fun x X hQ => wP_X11_signatureIsRight X hQ h)
/-! SealedTokens.showPayload(LSealedTokens$Bytes;)V -/
theorem dX11_showPayload_0 : decode cX11_showPayload 0 = .ok (.aload_n 0, 1) := by decide +kernel
theorem dX11_showPayload_1 : decode cX11_showPayload 1 = .ok (.getfield 109, 3) := by decide +kernel
theorem dX11_showPayload_4 : decode cX11_showPayload 4 = .ok (.getfield 355, 3) := by decide +kernel
theorem dX11_showPayload_7 : decode cX11_showPayload 7 = .ok (.ifCond .eq 37, 3) := by decide +kernel
theorem dX11_showPayload_10 : decode cX11_showPayload 10 = .ok (.aload_n 0, 1) := by decide +kernel
theorem dX11_showPayload_11 : decode cX11_showPayload 11 = .ok (.aload_n 1, 1) := by decide +kernel
theorem dX11_showPayload_12 : decode cX11_showPayload 12 = .ok (.aload_n 0, 1) := by decide +kernel
theorem dX11_showPayload_13 : decode cX11_showPayload 13 = .ok (.getfield 109, 3) := by decide +kernel
theorem dX11_showPayload_16 : decode cX11_showPayload 16 = .ok (.iconst 1, 1) := by decide +kernel
theorem dX11_showPayload_17 : decode cX11_showPayload 17 = .ok (.invokevirtual 497, 3) := by decide +kernel
theorem dX11_showPayload_20 : decode cX11_showPayload 20 = .ok (.aload_n 0, 1) := by decide +kernel
theorem dX11_showPayload_21 : decode cX11_showPayload 21 = .ok (.getfield 109, 3) := by decide +kernel
theorem dX11_showPayload_24 : decode cX11_showPayload 24 = .ok (.iconst 1, 1) := by decide +kernel
theorem dX11_showPayload_25 : decode cX11_showPayload 25 = .ok (.invokevirtual 382, 3) := by decide +kernel
theorem dX11_showPayload_28 : decode cX11_showPayload 28 = .ok (.aload_n 0, 1) := by decide +kernel
theorem dX11_showPayload_29 : decode cX11_showPayload 29 = .ok (.getfield 109, 3) := by decide +kernel
theorem dX11_showPayload_32 : decode cX11_showPayload 32 = .ok (.iconst 1, 1) := by decide +kernel
theorem dX11_showPayload_33 : decode cX11_showPayload 33 = .ok (.invokevirtual 497, 3) := by decide +kernel
theorem dX11_showPayload_36 : decode cX11_showPayload 36 = .ok (.isub, 1) := by decide +kernel
theorem dX11_showPayload_37 : decode cX11_showPayload 37 = .ok (.invokevirtual 176, 3) := by decide +kernel
theorem dX11_showPayload_40 : decode cX11_showPayload 40 = .ok (.pop, 1) := by decide +kernel
theorem dX11_showPayload_41 : decode cX11_showPayload 41 = .ok (.goto 16, 3) := by decide +kernel
theorem dX11_showPayload_44 : decode cX11_showPayload 44 = .ok (.aload_n 0, 1) := by decide +kernel
theorem dX11_showPayload_45 : decode cX11_showPayload 45 = .ok (.getfield 109, 3) := by decide +kernel
theorem dX11_showPayload_48 : decode cX11_showPayload 48 = .ok (.aload_n 1, 1) := by decide +kernel
theorem dX11_showPayload_49 : decode cX11_showPayload 49 = .ok (.iconst 1, 1) := by decide +kernel
theorem dX11_showPayload_50 : decode cX11_showPayload 50 = .ok (.aload_n 0, 1) := by decide +kernel
theorem dX11_showPayload_51 : decode cX11_showPayload 51 = .ok (.getfield 22, 3) := by decide +kernel
theorem dX11_showPayload_54 : decode cX11_showPayload 54 = .ok (.invokevirtual 378, 3) := by decide +kernel
theorem dX11_showPayload_57 : decode cX11_showPayload 57 = .ok (.return_, 1) := by decide +kernel
abbrev rmX11_showPayload : Room := { frames := 3, cells := 0, slots := 0, locals := 107 }
set_option maxHeartbeats 4000000 in
set_option maxRecDepth 100000 in
theorem wP_X11_showPayload {G : Nat → Nat} {F : Nat} {x : mXT} {sz : Nat} {M0 : mM} (X : mCX G RX11 cX11_showPayload 2 none "showPayload" rmX11_showPayload x) (hQ : mQV x M0 (sz, 0, 0)) {l0 : Nat} {l1 : Nat} {M : mM} (h : P_X11_showPayload G F l0 l1 M = some M0) : WW x (sz, 0, 0) M 0 [(0, .ref l0), (1, .ref l1)] [] := by
  unfold P_X11_showPayload at h
  refine ww_aload_n 0 X dX11_showPayload_0 0 rfl rfl ?_
  obtain ⟨v1, e1, h⟩ := bO_some h
  refine ww_getR 1 X dX11_showPayload_1 fG_X11_109 e1 ?_
  obtain ⟨v4, e4, h⟩ := bO_some h
  refine ww_getI 4 X dX11_showPayload_4 fG_X11_355 e4 ?_
  refine ww_if_eq 7 44 X dX11_showPayload_7 (by decide) (fun q => ?_) (fun q => ?_)
  · replace h := (if_pos q).symm.trans h
    refine ww_aload_n 44 X dX11_showPayload_44 0 rfl rfl ?_
    obtain ⟨v45, e45, h⟩ := bO_some h
    refine ww_getR 45 X dX11_showPayload_45 fG_X11_109 e45 ?_
    refine ww_aload_n 48 X dX11_showPayload_48 1 rfl rfl ?_
    refine ww_iconst 49 X (v := (1 : Int32)) dX11_showPayload_49 (by decide) ?_
    refine ww_aload_n 50 X dX11_showPayload_50 0 rfl rfl ?_
    obtain ⟨v51, e51, h⟩ := bO_some h
    refine ww_getR 51 X dX11_showPayload_51 fG_X11_22 e51 ?_
    obtain ⟨_, f54, h⟩ := bO_some h
    obtain ⟨M54, e54, h⟩ := bO_some h
    refine ww_callVV0 54 X dX11_showPayload_54 mY_X10_readPart mL_X11_378 (rcv_spec f54) ⟨_, _, rfl⟩ (by decide) (As := [.ref l1, .int (1 : Int32), .ref v51]) (rest := []) rfl rfl ⟨Nat.le_of_ble_eq_true rfl, Nat.le_of_ble_eq_true rfl⟩ (Nat.le_of_ble_eq_true rfl) (fun l D A => c_X10_readPart l D A e54) ?_
    exact ww_vretE 57 X hQ dX11_showPayload_57 h
  · replace h := (if_neg q).symm.trans h
    refine ww_aload_n 10 X dX11_showPayload_10 0 rfl rfl ?_
    refine ww_aload_n 11 X dX11_showPayload_11 1 rfl rfl ?_
    refine ww_aload_n 12 X dX11_showPayload_12 0 rfl rfl ?_
    obtain ⟨v13, e13, h⟩ := bO_some h
    refine ww_getR 13 X dX11_showPayload_13 fG_X11_109 e13 ?_
    refine ww_iconst 16 X (v := (1 : Int32)) dX11_showPayload_16 (by decide) ?_
    obtain ⟨_, f17, h⟩ := bO_some h
    obtain ⟨v17, M17, e17, h⟩ := bP_some h
    refine ww_callVI0 17 X dX11_showPayload_17 mY_X10_partStart mL_X11_497 (rcv_spec f17) ⟨_, _, rfl⟩ (by decide) (As := [.int (1 : Int32)]) (rest := [.ref l1, .ref l0]) rfl rfl ⟨Nat.le_of_ble_eq_true rfl, Nat.le_of_ble_eq_true rfl⟩ (Nat.le_of_ble_eq_true rfl) (fun l D A => c_X10_partStart l D A e17) ?_
    refine ww_aload_n 20 X dX11_showPayload_20 0 rfl rfl ?_
    obtain ⟨v21, e21, h⟩ := bO_some h
    refine ww_getR 21 X dX11_showPayload_21 fG_X11_109 e21 ?_
    refine ww_iconst 24 X (v := (1 : Int32)) dX11_showPayload_24 (by decide) ?_
    obtain ⟨_, f25, h⟩ := bO_some h
    obtain ⟨v25, M25, e25, h⟩ := bP_some h
    refine ww_callVI0 25 X dX11_showPayload_25 mY_X10_partEnd mL_X11_382 (rcv_spec f25) ⟨_, _, rfl⟩ (by decide) (As := [.int (1 : Int32)]) (rest := [.int v17, .ref l1, .ref l0]) rfl rfl ⟨Nat.le_of_ble_eq_true rfl, Nat.le_of_ble_eq_true rfl⟩ (Nat.le_of_ble_eq_true rfl) (fun l D A => c_X10_partEnd l D A e25) ?_
    refine ww_aload_n 28 X dX11_showPayload_28 0 rfl rfl ?_
    obtain ⟨v29, e29, h⟩ := bO_some h
    refine ww_getR 29 X dX11_showPayload_29 fG_X11_109 e29 ?_
    refine ww_iconst 32 X (v := (1 : Int32)) dX11_showPayload_32 (by decide) ?_
    obtain ⟨_, f33, h⟩ := bO_some h
    obtain ⟨v33, M33, e33, h⟩ := bP_some h
    refine ww_callVI0 33 X dX11_showPayload_33 mY_X10_partStart mL_X11_497 (rcv_spec f33) ⟨_, _, rfl⟩ (by decide) (As := [.int (1 : Int32)]) (rest := [.int v25, .int v17, .ref l1, .ref l0]) rfl rfl ⟨Nat.le_of_ble_eq_true rfl, Nat.le_of_ble_eq_true rfl⟩ (Nat.le_of_ble_eq_true rfl) (fun l D A => c_X10_partStart l D A e33) ?_
    refine ww_isub 36 X dX11_showPayload_36 ?_
    obtain ⟨_, f37, h⟩ := bO_some h
    obtain ⟨v37, M37, e37, h⟩ := bP_some h
    refine ww_callVI0 37 X dX11_showPayload_37 mY_X11_show mL_X11_176 (rcv_spec f37) ⟨_, _, rfl⟩ (by decide) (As := [.ref l1, .int v17, .int (v25 - v33)]) (rest := []) rfl rfl ⟨Nat.le_of_ble_eq_true rfl, Nat.le_of_ble_eq_true rfl⟩ (Nat.le_of_ble_eq_true rfl) (fun l D A => c_X11_show l D A e37) ?_
    refine ww_pop 40 X dX11_showPayload_40 rfl ?_
    refine ww_goto 41 57 X dX11_showPayload_41 (by decide) ?_
    exact ww_vretE 57 X hQ dX11_showPayload_57 h
theorem c_X11_showPayload {G : Nat → Nat} {F sz : Nat} {M0 : mM} (l : Launch) (D : mD) (A : Nat → Prop) {l0 : Nat} {l1 : Nat} {M : mM} (h : P_X11_showPayload G F l0 l1 M = some M0) : mMetV l D G A yX11_showPayload cX11_showPayload 2 none 3 107 0 0 [.ref l0, .ref l1] M sz M0 sz := mMetV_of l D G A (by decide) (Nat.le_of_ble_eq_true rfl) (fun x X hQ => wP_X11_showPayload X hQ h)
/-! SealedTokens.verify(I)I -/
theorem dX11_verify_0 : decode cX11_verify 0 = .ok (.aload_n 0, 1) := by decide +kernel
theorem dX11_verify_1 : decode cX11_verify 1 = .ok (.iload_n 1, 1) := by decide +kernel
theorem dX11_verify_2 : decode cX11_verify 2 = .ok (.invokevirtual 123, 3) := by decide +kernel
theorem dX11_verify_5 : decode cX11_verify 5 = .ok (.ifCond .ne 6, 3) := by decide +kernel
theorem dX11_verify_8 : decode cX11_verify 8 = .ok (.bipush (-2), 2) := by decide +kernel
theorem dX11_verify_10 : decode cX11_verify 10 = .ok (.ireturn, 1) := by decide +kernel
theorem dX11_verify_11 : decode cX11_verify 11 = .ok (.aload_n 0, 1) := by decide +kernel
theorem dX11_verify_12 : decode cX11_verify 12 = .ok (.getfield 11, 3) := by decide +kernel
theorem dX11_verify_15 : decode cX11_verify 15 = .ok (.iload_n 1, 1) := by decide +kernel
theorem dX11_verify_16 : decode cX11_verify 16 = .ok (.aaload, 1) := by decide +kernel
theorem dX11_verify_17 : decode cX11_verify 17 = .ok (.astore_n 2, 1) := by decide +kernel
theorem dX11_verify_18 : decode cX11_verify 18 = .ok (.aload_n 0, 1) := by decide +kernel
theorem dX11_verify_19 : decode cX11_verify 19 = .ok (.getfield 109, 3) := by decide +kernel
theorem dX11_verify_22 : decode cX11_verify 22 = .ok (.aload_n 2, 1) := by decide +kernel
theorem dX11_verify_23 : decode cX11_verify 23 = .ok (.iconst 3, 1) := by decide +kernel
theorem dX11_verify_24 : decode cX11_verify 24 = .ok (.invokevirtual 371, 3) := by decide +kernel
theorem dX11_verify_27 : decode cX11_verify 27 = .ok (.ifCond .ne 6, 3) := by decide +kernel
theorem dX11_verify_30 : decode cX11_verify 30 = .ok (.bipush (-20), 2) := by decide +kernel
theorem dX11_verify_32 : decode cX11_verify 32 = .ok (.ireturn, 1) := by decide +kernel
theorem dX11_verify_33 : decode cX11_verify 33 = .ok (.aload_n 0, 1) := by decide +kernel
theorem dX11_verify_34 : decode cX11_verify 34 = .ok (.getfield 109, 3) := by decide +kernel
theorem dX11_verify_37 : decode cX11_verify 37 = .ok (.aload_n 2, 1) := by decide +kernel
theorem dX11_verify_38 : decode cX11_verify 38 = .ok (.iconst 0, 1) := by decide +kernel
theorem dX11_verify_39 : decode cX11_verify 39 = .ok (.invokevirtual 375, 3) := by decide +kernel
theorem dX11_verify_42 : decode cX11_verify 42 = .ok (.ifCond .eq 6, 3) := by decide +kernel
theorem dX11_verify_45 : decode cX11_verify 45 = .ok (.bipush (-21), 2) := by decide +kernel
theorem dX11_verify_47 : decode cX11_verify 47 = .ok (.ireturn, 1) := by decide +kernel
theorem dX11_verify_48 : decode cX11_verify 48 = .ok (.aload_n 0, 1) := by decide +kernel
theorem dX11_verify_49 : decode cX11_verify 49 = .ok (.getfield 109, 3) := by decide +kernel
theorem dX11_verify_52 : decode cX11_verify 52 = .ok (.aload_n 2, 1) := by decide +kernel
theorem dX11_verify_53 : decode cX11_verify 53 = .ok (.iconst 0, 1) := by decide +kernel
theorem dX11_verify_54 : decode cX11_verify 54 = .ok (.aload_n 0, 1) := by decide +kernel
theorem dX11_verify_55 : decode cX11_verify 55 = .ok (.getfield 109, 3) := by decide +kernel
theorem dX11_verify_58 : decode cX11_verify 58 = .ok (.getfield 352, 3) := by decide +kernel
theorem dX11_verify_61 : decode cX11_verify 61 = .ok (.invokevirtual 378, 3) := by decide +kernel
theorem dX11_verify_64 : decode cX11_verify 64 = .ok (.aload_n 0, 1) := by decide +kernel
theorem dX11_verify_65 : decode cX11_verify 65 = .ok (.getfield 52, 3) := by decide +kernel
theorem dX11_verify_68 : decode cX11_verify 68 = .ok (.aload_n 0, 1) := by decide +kernel
theorem dX11_verify_69 : decode cX11_verify 69 = .ok (.getfield 109, 3) := by decide +kernel
theorem dX11_verify_72 : decode cX11_verify 72 = .ok (.getfield 352, 3) := by decide +kernel
theorem dX11_verify_75 : decode cX11_verify 75 = .ok (.aload_n 0, 1) := by decide +kernel
theorem dX11_verify_76 : decode cX11_verify 76 = .ok (.getfield 44, 3) := by decide +kernel
theorem dX11_verify_79 : decode cX11_verify 79 = .ok (.invokevirtual 142, 3) := by decide +kernel
theorem dX11_verify_82 : decode cX11_verify 82 = .ok (.iconst (-1), 1) := by decide +kernel
theorem dX11_verify_83 : decode cX11_verify 83 = .ok (.if_icmp .eq 6, 3) := by decide +kernel
theorem dX11_verify_86 : decode cX11_verify 86 = .ok (.bipush (-22), 2) := by decide +kernel
theorem dX11_verify_88 : decode cX11_verify 88 = .ok (.ireturn, 1) := by decide +kernel
theorem dX11_verify_89 : decode cX11_verify 89 = .ok (.aload_n 0, 1) := by decide +kernel
theorem dX11_verify_90 : decode cX11_verify 90 = .ok (.getfield 109, 3) := by decide +kernel
theorem dX11_verify_93 : decode cX11_verify 93 = .ok (.aload_n 0, 1) := by decide +kernel
theorem dX11_verify_94 : decode cX11_verify 94 = .ok (.getfield 44, 3) := by decide +kernel
theorem dX11_verify_97 : decode cX11_verify 97 = .ok (.invokevirtual 348, 3) := by decide +kernel
theorem dX11_verify_100 : decode cX11_verify 100 = .ok (.istore_n 3, 1) := by decide +kernel
theorem dX11_verify_101 : decode cX11_verify 101 = .ok (.iload_n 3, 1) := by decide +kernel
theorem dX11_verify_102 : decode cX11_verify 102 = .ok (.ifCond .eq 5, 3) := by decide +kernel
theorem dX11_verify_105 : decode cX11_verify 105 = .ok (.iload_n 3, 1) := by decide +kernel
theorem dX11_verify_106 : decode cX11_verify 106 = .ok (.ireturn, 1) := by decide +kernel
theorem dX11_verify_107 : decode cX11_verify 107 = .ok (.aload_n 0, 1) := by decide +kernel
theorem dX11_verify_108 : decode cX11_verify 108 = .ok (.getfield 109, 3) := by decide +kernel
theorem dX11_verify_111 : decode cX11_verify 111 = .ok (.getfield 355, 3) := by decide +kernel
theorem dX11_verify_114 : decode cX11_verify 114 = .ok (.ifCond .ne 15, 3) := by decide +kernel
theorem dX11_verify_117 : decode cX11_verify 117 = .ok (.aload_n 0, 1) := by decide +kernel
theorem dX11_verify_118 : decode cX11_verify 118 = .ok (.getfield 109, 3) := by decide +kernel
theorem dX11_verify_121 : decode cX11_verify 121 = .ok (.aload_n 2, 1) := by decide +kernel
theorem dX11_verify_122 : decode cX11_verify 122 = .ok (.iconst 1, 1) := by decide +kernel
theorem dX11_verify_123 : decode cX11_verify 123 = .ok (.invokevirtual 375, 3) := by decide +kernel
theorem dX11_verify_126 : decode cX11_verify 126 = .ok (.ifCond .ne 15, 3) := by decide +kernel
theorem dX11_verify_129 : decode cX11_verify 129 = .ok (.aload_n 0, 1) := by decide +kernel
theorem dX11_verify_130 : decode cX11_verify 130 = .ok (.getfield 109, 3) := by decide +kernel
theorem dX11_verify_133 : decode cX11_verify 133 = .ok (.aload_n 2, 1) := by decide +kernel
theorem dX11_verify_134 : decode cX11_verify 134 = .ok (.iconst 2, 1) := by decide +kernel
theorem dX11_verify_135 : decode cX11_verify 135 = .ok (.invokevirtual 375, 3) := by decide +kernel
theorem dX11_verify_138 : decode cX11_verify 138 = .ok (.ifCond .eq 6, 3) := by decide +kernel
theorem dX11_verify_141 : decode cX11_verify 141 = .ok (.bipush (-21), 2) := by decide +kernel
theorem dX11_verify_143 : decode cX11_verify 143 = .ok (.ireturn, 1) := by decide +kernel
theorem dX11_verify_144 : decode cX11_verify 144 = .ok (.aload_n 0, 1) := by decide +kernel
theorem dX11_verify_145 : decode cX11_verify 145 = .ok (.getfield 28, 3) := by decide +kernel
theorem dX11_verify_148 : decode cX11_verify 148 = .ok (.invokevirtual 131, 3) := by decide +kernel
theorem dX11_verify_151 : decode cX11_verify 151 = .ok (.aload_n 0, 1) := by decide +kernel
theorem dX11_verify_152 : decode cX11_verify 152 = .ok (.getfield 28, 3) := by decide +kernel
theorem dX11_verify_155 : decode cX11_verify 155 = .ok (.aload_n 2, 1) := by decide +kernel
theorem dX11_verify_156 : decode cX11_verify 156 = .ok (.iconst 0, 1) := by decide +kernel
theorem dX11_verify_157 : decode cX11_verify 157 = .ok (.aload_n 0, 1) := by decide +kernel
theorem dX11_verify_158 : decode cX11_verify 158 = .ok (.getfield 109, 3) := by decide +kernel
theorem dX11_verify_161 : decode cX11_verify 161 = .ok (.iconst 1, 1) := by decide +kernel
theorem dX11_verify_162 : decode cX11_verify 162 = .ok (.invokevirtual 382, 3) := by decide +kernel
theorem dX11_verify_165 : decode cX11_verify 165 = .ok (.invokevirtual 385, 3) := by decide +kernel
theorem dX11_verify_168 : decode cX11_verify 168 = .ok (.aload_n 0, 1) := by decide +kernel
theorem dX11_verify_169 : decode cX11_verify 169 = .ok (.getfield 109, 3) := by decide +kernel
theorem dX11_verify_172 : decode cX11_verify 172 = .ok (.aload_n 2, 1) := by decide +kernel
theorem dX11_verify_173 : decode cX11_verify 173 = .ok (.iconst 2, 1) := by decide +kernel
theorem dX11_verify_174 : decode cX11_verify 174 = .ok (.aload_n 0, 1) := by decide +kernel
theorem dX11_verify_175 : decode cX11_verify 175 = .ok (.getfield 31, 3) := by decide +kernel
theorem dX11_verify_178 : decode cX11_verify 178 = .ok (.invokevirtual 378, 3) := by decide +kernel
theorem dX11_verify_181 : decode cX11_verify 181 = .ok (.iconst 0, 1) := by decide +kernel
theorem dX11_verify_182 : decode cX11_verify 182 = .ok (.istore 4, 2) := by decide +kernel
theorem dX11_verify_184 : decode cX11_verify 184 = .ok (.iconst 0, 1) := by decide +kernel
theorem dX11_verify_185 : decode cX11_verify 185 = .ok (.istore 5, 2) := by decide +kernel
theorem dX11_verify_187 : decode cX11_verify 187 = .ok (.iload 5, 2) := by decide +kernel
theorem dX11_verify_189 : decode cX11_verify 189 = .ok (.bipush 16, 2) := by decide +kernel
theorem dX11_verify_191 : decode cX11_verify 191 = .ok (.if_icmp .ge 89, 3) := by decide +kernel
theorem dX11_verify_194 : decode cX11_verify 194 = .ok (.aload_n 0, 1) := by decide +kernel
theorem dX11_verify_195 : decode cX11_verify 195 = .ok (.getfield 58, 3) := by decide +kernel
theorem dX11_verify_198 : decode cX11_verify 198 = .ok (.iload 5, 2) := by decide +kernel
theorem dX11_verify_200 : decode cX11_verify 200 = .ok (.aaload, 1) := by decide +kernel
theorem dX11_verify_201 : decode cX11_verify 201 = .ok (.getfield 308, 3) := by decide +kernel
theorem dX11_verify_204 : decode cX11_verify 204 = .ok (.ifCond .eq 70, 3) := by decide +kernel
theorem dX11_verify_207 : decode cX11_verify 207 = .ok (.aload_n 0, 1) := by decide +kernel
theorem dX11_verify_208 : decode cX11_verify 208 = .ok (.getfield 109, 3) := by decide +kernel
theorem dX11_verify_211 : decode cX11_verify 211 = .ok (.aload_n 0, 1) := by decide +kernel
theorem dX11_verify_212 : decode cX11_verify 212 = .ok (.getfield 44, 3) := by decide +kernel
theorem dX11_verify_215 : decode cX11_verify 215 = .ok (.aload_n 0, 1) := by decide +kernel
theorem dX11_verify_216 : decode cX11_verify 216 = .ok (.getfield 58, 3) := by decide +kernel
theorem dX11_verify_219 : decode cX11_verify 219 = .ok (.iload 5, 2) := by decide +kernel
theorem dX11_verify_221 : decode cX11_verify 221 = .ok (.aaload, 1) := by decide +kernel
theorem dX11_verify_222 : decode cX11_verify 222 = .ok (.invokevirtual 388, 3) := by decide +kernel
theorem dX11_verify_225 : decode cX11_verify 225 = .ok (.ifCond .eq 49, 3) := by decide +kernel
theorem dX11_verify_228 : decode cX11_verify 228 = .ok (.aload_n 0, 1) := by decide +kernel
theorem dX11_verify_229 : decode cX11_verify 229 = .ok (.getfield 58, 3) := by decide +kernel
theorem dX11_verify_232 : decode cX11_verify 232 = .ok (.iload 5, 2) := by decide +kernel
theorem dX11_verify_234 : decode cX11_verify 234 = .ok (.aaload, 1) := by decide +kernel
theorem dX11_verify_235 : decode cX11_verify 235 = .ok (.aload_n 0, 1) := by decide +kernel
theorem dX11_verify_236 : decode cX11_verify 236 = .ok (.getfield 109, 3) := by decide +kernel
theorem dX11_verify_239 : decode cX11_verify 239 = .ok (.getfield 351, 3) := by decide +kernel
theorem dX11_verify_242 : decode cX11_verify 242 = .ok (.iconst 0, 1) := by decide +kernel
theorem dX11_verify_243 : decode cX11_verify 243 = .ok (.invokevirtual 340, 3) := by decide +kernel
theorem dX11_verify_246 : decode cX11_verify 246 = .ok (.ifCond .eq 28, 3) := by decide +kernel
theorem dX11_verify_249 : decode cX11_verify 249 = .ok (.iconst 1, 1) := by decide +kernel
theorem dX11_verify_250 : decode cX11_verify 250 = .ok (.istore 4, 2) := by decide +kernel
theorem dX11_verify_252 : decode cX11_verify 252 = .ok (.aload_n 0, 1) := by decide +kernel
theorem dX11_verify_253 : decode cX11_verify 253 = .ok (.aload_n 0, 1) := by decide +kernel
theorem dX11_verify_254 : decode cX11_verify 254 = .ok (.getfield 58, 3) := by decide +kernel
theorem dX11_verify_257 : decode cX11_verify 257 = .ok (.iload 5, 2) := by decide +kernel
theorem dX11_verify_259 : decode cX11_verify 259 = .ok (.aaload, 1) := by decide +kernel
theorem dX11_verify_260 : decode cX11_verify 260 = .ok (.invokevirtual 392, 3) := by decide +kernel
theorem dX11_verify_263 : decode cX11_verify 263 = .ok (.ifCond .eq 11, 3) := by decide +kernel
theorem dX11_verify_266 : decode cX11_verify 266 = .ok (.aload_n 0, 1) := by decide +kernel
theorem dX11_verify_267 : decode cX11_verify 267 = .ok (.aload_n 2, 1) := by decide +kernel
theorem dX11_verify_268 : decode cX11_verify 268 = .ok (.invokevirtual 395, 3) := by decide +kernel
theorem dX11_verify_271 : decode cX11_verify 271 = .ok (.iload 5, 2) := by decide +kernel
theorem dX11_verify_273 : decode cX11_verify 273 = .ok (.ireturn, 1) := by decide +kernel
theorem dX11_verify_274 : decode cX11_verify 274 = .ok (.iinc 5 1, 3) := by decide +kernel
theorem dX11_verify_277 : decode cX11_verify 277 = .ok (.goto (-90), 3) := by decide +kernel
theorem dX11_verify_280 : decode cX11_verify 280 = .ok (.iload 4, 2) := by decide +kernel
theorem dX11_verify_282 : decode cX11_verify 282 = .ok (.ifCond .eq 8, 3) := by decide +kernel
theorem dX11_verify_285 : decode cX11_verify 285 = .ok (.bipush (-27), 2) := by decide +kernel
theorem dX11_verify_287 : decode cX11_verify 287 = .ok (.goto 5, 3) := by decide +kernel
theorem dX11_verify_290 : decode cX11_verify 290 = .ok (.bipush (-26), 2) := by decide +kernel
theorem dX11_verify_292 : decode cX11_verify 292 = .ok (.ireturn, 1) := by decide +kernel
abbrev rmX11_verify : Room := { frames := 9, cells := 0, slots := 0, locals := 220 }
set_option maxHeartbeats 4000000 in
set_option maxRecDepth 100000 in
theorem wB_X11_verify_187 {G : Nat → Nat} {F : Nat} {x : mXT} {sz : Nat} {r0 : Int32} {M0 : mM} (X : mCX G RX11 cX11_verify 6 (some .int) "verify" rmX11_verify x) (hQ : mQI x r0 M0 (sz, 0, 0)) : ∀ (n : Nat) (l0 : Nat) (l2 : Nat) (l4 : Int32) (l5 : Int32) (M : mM), B_X11_verify_187 G F n l0 l2 l4 l5 M = some (r0, M0) → WW x (sz, 0, 0) M 187 [(0, .ref l0), (2, .ref l2), (4, .int l4), (5, .int l5)] [] := by
  intro n
  induction n with
  | zero =>
    intro l0 l2 l4 l5 M h
    exact nomatch (show (none : Option (Int32 × mM)) = some (r0, M0) from h)
  | succ n ih =>
    intro l0 l2 l4 l5 M h
    rw [B_X11_verify_187] at h
    refine ww_iload 187 X dX11_verify_187 3 rfl ?_
    refine ww_bipush 189 X (v := (16 : Int32)) dX11_verify_189 (by decide) ?_
    refine ww_icmp_ge 191 280 X dX11_verify_191 (by decide) (fun q => ?_) (fun q => ?_)
    · replace h := (if_pos q).symm.trans h
      refine ww_iload 280 X dX11_verify_280 2 rfl ?_
      refine ww_if_eq 282 290 X dX11_verify_282 (by decide) (fun q => ?_) (fun q => ?_)
      · replace h := (if_pos q).symm.trans h
        refine ww_bipush 290 X (v := (-26 : Int32)) dX11_verify_290 (by decide) ?_
        exact ww_iretE 292 X hQ dX11_verify_292 h
      · replace h := (if_neg q).symm.trans h
        refine ww_bipush 285 X (v := (-27 : Int32)) dX11_verify_285 (by decide) ?_
        refine ww_goto 287 292 X dX11_verify_287 (by decide) ?_
        exact ww_iretE 292 X hQ dX11_verify_292 h
    · replace h := (if_neg q).symm.trans h
      refine ww_aload_n 194 X dX11_verify_194 0 rfl rfl ?_
      obtain ⟨v195, e195, h⟩ := bO_some h
      refine ww_getR 195 X dX11_verify_195 fG_X11_58 e195 ?_
      refine ww_iload 198 X dX11_verify_198 3 rfl ?_
      obtain ⟨v200, e200, h⟩ := bO_some h
      refine ww_aald5 200 X dX11_verify_200 e200 ?_
      obtain ⟨v201, e201, h⟩ := bO_some h
      refine ww_getI 201 X dX11_verify_201 fG_X11_308 e201 ?_
      refine ww_if_eq 204 274 X dX11_verify_204 (by decide) (fun q => ?_) (fun q => ?_)
      · replace h := (if_pos q).symm.trans h
        refine ww_iinc 274 X dX11_verify_274 (lv' := [(0, .ref l0), (2, .ref l2), (4, .int l4), (5, .int (l5 + 1))]) 3 rfl rfl (by decide) [1, 2, 3, 0] rfl ?_
        refine ww_goto 277 187 X dX11_verify_277 (by decide) ?_
        exact (ih _ _ _ _ _ h)
      · replace h := (if_neg q).symm.trans h
        refine ww_aload_n 207 X dX11_verify_207 0 rfl rfl ?_
        obtain ⟨v208, e208, h⟩ := bO_some h
        refine ww_getR 208 X dX11_verify_208 fG_X11_109 e208 ?_
        refine ww_aload_n 211 X dX11_verify_211 0 rfl rfl ?_
        obtain ⟨v212, e212, h⟩ := bO_some h
        refine ww_getR 212 X dX11_verify_212 fG_X11_44 e212 ?_
        refine ww_aload_n 215 X dX11_verify_215 0 rfl rfl ?_
        obtain ⟨v216, e216, h⟩ := bO_some h
        refine ww_getR 216 X dX11_verify_216 fG_X11_58 e216 ?_
        refine ww_iload 219 X dX11_verify_219 3 rfl ?_
        obtain ⟨v221, e221, h⟩ := bO_some h
        refine ww_aald5 221 X dX11_verify_221 e221 ?_
        obtain ⟨_, f222, h⟩ := bO_some h
        obtain ⟨v222, M222, e222, h⟩ := bP_some h
        refine ww_callVI0 222 X dX11_verify_222 mY_X10_kidSuits mL_X11_388 (rcv_spec f222) ⟨_, _, rfl⟩ (by decide) (As := [.ref v212, .ref v221]) (rest := []) rfl rfl ⟨Nat.le_of_ble_eq_true rfl, Nat.le_of_ble_eq_true rfl⟩ (Nat.le_of_ble_eq_true rfl) (fun l D A => c_X10_kidSuits l D A e222) ?_
        refine ww_if_eq 225 274 X dX11_verify_225 (by decide) (fun q => ?_) (fun q => ?_)
        · replace h := (if_pos q).symm.trans h
          refine ww_iinc 274 X dX11_verify_274 (lv' := [(0, .ref l0), (2, .ref l2), (4, .int l4), (5, .int (l5 + 1))]) 3 rfl rfl (by decide) [1, 2, 3, 0] rfl ?_
          refine ww_goto 277 187 X dX11_verify_277 (by decide) ?_
          exact (ih _ _ _ _ _ h)
        · replace h := (if_neg q).symm.trans h
          refine ww_aload_n 228 X dX11_verify_228 0 rfl rfl ?_
          obtain ⟨v229, e229, h⟩ := bO_some h
          refine ww_getR 229 X dX11_verify_229 fG_X11_58 e229 ?_
          refine ww_iload 232 X dX11_verify_232 3 rfl ?_
          obtain ⟨v234, e234, h⟩ := bO_some h
          refine ww_aald5 234 X dX11_verify_234 e234 ?_
          refine ww_aload_n 235 X dX11_verify_235 0 rfl rfl ?_
          obtain ⟨v236, e236, h⟩ := bO_some h
          refine ww_getR 236 X dX11_verify_236 fG_X11_109 e236 ?_
          obtain ⟨v239, e239, h⟩ := bO_some h
          refine ww_getI 239 X dX11_verify_239 fG_X11_351 e239 ?_
          refine ww_iconst 242 X (v := (0 : Int32)) dX11_verify_242 (by decide) ?_
          obtain ⟨_, f243, h⟩ := bO_some h
          obtain ⟨v243, M243, e243, h⟩ := bP_some h
          refine ww_callVI0 243 X dX11_verify_243 mY_X5_maySign mL_X11_340 (rcv_spec f243) ⟨_, _, rfl⟩ (by decide) (As := [.int v239, .int (0 : Int32)]) (rest := []) rfl rfl ⟨Nat.le_of_ble_eq_true rfl, Nat.le_of_ble_eq_true rfl⟩ (Nat.le_of_ble_eq_true rfl) (fun l D A => c_X5_maySign l D A e243) ?_
          refine ww_if_eq 246 274 X dX11_verify_246 (by decide) (fun q => ?_) (fun q => ?_)
          · replace h := (if_pos q).symm.trans h
            refine ww_iinc 274 X dX11_verify_274 (lv' := [(0, .ref l0), (2, .ref l2), (4, .int l4), (5, .int (l5 + 1))]) 3 rfl rfl (by decide) [1, 2, 3, 0] rfl ?_
            refine ww_goto 277 187 X dX11_verify_277 (by decide) ?_
            exact (ih _ _ _ _ _ h)
          · replace h := (if_neg q).symm.trans h
            refine ww_iconst 249 X (v := (1 : Int32)) dX11_verify_249 (by decide) ?_
            refine ww_istore 250 X dX11_verify_250 (lv' := [(0, .ref l0), (2, .ref l2), (4, .int (1 : Int32)), (5, .int l5)]) (by decide) [1, 2, 0, 3] rfl ?_
            refine ww_aload_n 252 X dX11_verify_252 0 rfl rfl ?_
            refine ww_aload_n 253 X dX11_verify_253 0 rfl rfl ?_
            obtain ⟨v254, e254, h⟩ := bO_some h
            refine ww_getR 254 X dX11_verify_254 fG_X11_58 e254 ?_
            refine ww_iload 257 X dX11_verify_257 3 rfl ?_
            obtain ⟨v259, e259, h⟩ := bO_some h
            refine ww_aald5 259 X dX11_verify_259 e259 ?_
            obtain ⟨_, f260, h⟩ := bO_some h
            obtain ⟨v260, M260, e260, h⟩ := bP_some h
            refine ww_callVI0 260 X dX11_verify_260 mY_X11_signatureIsRight mL_X11_392 (rcv_spec f260) ⟨_, _, rfl⟩ (by decide) (As := [.ref v259]) (rest := []) rfl rfl ⟨Nat.le_of_ble_eq_true rfl, Nat.le_of_ble_eq_true rfl⟩ (Nat.le_of_ble_eq_true rfl) (fun l D A => c_X11_signatureIsRight l D A e260) ?_
            refine ww_if_eq 263 274 X dX11_verify_263 (by decide) (fun q => ?_) (fun q => ?_)
            · replace h := (if_pos q).symm.trans h
              refine ww_iinc 274 X dX11_verify_274 (lv' := [(0, .ref l0), (2, .ref l2), (4, .int (1 : Int32)), (5, .int (l5 + 1))]) 3 rfl rfl (by decide) [1, 2, 3, 0] rfl ?_
              refine ww_goto 277 187 X dX11_verify_277 (by decide) ?_
              exact (ih _ _ _ _ _ h)
            · replace h := (if_neg q).symm.trans h
              refine ww_aload_n 266 X dX11_verify_266 0 rfl rfl ?_
              refine ww_aload_n 267 X dX11_verify_267 1 rfl rfl ?_
              obtain ⟨_, f268, h⟩ := bO_some h
              obtain ⟨M268, e268, h⟩ := bO_some h
              refine ww_callVV0 268 X dX11_verify_268 mY_X11_showPayload mL_X11_395 (rcv_spec f268) ⟨_, _, rfl⟩ (by decide) (As := [.ref l2]) (rest := []) rfl rfl ⟨Nat.le_of_ble_eq_true rfl, Nat.le_of_ble_eq_true rfl⟩ (Nat.le_of_ble_eq_true rfl) (fun l D A => c_X11_showPayload l D A e268) ?_
              refine ww_iload 271 X dX11_verify_271 3 rfl ?_
              exact ww_iretE 273 X hQ dX11_verify_273 h
set_option maxHeartbeats 4000000 in
set_option maxRecDepth 100000 in
theorem wB_X11_verify_129 {G : Nat → Nat} {F : Nat} {x : mXT} {sz : Nat} {r0 : Int32} {M0 : mM} (X : mCX G RX11 cX11_verify 6 (some .int) "verify" rmX11_verify x) (hQ : mQI x r0 M0 (sz, 0, 0)) {l0 : Nat} {l2 : Nat} {M : mM} (h : B_X11_verify_129 G F l0 l2 M = some (r0, M0)) : WW x (sz, 0, 0) M 129 [(0, .ref l0), (2, .ref l2)] [] := by
  unfold B_X11_verify_129 at h
  refine ww_aload_n 129 X dX11_verify_129 0 rfl rfl ?_
  obtain ⟨v130, e130, h⟩ := bO_some h
  refine ww_getR 130 X dX11_verify_130 fG_X11_109 e130 ?_
  refine ww_aload_n 133 X dX11_verify_133 1 rfl rfl ?_
  refine ww_iconst 134 X (v := (2 : Int32)) dX11_verify_134 (by decide) ?_
  obtain ⟨_, f135, h⟩ := bO_some h
  obtain ⟨v135, M135, e135, h⟩ := bP_some h
  refine ww_callVI0 135 X dX11_verify_135 mY_X10_isFaulty mL_X11_375 (rcv_spec f135) ⟨_, _, rfl⟩ (by decide) (As := [.ref l2, .int (2 : Int32)]) (rest := []) rfl rfl ⟨Nat.le_of_ble_eq_true rfl, Nat.le_of_ble_eq_true rfl⟩ (Nat.le_of_ble_eq_true rfl) (fun l D A => c_X10_isFaulty l D A e135) ?_
  refine ww_if_eq 138 144 X dX11_verify_138 (by decide) (fun q => ?_) (fun q => ?_)
  · replace h := (if_pos q).symm.trans h
    refine ww_aload_n 144 X dX11_verify_144 0 rfl rfl ?_
    obtain ⟨v145, e145, h⟩ := bO_some h
    refine ww_getR 145 X dX11_verify_145 fG_X11_28 e145 ?_
    obtain ⟨_, f148, h⟩ := bO_some h
    obtain ⟨M148, e148, h⟩ := bO_some h
    refine ww_callVV0 148 X dX11_verify_148 mY_X0_clear mL_X11_131 (rcv_spec f148) ⟨_, _, rfl⟩ (by decide) (As := []) (rest := []) rfl rfl ⟨Nat.le_of_ble_eq_true rfl, Nat.le_of_ble_eq_true rfl⟩ (Nat.le_of_ble_eq_true rfl) (fun l D A => c_X0_clear l D A e148) ?_
    refine ww_aload_n 151 X dX11_verify_151 0 rfl rfl ?_
    obtain ⟨v152, e152, h⟩ := bO_some h
    refine ww_getR 152 X dX11_verify_152 fG_X11_28 e152 ?_
    refine ww_aload_n 155 X dX11_verify_155 1 rfl rfl ?_
    refine ww_iconst 156 X (v := (0 : Int32)) dX11_verify_156 (by decide) ?_
    refine ww_aload_n 157 X dX11_verify_157 0 rfl rfl ?_
    obtain ⟨v158, e158, h⟩ := bO_some h
    refine ww_getR 158 X dX11_verify_158 fG_X11_109 e158 ?_
    refine ww_iconst 161 X (v := (1 : Int32)) dX11_verify_161 (by decide) ?_
    obtain ⟨_, f162, h⟩ := bO_some h
    obtain ⟨v162, M162, e162, h⟩ := bP_some h
    refine ww_callVI0 162 X dX11_verify_162 mY_X10_partEnd mL_X11_382 (rcv_spec f162) ⟨_, _, rfl⟩ (by decide) (As := [.int (1 : Int32)]) (rest := [.int (0 : Int32), .ref l2, .ref v152]) rfl rfl ⟨Nat.le_of_ble_eq_true rfl, Nat.le_of_ble_eq_true rfl⟩ (Nat.le_of_ble_eq_true rfl) (fun l D A => c_X10_partEnd l D A e162) ?_
    obtain ⟨_, f165, h⟩ := bO_some h
    obtain ⟨M165, e165, h⟩ := bO_some h
    refine ww_callVV0 165 X dX11_verify_165 mY_X0_putPart mL_X11_385 (rcv_spec f165) ⟨_, _, rfl⟩ (by decide) (As := [.ref l2, .int (0 : Int32), .int v162]) (rest := []) rfl rfl ⟨Nat.le_of_ble_eq_true rfl, Nat.le_of_ble_eq_true rfl⟩ (Nat.le_of_ble_eq_true rfl) (fun l D A => c_X0_putPart l D A e165) ?_
    refine ww_aload_n 168 X dX11_verify_168 0 rfl rfl ?_
    obtain ⟨v169, e169, h⟩ := bO_some h
    refine ww_getR 169 X dX11_verify_169 fG_X11_109 e169 ?_
    refine ww_aload_n 172 X dX11_verify_172 1 rfl rfl ?_
    refine ww_iconst 173 X (v := (2 : Int32)) dX11_verify_173 (by decide) ?_
    refine ww_aload_n 174 X dX11_verify_174 0 rfl rfl ?_
    obtain ⟨v175, e175, h⟩ := bO_some h
    refine ww_getR 175 X dX11_verify_175 fG_X11_31 e175 ?_
    obtain ⟨_, f178, h⟩ := bO_some h
    obtain ⟨M178, e178, h⟩ := bO_some h
    refine ww_callVV0 178 X dX11_verify_178 mY_X10_readPart mL_X11_378 (rcv_spec f178) ⟨_, _, rfl⟩ (by decide) (As := [.ref l2, .int (2 : Int32), .ref v175]) (rest := []) rfl rfl ⟨Nat.le_of_ble_eq_true rfl, Nat.le_of_ble_eq_true rfl⟩ (Nat.le_of_ble_eq_true rfl) (fun l D A => c_X10_readPart l D A e178) ?_
    refine ww_iconst 181 X (v := (0 : Int32)) dX11_verify_181 (by decide) ?_
    refine ww_istore 182 X dX11_verify_182 (lv' := [(0, .ref l0), (2, .ref l2), (4, .int (0 : Int32))]) (by decide) [1, 2, 0] rfl ?_
    refine ww_iconst 184 X (v := (0 : Int32)) dX11_verify_184 (by decide) ?_
    refine ww_istore 185 X dX11_verify_185 (lv' := [(0, .ref l0), (2, .ref l2), (4, .int (0 : Int32)), (5, .int (0 : Int32))]) (by decide) [1, 2, 3, 0] rfl ?_
    exact (wB_X11_verify_187 X hQ F _ _ _ _ _ h)
  · replace h := (if_neg q).symm.trans h
    refine ww_bipush 141 X (v := (-21 : Int32)) dX11_verify_141 (by decide) ?_
    exact ww_iretE 143 X hQ dX11_verify_143 h
set_option maxHeartbeats 4000000 in
set_option maxRecDepth 100000 in
theorem wP_X11_verify {G : Nat → Nat} {F : Nat} {x : mXT} {sz : Nat} {r0 : Int32} {M0 : mM} (X : mCX G RX11 cX11_verify 6 (some .int) "verify" rmX11_verify x) (hQ : mQI x r0 M0 (sz, 0, 0)) {l0 : Nat} {l1 : Int32} {M : mM} (h : P_X11_verify G F l0 l1 M = some (r0, M0)) : WW x (sz, 0, 0) M 0 [(0, .ref l0), (1, .int l1)] [] := by
  unfold P_X11_verify at h
  refine ww_aload_n 0 X dX11_verify_0 0 rfl rfl ?_
  refine ww_iload_n 1 X dX11_verify_1 1 rfl rfl ?_
  obtain ⟨_, f2, h⟩ := bO_some h
  obtain ⟨v2, M2, e2, h⟩ := bP_some h
  refine ww_callVI0 2 X dX11_verify_2 mY_X11_isRow mL_X11_123 (rcv_spec f2) ⟨_, _, rfl⟩ (by decide) (As := [.int l1]) (rest := []) rfl rfl ⟨Nat.le_of_ble_eq_true rfl, Nat.le_of_ble_eq_true rfl⟩ (Nat.le_of_ble_eq_true rfl) (fun l D A => c_X11_isRow l D A e2) ?_
  refine ww_if_ne 5 11 X dX11_verify_5 (by decide) (fun q => ?_) (fun q => ?_)
  · replace h := (if_neg q).symm.trans h
    refine ww_aload_n 11 X dX11_verify_11 0 rfl rfl ?_
    obtain ⟨v12, e12, h⟩ := bO_some h
    refine ww_getR 12 X dX11_verify_12 fG_X11_11 e12 ?_
    refine ww_iload_n 15 X dX11_verify_15 1 rfl rfl ?_
    obtain ⟨v16, e16, h⟩ := bO_some h
    refine ww_aald4 16 X dX11_verify_16 e16 ?_
    refine ww_astore_n 17 X dX11_verify_17 (lv' := [(0, .ref l0), (1, .int l1), (2, .ref v16)]) rfl (by decide) [1, 2, 0] rfl ?_
    refine ww_aload_n 18 X dX11_verify_18 0 rfl rfl ?_
    obtain ⟨v19, e19, h⟩ := bO_some h
    refine ww_getR 19 X dX11_verify_19 fG_X11_109 e19 ?_
    refine ww_aload_n 22 X dX11_verify_22 2 rfl rfl ?_
    refine ww_iconst 23 X (v := (3 : Int32)) dX11_verify_23 (by decide) ?_
    obtain ⟨_, f24, h⟩ := bO_some h
    obtain ⟨v24, M24, e24, h⟩ := bP_some h
    refine ww_callVI0 24 X dX11_verify_24 mY_X10_split mL_X11_371 (rcv_spec f24) ⟨_, _, rfl⟩ (by decide) (As := [.ref v16, .int (3 : Int32)]) (rest := []) rfl rfl ⟨Nat.le_of_ble_eq_true rfl, Nat.le_of_ble_eq_true rfl⟩ (Nat.le_of_ble_eq_true rfl) (fun l D A => c_X10_split l D A e24) ?_
    refine ww_if_ne 27 33 X dX11_verify_27 (by decide) (fun q => ?_) (fun q => ?_)
    · replace h := (if_neg q).symm.trans h
      refine ww_aload_n 33 X dX11_verify_33 0 rfl rfl ?_
      obtain ⟨v34, e34, h⟩ := bO_some h
      refine ww_getR 34 X dX11_verify_34 fG_X11_109 e34 ?_
      refine ww_aload_n 37 X dX11_verify_37 2 rfl rfl ?_
      refine ww_iconst 38 X (v := (0 : Int32)) dX11_verify_38 (by decide) ?_
      obtain ⟨_, f39, h⟩ := bO_some h
      obtain ⟨v39, M39, e39, h⟩ := bP_some h
      refine ww_callVI0 39 X dX11_verify_39 mY_X10_isFaulty mL_X11_375 (rcv_spec f39) ⟨_, _, rfl⟩ (by decide) (As := [.ref v16, .int (0 : Int32)]) (rest := []) rfl rfl ⟨Nat.le_of_ble_eq_true rfl, Nat.le_of_ble_eq_true rfl⟩ (Nat.le_of_ble_eq_true rfl) (fun l D A => c_X10_isFaulty l D A e39) ?_
      refine ww_if_eq 42 48 X dX11_verify_42 (by decide) (fun q => ?_) (fun q => ?_)
      · replace h := (if_pos q).symm.trans h
        refine ww_aload_n 48 X dX11_verify_48 0 rfl rfl ?_
        obtain ⟨v49, e49, h⟩ := bO_some h
        refine ww_getR 49 X dX11_verify_49 fG_X11_109 e49 ?_
        refine ww_aload_n 52 X dX11_verify_52 2 rfl rfl ?_
        refine ww_iconst 53 X (v := (0 : Int32)) dX11_verify_53 (by decide) ?_
        refine ww_aload_n 54 X dX11_verify_54 0 rfl rfl ?_
        obtain ⟨v55, e55, h⟩ := bO_some h
        refine ww_getR 55 X dX11_verify_55 fG_X11_109 e55 ?_
        obtain ⟨v58, e58, h⟩ := bO_some h
        refine ww_getR 58 X dX11_verify_58 fG_X11_352 e58 ?_
        obtain ⟨_, f61, h⟩ := bO_some h
        obtain ⟨M61, e61, h⟩ := bO_some h
        refine ww_callVV0 61 X dX11_verify_61 mY_X10_readPart mL_X11_378 (rcv_spec f61) ⟨_, _, rfl⟩ (by decide) (As := [.ref v16, .int (0 : Int32), .ref v58]) (rest := []) rfl rfl ⟨Nat.le_of_ble_eq_true rfl, Nat.le_of_ble_eq_true rfl⟩ (Nat.le_of_ble_eq_true rfl) (fun l D A => c_X10_readPart l D A e61) ?_
        refine ww_aload_n 64 X dX11_verify_64 0 rfl rfl ?_
        obtain ⟨v65, e65, h⟩ := bO_some h
        refine ww_getR 65 X dX11_verify_65 fG_X11_52 e65 ?_
        refine ww_aload_n 68 X dX11_verify_68 0 rfl rfl ?_
        obtain ⟨v69, e69, h⟩ := bO_some h
        refine ww_getR 69 X dX11_verify_69 fG_X11_109 e69 ?_
        obtain ⟨v72, e72, h⟩ := bO_some h
        refine ww_getR 72 X dX11_verify_72 fG_X11_352 e72 ?_
        refine ww_aload_n 75 X dX11_verify_75 0 rfl rfl ?_
        obtain ⟨v76, e76, h⟩ := bO_some h
        refine ww_getR 76 X dX11_verify_76 fG_X11_44 e76 ?_
        obtain ⟨_, f79, h⟩ := bO_some h
        obtain ⟨v79, M79, e79, h⟩ := bP_some h
        refine ww_callVI0 79 X dX11_verify_79 mY_X7_read mL_X11_142 (rcv_spec f79) ⟨_, _, rfl⟩ (by decide) (As := [.ref v72, .ref v76]) (rest := []) rfl rfl ⟨Nat.le_of_ble_eq_true rfl, Nat.le_of_ble_eq_true rfl⟩ (Nat.le_of_ble_eq_true rfl) (fun l D A => c_X7_read l D A e79) ?_
        refine ww_iconst 82 X (v := (-1 : Int32)) dX11_verify_82 (by decide) ?_
        refine ww_icmp_eq 83 89 X dX11_verify_83 (by decide) (fun q => ?_) (fun q => ?_)
        · replace h := (if_pos q).symm.trans h
          refine ww_aload_n 89 X dX11_verify_89 0 rfl rfl ?_
          obtain ⟨v90, e90, h⟩ := bO_some h
          refine ww_getR 90 X dX11_verify_90 fG_X11_109 e90 ?_
          refine ww_aload_n 93 X dX11_verify_93 0 rfl rfl ?_
          obtain ⟨v94, e94, h⟩ := bO_some h
          refine ww_getR 94 X dX11_verify_94 fG_X11_44 e94 ?_
          obtain ⟨_, f97, h⟩ := bO_some h
          obtain ⟨v97, M97, e97, h⟩ := bP_some h
          refine ww_callVI0 97 X dX11_verify_97 mY_X10_signedHeadReason mL_X11_348 (rcv_spec f97) ⟨_, _, rfl⟩ (by decide) (As := [.ref v94]) (rest := []) rfl rfl ⟨Nat.le_of_ble_eq_true rfl, Nat.le_of_ble_eq_true rfl⟩ (Nat.le_of_ble_eq_true rfl) (fun l D A => c_X10_signedHeadReason l D A e97) ?_
          refine ww_istore_n 100 X dX11_verify_100 (lv' := [(0, .ref l0), (1, .int l1), (2, .ref v16), (3, .int v97)]) rfl (by decide) [1, 2, 3, 0] rfl ?_
          refine ww_iload_n 101 X dX11_verify_101 3 rfl rfl ?_
          refine ww_if_eq 102 107 X dX11_verify_102 (by decide) (fun q => ?_) (fun q => ?_)
          · replace h := (if_pos q).symm.trans h
            refine ww_aload_n 107 X dX11_verify_107 0 rfl rfl ?_
            obtain ⟨v108, e108, h⟩ := bO_some h
            refine ww_getR 108 X dX11_verify_108 fG_X11_109 e108 ?_
            obtain ⟨v111, e111, h⟩ := bO_some h
            refine ww_getI 111 X dX11_verify_111 fG_X11_355 e111 ?_
            refine ww_if_ne 114 129 X dX11_verify_114 (by decide) (fun q => ?_) (fun q => ?_)
            · replace h := (if_neg q).symm.trans h
              exact ww_sub [0, 2] rfl (wB_X11_verify_129 X hQ h)
            · replace h := (if_pos q).symm.trans h
              refine ww_aload_n 117 X dX11_verify_117 0 rfl rfl ?_
              obtain ⟨v118, e118, h⟩ := bO_some h
              refine ww_getR 118 X dX11_verify_118 fG_X11_109 e118 ?_
              refine ww_aload_n 121 X dX11_verify_121 2 rfl rfl ?_
              refine ww_iconst 122 X (v := (1 : Int32)) dX11_verify_122 (by decide) ?_
              obtain ⟨_, f123, h⟩ := bO_some h
              obtain ⟨v123, M123, e123, h⟩ := bP_some h
              refine ww_callVI0 123 X dX11_verify_123 mY_X10_isFaulty mL_X11_375 (rcv_spec f123) ⟨_, _, rfl⟩ (by decide) (As := [.ref v16, .int (1 : Int32)]) (rest := []) rfl rfl ⟨Nat.le_of_ble_eq_true rfl, Nat.le_of_ble_eq_true rfl⟩ (Nat.le_of_ble_eq_true rfl) (fun l D A => c_X10_isFaulty l D A e123) ?_
              refine ww_if_ne 126 141 X dX11_verify_126 (by decide) (fun q => ?_) (fun q => ?_)
              · replace h := (if_neg q).symm.trans h
                refine ww_bipush 141 X (v := (-21 : Int32)) dX11_verify_141 (by decide) ?_
                exact ww_iretE 143 X hQ dX11_verify_143 h
              · replace h := (if_pos q).symm.trans h
                exact ww_sub [0, 2] rfl (wB_X11_verify_129 X hQ h)
          · replace h := (if_neg q).symm.trans h
            refine ww_iload_n 105 X dX11_verify_105 3 rfl rfl ?_
            exact ww_iretE 106 X hQ dX11_verify_106 h
        · replace h := (if_neg q).symm.trans h
          refine ww_bipush 86 X (v := (-22 : Int32)) dX11_verify_86 (by decide) ?_
          exact ww_iretE 88 X hQ dX11_verify_88 h
      · replace h := (if_neg q).symm.trans h
        refine ww_bipush 45 X (v := (-21 : Int32)) dX11_verify_45 (by decide) ?_
        exact ww_iretE 47 X hQ dX11_verify_47 h
    · replace h := (if_pos q).symm.trans h
      refine ww_bipush 30 X (v := (-20 : Int32)) dX11_verify_30 (by decide) ?_
      exact ww_iretE 32 X hQ dX11_verify_32 h
  · replace h := (if_pos q).symm.trans h
    refine ww_bipush 8 X (v := (-2 : Int32)) dX11_verify_8 (by decide) ?_
    exact ww_iretE 10 X hQ dX11_verify_10 h
theorem c_X11_verify {G : Nat → Nat} {F sz : Nat} {r0 : Int32} {M0 : mM} (l : Launch) (D : mD) (A : Nat → Prop) {l0 : Nat} {l1 : Int32} {M : mM} (h : P_X11_verify G F l0 l1 M = some (r0, M0)) : mMetI l D G A yX11_verify cX11_verify 6 (some .int) 9 220 0 0 [.ref l0, .int l1] M sz r0 M0 sz := mMetI_of l D G A (by decide) (Nat.le_of_ble_eq_true rfl) (fun x X hQ => wP_X11_verify X hQ h)
/-! SealedTokens.agree(LSealedTokens$Bytes;LSealedTokens$Bytes;LSealedTokens$Bytes;LSealedTokens$Bytes;)V -/
theorem dX11_agree_0 : decode cX11_agree 0 = .ok (.aload_n 0, 1) := by decide +kernel
theorem dX11_agree_1 : decode cX11_agree 1 = .ok (.getfield 102, 3) := by decide +kernel
theorem dX11_agree_4 : decode cX11_agree 4 = .ok (.aload_n 2, 1) := by decide +kernel
theorem dX11_agree_5 : decode cX11_agree 5 = .ok (.invokevirtual 279, 3) := by decide +kernel
theorem dX11_agree_8 : decode cX11_agree 8 = .ok (.pop, 1) := by decide +kernel
theorem dX11_agree_9 : decode cX11_agree 9 = .ok (.aload_n 0, 1) := by decide +kernel
theorem dX11_agree_10 : decode cX11_agree 10 = .ok (.getfield 102, 3) := by decide +kernel
theorem dX11_agree_13 : decode cX11_agree 13 = .ok (.aload_n 1, 1) := by decide +kernel
theorem dX11_agree_14 : decode cX11_agree 14 = .ok (.aload_n 0, 1) := by decide +kernel
theorem dX11_agree_15 : decode cX11_agree 15 = .ok (.getfield 102, 3) := by decide +kernel
theorem dX11_agree_18 : decode cX11_agree 18 = .ok (.getfield 286, 3) := by decide +kernel
theorem dX11_agree_21 : decode cX11_agree 21 = .ok (.aload_n 0, 1) := by decide +kernel
theorem dX11_agree_22 : decode cX11_agree 22 = .ok (.getfield 25, 3) := by decide +kernel
theorem dX11_agree_25 : decode cX11_agree 25 = .ok (.aload_n 0, 1) := by decide +kernel
theorem dX11_agree_26 : decode cX11_agree 26 = .ok (.getfield 102, 3) := by decide +kernel
theorem dX11_agree_29 : decode cX11_agree 29 = .ok (.getfield 282, 3) := by decide +kernel
theorem dX11_agree_32 : decode cX11_agree 32 = .ok (.invokevirtual 289, 3) := by decide +kernel
theorem dX11_agree_35 : decode cX11_agree 35 = .ok (.aload_n 0, 1) := by decide +kernel
theorem dX11_agree_36 : decode cX11_agree 36 = .ok (.getfield 102, 3) := by decide +kernel
theorem dX11_agree_39 : decode cX11_agree 39 = .ok (.aload_n 0, 1) := by decide +kernel
theorem dX11_agree_40 : decode cX11_agree 40 = .ok (.getfield 109, 3) := by decide +kernel
theorem dX11_agree_43 : decode cX11_agree 43 = .ok (.getfield 530, 3) := by decide +kernel
theorem dX11_agree_46 : decode cX11_agree 46 = .ok (.invokevirtual 293, 3) := by decide +kernel
theorem dX11_agree_49 : decode cX11_agree 49 = .ok (.pop, 1) := by decide +kernel
theorem dX11_agree_50 : decode cX11_agree 50 = .ok (.aload_n 0, 1) := by decide +kernel
theorem dX11_agree_51 : decode cX11_agree 51 = .ok (.getfield 109, 3) := by decide +kernel
theorem dX11_agree_54 : decode cX11_agree 54 = .ok (.getfield 530, 3) := by decide +kernel
theorem dX11_agree_57 : decode cX11_agree 57 = .ok (.bipush 32, 2) := by decide +kernel
theorem dX11_agree_59 : decode cX11_agree 59 = .ok (.invokevirtual 120, 3) := by decide +kernel
theorem dX11_agree_62 : decode cX11_agree 62 = .ok (.aload_n 0, 1) := by decide +kernel
theorem dX11_agree_63 : decode cX11_agree 63 = .ok (.getfield 109, 3) := by decide +kernel
theorem dX11_agree_66 : decode cX11_agree 66 = .ok (.getfield 533, 3) := by decide +kernel
theorem dX11_agree_69 : decode cX11_agree 69 = .ok (.invokevirtual 131, 3) := by decide +kernel
theorem dX11_agree_72 : decode cX11_agree 72 = .ok (.aload_n 0, 1) := by decide +kernel
theorem dX11_agree_73 : decode cX11_agree 73 = .ok (.getfield 109, 3) := by decide +kernel
theorem dX11_agree_76 : decode cX11_agree 76 = .ok (.getfield 533, 3) := by decide +kernel
theorem dX11_agree_79 : decode cX11_agree 79 = .ok (.aload_n 0, 1) := by decide +kernel
theorem dX11_agree_80 : decode cX11_agree 80 = .ok (.getfield 109, 3) := by decide +kernel
theorem dX11_agree_83 : decode cX11_agree 83 = .ok (.getfield 351, 3) := by decide +kernel
theorem dX11_agree_86 : decode cX11_agree 86 = .ok (.iconst 4, 1) := by decide +kernel
theorem dX11_agree_87 : decode cX11_agree 87 = .ok (.if_icmp .ne 16, 3) := by decide +kernel
theorem dX11_agree_90 : decode cX11_agree 90 = .ok (.aload_n 0, 1) := by decide +kernel
theorem dX11_agree_91 : decode cX11_agree 91 = .ok (.getfield 109, 3) := by decide +kernel
theorem dX11_agree_94 : decode cX11_agree 94 = .ok (.getfield 444, 3) := by decide +kernel
theorem dX11_agree_97 : decode cX11_agree 97 = .ok (.invokestatic 536, 3) := by decide +kernel
theorem dX11_agree_100 : decode cX11_agree 100 = .ok (.goto 15, 3) := by decide +kernel
theorem dX11_agree_103 : decode cX11_agree 103 = .ok (.iconst 5, 1) := by decide +kernel
theorem dX11_agree_104 : decode cX11_agree 104 = .ok (.aload_n 0, 1) := by decide +kernel
theorem dX11_agree_105 : decode cX11_agree 105 = .ok (.getfield 109, 3) := by decide +kernel
theorem dX11_agree_108 : decode cX11_agree 108 = .ok (.getfield 351, 3) := by decide +kernel
theorem dX11_agree_111 : decode cX11_agree 111 = .ok (.iadd, 1) := by decide +kernel
theorem dX11_agree_112 : decode cX11_agree 112 = .ok (.invokestatic 540, 3) := by decide +kernel
theorem dX11_agree_115 : decode cX11_agree 115 = .ok (.invokevirtual 543, 3) := by decide +kernel
theorem dX11_agree_118 : decode cX11_agree 118 = .ok (.aload_n 0, 1) := by decide +kernel
theorem dX11_agree_119 : decode cX11_agree 119 = .ok (.getfield 70, 3) := by decide +kernel
theorem dX11_agree_122 : decode cX11_agree 122 = .ok (.aload_n 0, 1) := by decide +kernel
theorem dX11_agree_123 : decode cX11_agree 123 = .ok (.getfield 109, 3) := by decide +kernel
theorem dX11_agree_126 : decode cX11_agree 126 = .ok (.getfield 530, 3) := by decide +kernel
theorem dX11_agree_129 : decode cX11_agree 129 = .ok (.aload_n 0, 1) := by decide +kernel
theorem dX11_agree_130 : decode cX11_agree 130 = .ok (.getfield 109, 3) := by decide +kernel
theorem dX11_agree_133 : decode cX11_agree 133 = .ok (.getfield 533, 3) := by decide +kernel
theorem dX11_agree_136 : decode cX11_agree 136 = .ok (.aload_n 3, 1) := by decide +kernel
theorem dX11_agree_137 : decode cX11_agree 137 = .ok (.aload 4, 2) := by decide +kernel
theorem dX11_agree_139 : decode cX11_agree 139 = .ok (.aload_n 0, 1) := by decide +kernel
theorem dX11_agree_140 : decode cX11_agree 140 = .ok (.getfield 109, 3) := by decide +kernel
theorem dX11_agree_143 : decode cX11_agree 143 = .ok (.getfield 351, 3) := by decide +kernel
theorem dX11_agree_146 : decode cX11_agree 146 = .ok (.iconst 4, 1) := by decide +kernel
theorem dX11_agree_147 : decode cX11_agree 147 = .ok (.if_icmp .ne 17, 3) := by decide +kernel
theorem dX11_agree_150 : decode cX11_agree 150 = .ok (.getstatic 450, 3) := by decide +kernel
theorem dX11_agree_153 : decode cX11_agree 153 = .ok (.aload_n 0, 1) := by decide +kernel
theorem dX11_agree_154 : decode cX11_agree 154 = .ok (.getfield 109, 3) := by decide +kernel
theorem dX11_agree_157 : decode cX11_agree 157 = .ok (.getfield 444, 3) := by decide +kernel
theorem dX11_agree_160 : decode cX11_agree 160 = .ok (.iaload, 1) := by decide +kernel
theorem dX11_agree_161 : decode cX11_agree 161 = .ok (.goto 5, 3) := by decide +kernel
theorem dX11_agree_164 : decode cX11_agree 164 = .ok (.bipush 16, 2) := by decide +kernel
theorem dX11_agree_166 : decode cX11_agree 166 = .ok (.aload_n 0, 1) := by decide +kernel
theorem dX11_agree_167 : decode cX11_agree 167 = .ok (.getfield 109, 3) := by decide +kernel
theorem dX11_agree_170 : decode cX11_agree 170 = .ok (.getfield 530, 3) := by decide +kernel
theorem dX11_agree_173 : decode cX11_agree 173 = .ok (.invokevirtual 296, 3) := by decide +kernel
theorem dX11_agree_176 : decode cX11_agree 176 = .ok (.return_, 1) := by decide +kernel
abbrev rmX11_agree : Room := { frames := 5, cells := 0, slots := 0, locals := 167 }
set_option maxHeartbeats 4000000 in
set_option maxRecDepth 100000 in
theorem wB_X11_agree_115 {G : Nat → Nat} {F : Nat} {x : mXT} {sz : Nat} {M0 : mM} (X : mCX G RX11 cX11_agree 5 none "agree" rmX11_agree x) (hQ : mQV x M0 (sz, 0, 0)) {l0 : Nat} {l3 : Nat} {l4 : Nat} {s0 : Nat} {s1 : Nat} {M : mM} (h : B_X11_agree_115 G F l0 l3 l4 s0 s1 M = some M0) : WW x (sz, 0, 0) M 115 [(0, .ref l0), (3, .ref l3), (4, .ref l4)] [.ref s1, .ref s0] := by
  unfold B_X11_agree_115 at h
  obtain ⟨_, f115, h⟩ := bO_some h
  obtain ⟨M115, e115, h⟩ := bO_some h
  refine ww_callVV0 115 X dX11_agree_115 mY_X0_putText mL_X11_543 (rcv_spec f115) ⟨_, _, rfl⟩ (by decide) (As := [.ref s1]) (rest := []) rfl rfl ⟨Nat.le_of_ble_eq_true rfl, Nat.le_of_ble_eq_true rfl⟩ (Nat.le_of_ble_eq_true rfl) (fun l D A => c_X0_putText l D A e115) ?_
  refine ww_aload_n 118 X dX11_agree_118 0 rfl rfl ?_
  obtain ⟨v119, e119, h⟩ := bO_some h
  refine ww_getR 119 X dX11_agree_119 fG_X11_70 e119 ?_
  refine ww_aload_n 122 X dX11_agree_122 0 rfl rfl ?_
  obtain ⟨v123, e123, h⟩ := bO_some h
  refine ww_getR 123 X dX11_agree_123 fG_X11_109 e123 ?_
  obtain ⟨v126, e126, h⟩ := bO_some h
  refine ww_getR 126 X dX11_agree_126 fG_X11_530 e126 ?_
  refine ww_aload_n 129 X dX11_agree_129 0 rfl rfl ?_
  obtain ⟨v130, e130, h⟩ := bO_some h
  refine ww_getR 130 X dX11_agree_130 fG_X11_109 e130 ?_
  obtain ⟨v133, e133, h⟩ := bO_some h
  refine ww_getR 133 X dX11_agree_133 fG_X11_533 e133 ?_
  refine ww_aload_n 136 X dX11_agree_136 1 rfl rfl ?_
  refine ww_aload 137 X dX11_agree_137 2 rfl ?_
  refine ww_aload_n 139 X dX11_agree_139 0 rfl rfl ?_
  obtain ⟨v140, e140, h⟩ := bO_some h
  refine ww_getR 140 X dX11_agree_140 fG_X11_109 e140 ?_
  obtain ⟨v143, e143, h⟩ := bO_some h
  refine ww_getI 143 X dX11_agree_143 fG_X11_351 e143 ?_
  refine ww_iconst 146 X (v := (4 : Int32)) dX11_agree_146 (by decide) ?_
  refine ww_icmp_ne 147 164 X dX11_agree_147 (by decide) (fun q => ?_) (fun q => ?_)
  · replace h := (if_neg q).symm.trans h
    refine ww_bipush 164 X (v := (16 : Int32)) dX11_agree_164 (by decide) ?_
    refine ww_aload_n 166 X dX11_agree_166 0 rfl rfl ?_
    obtain ⟨v167, e167, h⟩ := bO_some h
    refine ww_getR 167 X dX11_agree_167 fG_X11_109 e167 ?_
    obtain ⟨v170, e170, h⟩ := bO_some h
    refine ww_getR 170 X dX11_agree_170 fG_X11_530 e170 ?_
    obtain ⟨_, f173, h⟩ := bO_some h
    obtain ⟨M173, e173, h⟩ := bO_some h
    refine ww_callVV0 173 X dX11_agree_173 mY_X4_putDerived mL_X11_296 (rcv_spec f173) ⟨_, _, rfl⟩ (by decide) (As := [.ref v126, .ref v133, .ref l3, .ref l4, .int (16 : Int32), .ref v170]) (rest := []) rfl rfl ⟨Nat.le_of_ble_eq_true rfl, Nat.le_of_ble_eq_true rfl⟩ (Nat.le_of_ble_eq_true rfl) (fun l D A => c_X4_putDerived l D A e173) ?_
    exact ww_vretE 176 X hQ dX11_agree_176 h
  · replace h := (if_pos q).symm.trans h
    refine ww_gets 150 X dX11_agree_150 gS_X11_450 ?_
    refine ww_aload_n 153 X dX11_agree_153 0 rfl rfl ?_
    obtain ⟨v154, e154, h⟩ := bO_some h
    refine ww_getR 154 X dX11_agree_154 fG_X11_109 e154 ?_
    obtain ⟨v157, e157, h⟩ := bO_some h
    refine ww_getI 157 X dX11_agree_157 fG_X11_444 e157 ?_
    obtain ⟨v160, e160, h⟩ := bO_some h
    refine ww_iald 160 X dX11_agree_160 e160 ?_
    refine ww_goto 161 166 X dX11_agree_161 (by decide) ?_
    refine ww_aload_n 166 X dX11_agree_166 0 rfl rfl ?_
    obtain ⟨v167, e167, h⟩ := bO_some h
    refine ww_getR 167 X dX11_agree_167 fG_X11_109 e167 ?_
    obtain ⟨v170, e170, h⟩ := bO_some h
    refine ww_getR 170 X dX11_agree_170 fG_X11_530 e170 ?_
    obtain ⟨_, f173, h⟩ := bO_some h
    obtain ⟨M173, e173, h⟩ := bO_some h
    refine ww_callVV0 173 X dX11_agree_173 mY_X4_putDerived mL_X11_296 (rcv_spec f173) ⟨_, _, rfl⟩ (by decide) (As := [.ref v126, .ref v133, .ref l3, .ref l4, .int v160, .ref v170]) (rest := []) rfl rfl ⟨Nat.le_of_ble_eq_true rfl, Nat.le_of_ble_eq_true rfl⟩ (Nat.le_of_ble_eq_true rfl) (fun l D A => c_X4_putDerived l D A e173) ?_
    exact ww_vretE 176 X hQ dX11_agree_176 h
set_option maxHeartbeats 4000000 in
set_option maxRecDepth 100000 in
theorem wP_X11_agree {G : Nat → Nat} {F : Nat} {x : mXT} {sz : Nat} {M0 : mM} (X : mCX G RX11 cX11_agree 5 none "agree" rmX11_agree x) (hQ : mQV x M0 (sz, 0, 0)) {l0 : Nat} {l1 : Nat} {l2 : Nat} {l3 : Nat} {l4 : Nat} {M : mM} (h : P_X11_agree G F l0 l1 l2 l3 l4 M = some M0) : WW x (sz, 0, 0) M 0 [(0, .ref l0), (1, .ref l1), (2, .ref l2), (3, .ref l3), (4, .ref l4)] [] := by
  unfold P_X11_agree at h
  refine ww_aload_n 0 X dX11_agree_0 0 rfl rfl ?_
  obtain ⟨v1, e1, h⟩ := bO_some h
  refine ww_getR 1 X dX11_agree_1 fG_X11_102 e1 ?_
  refine ww_aload_n 4 X dX11_agree_4 2 rfl rfl ?_
  obtain ⟨_, f5, h⟩ := bO_some h
  obtain ⟨v5, M5, e5, h⟩ := bP_some h
  refine ww_callVI0 5 X dX11_agree_5 mY_X3_load mL_X11_279 (rcv_spec f5) ⟨_, _, rfl⟩ (by decide) (As := [.ref l2]) (rest := []) rfl rfl ⟨Nat.le_of_ble_eq_true rfl, Nat.le_of_ble_eq_true rfl⟩ (Nat.le_of_ble_eq_true rfl) (fun l D A => c_X3_load l D A e5) ?_
  refine ww_pop 8 X dX11_agree_8 rfl ?_
  refine ww_aload_n 9 X dX11_agree_9 0 rfl rfl ?_
  obtain ⟨v10, e10, h⟩ := bO_some h
  refine ww_getR 10 X dX11_agree_10 fG_X11_102 e10 ?_
  refine ww_aload_n 13 X dX11_agree_13 1 rfl rfl ?_
  refine ww_aload_n 14 X dX11_agree_14 0 rfl rfl ?_
  obtain ⟨v15, e15, h⟩ := bO_some h
  refine ww_getR 15 X dX11_agree_15 fG_X11_102 e15 ?_
  obtain ⟨v18, e18, h⟩ := bO_some h
  refine ww_getR 18 X dX11_agree_18 fG_X11_286 e18 ?_
  refine ww_aload_n 21 X dX11_agree_21 0 rfl rfl ?_
  obtain ⟨v22, e22, h⟩ := bO_some h
  refine ww_getR 22 X dX11_agree_22 fG_X11_25 e22 ?_
  refine ww_aload_n 25 X dX11_agree_25 0 rfl rfl ?_
  obtain ⟨v26, e26, h⟩ := bO_some h
  refine ww_getR 26 X dX11_agree_26 fG_X11_102 e26 ?_
  obtain ⟨v29, e29, h⟩ := bO_some h
  refine ww_getR 29 X dX11_agree_29 fG_X11_282 e29 ?_
  obtain ⟨_, f32, h⟩ := bO_some h
  obtain ⟨M32, e32, h⟩ := bO_some h
  refine ww_callVV0 32 X dX11_agree_32 mY_X3_sumUp mL_X11_289 (rcv_spec f32) ⟨_, _, rfl⟩ (by decide) (As := [.ref l1, .ref v18, .ref v22, .ref v29]) (rest := []) rfl rfl ⟨Nat.le_of_ble_eq_true rfl, Nat.le_of_ble_eq_true rfl⟩ (Nat.le_of_ble_eq_true rfl) (fun l D A => c_X3_sumUp l D A e32) ?_
  refine ww_aload_n 35 X dX11_agree_35 0 rfl rfl ?_
  obtain ⟨v36, e36, h⟩ := bO_some h
  refine ww_getR 36 X dX11_agree_36 fG_X11_102 e36 ?_
  refine ww_aload_n 39 X dX11_agree_39 0 rfl rfl ?_
  obtain ⟨v40, e40, h⟩ := bO_some h
  refine ww_getR 40 X dX11_agree_40 fG_X11_109 e40 ?_
  obtain ⟨v43, e43, h⟩ := bO_some h
  refine ww_getR 43 X dX11_agree_43 fG_X11_530 e43 ?_
  obtain ⟨_, f46, h⟩ := bO_some h
  obtain ⟨v46, M46, e46, h⟩ := bP_some h
  refine ww_callVI0 46 X dX11_agree_46 mY_X3_putSum mL_X11_293 (rcv_spec f46) ⟨_, _, rfl⟩ (by decide) (As := [.ref v43]) (rest := []) rfl rfl ⟨Nat.le_of_ble_eq_true rfl, Nat.le_of_ble_eq_true rfl⟩ (Nat.le_of_ble_eq_true rfl) (fun l D A => c_X3_putSum l D A e46) ?_
  refine ww_pop 49 X dX11_agree_49 rfl ?_
  refine ww_aload_n 50 X dX11_agree_50 0 rfl rfl ?_
  obtain ⟨v51, e51, h⟩ := bO_some h
  refine ww_getR 51 X dX11_agree_51 fG_X11_109 e51 ?_
  obtain ⟨v54, e54, h⟩ := bO_some h
  refine ww_getR 54 X dX11_agree_54 fG_X11_530 e54 ?_
  refine ww_bipush 57 X (v := (32 : Int32)) dX11_agree_57 (by decide) ?_
  obtain ⟨_, f59, h⟩ := bO_some h
  obtain ⟨M59, e59, h⟩ := bO_some h
  refine ww_callVV0 59 X dX11_agree_59 mY_X0_cutTo mL_X11_120 (rcv_spec f59) ⟨_, _, rfl⟩ (by decide) (As := [.int (32 : Int32)]) (rest := []) rfl rfl ⟨Nat.le_of_ble_eq_true rfl, Nat.le_of_ble_eq_true rfl⟩ (Nat.le_of_ble_eq_true rfl) (fun l D A => c_X0_cutTo l D A e59) ?_
  refine ww_aload_n 62 X dX11_agree_62 0 rfl rfl ?_
  obtain ⟨v63, e63, h⟩ := bO_some h
  refine ww_getR 63 X dX11_agree_63 fG_X11_109 e63 ?_
  obtain ⟨v66, e66, h⟩ := bO_some h
  refine ww_getR 66 X dX11_agree_66 fG_X11_533 e66 ?_
  obtain ⟨_, f69, h⟩ := bO_some h
  obtain ⟨M69, e69, h⟩ := bO_some h
  refine ww_callVV0 69 X dX11_agree_69 mY_X0_clear mL_X11_131 (rcv_spec f69) ⟨_, _, rfl⟩ (by decide) (As := []) (rest := []) rfl rfl ⟨Nat.le_of_ble_eq_true rfl, Nat.le_of_ble_eq_true rfl⟩ (Nat.le_of_ble_eq_true rfl) (fun l D A => c_X0_clear l D A e69) ?_
  refine ww_aload_n 72 X dX11_agree_72 0 rfl rfl ?_
  obtain ⟨v73, e73, h⟩ := bO_some h
  refine ww_getR 73 X dX11_agree_73 fG_X11_109 e73 ?_
  obtain ⟨v76, e76, h⟩ := bO_some h
  refine ww_getR 76 X dX11_agree_76 fG_X11_533 e76 ?_
  refine ww_aload_n 79 X dX11_agree_79 0 rfl rfl ?_
  obtain ⟨v80, e80, h⟩ := bO_some h
  refine ww_getR 80 X dX11_agree_80 fG_X11_109 e80 ?_
  obtain ⟨v83, e83, h⟩ := bO_some h
  refine ww_getI 83 X dX11_agree_83 fG_X11_351 e83 ?_
  refine ww_iconst 86 X (v := (4 : Int32)) dX11_agree_86 (by decide) ?_
  refine ww_icmp_ne 87 103 X dX11_agree_87 (by decide) (fun q => ?_) (fun q => ?_)
  · replace h := (if_neg q).symm.trans h
    refine ww_iconst 103 X (v := (5 : Int32)) dX11_agree_103 (by decide) ?_
    refine ww_aload_n 104 X dX11_agree_104 0 rfl rfl ?_
    obtain ⟨v105, e105, h⟩ := bO_some h
    refine ww_getR 105 X dX11_agree_105 fG_X11_109 e105 ?_
    obtain ⟨v108, e108, h⟩ := bO_some h
    refine ww_getI 108 X dX11_agree_108 fG_X11_351 e108 ?_
    refine ww_iadd 111 X dX11_agree_111 ?_
    obtain ⟨v112, M112, e112, h⟩ := bP_some h
    refine ww_callSR0 112 X dX11_agree_112 mY_X11_algName mL_X11_540 (As := [.int ((5 : Int32) + v108)]) (rest := [.ref v76]) rfl rfl ⟨Nat.le_of_ble_eq_true rfl, Nat.le_of_ble_eq_true rfl⟩ (Nat.le_of_ble_eq_true rfl) (fun l D A => c_X11_algName l D A e112) ?_
    exact ww_sub [0, 3, 4] rfl (wB_X11_agree_115 X hQ h)
  · replace h := (if_pos q).symm.trans h
    refine ww_aload_n 90 X dX11_agree_90 0 rfl rfl ?_
    obtain ⟨v91, e91, h⟩ := bO_some h
    refine ww_getR 91 X dX11_agree_91 fG_X11_109 e91 ?_
    obtain ⟨v94, e94, h⟩ := bO_some h
    refine ww_getI 94 X dX11_agree_94 fG_X11_444 e94 ?_
    obtain ⟨v97, M97, e97, h⟩ := bP_some h
    refine ww_callSR0 97 X dX11_agree_97 mY_X11_wayName mL_X11_536 (As := [.int v94]) (rest := [.ref v76]) rfl rfl ⟨Nat.le_of_ble_eq_true rfl, Nat.le_of_ble_eq_true rfl⟩ (Nat.le_of_ble_eq_true rfl) (fun l D A => c_X11_wayName l D A e97) ?_
    refine ww_goto 100 115 X dX11_agree_100 (by decide) ?_
    exact ww_sub [0, 3, 4] rfl (wB_X11_agree_115 X hQ h)
theorem c_X11_agree {G : Nat → Nat} {F sz : Nat} {M0 : mM} (l : Launch) (D : mD) (A : Nat → Prop) {l0 : Nat} {l1 : Nat} {l2 : Nat} {l3 : Nat} {l4 : Nat} {M : mM} (h : P_X11_agree G F l0 l1 l2 l3 l4 M = some M0) : mMetV l D G A yX11_agree cX11_agree 5 none 5 167 0 0 [.ref l0, .ref l1, .ref l2, .ref l3, .ref l4] M sz M0 sz := mMetV_of l D G A (by decide) (Nat.le_of_ble_eq_true rfl) (fun x X hQ => wP_X11_agree X hQ h)
/-! SealedTokens.makeSealedKey(LSealedTokens$Key;LSealedTokens$Bytes;LSealedTokens$Bytes;)V -/
theorem dX11_makeSealedKey_0 : decode cX11_makeSealedKey 0 = .ok (.aload_n 0, 1) := by decide +kernel
theorem dX11_makeSealedKey_1 : decode cX11_makeSealedKey 1 = .ok (.getfield 109, 3) := by decide +kernel
theorem dX11_makeSealedKey_4 : decode cX11_makeSealedKey 4 = .ok (.getfield 431, 3) := by decide +kernel
theorem dX11_makeSealedKey_7 : decode cX11_makeSealedKey 7 = .ok (.invokevirtual 131, 3) := by decide +kernel
theorem dX11_makeSealedKey_10 : decode cX11_makeSealedKey 10 = .ok (.aload_n 0, 1) := by decide +kernel
theorem dX11_makeSealedKey_11 : decode cX11_makeSealedKey 11 = .ok (.getfield 109, 3) := by decide +kernel
theorem dX11_makeSealedKey_14 : decode cX11_makeSealedKey 14 = .ok (.getfield 351, 3) := by decide +kernel
theorem dX11_makeSealedKey_17 : decode cX11_makeSealedKey 17 = .ok (.iconst 4, 1) := by decide +kernel
theorem dX11_makeSealedKey_18 : decode cX11_makeSealedKey 18 = .ok (.if_icmp .lt 20, 3) := by decide +kernel
theorem dX11_makeSealedKey_21 : decode cX11_makeSealedKey 21 = .ok (.aload_n 0, 1) := by decide +kernel
theorem dX11_makeSealedKey_22 : decode cX11_makeSealedKey 22 = .ok (.aload_n 0, 1) := by decide +kernel
theorem dX11_makeSealedKey_23 : decode cX11_makeSealedKey 23 = .ok (.getfield 109, 3) := by decide +kernel
theorem dX11_makeSealedKey_26 : decode cX11_makeSealedKey 26 = .ok (.getfield 406, 3) := by decide +kernel
theorem dX11_makeSealedKey_29 : decode cX11_makeSealedKey 29 = .ok (.aload_n 1, 1) := by decide +kernel
theorem dX11_makeSealedKey_30 : decode cX11_makeSealedKey 30 = .ok (.getfield 316, 3) := by decide +kernel
theorem dX11_makeSealedKey_33 : decode cX11_makeSealedKey 33 = .ok (.aload_n 2, 1) := by decide +kernel
theorem dX11_makeSealedKey_34 : decode cX11_makeSealedKey 34 = .ok (.aload_n 3, 1) := by decide +kernel
theorem dX11_makeSealedKey_35 : decode cX11_makeSealedKey 35 = .ok (.invokevirtual 547, 3) := by decide +kernel
theorem dX11_makeSealedKey_38 : decode cX11_makeSealedKey 38 = .ok (.aload_n 0, 1) := by decide +kernel
theorem dX11_makeSealedKey_39 : decode cX11_makeSealedKey 39 = .ok (.getfield 109, 3) := by decide +kernel
theorem dX11_makeSealedKey_42 : decode cX11_makeSealedKey 42 = .ok (.getfield 351, 3) := by decide +kernel
theorem dX11_makeSealedKey_45 : decode cX11_makeSealedKey 45 = .ok (.tableswitch 146 0 5 #[39, 146, 146, 56, 95, 115], 39) := by decide +kernel
theorem dX11_makeSealedKey_84 : decode cX11_makeSealedKey 84 = .ok (.aload_n 0, 1) := by decide +kernel
theorem dX11_makeSealedKey_85 : decode cX11_makeSealedKey 85 = .ok (.getfield 109, 3) := by decide +kernel
theorem dX11_makeSealedKey_88 : decode cX11_makeSealedKey 88 = .ok (.getfield 425, 3) := by decide +kernel
theorem dX11_makeSealedKey_91 : decode cX11_makeSealedKey 91 = .ok (.aload_n 1, 1) := by decide +kernel
theorem dX11_makeSealedKey_92 : decode cX11_makeSealedKey 92 = .ok (.getfield 316, 3) := by decide +kernel
theorem dX11_makeSealedKey_95 : decode cX11_makeSealedKey 95 = .ok (.invokevirtual 127, 3) := by decide +kernel
theorem dX11_makeSealedKey_98 : decode cX11_makeSealedKey 98 = .ok (.goto 118, 3) := by decide +kernel
theorem dX11_makeSealedKey_101 : decode cX11_makeSealedKey 101 = .ok (.aload_n 0, 1) := by decide +kernel
theorem dX11_makeSealedKey_102 : decode cX11_makeSealedKey 102 = .ok (.getfield 95, 3) := by decide +kernel
theorem dX11_makeSealedKey_105 : decode cX11_makeSealedKey 105 = .ok (.aload_n 0, 1) := by decide +kernel
theorem dX11_makeSealedKey_106 : decode cX11_makeSealedKey 106 = .ok (.getfield 109, 3) := by decide +kernel
theorem dX11_makeSealedKey_109 : decode cX11_makeSealedKey 109 = .ok (.getfield 425, 3) := by decide +kernel
theorem dX11_makeSealedKey_112 : decode cX11_makeSealedKey 112 = .ok (.aload_n 0, 1) := by decide +kernel
theorem dX11_makeSealedKey_113 : decode cX11_makeSealedKey 113 = .ok (.getfield 109, 3) := by decide +kernel
theorem dX11_makeSealedKey_116 : decode cX11_makeSealedKey 116 = .ok (.getfield 550, 3) := by decide +kernel
theorem dX11_makeSealedKey_119 : decode cX11_makeSealedKey 119 = .ok (.aload_n 1, 1) := by decide +kernel
theorem dX11_makeSealedKey_120 : decode cX11_makeSealedKey 120 = .ok (.getfield 456, 3) := by decide +kernel
theorem dX11_makeSealedKey_123 : decode cX11_makeSealedKey 123 = .ok (.aload_n 1, 1) := by decide +kernel
theorem dX11_makeSealedKey_124 : decode cX11_makeSealedKey 124 = .ok (.getfield 316, 3) := by decide +kernel
theorem dX11_makeSealedKey_127 : decode cX11_makeSealedKey 127 = .ok (.aload_n 0, 1) := by decide +kernel
theorem dX11_makeSealedKey_128 : decode cX11_makeSealedKey 128 = .ok (.getfield 109, 3) := by decide +kernel
theorem dX11_makeSealedKey_131 : decode cX11_makeSealedKey 131 = .ok (.getfield 431, 3) := by decide +kernel
theorem dX11_makeSealedKey_134 : decode cX11_makeSealedKey 134 = .ok (.invokevirtual 553, 3) := by decide +kernel
theorem dX11_makeSealedKey_137 : decode cX11_makeSealedKey 137 = .ok (.goto 79, 3) := by decide +kernel
theorem dX11_makeSealedKey_140 : decode cX11_makeSealedKey 140 = .ok (.aload_n 0, 1) := by decide +kernel
theorem dX11_makeSealedKey_141 : decode cX11_makeSealedKey 141 = .ok (.getfield 109, 3) := by decide +kernel
theorem dX11_makeSealedKey_144 : decode cX11_makeSealedKey 144 = .ok (.getfield 425, 3) := by decide +kernel
theorem dX11_makeSealedKey_147 : decode cX11_makeSealedKey 147 = .ok (.aload_n 0, 1) := by decide +kernel
theorem dX11_makeSealedKey_148 : decode cX11_makeSealedKey 148 = .ok (.getfield 109, 3) := by decide +kernel
theorem dX11_makeSealedKey_151 : decode cX11_makeSealedKey 151 = .ok (.getfield 530, 3) := by decide +kernel
theorem dX11_makeSealedKey_154 : decode cX11_makeSealedKey 154 = .ok (.invokevirtual 127, 3) := by decide +kernel
theorem dX11_makeSealedKey_157 : decode cX11_makeSealedKey 157 = .ok (.goto 59, 3) := by decide +kernel
theorem dX11_makeSealedKey_160 : decode cX11_makeSealedKey 160 = .ok (.aload_n 0, 1) := by decide +kernel
theorem dX11_makeSealedKey_161 : decode cX11_makeSealedKey 161 = .ok (.getfield 77, 3) := by decide +kernel
theorem dX11_makeSealedKey_164 : decode cX11_makeSealedKey 164 = .ok (.aload_n 0, 1) := by decide +kernel
theorem dX11_makeSealedKey_165 : decode cX11_makeSealedKey 165 = .ok (.getfield 109, 3) := by decide +kernel
theorem dX11_makeSealedKey_168 : decode cX11_makeSealedKey 168 = .ok (.getfield 530, 3) := by decide +kernel
theorem dX11_makeSealedKey_171 : decode cX11_makeSealedKey 171 = .ok (.aload_n 0, 1) := by decide +kernel
theorem dX11_makeSealedKey_172 : decode cX11_makeSealedKey 172 = .ok (.getfield 109, 3) := by decide +kernel
theorem dX11_makeSealedKey_175 : decode cX11_makeSealedKey 175 = .ok (.getfield 425, 3) := by decide +kernel
theorem dX11_makeSealedKey_178 : decode cX11_makeSealedKey 178 = .ok (.aload_n 0, 1) := by decide +kernel
theorem dX11_makeSealedKey_179 : decode cX11_makeSealedKey 179 = .ok (.getfield 109, 3) := by decide +kernel
theorem dX11_makeSealedKey_182 : decode cX11_makeSealedKey 182 = .ok (.getfield 431, 3) := by decide +kernel
theorem dX11_makeSealedKey_185 : decode cX11_makeSealedKey 185 = .ok (.invokevirtual 242, 3) := by decide +kernel
theorem dX11_makeSealedKey_188 : decode cX11_makeSealedKey 188 = .ok (.goto 28, 3) := by decide +kernel
theorem dX11_makeSealedKey_191 : decode cX11_makeSealedKey 191 = .ok (.aload_n 0, 1) := by decide +kernel
theorem dX11_makeSealedKey_192 : decode cX11_makeSealedKey 192 = .ok (.getfield 77, 3) := by decide +kernel
theorem dX11_makeSealedKey_195 : decode cX11_makeSealedKey 195 = .ok (.aload_n 1, 1) := by decide +kernel
theorem dX11_makeSealedKey_196 : decode cX11_makeSealedKey 196 = .ok (.getfield 316, 3) := by decide +kernel
theorem dX11_makeSealedKey_199 : decode cX11_makeSealedKey 199 = .ok (.aload_n 0, 1) := by decide +kernel
theorem dX11_makeSealedKey_200 : decode cX11_makeSealedKey 200 = .ok (.getfield 109, 3) := by decide +kernel
theorem dX11_makeSealedKey_203 : decode cX11_makeSealedKey 203 = .ok (.getfield 425, 3) := by decide +kernel
theorem dX11_makeSealedKey_206 : decode cX11_makeSealedKey 206 = .ok (.aload_n 0, 1) := by decide +kernel
theorem dX11_makeSealedKey_207 : decode cX11_makeSealedKey 207 = .ok (.getfield 109, 3) := by decide +kernel
theorem dX11_makeSealedKey_210 : decode cX11_makeSealedKey 210 = .ok (.getfield 431, 3) := by decide +kernel
theorem dX11_makeSealedKey_213 : decode cX11_makeSealedKey 213 = .ok (.invokevirtual 242, 3) := by decide +kernel
theorem dX11_makeSealedKey_216 : decode cX11_makeSealedKey 216 = .ok (.return_, 1) := by decide +kernel
abbrev rmX11_makeSealedKey : Room := { frames := 6, cells := 0, slots := 0, locals := 193 }
set_option maxHeartbeats 4000000 in
set_option maxRecDepth 100000 in
theorem wB_X11_makeSealedKey_38 {G : Nat → Nat} {F : Nat} {x : mXT} {sz : Nat} {M0 : mM} (X : mCX G RX11 cX11_makeSealedKey 4 none "makeSealedKey" rmX11_makeSealedKey x) (hQ : mQV x M0 (sz, 0, 0)) {l0 : Nat} {l1 : Nat} {M : mM} (h : B_X11_makeSealedKey_38 G F l0 l1 M = some M0) : WW x (sz, 0, 0) M 38 [(0, .ref l0), (1, .ref l1)] [] := by
  unfold B_X11_makeSealedKey_38 at h
  refine ww_aload_n 38 X dX11_makeSealedKey_38 0 rfl rfl ?_
  obtain ⟨v39, e39, h⟩ := bO_some h
  refine ww_getR 39 X dX11_makeSealedKey_39 fG_X11_109 e39 ?_
  obtain ⟨v42, e42, h⟩ := bO_some h
  refine ww_getI 42 X dX11_makeSealedKey_42 fG_X11_351 e42 ?_
  by_cases q0 : v42 = (0 : Int32)
  · replace h := (if_pos q0).symm.trans h
    refine ww_tableIn 45 84 X dX11_makeSealedKey_45 (off := 39) (by rw [q0]; decide) (by rw [q0]; decide) (by rw [q0]; decide) (by decide) ?_
    refine ww_aload_n 84 X dX11_makeSealedKey_84 0 rfl rfl ?_
    obtain ⟨v85, e85, h⟩ := bO_some h
    refine ww_getR 85 X dX11_makeSealedKey_85 fG_X11_109 e85 ?_
    obtain ⟨v88, e88, h⟩ := bO_some h
    refine ww_getR 88 X dX11_makeSealedKey_88 fG_X11_425 e88 ?_
    refine ww_aload_n 91 X dX11_makeSealedKey_91 1 rfl rfl ?_
    obtain ⟨v92, e92, h⟩ := bO_some h
    refine ww_getR 92 X dX11_makeSealedKey_92 fG_X11_316 e92 ?_
    obtain ⟨_, f95, h⟩ := bO_some h
    obtain ⟨M95, e95, h⟩ := bO_some h
    refine ww_callVV0 95 X dX11_makeSealedKey_95 mY_X0_become mL_X11_127 (rcv_spec f95) ⟨_, _, rfl⟩ (by decide) (As := [.ref v92]) (rest := []) rfl rfl ⟨Nat.le_of_ble_eq_true rfl, Nat.le_of_ble_eq_true rfl⟩ (Nat.le_of_ble_eq_true rfl) (fun l D A => c_X0_become l D A e95) ?_
    refine ww_goto 98 216 X dX11_makeSealedKey_98 (by decide) ?_
    exact ww_vretE 216 X hQ dX11_makeSealedKey_216 h
  · replace h := (if_neg q0).symm.trans h
    by_cases q1 : v42 = (1 : Int32)
    · replace h := (if_pos q1).symm.trans h
      refine ww_tableIn 45 191 X dX11_makeSealedKey_45 (off := 146) (by rw [q1]; decide) (by rw [q1]; decide) (by rw [q1]; decide) (by decide) ?_
      refine ww_aload_n 191 X dX11_makeSealedKey_191 0 rfl rfl ?_
      obtain ⟨v192, e192, h⟩ := bO_some h
      refine ww_getR 192 X dX11_makeSealedKey_192 fG_X11_77 e192 ?_
      refine ww_aload_n 195 X dX11_makeSealedKey_195 1 rfl rfl ?_
      obtain ⟨v196, e196, h⟩ := bO_some h
      refine ww_getR 196 X dX11_makeSealedKey_196 fG_X11_316 e196 ?_
      refine ww_aload_n 199 X dX11_makeSealedKey_199 0 rfl rfl ?_
      obtain ⟨v200, e200, h⟩ := bO_some h
      refine ww_getR 200 X dX11_makeSealedKey_200 fG_X11_109 e200 ?_
      obtain ⟨v203, e203, h⟩ := bO_some h
      refine ww_getR 203 X dX11_makeSealedKey_203 fG_X11_425 e203 ?_
      refine ww_aload_n 206 X dX11_makeSealedKey_206 0 rfl rfl ?_
      obtain ⟨v207, e207, h⟩ := bO_some h
      refine ww_getR 207 X dX11_makeSealedKey_207 fG_X11_109 e207 ?_
      obtain ⟨v210, e210, h⟩ := bO_some h
      refine ww_getR 210 X dX11_makeSealedKey_210 fG_X11_431 e210 ?_
      obtain ⟨_, f213, h⟩ := bO_some h
      obtain ⟨M213, e213, h⟩ := bO_some h
      refine ww_callVV0 213 X dX11_makeSealedKey_213 mY_X1_putWrapped mL_X11_242 (rcv_spec f213) ⟨_, _, rfl⟩ (by decide) (As := [.ref v196, .ref v203, .ref v210]) (rest := []) rfl rfl ⟨Nat.le_of_ble_eq_true rfl, Nat.le_of_ble_eq_true rfl⟩ (Nat.le_of_ble_eq_true rfl) (fun l D A => c_X1_putWrapped l D A e213) ?_
      exact ww_vretE 216 X hQ dX11_makeSealedKey_216 h
    · replace h := (if_neg q1).symm.trans h
      by_cases q2 : v42 = (2 : Int32)
      · replace h := (if_pos q2).symm.trans h
        refine ww_tableIn 45 191 X dX11_makeSealedKey_45 (off := 146) (by rw [q2]; decide) (by rw [q2]; decide) (by rw [q2]; decide) (by decide) ?_
        refine ww_aload_n 191 X dX11_makeSealedKey_191 0 rfl rfl ?_
        obtain ⟨v192, e192, h⟩ := bO_some h
        refine ww_getR 192 X dX11_makeSealedKey_192 fG_X11_77 e192 ?_
        refine ww_aload_n 195 X dX11_makeSealedKey_195 1 rfl rfl ?_
        obtain ⟨v196, e196, h⟩ := bO_some h
        refine ww_getR 196 X dX11_makeSealedKey_196 fG_X11_316 e196 ?_
        refine ww_aload_n 199 X dX11_makeSealedKey_199 0 rfl rfl ?_
        obtain ⟨v200, e200, h⟩ := bO_some h
        refine ww_getR 200 X dX11_makeSealedKey_200 fG_X11_109 e200 ?_
        obtain ⟨v203, e203, h⟩ := bO_some h
        refine ww_getR 203 X dX11_makeSealedKey_203 fG_X11_425 e203 ?_
        refine ww_aload_n 206 X dX11_makeSealedKey_206 0 rfl rfl ?_
        obtain ⟨v207, e207, h⟩ := bO_some h
        refine ww_getR 207 X dX11_makeSealedKey_207 fG_X11_109 e207 ?_
        obtain ⟨v210, e210, h⟩ := bO_some h
        refine ww_getR 210 X dX11_makeSealedKey_210 fG_X11_431 e210 ?_
        obtain ⟨_, f213, h⟩ := bO_some h
        obtain ⟨M213, e213, h⟩ := bO_some h
        refine ww_callVV0 213 X dX11_makeSealedKey_213 mY_X1_putWrapped mL_X11_242 (rcv_spec f213) ⟨_, _, rfl⟩ (by decide) (As := [.ref v196, .ref v203, .ref v210]) (rest := []) rfl rfl ⟨Nat.le_of_ble_eq_true rfl, Nat.le_of_ble_eq_true rfl⟩ (Nat.le_of_ble_eq_true rfl) (fun l D A => c_X1_putWrapped l D A e213) ?_
        exact ww_vretE 216 X hQ dX11_makeSealedKey_216 h
      · replace h := (if_neg q2).symm.trans h
        by_cases q3 : v42 = (3 : Int32)
        · replace h := (if_pos q3).symm.trans h
          refine ww_tableIn 45 101 X dX11_makeSealedKey_45 (off := 56) (by rw [q3]; decide) (by rw [q3]; decide) (by rw [q3]; decide) (by decide) ?_
          refine ww_aload_n 101 X dX11_makeSealedKey_101 0 rfl rfl ?_
          obtain ⟨v102, e102, h⟩ := bO_some h
          refine ww_getR 102 X dX11_makeSealedKey_102 fG_X11_95 e102 ?_
          refine ww_aload_n 105 X dX11_makeSealedKey_105 0 rfl rfl ?_
          obtain ⟨v106, e106, h⟩ := bO_some h
          refine ww_getR 106 X dX11_makeSealedKey_106 fG_X11_109 e106 ?_
          obtain ⟨v109, e109, h⟩ := bO_some h
          refine ww_getR 109 X dX11_makeSealedKey_109 fG_X11_425 e109 ?_
          refine ww_aload_n 112 X dX11_makeSealedKey_112 0 rfl rfl ?_
          obtain ⟨v113, e113, h⟩ := bO_some h
          refine ww_getR 113 X dX11_makeSealedKey_113 fG_X11_109 e113 ?_
          obtain ⟨v116, e116, h⟩ := bO_some h
          refine ww_getR 116 X dX11_makeSealedKey_116 fG_X11_550 e116 ?_
          refine ww_aload_n 119 X dX11_makeSealedKey_119 1 rfl rfl ?_
          obtain ⟨v120, e120, h⟩ := bO_some h
          refine ww_getR 120 X dX11_makeSealedKey_120 fG_X11_456 e120 ?_
          refine ww_aload_n 123 X dX11_makeSealedKey_123 1 rfl rfl ?_
          obtain ⟨v124, e124, h⟩ := bO_some h
          refine ww_getR 124 X dX11_makeSealedKey_124 fG_X11_316 e124 ?_
          refine ww_aload_n 127 X dX11_makeSealedKey_127 0 rfl rfl ?_
          obtain ⟨v128, e128, h⟩ := bO_some h
          refine ww_getR 128 X dX11_makeSealedKey_128 fG_X11_109 e128 ?_
          obtain ⟨v131, e131, h⟩ := bO_some h
          refine ww_getR 131 X dX11_makeSealedKey_131 fG_X11_431 e131 ?_
          obtain ⟨_, f134, h⟩ := bO_some h
          obtain ⟨M134, e134, h⟩ := bO_some h
          refine ww_callVV0 134 X dX11_makeSealedKey_134 mY_X8_sealOaep mL_X11_553 (rcv_spec f134) ⟨_, _, rfl⟩ (by decide) (As := [.ref v109, .ref v116, .ref v120, .ref v124, .ref v131]) (rest := []) rfl rfl ⟨Nat.le_of_ble_eq_true rfl, Nat.le_of_ble_eq_true rfl⟩ (Nat.le_of_ble_eq_true rfl) (fun l D A => c_X8_sealOaep l D A e134) ?_
          refine ww_goto 137 216 X dX11_makeSealedKey_137 (by decide) ?_
          exact ww_vretE 216 X hQ dX11_makeSealedKey_216 h
        · replace h := (if_neg q3).symm.trans h
          by_cases q4 : v42 = (4 : Int32)
          · replace h := (if_pos q4).symm.trans h
            refine ww_tableIn 45 140 X dX11_makeSealedKey_45 (off := 95) (by rw [q4]; decide) (by rw [q4]; decide) (by rw [q4]; decide) (by decide) ?_
            refine ww_aload_n 140 X dX11_makeSealedKey_140 0 rfl rfl ?_
            obtain ⟨v141, e141, h⟩ := bO_some h
            refine ww_getR 141 X dX11_makeSealedKey_141 fG_X11_109 e141 ?_
            obtain ⟨v144, e144, h⟩ := bO_some h
            refine ww_getR 144 X dX11_makeSealedKey_144 fG_X11_425 e144 ?_
            refine ww_aload_n 147 X dX11_makeSealedKey_147 0 rfl rfl ?_
            obtain ⟨v148, e148, h⟩ := bO_some h
            refine ww_getR 148 X dX11_makeSealedKey_148 fG_X11_109 e148 ?_
            obtain ⟨v151, e151, h⟩ := bO_some h
            refine ww_getR 151 X dX11_makeSealedKey_151 fG_X11_530 e151 ?_
            obtain ⟨_, f154, h⟩ := bO_some h
            obtain ⟨M154, e154, h⟩ := bO_some h
            refine ww_callVV0 154 X dX11_makeSealedKey_154 mY_X0_become mL_X11_127 (rcv_spec f154) ⟨_, _, rfl⟩ (by decide) (As := [.ref v151]) (rest := []) rfl rfl ⟨Nat.le_of_ble_eq_true rfl, Nat.le_of_ble_eq_true rfl⟩ (Nat.le_of_ble_eq_true rfl) (fun l D A => c_X0_become l D A e154) ?_
            refine ww_goto 157 216 X dX11_makeSealedKey_157 (by decide) ?_
            exact ww_vretE 216 X hQ dX11_makeSealedKey_216 h
          · replace h := (if_neg q4).symm.trans h
            by_cases q5 : v42 = (5 : Int32)
            · replace h := (if_pos q5).symm.trans h
              refine ww_tableIn 45 160 X dX11_makeSealedKey_45 (off := 115) (by rw [q5]; decide) (by rw [q5]; decide) (by rw [q5]; decide) (by decide) ?_
              refine ww_aload_n 160 X dX11_makeSealedKey_160 0 rfl rfl ?_
              obtain ⟨v161, e161, h⟩ := bO_some h
              refine ww_getR 161 X dX11_makeSealedKey_161 fG_X11_77 e161 ?_
              refine ww_aload_n 164 X dX11_makeSealedKey_164 0 rfl rfl ?_
              obtain ⟨v165, e165, h⟩ := bO_some h
              refine ww_getR 165 X dX11_makeSealedKey_165 fG_X11_109 e165 ?_
              obtain ⟨v168, e168, h⟩ := bO_some h
              refine ww_getR 168 X dX11_makeSealedKey_168 fG_X11_530 e168 ?_
              refine ww_aload_n 171 X dX11_makeSealedKey_171 0 rfl rfl ?_
              obtain ⟨v172, e172, h⟩ := bO_some h
              refine ww_getR 172 X dX11_makeSealedKey_172 fG_X11_109 e172 ?_
              obtain ⟨v175, e175, h⟩ := bO_some h
              refine ww_getR 175 X dX11_makeSealedKey_175 fG_X11_425 e175 ?_
              refine ww_aload_n 178 X dX11_makeSealedKey_178 0 rfl rfl ?_
              obtain ⟨v179, e179, h⟩ := bO_some h
              refine ww_getR 179 X dX11_makeSealedKey_179 fG_X11_109 e179 ?_
              obtain ⟨v182, e182, h⟩ := bO_some h
              refine ww_getR 182 X dX11_makeSealedKey_182 fG_X11_431 e182 ?_
              obtain ⟨_, f185, h⟩ := bO_some h
              obtain ⟨M185, e185, h⟩ := bO_some h
              refine ww_callVV0 185 X dX11_makeSealedKey_185 mY_X1_putWrapped mL_X11_242 (rcv_spec f185) ⟨_, _, rfl⟩ (by decide) (As := [.ref v168, .ref v175, .ref v182]) (rest := []) rfl rfl ⟨Nat.le_of_ble_eq_true rfl, Nat.le_of_ble_eq_true rfl⟩ (Nat.le_of_ble_eq_true rfl) (fun l D A => c_X1_putWrapped l D A e185) ?_
              refine ww_goto 188 216 X dX11_makeSealedKey_188 (by decide) ?_
              exact ww_vretE 216 X hQ dX11_makeSealedKey_216 h
            · replace h := (if_neg q5).symm.trans h
              have z0 := lv_neT q0 (show (0 : Int32).toInt = 0 by decide)
              have z1 := lv_neT q1 (show (1 : Int32).toInt = 1 by decide)
              have z2 := lv_neT q2 (show (2 : Int32).toInt = 2 by decide)
              have z3 := lv_neT q3 (show (3 : Int32).toInt = 3 by decide)
              have z4 := lv_neT q4 (show (4 : Int32).toInt = 4 by decide)
              have z5 := lv_neT q5 (show (5 : Int32).toInt = 5 by decide)
              refine ww_tableOut 45 191 X dX11_makeSealedKey_45 (by omega) (by decide) ?_
              refine ww_aload_n 191 X dX11_makeSealedKey_191 0 rfl rfl ?_
              obtain ⟨v192, e192, h⟩ := bO_some h
              refine ww_getR 192 X dX11_makeSealedKey_192 fG_X11_77 e192 ?_
              refine ww_aload_n 195 X dX11_makeSealedKey_195 1 rfl rfl ?_
              obtain ⟨v196, e196, h⟩ := bO_some h
              refine ww_getR 196 X dX11_makeSealedKey_196 fG_X11_316 e196 ?_
              refine ww_aload_n 199 X dX11_makeSealedKey_199 0 rfl rfl ?_
              obtain ⟨v200, e200, h⟩ := bO_some h
              refine ww_getR 200 X dX11_makeSealedKey_200 fG_X11_109 e200 ?_
              obtain ⟨v203, e203, h⟩ := bO_some h
              refine ww_getR 203 X dX11_makeSealedKey_203 fG_X11_425 e203 ?_
              refine ww_aload_n 206 X dX11_makeSealedKey_206 0 rfl rfl ?_
              obtain ⟨v207, e207, h⟩ := bO_some h
              refine ww_getR 207 X dX11_makeSealedKey_207 fG_X11_109 e207 ?_
              obtain ⟨v210, e210, h⟩ := bO_some h
              refine ww_getR 210 X dX11_makeSealedKey_210 fG_X11_431 e210 ?_
              obtain ⟨_, f213, h⟩ := bO_some h
              obtain ⟨M213, e213, h⟩ := bO_some h
              refine ww_callVV0 213 X dX11_makeSealedKey_213 mY_X1_putWrapped mL_X11_242 (rcv_spec f213) ⟨_, _, rfl⟩ (by decide) (As := [.ref v196, .ref v203, .ref v210]) (rest := []) rfl rfl ⟨Nat.le_of_ble_eq_true rfl, Nat.le_of_ble_eq_true rfl⟩ (Nat.le_of_ble_eq_true rfl) (fun l D A => c_X1_putWrapped l D A e213) ?_
              exact ww_vretE 216 X hQ dX11_makeSealedKey_216 h
set_option maxHeartbeats 4000000 in
set_option maxRecDepth 100000 in
theorem wP_X11_makeSealedKey {G : Nat → Nat} {F : Nat} {x : mXT} {sz : Nat} {M0 : mM} (X : mCX G RX11 cX11_makeSealedKey 4 none "makeSealedKey" rmX11_makeSealedKey x) (hQ : mQV x M0 (sz, 0, 0)) {l0 : Nat} {l1 : Nat} {l2 : Nat} {l3 : Nat} {M : mM} (h : P_X11_makeSealedKey G F l0 l1 l2 l3 M = some M0) : WW x (sz, 0, 0) M 0 [(0, .ref l0), (1, .ref l1), (2, .ref l2), (3, .ref l3)] [] := by
  unfold P_X11_makeSealedKey at h
  refine ww_aload_n 0 X dX11_makeSealedKey_0 0 rfl rfl ?_
  obtain ⟨v1, e1, h⟩ := bO_some h
  refine ww_getR 1 X dX11_makeSealedKey_1 fG_X11_109 e1 ?_
  obtain ⟨v4, e4, h⟩ := bO_some h
  refine ww_getR 4 X dX11_makeSealedKey_4 fG_X11_431 e4 ?_
  obtain ⟨_, f7, h⟩ := bO_some h
  obtain ⟨M7, e7, h⟩ := bO_some h
  refine ww_callVV0 7 X dX11_makeSealedKey_7 mY_X0_clear mL_X11_131 (rcv_spec f7) ⟨_, _, rfl⟩ (by decide) (As := []) (rest := []) rfl rfl ⟨Nat.le_of_ble_eq_true rfl, Nat.le_of_ble_eq_true rfl⟩ (Nat.le_of_ble_eq_true rfl) (fun l D A => c_X0_clear l D A e7) ?_
  refine ww_aload_n 10 X dX11_makeSealedKey_10 0 rfl rfl ?_
  obtain ⟨v11, e11, h⟩ := bO_some h
  refine ww_getR 11 X dX11_makeSealedKey_11 fG_X11_109 e11 ?_
  obtain ⟨v14, e14, h⟩ := bO_some h
  refine ww_getI 14 X dX11_makeSealedKey_14 fG_X11_351 e14 ?_
  refine ww_iconst 17 X (v := (4 : Int32)) dX11_makeSealedKey_17 (by decide) ?_
  refine ww_icmp_lt 18 38 X dX11_makeSealedKey_18 (by decide) (fun q => ?_) (fun q => ?_)
  · replace h := (if_pos q).symm.trans h
    exact ww_sub [0, 1] rfl (wB_X11_makeSealedKey_38 X hQ h)
  · replace h := (if_neg q).symm.trans h
    refine ww_aload_n 21 X dX11_makeSealedKey_21 0 rfl rfl ?_
    refine ww_aload_n 22 X dX11_makeSealedKey_22 0 rfl rfl ?_
    obtain ⟨v23, e23, h⟩ := bO_some h
    refine ww_getR 23 X dX11_makeSealedKey_23 fG_X11_109 e23 ?_
    obtain ⟨v26, e26, h⟩ := bO_some h
    refine ww_getR 26 X dX11_makeSealedKey_26 fG_X11_406 e26 ?_
    refine ww_aload_n 29 X dX11_makeSealedKey_29 1 rfl rfl ?_
    obtain ⟨v30, e30, h⟩ := bO_some h
    refine ww_getR 30 X dX11_makeSealedKey_30 fG_X11_316 e30 ?_
    refine ww_aload_n 33 X dX11_makeSealedKey_33 2 rfl rfl ?_
    refine ww_aload_n 34 X dX11_makeSealedKey_34 3 rfl rfl ?_
    obtain ⟨_, f35, h⟩ := bO_some h
    obtain ⟨M35, e35, h⟩ := bO_some h
    refine ww_callVV0 35 X dX11_makeSealedKey_35 mY_X11_agree mL_X11_547 (rcv_spec f35) ⟨_, _, rfl⟩ (by decide) (As := [.ref v26, .ref v30, .ref l2, .ref l3]) (rest := []) rfl rfl ⟨Nat.le_of_ble_eq_true rfl, Nat.le_of_ble_eq_true rfl⟩ (Nat.le_of_ble_eq_true rfl) (fun l D A => c_X11_agree l D A e35) ?_
    exact ww_sub [0, 1] rfl (wB_X11_makeSealedKey_38 X hQ h)
theorem c_X11_makeSealedKey {G : Nat → Nat} {F sz : Nat} {M0 : mM} (l : Launch) (D : mD) (A : Nat → Prop) {l0 : Nat} {l1 : Nat} {l2 : Nat} {l3 : Nat} {M : mM} (h : P_X11_makeSealedKey G F l0 l1 l2 l3 M = some M0) : mMetV l D G A yX11_makeSealedKey cX11_makeSealedKey 4 none 6 193 0 0 [.ref l0, .ref l1, .ref l2, .ref l3] M sz M0 sz := mMetV_of l D G A (by decide) (Nat.le_of_ble_eq_true rfl) (fun x X hQ => wP_X11_makeSealedKey X hQ h)
/-! SealedTokens.encrypt(IIIIIII)I -/
theorem dX11_encrypt_0 : decode cX11_encrypt 0 = .ok (.aload_n 0, 1) := by decide +kernel
theorem dX11_encrypt_1 : decode cX11_encrypt 1 = .ok (.iload_n 1, 1) := by decide +kernel
theorem dX11_encrypt_2 : decode cX11_encrypt 2 = .ok (.invokevirtual 311, 3) := by decide +kernel
theorem dX11_encrypt_5 : decode cX11_encrypt 5 = .ok (.ifCond .eq 40, 3) := by decide +kernel
theorem dX11_encrypt_8 : decode cX11_encrypt 8 = .ok (.iload_n 2, 1) := by decide +kernel
theorem dX11_encrypt_9 : decode cX11_encrypt 9 = .ok (.ifCond .lt 36, 3) := by decide +kernel
theorem dX11_encrypt_12 : decode cX11_encrypt 12 = .ok (.iload_n 2, 1) := by decide +kernel
theorem dX11_encrypt_13 : decode cX11_encrypt 13 = .ok (.bipush 6, 2) := by decide +kernel
theorem dX11_encrypt_15 : decode cX11_encrypt 15 = .ok (.if_icmp .ge 30, 3) := by decide +kernel
theorem dX11_encrypt_18 : decode cX11_encrypt 18 = .ok (.iload_n 3, 1) := by decide +kernel
theorem dX11_encrypt_19 : decode cX11_encrypt 19 = .ok (.ifCond .lt 26, 3) := by decide +kernel
theorem dX11_encrypt_22 : decode cX11_encrypt 22 = .ok (.iload_n 3, 1) := by decide +kernel
theorem dX11_encrypt_23 : decode cX11_encrypt 23 = .ok (.iconst 4, 1) := by decide +kernel
theorem dX11_encrypt_24 : decode cX11_encrypt 24 = .ok (.if_icmp .ge 21, 3) := by decide +kernel
theorem dX11_encrypt_27 : decode cX11_encrypt 27 = .ok (.aload_n 0, 1) := by decide +kernel
theorem dX11_encrypt_28 : decode cX11_encrypt 28 = .ok (.iload 4, 2) := by decide +kernel
theorem dX11_encrypt_30 : decode cX11_encrypt 30 = .ok (.invokevirtual 123, 3) := by decide +kernel
theorem dX11_encrypt_33 : decode cX11_encrypt 33 = .ok (.ifCond .eq 12, 3) := by decide +kernel
theorem dX11_encrypt_36 : decode cX11_encrypt 36 = .ok (.aload_n 0, 1) := by decide +kernel
theorem dX11_encrypt_37 : decode cX11_encrypt 37 = .ok (.iload 5, 2) := by decide +kernel
theorem dX11_encrypt_39 : decode cX11_encrypt 39 = .ok (.invokevirtual 123, 3) := by decide +kernel
theorem dX11_encrypt_42 : decode cX11_encrypt 42 = .ok (.ifCond .ne 6, 3) := by decide +kernel
theorem dX11_encrypt_45 : decode cX11_encrypt 45 = .ok (.bipush (-2), 2) := by decide +kernel
theorem dX11_encrypt_47 : decode cX11_encrypt 47 = .ok (.ireturn, 1) := by decide +kernel
theorem dX11_encrypt_48 : decode cX11_encrypt 48 = .ok (.iload_n 2, 1) := by decide +kernel
theorem dX11_encrypt_49 : decode cX11_encrypt 49 = .ok (.iconst 4, 1) := by decide +kernel
theorem dX11_encrypt_50 : decode cX11_encrypt 50 = .ok (.if_icmp .lt 24, 3) := by decide +kernel
theorem dX11_encrypt_53 : decode cX11_encrypt 53 = .ok (.aload_n 0, 1) := by decide +kernel
theorem dX11_encrypt_54 : decode cX11_encrypt 54 = .ok (.iload 6, 2) := by decide +kernel
theorem dX11_encrypt_56 : decode cX11_encrypt 56 = .ok (.invokevirtual 337, 3) := by decide +kernel
theorem dX11_encrypt_59 : decode cX11_encrypt 59 = .ok (.ifCond .eq 12, 3) := by decide +kernel
theorem dX11_encrypt_62 : decode cX11_encrypt 62 = .ok (.aload_n 0, 1) := by decide +kernel
theorem dX11_encrypt_63 : decode cX11_encrypt 63 = .ok (.iload 7, 2) := by decide +kernel
theorem dX11_encrypt_65 : decode cX11_encrypt 65 = .ok (.invokevirtual 337, 3) := by decide +kernel
theorem dX11_encrypt_68 : decode cX11_encrypt 68 = .ok (.ifCond .ne 6, 3) := by decide +kernel
theorem dX11_encrypt_71 : decode cX11_encrypt 71 = .ok (.bipush (-2), 2) := by decide +kernel
theorem dX11_encrypt_73 : decode cX11_encrypt 73 = .ok (.ireturn, 1) := by decide +kernel
theorem dX11_encrypt_74 : decode cX11_encrypt 74 = .ok (.aload_n 0, 1) := by decide +kernel
theorem dX11_encrypt_75 : decode cX11_encrypt 75 = .ok (.getfield 58, 3) := by decide +kernel
theorem dX11_encrypt_78 : decode cX11_encrypt 78 = .ok (.iload_n 1, 1) := by decide +kernel
theorem dX11_encrypt_79 : decode cX11_encrypt 79 = .ok (.aaload, 1) := by decide +kernel
theorem dX11_encrypt_80 : decode cX11_encrypt 80 = .ok (.astore 8, 2) := by decide +kernel
theorem dX11_encrypt_82 : decode cX11_encrypt 82 = .ok (.aload 8, 2) := by decide +kernel
theorem dX11_encrypt_84 : decode cX11_encrypt 84 = .ok (.iload_n 2, 1) := by decide +kernel
theorem dX11_encrypt_85 : decode cX11_encrypt 85 = .ok (.iload_n 3, 1) := by decide +kernel
theorem dX11_encrypt_86 : decode cX11_encrypt 86 = .ok (.iconst 0, 1) := by decide +kernel
theorem dX11_encrypt_87 : decode cX11_encrypt 87 = .ok (.invokevirtual 398, 3) := by decide +kernel
theorem dX11_encrypt_90 : decode cX11_encrypt 90 = .ok (.ifCond .ne 6, 3) := by decide +kernel
theorem dX11_encrypt_93 : decode cX11_encrypt 93 = .ok (.bipush (-26), 2) := by decide +kernel
theorem dX11_encrypt_95 : decode cX11_encrypt 95 = .ok (.ireturn, 1) := by decide +kernel
theorem dX11_encrypt_96 : decode cX11_encrypt 96 = .ok (.aload_n 0, 1) := by decide +kernel
theorem dX11_encrypt_97 : decode cX11_encrypt 97 = .ok (.getfield 109, 3) := by decide +kernel
theorem dX11_encrypt_100 : decode cX11_encrypt 100 = .ok (.iload_n 2, 1) := by decide +kernel
theorem dX11_encrypt_101 : decode cX11_encrypt 101 = .ok (.iload_n 3, 1) := by decide +kernel
theorem dX11_encrypt_102 : decode cX11_encrypt 102 = .ok (.aload_n 0, 1) := by decide +kernel
theorem dX11_encrypt_103 : decode cX11_encrypt 103 = .ok (.getfield 11, 3) := by decide +kernel
theorem dX11_encrypt_106 : decode cX11_encrypt 106 = .ok (.iload 5, 2) := by decide +kernel
theorem dX11_encrypt_108 : decode cX11_encrypt 108 = .ok (.aaload, 1) := by decide +kernel
theorem dX11_encrypt_109 : decode cX11_encrypt 109 = .ok (.invokevirtual 402, 3) := by decide +kernel
theorem dX11_encrypt_112 : decode cX11_encrypt 112 = .ok (.ifCond .eq 26, 3) := by decide +kernel
theorem dX11_encrypt_115 : decode cX11_encrypt 115 = .ok (.iload_n 2, 1) := by decide +kernel
theorem dX11_encrypt_116 : decode cX11_encrypt 116 = .ok (.iconst 4, 1) := by decide +kernel
theorem dX11_encrypt_117 : decode cX11_encrypt 117 = .ok (.if_icmp .lt 24, 3) := by decide +kernel
theorem dX11_encrypt_120 : decode cX11_encrypt 120 = .ok (.aload_n 0, 1) := by decide +kernel
theorem dX11_encrypt_121 : decode cX11_encrypt 121 = .ok (.getfield 102, 3) := by decide +kernel
theorem dX11_encrypt_124 : decode cX11_encrypt 124 = .ok (.aload_n 0, 1) := by decide +kernel
theorem dX11_encrypt_125 : decode cX11_encrypt 125 = .ok (.getfield 109, 3) := by decide +kernel
theorem dX11_encrypt_128 : decode cX11_encrypt 128 = .ok (.getfield 406, 3) := by decide +kernel
theorem dX11_encrypt_131 : decode cX11_encrypt 131 = .ok (.iconst 0, 1) := by decide +kernel
theorem dX11_encrypt_132 : decode cX11_encrypt 132 = .ok (.invokevirtual 409, 3) := by decide +kernel
theorem dX11_encrypt_135 : decode cX11_encrypt 135 = .ok (.ifCond .ne 6, 3) := by decide +kernel
theorem dX11_encrypt_138 : decode cX11_encrypt 138 = .ok (.bipush (-4), 2) := by decide +kernel
theorem dX11_encrypt_140 : decode cX11_encrypt 140 = .ok (.ireturn, 1) := by decide +kernel
theorem dX11_encrypt_141 : decode cX11_encrypt 141 = .ok (.iload_n 2, 1) := by decide +kernel
theorem dX11_encrypt_142 : decode cX11_encrypt 142 = .ok (.iconst 4, 1) := by decide +kernel
theorem dX11_encrypt_143 : decode cX11_encrypt 143 = .ok (.if_icmp .lt 50, 3) := by decide +kernel
theorem dX11_encrypt_146 : decode cX11_encrypt 146 = .ok (.aload_n 0, 1) := by decide +kernel
theorem dX11_encrypt_147 : decode cX11_encrypt 147 = .ok (.getfield 102, 3) := by decide +kernel
theorem dX11_encrypt_150 : decode cX11_encrypt 150 = .ok (.aload_n 0, 1) := by decide +kernel
theorem dX11_encrypt_151 : decode cX11_encrypt 151 = .ok (.getfield 109, 3) := by decide +kernel
theorem dX11_encrypt_154 : decode cX11_encrypt 154 = .ok (.getfield 406, 3) := by decide +kernel
theorem dX11_encrypt_157 : decode cX11_encrypt 157 = .ok (.aload_n 0, 1) := by decide +kernel
theorem dX11_encrypt_158 : decode cX11_encrypt 158 = .ok (.getfield 102, 3) := by decide +kernel
theorem dX11_encrypt_161 : decode cX11_encrypt 161 = .ok (.getfield 282, 3) := by decide +kernel
theorem dX11_encrypt_164 : decode cX11_encrypt 164 = .ok (.aload_n 0, 1) := by decide +kernel
theorem dX11_encrypt_165 : decode cX11_encrypt 165 = .ok (.getfield 25, 3) := by decide +kernel
theorem dX11_encrypt_168 : decode cX11_encrypt 168 = .ok (.aload_n 0, 1) := by decide +kernel
theorem dX11_encrypt_169 : decode cX11_encrypt 169 = .ok (.getfield 102, 3) := by decide +kernel
theorem dX11_encrypt_172 : decode cX11_encrypt 172 = .ok (.getfield 282, 3) := by decide +kernel
theorem dX11_encrypt_175 : decode cX11_encrypt 175 = .ok (.invokevirtual 289, 3) := by decide +kernel
theorem dX11_encrypt_178 : decode cX11_encrypt 178 = .ok (.aload_n 0, 1) := by decide +kernel
theorem dX11_encrypt_179 : decode cX11_encrypt 179 = .ok (.getfield 102, 3) := by decide +kernel
theorem dX11_encrypt_182 : decode cX11_encrypt 182 = .ok (.aload_n 0, 1) := by decide +kernel
theorem dX11_encrypt_183 : decode cX11_encrypt 183 = .ok (.getfield 109, 3) := by decide +kernel
theorem dX11_encrypt_186 : decode cX11_encrypt 186 = .ok (.getfield 412, 3) := by decide +kernel
theorem dX11_encrypt_189 : decode cX11_encrypt 189 = .ok (.invokevirtual 293, 3) := by decide +kernel
theorem dX11_encrypt_192 : decode cX11_encrypt 192 = .ok (.pop, 1) := by decide +kernel
theorem dX11_encrypt_193 : decode cX11_encrypt 193 = .ok (.aload_n 0, 1) := by decide +kernel
theorem dX11_encrypt_194 : decode cX11_encrypt 194 = .ok (.getfield 109, 3) := by decide +kernel
theorem dX11_encrypt_197 : decode cX11_encrypt 197 = .ok (.aload 8, 2) := by decide +kernel
theorem dX11_encrypt_199 : decode cX11_encrypt 199 = .ok (.aload_n 0, 1) := by decide +kernel
theorem dX11_encrypt_200 : decode cX11_encrypt 200 = .ok (.iload 6, 2) := by decide +kernel
theorem dX11_encrypt_202 : decode cX11_encrypt 202 = .ok (.invokevirtual 123, 3) := by decide +kernel
theorem dX11_encrypt_205 : decode cX11_encrypt 205 = .ok (.ifCond .eq 13, 3) := by decide +kernel
theorem dX11_encrypt_208 : decode cX11_encrypt 208 = .ok (.aload_n 0, 1) := by decide +kernel
theorem dX11_encrypt_209 : decode cX11_encrypt 209 = .ok (.getfield 11, 3) := by decide +kernel
theorem dX11_encrypt_212 : decode cX11_encrypt 212 = .ok (.iload 6, 2) := by decide +kernel
theorem dX11_encrypt_214 : decode cX11_encrypt 214 = .ok (.aaload, 1) := by decide +kernel
theorem dX11_encrypt_215 : decode cX11_encrypt 215 = .ok (.goto 4, 3) := by decide +kernel
theorem dX11_encrypt_218 : decode cX11_encrypt 218 = .ok (.aconst_null, 1) := by decide +kernel
theorem dX11_encrypt_219 : decode cX11_encrypt 219 = .ok (.aload_n 0, 1) := by decide +kernel
theorem dX11_encrypt_220 : decode cX11_encrypt 220 = .ok (.iload 7, 2) := by decide +kernel
theorem dX11_encrypt_222 : decode cX11_encrypt 222 = .ok (.invokevirtual 123, 3) := by decide +kernel
theorem dX11_encrypt_225 : decode cX11_encrypt 225 = .ok (.ifCond .eq 13, 3) := by decide +kernel
theorem dX11_encrypt_228 : decode cX11_encrypt 228 = .ok (.aload_n 0, 1) := by decide +kernel
theorem dX11_encrypt_229 : decode cX11_encrypt 229 = .ok (.getfield 11, 3) := by decide +kernel
theorem dX11_encrypt_232 : decode cX11_encrypt 232 = .ok (.iload 7, 2) := by decide +kernel
theorem dX11_encrypt_234 : decode cX11_encrypt 234 = .ok (.aaload, 1) := by decide +kernel
theorem dX11_encrypt_235 : decode cX11_encrypt 235 = .ok (.goto 4, 3) := by decide +kernel
theorem dX11_encrypt_238 : decode cX11_encrypt 238 = .ok (.aconst_null, 1) := by decide +kernel
theorem dX11_encrypt_239 : decode cX11_encrypt 239 = .ok (.invokevirtual 415, 3) := by decide +kernel
theorem dX11_encrypt_242 : decode cX11_encrypt 242 = .ok (.aload_n 0, 1) := by decide +kernel
theorem dX11_encrypt_243 : decode cX11_encrypt 243 = .ok (.aload 8, 2) := by decide +kernel
theorem dX11_encrypt_245 : decode cX11_encrypt 245 = .ok (.aload_n 0, 1) := by decide +kernel
theorem dX11_encrypt_246 : decode cX11_encrypt 246 = .ok (.iload 6, 2) := by decide +kernel
theorem dX11_encrypt_248 : decode cX11_encrypt 248 = .ok (.invokevirtual 123, 3) := by decide +kernel
theorem dX11_encrypt_251 : decode cX11_encrypt 251 = .ok (.ifCond .eq 13, 3) := by decide +kernel
theorem dX11_encrypt_254 : decode cX11_encrypt 254 = .ok (.aload_n 0, 1) := by decide +kernel
theorem dX11_encrypt_255 : decode cX11_encrypt 255 = .ok (.getfield 11, 3) := by decide +kernel
theorem dX11_encrypt_258 : decode cX11_encrypt 258 = .ok (.iload 6, 2) := by decide +kernel
theorem dX11_encrypt_260 : decode cX11_encrypt 260 = .ok (.aaload, 1) := by decide +kernel
theorem dX11_encrypt_261 : decode cX11_encrypt 261 = .ok (.goto 7, 3) := by decide +kernel
theorem dX11_encrypt_264 : decode cX11_encrypt 264 = .ok (.aload_n 0, 1) := by decide +kernel
theorem dX11_encrypt_265 : decode cX11_encrypt 265 = .ok (.getfield 25, 3) := by decide +kernel
theorem dX11_encrypt_268 : decode cX11_encrypt 268 = .ok (.aload_n 0, 1) := by decide +kernel
theorem dX11_encrypt_269 : decode cX11_encrypt 269 = .ok (.iload 7, 2) := by decide +kernel
theorem dX11_encrypt_271 : decode cX11_encrypt 271 = .ok (.invokevirtual 123, 3) := by decide +kernel
theorem dX11_encrypt_274 : decode cX11_encrypt 274 = .ok (.ifCond .eq 13, 3) := by decide +kernel
theorem dX11_encrypt_277 : decode cX11_encrypt 277 = .ok (.aload_n 0, 1) := by decide +kernel
theorem dX11_encrypt_278 : decode cX11_encrypt 278 = .ok (.getfield 11, 3) := by decide +kernel
theorem dX11_encrypt_281 : decode cX11_encrypt 281 = .ok (.iload 7, 2) := by decide +kernel
theorem dX11_encrypt_283 : decode cX11_encrypt 283 = .ok (.aaload, 1) := by decide +kernel
theorem dX11_encrypt_284 : decode cX11_encrypt 284 = .ok (.goto 7, 3) := by decide +kernel
theorem dX11_encrypt_287 : decode cX11_encrypt 287 = .ok (.aload_n 0, 1) := by decide +kernel
theorem dX11_encrypt_288 : decode cX11_encrypt 288 = .ok (.getfield 25, 3) := by decide +kernel
theorem dX11_encrypt_291 : decode cX11_encrypt 291 = .ok (.invokevirtual 419, 3) := by decide +kernel
theorem dX11_encrypt_294 : decode cX11_encrypt 294 = .ok (.aload_n 0, 1) := by decide +kernel
theorem dX11_encrypt_295 : decode cX11_encrypt 295 = .ok (.getfield 109, 3) := by decide +kernel
theorem dX11_encrypt_298 : decode cX11_encrypt 298 = .ok (.getfield 352, 3) := by decide +kernel
theorem dX11_encrypt_301 : decode cX11_encrypt 301 = .ok (.getfield 198, 3) := by decide +kernel
theorem dX11_encrypt_304 : decode cX11_encrypt 304 = .ok (.ifCond .ne 26, 3) := by decide +kernel
theorem dX11_encrypt_307 : decode cX11_encrypt 307 = .ok (.aload_n 0, 1) := by decide +kernel
theorem dX11_encrypt_308 : decode cX11_encrypt 308 = .ok (.getfield 109, 3) := by decide +kernel
theorem dX11_encrypt_311 : decode cX11_encrypt 311 = .ok (.aload_n 0, 1) := by decide +kernel
theorem dX11_encrypt_312 : decode cX11_encrypt 312 = .ok (.getfield 11, 3) := by decide +kernel
theorem dX11_encrypt_315 : decode cX11_encrypt 315 = .ok (.iload 4, 2) := by decide +kernel
theorem dX11_encrypt_317 : decode cX11_encrypt 317 = .ok (.aaload, 1) := by decide +kernel
theorem dX11_encrypt_318 : decode cX11_encrypt 318 = .ok (.getfield 113, 3) := by decide +kernel
theorem dX11_encrypt_321 : decode cX11_encrypt 321 = .ok (.invokevirtual 422, 3) := by decide +kernel
theorem dX11_encrypt_324 : decode cX11_encrypt 324 = .ok (.sipush 8192, 3) := by decide +kernel
theorem dX11_encrypt_327 : decode cX11_encrypt 327 = .ok (.if_icmp .le 6, 3) := by decide +kernel
theorem dX11_encrypt_330 : decode cX11_encrypt 330 = .ok (.bipush (-3), 2) := by decide +kernel
theorem dX11_encrypt_332 : decode cX11_encrypt 332 = .ok (.ireturn, 1) := by decide +kernel
theorem dX11_encrypt_333 : decode cX11_encrypt 333 = .ok (.aload_n 0, 1) := by decide +kernel
theorem dX11_encrypt_334 : decode cX11_encrypt 334 = .ok (.getfield 28, 3) := by decide +kernel
theorem dX11_encrypt_337 : decode cX11_encrypt 337 = .ok (.invokevirtual 131, 3) := by decide +kernel
theorem dX11_encrypt_340 : decode cX11_encrypt 340 = .ok (.aload_n 0, 1) := by decide +kernel
theorem dX11_encrypt_341 : decode cX11_encrypt 341 = .ok (.getfield 28, 3) := by decide +kernel
theorem dX11_encrypt_344 : decode cX11_encrypt 344 = .ok (.aload_n 0, 1) := by decide +kernel
theorem dX11_encrypt_345 : decode cX11_encrypt 345 = .ok (.getfield 109, 3) := by decide +kernel
theorem dX11_encrypt_348 : decode cX11_encrypt 348 = .ok (.getfield 352, 3) := by decide +kernel
theorem dX11_encrypt_351 : decode cX11_encrypt 351 = .ok (.iconst 0, 1) := by decide +kernel
theorem dX11_encrypt_352 : decode cX11_encrypt 352 = .ok (.aload_n 0, 1) := by decide +kernel
theorem dX11_encrypt_353 : decode cX11_encrypt 353 = .ok (.getfield 109, 3) := by decide +kernel
theorem dX11_encrypt_356 : decode cX11_encrypt 356 = .ok (.getfield 352, 3) := by decide +kernel
theorem dX11_encrypt_359 : decode cX11_encrypt 359 = .ok (.getfield 113, 3) := by decide +kernel
theorem dX11_encrypt_362 : decode cX11_encrypt 362 = .ok (.invokevirtual 205, 3) := by decide +kernel
theorem dX11_encrypt_365 : decode cX11_encrypt 365 = .ok (.aload_n 0, 1) := by decide +kernel
theorem dX11_encrypt_366 : decode cX11_encrypt 366 = .ok (.getfield 86, 3) := by decide +kernel
theorem dX11_encrypt_369 : decode cX11_encrypt 369 = .ok (.iload_n 3, 1) := by decide +kernel
theorem dX11_encrypt_370 : decode cX11_encrypt 370 = .ok (.aload_n 0, 1) := by decide +kernel
theorem dX11_encrypt_371 : decode cX11_encrypt 371 = .ok (.getfield 109, 3) := by decide +kernel
theorem dX11_encrypt_374 : decode cX11_encrypt 374 = .ok (.getfield 425, 3) := by decide +kernel
theorem dX11_encrypt_377 : decode cX11_encrypt 377 = .ok (.aload_n 0, 1) := by decide +kernel
theorem dX11_encrypt_378 : decode cX11_encrypt 378 = .ok (.getfield 109, 3) := by decide +kernel
theorem dX11_encrypt_381 : decode cX11_encrypt 381 = .ok (.getfield 428, 3) := by decide +kernel
theorem dX11_encrypt_384 : decode cX11_encrypt 384 = .ok (.aload_n 0, 1) := by decide +kernel
theorem dX11_encrypt_385 : decode cX11_encrypt 385 = .ok (.getfield 28, 3) := by decide +kernel
theorem dX11_encrypt_388 : decode cX11_encrypt 388 = .ok (.aload_n 0, 1) := by decide +kernel
theorem dX11_encrypt_389 : decode cX11_encrypt 389 = .ok (.getfield 11, 3) := by decide +kernel
theorem dX11_encrypt_392 : decode cX11_encrypt 392 = .ok (.iload 4, 2) := by decide +kernel
theorem dX11_encrypt_394 : decode cX11_encrypt 394 = .ok (.aaload, 1) := by decide +kernel
theorem dX11_encrypt_395 : decode cX11_encrypt 395 = .ok (.aload_n 0, 1) := by decide +kernel
theorem dX11_encrypt_396 : decode cX11_encrypt 396 = .ok (.getfield 31, 3) := by decide +kernel
theorem dX11_encrypt_399 : decode cX11_encrypt 399 = .ok (.invokevirtual 261, 3) := by decide +kernel
theorem dX11_encrypt_402 : decode cX11_encrypt 402 = .ok (.aload_n 0, 1) := by decide +kernel
theorem dX11_encrypt_403 : decode cX11_encrypt 403 = .ok (.getfield 28, 3) := by decide +kernel
theorem dX11_encrypt_406 : decode cX11_encrypt 406 = .ok (.aload_n 0, 1) := by decide +kernel
theorem dX11_encrypt_407 : decode cX11_encrypt 407 = .ok (.getfield 109, 3) := by decide +kernel
theorem dX11_encrypt_410 : decode cX11_encrypt 410 = .ok (.getfield 431, 3) := by decide +kernel
theorem dX11_encrypt_413 : decode cX11_encrypt 413 = .ok (.iconst 0, 1) := by decide +kernel
theorem dX11_encrypt_414 : decode cX11_encrypt 414 = .ok (.aload_n 0, 1) := by decide +kernel
theorem dX11_encrypt_415 : decode cX11_encrypt 415 = .ok (.getfield 109, 3) := by decide +kernel
theorem dX11_encrypt_418 : decode cX11_encrypt 418 = .ok (.getfield 431, 3) := by decide +kernel
theorem dX11_encrypt_421 : decode cX11_encrypt 421 = .ok (.getfield 113, 3) := by decide +kernel
theorem dX11_encrypt_424 : decode cX11_encrypt 424 = .ok (.invokevirtual 434, 3) := by decide +kernel
theorem dX11_encrypt_427 : decode cX11_encrypt 427 = .ok (.aload_n 0, 1) := by decide +kernel
theorem dX11_encrypt_428 : decode cX11_encrypt 428 = .ok (.getfield 28, 3) := by decide +kernel
theorem dX11_encrypt_431 : decode cX11_encrypt 431 = .ok (.aload_n 0, 1) := by decide +kernel
theorem dX11_encrypt_432 : decode cX11_encrypt 432 = .ok (.getfield 109, 3) := by decide +kernel
theorem dX11_encrypt_435 : decode cX11_encrypt 435 = .ok (.getfield 428, 3) := by decide +kernel
theorem dX11_encrypt_438 : decode cX11_encrypt 438 = .ok (.iconst 0, 1) := by decide +kernel
theorem dX11_encrypt_439 : decode cX11_encrypt 439 = .ok (.aload_n 0, 1) := by decide +kernel
theorem dX11_encrypt_440 : decode cX11_encrypt 440 = .ok (.getfield 109, 3) := by decide +kernel
theorem dX11_encrypt_443 : decode cX11_encrypt 443 = .ok (.getfield 428, 3) := by decide +kernel
theorem dX11_encrypt_446 : decode cX11_encrypt 446 = .ok (.getfield 113, 3) := by decide +kernel
theorem dX11_encrypt_449 : decode cX11_encrypt 449 = .ok (.invokevirtual 434, 3) := by decide +kernel
theorem dX11_encrypt_452 : decode cX11_encrypt 452 = .ok (.aload_n 0, 1) := by decide +kernel
theorem dX11_encrypt_453 : decode cX11_encrypt 453 = .ok (.getfield 28, 3) := by decide +kernel
theorem dX11_encrypt_456 : decode cX11_encrypt 456 = .ok (.aload_n 0, 1) := by decide +kernel
theorem dX11_encrypt_457 : decode cX11_encrypt 457 = .ok (.getfield 31, 3) := by decide +kernel
theorem dX11_encrypt_460 : decode cX11_encrypt 460 = .ok (.iconst 0, 1) := by decide +kernel
theorem dX11_encrypt_461 : decode cX11_encrypt 461 = .ok (.aload_n 0, 1) := by decide +kernel
theorem dX11_encrypt_462 : decode cX11_encrypt 462 = .ok (.getfield 31, 3) := by decide +kernel
theorem dX11_encrypt_465 : decode cX11_encrypt 465 = .ok (.getfield 113, 3) := by decide +kernel
theorem dX11_encrypt_468 : decode cX11_encrypt 468 = .ok (.getstatic 258, 3) := by decide +kernel
theorem dX11_encrypt_471 : decode cX11_encrypt 471 = .ok (.iload_n 3, 1) := by decide +kernel
theorem dX11_encrypt_472 : decode cX11_encrypt 472 = .ok (.iaload, 1) := by decide +kernel
theorem dX11_encrypt_473 : decode cX11_encrypt 473 = .ok (.isub, 1) := by decide +kernel
theorem dX11_encrypt_474 : decode cX11_encrypt 474 = .ok (.invokevirtual 434, 3) := by decide +kernel
theorem dX11_encrypt_477 : decode cX11_encrypt 477 = .ok (.aload_n 0, 1) := by decide +kernel
theorem dX11_encrypt_478 : decode cX11_encrypt 478 = .ok (.getfield 28, 3) := by decide +kernel
theorem dX11_encrypt_481 : decode cX11_encrypt 481 = .ok (.aload_n 0, 1) := by decide +kernel
theorem dX11_encrypt_482 : decode cX11_encrypt 482 = .ok (.getfield 31, 3) := by decide +kernel
theorem dX11_encrypt_485 : decode cX11_encrypt 485 = .ok (.aload_n 0, 1) := by decide +kernel
theorem dX11_encrypt_486 : decode cX11_encrypt 486 = .ok (.getfield 31, 3) := by decide +kernel
theorem dX11_encrypt_489 : decode cX11_encrypt 489 = .ok (.getfield 113, 3) := by decide +kernel
theorem dX11_encrypt_492 : decode cX11_encrypt 492 = .ok (.getstatic 258, 3) := by decide +kernel
theorem dX11_encrypt_495 : decode cX11_encrypt 495 = .ok (.iload_n 3, 1) := by decide +kernel
theorem dX11_encrypt_496 : decode cX11_encrypt 496 = .ok (.iaload, 1) := by decide +kernel
theorem dX11_encrypt_497 : decode cX11_encrypt 497 = .ok (.isub, 1) := by decide +kernel
theorem dX11_encrypt_498 : decode cX11_encrypt 498 = .ok (.aload_n 0, 1) := by decide +kernel
theorem dX11_encrypt_499 : decode cX11_encrypt 499 = .ok (.getfield 31, 3) := by decide +kernel
theorem dX11_encrypt_502 : decode cX11_encrypt 502 = .ok (.getfield 113, 3) := by decide +kernel
theorem dX11_encrypt_505 : decode cX11_encrypt 505 = .ok (.invokevirtual 434, 3) := by decide +kernel
theorem dX11_encrypt_508 : decode cX11_encrypt 508 = .ok (.aload_n 0, 1) := by decide +kernel
theorem dX11_encrypt_509 : decode cX11_encrypt 509 = .ok (.aload_n 0, 1) := by decide +kernel
theorem dX11_encrypt_510 : decode cX11_encrypt 510 = .ok (.getfield 28, 3) := by decide +kernel
theorem dX11_encrypt_513 : decode cX11_encrypt 513 = .ok (.iconst 0, 1) := by decide +kernel
theorem dX11_encrypt_514 : decode cX11_encrypt 514 = .ok (.aload_n 0, 1) := by decide +kernel
theorem dX11_encrypt_515 : decode cX11_encrypt 515 = .ok (.getfield 28, 3) := by decide +kernel
theorem dX11_encrypt_518 : decode cX11_encrypt 518 = .ok (.getfield 113, 3) := by decide +kernel
theorem dX11_encrypt_521 : decode cX11_encrypt 521 = .ok (.invokevirtual 176, 3) := by decide +kernel
theorem dX11_encrypt_524 : decode cX11_encrypt 524 = .ok (.ireturn, 1) := by decide +kernel
abbrev rmX11_encrypt : Room := { frames := 8, cells := 0, slots := 0, locals := 216 }
set_option maxHeartbeats 4000000 in
set_option maxRecDepth 100000 in
theorem wB_X11_encrypt_291 {G : Nat → Nat} {F : Nat} {x : mXT} {sz : Nat} {r0 : Int32} {M0 : mM} (X : mCX G RX11 cX11_encrypt 9 (some .int) "encrypt" rmX11_encrypt x) (hQ : mQI x r0 M0 (sz, 0, 0)) {l0 : Nat} {l3 : Int32} {l4 : Int32} {s0 : Nat} {s1 : Nat} {s2 : Nat} {s3 : Nat} {M : mM} (h : B_X11_encrypt_291 G F l0 l3 l4 s0 s1 s2 s3 M = some (r0, M0)) : WW x (sz, 0, 0) M 291 [(0, .ref l0), (3, .int l3), (4, .int l4)] [.ref s3, .ref s2, .ref s1, .ref s0] := by
  unfold B_X11_encrypt_291 at h
  obtain ⟨_, f291, h⟩ := bO_some h
  obtain ⟨M291, e291, h⟩ := bO_some h
  refine ww_callVV0 291 X dX11_encrypt_291 mY_X11_makeSealedKey mL_X11_419 (rcv_spec f291) ⟨_, _, rfl⟩ (by decide) (As := [.ref s1, .ref s2, .ref s3]) (rest := []) rfl rfl ⟨Nat.le_of_ble_eq_true rfl, Nat.le_of_ble_eq_true rfl⟩ (Nat.le_of_ble_eq_true rfl) (fun l D A => c_X11_makeSealedKey l D A e291) ?_
  refine ww_aload_n 294 X dX11_encrypt_294 0 rfl rfl ?_
  obtain ⟨v295, e295, h⟩ := bO_some h
  refine ww_getR 295 X dX11_encrypt_295 fG_X11_109 e295 ?_
  obtain ⟨v298, e298, h⟩ := bO_some h
  refine ww_getR 298 X dX11_encrypt_298 fG_X11_352 e298 ?_
  obtain ⟨v301, e301, h⟩ := bO_some h
  refine ww_getI 301 X dX11_encrypt_301 fG_X11_198 e301 ?_
  refine ww_if_ne 304 330 X dX11_encrypt_304 (by decide) (fun q => ?_) (fun q => ?_)
  · replace h := (if_neg q).symm.trans h
    refine ww_bipush 330 X (v := (-3 : Int32)) dX11_encrypt_330 (by decide) ?_
    exact ww_iretE 332 X hQ dX11_encrypt_332 h
  · replace h := (if_pos q).symm.trans h
    refine ww_aload_n 307 X dX11_encrypt_307 0 rfl rfl ?_
    obtain ⟨v308, e308, h⟩ := bO_some h
    refine ww_getR 308 X dX11_encrypt_308 fG_X11_109 e308 ?_
    refine ww_aload_n 311 X dX11_encrypt_311 0 rfl rfl ?_
    obtain ⟨v312, e312, h⟩ := bO_some h
    refine ww_getR 312 X dX11_encrypt_312 fG_X11_11 e312 ?_
    refine ww_iload 315 X dX11_encrypt_315 2 rfl ?_
    obtain ⟨v317, e317, h⟩ := bO_some h
    refine ww_aald4 317 X dX11_encrypt_317 e317 ?_
    obtain ⟨v318, e318, h⟩ := bO_some h
    refine ww_getI 318 X dX11_encrypt_318 fG_X11_113 e318 ?_
    obtain ⟨_, f321, h⟩ := bO_some h
    obtain ⟨v321, M321, e321, h⟩ := bP_some h
    refine ww_callVI0 321 X dX11_encrypt_321 mY_X10_sealedLetters mL_X11_422 (rcv_spec f321) ⟨_, _, rfl⟩ (by decide) (As := [.int v318]) (rest := []) rfl rfl ⟨Nat.le_of_ble_eq_true rfl, Nat.le_of_ble_eq_true rfl⟩ (Nat.le_of_ble_eq_true rfl) (fun l D A => c_X10_sealedLetters l D A e321) ?_
    refine ww_sipush 324 X (v := (8192 : Int32)) dX11_encrypt_324 (by decide) ?_
    refine ww_icmp_le 327 333 X dX11_encrypt_327 (by decide) (fun q => ?_) (fun q => ?_)
    · replace h := (if_pos q).symm.trans h
      refine ww_aload_n 333 X dX11_encrypt_333 0 rfl rfl ?_
      obtain ⟨v334, e334, h⟩ := bO_some h
      refine ww_getR 334 X dX11_encrypt_334 fG_X11_28 e334 ?_
      obtain ⟨_, f337, h⟩ := bO_some h
      obtain ⟨M337, e337, h⟩ := bO_some h
      refine ww_callVV0 337 X dX11_encrypt_337 mY_X0_clear mL_X11_131 (rcv_spec f337) ⟨_, _, rfl⟩ (by decide) (As := []) (rest := []) rfl rfl ⟨Nat.le_of_ble_eq_true rfl, Nat.le_of_ble_eq_true rfl⟩ (Nat.le_of_ble_eq_true rfl) (fun l D A => c_X0_clear l D A e337) ?_
      refine ww_aload_n 340 X dX11_encrypt_340 0 rfl rfl ?_
      obtain ⟨v341, e341, h⟩ := bO_some h
      refine ww_getR 341 X dX11_encrypt_341 fG_X11_28 e341 ?_
      refine ww_aload_n 344 X dX11_encrypt_344 0 rfl rfl ?_
      obtain ⟨v345, e345, h⟩ := bO_some h
      refine ww_getR 345 X dX11_encrypt_345 fG_X11_109 e345 ?_
      obtain ⟨v348, e348, h⟩ := bO_some h
      refine ww_getR 348 X dX11_encrypt_348 fG_X11_352 e348 ?_
      refine ww_iconst 351 X (v := (0 : Int32)) dX11_encrypt_351 (by decide) ?_
      refine ww_aload_n 352 X dX11_encrypt_352 0 rfl rfl ?_
      obtain ⟨v353, e353, h⟩ := bO_some h
      refine ww_getR 353 X dX11_encrypt_353 fG_X11_109 e353 ?_
      obtain ⟨v356, e356, h⟩ := bO_some h
      refine ww_getR 356 X dX11_encrypt_356 fG_X11_352 e356 ?_
      obtain ⟨v359, e359, h⟩ := bO_some h
      refine ww_getI 359 X dX11_encrypt_359 fG_X11_113 e359 ?_
      obtain ⟨_, f362, h⟩ := bO_some h
      obtain ⟨M362, e362, h⟩ := bO_some h
      refine ww_callVV0 362 X dX11_encrypt_362 mY_X0_putLetters mL_X11_205 (rcv_spec f362) ⟨_, _, rfl⟩ (by decide) (As := [.ref v348, .int (0 : Int32), .int v359]) (rest := []) rfl rfl ⟨Nat.le_of_ble_eq_true rfl, Nat.le_of_ble_eq_true rfl⟩ (Nat.le_of_ble_eq_true rfl) (fun l D A => c_X0_putLetters l D A e362) ?_
      refine ww_aload_n 365 X dX11_encrypt_365 0 rfl rfl ?_
      obtain ⟨v366, e366, h⟩ := bO_some h
      refine ww_getR 366 X dX11_encrypt_366 fG_X11_86 e366 ?_
      refine ww_iload_n 369 X dX11_encrypt_369 1 rfl rfl ?_
      refine ww_aload_n 370 X dX11_encrypt_370 0 rfl rfl ?_
      obtain ⟨v371, e371, h⟩ := bO_some h
      refine ww_getR 371 X dX11_encrypt_371 fG_X11_109 e371 ?_
      obtain ⟨v374, e374, h⟩ := bO_some h
      refine ww_getR 374 X dX11_encrypt_374 fG_X11_425 e374 ?_
      refine ww_aload_n 377 X dX11_encrypt_377 0 rfl rfl ?_
      obtain ⟨v378, e378, h⟩ := bO_some h
      refine ww_getR 378 X dX11_encrypt_378 fG_X11_109 e378 ?_
      obtain ⟨v381, e381, h⟩ := bO_some h
      refine ww_getR 381 X dX11_encrypt_381 fG_X11_428 e381 ?_
      refine ww_aload_n 384 X dX11_encrypt_384 0 rfl rfl ?_
      obtain ⟨v385, e385, h⟩ := bO_some h
      refine ww_getR 385 X dX11_encrypt_385 fG_X11_28 e385 ?_
      refine ww_aload_n 388 X dX11_encrypt_388 0 rfl rfl ?_
      obtain ⟨v389, e389, h⟩ := bO_some h
      refine ww_getR 389 X dX11_encrypt_389 fG_X11_11 e389 ?_
      refine ww_iload 392 X dX11_encrypt_392 2 rfl ?_
      obtain ⟨v394, e394, h⟩ := bO_some h
      refine ww_aald4 394 X dX11_encrypt_394 e394 ?_
      refine ww_aload_n 395 X dX11_encrypt_395 0 rfl rfl ?_
      obtain ⟨v396, e396, h⟩ := bO_some h
      refine ww_getR 396 X dX11_encrypt_396 fG_X11_31 e396 ?_
      obtain ⟨_, f399, h⟩ := bO_some h
      obtain ⟨M399, e399, h⟩ := bO_some h
      refine ww_callVV0 399 X dX11_encrypt_399 mY_X2_lock mL_X11_261 (rcv_spec f399) ⟨_, _, rfl⟩ (by decide) (As := [.int l3, .ref v374, .ref v381, .ref v385, .ref v394, .ref v396]) (rest := []) rfl rfl ⟨Nat.le_of_ble_eq_true rfl, Nat.le_of_ble_eq_true rfl⟩ (Nat.le_of_ble_eq_true rfl) (fun l D A => c_X2_lock l D A e399) ?_
      refine ww_aload_n 402 X dX11_encrypt_402 0 rfl rfl ?_
      obtain ⟨v403, e403, h⟩ := bO_some h
      refine ww_getR 403 X dX11_encrypt_403 fG_X11_28 e403 ?_
      refine ww_aload_n 406 X dX11_encrypt_406 0 rfl rfl ?_
      obtain ⟨v407, e407, h⟩ := bO_some h
      refine ww_getR 407 X dX11_encrypt_407 fG_X11_109 e407 ?_
      obtain ⟨v410, e410, h⟩ := bO_some h
      refine ww_getR 410 X dX11_encrypt_410 fG_X11_431 e410 ?_
      refine ww_iconst 413 X (v := (0 : Int32)) dX11_encrypt_413 (by decide) ?_
      refine ww_aload_n 414 X dX11_encrypt_414 0 rfl rfl ?_
      obtain ⟨v415, e415, h⟩ := bO_some h
      refine ww_getR 415 X dX11_encrypt_415 fG_X11_109 e415 ?_
      obtain ⟨v418, e418, h⟩ := bO_some h
      refine ww_getR 418 X dX11_encrypt_418 fG_X11_431 e418 ?_
      obtain ⟨v421, e421, h⟩ := bO_some h
      refine ww_getI 421 X dX11_encrypt_421 fG_X11_113 e421 ?_
      obtain ⟨_, f424, h⟩ := bO_some h
      obtain ⟨M424, e424, h⟩ := bO_some h
      refine ww_callVV0 424 X dX11_encrypt_424 mY_X0_putLetterPart mL_X11_434 (rcv_spec f424) ⟨_, _, rfl⟩ (by decide) (As := [.ref v410, .int (0 : Int32), .int v421]) (rest := []) rfl rfl ⟨Nat.le_of_ble_eq_true rfl, Nat.le_of_ble_eq_true rfl⟩ (Nat.le_of_ble_eq_true rfl) (fun l D A => c_X0_putLetterPart l D A e424) ?_
      refine ww_aload_n 427 X dX11_encrypt_427 0 rfl rfl ?_
      obtain ⟨v428, e428, h⟩ := bO_some h
      refine ww_getR 428 X dX11_encrypt_428 fG_X11_28 e428 ?_
      refine ww_aload_n 431 X dX11_encrypt_431 0 rfl rfl ?_
      obtain ⟨v432, e432, h⟩ := bO_some h
      refine ww_getR 432 X dX11_encrypt_432 fG_X11_109 e432 ?_
      obtain ⟨v435, e435, h⟩ := bO_some h
      refine ww_getR 435 X dX11_encrypt_435 fG_X11_428 e435 ?_
      refine ww_iconst 438 X (v := (0 : Int32)) dX11_encrypt_438 (by decide) ?_
      refine ww_aload_n 439 X dX11_encrypt_439 0 rfl rfl ?_
      obtain ⟨v440, e440, h⟩ := bO_some h
      refine ww_getR 440 X dX11_encrypt_440 fG_X11_109 e440 ?_
      obtain ⟨v443, e443, h⟩ := bO_some h
      refine ww_getR 443 X dX11_encrypt_443 fG_X11_428 e443 ?_
      obtain ⟨v446, e446, h⟩ := bO_some h
      refine ww_getI 446 X dX11_encrypt_446 fG_X11_113 e446 ?_
      obtain ⟨_, f449, h⟩ := bO_some h
      obtain ⟨M449, e449, h⟩ := bO_some h
      refine ww_callVV0 449 X dX11_encrypt_449 mY_X0_putLetterPart mL_X11_434 (rcv_spec f449) ⟨_, _, rfl⟩ (by decide) (As := [.ref v435, .int (0 : Int32), .int v446]) (rest := []) rfl rfl ⟨Nat.le_of_ble_eq_true rfl, Nat.le_of_ble_eq_true rfl⟩ (Nat.le_of_ble_eq_true rfl) (fun l D A => c_X0_putLetterPart l D A e449) ?_
      refine ww_aload_n 452 X dX11_encrypt_452 0 rfl rfl ?_
      obtain ⟨v453, e453, h⟩ := bO_some h
      refine ww_getR 453 X dX11_encrypt_453 fG_X11_28 e453 ?_
      refine ww_aload_n 456 X dX11_encrypt_456 0 rfl rfl ?_
      obtain ⟨v457, e457, h⟩ := bO_some h
      refine ww_getR 457 X dX11_encrypt_457 fG_X11_31 e457 ?_
      refine ww_iconst 460 X (v := (0 : Int32)) dX11_encrypt_460 (by decide) ?_
      refine ww_aload_n 461 X dX11_encrypt_461 0 rfl rfl ?_
      obtain ⟨v462, e462, h⟩ := bO_some h
      refine ww_getR 462 X dX11_encrypt_462 fG_X11_31 e462 ?_
      obtain ⟨v465, e465, h⟩ := bO_some h
      refine ww_getI 465 X dX11_encrypt_465 fG_X11_113 e465 ?_
      refine ww_gets 468 X dX11_encrypt_468 gS_X11_258 ?_
      refine ww_iload_n 471 X dX11_encrypt_471 1 rfl rfl ?_
      obtain ⟨v472, e472, h⟩ := bO_some h
      refine ww_iald 472 X dX11_encrypt_472 e472 ?_
      refine ww_isub 473 X dX11_encrypt_473 ?_
      obtain ⟨_, f474, h⟩ := bO_some h
      obtain ⟨M474, e474, h⟩ := bO_some h
      refine ww_callVV0 474 X dX11_encrypt_474 mY_X0_putLetterPart mL_X11_434 (rcv_spec f474) ⟨_, _, rfl⟩ (by decide) (As := [.ref v457, .int (0 : Int32), .int (v465 - v472)]) (rest := []) rfl rfl ⟨Nat.le_of_ble_eq_true rfl, Nat.le_of_ble_eq_true rfl⟩ (Nat.le_of_ble_eq_true rfl) (fun l D A => c_X0_putLetterPart l D A e474) ?_
      refine ww_aload_n 477 X dX11_encrypt_477 0 rfl rfl ?_
      obtain ⟨v478, e478, h⟩ := bO_some h
      refine ww_getR 478 X dX11_encrypt_478 fG_X11_28 e478 ?_
      refine ww_aload_n 481 X dX11_encrypt_481 0 rfl rfl ?_
      obtain ⟨v482, e482, h⟩ := bO_some h
      refine ww_getR 482 X dX11_encrypt_482 fG_X11_31 e482 ?_
      refine ww_aload_n 485 X dX11_encrypt_485 0 rfl rfl ?_
      obtain ⟨v486, e486, h⟩ := bO_some h
      refine ww_getR 486 X dX11_encrypt_486 fG_X11_31 e486 ?_
      obtain ⟨v489, e489, h⟩ := bO_some h
      refine ww_getI 489 X dX11_encrypt_489 fG_X11_113 e489 ?_
      refine ww_gets 492 X dX11_encrypt_492 gS_X11_258 ?_
      refine ww_iload_n 495 X dX11_encrypt_495 1 rfl rfl ?_
      obtain ⟨v496, e496, h⟩ := bO_some h
      refine ww_iald 496 X dX11_encrypt_496 e496 ?_
      refine ww_isub 497 X dX11_encrypt_497 ?_
      refine ww_aload_n 498 X dX11_encrypt_498 0 rfl rfl ?_
      obtain ⟨v499, e499, h⟩ := bO_some h
      refine ww_getR 499 X dX11_encrypt_499 fG_X11_31 e499 ?_
      obtain ⟨v502, e502, h⟩ := bO_some h
      refine ww_getI 502 X dX11_encrypt_502 fG_X11_113 e502 ?_
      obtain ⟨_, f505, h⟩ := bO_some h
      obtain ⟨M505, e505, h⟩ := bO_some h
      refine ww_callVV0 505 X dX11_encrypt_505 mY_X0_putLetterPart mL_X11_434 (rcv_spec f505) ⟨_, _, rfl⟩ (by decide) (As := [.ref v482, .int (v489 - v496), .int v502]) (rest := []) rfl rfl ⟨Nat.le_of_ble_eq_true rfl, Nat.le_of_ble_eq_true rfl⟩ (Nat.le_of_ble_eq_true rfl) (fun l D A => c_X0_putLetterPart l D A e505) ?_
      refine ww_aload_n 508 X dX11_encrypt_508 0 rfl rfl ?_
      refine ww_aload_n 509 X dX11_encrypt_509 0 rfl rfl ?_
      obtain ⟨v510, e510, h⟩ := bO_some h
      refine ww_getR 510 X dX11_encrypt_510 fG_X11_28 e510 ?_
      refine ww_iconst 513 X (v := (0 : Int32)) dX11_encrypt_513 (by decide) ?_
      refine ww_aload_n 514 X dX11_encrypt_514 0 rfl rfl ?_
      obtain ⟨v515, e515, h⟩ := bO_some h
      refine ww_getR 515 X dX11_encrypt_515 fG_X11_28 e515 ?_
      obtain ⟨v518, e518, h⟩ := bO_some h
      refine ww_getI 518 X dX11_encrypt_518 fG_X11_113 e518 ?_
      obtain ⟨_, f521, h⟩ := bO_some h
      obtain ⟨v521, M521, e521, h⟩ := bP_some h
      refine ww_callVI0 521 X dX11_encrypt_521 mY_X11_show mL_X11_176 (rcv_spec f521) ⟨_, _, rfl⟩ (by decide) (As := [.ref v510, .int (0 : Int32), .int v518]) (rest := []) rfl rfl ⟨Nat.le_of_ble_eq_true rfl, Nat.le_of_ble_eq_true rfl⟩ (Nat.le_of_ble_eq_true rfl) (fun l D A => c_X11_show l D A e521) ?_
      exact ww_iretE 524 X hQ dX11_encrypt_524 h
    · replace h := (if_neg q).symm.trans h
      refine ww_bipush 330 X (v := (-3 : Int32)) dX11_encrypt_330 (by decide) ?_
      exact ww_iretE 332 X hQ dX11_encrypt_332 h
set_option maxHeartbeats 4000000 in
set_option maxRecDepth 100000 in
theorem wB_X11_encrypt_268 {G : Nat → Nat} {F : Nat} {x : mXT} {sz : Nat} {r0 : Int32} {M0 : mM} (X : mCX G RX11 cX11_encrypt 9 (some .int) "encrypt" rmX11_encrypt x) (hQ : mQI x r0 M0 (sz, 0, 0)) {l0 : Nat} {l3 : Int32} {l4 : Int32} {l7 : Int32} {s0 : Nat} {s1 : Nat} {s2 : Nat} {M : mM} (h : B_X11_encrypt_268 G F l0 l3 l4 l7 s0 s1 s2 M = some (r0, M0)) : WW x (sz, 0, 0) M 268 [(0, .ref l0), (3, .int l3), (4, .int l4), (7, .int l7)] [.ref s2, .ref s1, .ref s0] := by
  unfold B_X11_encrypt_268 at h
  refine ww_aload_n 268 X dX11_encrypt_268 0 rfl rfl ?_
  refine ww_iload 269 X dX11_encrypt_269 3 rfl ?_
  obtain ⟨_, f271, h⟩ := bO_some h
  obtain ⟨v271, M271, e271, h⟩ := bP_some h
  refine ww_callVI0 271 X dX11_encrypt_271 mY_X11_isRow mL_X11_123 (rcv_spec f271) ⟨_, _, rfl⟩ (by decide) (As := [.int l7]) (rest := [.ref s2, .ref s1, .ref s0]) rfl rfl ⟨Nat.le_of_ble_eq_true rfl, Nat.le_of_ble_eq_true rfl⟩ (Nat.le_of_ble_eq_true rfl) (fun l D A => c_X11_isRow l D A e271) ?_
  refine ww_if_eq 274 287 X dX11_encrypt_274 (by decide) (fun q => ?_) (fun q => ?_)
  · replace h := (if_pos q).symm.trans h
    refine ww_aload_n 287 X dX11_encrypt_287 0 rfl rfl ?_
    obtain ⟨v288, e288, h⟩ := bO_some h
    refine ww_getR 288 X dX11_encrypt_288 fG_X11_25 e288 ?_
    exact ww_sub [0, 1, 2] rfl (wB_X11_encrypt_291 X hQ h)
  · replace h := (if_neg q).symm.trans h
    refine ww_aload_n 277 X dX11_encrypt_277 0 rfl rfl ?_
    obtain ⟨v278, e278, h⟩ := bO_some h
    refine ww_getR 278 X dX11_encrypt_278 fG_X11_11 e278 ?_
    refine ww_iload 281 X dX11_encrypt_281 3 rfl ?_
    obtain ⟨v283, e283, h⟩ := bO_some h
    refine ww_aald4 283 X dX11_encrypt_283 e283 ?_
    refine ww_goto 284 291 X dX11_encrypt_284 (by decide) ?_
    exact ww_sub [0, 1, 2] rfl (wB_X11_encrypt_291 X hQ h)
set_option maxHeartbeats 4000000 in
set_option maxRecDepth 100000 in
theorem wB_X11_encrypt_239_s3 {G : Nat → Nat} {F : Nat} {x : mXT} {sz : Nat} {r0 : Int32} {M0 : mM} (X : mCX G RX11 cX11_encrypt 9 (some .int) "encrypt" rmX11_encrypt x) (hQ : mQI x r0 M0 (sz, 0, 0)) {l0 : Nat} {l3 : Int32} {l4 : Int32} {l6 : Int32} {l7 : Int32} {l8 : Nat} {s0 : Nat} {s1 : Nat} {s2 : Nat} {M : mM} (h : B_X11_encrypt_239_s3 G F l0 l3 l4 l6 l7 l8 s0 s1 s2 M = some (r0, M0)) : WW x (sz, 0, 0) M 239 [(0, .ref l0), (3, .int l3), (4, .int l4), (6, .int l6), (7, .int l7), (8, .ref l8)] [.null, .ref s2, .ref s1, .ref s0] := by
  unfold B_X11_encrypt_239_s3 at h
  obtain ⟨_, f239, h⟩ := bO_some h
  obtain ⟨M239, e239, h⟩ := bO_some h
  refine ww_callVV0 239 X dX11_encrypt_239 mY_X10_makeSealedHead mL_X11_415 (rcv_spec f239) ⟨_, _, rfl⟩ (by decide) (As := [.ref s1, .ref s2, .null]) (rest := []) rfl rfl ⟨Nat.le_of_ble_eq_true rfl, Nat.le_of_ble_eq_true rfl⟩ (Nat.le_of_ble_eq_true rfl) (fun l D A => c_X10_makeSealedHead_n3 l D A e239) ?_
  refine ww_aload_n 242 X dX11_encrypt_242 0 rfl rfl ?_
  refine ww_aload 243 X dX11_encrypt_243 5 rfl ?_
  refine ww_aload_n 245 X dX11_encrypt_245 0 rfl rfl ?_
  refine ww_iload 246 X dX11_encrypt_246 3 rfl ?_
  obtain ⟨_, f248, h⟩ := bO_some h
  obtain ⟨v248, M248, e248, h⟩ := bP_some h
  refine ww_callVI0 248 X dX11_encrypt_248 mY_X11_isRow mL_X11_123 (rcv_spec f248) ⟨_, _, rfl⟩ (by decide) (As := [.int l6]) (rest := [.ref l8, .ref l0]) rfl rfl ⟨Nat.le_of_ble_eq_true rfl, Nat.le_of_ble_eq_true rfl⟩ (Nat.le_of_ble_eq_true rfl) (fun l D A => c_X11_isRow l D A e248) ?_
  refine ww_if_eq 251 264 X dX11_encrypt_251 (by decide) (fun q => ?_) (fun q => ?_)
  · replace h := (if_pos q).symm.trans h
    refine ww_aload_n 264 X dX11_encrypt_264 0 rfl rfl ?_
    obtain ⟨v265, e265, h⟩ := bO_some h
    refine ww_getR 265 X dX11_encrypt_265 fG_X11_25 e265 ?_
    exact ww_sub [0, 1, 2, 4] rfl (wB_X11_encrypt_268 X hQ h)
  · replace h := (if_neg q).symm.trans h
    refine ww_aload_n 254 X dX11_encrypt_254 0 rfl rfl ?_
    obtain ⟨v255, e255, h⟩ := bO_some h
    refine ww_getR 255 X dX11_encrypt_255 fG_X11_11 e255 ?_
    refine ww_iload 258 X dX11_encrypt_258 3 rfl ?_
    obtain ⟨v260, e260, h⟩ := bO_some h
    refine ww_aald4 260 X dX11_encrypt_260 e260 ?_
    refine ww_goto 261 268 X dX11_encrypt_261 (by decide) ?_
    exact ww_sub [0, 1, 2, 4] rfl (wB_X11_encrypt_268 X hQ h)
set_option maxHeartbeats 4000000 in
set_option maxRecDepth 100000 in
theorem wB_X11_encrypt_239_s2_s3 {G : Nat → Nat} {F : Nat} {x : mXT} {sz : Nat} {r0 : Int32} {M0 : mM} (X : mCX G RX11 cX11_encrypt 9 (some .int) "encrypt" rmX11_encrypt x) (hQ : mQI x r0 M0 (sz, 0, 0)) {l0 : Nat} {l3 : Int32} {l4 : Int32} {l6 : Int32} {l7 : Int32} {l8 : Nat} {s0 : Nat} {s1 : Nat} {M : mM} (h : B_X11_encrypt_239_s2_s3 G F l0 l3 l4 l6 l7 l8 s0 s1 M = some (r0, M0)) : WW x (sz, 0, 0) M 239 [(0, .ref l0), (3, .int l3), (4, .int l4), (6, .int l6), (7, .int l7), (8, .ref l8)] [.null, .null, .ref s1, .ref s0] := by
  unfold B_X11_encrypt_239_s2_s3 at h
  obtain ⟨_, f239, h⟩ := bO_some h
  obtain ⟨M239, e239, h⟩ := bO_some h
  refine ww_callVV0 239 X dX11_encrypt_239 mY_X10_makeSealedHead mL_X11_415 (rcv_spec f239) ⟨_, _, rfl⟩ (by decide) (As := [.ref s1, .null, .null]) (rest := []) rfl rfl ⟨Nat.le_of_ble_eq_true rfl, Nat.le_of_ble_eq_true rfl⟩ (Nat.le_of_ble_eq_true rfl) (fun l D A => c_X10_makeSealedHead_n2_n3 l D A e239) ?_
  refine ww_aload_n 242 X dX11_encrypt_242 0 rfl rfl ?_
  refine ww_aload 243 X dX11_encrypt_243 5 rfl ?_
  refine ww_aload_n 245 X dX11_encrypt_245 0 rfl rfl ?_
  refine ww_iload 246 X dX11_encrypt_246 3 rfl ?_
  obtain ⟨_, f248, h⟩ := bO_some h
  obtain ⟨v248, M248, e248, h⟩ := bP_some h
  refine ww_callVI0 248 X dX11_encrypt_248 mY_X11_isRow mL_X11_123 (rcv_spec f248) ⟨_, _, rfl⟩ (by decide) (As := [.int l6]) (rest := [.ref l8, .ref l0]) rfl rfl ⟨Nat.le_of_ble_eq_true rfl, Nat.le_of_ble_eq_true rfl⟩ (Nat.le_of_ble_eq_true rfl) (fun l D A => c_X11_isRow l D A e248) ?_
  refine ww_if_eq 251 264 X dX11_encrypt_251 (by decide) (fun q => ?_) (fun q => ?_)
  · replace h := (if_pos q).symm.trans h
    refine ww_aload_n 264 X dX11_encrypt_264 0 rfl rfl ?_
    obtain ⟨v265, e265, h⟩ := bO_some h
    refine ww_getR 265 X dX11_encrypt_265 fG_X11_25 e265 ?_
    exact ww_sub [0, 1, 2, 4] rfl (wB_X11_encrypt_268 X hQ h)
  · replace h := (if_neg q).symm.trans h
    refine ww_aload_n 254 X dX11_encrypt_254 0 rfl rfl ?_
    obtain ⟨v255, e255, h⟩ := bO_some h
    refine ww_getR 255 X dX11_encrypt_255 fG_X11_11 e255 ?_
    refine ww_iload 258 X dX11_encrypt_258 3 rfl ?_
    obtain ⟨v260, e260, h⟩ := bO_some h
    refine ww_aald4 260 X dX11_encrypt_260 e260 ?_
    refine ww_goto 261 268 X dX11_encrypt_261 (by decide) ?_
    exact ww_sub [0, 1, 2, 4] rfl (wB_X11_encrypt_268 X hQ h)
set_option maxHeartbeats 4000000 in
set_option maxRecDepth 100000 in
theorem wB_X11_encrypt_239_s2 {G : Nat → Nat} {F : Nat} {x : mXT} {sz : Nat} {r0 : Int32} {M0 : mM} (X : mCX G RX11 cX11_encrypt 9 (some .int) "encrypt" rmX11_encrypt x) (hQ : mQI x r0 M0 (sz, 0, 0)) {l0 : Nat} {l3 : Int32} {l4 : Int32} {l6 : Int32} {l7 : Int32} {l8 : Nat} {s0 : Nat} {s1 : Nat} {s3 : Nat} {M : mM} (h : B_X11_encrypt_239_s2 G F l0 l3 l4 l6 l7 l8 s0 s1 s3 M = some (r0, M0)) : WW x (sz, 0, 0) M 239 [(0, .ref l0), (3, .int l3), (4, .int l4), (6, .int l6), (7, .int l7), (8, .ref l8)] [.ref s3, .null, .ref s1, .ref s0] := by
  unfold B_X11_encrypt_239_s2 at h
  obtain ⟨_, f239, h⟩ := bO_some h
  obtain ⟨M239, e239, h⟩ := bO_some h
  refine ww_callVV0 239 X dX11_encrypt_239 mY_X10_makeSealedHead mL_X11_415 (rcv_spec f239) ⟨_, _, rfl⟩ (by decide) (As := [.ref s1, .null, .ref s3]) (rest := []) rfl rfl ⟨Nat.le_of_ble_eq_true rfl, Nat.le_of_ble_eq_true rfl⟩ (Nat.le_of_ble_eq_true rfl) (fun l D A => c_X10_makeSealedHead_n2 l D A e239) ?_
  refine ww_aload_n 242 X dX11_encrypt_242 0 rfl rfl ?_
  refine ww_aload 243 X dX11_encrypt_243 5 rfl ?_
  refine ww_aload_n 245 X dX11_encrypt_245 0 rfl rfl ?_
  refine ww_iload 246 X dX11_encrypt_246 3 rfl ?_
  obtain ⟨_, f248, h⟩ := bO_some h
  obtain ⟨v248, M248, e248, h⟩ := bP_some h
  refine ww_callVI0 248 X dX11_encrypt_248 mY_X11_isRow mL_X11_123 (rcv_spec f248) ⟨_, _, rfl⟩ (by decide) (As := [.int l6]) (rest := [.ref l8, .ref l0]) rfl rfl ⟨Nat.le_of_ble_eq_true rfl, Nat.le_of_ble_eq_true rfl⟩ (Nat.le_of_ble_eq_true rfl) (fun l D A => c_X11_isRow l D A e248) ?_
  refine ww_if_eq 251 264 X dX11_encrypt_251 (by decide) (fun q => ?_) (fun q => ?_)
  · replace h := (if_pos q).symm.trans h
    refine ww_aload_n 264 X dX11_encrypt_264 0 rfl rfl ?_
    obtain ⟨v265, e265, h⟩ := bO_some h
    refine ww_getR 265 X dX11_encrypt_265 fG_X11_25 e265 ?_
    exact ww_sub [0, 1, 2, 4] rfl (wB_X11_encrypt_268 X hQ h)
  · replace h := (if_neg q).symm.trans h
    refine ww_aload_n 254 X dX11_encrypt_254 0 rfl rfl ?_
    obtain ⟨v255, e255, h⟩ := bO_some h
    refine ww_getR 255 X dX11_encrypt_255 fG_X11_11 e255 ?_
    refine ww_iload 258 X dX11_encrypt_258 3 rfl ?_
    obtain ⟨v260, e260, h⟩ := bO_some h
    refine ww_aald4 260 X dX11_encrypt_260 e260 ?_
    refine ww_goto 261 268 X dX11_encrypt_261 (by decide) ?_
    exact ww_sub [0, 1, 2, 4] rfl (wB_X11_encrypt_268 X hQ h)
set_option maxHeartbeats 4000000 in
set_option maxRecDepth 100000 in
theorem wB_X11_encrypt_239 {G : Nat → Nat} {F : Nat} {x : mXT} {sz : Nat} {r0 : Int32} {M0 : mM} (X : mCX G RX11 cX11_encrypt 9 (some .int) "encrypt" rmX11_encrypt x) (hQ : mQI x r0 M0 (sz, 0, 0)) {l0 : Nat} {l3 : Int32} {l4 : Int32} {l6 : Int32} {l7 : Int32} {l8 : Nat} {s0 : Nat} {s1 : Nat} {s2 : Nat} {s3 : Nat} {M : mM} (h : B_X11_encrypt_239 G F l0 l3 l4 l6 l7 l8 s0 s1 s2 s3 M = some (r0, M0)) : WW x (sz, 0, 0) M 239 [(0, .ref l0), (3, .int l3), (4, .int l4), (6, .int l6), (7, .int l7), (8, .ref l8)] [.ref s3, .ref s2, .ref s1, .ref s0] := by
  unfold B_X11_encrypt_239 at h
  obtain ⟨_, f239, h⟩ := bO_some h
  obtain ⟨M239, e239, h⟩ := bO_some h
  refine ww_callVV0 239 X dX11_encrypt_239 mY_X10_makeSealedHead mL_X11_415 (rcv_spec f239) ⟨_, _, rfl⟩ (by decide) (As := [.ref s1, .ref s2, .ref s3]) (rest := []) rfl rfl ⟨Nat.le_of_ble_eq_true rfl, Nat.le_of_ble_eq_true rfl⟩ (Nat.le_of_ble_eq_true rfl) (fun l D A => c_X10_makeSealedHead l D A e239) ?_
  refine ww_aload_n 242 X dX11_encrypt_242 0 rfl rfl ?_
  refine ww_aload 243 X dX11_encrypt_243 5 rfl ?_
  refine ww_aload_n 245 X dX11_encrypt_245 0 rfl rfl ?_
  refine ww_iload 246 X dX11_encrypt_246 3 rfl ?_
  obtain ⟨_, f248, h⟩ := bO_some h
  obtain ⟨v248, M248, e248, h⟩ := bP_some h
  refine ww_callVI0 248 X dX11_encrypt_248 mY_X11_isRow mL_X11_123 (rcv_spec f248) ⟨_, _, rfl⟩ (by decide) (As := [.int l6]) (rest := [.ref l8, .ref l0]) rfl rfl ⟨Nat.le_of_ble_eq_true rfl, Nat.le_of_ble_eq_true rfl⟩ (Nat.le_of_ble_eq_true rfl) (fun l D A => c_X11_isRow l D A e248) ?_
  refine ww_if_eq 251 264 X dX11_encrypt_251 (by decide) (fun q => ?_) (fun q => ?_)
  · replace h := (if_pos q).symm.trans h
    refine ww_aload_n 264 X dX11_encrypt_264 0 rfl rfl ?_
    obtain ⟨v265, e265, h⟩ := bO_some h
    refine ww_getR 265 X dX11_encrypt_265 fG_X11_25 e265 ?_
    exact ww_sub [0, 1, 2, 4] rfl (wB_X11_encrypt_268 X hQ h)
  · replace h := (if_neg q).symm.trans h
    refine ww_aload_n 254 X dX11_encrypt_254 0 rfl rfl ?_
    obtain ⟨v255, e255, h⟩ := bO_some h
    refine ww_getR 255 X dX11_encrypt_255 fG_X11_11 e255 ?_
    refine ww_iload 258 X dX11_encrypt_258 3 rfl ?_
    obtain ⟨v260, e260, h⟩ := bO_some h
    refine ww_aald4 260 X dX11_encrypt_260 e260 ?_
    refine ww_goto 261 268 X dX11_encrypt_261 (by decide) ?_
    exact ww_sub [0, 1, 2, 4] rfl (wB_X11_encrypt_268 X hQ h)
set_option maxHeartbeats 4000000 in
set_option maxRecDepth 100000 in
theorem wB_X11_encrypt_193 {G : Nat → Nat} {F : Nat} {x : mXT} {sz : Nat} {r0 : Int32} {M0 : mM} (X : mCX G RX11 cX11_encrypt 9 (some .int) "encrypt" rmX11_encrypt x) (hQ : mQI x r0 M0 (sz, 0, 0)) {l0 : Nat} {l3 : Int32} {l4 : Int32} {l6 : Int32} {l7 : Int32} {l8 : Nat} {M : mM} (h : B_X11_encrypt_193 G F l0 l3 l4 l6 l7 l8 M = some (r0, M0)) : WW x (sz, 0, 0) M 193 [(0, .ref l0), (3, .int l3), (4, .int l4), (6, .int l6), (7, .int l7), (8, .ref l8)] [] := by
  unfold B_X11_encrypt_193 at h
  refine ww_aload_n 193 X dX11_encrypt_193 0 rfl rfl ?_
  obtain ⟨v194, e194, h⟩ := bO_some h
  refine ww_getR 194 X dX11_encrypt_194 fG_X11_109 e194 ?_
  refine ww_aload 197 X dX11_encrypt_197 5 rfl ?_
  refine ww_aload_n 199 X dX11_encrypt_199 0 rfl rfl ?_
  refine ww_iload 200 X dX11_encrypt_200 3 rfl ?_
  obtain ⟨_, f202, h⟩ := bO_some h
  obtain ⟨v202, M202, e202, h⟩ := bP_some h
  refine ww_callVI0 202 X dX11_encrypt_202 mY_X11_isRow mL_X11_123 (rcv_spec f202) ⟨_, _, rfl⟩ (by decide) (As := [.int l6]) (rest := [.ref l8, .ref v194]) rfl rfl ⟨Nat.le_of_ble_eq_true rfl, Nat.le_of_ble_eq_true rfl⟩ (Nat.le_of_ble_eq_true rfl) (fun l D A => c_X11_isRow l D A e202) ?_
  refine ww_if_eq 205 218 X dX11_encrypt_205 (by decide) (fun q => ?_) (fun q => ?_)
  · replace h := (if_pos q).symm.trans h
    refine ww_null 218 X dX11_encrypt_218 ?_
    refine ww_aload_n 219 X dX11_encrypt_219 0 rfl rfl ?_
    refine ww_iload 220 X dX11_encrypt_220 4 rfl ?_
    obtain ⟨_, f222, h⟩ := bO_some h
    obtain ⟨v222, M222, e222, h⟩ := bP_some h
    refine ww_callVI0 222 X dX11_encrypt_222 mY_X11_isRow mL_X11_123 (rcv_spec f222) ⟨_, _, rfl⟩ (by decide) (As := [.int l7]) (rest := [.null, .ref l8, .ref v194]) rfl rfl ⟨Nat.le_of_ble_eq_true rfl, Nat.le_of_ble_eq_true rfl⟩ (Nat.le_of_ble_eq_true rfl) (fun l D A => c_X11_isRow l D A e222) ?_
    refine ww_if_eq 225 238 X dX11_encrypt_225 (by decide) (fun q => ?_) (fun q => ?_)
    · replace h := (if_pos q).symm.trans h
      refine ww_null 238 X dX11_encrypt_238 ?_
      exact (wB_X11_encrypt_239_s2_s3 X hQ h)
    · replace h := (if_neg q).symm.trans h
      refine ww_aload_n 228 X dX11_encrypt_228 0 rfl rfl ?_
      obtain ⟨v229, e229, h⟩ := bO_some h
      refine ww_getR 229 X dX11_encrypt_229 fG_X11_11 e229 ?_
      refine ww_iload 232 X dX11_encrypt_232 4 rfl ?_
      obtain ⟨v234, e234, h⟩ := bO_some h
      refine ww_aald4 234 X dX11_encrypt_234 e234 ?_
      refine ww_goto 235 239 X dX11_encrypt_235 (by decide) ?_
      exact (wB_X11_encrypt_239_s2 X hQ h)
  · replace h := (if_neg q).symm.trans h
    refine ww_aload_n 208 X dX11_encrypt_208 0 rfl rfl ?_
    obtain ⟨v209, e209, h⟩ := bO_some h
    refine ww_getR 209 X dX11_encrypt_209 fG_X11_11 e209 ?_
    refine ww_iload 212 X dX11_encrypt_212 3 rfl ?_
    obtain ⟨v214, e214, h⟩ := bO_some h
    refine ww_aald4 214 X dX11_encrypt_214 e214 ?_
    refine ww_goto 215 219 X dX11_encrypt_215 (by decide) ?_
    refine ww_aload_n 219 X dX11_encrypt_219 0 rfl rfl ?_
    refine ww_iload 220 X dX11_encrypt_220 4 rfl ?_
    obtain ⟨_, f222, h⟩ := bO_some h
    obtain ⟨v222, M222, e222, h⟩ := bP_some h
    refine ww_callVI0 222 X dX11_encrypt_222 mY_X11_isRow mL_X11_123 (rcv_spec f222) ⟨_, _, rfl⟩ (by decide) (As := [.int l7]) (rest := [.ref v214, .ref l8, .ref v194]) rfl rfl ⟨Nat.le_of_ble_eq_true rfl, Nat.le_of_ble_eq_true rfl⟩ (Nat.le_of_ble_eq_true rfl) (fun l D A => c_X11_isRow l D A e222) ?_
    refine ww_if_eq 225 238 X dX11_encrypt_225 (by decide) (fun q => ?_) (fun q => ?_)
    · replace h := (if_pos q).symm.trans h
      refine ww_null 238 X dX11_encrypt_238 ?_
      exact (wB_X11_encrypt_239_s3 X hQ h)
    · replace h := (if_neg q).symm.trans h
      refine ww_aload_n 228 X dX11_encrypt_228 0 rfl rfl ?_
      obtain ⟨v229, e229, h⟩ := bO_some h
      refine ww_getR 229 X dX11_encrypt_229 fG_X11_11 e229 ?_
      refine ww_iload 232 X dX11_encrypt_232 4 rfl ?_
      obtain ⟨v234, e234, h⟩ := bO_some h
      refine ww_aald4 234 X dX11_encrypt_234 e234 ?_
      refine ww_goto 235 239 X dX11_encrypt_235 (by decide) ?_
      exact (wB_X11_encrypt_239 X hQ h)
set_option maxHeartbeats 4000000 in
set_option maxRecDepth 100000 in
theorem wB_X11_encrypt_141 {G : Nat → Nat} {F : Nat} {x : mXT} {sz : Nat} {r0 : Int32} {M0 : mM} (X : mCX G RX11 cX11_encrypt 9 (some .int) "encrypt" rmX11_encrypt x) (hQ : mQI x r0 M0 (sz, 0, 0)) {l0 : Nat} {l2 : Int32} {l3 : Int32} {l4 : Int32} {l6 : Int32} {l7 : Int32} {l8 : Nat} {M : mM} (h : B_X11_encrypt_141 G F l0 l2 l3 l4 l6 l7 l8 M = some (r0, M0)) : WW x (sz, 0, 0) M 141 [(0, .ref l0), (2, .int l2), (3, .int l3), (4, .int l4), (6, .int l6), (7, .int l7), (8, .ref l8)] [] := by
  unfold B_X11_encrypt_141 at h
  refine ww_iload_n 141 X dX11_encrypt_141 1 rfl rfl ?_
  refine ww_iconst 142 X (v := (4 : Int32)) dX11_encrypt_142 (by decide) ?_
  refine ww_icmp_lt 143 193 X dX11_encrypt_143 (by decide) (fun q => ?_) (fun q => ?_)
  · replace h := (if_pos q).symm.trans h
    exact ww_sub [0, 2, 3, 4, 5, 6] rfl (wB_X11_encrypt_193 X hQ h)
  · replace h := (if_neg q).symm.trans h
    refine ww_aload_n 146 X dX11_encrypt_146 0 rfl rfl ?_
    obtain ⟨v147, e147, h⟩ := bO_some h
    refine ww_getR 147 X dX11_encrypt_147 fG_X11_102 e147 ?_
    refine ww_aload_n 150 X dX11_encrypt_150 0 rfl rfl ?_
    obtain ⟨v151, e151, h⟩ := bO_some h
    refine ww_getR 151 X dX11_encrypt_151 fG_X11_109 e151 ?_
    obtain ⟨v154, e154, h⟩ := bO_some h
    refine ww_getR 154 X dX11_encrypt_154 fG_X11_406 e154 ?_
    refine ww_aload_n 157 X dX11_encrypt_157 0 rfl rfl ?_
    obtain ⟨v158, e158, h⟩ := bO_some h
    refine ww_getR 158 X dX11_encrypt_158 fG_X11_102 e158 ?_
    obtain ⟨v161, e161, h⟩ := bO_some h
    refine ww_getR 161 X dX11_encrypt_161 fG_X11_282 e161 ?_
    refine ww_aload_n 164 X dX11_encrypt_164 0 rfl rfl ?_
    obtain ⟨v165, e165, h⟩ := bO_some h
    refine ww_getR 165 X dX11_encrypt_165 fG_X11_25 e165 ?_
    refine ww_aload_n 168 X dX11_encrypt_168 0 rfl rfl ?_
    obtain ⟨v169, e169, h⟩ := bO_some h
    refine ww_getR 169 X dX11_encrypt_169 fG_X11_102 e169 ?_
    obtain ⟨v172, e172, h⟩ := bO_some h
    refine ww_getR 172 X dX11_encrypt_172 fG_X11_282 e172 ?_
    obtain ⟨_, f175, h⟩ := bO_some h
    obtain ⟨M175, e175, h⟩ := bO_some h
    refine ww_callVV0 175 X dX11_encrypt_175 mY_X3_sumUp mL_X11_289 (rcv_spec f175) ⟨_, _, rfl⟩ (by decide) (As := [.ref v154, .ref v161, .ref v165, .ref v172]) (rest := []) rfl rfl ⟨Nat.le_of_ble_eq_true rfl, Nat.le_of_ble_eq_true rfl⟩ (Nat.le_of_ble_eq_true rfl) (fun l D A => c_X3_sumUp l D A e175) ?_
    refine ww_aload_n 178 X dX11_encrypt_178 0 rfl rfl ?_
    obtain ⟨v179, e179, h⟩ := bO_some h
    refine ww_getR 179 X dX11_encrypt_179 fG_X11_102 e179 ?_
    refine ww_aload_n 182 X dX11_encrypt_182 0 rfl rfl ?_
    obtain ⟨v183, e183, h⟩ := bO_some h
    refine ww_getR 183 X dX11_encrypt_183 fG_X11_109 e183 ?_
    obtain ⟨v186, e186, h⟩ := bO_some h
    refine ww_getR 186 X dX11_encrypt_186 fG_X11_412 e186 ?_
    obtain ⟨_, f189, h⟩ := bO_some h
    obtain ⟨v189, M189, e189, h⟩ := bP_some h
    refine ww_callVI0 189 X dX11_encrypt_189 mY_X3_putSum mL_X11_293 (rcv_spec f189) ⟨_, _, rfl⟩ (by decide) (As := [.ref v186]) (rest := []) rfl rfl ⟨Nat.le_of_ble_eq_true rfl, Nat.le_of_ble_eq_true rfl⟩ (Nat.le_of_ble_eq_true rfl) (fun l D A => c_X3_putSum l D A e189) ?_
    refine ww_pop 192 X dX11_encrypt_192 rfl ?_
    exact ww_sub [0, 2, 3, 4, 5, 6] rfl (wB_X11_encrypt_193 X hQ h)
set_option maxHeartbeats 4000000 in
set_option maxRecDepth 100000 in
theorem wB_X11_encrypt_74 {G : Nat → Nat} {F : Nat} {x : mXT} {sz : Nat} {r0 : Int32} {M0 : mM} (X : mCX G RX11 cX11_encrypt 9 (some .int) "encrypt" rmX11_encrypt x) (hQ : mQI x r0 M0 (sz, 0, 0)) {l0 : Nat} {l1 : Int32} {l2 : Int32} {l3 : Int32} {l4 : Int32} {l5 : Int32} {l6 : Int32} {l7 : Int32} {M : mM} (h : B_X11_encrypt_74 G F l0 l1 l2 l3 l4 l5 l6 l7 M = some (r0, M0)) : WW x (sz, 0, 0) M 74 [(0, .ref l0), (1, .int l1), (2, .int l2), (3, .int l3), (4, .int l4), (5, .int l5), (6, .int l6), (7, .int l7)] [] := by
  unfold B_X11_encrypt_74 at h
  refine ww_aload_n 74 X dX11_encrypt_74 0 rfl rfl ?_
  obtain ⟨v75, e75, h⟩ := bO_some h
  refine ww_getR 75 X dX11_encrypt_75 fG_X11_58 e75 ?_
  refine ww_iload_n 78 X dX11_encrypt_78 1 rfl rfl ?_
  obtain ⟨v79, e79, h⟩ := bO_some h
  refine ww_aald5 79 X dX11_encrypt_79 e79 ?_
  refine ww_astore 80 X dX11_encrypt_80 (lv' := [(0, .ref l0), (1, .int l1), (2, .int l2), (3, .int l3), (4, .int l4), (5, .int l5), (6, .int l6), (7, .int l7), (8, .ref v79)]) (by decide) [1, 2, 3, 4, 5, 6, 7, 8, 0] rfl ?_
  refine ww_aload 82 X dX11_encrypt_82 8 rfl ?_
  refine ww_iload_n 84 X dX11_encrypt_84 2 rfl rfl ?_
  refine ww_iload_n 85 X dX11_encrypt_85 3 rfl rfl ?_
  refine ww_iconst 86 X (v := (0 : Int32)) dX11_encrypt_86 (by decide) ?_
  obtain ⟨_, f87, h⟩ := bO_some h
  obtain ⟨v87, M87, e87, h⟩ := bP_some h
  refine ww_callVI0 87 X dX11_encrypt_87 mY_X5_maySeal mL_X11_398 (rcv_spec f87) ⟨_, _, rfl⟩ (by decide) (As := [.int l2, .int l3, .int (0 : Int32)]) (rest := []) rfl rfl ⟨Nat.le_of_ble_eq_true rfl, Nat.le_of_ble_eq_true rfl⟩ (Nat.le_of_ble_eq_true rfl) (fun l D A => c_X5_maySeal l D A e87) ?_
  refine ww_if_ne 90 96 X dX11_encrypt_90 (by decide) (fun q => ?_) (fun q => ?_)
  · replace h := (if_neg q).symm.trans h
    refine ww_aload_n 96 X dX11_encrypt_96 0 rfl rfl ?_
    obtain ⟨v97, e97, h⟩ := bO_some h
    refine ww_getR 97 X dX11_encrypt_97 fG_X11_109 e97 ?_
    refine ww_iload_n 100 X dX11_encrypt_100 2 rfl rfl ?_
    refine ww_iload_n 101 X dX11_encrypt_101 3 rfl rfl ?_
    refine ww_aload_n 102 X dX11_encrypt_102 0 rfl rfl ?_
    obtain ⟨v103, e103, h⟩ := bO_some h
    refine ww_getR 103 X dX11_encrypt_103 fG_X11_11 e103 ?_
    refine ww_iload 106 X dX11_encrypt_106 5 rfl ?_
    obtain ⟨v108, e108, h⟩ := bO_some h
    refine ww_aald4 108 X dX11_encrypt_108 e108 ?_
    obtain ⟨_, f109, h⟩ := bO_some h
    obtain ⟨v109, M109, e109, h⟩ := bP_some h
    refine ww_callVI0 109 X dX11_encrypt_109 mY_X10_draw mL_X11_402 (rcv_spec f109) ⟨_, _, rfl⟩ (by decide) (As := [.int l2, .int l3, .ref v108]) (rest := []) rfl rfl ⟨Nat.le_of_ble_eq_true rfl, Nat.le_of_ble_eq_true rfl⟩ (Nat.le_of_ble_eq_true rfl) (fun l D A => c_X10_draw l D A e109) ?_
    refine ww_if_eq 112 138 X dX11_encrypt_112 (by decide) (fun q => ?_) (fun q => ?_)
    · replace h := (if_pos q).symm.trans h
      refine ww_bipush 138 X (v := (-4 : Int32)) dX11_encrypt_138 (by decide) ?_
      exact ww_iretE 140 X hQ dX11_encrypt_140 h
    · replace h := (if_neg q).symm.trans h
      refine ww_iload_n 115 X dX11_encrypt_115 2 rfl rfl ?_
      refine ww_iconst 116 X (v := (4 : Int32)) dX11_encrypt_116 (by decide) ?_
      refine ww_icmp_lt 117 141 X dX11_encrypt_117 (by decide) (fun q => ?_) (fun q => ?_)
      · replace h := (if_pos q).symm.trans h
        exact ww_sub [0, 2, 3, 4, 6, 7, 8] rfl (wB_X11_encrypt_141 X hQ h)
      · replace h := (if_neg q).symm.trans h
        refine ww_aload_n 120 X dX11_encrypt_120 0 rfl rfl ?_
        obtain ⟨v121, e121, h⟩ := bO_some h
        refine ww_getR 121 X dX11_encrypt_121 fG_X11_102 e121 ?_
        refine ww_aload_n 124 X dX11_encrypt_124 0 rfl rfl ?_
        obtain ⟨v125, e125, h⟩ := bO_some h
        refine ww_getR 125 X dX11_encrypt_125 fG_X11_109 e125 ?_
        obtain ⟨v128, e128, h⟩ := bO_some h
        refine ww_getR 128 X dX11_encrypt_128 fG_X11_406 e128 ?_
        refine ww_iconst 131 X (v := (0 : Int32)) dX11_encrypt_131 (by decide) ?_
        obtain ⟨_, f132, h⟩ := bO_some h
        obtain ⟨v132, M132, e132, h⟩ := bP_some h
        refine ww_callVI0 132 X dX11_encrypt_132 mY_X3_isSecret mL_X11_409 (rcv_spec f132) ⟨_, _, rfl⟩ (by decide) (As := [.ref v128, .int (0 : Int32)]) (rest := []) rfl rfl ⟨Nat.le_of_ble_eq_true rfl, Nat.le_of_ble_eq_true rfl⟩ (Nat.le_of_ble_eq_true rfl) (fun l D A => c_X3_isSecret l D A e132) ?_
        refine ww_if_ne 135 141 X dX11_encrypt_135 (by decide) (fun q => ?_) (fun q => ?_)
        · replace h := (if_neg q).symm.trans h
          exact ww_sub [0, 2, 3, 4, 6, 7, 8] rfl (wB_X11_encrypt_141 X hQ h)
        · replace h := (if_pos q).symm.trans h
          refine ww_bipush 138 X (v := (-4 : Int32)) dX11_encrypt_138 (by decide) ?_
          exact ww_iretE 140 X hQ dX11_encrypt_140 h
  · replace h := (if_pos q).symm.trans h
    refine ww_bipush 93 X (v := (-26 : Int32)) dX11_encrypt_93 (by decide) ?_
    exact ww_iretE 95 X hQ dX11_encrypt_95 h
set_option maxHeartbeats 4000000 in
set_option maxRecDepth 100000 in
theorem wP_X11_encrypt {G : Nat → Nat} {F : Nat} {x : mXT} {sz : Nat} {r0 : Int32} {M0 : mM} (X : mCX G RX11 cX11_encrypt 9 (some .int) "encrypt" rmX11_encrypt x) (hQ : mQI x r0 M0 (sz, 0, 0)) {l0 : Nat} {l1 : Int32} {l2 : Int32} {l3 : Int32} {l4 : Int32} {l5 : Int32} {l6 : Int32} {l7 : Int32} {M : mM} (h : P_X11_encrypt G F l0 l1 l2 l3 l4 l5 l6 l7 M = some (r0, M0)) : WW x (sz, 0, 0) M 0 [(0, .ref l0), (1, .int l1), (2, .int l2), (3, .int l3), (4, .int l4), (5, .int l5), (6, .int l6), (7, .int l7)] [] := by
  unfold P_X11_encrypt at h
  refine ww_aload_n 0 X dX11_encrypt_0 0 rfl rfl ?_
  refine ww_iload_n 1 X dX11_encrypt_1 1 rfl rfl ?_
  obtain ⟨_, f2, h⟩ := bO_some h
  obtain ⟨v2, M2, e2, h⟩ := bP_some h
  refine ww_callVI0 2 X dX11_encrypt_2 mY_X11_isKey mL_X11_311 (rcv_spec f2) ⟨_, _, rfl⟩ (by decide) (As := [.int l1]) (rest := []) rfl rfl ⟨Nat.le_of_ble_eq_true rfl, Nat.le_of_ble_eq_true rfl⟩ (Nat.le_of_ble_eq_true rfl) (fun l D A => c_X11_isKey l D A e2) ?_
  refine ww_if_eq 5 45 X dX11_encrypt_5 (by decide) (fun q => ?_) (fun q => ?_)
  · replace h := (if_pos q).symm.trans h
    refine ww_bipush 45 X (v := (-2 : Int32)) dX11_encrypt_45 (by decide) ?_
    exact ww_iretE 47 X hQ dX11_encrypt_47 h
  · replace h := (if_neg q).symm.trans h
    refine ww_iload_n 8 X dX11_encrypt_8 2 rfl rfl ?_
    refine ww_if_lt 9 45 X dX11_encrypt_9 (by decide) (fun q => ?_) (fun q => ?_)
    · replace h := (if_pos q).symm.trans h
      refine ww_bipush 45 X (v := (-2 : Int32)) dX11_encrypt_45 (by decide) ?_
      exact ww_iretE 47 X hQ dX11_encrypt_47 h
    · replace h := (if_neg q).symm.trans h
      refine ww_iload_n 12 X dX11_encrypt_12 2 rfl rfl ?_
      refine ww_bipush 13 X (v := (6 : Int32)) dX11_encrypt_13 (by decide) ?_
      refine ww_icmp_ge 15 45 X dX11_encrypt_15 (by decide) (fun q => ?_) (fun q => ?_)
      · replace h := (if_pos q).symm.trans h
        refine ww_bipush 45 X (v := (-2 : Int32)) dX11_encrypt_45 (by decide) ?_
        exact ww_iretE 47 X hQ dX11_encrypt_47 h
      · replace h := (if_neg q).symm.trans h
        refine ww_iload_n 18 X dX11_encrypt_18 3 rfl rfl ?_
        refine ww_if_lt 19 45 X dX11_encrypt_19 (by decide) (fun q => ?_) (fun q => ?_)
        · replace h := (if_pos q).symm.trans h
          refine ww_bipush 45 X (v := (-2 : Int32)) dX11_encrypt_45 (by decide) ?_
          exact ww_iretE 47 X hQ dX11_encrypt_47 h
        · replace h := (if_neg q).symm.trans h
          refine ww_iload_n 22 X dX11_encrypt_22 3 rfl rfl ?_
          refine ww_iconst 23 X (v := (4 : Int32)) dX11_encrypt_23 (by decide) ?_
          refine ww_icmp_ge 24 45 X dX11_encrypt_24 (by decide) (fun q => ?_) (fun q => ?_)
          · replace h := (if_pos q).symm.trans h
            refine ww_bipush 45 X (v := (-2 : Int32)) dX11_encrypt_45 (by decide) ?_
            exact ww_iretE 47 X hQ dX11_encrypt_47 h
          · replace h := (if_neg q).symm.trans h
            refine ww_aload_n 27 X dX11_encrypt_27 0 rfl rfl ?_
            refine ww_iload 28 X dX11_encrypt_28 4 rfl ?_
            obtain ⟨_, f30, h⟩ := bO_some h
            obtain ⟨v30, M30, e30, h⟩ := bP_some h
            refine ww_callVI0 30 X dX11_encrypt_30 mY_X11_isRow mL_X11_123 (rcv_spec f30) ⟨_, _, rfl⟩ (by decide) (As := [.int l4]) (rest := []) rfl rfl ⟨Nat.le_of_ble_eq_true rfl, Nat.le_of_ble_eq_true rfl⟩ (Nat.le_of_ble_eq_true rfl) (fun l D A => c_X11_isRow l D A e30) ?_
            refine ww_if_eq 33 45 X dX11_encrypt_33 (by decide) (fun q => ?_) (fun q => ?_)
            · replace h := (if_pos q).symm.trans h
              refine ww_bipush 45 X (v := (-2 : Int32)) dX11_encrypt_45 (by decide) ?_
              exact ww_iretE 47 X hQ dX11_encrypt_47 h
            · replace h := (if_neg q).symm.trans h
              refine ww_aload_n 36 X dX11_encrypt_36 0 rfl rfl ?_
              refine ww_iload 37 X dX11_encrypt_37 5 rfl ?_
              obtain ⟨_, f39, h⟩ := bO_some h
              obtain ⟨v39, M39, e39, h⟩ := bP_some h
              refine ww_callVI0 39 X dX11_encrypt_39 mY_X11_isRow mL_X11_123 (rcv_spec f39) ⟨_, _, rfl⟩ (by decide) (As := [.int l5]) (rest := []) rfl rfl ⟨Nat.le_of_ble_eq_true rfl, Nat.le_of_ble_eq_true rfl⟩ (Nat.le_of_ble_eq_true rfl) (fun l D A => c_X11_isRow l D A e39) ?_
              refine ww_if_ne 42 48 X dX11_encrypt_42 (by decide) (fun q => ?_) (fun q => ?_)
              · replace h := (if_neg q).symm.trans h
                refine ww_iload_n 48 X dX11_encrypt_48 2 rfl rfl ?_
                refine ww_iconst 49 X (v := (4 : Int32)) dX11_encrypt_49 (by decide) ?_
                refine ww_icmp_lt 50 74 X dX11_encrypt_50 (by decide) (fun q => ?_) (fun q => ?_)
                · replace h := (if_pos q).symm.trans h
                  exact (wB_X11_encrypt_74 X hQ h)
                · replace h := (if_neg q).symm.trans h
                  refine ww_aload_n 53 X dX11_encrypt_53 0 rfl rfl ?_
                  refine ww_iload 54 X dX11_encrypt_54 6 rfl ?_
                  obtain ⟨_, f56, h⟩ := bO_some h
                  obtain ⟨v56, M56, e56, h⟩ := bP_some h
                  refine ww_callVI0 56 X dX11_encrypt_56 mY_X11_isRowOrNone mL_X11_337 (rcv_spec f56) ⟨_, _, rfl⟩ (by decide) (As := [.int l6]) (rest := []) rfl rfl ⟨Nat.le_of_ble_eq_true rfl, Nat.le_of_ble_eq_true rfl⟩ (Nat.le_of_ble_eq_true rfl) (fun l D A => c_X11_isRowOrNone l D A e56) ?_
                  refine ww_if_eq 59 71 X dX11_encrypt_59 (by decide) (fun q => ?_) (fun q => ?_)
                  · replace h := (if_pos q).symm.trans h
                    refine ww_bipush 71 X (v := (-2 : Int32)) dX11_encrypt_71 (by decide) ?_
                    exact ww_iretE 73 X hQ dX11_encrypt_73 h
                  · replace h := (if_neg q).symm.trans h
                    refine ww_aload_n 62 X dX11_encrypt_62 0 rfl rfl ?_
                    refine ww_iload 63 X dX11_encrypt_63 7 rfl ?_
                    obtain ⟨_, f65, h⟩ := bO_some h
                    obtain ⟨v65, M65, e65, h⟩ := bP_some h
                    refine ww_callVI0 65 X dX11_encrypt_65 mY_X11_isRowOrNone mL_X11_337 (rcv_spec f65) ⟨_, _, rfl⟩ (by decide) (As := [.int l7]) (rest := []) rfl rfl ⟨Nat.le_of_ble_eq_true rfl, Nat.le_of_ble_eq_true rfl⟩ (Nat.le_of_ble_eq_true rfl) (fun l D A => c_X11_isRowOrNone l D A e65) ?_
                    refine ww_if_ne 68 74 X dX11_encrypt_68 (by decide) (fun q => ?_) (fun q => ?_)
                    · replace h := (if_neg q).symm.trans h
                      exact (wB_X11_encrypt_74 X hQ h)
                    · replace h := (if_pos q).symm.trans h
                      refine ww_bipush 71 X (v := (-2 : Int32)) dX11_encrypt_71 (by decide) ?_
                      exact ww_iretE 73 X hQ dX11_encrypt_73 h
              · replace h := (if_pos q).symm.trans h
                refine ww_bipush 45 X (v := (-2 : Int32)) dX11_encrypt_45 (by decide) ?_
                exact ww_iretE 47 X hQ dX11_encrypt_47 h
theorem c_X11_encrypt {G : Nat → Nat} {F sz : Nat} {r0 : Int32} {M0 : mM} (l : Launch) (D : mD) (A : Nat → Prop) {l0 : Nat} {l1 : Int32} {l2 : Int32} {l3 : Int32} {l4 : Int32} {l5 : Int32} {l6 : Int32} {l7 : Int32} {M : mM} (h : P_X11_encrypt G F l0 l1 l2 l3 l4 l5 l6 l7 M = some (r0, M0)) : mMetI l D G A yX11_encrypt cX11_encrypt 9 (some .int) 8 216 0 0 [.ref l0, .int l1, .int l2, .int l3, .int l4, .int l5, .int l6, .int l7] M sz r0 M0 sz := mMetI_of l D G A (by decide) (Nat.le_of_ble_eq_true rfl) (fun x X hQ => wP_X11_encrypt X hQ h)
/-! SealedTokens.contentKeyComes(LSealedTokens$Key;)Z -/
theorem dX11_contentKeyComes_0 : decode cX11_contentKeyComes 0 = .ok (.aload_n 0, 1) := by decide +kernel
theorem dX11_contentKeyComes_1 : decode cX11_contentKeyComes 1 = .ok (.getfield 109, 3) := by decide +kernel
theorem dX11_contentKeyComes_4 : decode cX11_contentKeyComes 4 = .ok (.getfield 351, 3) := by decide +kernel
theorem dX11_contentKeyComes_7 : decode cX11_contentKeyComes 7 = .ok (.iconst 4, 1) := by decide +kernel
theorem dX11_contentKeyComes_8 : decode cX11_contentKeyComes 8 = .ok (.if_icmp .lt 32, 3) := by decide +kernel
theorem dX11_contentKeyComes_11 : decode cX11_contentKeyComes 11 = .ok (.aload_n 0, 1) := by decide +kernel
theorem dX11_contentKeyComes_12 : decode cX11_contentKeyComes 12 = .ok (.aload_n 1, 1) := by decide +kernel
theorem dX11_contentKeyComes_13 : decode cX11_contentKeyComes 13 = .ok (.getfield 459, 3) := by decide +kernel
theorem dX11_contentKeyComes_16 : decode cX11_contentKeyComes 16 = .ok (.aload_n 0, 1) := by decide +kernel
theorem dX11_contentKeyComes_17 : decode cX11_contentKeyComes 17 = .ok (.getfield 109, 3) := by decide +kernel
theorem dX11_contentKeyComes_20 : decode cX11_contentKeyComes 20 = .ok (.getfield 412, 3) := by decide +kernel
theorem dX11_contentKeyComes_23 : decode cX11_contentKeyComes 23 = .ok (.aload_n 0, 1) := by decide +kernel
theorem dX11_contentKeyComes_24 : decode cX11_contentKeyComes 24 = .ok (.getfield 109, 3) := by decide +kernel
theorem dX11_contentKeyComes_27 : decode cX11_contentKeyComes 27 = .ok (.getfield 557, 3) := by decide +kernel
theorem dX11_contentKeyComes_30 : decode cX11_contentKeyComes 30 = .ok (.aload_n 0, 1) := by decide +kernel
theorem dX11_contentKeyComes_31 : decode cX11_contentKeyComes 31 = .ok (.getfield 109, 3) := by decide +kernel
theorem dX11_contentKeyComes_34 : decode cX11_contentKeyComes 34 = .ok (.getfield 560, 3) := by decide +kernel
theorem dX11_contentKeyComes_37 : decode cX11_contentKeyComes 37 = .ok (.invokevirtual 547, 3) := by decide +kernel
theorem dX11_contentKeyComes_40 : decode cX11_contentKeyComes 40 = .ok (.aload_n 0, 1) := by decide +kernel
theorem dX11_contentKeyComes_41 : decode cX11_contentKeyComes 41 = .ok (.getfield 109, 3) := by decide +kernel
theorem dX11_contentKeyComes_44 : decode cX11_contentKeyComes 44 = .ok (.getfield 351, 3) := by decide +kernel
theorem dX11_contentKeyComes_47 : decode cX11_contentKeyComes 47 = .ok (.tableswitch 165 0 5 #[37, 165, 165, 70, 100, 136], 37) := by decide +kernel
theorem dX11_contentKeyComes_84 : decode cX11_contentKeyComes 84 = .ok (.aload_n 0, 1) := by decide +kernel
theorem dX11_contentKeyComes_85 : decode cX11_contentKeyComes 85 = .ok (.getfield 109, 3) := by decide +kernel
theorem dX11_contentKeyComes_88 : decode cX11_contentKeyComes 88 = .ok (.getfield 425, 3) := by decide +kernel
theorem dX11_contentKeyComes_91 : decode cX11_contentKeyComes 91 = .ok (.aload_n 1, 1) := by decide +kernel
theorem dX11_contentKeyComes_92 : decode cX11_contentKeyComes 92 = .ok (.getfield 316, 3) := by decide +kernel
theorem dX11_contentKeyComes_95 : decode cX11_contentKeyComes 95 = .ok (.invokevirtual 127, 3) := by decide +kernel
theorem dX11_contentKeyComes_98 : decode cX11_contentKeyComes 98 = .ok (.aload_n 0, 1) := by decide +kernel
theorem dX11_contentKeyComes_99 : decode cX11_contentKeyComes 99 = .ok (.getfield 109, 3) := by decide +kernel
theorem dX11_contentKeyComes_102 : decode cX11_contentKeyComes 102 = .ok (.getfield 431, 3) := by decide +kernel
theorem dX11_contentKeyComes_105 : decode cX11_contentKeyComes 105 = .ok (.getfield 113, 3) := by decide +kernel
theorem dX11_contentKeyComes_108 : decode cX11_contentKeyComes 108 = .ok (.ifCond .ne 7, 3) := by decide +kernel
theorem dX11_contentKeyComes_111 : decode cX11_contentKeyComes 111 = .ok (.iconst 1, 1) := by decide +kernel
theorem dX11_contentKeyComes_112 : decode cX11_contentKeyComes 112 = .ok (.goto 4, 3) := by decide +kernel
theorem dX11_contentKeyComes_115 : decode cX11_contentKeyComes 115 = .ok (.iconst 0, 1) := by decide +kernel
theorem dX11_contentKeyComes_116 : decode cX11_contentKeyComes 116 = .ok (.ireturn, 1) := by decide +kernel
theorem dX11_contentKeyComes_117 : decode cX11_contentKeyComes 117 = .ok (.aload_n 0, 1) := by decide +kernel
theorem dX11_contentKeyComes_118 : decode cX11_contentKeyComes 118 = .ok (.getfield 95, 3) := by decide +kernel
theorem dX11_contentKeyComes_121 : decode cX11_contentKeyComes 121 = .ok (.aload_n 0, 1) := by decide +kernel
theorem dX11_contentKeyComes_122 : decode cX11_contentKeyComes 122 = .ok (.getfield 109, 3) := by decide +kernel
theorem dX11_contentKeyComes_125 : decode cX11_contentKeyComes 125 = .ok (.getfield 431, 3) := by decide +kernel
theorem dX11_contentKeyComes_128 : decode cX11_contentKeyComes 128 = .ok (.aload_n 1, 1) := by decide +kernel
theorem dX11_contentKeyComes_129 : decode cX11_contentKeyComes 129 = .ok (.getfield 459, 3) := by decide +kernel
theorem dX11_contentKeyComes_132 : decode cX11_contentKeyComes 132 = .ok (.aload_n 1, 1) := by decide +kernel
theorem dX11_contentKeyComes_133 : decode cX11_contentKeyComes 133 = .ok (.getfield 316, 3) := by decide +kernel
theorem dX11_contentKeyComes_136 : decode cX11_contentKeyComes 136 = .ok (.aload_n 0, 1) := by decide +kernel
theorem dX11_contentKeyComes_137 : decode cX11_contentKeyComes 137 = .ok (.getfield 109, 3) := by decide +kernel
theorem dX11_contentKeyComes_140 : decode cX11_contentKeyComes 140 = .ok (.getfield 425, 3) := by decide +kernel
theorem dX11_contentKeyComes_143 : decode cX11_contentKeyComes 143 = .ok (.invokevirtual 563, 3) := by decide +kernel
theorem dX11_contentKeyComes_146 : decode cX11_contentKeyComes 146 = .ok (.ireturn, 1) := by decide +kernel
theorem dX11_contentKeyComes_147 : decode cX11_contentKeyComes 147 = .ok (.aload_n 0, 1) := by decide +kernel
theorem dX11_contentKeyComes_148 : decode cX11_contentKeyComes 148 = .ok (.getfield 109, 3) := by decide +kernel
theorem dX11_contentKeyComes_151 : decode cX11_contentKeyComes 151 = .ok (.getfield 425, 3) := by decide +kernel
theorem dX11_contentKeyComes_154 : decode cX11_contentKeyComes 154 = .ok (.aload_n 0, 1) := by decide +kernel
theorem dX11_contentKeyComes_155 : decode cX11_contentKeyComes 155 = .ok (.getfield 109, 3) := by decide +kernel
theorem dX11_contentKeyComes_158 : decode cX11_contentKeyComes 158 = .ok (.getfield 530, 3) := by decide +kernel
theorem dX11_contentKeyComes_161 : decode cX11_contentKeyComes 161 = .ok (.invokevirtual 127, 3) := by decide +kernel
theorem dX11_contentKeyComes_164 : decode cX11_contentKeyComes 164 = .ok (.aload_n 0, 1) := by decide +kernel
theorem dX11_contentKeyComes_165 : decode cX11_contentKeyComes 165 = .ok (.getfield 109, 3) := by decide +kernel
theorem dX11_contentKeyComes_168 : decode cX11_contentKeyComes 168 = .ok (.getfield 431, 3) := by decide +kernel
theorem dX11_contentKeyComes_171 : decode cX11_contentKeyComes 171 = .ok (.getfield 113, 3) := by decide +kernel
theorem dX11_contentKeyComes_174 : decode cX11_contentKeyComes 174 = .ok (.ifCond .ne 7, 3) := by decide +kernel
theorem dX11_contentKeyComes_177 : decode cX11_contentKeyComes 177 = .ok (.iconst 1, 1) := by decide +kernel
theorem dX11_contentKeyComes_178 : decode cX11_contentKeyComes 178 = .ok (.goto 4, 3) := by decide +kernel
theorem dX11_contentKeyComes_181 : decode cX11_contentKeyComes 181 = .ok (.iconst 0, 1) := by decide +kernel
theorem dX11_contentKeyComes_182 : decode cX11_contentKeyComes 182 = .ok (.ireturn, 1) := by decide +kernel
theorem dX11_contentKeyComes_183 : decode cX11_contentKeyComes 183 = .ok (.aload_n 0, 1) := by decide +kernel
theorem dX11_contentKeyComes_184 : decode cX11_contentKeyComes 184 = .ok (.getfield 77, 3) := by decide +kernel
theorem dX11_contentKeyComes_187 : decode cX11_contentKeyComes 187 = .ok (.aload_n 0, 1) := by decide +kernel
theorem dX11_contentKeyComes_188 : decode cX11_contentKeyComes 188 = .ok (.getfield 109, 3) := by decide +kernel
theorem dX11_contentKeyComes_191 : decode cX11_contentKeyComes 191 = .ok (.getfield 530, 3) := by decide +kernel
theorem dX11_contentKeyComes_194 : decode cX11_contentKeyComes 194 = .ok (.aload_n 0, 1) := by decide +kernel
theorem dX11_contentKeyComes_195 : decode cX11_contentKeyComes 195 = .ok (.getfield 109, 3) := by decide +kernel
theorem dX11_contentKeyComes_198 : decode cX11_contentKeyComes 198 = .ok (.getfield 431, 3) := by decide +kernel
theorem dX11_contentKeyComes_201 : decode cX11_contentKeyComes 201 = .ok (.aload_n 0, 1) := by decide +kernel
theorem dX11_contentKeyComes_202 : decode cX11_contentKeyComes 202 = .ok (.getfield 109, 3) := by decide +kernel
theorem dX11_contentKeyComes_205 : decode cX11_contentKeyComes 205 = .ok (.getfield 425, 3) := by decide +kernel
theorem dX11_contentKeyComes_208 : decode cX11_contentKeyComes 208 = .ok (.invokevirtual 246, 3) := by decide +kernel
theorem dX11_contentKeyComes_211 : decode cX11_contentKeyComes 211 = .ok (.ireturn, 1) := by decide +kernel
theorem dX11_contentKeyComes_212 : decode cX11_contentKeyComes 212 = .ok (.aload_n 0, 1) := by decide +kernel
theorem dX11_contentKeyComes_213 : decode cX11_contentKeyComes 213 = .ok (.getfield 77, 3) := by decide +kernel
theorem dX11_contentKeyComes_216 : decode cX11_contentKeyComes 216 = .ok (.aload_n 1, 1) := by decide +kernel
theorem dX11_contentKeyComes_217 : decode cX11_contentKeyComes 217 = .ok (.getfield 316, 3) := by decide +kernel
theorem dX11_contentKeyComes_220 : decode cX11_contentKeyComes 220 = .ok (.aload_n 0, 1) := by decide +kernel
theorem dX11_contentKeyComes_221 : decode cX11_contentKeyComes 221 = .ok (.getfield 109, 3) := by decide +kernel
theorem dX11_contentKeyComes_224 : decode cX11_contentKeyComes 224 = .ok (.getfield 431, 3) := by decide +kernel
theorem dX11_contentKeyComes_227 : decode cX11_contentKeyComes 227 = .ok (.aload_n 0, 1) := by decide +kernel
theorem dX11_contentKeyComes_228 : decode cX11_contentKeyComes 228 = .ok (.getfield 109, 3) := by decide +kernel
theorem dX11_contentKeyComes_231 : decode cX11_contentKeyComes 231 = .ok (.getfield 425, 3) := by decide +kernel
theorem dX11_contentKeyComes_234 : decode cX11_contentKeyComes 234 = .ok (.invokevirtual 246, 3) := by decide +kernel
theorem dX11_contentKeyComes_237 : decode cX11_contentKeyComes 237 = .ok (.ireturn, 1) := by decide +kernel
abbrev rmX11_contentKeyComes : Room := { frames := 6, cells := 0, slots := 0, locals := 194 }
set_option maxHeartbeats 4000000 in
set_option maxRecDepth 100000 in
theorem wB_X11_contentKeyComes_40 {G : Nat → Nat} {F : Nat} {x : mXT} {sz : Nat} {r0 : Int32} {M0 : mM} (X : mCX G RX11 cX11_contentKeyComes 2 (some .boolean) "contentKeyComes" rmX11_contentKeyComes x) (hQ : mQI x r0 M0 (sz, 0, 0)) {l0 : Nat} {l1 : Nat} {M : mM} (h : B_X11_contentKeyComes_40 G F l0 l1 M = some (r0, M0)) : WW x (sz, 0, 0) M 40 [(0, .ref l0), (1, .ref l1)] [] := by
  unfold B_X11_contentKeyComes_40 at h
  refine ww_aload_n 40 X dX11_contentKeyComes_40 0 rfl rfl ?_
  obtain ⟨v41, e41, h⟩ := bO_some h
  refine ww_getR 41 X dX11_contentKeyComes_41 fG_X11_109 e41 ?_
  obtain ⟨v44, e44, h⟩ := bO_some h
  refine ww_getI 44 X dX11_contentKeyComes_44 fG_X11_351 e44 ?_
  by_cases q0 : v44 = (0 : Int32)
  · replace h := (if_pos q0).symm.trans h
    refine ww_tableIn 47 84 X dX11_contentKeyComes_47 (off := 37) (by rw [q0]; decide) (by rw [q0]; decide) (by rw [q0]; decide) (by decide) ?_
    refine ww_aload_n 84 X dX11_contentKeyComes_84 0 rfl rfl ?_
    obtain ⟨v85, e85, h⟩ := bO_some h
    refine ww_getR 85 X dX11_contentKeyComes_85 fG_X11_109 e85 ?_
    obtain ⟨v88, e88, h⟩ := bO_some h
    refine ww_getR 88 X dX11_contentKeyComes_88 fG_X11_425 e88 ?_
    refine ww_aload_n 91 X dX11_contentKeyComes_91 1 rfl rfl ?_
    obtain ⟨v92, e92, h⟩ := bO_some h
    refine ww_getR 92 X dX11_contentKeyComes_92 fG_X11_316 e92 ?_
    obtain ⟨_, f95, h⟩ := bO_some h
    obtain ⟨M95, e95, h⟩ := bO_some h
    refine ww_callVV0 95 X dX11_contentKeyComes_95 mY_X0_become mL_X11_127 (rcv_spec f95) ⟨_, _, rfl⟩ (by decide) (As := [.ref v92]) (rest := []) rfl rfl ⟨Nat.le_of_ble_eq_true rfl, Nat.le_of_ble_eq_true rfl⟩ (Nat.le_of_ble_eq_true rfl) (fun l D A => c_X0_become l D A e95) ?_
    refine ww_aload_n 98 X dX11_contentKeyComes_98 0 rfl rfl ?_
    obtain ⟨v99, e99, h⟩ := bO_some h
    refine ww_getR 99 X dX11_contentKeyComes_99 fG_X11_109 e99 ?_
    obtain ⟨v102, e102, h⟩ := bO_some h
    refine ww_getR 102 X dX11_contentKeyComes_102 fG_X11_431 e102 ?_
    obtain ⟨v105, e105, h⟩ := bO_some h
    refine ww_getI 105 X dX11_contentKeyComes_105 fG_X11_113 e105 ?_
    refine ww_if_ne 108 115 X dX11_contentKeyComes_108 (by decide) (fun q => ?_) (fun q => ?_)
    · replace h := (if_neg q).symm.trans h
      refine ww_iconst 115 X (v := (0 : Int32)) dX11_contentKeyComes_115 (by decide) ?_
      exact ww_zretE 116 X hQ dX11_contentKeyComes_116 h
    · replace h := (if_pos q).symm.trans h
      refine ww_iconst 111 X (v := (1 : Int32)) dX11_contentKeyComes_111 (by decide) ?_
      refine ww_goto 112 116 X dX11_contentKeyComes_112 (by decide) ?_
      exact ww_zretE 116 X hQ dX11_contentKeyComes_116 h
  · replace h := (if_neg q0).symm.trans h
    by_cases q1 : v44 = (1 : Int32)
    · replace h := (if_pos q1).symm.trans h
      refine ww_tableIn 47 212 X dX11_contentKeyComes_47 (off := 165) (by rw [q1]; decide) (by rw [q1]; decide) (by rw [q1]; decide) (by decide) ?_
      refine ww_aload_n 212 X dX11_contentKeyComes_212 0 rfl rfl ?_
      obtain ⟨v213, e213, h⟩ := bO_some h
      refine ww_getR 213 X dX11_contentKeyComes_213 fG_X11_77 e213 ?_
      refine ww_aload_n 216 X dX11_contentKeyComes_216 1 rfl rfl ?_
      obtain ⟨v217, e217, h⟩ := bO_some h
      refine ww_getR 217 X dX11_contentKeyComes_217 fG_X11_316 e217 ?_
      refine ww_aload_n 220 X dX11_contentKeyComes_220 0 rfl rfl ?_
      obtain ⟨v221, e221, h⟩ := bO_some h
      refine ww_getR 221 X dX11_contentKeyComes_221 fG_X11_109 e221 ?_
      obtain ⟨v224, e224, h⟩ := bO_some h
      refine ww_getR 224 X dX11_contentKeyComes_224 fG_X11_431 e224 ?_
      refine ww_aload_n 227 X dX11_contentKeyComes_227 0 rfl rfl ?_
      obtain ⟨v228, e228, h⟩ := bO_some h
      refine ww_getR 228 X dX11_contentKeyComes_228 fG_X11_109 e228 ?_
      obtain ⟨v231, e231, h⟩ := bO_some h
      refine ww_getR 231 X dX11_contentKeyComes_231 fG_X11_425 e231 ?_
      obtain ⟨_, f234, h⟩ := bO_some h
      obtain ⟨v234, M234, e234, h⟩ := bP_some h
      refine ww_callVI0 234 X dX11_contentKeyComes_234 mY_X1_putUnwrapped mL_X11_246 (rcv_spec f234) ⟨_, _, rfl⟩ (by decide) (As := [.ref v217, .ref v224, .ref v231]) (rest := []) rfl rfl ⟨Nat.le_of_ble_eq_true rfl, Nat.le_of_ble_eq_true rfl⟩ (Nat.le_of_ble_eq_true rfl) (fun l D A => c_X1_putUnwrapped l D A e234) ?_
      exact ww_zretE 237 X hQ dX11_contentKeyComes_237 h
    · replace h := (if_neg q1).symm.trans h
      by_cases q2 : v44 = (2 : Int32)
      · replace h := (if_pos q2).symm.trans h
        refine ww_tableIn 47 212 X dX11_contentKeyComes_47 (off := 165) (by rw [q2]; decide) (by rw [q2]; decide) (by rw [q2]; decide) (by decide) ?_
        refine ww_aload_n 212 X dX11_contentKeyComes_212 0 rfl rfl ?_
        obtain ⟨v213, e213, h⟩ := bO_some h
        refine ww_getR 213 X dX11_contentKeyComes_213 fG_X11_77 e213 ?_
        refine ww_aload_n 216 X dX11_contentKeyComes_216 1 rfl rfl ?_
        obtain ⟨v217, e217, h⟩ := bO_some h
        refine ww_getR 217 X dX11_contentKeyComes_217 fG_X11_316 e217 ?_
        refine ww_aload_n 220 X dX11_contentKeyComes_220 0 rfl rfl ?_
        obtain ⟨v221, e221, h⟩ := bO_some h
        refine ww_getR 221 X dX11_contentKeyComes_221 fG_X11_109 e221 ?_
        obtain ⟨v224, e224, h⟩ := bO_some h
        refine ww_getR 224 X dX11_contentKeyComes_224 fG_X11_431 e224 ?_
        refine ww_aload_n 227 X dX11_contentKeyComes_227 0 rfl rfl ?_
        obtain ⟨v228, e228, h⟩ := bO_some h
        refine ww_getR 228 X dX11_contentKeyComes_228 fG_X11_109 e228 ?_
        obtain ⟨v231, e231, h⟩ := bO_some h
        refine ww_getR 231 X dX11_contentKeyComes_231 fG_X11_425 e231 ?_
        obtain ⟨_, f234, h⟩ := bO_some h
        obtain ⟨v234, M234, e234, h⟩ := bP_some h
        refine ww_callVI0 234 X dX11_contentKeyComes_234 mY_X1_putUnwrapped mL_X11_246 (rcv_spec f234) ⟨_, _, rfl⟩ (by decide) (As := [.ref v217, .ref v224, .ref v231]) (rest := []) rfl rfl ⟨Nat.le_of_ble_eq_true rfl, Nat.le_of_ble_eq_true rfl⟩ (Nat.le_of_ble_eq_true rfl) (fun l D A => c_X1_putUnwrapped l D A e234) ?_
        exact ww_zretE 237 X hQ dX11_contentKeyComes_237 h
      · replace h := (if_neg q2).symm.trans h
        by_cases q3 : v44 = (3 : Int32)
        · replace h := (if_pos q3).symm.trans h
          refine ww_tableIn 47 117 X dX11_contentKeyComes_47 (off := 70) (by rw [q3]; decide) (by rw [q3]; decide) (by rw [q3]; decide) (by decide) ?_
          refine ww_aload_n 117 X dX11_contentKeyComes_117 0 rfl rfl ?_
          obtain ⟨v118, e118, h⟩ := bO_some h
          refine ww_getR 118 X dX11_contentKeyComes_118 fG_X11_95 e118 ?_
          refine ww_aload_n 121 X dX11_contentKeyComes_121 0 rfl rfl ?_
          obtain ⟨v122, e122, h⟩ := bO_some h
          refine ww_getR 122 X dX11_contentKeyComes_122 fG_X11_109 e122 ?_
          obtain ⟨v125, e125, h⟩ := bO_some h
          refine ww_getR 125 X dX11_contentKeyComes_125 fG_X11_431 e125 ?_
          refine ww_aload_n 128 X dX11_contentKeyComes_128 1 rfl rfl ?_
          obtain ⟨v129, e129, h⟩ := bO_some h
          refine ww_getR 129 X dX11_contentKeyComes_129 fG_X11_459 e129 ?_
          refine ww_aload_n 132 X dX11_contentKeyComes_132 1 rfl rfl ?_
          obtain ⟨v133, e133, h⟩ := bO_some h
          refine ww_getR 133 X dX11_contentKeyComes_133 fG_X11_316 e133 ?_
          refine ww_aload_n 136 X dX11_contentKeyComes_136 0 rfl rfl ?_
          obtain ⟨v137, e137, h⟩ := bO_some h
          refine ww_getR 137 X dX11_contentKeyComes_137 fG_X11_109 e137 ?_
          obtain ⟨v140, e140, h⟩ := bO_some h
          refine ww_getR 140 X dX11_contentKeyComes_140 fG_X11_425 e140 ?_
          obtain ⟨_, f143, h⟩ := bO_some h
          obtain ⟨v143, M143, e143, h⟩ := bP_some h
          refine ww_callVI0 143 X dX11_contentKeyComes_143 mY_X8_openOaep mL_X11_563 (rcv_spec f143) ⟨_, _, rfl⟩ (by decide) (As := [.ref v125, .ref v129, .ref v133, .ref v140]) (rest := []) rfl rfl ⟨Nat.le_of_ble_eq_true rfl, Nat.le_of_ble_eq_true rfl⟩ (Nat.le_of_ble_eq_true rfl) (fun l D A => c_X8_openOaep l D A e143) ?_
          exact ww_zretE 146 X hQ dX11_contentKeyComes_146 h
        · replace h := (if_neg q3).symm.trans h
          by_cases q4 : v44 = (4 : Int32)
          · replace h := (if_pos q4).symm.trans h
            refine ww_tableIn 47 147 X dX11_contentKeyComes_47 (off := 100) (by rw [q4]; decide) (by rw [q4]; decide) (by rw [q4]; decide) (by decide) ?_
            refine ww_aload_n 147 X dX11_contentKeyComes_147 0 rfl rfl ?_
            obtain ⟨v148, e148, h⟩ := bO_some h
            refine ww_getR 148 X dX11_contentKeyComes_148 fG_X11_109 e148 ?_
            obtain ⟨v151, e151, h⟩ := bO_some h
            refine ww_getR 151 X dX11_contentKeyComes_151 fG_X11_425 e151 ?_
            refine ww_aload_n 154 X dX11_contentKeyComes_154 0 rfl rfl ?_
            obtain ⟨v155, e155, h⟩ := bO_some h
            refine ww_getR 155 X dX11_contentKeyComes_155 fG_X11_109 e155 ?_
            obtain ⟨v158, e158, h⟩ := bO_some h
            refine ww_getR 158 X dX11_contentKeyComes_158 fG_X11_530 e158 ?_
            obtain ⟨_, f161, h⟩ := bO_some h
            obtain ⟨M161, e161, h⟩ := bO_some h
            refine ww_callVV0 161 X dX11_contentKeyComes_161 mY_X0_become mL_X11_127 (rcv_spec f161) ⟨_, _, rfl⟩ (by decide) (As := [.ref v158]) (rest := []) rfl rfl ⟨Nat.le_of_ble_eq_true rfl, Nat.le_of_ble_eq_true rfl⟩ (Nat.le_of_ble_eq_true rfl) (fun l D A => c_X0_become l D A e161) ?_
            refine ww_aload_n 164 X dX11_contentKeyComes_164 0 rfl rfl ?_
            obtain ⟨v165, e165, h⟩ := bO_some h
            refine ww_getR 165 X dX11_contentKeyComes_165 fG_X11_109 e165 ?_
            obtain ⟨v168, e168, h⟩ := bO_some h
            refine ww_getR 168 X dX11_contentKeyComes_168 fG_X11_431 e168 ?_
            obtain ⟨v171, e171, h⟩ := bO_some h
            refine ww_getI 171 X dX11_contentKeyComes_171 fG_X11_113 e171 ?_
            refine ww_if_ne 174 181 X dX11_contentKeyComes_174 (by decide) (fun q => ?_) (fun q => ?_)
            · replace h := (if_neg q).symm.trans h
              refine ww_iconst 181 X (v := (0 : Int32)) dX11_contentKeyComes_181 (by decide) ?_
              exact ww_zretE 182 X hQ dX11_contentKeyComes_182 h
            · replace h := (if_pos q).symm.trans h
              refine ww_iconst 177 X (v := (1 : Int32)) dX11_contentKeyComes_177 (by decide) ?_
              refine ww_goto 178 182 X dX11_contentKeyComes_178 (by decide) ?_
              exact ww_zretE 182 X hQ dX11_contentKeyComes_182 h
          · replace h := (if_neg q4).symm.trans h
            by_cases q5 : v44 = (5 : Int32)
            · replace h := (if_pos q5).symm.trans h
              refine ww_tableIn 47 183 X dX11_contentKeyComes_47 (off := 136) (by rw [q5]; decide) (by rw [q5]; decide) (by rw [q5]; decide) (by decide) ?_
              refine ww_aload_n 183 X dX11_contentKeyComes_183 0 rfl rfl ?_
              obtain ⟨v184, e184, h⟩ := bO_some h
              refine ww_getR 184 X dX11_contentKeyComes_184 fG_X11_77 e184 ?_
              refine ww_aload_n 187 X dX11_contentKeyComes_187 0 rfl rfl ?_
              obtain ⟨v188, e188, h⟩ := bO_some h
              refine ww_getR 188 X dX11_contentKeyComes_188 fG_X11_109 e188 ?_
              obtain ⟨v191, e191, h⟩ := bO_some h
              refine ww_getR 191 X dX11_contentKeyComes_191 fG_X11_530 e191 ?_
              refine ww_aload_n 194 X dX11_contentKeyComes_194 0 rfl rfl ?_
              obtain ⟨v195, e195, h⟩ := bO_some h
              refine ww_getR 195 X dX11_contentKeyComes_195 fG_X11_109 e195 ?_
              obtain ⟨v198, e198, h⟩ := bO_some h
              refine ww_getR 198 X dX11_contentKeyComes_198 fG_X11_431 e198 ?_
              refine ww_aload_n 201 X dX11_contentKeyComes_201 0 rfl rfl ?_
              obtain ⟨v202, e202, h⟩ := bO_some h
              refine ww_getR 202 X dX11_contentKeyComes_202 fG_X11_109 e202 ?_
              obtain ⟨v205, e205, h⟩ := bO_some h
              refine ww_getR 205 X dX11_contentKeyComes_205 fG_X11_425 e205 ?_
              obtain ⟨_, f208, h⟩ := bO_some h
              obtain ⟨v208, M208, e208, h⟩ := bP_some h
              refine ww_callVI0 208 X dX11_contentKeyComes_208 mY_X1_putUnwrapped mL_X11_246 (rcv_spec f208) ⟨_, _, rfl⟩ (by decide) (As := [.ref v191, .ref v198, .ref v205]) (rest := []) rfl rfl ⟨Nat.le_of_ble_eq_true rfl, Nat.le_of_ble_eq_true rfl⟩ (Nat.le_of_ble_eq_true rfl) (fun l D A => c_X1_putUnwrapped l D A e208) ?_
              exact ww_zretE 211 X hQ dX11_contentKeyComes_211 h
            · replace h := (if_neg q5).symm.trans h
              have z0 := lv_neT q0 (show (0 : Int32).toInt = 0 by decide)
              have z1 := lv_neT q1 (show (1 : Int32).toInt = 1 by decide)
              have z2 := lv_neT q2 (show (2 : Int32).toInt = 2 by decide)
              have z3 := lv_neT q3 (show (3 : Int32).toInt = 3 by decide)
              have z4 := lv_neT q4 (show (4 : Int32).toInt = 4 by decide)
              have z5 := lv_neT q5 (show (5 : Int32).toInt = 5 by decide)
              refine ww_tableOut 47 212 X dX11_contentKeyComes_47 (by omega) (by decide) ?_
              refine ww_aload_n 212 X dX11_contentKeyComes_212 0 rfl rfl ?_
              obtain ⟨v213, e213, h⟩ := bO_some h
              refine ww_getR 213 X dX11_contentKeyComes_213 fG_X11_77 e213 ?_
              refine ww_aload_n 216 X dX11_contentKeyComes_216 1 rfl rfl ?_
              obtain ⟨v217, e217, h⟩ := bO_some h
              refine ww_getR 217 X dX11_contentKeyComes_217 fG_X11_316 e217 ?_
              refine ww_aload_n 220 X dX11_contentKeyComes_220 0 rfl rfl ?_
              obtain ⟨v221, e221, h⟩ := bO_some h
              refine ww_getR 221 X dX11_contentKeyComes_221 fG_X11_109 e221 ?_
              obtain ⟨v224, e224, h⟩ := bO_some h
              refine ww_getR 224 X dX11_contentKeyComes_224 fG_X11_431 e224 ?_
              refine ww_aload_n 227 X dX11_contentKeyComes_227 0 rfl rfl ?_
              obtain ⟨v228, e228, h⟩ := bO_some h
              refine ww_getR 228 X dX11_contentKeyComes_228 fG_X11_109 e228 ?_
              obtain ⟨v231, e231, h⟩ := bO_some h
              refine ww_getR 231 X dX11_contentKeyComes_231 fG_X11_425 e231 ?_
              obtain ⟨_, f234, h⟩ := bO_some h
              obtain ⟨v234, M234, e234, h⟩ := bP_some h
              refine ww_callVI0 234 X dX11_contentKeyComes_234 mY_X1_putUnwrapped mL_X11_246 (rcv_spec f234) ⟨_, _, rfl⟩ (by decide) (As := [.ref v217, .ref v224, .ref v231]) (rest := []) rfl rfl ⟨Nat.le_of_ble_eq_true rfl, Nat.le_of_ble_eq_true rfl⟩ (Nat.le_of_ble_eq_true rfl) (fun l D A => c_X1_putUnwrapped l D A e234) ?_
              exact ww_zretE 237 X hQ dX11_contentKeyComes_237 h
set_option maxHeartbeats 4000000 in
set_option maxRecDepth 100000 in
theorem wP_X11_contentKeyComes {G : Nat → Nat} {F : Nat} {x : mXT} {sz : Nat} {r0 : Int32} {M0 : mM} (X : mCX G RX11 cX11_contentKeyComes 2 (some .boolean) "contentKeyComes" rmX11_contentKeyComes x) (hQ : mQI x r0 M0 (sz, 0, 0)) {l0 : Nat} {l1 : Nat} {M : mM} (h : P_X11_contentKeyComes G F l0 l1 M = some (r0, M0)) : WW x (sz, 0, 0) M 0 [(0, .ref l0), (1, .ref l1)] [] := by
  unfold P_X11_contentKeyComes at h
  refine ww_aload_n 0 X dX11_contentKeyComes_0 0 rfl rfl ?_
  obtain ⟨v1, e1, h⟩ := bO_some h
  refine ww_getR 1 X dX11_contentKeyComes_1 fG_X11_109 e1 ?_
  obtain ⟨v4, e4, h⟩ := bO_some h
  refine ww_getI 4 X dX11_contentKeyComes_4 fG_X11_351 e4 ?_
  refine ww_iconst 7 X (v := (4 : Int32)) dX11_contentKeyComes_7 (by decide) ?_
  refine ww_icmp_lt 8 40 X dX11_contentKeyComes_8 (by decide) (fun q => ?_) (fun q => ?_)
  · replace h := (if_pos q).symm.trans h
    exact (wB_X11_contentKeyComes_40 X hQ h)
  · replace h := (if_neg q).symm.trans h
    refine ww_aload_n 11 X dX11_contentKeyComes_11 0 rfl rfl ?_
    refine ww_aload_n 12 X dX11_contentKeyComes_12 1 rfl rfl ?_
    obtain ⟨v13, e13, h⟩ := bO_some h
    refine ww_getR 13 X dX11_contentKeyComes_13 fG_X11_459 e13 ?_
    refine ww_aload_n 16 X dX11_contentKeyComes_16 0 rfl rfl ?_
    obtain ⟨v17, e17, h⟩ := bO_some h
    refine ww_getR 17 X dX11_contentKeyComes_17 fG_X11_109 e17 ?_
    obtain ⟨v20, e20, h⟩ := bO_some h
    refine ww_getR 20 X dX11_contentKeyComes_20 fG_X11_412 e20 ?_
    refine ww_aload_n 23 X dX11_contentKeyComes_23 0 rfl rfl ?_
    obtain ⟨v24, e24, h⟩ := bO_some h
    refine ww_getR 24 X dX11_contentKeyComes_24 fG_X11_109 e24 ?_
    obtain ⟨v27, e27, h⟩ := bO_some h
    refine ww_getR 27 X dX11_contentKeyComes_27 fG_X11_557 e27 ?_
    refine ww_aload_n 30 X dX11_contentKeyComes_30 0 rfl rfl ?_
    obtain ⟨v31, e31, h⟩ := bO_some h
    refine ww_getR 31 X dX11_contentKeyComes_31 fG_X11_109 e31 ?_
    obtain ⟨v34, e34, h⟩ := bO_some h
    refine ww_getR 34 X dX11_contentKeyComes_34 fG_X11_560 e34 ?_
    obtain ⟨_, f37, h⟩ := bO_some h
    obtain ⟨M37, e37, h⟩ := bO_some h
    refine ww_callVV0 37 X dX11_contentKeyComes_37 mY_X11_agree mL_X11_547 (rcv_spec f37) ⟨_, _, rfl⟩ (by decide) (As := [.ref v13, .ref v20, .ref v27, .ref v34]) (rest := []) rfl rfl ⟨Nat.le_of_ble_eq_true rfl, Nat.le_of_ble_eq_true rfl⟩ (Nat.le_of_ble_eq_true rfl) (fun l D A => c_X11_agree l D A e37) ?_
    exact (wB_X11_contentKeyComes_40 X hQ h)
theorem c_X11_contentKeyComes {G : Nat → Nat} {F sz : Nat} {r0 : Int32} {M0 : mM} (l : Launch) (D : mD) (A : Nat → Prop) {l0 : Nat} {l1 : Nat} {M : mM} (h : P_X11_contentKeyComes G F l0 l1 M = some (r0, M0)) : mMetI l D G A yX11_contentKeyComes cX11_contentKeyComes 2 (some .boolean) 6 194 0 0 [.ref l0, .ref l1] M sz r0 M0 sz := mMetI_of l D G A (by decide) (Nat.le_of_ble_eq_true rfl) (fun x X hQ => wP_X11_contentKeyComes X hQ h)
/-! SealedTokens.decrypt(I)I -/
theorem dX11_decrypt_0 : decode cX11_decrypt 0 = .ok (.aload_n 0, 1) := by decide +kernel
theorem dX11_decrypt_1 : decode cX11_decrypt 1 = .ok (.iload_n 1, 1) := by decide +kernel
theorem dX11_decrypt_2 : decode cX11_decrypt 2 = .ok (.invokevirtual 123, 3) := by decide +kernel
theorem dX11_decrypt_5 : decode cX11_decrypt 5 = .ok (.ifCond .ne 6, 3) := by decide +kernel
theorem dX11_decrypt_8 : decode cX11_decrypt 8 = .ok (.bipush (-2), 2) := by decide +kernel
theorem dX11_decrypt_10 : decode cX11_decrypt 10 = .ok (.ireturn, 1) := by decide +kernel
theorem dX11_decrypt_11 : decode cX11_decrypt 11 = .ok (.aload_n 0, 1) := by decide +kernel
theorem dX11_decrypt_12 : decode cX11_decrypt 12 = .ok (.getfield 11, 3) := by decide +kernel
theorem dX11_decrypt_15 : decode cX11_decrypt 15 = .ok (.iload_n 1, 1) := by decide +kernel
theorem dX11_decrypt_16 : decode cX11_decrypt 16 = .ok (.aaload, 1) := by decide +kernel
theorem dX11_decrypt_17 : decode cX11_decrypt 17 = .ok (.astore_n 2, 1) := by decide +kernel
theorem dX11_decrypt_18 : decode cX11_decrypt 18 = .ok (.aload_n 0, 1) := by decide +kernel
theorem dX11_decrypt_19 : decode cX11_decrypt 19 = .ok (.getfield 109, 3) := by decide +kernel
theorem dX11_decrypt_22 : decode cX11_decrypt 22 = .ok (.aload_n 2, 1) := by decide +kernel
theorem dX11_decrypt_23 : decode cX11_decrypt 23 = .ok (.iconst 5, 1) := by decide +kernel
theorem dX11_decrypt_24 : decode cX11_decrypt 24 = .ok (.invokevirtual 371, 3) := by decide +kernel
theorem dX11_decrypt_27 : decode cX11_decrypt 27 = .ok (.ifCond .ne 6, 3) := by decide +kernel
theorem dX11_decrypt_30 : decode cX11_decrypt 30 = .ok (.bipush (-20), 2) := by decide +kernel
theorem dX11_decrypt_32 : decode cX11_decrypt 32 = .ok (.ireturn, 1) := by decide +kernel
theorem dX11_decrypt_33 : decode cX11_decrypt 33 = .ok (.iconst 0, 1) := by decide +kernel
theorem dX11_decrypt_34 : decode cX11_decrypt 34 = .ok (.istore_n 3, 1) := by decide +kernel
theorem dX11_decrypt_35 : decode cX11_decrypt 35 = .ok (.iload_n 3, 1) := by decide +kernel
theorem dX11_decrypt_36 : decode cX11_decrypt 36 = .ok (.iconst 5, 1) := by decide +kernel
theorem dX11_decrypt_37 : decode cX11_decrypt 37 = .ok (.if_icmp .ge 24, 3) := by decide +kernel
theorem dX11_decrypt_40 : decode cX11_decrypt 40 = .ok (.aload_n 0, 1) := by decide +kernel
theorem dX11_decrypt_41 : decode cX11_decrypt 41 = .ok (.getfield 109, 3) := by decide +kernel
theorem dX11_decrypt_44 : decode cX11_decrypt 44 = .ok (.aload_n 2, 1) := by decide +kernel
theorem dX11_decrypt_45 : decode cX11_decrypt 45 = .ok (.iload_n 3, 1) := by decide +kernel
theorem dX11_decrypt_46 : decode cX11_decrypt 46 = .ok (.invokevirtual 375, 3) := by decide +kernel
theorem dX11_decrypt_49 : decode cX11_decrypt 49 = .ok (.ifCond .eq 6, 3) := by decide +kernel
theorem dX11_decrypt_52 : decode cX11_decrypt 52 = .ok (.bipush (-21), 2) := by decide +kernel
theorem dX11_decrypt_54 : decode cX11_decrypt 54 = .ok (.ireturn, 1) := by decide +kernel
theorem dX11_decrypt_55 : decode cX11_decrypt 55 = .ok (.iinc 3 1, 3) := by decide +kernel
theorem dX11_decrypt_58 : decode cX11_decrypt 58 = .ok (.goto (-23), 3) := by decide +kernel
theorem dX11_decrypt_61 : decode cX11_decrypt 61 = .ok (.aload_n 0, 1) := by decide +kernel
theorem dX11_decrypt_62 : decode cX11_decrypt 62 = .ok (.getfield 109, 3) := by decide +kernel
theorem dX11_decrypt_65 : decode cX11_decrypt 65 = .ok (.aload_n 2, 1) := by decide +kernel
theorem dX11_decrypt_66 : decode cX11_decrypt 66 = .ok (.iconst 0, 1) := by decide +kernel
theorem dX11_decrypt_67 : decode cX11_decrypt 67 = .ok (.aload_n 0, 1) := by decide +kernel
theorem dX11_decrypt_68 : decode cX11_decrypt 68 = .ok (.getfield 109, 3) := by decide +kernel
theorem dX11_decrypt_71 : decode cX11_decrypt 71 = .ok (.getfield 352, 3) := by decide +kernel
theorem dX11_decrypt_74 : decode cX11_decrypt 74 = .ok (.invokevirtual 378, 3) := by decide +kernel
theorem dX11_decrypt_77 : decode cX11_decrypt 77 = .ok (.aload_n 0, 1) := by decide +kernel
theorem dX11_decrypt_78 : decode cX11_decrypt 78 = .ok (.getfield 52, 3) := by decide +kernel
theorem dX11_decrypt_81 : decode cX11_decrypt 81 = .ok (.aload_n 0, 1) := by decide +kernel
theorem dX11_decrypt_82 : decode cX11_decrypt 82 = .ok (.getfield 109, 3) := by decide +kernel
theorem dX11_decrypt_85 : decode cX11_decrypt 85 = .ok (.getfield 352, 3) := by decide +kernel
theorem dX11_decrypt_88 : decode cX11_decrypt 88 = .ok (.aload_n 0, 1) := by decide +kernel
theorem dX11_decrypt_89 : decode cX11_decrypt 89 = .ok (.getfield 44, 3) := by decide +kernel
theorem dX11_decrypt_92 : decode cX11_decrypt 92 = .ok (.invokevirtual 142, 3) := by decide +kernel
theorem dX11_decrypt_95 : decode cX11_decrypt 95 = .ok (.iconst (-1), 1) := by decide +kernel
theorem dX11_decrypt_96 : decode cX11_decrypt 96 = .ok (.if_icmp .eq 6, 3) := by decide +kernel
theorem dX11_decrypt_99 : decode cX11_decrypt 99 = .ok (.bipush (-22), 2) := by decide +kernel
theorem dX11_decrypt_101 : decode cX11_decrypt 101 = .ok (.ireturn, 1) := by decide +kernel
theorem dX11_decrypt_102 : decode cX11_decrypt 102 = .ok (.aload_n 0, 1) := by decide +kernel
theorem dX11_decrypt_103 : decode cX11_decrypt 103 = .ok (.getfield 109, 3) := by decide +kernel
theorem dX11_decrypt_106 : decode cX11_decrypt 106 = .ok (.aload_n 0, 1) := by decide +kernel
theorem dX11_decrypt_107 : decode cX11_decrypt 107 = .ok (.getfield 44, 3) := by decide +kernel
theorem dX11_decrypt_110 : decode cX11_decrypt 110 = .ok (.invokevirtual 437, 3) := by decide +kernel
theorem dX11_decrypt_113 : decode cX11_decrypt 113 = .ok (.istore_n 3, 1) := by decide +kernel
theorem dX11_decrypt_114 : decode cX11_decrypt 114 = .ok (.iload_n 3, 1) := by decide +kernel
theorem dX11_decrypt_115 : decode cX11_decrypt 115 = .ok (.ifCond .eq 5, 3) := by decide +kernel
theorem dX11_decrypt_118 : decode cX11_decrypt 118 = .ok (.iload_n 3, 1) := by decide +kernel
theorem dX11_decrypt_119 : decode cX11_decrypt 119 = .ok (.ireturn, 1) := by decide +kernel
theorem dX11_decrypt_120 : decode cX11_decrypt 120 = .ok (.aload_n 0, 1) := by decide +kernel
theorem dX11_decrypt_121 : decode cX11_decrypt 121 = .ok (.getfield 109, 3) := by decide +kernel
theorem dX11_decrypt_124 : decode cX11_decrypt 124 = .ok (.getfield 351, 3) := by decide +kernel
theorem dX11_decrypt_127 : decode cX11_decrypt 127 = .ok (.iconst 4, 1) := by decide +kernel
theorem dX11_decrypt_128 : decode cX11_decrypt 128 = .ok (.if_icmp .lt 23, 3) := by decide +kernel
theorem dX11_decrypt_131 : decode cX11_decrypt 131 = .ok (.aload_n 0, 1) := by decide +kernel
theorem dX11_decrypt_132 : decode cX11_decrypt 132 = .ok (.getfield 102, 3) := by decide +kernel
theorem dX11_decrypt_135 : decode cX11_decrypt 135 = .ok (.aload_n 0, 1) := by decide +kernel
theorem dX11_decrypt_136 : decode cX11_decrypt 136 = .ok (.getfield 109, 3) := by decide +kernel
theorem dX11_decrypt_139 : decode cX11_decrypt 139 = .ok (.getfield 412, 3) := by decide +kernel
theorem dX11_decrypt_142 : decode cX11_decrypt 142 = .ok (.invokevirtual 279, 3) := by decide +kernel
theorem dX11_decrypt_145 : decode cX11_decrypt 145 = .ok (.ifCond .ne 6, 3) := by decide +kernel
theorem dX11_decrypt_148 : decode cX11_decrypt 148 = .ok (.bipush (-23), 2) := by decide +kernel
theorem dX11_decrypt_150 : decode cX11_decrypt 150 = .ok (.ireturn, 1) := by decide +kernel
theorem dX11_decrypt_151 : decode cX11_decrypt 151 = .ok (.aload_n 0, 1) := by decide +kernel
theorem dX11_decrypt_152 : decode cX11_decrypt 152 = .ok (.getfield 28, 3) := by decide +kernel
theorem dX11_decrypt_155 : decode cX11_decrypt 155 = .ok (.invokevirtual 131, 3) := by decide +kernel
theorem dX11_decrypt_158 : decode cX11_decrypt 158 = .ok (.aload_n 0, 1) := by decide +kernel
theorem dX11_decrypt_159 : decode cX11_decrypt 159 = .ok (.getfield 28, 3) := by decide +kernel
theorem dX11_decrypt_162 : decode cX11_decrypt 162 = .ok (.aload_n 2, 1) := by decide +kernel
theorem dX11_decrypt_163 : decode cX11_decrypt 163 = .ok (.iconst 0, 1) := by decide +kernel
theorem dX11_decrypt_164 : decode cX11_decrypt 164 = .ok (.aload_n 0, 1) := by decide +kernel
theorem dX11_decrypt_165 : decode cX11_decrypt 165 = .ok (.getfield 109, 3) := by decide +kernel
theorem dX11_decrypt_168 : decode cX11_decrypt 168 = .ok (.iconst 0, 1) := by decide +kernel
theorem dX11_decrypt_169 : decode cX11_decrypt 169 = .ok (.invokevirtual 382, 3) := by decide +kernel
theorem dX11_decrypt_172 : decode cX11_decrypt 172 = .ok (.invokevirtual 385, 3) := by decide +kernel
theorem dX11_decrypt_175 : decode cX11_decrypt 175 = .ok (.aload_n 0, 1) := by decide +kernel
theorem dX11_decrypt_176 : decode cX11_decrypt 176 = .ok (.getfield 109, 3) := by decide +kernel
theorem dX11_decrypt_179 : decode cX11_decrypt 179 = .ok (.aload_n 2, 1) := by decide +kernel
theorem dX11_decrypt_180 : decode cX11_decrypt 180 = .ok (.aload_n 0, 1) := by decide +kernel
theorem dX11_decrypt_181 : decode cX11_decrypt 181 = .ok (.getfield 31, 3) := by decide +kernel
theorem dX11_decrypt_184 : decode cX11_decrypt 184 = .ok (.invokevirtual 440, 3) := by decide +kernel
theorem dX11_decrypt_187 : decode cX11_decrypt 187 = .ok (.istore 4, 2) := by decide +kernel
theorem dX11_decrypt_189 : decode cX11_decrypt 189 = .ok (.iconst 0, 1) := by decide +kernel
theorem dX11_decrypt_190 : decode cX11_decrypt 190 = .ok (.istore 5, 2) := by decide +kernel
theorem dX11_decrypt_192 : decode cX11_decrypt 192 = .ok (.iconst 0, 1) := by decide +kernel
theorem dX11_decrypt_193 : decode cX11_decrypt 193 = .ok (.istore 6, 2) := by decide +kernel
theorem dX11_decrypt_195 : decode cX11_decrypt 195 = .ok (.iload 6, 2) := by decide +kernel
theorem dX11_decrypt_197 : decode cX11_decrypt 197 = .ok (.bipush 16, 2) := by decide +kernel
theorem dX11_decrypt_199 : decode cX11_decrypt 199 = .ok (.if_icmp .ge 156, 3) := by decide +kernel
theorem dX11_decrypt_202 : decode cX11_decrypt 202 = .ok (.aload_n 0, 1) := by decide +kernel
theorem dX11_decrypt_203 : decode cX11_decrypt 203 = .ok (.getfield 58, 3) := by decide +kernel
theorem dX11_decrypt_206 : decode cX11_decrypt 206 = .ok (.iload 6, 2) := by decide +kernel
theorem dX11_decrypt_208 : decode cX11_decrypt 208 = .ok (.aaload, 1) := by decide +kernel
theorem dX11_decrypt_209 : decode cX11_decrypt 209 = .ok (.getfield 308, 3) := by decide +kernel
theorem dX11_decrypt_212 : decode cX11_decrypt 212 = .ok (.ifCond .eq 137, 3) := by decide +kernel
theorem dX11_decrypt_215 : decode cX11_decrypt 215 = .ok (.aload_n 0, 1) := by decide +kernel
theorem dX11_decrypt_216 : decode cX11_decrypt 216 = .ok (.getfield 109, 3) := by decide +kernel
theorem dX11_decrypt_219 : decode cX11_decrypt 219 = .ok (.aload_n 0, 1) := by decide +kernel
theorem dX11_decrypt_220 : decode cX11_decrypt 220 = .ok (.getfield 44, 3) := by decide +kernel
theorem dX11_decrypt_223 : decode cX11_decrypt 223 = .ok (.aload_n 0, 1) := by decide +kernel
theorem dX11_decrypt_224 : decode cX11_decrypt 224 = .ok (.getfield 58, 3) := by decide +kernel
theorem dX11_decrypt_227 : decode cX11_decrypt 227 = .ok (.iload 6, 2) := by decide +kernel
theorem dX11_decrypt_229 : decode cX11_decrypt 229 = .ok (.aaload, 1) := by decide +kernel
theorem dX11_decrypt_230 : decode cX11_decrypt 230 = .ok (.invokevirtual 388, 3) := by decide +kernel
theorem dX11_decrypt_233 : decode cX11_decrypt 233 = .ok (.ifCond .eq 116, 3) := by decide +kernel
theorem dX11_decrypt_236 : decode cX11_decrypt 236 = .ok (.aload_n 0, 1) := by decide +kernel
theorem dX11_decrypt_237 : decode cX11_decrypt 237 = .ok (.getfield 58, 3) := by decide +kernel
theorem dX11_decrypt_240 : decode cX11_decrypt 240 = .ok (.iload 6, 2) := by decide +kernel
theorem dX11_decrypt_242 : decode cX11_decrypt 242 = .ok (.aaload, 1) := by decide +kernel
theorem dX11_decrypt_243 : decode cX11_decrypt 243 = .ok (.aload_n 0, 1) := by decide +kernel
theorem dX11_decrypt_244 : decode cX11_decrypt 244 = .ok (.getfield 109, 3) := by decide +kernel
theorem dX11_decrypt_247 : decode cX11_decrypt 247 = .ok (.getfield 351, 3) := by decide +kernel
theorem dX11_decrypt_250 : decode cX11_decrypt 250 = .ok (.aload_n 0, 1) := by decide +kernel
theorem dX11_decrypt_251 : decode cX11_decrypt 251 = .ok (.getfield 109, 3) := by decide +kernel
theorem dX11_decrypt_254 : decode cX11_decrypt 254 = .ok (.getfield 444, 3) := by decide +kernel
theorem dX11_decrypt_257 : decode cX11_decrypt 257 = .ok (.iconst 1, 1) := by decide +kernel
theorem dX11_decrypt_258 : decode cX11_decrypt 258 = .ok (.invokevirtual 398, 3) := by decide +kernel
theorem dX11_decrypt_261 : decode cX11_decrypt 261 = .ok (.ifCond .eq 88, 3) := by decide +kernel
theorem dX11_decrypt_264 : decode cX11_decrypt 264 = .ok (.iconst 1, 1) := by decide +kernel
theorem dX11_decrypt_265 : decode cX11_decrypt 265 = .ok (.istore 5, 2) := by decide +kernel
theorem dX11_decrypt_267 : decode cX11_decrypt 267 = .ok (.iload 4, 2) := by decide +kernel
theorem dX11_decrypt_269 : decode cX11_decrypt 269 = .ok (.ifCond .eq 80, 3) := by decide +kernel
theorem dX11_decrypt_272 : decode cX11_decrypt 272 = .ok (.aload_n 0, 1) := by decide +kernel
theorem dX11_decrypt_273 : decode cX11_decrypt 273 = .ok (.aload_n 0, 1) := by decide +kernel
theorem dX11_decrypt_274 : decode cX11_decrypt 274 = .ok (.getfield 58, 3) := by decide +kernel
theorem dX11_decrypt_277 : decode cX11_decrypt 277 = .ok (.iload 6, 2) := by decide +kernel
theorem dX11_decrypt_279 : decode cX11_decrypt 279 = .ok (.aaload, 1) := by decide +kernel
theorem dX11_decrypt_280 : decode cX11_decrypt 280 = .ok (.invokevirtual 447, 3) := by decide +kernel
theorem dX11_decrypt_283 : decode cX11_decrypt 283 = .ok (.ifCond .eq 66, 3) := by decide +kernel
theorem dX11_decrypt_286 : decode cX11_decrypt 286 = .ok (.aload_n 0, 1) := by decide +kernel
theorem dX11_decrypt_287 : decode cX11_decrypt 287 = .ok (.getfield 86, 3) := by decide +kernel
theorem dX11_decrypt_290 : decode cX11_decrypt 290 = .ok (.aload_n 0, 1) := by decide +kernel
theorem dX11_decrypt_291 : decode cX11_decrypt 291 = .ok (.getfield 109, 3) := by decide +kernel
theorem dX11_decrypt_294 : decode cX11_decrypt 294 = .ok (.getfield 444, 3) := by decide +kernel
theorem dX11_decrypt_297 : decode cX11_decrypt 297 = .ok (.aload_n 0, 1) := by decide +kernel
theorem dX11_decrypt_298 : decode cX11_decrypt 298 = .ok (.getfield 109, 3) := by decide +kernel
theorem dX11_decrypt_301 : decode cX11_decrypt 301 = .ok (.getfield 425, 3) := by decide +kernel
theorem dX11_decrypt_304 : decode cX11_decrypt 304 = .ok (.aload_n 0, 1) := by decide +kernel
theorem dX11_decrypt_305 : decode cX11_decrypt 305 = .ok (.getfield 109, 3) := by decide +kernel
theorem dX11_decrypt_308 : decode cX11_decrypt 308 = .ok (.getfield 428, 3) := by decide +kernel
theorem dX11_decrypt_311 : decode cX11_decrypt 311 = .ok (.aload_n 0, 1) := by decide +kernel
theorem dX11_decrypt_312 : decode cX11_decrypt 312 = .ok (.getfield 28, 3) := by decide +kernel
theorem dX11_decrypt_315 : decode cX11_decrypt 315 = .ok (.aload_n 0, 1) := by decide +kernel
theorem dX11_decrypt_316 : decode cX11_decrypt 316 = .ok (.getfield 31, 3) := by decide +kernel
theorem dX11_decrypt_319 : decode cX11_decrypt 319 = .ok (.aload_n 0, 1) := by decide +kernel
theorem dX11_decrypt_320 : decode cX11_decrypt 320 = .ok (.getfield 34, 3) := by decide +kernel
theorem dX11_decrypt_323 : decode cX11_decrypt 323 = .ok (.invokevirtual 265, 3) := by decide +kernel
theorem dX11_decrypt_326 : decode cX11_decrypt 326 = .ok (.ifCond .eq 23, 3) := by decide +kernel
theorem dX11_decrypt_329 : decode cX11_decrypt 329 = .ok (.aload_n 0, 1) := by decide +kernel
theorem dX11_decrypt_330 : decode cX11_decrypt 330 = .ok (.aload_n 0, 1) := by decide +kernel
theorem dX11_decrypt_331 : decode cX11_decrypt 331 = .ok (.getfield 34, 3) := by decide +kernel
theorem dX11_decrypt_334 : decode cX11_decrypt 334 = .ok (.iconst 0, 1) := by decide +kernel
theorem dX11_decrypt_335 : decode cX11_decrypt 335 = .ok (.aload_n 0, 1) := by decide +kernel
theorem dX11_decrypt_336 : decode cX11_decrypt 336 = .ok (.getfield 34, 3) := by decide +kernel
theorem dX11_decrypt_339 : decode cX11_decrypt 339 = .ok (.getfield 113, 3) := by decide +kernel
theorem dX11_decrypt_342 : decode cX11_decrypt 342 = .ok (.invokevirtual 176, 3) := by decide +kernel
theorem dX11_decrypt_345 : decode cX11_decrypt 345 = .ok (.pop, 1) := by decide +kernel
theorem dX11_decrypt_346 : decode cX11_decrypt 346 = .ok (.iload 6, 2) := by decide +kernel
theorem dX11_decrypt_348 : decode cX11_decrypt 348 = .ok (.ireturn, 1) := by decide +kernel
theorem dX11_decrypt_349 : decode cX11_decrypt 349 = .ok (.iinc 6 1, 3) := by decide +kernel
theorem dX11_decrypt_352 : decode cX11_decrypt 352 = .ok (.goto (-157), 3) := by decide +kernel
theorem dX11_decrypt_355 : decode cX11_decrypt 355 = .ok (.iload 5, 2) := by decide +kernel
theorem dX11_decrypt_357 : decode cX11_decrypt 357 = .ok (.ifCond .eq 8, 3) := by decide +kernel
theorem dX11_decrypt_360 : decode cX11_decrypt 360 = .ok (.bipush (-27), 2) := by decide +kernel
theorem dX11_decrypt_362 : decode cX11_decrypt 362 = .ok (.goto 5, 3) := by decide +kernel
theorem dX11_decrypt_365 : decode cX11_decrypt 365 = .ok (.bipush (-26), 2) := by decide +kernel
theorem dX11_decrypt_367 : decode cX11_decrypt 367 = .ok (.ireturn, 1) := by decide +kernel
abbrev rmX11_decrypt : Room := { frames := 9, cells := 0, slots := 0, locals := 215 }
set_option maxHeartbeats 4000000 in
set_option maxRecDepth 100000 in
theorem wB_X11_decrypt_195 {G : Nat → Nat} {F : Nat} {x : mXT} {sz : Nat} {r0 : Int32} {M0 : mM} (X : mCX G RX11 cX11_decrypt 7 (some .int) "decrypt" rmX11_decrypt x) (hQ : mQI x r0 M0 (sz, 0, 0)) : ∀ (n : Nat) (l0 : Nat) (l4 : Int32) (l5 : Int32) (l6 : Int32) (M : mM), B_X11_decrypt_195 G F n l0 l4 l5 l6 M = some (r0, M0) → WW x (sz, 0, 0) M 195 [(0, .ref l0), (4, .int l4), (5, .int l5), (6, .int l6)] [] := by
  intro n
  induction n with
  | zero =>
    intro l0 l4 l5 l6 M h
    exact nomatch (show (none : Option (Int32 × mM)) = some (r0, M0) from h)
  | succ n ih =>
    intro l0 l4 l5 l6 M h
    rw [B_X11_decrypt_195] at h
    refine ww_iload 195 X dX11_decrypt_195 3 rfl ?_
    refine ww_bipush 197 X (v := (16 : Int32)) dX11_decrypt_197 (by decide) ?_
    refine ww_icmp_ge 199 355 X dX11_decrypt_199 (by decide) (fun q => ?_) (fun q => ?_)
    · replace h := (if_pos q).symm.trans h
      refine ww_iload 355 X dX11_decrypt_355 2 rfl ?_
      refine ww_if_eq 357 365 X dX11_decrypt_357 (by decide) (fun q => ?_) (fun q => ?_)
      · replace h := (if_pos q).symm.trans h
        refine ww_bipush 365 X (v := (-26 : Int32)) dX11_decrypt_365 (by decide) ?_
        exact ww_iretE 367 X hQ dX11_decrypt_367 h
      · replace h := (if_neg q).symm.trans h
        refine ww_bipush 360 X (v := (-27 : Int32)) dX11_decrypt_360 (by decide) ?_
        refine ww_goto 362 367 X dX11_decrypt_362 (by decide) ?_
        exact ww_iretE 367 X hQ dX11_decrypt_367 h
    · replace h := (if_neg q).symm.trans h
      refine ww_aload_n 202 X dX11_decrypt_202 0 rfl rfl ?_
      obtain ⟨v203, e203, h⟩ := bO_some h
      refine ww_getR 203 X dX11_decrypt_203 fG_X11_58 e203 ?_
      refine ww_iload 206 X dX11_decrypt_206 3 rfl ?_
      obtain ⟨v208, e208, h⟩ := bO_some h
      refine ww_aald5 208 X dX11_decrypt_208 e208 ?_
      obtain ⟨v209, e209, h⟩ := bO_some h
      refine ww_getI 209 X dX11_decrypt_209 fG_X11_308 e209 ?_
      refine ww_if_eq 212 349 X dX11_decrypt_212 (by decide) (fun q => ?_) (fun q => ?_)
      · replace h := (if_pos q).symm.trans h
        refine ww_iinc 349 X dX11_decrypt_349 (lv' := [(0, .ref l0), (4, .int l4), (5, .int l5), (6, .int (l6 + 1))]) 3 rfl rfl (by decide) [1, 2, 3, 0] rfl ?_
        refine ww_goto 352 195 X dX11_decrypt_352 (by decide) ?_
        exact (ih _ _ _ _ _ h)
      · replace h := (if_neg q).symm.trans h
        refine ww_aload_n 215 X dX11_decrypt_215 0 rfl rfl ?_
        obtain ⟨v216, e216, h⟩ := bO_some h
        refine ww_getR 216 X dX11_decrypt_216 fG_X11_109 e216 ?_
        refine ww_aload_n 219 X dX11_decrypt_219 0 rfl rfl ?_
        obtain ⟨v220, e220, h⟩ := bO_some h
        refine ww_getR 220 X dX11_decrypt_220 fG_X11_44 e220 ?_
        refine ww_aload_n 223 X dX11_decrypt_223 0 rfl rfl ?_
        obtain ⟨v224, e224, h⟩ := bO_some h
        refine ww_getR 224 X dX11_decrypt_224 fG_X11_58 e224 ?_
        refine ww_iload 227 X dX11_decrypt_227 3 rfl ?_
        obtain ⟨v229, e229, h⟩ := bO_some h
        refine ww_aald5 229 X dX11_decrypt_229 e229 ?_
        obtain ⟨_, f230, h⟩ := bO_some h
        obtain ⟨v230, M230, e230, h⟩ := bP_some h
        refine ww_callVI0 230 X dX11_decrypt_230 mY_X10_kidSuits mL_X11_388 (rcv_spec f230) ⟨_, _, rfl⟩ (by decide) (As := [.ref v220, .ref v229]) (rest := []) rfl rfl ⟨Nat.le_of_ble_eq_true rfl, Nat.le_of_ble_eq_true rfl⟩ (Nat.le_of_ble_eq_true rfl) (fun l D A => c_X10_kidSuits l D A e230) ?_
        refine ww_if_eq 233 349 X dX11_decrypt_233 (by decide) (fun q => ?_) (fun q => ?_)
        · replace h := (if_pos q).symm.trans h
          refine ww_iinc 349 X dX11_decrypt_349 (lv' := [(0, .ref l0), (4, .int l4), (5, .int l5), (6, .int (l6 + 1))]) 3 rfl rfl (by decide) [1, 2, 3, 0] rfl ?_
          refine ww_goto 352 195 X dX11_decrypt_352 (by decide) ?_
          exact (ih _ _ _ _ _ h)
        · replace h := (if_neg q).symm.trans h
          refine ww_aload_n 236 X dX11_decrypt_236 0 rfl rfl ?_
          obtain ⟨v237, e237, h⟩ := bO_some h
          refine ww_getR 237 X dX11_decrypt_237 fG_X11_58 e237 ?_
          refine ww_iload 240 X dX11_decrypt_240 3 rfl ?_
          obtain ⟨v242, e242, h⟩ := bO_some h
          refine ww_aald5 242 X dX11_decrypt_242 e242 ?_
          refine ww_aload_n 243 X dX11_decrypt_243 0 rfl rfl ?_
          obtain ⟨v244, e244, h⟩ := bO_some h
          refine ww_getR 244 X dX11_decrypt_244 fG_X11_109 e244 ?_
          obtain ⟨v247, e247, h⟩ := bO_some h
          refine ww_getI 247 X dX11_decrypt_247 fG_X11_351 e247 ?_
          refine ww_aload_n 250 X dX11_decrypt_250 0 rfl rfl ?_
          obtain ⟨v251, e251, h⟩ := bO_some h
          refine ww_getR 251 X dX11_decrypt_251 fG_X11_109 e251 ?_
          obtain ⟨v254, e254, h⟩ := bO_some h
          refine ww_getI 254 X dX11_decrypt_254 fG_X11_444 e254 ?_
          refine ww_iconst 257 X (v := (1 : Int32)) dX11_decrypt_257 (by decide) ?_
          obtain ⟨_, f258, h⟩ := bO_some h
          obtain ⟨v258, M258, e258, h⟩ := bP_some h
          refine ww_callVI0 258 X dX11_decrypt_258 mY_X5_maySeal mL_X11_398 (rcv_spec f258) ⟨_, _, rfl⟩ (by decide) (As := [.int v247, .int v254, .int (1 : Int32)]) (rest := []) rfl rfl ⟨Nat.le_of_ble_eq_true rfl, Nat.le_of_ble_eq_true rfl⟩ (Nat.le_of_ble_eq_true rfl) (fun l D A => c_X5_maySeal l D A e258) ?_
          refine ww_if_eq 261 349 X dX11_decrypt_261 (by decide) (fun q => ?_) (fun q => ?_)
          · replace h := (if_pos q).symm.trans h
            refine ww_iinc 349 X dX11_decrypt_349 (lv' := [(0, .ref l0), (4, .int l4), (5, .int l5), (6, .int (l6 + 1))]) 3 rfl rfl (by decide) [1, 2, 3, 0] rfl ?_
            refine ww_goto 352 195 X dX11_decrypt_352 (by decide) ?_
            exact (ih _ _ _ _ _ h)
          · replace h := (if_neg q).symm.trans h
            refine ww_iconst 264 X (v := (1 : Int32)) dX11_decrypt_264 (by decide) ?_
            refine ww_istore 265 X dX11_decrypt_265 (lv' := [(0, .ref l0), (4, .int l4), (5, .int (1 : Int32)), (6, .int l6)]) (by decide) [1, 2, 0, 3] rfl ?_
            refine ww_iload 267 X dX11_decrypt_267 1 rfl ?_
            refine ww_if_eq 269 349 X dX11_decrypt_269 (by decide) (fun q => ?_) (fun q => ?_)
            · replace h := (if_pos q).symm.trans h
              refine ww_iinc 349 X dX11_decrypt_349 (lv' := [(0, .ref l0), (4, .int l4), (5, .int (1 : Int32)), (6, .int (l6 + 1))]) 3 rfl rfl (by decide) [1, 2, 3, 0] rfl ?_
              refine ww_goto 352 195 X dX11_decrypt_352 (by decide) ?_
              exact (ih _ _ _ _ _ h)
            · replace h := (if_neg q).symm.trans h
              refine ww_aload_n 272 X dX11_decrypt_272 0 rfl rfl ?_
              refine ww_aload_n 273 X dX11_decrypt_273 0 rfl rfl ?_
              obtain ⟨v274, e274, h⟩ := bO_some h
              refine ww_getR 274 X dX11_decrypt_274 fG_X11_58 e274 ?_
              refine ww_iload 277 X dX11_decrypt_277 3 rfl ?_
              obtain ⟨v279, e279, h⟩ := bO_some h
              refine ww_aald5 279 X dX11_decrypt_279 e279 ?_
              obtain ⟨_, f280, h⟩ := bO_some h
              obtain ⟨v280, M280, e280, h⟩ := bP_some h
              refine ww_callVI0 280 X dX11_decrypt_280 mY_X11_contentKeyComes mL_X11_447 (rcv_spec f280) ⟨_, _, rfl⟩ (by decide) (As := [.ref v279]) (rest := []) rfl rfl ⟨Nat.le_of_ble_eq_true rfl, Nat.le_of_ble_eq_true rfl⟩ (Nat.le_of_ble_eq_true rfl) (fun l D A => c_X11_contentKeyComes l D A e280) ?_
              refine ww_if_eq 283 349 X dX11_decrypt_283 (by decide) (fun q => ?_) (fun q => ?_)
              · replace h := (if_pos q).symm.trans h
                refine ww_iinc 349 X dX11_decrypt_349 (lv' := [(0, .ref l0), (4, .int l4), (5, .int (1 : Int32)), (6, .int (l6 + 1))]) 3 rfl rfl (by decide) [1, 2, 3, 0] rfl ?_
                refine ww_goto 352 195 X dX11_decrypt_352 (by decide) ?_
                exact (ih _ _ _ _ _ h)
              · replace h := (if_neg q).symm.trans h
                refine ww_aload_n 286 X dX11_decrypt_286 0 rfl rfl ?_
                obtain ⟨v287, e287, h⟩ := bO_some h
                refine ww_getR 287 X dX11_decrypt_287 fG_X11_86 e287 ?_
                refine ww_aload_n 290 X dX11_decrypt_290 0 rfl rfl ?_
                obtain ⟨v291, e291, h⟩ := bO_some h
                refine ww_getR 291 X dX11_decrypt_291 fG_X11_109 e291 ?_
                obtain ⟨v294, e294, h⟩ := bO_some h
                refine ww_getI 294 X dX11_decrypt_294 fG_X11_444 e294 ?_
                refine ww_aload_n 297 X dX11_decrypt_297 0 rfl rfl ?_
                obtain ⟨v298, e298, h⟩ := bO_some h
                refine ww_getR 298 X dX11_decrypt_298 fG_X11_109 e298 ?_
                obtain ⟨v301, e301, h⟩ := bO_some h
                refine ww_getR 301 X dX11_decrypt_301 fG_X11_425 e301 ?_
                refine ww_aload_n 304 X dX11_decrypt_304 0 rfl rfl ?_
                obtain ⟨v305, e305, h⟩ := bO_some h
                refine ww_getR 305 X dX11_decrypt_305 fG_X11_109 e305 ?_
                obtain ⟨v308, e308, h⟩ := bO_some h
                refine ww_getR 308 X dX11_decrypt_308 fG_X11_428 e308 ?_
                refine ww_aload_n 311 X dX11_decrypt_311 0 rfl rfl ?_
                obtain ⟨v312, e312, h⟩ := bO_some h
                refine ww_getR 312 X dX11_decrypt_312 fG_X11_28 e312 ?_
                refine ww_aload_n 315 X dX11_decrypt_315 0 rfl rfl ?_
                obtain ⟨v316, e316, h⟩ := bO_some h
                refine ww_getR 316 X dX11_decrypt_316 fG_X11_31 e316 ?_
                refine ww_aload_n 319 X dX11_decrypt_319 0 rfl rfl ?_
                obtain ⟨v320, e320, h⟩ := bO_some h
                refine ww_getR 320 X dX11_decrypt_320 fG_X11_34 e320 ?_
                obtain ⟨_, f323, h⟩ := bO_some h
                obtain ⟨v323, M323, e323, h⟩ := bP_some h
                refine ww_callVI0 323 X dX11_decrypt_323 mY_X2_unlock mL_X11_265 (rcv_spec f323) ⟨_, _, rfl⟩ (by decide) (As := [.int v294, .ref v301, .ref v308, .ref v312, .ref v316, .ref v320]) (rest := []) rfl rfl ⟨Nat.le_of_ble_eq_true rfl, Nat.le_of_ble_eq_true rfl⟩ (Nat.le_of_ble_eq_true rfl) (fun l D A => c_X2_unlock l D A e323) ?_
                refine ww_if_eq 326 349 X dX11_decrypt_326 (by decide) (fun q => ?_) (fun q => ?_)
                · replace h := (if_pos q).symm.trans h
                  refine ww_iinc 349 X dX11_decrypt_349 (lv' := [(0, .ref l0), (4, .int l4), (5, .int (1 : Int32)), (6, .int (l6 + 1))]) 3 rfl rfl (by decide) [1, 2, 3, 0] rfl ?_
                  refine ww_goto 352 195 X dX11_decrypt_352 (by decide) ?_
                  exact (ih _ _ _ _ _ h)
                · replace h := (if_neg q).symm.trans h
                  refine ww_aload_n 329 X dX11_decrypt_329 0 rfl rfl ?_
                  refine ww_aload_n 330 X dX11_decrypt_330 0 rfl rfl ?_
                  obtain ⟨v331, e331, h⟩ := bO_some h
                  refine ww_getR 331 X dX11_decrypt_331 fG_X11_34 e331 ?_
                  refine ww_iconst 334 X (v := (0 : Int32)) dX11_decrypt_334 (by decide) ?_
                  refine ww_aload_n 335 X dX11_decrypt_335 0 rfl rfl ?_
                  obtain ⟨v336, e336, h⟩ := bO_some h
                  refine ww_getR 336 X dX11_decrypt_336 fG_X11_34 e336 ?_
                  obtain ⟨v339, e339, h⟩ := bO_some h
                  refine ww_getI 339 X dX11_decrypt_339 fG_X11_113 e339 ?_
                  obtain ⟨_, f342, h⟩ := bO_some h
                  obtain ⟨v342, M342, e342, h⟩ := bP_some h
                  refine ww_callVI0 342 X dX11_decrypt_342 mY_X11_show mL_X11_176 (rcv_spec f342) ⟨_, _, rfl⟩ (by decide) (As := [.ref v331, .int (0 : Int32), .int v339]) (rest := []) rfl rfl ⟨Nat.le_of_ble_eq_true rfl, Nat.le_of_ble_eq_true rfl⟩ (Nat.le_of_ble_eq_true rfl) (fun l D A => c_X11_show l D A e342) ?_
                  refine ww_pop 345 X dX11_decrypt_345 rfl ?_
                  refine ww_iload 346 X dX11_decrypt_346 3 rfl ?_
                  exact ww_iretE 348 X hQ dX11_decrypt_348 h
set_option maxHeartbeats 4000000 in
set_option maxRecDepth 100000 in
theorem wB_X11_decrypt_151 {G : Nat → Nat} {F : Nat} {x : mXT} {sz : Nat} {r0 : Int32} {M0 : mM} (X : mCX G RX11 cX11_decrypt 7 (some .int) "decrypt" rmX11_decrypt x) (hQ : mQI x r0 M0 (sz, 0, 0)) {l0 : Nat} {l2 : Nat} {M : mM} (h : B_X11_decrypt_151 G F l0 l2 M = some (r0, M0)) : WW x (sz, 0, 0) M 151 [(0, .ref l0), (2, .ref l2)] [] := by
  unfold B_X11_decrypt_151 at h
  refine ww_aload_n 151 X dX11_decrypt_151 0 rfl rfl ?_
  obtain ⟨v152, e152, h⟩ := bO_some h
  refine ww_getR 152 X dX11_decrypt_152 fG_X11_28 e152 ?_
  obtain ⟨_, f155, h⟩ := bO_some h
  obtain ⟨M155, e155, h⟩ := bO_some h
  refine ww_callVV0 155 X dX11_decrypt_155 mY_X0_clear mL_X11_131 (rcv_spec f155) ⟨_, _, rfl⟩ (by decide) (As := []) (rest := []) rfl rfl ⟨Nat.le_of_ble_eq_true rfl, Nat.le_of_ble_eq_true rfl⟩ (Nat.le_of_ble_eq_true rfl) (fun l D A => c_X0_clear l D A e155) ?_
  refine ww_aload_n 158 X dX11_decrypt_158 0 rfl rfl ?_
  obtain ⟨v159, e159, h⟩ := bO_some h
  refine ww_getR 159 X dX11_decrypt_159 fG_X11_28 e159 ?_
  refine ww_aload_n 162 X dX11_decrypt_162 1 rfl rfl ?_
  refine ww_iconst 163 X (v := (0 : Int32)) dX11_decrypt_163 (by decide) ?_
  refine ww_aload_n 164 X dX11_decrypt_164 0 rfl rfl ?_
  obtain ⟨v165, e165, h⟩ := bO_some h
  refine ww_getR 165 X dX11_decrypt_165 fG_X11_109 e165 ?_
  refine ww_iconst 168 X (v := (0 : Int32)) dX11_decrypt_168 (by decide) ?_
  obtain ⟨_, f169, h⟩ := bO_some h
  obtain ⟨v169, M169, e169, h⟩ := bP_some h
  refine ww_callVI0 169 X dX11_decrypt_169 mY_X10_partEnd mL_X11_382 (rcv_spec f169) ⟨_, _, rfl⟩ (by decide) (As := [.int (0 : Int32)]) (rest := [.int (0 : Int32), .ref l2, .ref v159]) rfl rfl ⟨Nat.le_of_ble_eq_true rfl, Nat.le_of_ble_eq_true rfl⟩ (Nat.le_of_ble_eq_true rfl) (fun l D A => c_X10_partEnd l D A e169) ?_
  obtain ⟨_, f172, h⟩ := bO_some h
  obtain ⟨M172, e172, h⟩ := bO_some h
  refine ww_callVV0 172 X dX11_decrypt_172 mY_X0_putPart mL_X11_385 (rcv_spec f172) ⟨_, _, rfl⟩ (by decide) (As := [.ref l2, .int (0 : Int32), .int v169]) (rest := []) rfl rfl ⟨Nat.le_of_ble_eq_true rfl, Nat.le_of_ble_eq_true rfl⟩ (Nat.le_of_ble_eq_true rfl) (fun l D A => c_X0_putPart l D A e172) ?_
  refine ww_aload_n 175 X dX11_decrypt_175 0 rfl rfl ?_
  obtain ⟨v176, e176, h⟩ := bO_some h
  refine ww_getR 176 X dX11_decrypt_176 fG_X11_109 e176 ?_
  refine ww_aload_n 179 X dX11_decrypt_179 1 rfl rfl ?_
  refine ww_aload_n 180 X dX11_decrypt_180 0 rfl rfl ?_
  obtain ⟨v181, e181, h⟩ := bO_some h
  refine ww_getR 181 X dX11_decrypt_181 fG_X11_31 e181 ?_
  obtain ⟨_, f184, h⟩ := bO_some h
  obtain ⟨v184, M184, e184, h⟩ := bP_some h
  refine ww_callVI0 184 X dX11_decrypt_184 mY_X10_readSealedParts mL_X11_440 (rcv_spec f184) ⟨_, _, rfl⟩ (by decide) (As := [.ref l2, .ref v181]) (rest := []) rfl rfl ⟨Nat.le_of_ble_eq_true rfl, Nat.le_of_ble_eq_true rfl⟩ (Nat.le_of_ble_eq_true rfl) (fun l D A => c_X10_readSealedParts l D A e184) ?_
  refine ww_istore 187 X dX11_decrypt_187 (lv' := [(0, .ref l0), (2, .ref l2), (4, .int v184)]) (by decide) [1, 2, 0] rfl ?_
  refine ww_iconst 189 X (v := (0 : Int32)) dX11_decrypt_189 (by decide) ?_
  refine ww_istore 190 X dX11_decrypt_190 (lv' := [(0, .ref l0), (2, .ref l2), (4, .int v184), (5, .int (0 : Int32))]) (by decide) [1, 2, 3, 0] rfl ?_
  refine ww_iconst 192 X (v := (0 : Int32)) dX11_decrypt_192 (by decide) ?_
  refine ww_istore 193 X dX11_decrypt_193 (lv' := [(0, .ref l0), (2, .ref l2), (4, .int v184), (5, .int (0 : Int32)), (6, .int (0 : Int32))]) (by decide) [1, 2, 3, 4, 0] rfl ?_
  exact ww_sub [0, 2, 3, 4] rfl (wB_X11_decrypt_195 X hQ F _ _ _ _ _ h)
set_option maxHeartbeats 4000000 in
set_option maxRecDepth 100000 in
theorem wB_X11_decrypt_35 {G : Nat → Nat} {F : Nat} {x : mXT} {sz : Nat} {r0 : Int32} {M0 : mM} (X : mCX G RX11 cX11_decrypt 7 (some .int) "decrypt" rmX11_decrypt x) (hQ : mQI x r0 M0 (sz, 0, 0)) : ∀ (n : Nat) (l0 : Nat) (l2 : Nat) (l3 : Int32) (M : mM), B_X11_decrypt_35 G F n l0 l2 l3 M = some (r0, M0) → WW x (sz, 0, 0) M 35 [(0, .ref l0), (2, .ref l2), (3, .int l3)] [] := by
  intro n
  induction n with
  | zero =>
    intro l0 l2 l3 M h
    exact nomatch (show (none : Option (Int32 × mM)) = some (r0, M0) from h)
  | succ n ih =>
    intro l0 l2 l3 M h
    rw [B_X11_decrypt_35] at h
    refine ww_iload_n 35 X dX11_decrypt_35 2 rfl rfl ?_
    refine ww_iconst 36 X (v := (5 : Int32)) dX11_decrypt_36 (by decide) ?_
    refine ww_icmp_ge 37 61 X dX11_decrypt_37 (by decide) (fun q => ?_) (fun q => ?_)
    · replace h := (if_pos q).symm.trans h
      refine ww_aload_n 61 X dX11_decrypt_61 0 rfl rfl ?_
      obtain ⟨v62, e62, h⟩ := bO_some h
      refine ww_getR 62 X dX11_decrypt_62 fG_X11_109 e62 ?_
      refine ww_aload_n 65 X dX11_decrypt_65 1 rfl rfl ?_
      refine ww_iconst 66 X (v := (0 : Int32)) dX11_decrypt_66 (by decide) ?_
      refine ww_aload_n 67 X dX11_decrypt_67 0 rfl rfl ?_
      obtain ⟨v68, e68, h⟩ := bO_some h
      refine ww_getR 68 X dX11_decrypt_68 fG_X11_109 e68 ?_
      obtain ⟨v71, e71, h⟩ := bO_some h
      refine ww_getR 71 X dX11_decrypt_71 fG_X11_352 e71 ?_
      obtain ⟨_, f74, h⟩ := bO_some h
      obtain ⟨M74, e74, h⟩ := bO_some h
      refine ww_callVV0 74 X dX11_decrypt_74 mY_X10_readPart mL_X11_378 (rcv_spec f74) ⟨_, _, rfl⟩ (by decide) (As := [.ref l2, .int (0 : Int32), .ref v71]) (rest := []) rfl rfl ⟨Nat.le_of_ble_eq_true rfl, Nat.le_of_ble_eq_true rfl⟩ (Nat.le_of_ble_eq_true rfl) (fun l D A => c_X10_readPart l D A e74) ?_
      refine ww_aload_n 77 X dX11_decrypt_77 0 rfl rfl ?_
      obtain ⟨v78, e78, h⟩ := bO_some h
      refine ww_getR 78 X dX11_decrypt_78 fG_X11_52 e78 ?_
      refine ww_aload_n 81 X dX11_decrypt_81 0 rfl rfl ?_
      obtain ⟨v82, e82, h⟩ := bO_some h
      refine ww_getR 82 X dX11_decrypt_82 fG_X11_109 e82 ?_
      obtain ⟨v85, e85, h⟩ := bO_some h
      refine ww_getR 85 X dX11_decrypt_85 fG_X11_352 e85 ?_
      refine ww_aload_n 88 X dX11_decrypt_88 0 rfl rfl ?_
      obtain ⟨v89, e89, h⟩ := bO_some h
      refine ww_getR 89 X dX11_decrypt_89 fG_X11_44 e89 ?_
      obtain ⟨_, f92, h⟩ := bO_some h
      obtain ⟨v92, M92, e92, h⟩ := bP_some h
      refine ww_callVI0 92 X dX11_decrypt_92 mY_X7_read mL_X11_142 (rcv_spec f92) ⟨_, _, rfl⟩ (by decide) (As := [.ref v85, .ref v89]) (rest := []) rfl rfl ⟨Nat.le_of_ble_eq_true rfl, Nat.le_of_ble_eq_true rfl⟩ (Nat.le_of_ble_eq_true rfl) (fun l D A => c_X7_read l D A e92) ?_
      refine ww_iconst 95 X (v := (-1 : Int32)) dX11_decrypt_95 (by decide) ?_
      refine ww_icmp_eq 96 102 X dX11_decrypt_96 (by decide) (fun q => ?_) (fun q => ?_)
      · replace h := (if_pos q).symm.trans h
        refine ww_aload_n 102 X dX11_decrypt_102 0 rfl rfl ?_
        obtain ⟨v103, e103, h⟩ := bO_some h
        refine ww_getR 103 X dX11_decrypt_103 fG_X11_109 e103 ?_
        refine ww_aload_n 106 X dX11_decrypt_106 0 rfl rfl ?_
        obtain ⟨v107, e107, h⟩ := bO_some h
        refine ww_getR 107 X dX11_decrypt_107 fG_X11_44 e107 ?_
        obtain ⟨_, f110, h⟩ := bO_some h
        obtain ⟨v110, M110, e110, h⟩ := bP_some h
        refine ww_callVI0 110 X dX11_decrypt_110 mY_X10_sealedHeadReason mL_X11_437 (rcv_spec f110) ⟨_, _, rfl⟩ (by decide) (As := [.ref v107]) (rest := []) rfl rfl ⟨Nat.le_of_ble_eq_true rfl, Nat.le_of_ble_eq_true rfl⟩ (Nat.le_of_ble_eq_true rfl) (fun l D A => c_X10_sealedHeadReason l D A e110) ?_
        refine ww_istore_n 113 X dX11_decrypt_113 (lv' := [(0, .ref l0), (2, .ref l2), (3, .int v110)]) rfl (by decide) [1, 2, 0] rfl ?_
        refine ww_iload_n 114 X dX11_decrypt_114 2 rfl rfl ?_
        refine ww_if_eq 115 120 X dX11_decrypt_115 (by decide) (fun q => ?_) (fun q => ?_)
        · replace h := (if_pos q).symm.trans h
          refine ww_aload_n 120 X dX11_decrypt_120 0 rfl rfl ?_
          obtain ⟨v121, e121, h⟩ := bO_some h
          refine ww_getR 121 X dX11_decrypt_121 fG_X11_109 e121 ?_
          obtain ⟨v124, e124, h⟩ := bO_some h
          refine ww_getI 124 X dX11_decrypt_124 fG_X11_351 e124 ?_
          refine ww_iconst 127 X (v := (4 : Int32)) dX11_decrypt_127 (by decide) ?_
          refine ww_icmp_lt 128 151 X dX11_decrypt_128 (by decide) (fun q => ?_) (fun q => ?_)
          · replace h := (if_pos q).symm.trans h
            exact ww_sub [0, 1] rfl (wB_X11_decrypt_151 X hQ h)
          · replace h := (if_neg q).symm.trans h
            refine ww_aload_n 131 X dX11_decrypt_131 0 rfl rfl ?_
            obtain ⟨v132, e132, h⟩ := bO_some h
            refine ww_getR 132 X dX11_decrypt_132 fG_X11_102 e132 ?_
            refine ww_aload_n 135 X dX11_decrypt_135 0 rfl rfl ?_
            obtain ⟨v136, e136, h⟩ := bO_some h
            refine ww_getR 136 X dX11_decrypt_136 fG_X11_109 e136 ?_
            obtain ⟨v139, e139, h⟩ := bO_some h
            refine ww_getR 139 X dX11_decrypt_139 fG_X11_412 e139 ?_
            obtain ⟨_, f142, h⟩ := bO_some h
            obtain ⟨v142, M142, e142, h⟩ := bP_some h
            refine ww_callVI0 142 X dX11_decrypt_142 mY_X3_load mL_X11_279 (rcv_spec f142) ⟨_, _, rfl⟩ (by decide) (As := [.ref v139]) (rest := []) rfl rfl ⟨Nat.le_of_ble_eq_true rfl, Nat.le_of_ble_eq_true rfl⟩ (Nat.le_of_ble_eq_true rfl) (fun l D A => c_X3_load l D A e142) ?_
            refine ww_if_ne 145 151 X dX11_decrypt_145 (by decide) (fun q => ?_) (fun q => ?_)
            · replace h := (if_neg q).symm.trans h
              exact ww_sub [0, 1] rfl (wB_X11_decrypt_151 X hQ h)
            · replace h := (if_pos q).symm.trans h
              refine ww_bipush 148 X (v := (-23 : Int32)) dX11_decrypt_148 (by decide) ?_
              exact ww_iretE 150 X hQ dX11_decrypt_150 h
        · replace h := (if_neg q).symm.trans h
          refine ww_iload_n 118 X dX11_decrypt_118 2 rfl rfl ?_
          exact ww_iretE 119 X hQ dX11_decrypt_119 h
      · replace h := (if_neg q).symm.trans h
        refine ww_bipush 99 X (v := (-22 : Int32)) dX11_decrypt_99 (by decide) ?_
        exact ww_iretE 101 X hQ dX11_decrypt_101 h
    · replace h := (if_neg q).symm.trans h
      refine ww_aload_n 40 X dX11_decrypt_40 0 rfl rfl ?_
      obtain ⟨v41, e41, h⟩ := bO_some h
      refine ww_getR 41 X dX11_decrypt_41 fG_X11_109 e41 ?_
      refine ww_aload_n 44 X dX11_decrypt_44 1 rfl rfl ?_
      refine ww_iload_n 45 X dX11_decrypt_45 2 rfl rfl ?_
      obtain ⟨_, f46, h⟩ := bO_some h
      obtain ⟨v46, M46, e46, h⟩ := bP_some h
      refine ww_callVI0 46 X dX11_decrypt_46 mY_X10_isFaulty mL_X11_375 (rcv_spec f46) ⟨_, _, rfl⟩ (by decide) (As := [.ref l2, .int l3]) (rest := []) rfl rfl ⟨Nat.le_of_ble_eq_true rfl, Nat.le_of_ble_eq_true rfl⟩ (Nat.le_of_ble_eq_true rfl) (fun l D A => c_X10_isFaulty l D A e46) ?_
      refine ww_if_eq 49 55 X dX11_decrypt_49 (by decide) (fun q => ?_) (fun q => ?_)
      · replace h := (if_pos q).symm.trans h
        refine ww_iinc 55 X dX11_decrypt_55 (lv' := [(0, .ref l0), (2, .ref l2), (3, .int (l3 + 1))]) 2 rfl rfl (by decide) [1, 2, 0] rfl ?_
        refine ww_goto 58 35 X dX11_decrypt_58 (by decide) ?_
        exact (ih _ _ _ _ h)
      · replace h := (if_neg q).symm.trans h
        refine ww_bipush 52 X (v := (-21 : Int32)) dX11_decrypt_52 (by decide) ?_
        exact ww_iretE 54 X hQ dX11_decrypt_54 h
set_option maxHeartbeats 4000000 in
set_option maxRecDepth 100000 in
theorem wP_X11_decrypt {G : Nat → Nat} {F : Nat} {x : mXT} {sz : Nat} {r0 : Int32} {M0 : mM} (X : mCX G RX11 cX11_decrypt 7 (some .int) "decrypt" rmX11_decrypt x) (hQ : mQI x r0 M0 (sz, 0, 0)) {l0 : Nat} {l1 : Int32} {M : mM} (h : P_X11_decrypt G F l0 l1 M = some (r0, M0)) : WW x (sz, 0, 0) M 0 [(0, .ref l0), (1, .int l1)] [] := by
  unfold P_X11_decrypt at h
  refine ww_aload_n 0 X dX11_decrypt_0 0 rfl rfl ?_
  refine ww_iload_n 1 X dX11_decrypt_1 1 rfl rfl ?_
  obtain ⟨_, f2, h⟩ := bO_some h
  obtain ⟨v2, M2, e2, h⟩ := bP_some h
  refine ww_callVI0 2 X dX11_decrypt_2 mY_X11_isRow mL_X11_123 (rcv_spec f2) ⟨_, _, rfl⟩ (by decide) (As := [.int l1]) (rest := []) rfl rfl ⟨Nat.le_of_ble_eq_true rfl, Nat.le_of_ble_eq_true rfl⟩ (Nat.le_of_ble_eq_true rfl) (fun l D A => c_X11_isRow l D A e2) ?_
  refine ww_if_ne 5 11 X dX11_decrypt_5 (by decide) (fun q => ?_) (fun q => ?_)
  · replace h := (if_neg q).symm.trans h
    refine ww_aload_n 11 X dX11_decrypt_11 0 rfl rfl ?_
    obtain ⟨v12, e12, h⟩ := bO_some h
    refine ww_getR 12 X dX11_decrypt_12 fG_X11_11 e12 ?_
    refine ww_iload_n 15 X dX11_decrypt_15 1 rfl rfl ?_
    obtain ⟨v16, e16, h⟩ := bO_some h
    refine ww_aald4 16 X dX11_decrypt_16 e16 ?_
    refine ww_astore_n 17 X dX11_decrypt_17 (lv' := [(0, .ref l0), (1, .int l1), (2, .ref v16)]) rfl (by decide) [1, 2, 0] rfl ?_
    refine ww_aload_n 18 X dX11_decrypt_18 0 rfl rfl ?_
    obtain ⟨v19, e19, h⟩ := bO_some h
    refine ww_getR 19 X dX11_decrypt_19 fG_X11_109 e19 ?_
    refine ww_aload_n 22 X dX11_decrypt_22 2 rfl rfl ?_
    refine ww_iconst 23 X (v := (5 : Int32)) dX11_decrypt_23 (by decide) ?_
    obtain ⟨_, f24, h⟩ := bO_some h
    obtain ⟨v24, M24, e24, h⟩ := bP_some h
    refine ww_callVI0 24 X dX11_decrypt_24 mY_X10_split mL_X11_371 (rcv_spec f24) ⟨_, _, rfl⟩ (by decide) (As := [.ref v16, .int (5 : Int32)]) (rest := []) rfl rfl ⟨Nat.le_of_ble_eq_true rfl, Nat.le_of_ble_eq_true rfl⟩ (Nat.le_of_ble_eq_true rfl) (fun l D A => c_X10_split l D A e24) ?_
    refine ww_if_ne 27 33 X dX11_decrypt_27 (by decide) (fun q => ?_) (fun q => ?_)
    · replace h := (if_neg q).symm.trans h
      refine ww_iconst 33 X (v := (0 : Int32)) dX11_decrypt_33 (by decide) ?_
      refine ww_istore_n 34 X dX11_decrypt_34 (lv' := [(0, .ref l0), (1, .int l1), (2, .ref v16), (3, .int (0 : Int32))]) rfl (by decide) [1, 2, 3, 0] rfl ?_
      exact ww_sub [0, 2, 3] rfl (wB_X11_decrypt_35 X hQ F _ _ _ _ h)
    · replace h := (if_pos q).symm.trans h
      refine ww_bipush 30 X (v := (-20 : Int32)) dX11_decrypt_30 (by decide) ?_
      exact ww_iretE 32 X hQ dX11_decrypt_32 h
  · replace h := (if_pos q).symm.trans h
    refine ww_bipush 8 X (v := (-2 : Int32)) dX11_decrypt_8 (by decide) ?_
    exact ww_iretE 10 X hQ dX11_decrypt_10 h
theorem c_X11_decrypt {G : Nat → Nat} {F sz : Nat} {r0 : Int32} {M0 : mM} (l : Launch) (D : mD) (A : Nat → Prop) {l0 : Nat} {l1 : Int32} {M : mM} (h : P_X11_decrypt G F l0 l1 M = some (r0, M0)) : mMetI l D G A yX11_decrypt cX11_decrypt 7 (some .int) 9 215 0 0 [.ref l0, .int l1] M sz r0 M0 sz := mMetI_of l D G A (by decide) (Nat.le_of_ble_eq_true rfl) (fun x X hQ => wP_X11_decrypt X hQ h)
