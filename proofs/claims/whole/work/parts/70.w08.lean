/-! SealedTokens.text(I)I -/
theorem dX11_text_0 : decode cX11_text 0 = .ok (.aload_n 0, 1) := by decide +kernel
theorem dX11_text_1 : decode cX11_text 1 = .ok (.getfield 40, 3) := by decide +kernel
theorem dX11_text_4 : decode cX11_text 4 = .ok (.iload_n 1, 1) := by decide +kernel
theorem dX11_text_5 : decode cX11_text 5 = .ok (.invokevirtual 149, 3) := by decide +kernel
theorem dX11_text_8 : decode cX11_text 8 = .ok (.ifCond .eq 29, 3) := by decide +kernel
theorem dX11_text_11 : decode cX11_text 11 = .ok (.aload_n 0, 1) := by decide +kernel
theorem dX11_text_12 : decode cX11_text 12 = .ok (.getfield 40, 3) := by decide +kernel
theorem dX11_text_15 : decode cX11_text 15 = .ok (.getfield 152, 3) := by decide +kernel
theorem dX11_text_18 : decode cX11_text 18 = .ok (.iload_n 1, 1) := by decide +kernel
theorem dX11_text_19 : decode cX11_text 19 = .ok (.iaload, 1) := by decide +kernel
theorem dX11_text_20 : decode cX11_text 20 = .ok (.iconst 4, 1) := by decide +kernel
theorem dX11_text_21 : decode cX11_text 21 = .ok (.if_icmp .eq 19, 3) := by decide +kernel
theorem dX11_text_24 : decode cX11_text 24 = .ok (.aload_n 0, 1) := by decide +kernel
theorem dX11_text_25 : decode cX11_text 25 = .ok (.getfield 40, 3) := by decide +kernel
theorem dX11_text_28 : decode cX11_text 28 = .ok (.getfield 152, 3) := by decide +kernel
theorem dX11_text_31 : decode cX11_text 31 = .ok (.iload_n 1, 1) := by decide +kernel
theorem dX11_text_32 : decode cX11_text 32 = .ok (.iaload, 1) := by decide +kernel
theorem dX11_text_33 : decode cX11_text 33 = .ok (.iconst 3, 1) := by decide +kernel
theorem dX11_text_34 : decode cX11_text 34 = .ok (.if_icmp .eq 6, 3) := by decide +kernel
theorem dX11_text_37 : decode cX11_text 37 = .ok (.bipush (-2), 2) := by decide +kernel
theorem dX11_text_39 : decode cX11_text 39 = .ok (.ireturn, 1) := by decide +kernel
theorem dX11_text_40 : decode cX11_text 40 = .ok (.aload_n 0, 1) := by decide +kernel
theorem dX11_text_41 : decode cX11_text 41 = .ok (.aload_n 0, 1) := by decide +kernel
theorem dX11_text_42 : decode cX11_text 42 = .ok (.getfield 40, 3) := by decide +kernel
theorem dX11_text_45 : decode cX11_text 45 = .ok (.getfield 170, 3) := by decide +kernel
theorem dX11_text_48 : decode cX11_text 48 = .ok (.aload_n 0, 1) := by decide +kernel
theorem dX11_text_49 : decode cX11_text 49 = .ok (.getfield 40, 3) := by decide +kernel
theorem dX11_text_52 : decode cX11_text 52 = .ok (.getfield 173, 3) := by decide +kernel
theorem dX11_text_55 : decode cX11_text 55 = .ok (.iload_n 1, 1) := by decide +kernel
theorem dX11_text_56 : decode cX11_text 56 = .ok (.iaload, 1) := by decide +kernel
theorem dX11_text_57 : decode cX11_text 57 = .ok (.aload_n 0, 1) := by decide +kernel
theorem dX11_text_58 : decode cX11_text 58 = .ok (.getfield 40, 3) := by decide +kernel
theorem dX11_text_61 : decode cX11_text 61 = .ok (.getfield 158, 3) := by decide +kernel
theorem dX11_text_64 : decode cX11_text 64 = .ok (.iload_n 1, 1) := by decide +kernel
theorem dX11_text_65 : decode cX11_text 65 = .ok (.iaload, 1) := by decide +kernel
theorem dX11_text_66 : decode cX11_text 66 = .ok (.invokevirtual 176, 3) := by decide +kernel
theorem dX11_text_69 : decode cX11_text 69 = .ok (.ireturn, 1) := by decide +kernel
abbrev rmX11_text : Room := { frames := 3, cells := 0, slots := 0, locals := 107 }
set_option maxHeartbeats 4000000 in
set_option maxRecDepth 100000 in
theorem wB_X11_text_40 {G : mG} {F : Nat} {x : mXT} {sz : Nat} {r0 : Int32} {M0 : mM} (X : mCX G RX11 cX11_text 2 (some .int) "text" rmX11_text x) (hQ : mQI x r0 M0 (sz, 0, 0)) {l0 : Nat} {l1 : Int32} {M : mM} (h : B_X11_text_40 G F l0 l1 M = some (r0, M0)) : WW x (sz, 0, 0) M 40 [(0, .ref l0), (1, .int l1)] [] := by
  unfold B_X11_text_40 at h
  refine ww_aload_n 40 X dX11_text_40 0 rfl rfl ?_
  refine ww_aload_n 41 X dX11_text_41 0 rfl rfl ?_
  obtain ⟨v42, e42, h⟩ := bO_some h
  refine ww_getR 42 X dX11_text_42 fG_X11_40 e42 ?_
  obtain ⟨v45, e45, h⟩ := bO_some h
  refine ww_getR 45 X dX11_text_45 fG_X11_170 e45 ?_
  refine ww_aload_n 48 X dX11_text_48 0 rfl rfl ?_
  obtain ⟨v49, e49, h⟩ := bO_some h
  refine ww_getR 49 X dX11_text_49 fG_X11_40 e49 ?_
  obtain ⟨v52, e52, h⟩ := bO_some h
  refine ww_getR 52 X dX11_text_52 fG_X11_173 e52 ?_
  refine ww_iload_n 55 X dX11_text_55 1 rfl rfl ?_
  obtain ⟨v56, e56, h⟩ := bO_some h
  refine ww_iald 56 X dX11_text_56 e56 ?_
  refine ww_aload_n 57 X dX11_text_57 0 rfl rfl ?_
  obtain ⟨v58, e58, h⟩ := bO_some h
  refine ww_getR 58 X dX11_text_58 fG_X11_40 e58 ?_
  obtain ⟨v61, e61, h⟩ := bO_some h
  refine ww_getR 61 X dX11_text_61 fG_X11_158 e61 ?_
  refine ww_iload_n 64 X dX11_text_64 1 rfl rfl ?_
  obtain ⟨v65, e65, h⟩ := bO_some h
  refine ww_iald 65 X dX11_text_65 e65 ?_
  obtain ⟨_, f66, h⟩ := bO_some h
  obtain ⟨v66, M66, e66, h⟩ := bP_some h
  refine ww_callVI0 66 X dX11_text_66 mY_X11_show mL_X11_176 (rcv_spec f66) ⟨_, _, rfl⟩ (by decide) (As := [.ref v45, .int v56, .int v65]) (rest := []) rfl rfl ⟨Nat.le_of_ble_eq_true rfl, Nat.le_of_ble_eq_true rfl⟩ (Nat.le_of_ble_eq_true rfl) (fun l D A => c_X11_show l D A e66) ?_
  exact ww_iretE 69 X hQ dX11_text_69 h
set_option maxHeartbeats 4000000 in
set_option maxRecDepth 100000 in
theorem wP_X11_text {G : mG} {F : Nat} {x : mXT} {sz : Nat} {r0 : Int32} {M0 : mM} (X : mCX G RX11 cX11_text 2 (some .int) "text" rmX11_text x) (hQ : mQI x r0 M0 (sz, 0, 0)) {l0 : Nat} {l1 : Int32} {M : mM} (h : P_X11_text G F l0 l1 M = some (r0, M0)) : WW x (sz, 0, 0) M 0 [(0, .ref l0), (1, .int l1)] [] := by
  unfold P_X11_text at h
  refine ww_aload_n 0 X dX11_text_0 0 rfl rfl ?_
  obtain ⟨v1, e1, h⟩ := bO_some h
  refine ww_getR 1 X dX11_text_1 fG_X11_40 e1 ?_
  refine ww_iload_n 4 X dX11_text_4 1 rfl rfl ?_
  obtain ⟨_, f5, h⟩ := bO_some h
  obtain ⟨v5, M5, e5, h⟩ := bP_some h
  refine ww_callVI0 5 X dX11_text_5 mY_X9_has mL_X11_149 (rcv_spec f5) ⟨_, _, rfl⟩ (by decide) (As := [.int l1]) (rest := []) rfl rfl ⟨Nat.le_of_ble_eq_true rfl, Nat.le_of_ble_eq_true rfl⟩ (Nat.le_of_ble_eq_true rfl) (fun l D A => c_X9_has l D A e5) ?_
  refine ww_if_eq 8 37 X dX11_text_8 (by decide) (fun q => ?_) (fun q => ?_)
  · replace h := (if_pos q).symm.trans h
    refine ww_bipush 37 X (v := (-2 : Int32)) dX11_text_37 (by decide) ?_
    exact ww_iretE 39 X hQ dX11_text_39 h
  · replace h := (if_neg q).symm.trans h
    refine ww_aload_n 11 X dX11_text_11 0 rfl rfl ?_
    obtain ⟨v12, e12, h⟩ := bO_some h
    refine ww_getR 12 X dX11_text_12 fG_X11_40 e12 ?_
    obtain ⟨v15, e15, h⟩ := bO_some h
    refine ww_getR 15 X dX11_text_15 fG_X11_152 e15 ?_
    refine ww_iload_n 18 X dX11_text_18 1 rfl rfl ?_
    obtain ⟨v19, e19, h⟩ := bO_some h
    refine ww_iald 19 X dX11_text_19 e19 ?_
    refine ww_iconst 20 X (v := (4 : Int32)) dX11_text_20 (by decide) ?_
    refine ww_icmp_eq 21 40 X dX11_text_21 (by decide) (fun q => ?_) (fun q => ?_)
    · replace h := (if_pos q).symm.trans h
      exact (wB_X11_text_40 X hQ h)
    · replace h := (if_neg q).symm.trans h
      refine ww_aload_n 24 X dX11_text_24 0 rfl rfl ?_
      obtain ⟨v25, e25, h⟩ := bO_some h
      refine ww_getR 25 X dX11_text_25 fG_X11_40 e25 ?_
      obtain ⟨v28, e28, h⟩ := bO_some h
      refine ww_getR 28 X dX11_text_28 fG_X11_152 e28 ?_
      refine ww_iload_n 31 X dX11_text_31 1 rfl rfl ?_
      obtain ⟨v32, e32, h⟩ := bO_some h
      refine ww_iald 32 X dX11_text_32 e32 ?_
      refine ww_iconst 33 X (v := (3 : Int32)) dX11_text_33 (by decide) ?_
      refine ww_icmp_eq 34 40 X dX11_text_34 (by decide) (fun q => ?_) (fun q => ?_)
      · replace h := (if_pos q).symm.trans h
        exact (wB_X11_text_40 X hQ h)
      · replace h := (if_neg q).symm.trans h
        refine ww_bipush 37 X (v := (-2 : Int32)) dX11_text_37 (by decide) ?_
        exact ww_iretE 39 X hQ dX11_text_39 h
theorem c_X11_text {G : mG} {F sz : Nat} {r0 : Int32} {M0 : mM} (l : Launch) (D : mD) (A : Nat → Prop) {l0 : Nat} {l1 : Int32} {M : mM} (h : P_X11_text G F l0 l1 M = some (r0, M0)) : mMetI l D G A yX11_text cX11_text 2 (some .int) 3 107 0 0 [.ref l0, .int l1] M sz r0 M0 sz := mMetI_of l D G A (by decide) (Nat.le_of_ble_eq_true rfl) (fun x X hQ => wP_X11_text X hQ h)
/-! SealedTokens.name(I)I -/
theorem dX11_name_0 : decode cX11_name 0 = .ok (.aload_n 0, 1) := by decide +kernel
theorem dX11_name_1 : decode cX11_name 1 = .ok (.getfield 40, 3) := by decide +kernel
theorem dX11_name_4 : decode cX11_name 4 = .ok (.iload_n 1, 1) := by decide +kernel
theorem dX11_name_5 : decode cX11_name 5 = .ok (.invokevirtual 149, 3) := by decide +kernel
theorem dX11_name_8 : decode cX11_name 8 = .ok (.ifCond .eq 24, 3) := by decide +kernel
theorem dX11_name_11 : decode cX11_name 11 = .ok (.aload_n 0, 1) := by decide +kernel
theorem dX11_name_12 : decode cX11_name 12 = .ok (.getfield 40, 3) := by decide +kernel
theorem dX11_name_15 : decode cX11_name 15 = .ok (.aload_n 0, 1) := by decide +kernel
theorem dX11_name_16 : decode cX11_name 16 = .ok (.getfield 40, 3) := by decide +kernel
theorem dX11_name_19 : decode cX11_name 19 = .ok (.getfield 161, 3) := by decide +kernel
theorem dX11_name_22 : decode cX11_name 22 = .ok (.iload_n 1, 1) := by decide +kernel
theorem dX11_name_23 : decode cX11_name 23 = .ok (.iaload, 1) := by decide +kernel
theorem dX11_name_24 : decode cX11_name 24 = .ok (.bipush 6, 2) := by decide +kernel
theorem dX11_name_26 : decode cX11_name 26 = .ok (.invokevirtual 180, 3) := by decide +kernel
theorem dX11_name_29 : decode cX11_name 29 = .ok (.ifCond .ne 6, 3) := by decide +kernel
theorem dX11_name_32 : decode cX11_name 32 = .ok (.bipush (-2), 2) := by decide +kernel
theorem dX11_name_34 : decode cX11_name 34 = .ok (.ireturn, 1) := by decide +kernel
theorem dX11_name_35 : decode cX11_name 35 = .ok (.aload_n 0, 1) := by decide +kernel
theorem dX11_name_36 : decode cX11_name 36 = .ok (.aload_n 0, 1) := by decide +kernel
theorem dX11_name_37 : decode cX11_name 37 = .ok (.getfield 40, 3) := by decide +kernel
theorem dX11_name_40 : decode cX11_name 40 = .ok (.getfield 170, 3) := by decide +kernel
theorem dX11_name_43 : decode cX11_name 43 = .ok (.aload_n 0, 1) := by decide +kernel
theorem dX11_name_44 : decode cX11_name 44 = .ok (.getfield 40, 3) := by decide +kernel
theorem dX11_name_47 : decode cX11_name 47 = .ok (.getfield 184, 3) := by decide +kernel
theorem dX11_name_50 : decode cX11_name 50 = .ok (.iload_n 1, 1) := by decide +kernel
theorem dX11_name_51 : decode cX11_name 51 = .ok (.iaload, 1) := by decide +kernel
theorem dX11_name_52 : decode cX11_name 52 = .ok (.aload_n 0, 1) := by decide +kernel
theorem dX11_name_53 : decode cX11_name 53 = .ok (.getfield 40, 3) := by decide +kernel
theorem dX11_name_56 : decode cX11_name 56 = .ok (.getfield 187, 3) := by decide +kernel
theorem dX11_name_59 : decode cX11_name 59 = .ok (.iload_n 1, 1) := by decide +kernel
theorem dX11_name_60 : decode cX11_name 60 = .ok (.iaload, 1) := by decide +kernel
theorem dX11_name_61 : decode cX11_name 61 = .ok (.invokevirtual 176, 3) := by decide +kernel
theorem dX11_name_64 : decode cX11_name 64 = .ok (.ireturn, 1) := by decide +kernel
abbrev rmX11_name : Room := { frames := 3, cells := 0, slots := 0, locals := 107 }
set_option maxHeartbeats 4000000 in
set_option maxRecDepth 100000 in
theorem wP_X11_name {G : mG} {F : Nat} {x : mXT} {sz : Nat} {r0 : Int32} {M0 : mM} (X : mCX G RX11 cX11_name 2 (some .int) "name" rmX11_name x) (hQ : mQI x r0 M0 (sz, 0, 0)) {l0 : Nat} {l1 : Int32} {M : mM} (h : P_X11_name G F l0 l1 M = some (r0, M0)) : WW x (sz, 0, 0) M 0 [(0, .ref l0), (1, .int l1)] [] := by
  unfold P_X11_name at h
  refine ww_aload_n 0 X dX11_name_0 0 rfl rfl ?_
  obtain ⟨v1, e1, h⟩ := bO_some h
  refine ww_getR 1 X dX11_name_1 fG_X11_40 e1 ?_
  refine ww_iload_n 4 X dX11_name_4 1 rfl rfl ?_
  obtain ⟨_, f5, h⟩ := bO_some h
  obtain ⟨v5, M5, e5, h⟩ := bP_some h
  refine ww_callVI0 5 X dX11_name_5 mY_X9_has mL_X11_149 (rcv_spec f5) ⟨_, _, rfl⟩ (by decide) (As := [.int l1]) (rest := []) rfl rfl ⟨Nat.le_of_ble_eq_true rfl, Nat.le_of_ble_eq_true rfl⟩ (Nat.le_of_ble_eq_true rfl) (fun l D A => c_X9_has l D A e5) ?_
  refine ww_if_eq 8 32 X dX11_name_8 (by decide) (fun q => ?_) (fun q => ?_)
  · replace h := (if_pos q).symm.trans h
    refine ww_bipush 32 X (v := (-2 : Int32)) dX11_name_32 (by decide) ?_
    exact ww_iretE 34 X hQ dX11_name_34 h
  · replace h := (if_neg q).symm.trans h
    refine ww_aload_n 11 X dX11_name_11 0 rfl rfl ?_
    obtain ⟨v12, e12, h⟩ := bO_some h
    refine ww_getR 12 X dX11_name_12 fG_X11_40 e12 ?_
    refine ww_aload_n 15 X dX11_name_15 0 rfl rfl ?_
    obtain ⟨v16, e16, h⟩ := bO_some h
    refine ww_getR 16 X dX11_name_16 fG_X11_40 e16 ?_
    obtain ⟨v19, e19, h⟩ := bO_some h
    refine ww_getR 19 X dX11_name_19 fG_X11_161 e19 ?_
    refine ww_iload_n 22 X dX11_name_22 1 rfl rfl ?_
    obtain ⟨v23, e23, h⟩ := bO_some h
    refine ww_iald 23 X dX11_name_23 e23 ?_
    refine ww_bipush 24 X (v := (6 : Int32)) dX11_name_24 (by decide) ?_
    obtain ⟨_, f26, h⟩ := bO_some h
    obtain ⟨v26, M26, e26, h⟩ := bP_some h
    refine ww_callVI0 26 X dX11_name_26 mY_X9_isKind mL_X11_180 (rcv_spec f26) ⟨_, _, rfl⟩ (by decide) (As := [.int v23, .int (6 : Int32)]) (rest := []) rfl rfl ⟨Nat.le_of_ble_eq_true rfl, Nat.le_of_ble_eq_true rfl⟩ (Nat.le_of_ble_eq_true rfl) (fun l D A => c_X9_isKind l D A e26) ?_
    refine ww_if_ne 29 35 X dX11_name_29 (by decide) (fun q => ?_) (fun q => ?_)
    · replace h := (if_neg q).symm.trans h
      refine ww_aload_n 35 X dX11_name_35 0 rfl rfl ?_
      refine ww_aload_n 36 X dX11_name_36 0 rfl rfl ?_
      obtain ⟨v37, e37, h⟩ := bO_some h
      refine ww_getR 37 X dX11_name_37 fG_X11_40 e37 ?_
      obtain ⟨v40, e40, h⟩ := bO_some h
      refine ww_getR 40 X dX11_name_40 fG_X11_170 e40 ?_
      refine ww_aload_n 43 X dX11_name_43 0 rfl rfl ?_
      obtain ⟨v44, e44, h⟩ := bO_some h
      refine ww_getR 44 X dX11_name_44 fG_X11_40 e44 ?_
      obtain ⟨v47, e47, h⟩ := bO_some h
      refine ww_getR 47 X dX11_name_47 fG_X11_184 e47 ?_
      refine ww_iload_n 50 X dX11_name_50 1 rfl rfl ?_
      obtain ⟨v51, e51, h⟩ := bO_some h
      refine ww_iald 51 X dX11_name_51 e51 ?_
      refine ww_aload_n 52 X dX11_name_52 0 rfl rfl ?_
      obtain ⟨v53, e53, h⟩ := bO_some h
      refine ww_getR 53 X dX11_name_53 fG_X11_40 e53 ?_
      obtain ⟨v56, e56, h⟩ := bO_some h
      refine ww_getR 56 X dX11_name_56 fG_X11_187 e56 ?_
      refine ww_iload_n 59 X dX11_name_59 1 rfl rfl ?_
      obtain ⟨v60, e60, h⟩ := bO_some h
      refine ww_iald 60 X dX11_name_60 e60 ?_
      obtain ⟨_, f61, h⟩ := bO_some h
      obtain ⟨v61, M61, e61, h⟩ := bP_some h
      refine ww_callVI0 61 X dX11_name_61 mY_X11_show mL_X11_176 (rcv_spec f61) ⟨_, _, rfl⟩ (by decide) (As := [.ref v40, .int v51, .int v60]) (rest := []) rfl rfl ⟨Nat.le_of_ble_eq_true rfl, Nat.le_of_ble_eq_true rfl⟩ (Nat.le_of_ble_eq_true rfl) (fun l D A => c_X11_show l D A e61) ?_
      exact ww_iretE 64 X hQ dX11_name_64 h
    · replace h := (if_pos q).symm.trans h
      refine ww_bipush 32 X (v := (-2 : Int32)) dX11_name_32 (by decide) ?_
      exact ww_iretE 34 X hQ dX11_name_34 h
theorem c_X11_name {G : mG} {F sz : Nat} {r0 : Int32} {M0 : mM} (l : Launch) (D : mD) (A : Nat → Prop) {l0 : Nat} {l1 : Int32} {M : mM} (h : P_X11_name G F l0 l1 M = some (r0, M0)) : mMetI l D G A yX11_name cX11_name 2 (some .int) 3 107 0 0 [.ref l0, .int l1] M sz r0 M0 sz := mMetI_of l D G A (by decide) (Nat.le_of_ble_eq_true rfl) (fun x X hQ => wP_X11_name X hQ h)
/-! SealedTokens.member(II)I -/
theorem dX11_member_0 : decode cX11_member 0 = .ok (.aload_n 0, 1) := by decide +kernel
theorem dX11_member_1 : decode cX11_member 1 = .ok (.getfield 40, 3) := by decide +kernel
theorem dX11_member_4 : decode cX11_member 4 = .ok (.iload_n 1, 1) := by decide +kernel
theorem dX11_member_5 : decode cX11_member 5 = .ok (.bipush 6, 2) := by decide +kernel
theorem dX11_member_7 : decode cX11_member 7 = .ok (.invokevirtual 180, 3) := by decide +kernel
theorem dX11_member_10 : decode cX11_member 10 = .ok (.ifCond .eq 11, 3) := by decide +kernel
theorem dX11_member_13 : decode cX11_member 13 = .ok (.aload_n 0, 1) := by decide +kernel
theorem dX11_member_14 : decode cX11_member 14 = .ok (.iload_n 2, 1) := by decide +kernel
theorem dX11_member_15 : decode cX11_member 15 = .ok (.invokevirtual 123, 3) := by decide +kernel
theorem dX11_member_18 : decode cX11_member 18 = .ok (.ifCond .ne 6, 3) := by decide +kernel
theorem dX11_member_21 : decode cX11_member 21 = .ok (.bipush (-2), 2) := by decide +kernel
theorem dX11_member_23 : decode cX11_member 23 = .ok (.ireturn, 1) := by decide +kernel
theorem dX11_member_24 : decode cX11_member 24 = .ok (.aload_n 0, 1) := by decide +kernel
theorem dX11_member_25 : decode cX11_member 25 = .ok (.getfield 40, 3) := by decide +kernel
theorem dX11_member_28 : decode cX11_member 28 = .ok (.iload_n 1, 1) := by decide +kernel
theorem dX11_member_29 : decode cX11_member 29 = .ok (.aload_n 0, 1) := by decide +kernel
theorem dX11_member_30 : decode cX11_member 30 = .ok (.getfield 11, 3) := by decide +kernel
theorem dX11_member_33 : decode cX11_member 33 = .ok (.iload_n 2, 1) := by decide +kernel
theorem dX11_member_34 : decode cX11_member 34 = .ok (.aaload, 1) := by decide +kernel
theorem dX11_member_35 : decode cX11_member 35 = .ok (.iconst 0, 1) := by decide +kernel
theorem dX11_member_36 : decode cX11_member 36 = .ok (.aload_n 0, 1) := by decide +kernel
theorem dX11_member_37 : decode cX11_member 37 = .ok (.getfield 11, 3) := by decide +kernel
theorem dX11_member_40 : decode cX11_member 40 = .ok (.iload_n 2, 1) := by decide +kernel
theorem dX11_member_41 : decode cX11_member 41 = .ok (.aaload, 1) := by decide +kernel
theorem dX11_member_42 : decode cX11_member 42 = .ok (.getfield 113, 3) := by decide +kernel
theorem dX11_member_45 : decode cX11_member 45 = .ok (.invokevirtual 190, 3) := by decide +kernel
theorem dX11_member_48 : decode cX11_member 48 = .ok (.ireturn, 1) := by decide +kernel
abbrev rmX11_member : Room := { frames := 4, cells := 0, slots := 0, locals := 98 }
set_option maxHeartbeats 4000000 in
set_option maxRecDepth 100000 in
theorem wP_X11_member {G : mG} {F : Nat} {x : mXT} {sz : Nat} {r0 : Int32} {M0 : mM} (X : mCX G RX11 cX11_member 3 (some .int) "member" rmX11_member x) (hQ : mQI x r0 M0 (sz, 0, 0)) {l0 : Nat} {l1 : Int32} {l2 : Int32} {M : mM} (h : P_X11_member G F l0 l1 l2 M = some (r0, M0)) : WW x (sz, 0, 0) M 0 [(0, .ref l0), (1, .int l1), (2, .int l2)] [] := by
  unfold P_X11_member at h
  refine ww_aload_n 0 X dX11_member_0 0 rfl rfl ?_
  obtain ⟨v1, e1, h⟩ := bO_some h
  refine ww_getR 1 X dX11_member_1 fG_X11_40 e1 ?_
  refine ww_iload_n 4 X dX11_member_4 1 rfl rfl ?_
  refine ww_bipush 5 X (v := (6 : Int32)) dX11_member_5 (by decide) ?_
  obtain ⟨_, f7, h⟩ := bO_some h
  obtain ⟨v7, M7, e7, h⟩ := bP_some h
  refine ww_callVI0 7 X dX11_member_7 mY_X9_isKind mL_X11_180 (rcv_spec f7) ⟨_, _, rfl⟩ (by decide) (As := [.int l1, .int (6 : Int32)]) (rest := []) rfl rfl ⟨Nat.le_of_ble_eq_true rfl, Nat.le_of_ble_eq_true rfl⟩ (Nat.le_of_ble_eq_true rfl) (fun l D A => c_X9_isKind l D A e7) ?_
  refine ww_if_eq 10 21 X dX11_member_10 (by decide) (fun q => ?_) (fun q => ?_)
  · replace h := (if_pos q).symm.trans h
    refine ww_bipush 21 X (v := (-2 : Int32)) dX11_member_21 (by decide) ?_
    exact ww_iretE 23 X hQ dX11_member_23 h
  · replace h := (if_neg q).symm.trans h
    refine ww_aload_n 13 X dX11_member_13 0 rfl rfl ?_
    refine ww_iload_n 14 X dX11_member_14 2 rfl rfl ?_
    obtain ⟨_, f15, h⟩ := bO_some h
    obtain ⟨v15, M15, e15, h⟩ := bP_some h
    refine ww_callVI0 15 X dX11_member_15 mY_X11_isRow mL_X11_123 (rcv_spec f15) ⟨_, _, rfl⟩ (by decide) (As := [.int l2]) (rest := []) rfl rfl ⟨Nat.le_of_ble_eq_true rfl, Nat.le_of_ble_eq_true rfl⟩ (Nat.le_of_ble_eq_true rfl) (fun l D A => c_X11_isRow l D A e15) ?_
    refine ww_if_ne 18 24 X dX11_member_18 (by decide) (fun q => ?_) (fun q => ?_)
    · replace h := (if_neg q).symm.trans h
      refine ww_aload_n 24 X dX11_member_24 0 rfl rfl ?_
      obtain ⟨v25, e25, h⟩ := bO_some h
      refine ww_getR 25 X dX11_member_25 fG_X11_40 e25 ?_
      refine ww_iload_n 28 X dX11_member_28 1 rfl rfl ?_
      refine ww_aload_n 29 X dX11_member_29 0 rfl rfl ?_
      obtain ⟨v30, e30, h⟩ := bO_some h
      refine ww_getR 30 X dX11_member_30 fG_X11_11 e30 ?_
      refine ww_iload_n 33 X dX11_member_33 2 rfl rfl ?_
      obtain ⟨v34, e34, h⟩ := bO_some h
      refine ww_aald4 34 X dX11_member_34 e34 ?_
      refine ww_iconst 35 X (v := (0 : Int32)) dX11_member_35 (by decide) ?_
      refine ww_aload_n 36 X dX11_member_36 0 rfl rfl ?_
      obtain ⟨v37, e37, h⟩ := bO_some h
      refine ww_getR 37 X dX11_member_37 fG_X11_11 e37 ?_
      refine ww_iload_n 40 X dX11_member_40 2 rfl rfl ?_
      obtain ⟨v41, e41, h⟩ := bO_some h
      refine ww_aald4 41 X dX11_member_41 e41 ?_
      obtain ⟨v42, e42, h⟩ := bO_some h
      refine ww_getI 42 X dX11_member_42 fG_X11_113 e42 ?_
      obtain ⟨_, f45, h⟩ := bO_some h
      obtain ⟨v45, M45, e45, h⟩ := bP_some h
      refine ww_callVI0 45 X dX11_member_45 mY_X9_named mL_X11_190 (rcv_spec f45) ⟨_, _, rfl⟩ (by decide) (As := [.int l1, .ref v34, .int (0 : Int32), .int v42]) (rest := []) rfl rfl ⟨Nat.le_of_ble_eq_true rfl, Nat.le_of_ble_eq_true rfl⟩ (Nat.le_of_ble_eq_true rfl) (fun l D A => c_X9_named l D A e45) ?_
      exact ww_iretE 48 X hQ dX11_member_48 h
    · replace h := (if_pos q).symm.trans h
      refine ww_bipush 21 X (v := (-2 : Int32)) dX11_member_21 (by decide) ?_
      exact ww_iretE 23 X hQ dX11_member_23 h
theorem c_X11_member {G : mG} {F sz : Nat} {r0 : Int32} {M0 : mM} (l : Launch) (D : mD) (A : Nat → Prop) {l0 : Nat} {l1 : Int32} {l2 : Int32} {M : mM} (h : P_X11_member G F l0 l1 l2 M = some (r0, M0)) : mMetI l D G A yX11_member cX11_member 3 (some .int) 4 98 0 0 [.ref l0, .int l1, .int l2] M sz r0 M0 sz := mMetI_of l D G A (by decide) (Nat.le_of_ble_eq_true rfl) (fun x X hQ => wP_X11_member X hQ h)
/-! SealedTokens.write(I)I -/
theorem dX11_write_0 : decode cX11_write 0 = .ok (.aload_n 0, 1) := by decide +kernel
theorem dX11_write_1 : decode cX11_write 1 = .ok (.getfield 40, 3) := by decide +kernel
theorem dX11_write_4 : decode cX11_write 4 = .ok (.iload_n 1, 1) := by decide +kernel
theorem dX11_write_5 : decode cX11_write 5 = .ok (.invokevirtual 149, 3) := by decide +kernel
theorem dX11_write_8 : decode cX11_write 8 = .ok (.ifCond .ne 6, 3) := by decide +kernel
theorem dX11_write_11 : decode cX11_write 11 = .ok (.bipush (-2), 2) := by decide +kernel
theorem dX11_write_13 : decode cX11_write 13 = .ok (.ireturn, 1) := by decide +kernel
theorem dX11_write_14 : decode cX11_write 14 = .ok (.aload_n 0, 1) := by decide +kernel
theorem dX11_write_15 : decode cX11_write 15 = .ok (.getfield 34, 3) := by decide +kernel
theorem dX11_write_18 : decode cX11_write 18 = .ok (.invokevirtual 131, 3) := by decide +kernel
theorem dX11_write_21 : decode cX11_write 21 = .ok (.aload_n 0, 1) := by decide +kernel
theorem dX11_write_22 : decode cX11_write 22 = .ok (.getfield 40, 3) := by decide +kernel
theorem dX11_write_25 : decode cX11_write 25 = .ok (.iload_n 1, 1) := by decide +kernel
theorem dX11_write_26 : decode cX11_write 26 = .ok (.aload_n 0, 1) := by decide +kernel
theorem dX11_write_27 : decode cX11_write 27 = .ok (.getfield 34, 3) := by decide +kernel
theorem dX11_write_30 : decode cX11_write 30 = .ok (.invokevirtual 194, 3) := by decide +kernel
theorem dX11_write_33 : decode cX11_write 33 = .ok (.aload_n 0, 1) := by decide +kernel
theorem dX11_write_34 : decode cX11_write 34 = .ok (.getfield 34, 3) := by decide +kernel
theorem dX11_write_37 : decode cX11_write 37 = .ok (.getfield 198, 3) := by decide +kernel
theorem dX11_write_40 : decode cX11_write 40 = .ok (.ifCond .eq 8, 3) := by decide +kernel
theorem dX11_write_43 : decode cX11_write 43 = .ok (.bipush (-3), 2) := by decide +kernel
theorem dX11_write_45 : decode cX11_write 45 = .ok (.goto 19, 3) := by decide +kernel
theorem dX11_write_48 : decode cX11_write 48 = .ok (.aload_n 0, 1) := by decide +kernel
theorem dX11_write_49 : decode cX11_write 49 = .ok (.aload_n 0, 1) := by decide +kernel
theorem dX11_write_50 : decode cX11_write 50 = .ok (.getfield 34, 3) := by decide +kernel
theorem dX11_write_53 : decode cX11_write 53 = .ok (.iconst 0, 1) := by decide +kernel
theorem dX11_write_54 : decode cX11_write 54 = .ok (.aload_n 0, 1) := by decide +kernel
theorem dX11_write_55 : decode cX11_write 55 = .ok (.getfield 34, 3) := by decide +kernel
theorem dX11_write_58 : decode cX11_write 58 = .ok (.getfield 113, 3) := by decide +kernel
theorem dX11_write_61 : decode cX11_write 61 = .ok (.invokevirtual 176, 3) := by decide +kernel
theorem dX11_write_64 : decode cX11_write 64 = .ok (.ireturn, 1) := by decide +kernel
abbrev rmX11_write : Room := { frames := 8, cells := 0, slots := 0, locals := 179 }
set_option maxHeartbeats 4000000 in
set_option maxRecDepth 100000 in
theorem wP_X11_write {G : mG} {F : Nat} {x : mXT} {sz : Nat} {r0 : Int32} {M0 : mM} (X : mCX G RX11 cX11_write 2 (some .int) "write" rmX11_write x) (hQ : mQI x r0 M0 (sz, 0, 0)) {l0 : Nat} {l1 : Int32} {M : mM} (h : P_X11_write G F l0 l1 M = some (r0, M0)) : WW x (sz, 0, 0) M 0 [(0, .ref l0), (1, .int l1)] [] := by
  unfold P_X11_write at h
  refine ww_aload_n 0 X dX11_write_0 0 rfl rfl ?_
  obtain ⟨v1, e1, h⟩ := bO_some h
  refine ww_getR 1 X dX11_write_1 fG_X11_40 e1 ?_
  refine ww_iload_n 4 X dX11_write_4 1 rfl rfl ?_
  obtain ⟨_, f5, h⟩ := bO_some h
  obtain ⟨v5, M5, e5, h⟩ := bP_some h
  refine ww_callVI0 5 X dX11_write_5 mY_X9_has mL_X11_149 (rcv_spec f5) ⟨_, _, rfl⟩ (by decide) (As := [.int l1]) (rest := []) rfl rfl ⟨Nat.le_of_ble_eq_true rfl, Nat.le_of_ble_eq_true rfl⟩ (Nat.le_of_ble_eq_true rfl) (fun l D A => c_X9_has l D A e5) ?_
  refine ww_if_ne 8 14 X dX11_write_8 (by decide) (fun q => ?_) (fun q => ?_)
  · replace h := (if_neg q).symm.trans h
    refine ww_aload_n 14 X dX11_write_14 0 rfl rfl ?_
    obtain ⟨v15, e15, h⟩ := bO_some h
    refine ww_getR 15 X dX11_write_15 fG_X11_34 e15 ?_
    obtain ⟨_, f18, h⟩ := bO_some h
    obtain ⟨M18, e18, h⟩ := bO_some h
    refine ww_callVV0 18 X dX11_write_18 mY_X0_clear mL_X11_131 (rcv_spec f18) ⟨_, _, rfl⟩ (by decide) (As := []) (rest := []) rfl rfl ⟨Nat.le_of_ble_eq_true rfl, Nat.le_of_ble_eq_true rfl⟩ (Nat.le_of_ble_eq_true rfl) (fun l D A => c_X0_clear l D A e18) ?_
    refine ww_aload_n 21 X dX11_write_21 0 rfl rfl ?_
    obtain ⟨v22, e22, h⟩ := bO_some h
    refine ww_getR 22 X dX11_write_22 fG_X11_40 e22 ?_
    refine ww_iload_n 25 X dX11_write_25 1 rfl rfl ?_
    refine ww_aload_n 26 X dX11_write_26 0 rfl rfl ?_
    obtain ⟨v27, e27, h⟩ := bO_some h
    refine ww_getR 27 X dX11_write_27 fG_X11_34 e27 ?_
    obtain ⟨_, f30, h⟩ := bO_some h
    obtain ⟨M30, e30, h⟩ := bO_some h
    refine ww_callVV0 30 X dX11_write_30 mY_X9_putValue mL_X11_194 (rcv_spec f30) ⟨_, _, rfl⟩ (by decide) (As := [.int l1, .ref v27]) (rest := []) rfl rfl ⟨Nat.le_of_ble_eq_true rfl, Nat.le_of_ble_eq_true rfl⟩ (Nat.le_of_ble_eq_true rfl) (fun l D A => c_X9_putValue l D A e30) ?_
    refine ww_aload_n 33 X dX11_write_33 0 rfl rfl ?_
    obtain ⟨v34, e34, h⟩ := bO_some h
    refine ww_getR 34 X dX11_write_34 fG_X11_34 e34 ?_
    obtain ⟨v37, e37, h⟩ := bO_some h
    refine ww_getI 37 X dX11_write_37 fG_X11_198 e37 ?_
    refine ww_if_eq 40 48 X dX11_write_40 (by decide) (fun q => ?_) (fun q => ?_)
    · replace h := (if_pos q).symm.trans h
      refine ww_aload_n 48 X dX11_write_48 0 rfl rfl ?_
      refine ww_aload_n 49 X dX11_write_49 0 rfl rfl ?_
      obtain ⟨v50, e50, h⟩ := bO_some h
      refine ww_getR 50 X dX11_write_50 fG_X11_34 e50 ?_
      refine ww_iconst 53 X (v := (0 : Int32)) dX11_write_53 (by decide) ?_
      refine ww_aload_n 54 X dX11_write_54 0 rfl rfl ?_
      obtain ⟨v55, e55, h⟩ := bO_some h
      refine ww_getR 55 X dX11_write_55 fG_X11_34 e55 ?_
      obtain ⟨v58, e58, h⟩ := bO_some h
      refine ww_getI 58 X dX11_write_58 fG_X11_113 e58 ?_
      obtain ⟨_, f61, h⟩ := bO_some h
      obtain ⟨v61, M61, e61, h⟩ := bP_some h
      refine ww_callVI0 61 X dX11_write_61 mY_X11_show mL_X11_176 (rcv_spec f61) ⟨_, _, rfl⟩ (by decide) (As := [.ref v50, .int (0 : Int32), .int v58]) (rest := []) rfl rfl ⟨Nat.le_of_ble_eq_true rfl, Nat.le_of_ble_eq_true rfl⟩ (Nat.le_of_ble_eq_true rfl) (fun l D A => c_X11_show l D A e61) ?_
      exact ww_iretE 64 X hQ dX11_write_64 h
    · replace h := (if_neg q).symm.trans h
      refine ww_bipush 43 X (v := (-3 : Int32)) dX11_write_43 (by decide) ?_
      refine ww_goto 45 64 X dX11_write_45 (by decide) ?_
      exact ww_iretE 64 X hQ dX11_write_64 h
  · replace h := (if_pos q).symm.trans h
    refine ww_bipush 11 X (v := (-2 : Int32)) dX11_write_11 (by decide) ?_
    exact ww_iretE 13 X hQ dX11_write_13 h
theorem c_X11_write {G : mG} {F sz : Nat} {r0 : Int32} {M0 : mM} (l : Launch) (D : mD) (A : Nat → Prop) {l0 : Nat} {l1 : Int32} {M : mM} (h : P_X11_write G F l0 l1 M = some (r0, M0)) : mMetI l D G A yX11_write cX11_write 2 (some .int) 8 179 0 0 [.ref l0, .int l1] M sz r0 M0 sz := mMetI_of l D G A (by decide) (Nat.le_of_ble_eq_true rfl) (fun x X hQ => wP_X11_write X hQ h)
/-! SealedTokens.encode(I)I -/
theorem dX11_encode_0 : decode cX11_encode 0 = .ok (.aload_n 0, 1) := by decide +kernel
theorem dX11_encode_1 : decode cX11_encode 1 = .ok (.iload_n 1, 1) := by decide +kernel
theorem dX11_encode_2 : decode cX11_encode 2 = .ok (.invokevirtual 123, 3) := by decide +kernel
theorem dX11_encode_5 : decode cX11_encode 5 = .ok (.ifCond .ne 6, 3) := by decide +kernel
theorem dX11_encode_8 : decode cX11_encode 8 = .ok (.bipush (-2), 2) := by decide +kernel
theorem dX11_encode_10 : decode cX11_encode 10 = .ok (.ireturn, 1) := by decide +kernel
theorem dX11_encode_11 : decode cX11_encode 11 = .ok (.aload_n 0, 1) := by decide +kernel
theorem dX11_encode_12 : decode cX11_encode 12 = .ok (.getfield 11, 3) := by decide +kernel
theorem dX11_encode_15 : decode cX11_encode 15 = .ok (.iload_n 1, 1) := by decide +kernel
theorem dX11_encode_16 : decode cX11_encode 16 = .ok (.aaload, 1) := by decide +kernel
theorem dX11_encode_17 : decode cX11_encode 17 = .ok (.getfield 113, 3) := by decide +kernel
theorem dX11_encode_20 : decode cX11_encode 20 = .ok (.invokestatic 202, 3) := by decide +kernel
theorem dX11_encode_23 : decode cX11_encode 23 = .ok (.sipush 8192, 3) := by decide +kernel
theorem dX11_encode_26 : decode cX11_encode 26 = .ok (.if_icmp .le 6, 3) := by decide +kernel
theorem dX11_encode_29 : decode cX11_encode 29 = .ok (.bipush (-3), 2) := by decide +kernel
theorem dX11_encode_31 : decode cX11_encode 31 = .ok (.ireturn, 1) := by decide +kernel
theorem dX11_encode_32 : decode cX11_encode 32 = .ok (.aload_n 0, 1) := by decide +kernel
theorem dX11_encode_33 : decode cX11_encode 33 = .ok (.getfield 22, 3) := by decide +kernel
theorem dX11_encode_36 : decode cX11_encode 36 = .ok (.invokevirtual 131, 3) := by decide +kernel
theorem dX11_encode_39 : decode cX11_encode 39 = .ok (.aload_n 0, 1) := by decide +kernel
theorem dX11_encode_40 : decode cX11_encode 40 = .ok (.getfield 22, 3) := by decide +kernel
theorem dX11_encode_43 : decode cX11_encode 43 = .ok (.aload_n 0, 1) := by decide +kernel
theorem dX11_encode_44 : decode cX11_encode 44 = .ok (.getfield 11, 3) := by decide +kernel
theorem dX11_encode_47 : decode cX11_encode 47 = .ok (.iload_n 1, 1) := by decide +kernel
theorem dX11_encode_48 : decode cX11_encode 48 = .ok (.aaload, 1) := by decide +kernel
theorem dX11_encode_49 : decode cX11_encode 49 = .ok (.iconst 0, 1) := by decide +kernel
theorem dX11_encode_50 : decode cX11_encode 50 = .ok (.aload_n 0, 1) := by decide +kernel
theorem dX11_encode_51 : decode cX11_encode 51 = .ok (.getfield 11, 3) := by decide +kernel
theorem dX11_encode_54 : decode cX11_encode 54 = .ok (.iload_n 1, 1) := by decide +kernel
theorem dX11_encode_55 : decode cX11_encode 55 = .ok (.aaload, 1) := by decide +kernel
theorem dX11_encode_56 : decode cX11_encode 56 = .ok (.getfield 113, 3) := by decide +kernel
theorem dX11_encode_59 : decode cX11_encode 59 = .ok (.invokevirtual 205, 3) := by decide +kernel
theorem dX11_encode_62 : decode cX11_encode 62 = .ok (.aload_n 0, 1) := by decide +kernel
theorem dX11_encode_63 : decode cX11_encode 63 = .ok (.getfield 22, 3) := by decide +kernel
theorem dX11_encode_66 : decode cX11_encode 66 = .ok (.getfield 113, 3) := by decide +kernel
theorem dX11_encode_69 : decode cX11_encode 69 = .ok (.ireturn, 1) := by decide +kernel
abbrev rmX11_encode : Room := { frames := 5, cells := 0, slots := 0, locals := 111 }
set_option maxHeartbeats 4000000 in
set_option maxRecDepth 100000 in
theorem wP_X11_encode {G : mG} {F : Nat} {x : mXT} {sz : Nat} {r0 : Int32} {M0 : mM} (X : mCX G RX11 cX11_encode 2 (some .int) "encode" rmX11_encode x) (hQ : mQI x r0 M0 (sz, 0, 0)) {l0 : Nat} {l1 : Int32} {M : mM} (h : P_X11_encode G F l0 l1 M = some (r0, M0)) : WW x (sz, 0, 0) M 0 [(0, .ref l0), (1, .int l1)] [] := by
  unfold P_X11_encode at h
  refine ww_aload_n 0 X dX11_encode_0 0 rfl rfl ?_
  refine ww_iload_n 1 X dX11_encode_1 1 rfl rfl ?_
  obtain ⟨_, f2, h⟩ := bO_some h
  obtain ⟨v2, M2, e2, h⟩ := bP_some h
  refine ww_callVI0 2 X dX11_encode_2 mY_X11_isRow mL_X11_123 (rcv_spec f2) ⟨_, _, rfl⟩ (by decide) (As := [.int l1]) (rest := []) rfl rfl ⟨Nat.le_of_ble_eq_true rfl, Nat.le_of_ble_eq_true rfl⟩ (Nat.le_of_ble_eq_true rfl) (fun l D A => c_X11_isRow l D A e2) ?_
  refine ww_if_ne 5 11 X dX11_encode_5 (by decide) (fun q => ?_) (fun q => ?_)
  · replace h := (if_neg q).symm.trans h
    refine ww_aload_n 11 X dX11_encode_11 0 rfl rfl ?_
    obtain ⟨v12, e12, h⟩ := bO_some h
    refine ww_getR 12 X dX11_encode_12 fG_X11_11 e12 ?_
    refine ww_iload_n 15 X dX11_encode_15 1 rfl rfl ?_
    obtain ⟨v16, e16, h⟩ := bO_some h
    refine ww_aald4 16 X dX11_encode_16 e16 ?_
    obtain ⟨v17, e17, h⟩ := bO_some h
    refine ww_getI 17 X dX11_encode_17 fG_X11_113 e17 ?_
    obtain ⟨v20, M20, e20, h⟩ := bP_some h
    refine ww_callSI0 20 X dX11_encode_20 mY_X0_lettersFor mL_X11_202 (As := [.int v17]) (rest := []) rfl rfl ⟨Nat.le_of_ble_eq_true rfl, Nat.le_of_ble_eq_true rfl⟩ (Nat.le_of_ble_eq_true rfl) (fun l D A => c_X0_lettersFor l D A e20) ?_
    refine ww_sipush 23 X (v := (8192 : Int32)) dX11_encode_23 (by decide) ?_
    refine ww_icmp_le 26 32 X dX11_encode_26 (by decide) (fun q => ?_) (fun q => ?_)
    · replace h := (if_pos q).symm.trans h
      refine ww_aload_n 32 X dX11_encode_32 0 rfl rfl ?_
      obtain ⟨v33, e33, h⟩ := bO_some h
      refine ww_getR 33 X dX11_encode_33 fG_X11_22 e33 ?_
      obtain ⟨_, f36, h⟩ := bO_some h
      obtain ⟨M36, e36, h⟩ := bO_some h
      refine ww_callVV0 36 X dX11_encode_36 mY_X0_clear mL_X11_131 (rcv_spec f36) ⟨_, _, rfl⟩ (by decide) (As := []) (rest := []) rfl rfl ⟨Nat.le_of_ble_eq_true rfl, Nat.le_of_ble_eq_true rfl⟩ (Nat.le_of_ble_eq_true rfl) (fun l D A => c_X0_clear l D A e36) ?_
      refine ww_aload_n 39 X dX11_encode_39 0 rfl rfl ?_
      obtain ⟨v40, e40, h⟩ := bO_some h
      refine ww_getR 40 X dX11_encode_40 fG_X11_22 e40 ?_
      refine ww_aload_n 43 X dX11_encode_43 0 rfl rfl ?_
      obtain ⟨v44, e44, h⟩ := bO_some h
      refine ww_getR 44 X dX11_encode_44 fG_X11_11 e44 ?_
      refine ww_iload_n 47 X dX11_encode_47 1 rfl rfl ?_
      obtain ⟨v48, e48, h⟩ := bO_some h
      refine ww_aald4 48 X dX11_encode_48 e48 ?_
      refine ww_iconst 49 X (v := (0 : Int32)) dX11_encode_49 (by decide) ?_
      refine ww_aload_n 50 X dX11_encode_50 0 rfl rfl ?_
      obtain ⟨v51, e51, h⟩ := bO_some h
      refine ww_getR 51 X dX11_encode_51 fG_X11_11 e51 ?_
      refine ww_iload_n 54 X dX11_encode_54 1 rfl rfl ?_
      obtain ⟨v55, e55, h⟩ := bO_some h
      refine ww_aald4 55 X dX11_encode_55 e55 ?_
      obtain ⟨v56, e56, h⟩ := bO_some h
      refine ww_getI 56 X dX11_encode_56 fG_X11_113 e56 ?_
      obtain ⟨_, f59, h⟩ := bO_some h
      obtain ⟨M59, e59, h⟩ := bO_some h
      refine ww_callVV0 59 X dX11_encode_59 mY_X0_putLetters mL_X11_205 (rcv_spec f59) ⟨_, _, rfl⟩ (by decide) (As := [.ref v48, .int (0 : Int32), .int v56]) (rest := []) rfl rfl ⟨Nat.le_of_ble_eq_true rfl, Nat.le_of_ble_eq_true rfl⟩ (Nat.le_of_ble_eq_true rfl) (fun l D A => c_X0_putLetters l D A e59) ?_
      refine ww_aload_n 62 X dX11_encode_62 0 rfl rfl ?_
      obtain ⟨v63, e63, h⟩ := bO_some h
      refine ww_getR 63 X dX11_encode_63 fG_X11_22 e63 ?_
      obtain ⟨v66, e66, h⟩ := bO_some h
      refine ww_getI 66 X dX11_encode_66 fG_X11_113 e66 ?_
      exact ww_iretE 69 X hQ dX11_encode_69 h
    · replace h := (if_neg q).symm.trans h
      refine ww_bipush 29 X (v := (-3 : Int32)) dX11_encode_29 (by decide) ?_
      exact ww_iretE 31 X hQ dX11_encode_31 h
  · replace h := (if_pos q).symm.trans h
    refine ww_bipush 8 X (v := (-2 : Int32)) dX11_encode_8 (by decide) ?_
    exact ww_iretE 10 X hQ dX11_encode_10 h
theorem c_X11_encode {G : mG} {F sz : Nat} {r0 : Int32} {M0 : mM} (l : Launch) (D : mD) (A : Nat → Prop) {l0 : Nat} {l1 : Int32} {M : mM} (h : P_X11_encode G F l0 l1 M = some (r0, M0)) : mMetI l D G A yX11_encode cX11_encode 2 (some .int) 5 111 0 0 [.ref l0, .int l1] M sz r0 M0 sz := mMetI_of l D G A (by decide) (Nat.le_of_ble_eq_true rfl) (fun x X hQ => wP_X11_encode X hQ h)
/-! SealedTokens.decode(I)I -/
theorem dX11_decode_0 : decode cX11_decode 0 = .ok (.aload_n 0, 1) := by decide +kernel
theorem dX11_decode_1 : decode cX11_decode 1 = .ok (.iload_n 1, 1) := by decide +kernel
theorem dX11_decode_2 : decode cX11_decode 2 = .ok (.invokevirtual 123, 3) := by decide +kernel
theorem dX11_decode_5 : decode cX11_decode 5 = .ok (.ifCond .ne 6, 3) := by decide +kernel
theorem dX11_decode_8 : decode cX11_decode 8 = .ok (.bipush (-2), 2) := by decide +kernel
theorem dX11_decode_10 : decode cX11_decode 10 = .ok (.ireturn, 1) := by decide +kernel
theorem dX11_decode_11 : decode cX11_decode 11 = .ok (.aload_n 0, 1) := by decide +kernel
theorem dX11_decode_12 : decode cX11_decode 12 = .ok (.getfield 11, 3) := by decide +kernel
theorem dX11_decode_15 : decode cX11_decode 15 = .ok (.iload_n 1, 1) := by decide +kernel
theorem dX11_decode_16 : decode cX11_decode 16 = .ok (.aaload, 1) := by decide +kernel
theorem dX11_decode_17 : decode cX11_decode 17 = .ok (.iconst 0, 1) := by decide +kernel
theorem dX11_decode_18 : decode cX11_decode 18 = .ok (.aload_n 0, 1) := by decide +kernel
theorem dX11_decode_19 : decode cX11_decode 19 = .ok (.getfield 11, 3) := by decide +kernel
theorem dX11_decode_22 : decode cX11_decode 22 = .ok (.iload_n 1, 1) := by decide +kernel
theorem dX11_decode_23 : decode cX11_decode 23 = .ok (.aaload, 1) := by decide +kernel
theorem dX11_decode_24 : decode cX11_decode 24 = .ok (.getfield 113, 3) := by decide +kernel
theorem dX11_decode_27 : decode cX11_decode 27 = .ok (.invokestatic 209, 3) := by decide +kernel
theorem dX11_decode_30 : decode cX11_decode 30 = .ok (.istore_n 2, 1) := by decide +kernel
theorem dX11_decode_31 : decode cX11_decode 31 = .ok (.iload_n 2, 1) := by decide +kernel
theorem dX11_decode_32 : decode cX11_decode 32 = .ok (.iconst (-1), 1) := by decide +kernel
theorem dX11_decode_33 : decode cX11_decode 33 = .ok (.if_icmp .eq 8, 3) := by decide +kernel
theorem dX11_decode_36 : decode cX11_decode 36 = .ok (.bipush (-100), 2) := by decide +kernel
theorem dX11_decode_38 : decode cX11_decode 38 = .ok (.iload_n 2, 1) := by decide +kernel
theorem dX11_decode_39 : decode cX11_decode 39 = .ok (.isub, 1) := by decide +kernel
theorem dX11_decode_40 : decode cX11_decode 40 = .ok (.ireturn, 1) := by decide +kernel
theorem dX11_decode_41 : decode cX11_decode 41 = .ok (.aload_n 0, 1) := by decide +kernel
theorem dX11_decode_42 : decode cX11_decode 42 = .ok (.getfield 22, 3) := by decide +kernel
theorem dX11_decode_45 : decode cX11_decode 45 = .ok (.invokevirtual 131, 3) := by decide +kernel
theorem dX11_decode_48 : decode cX11_decode 48 = .ok (.aload_n 0, 1) := by decide +kernel
theorem dX11_decode_49 : decode cX11_decode 49 = .ok (.getfield 22, 3) := by decide +kernel
theorem dX11_decode_52 : decode cX11_decode 52 = .ok (.aload_n 0, 1) := by decide +kernel
theorem dX11_decode_53 : decode cX11_decode 53 = .ok (.getfield 11, 3) := by decide +kernel
theorem dX11_decode_56 : decode cX11_decode 56 = .ok (.iload_n 1, 1) := by decide +kernel
theorem dX11_decode_57 : decode cX11_decode 57 = .ok (.aaload, 1) := by decide +kernel
theorem dX11_decode_58 : decode cX11_decode 58 = .ok (.iconst 0, 1) := by decide +kernel
theorem dX11_decode_59 : decode cX11_decode 59 = .ok (.aload_n 0, 1) := by decide +kernel
theorem dX11_decode_60 : decode cX11_decode 60 = .ok (.getfield 11, 3) := by decide +kernel
theorem dX11_decode_63 : decode cX11_decode 63 = .ok (.iload_n 1, 1) := by decide +kernel
theorem dX11_decode_64 : decode cX11_decode 64 = .ok (.aaload, 1) := by decide +kernel
theorem dX11_decode_65 : decode cX11_decode 65 = .ok (.getfield 113, 3) := by decide +kernel
theorem dX11_decode_68 : decode cX11_decode 68 = .ok (.invokevirtual 212, 3) := by decide +kernel
theorem dX11_decode_71 : decode cX11_decode 71 = .ok (.aload_n 0, 1) := by decide +kernel
theorem dX11_decode_72 : decode cX11_decode 72 = .ok (.getfield 22, 3) := by decide +kernel
theorem dX11_decode_75 : decode cX11_decode 75 = .ok (.getfield 113, 3) := by decide +kernel
theorem dX11_decode_78 : decode cX11_decode 78 = .ok (.ireturn, 1) := by decide +kernel
abbrev rmX11_decode : Room := { frames := 2, cells := 0, slots := 0, locals := 47 }
set_option maxHeartbeats 4000000 in
set_option maxRecDepth 100000 in
theorem wP_X11_decode {G : mG} {F : Nat} {x : mXT} {sz : Nat} {r0 : Int32} {M0 : mM} (X : mCX G RX11 cX11_decode 3 (some .int) "decode" rmX11_decode x) (hQ : mQI x r0 M0 (sz, 0, 0)) {l0 : Nat} {l1 : Int32} {M : mM} (h : P_X11_decode G F l0 l1 M = some (r0, M0)) : WW x (sz, 0, 0) M 0 [(0, .ref l0), (1, .int l1)] [] := by
  unfold P_X11_decode at h
  refine ww_aload_n 0 X dX11_decode_0 0 rfl rfl ?_
  refine ww_iload_n 1 X dX11_decode_1 1 rfl rfl ?_
  obtain ⟨_, f2, h⟩ := bO_some h
  obtain ⟨v2, M2, e2, h⟩ := bP_some h
  refine ww_callVI0 2 X dX11_decode_2 mY_X11_isRow mL_X11_123 (rcv_spec f2) ⟨_, _, rfl⟩ (by decide) (As := [.int l1]) (rest := []) rfl rfl ⟨Nat.le_of_ble_eq_true rfl, Nat.le_of_ble_eq_true rfl⟩ (Nat.le_of_ble_eq_true rfl) (fun l D A => c_X11_isRow l D A e2) ?_
  refine ww_if_ne 5 11 X dX11_decode_5 (by decide) (fun q => ?_) (fun q => ?_)
  · replace h := (if_neg q).symm.trans h
    refine ww_aload_n 11 X dX11_decode_11 0 rfl rfl ?_
    obtain ⟨v12, e12, h⟩ := bO_some h
    refine ww_getR 12 X dX11_decode_12 fG_X11_11 e12 ?_
    refine ww_iload_n 15 X dX11_decode_15 1 rfl rfl ?_
    obtain ⟨v16, e16, h⟩ := bO_some h
    refine ww_aald4 16 X dX11_decode_16 e16 ?_
    refine ww_iconst 17 X (v := (0 : Int32)) dX11_decode_17 (by decide) ?_
    refine ww_aload_n 18 X dX11_decode_18 0 rfl rfl ?_
    obtain ⟨v19, e19, h⟩ := bO_some h
    refine ww_getR 19 X dX11_decode_19 fG_X11_11 e19 ?_
    refine ww_iload_n 22 X dX11_decode_22 1 rfl rfl ?_
    obtain ⟨v23, e23, h⟩ := bO_some h
    refine ww_aald4 23 X dX11_decode_23 e23 ?_
    obtain ⟨v24, e24, h⟩ := bO_some h
    refine ww_getI 24 X dX11_decode_24 fG_X11_113 e24 ?_
    obtain ⟨v27, M27, e27, h⟩ := bP_some h
    refine ww_callSI0 27 X dX11_decode_27 mY_X0_letterFault mL_X11_209 (As := [.ref v16, .int (0 : Int32), .int v24]) (rest := []) rfl rfl ⟨Nat.le_of_ble_eq_true rfl, Nat.le_of_ble_eq_true rfl⟩ (Nat.le_of_ble_eq_true rfl) (fun l D A => c_X0_letterFault l D A e27) ?_
    refine ww_istore_n 30 X dX11_decode_30 (lv' := [(0, .ref l0), (1, .int l1), (2, .int v27)]) rfl (by decide) [1, 2, 0] rfl ?_
    refine ww_iload_n 31 X dX11_decode_31 2 rfl rfl ?_
    refine ww_iconst 32 X (v := (-1 : Int32)) dX11_decode_32 (by decide) ?_
    refine ww_icmp_eq 33 41 X dX11_decode_33 (by decide) (fun q => ?_) (fun q => ?_)
    · replace h := (if_pos q).symm.trans h
      refine ww_aload_n 41 X dX11_decode_41 0 rfl rfl ?_
      obtain ⟨v42, e42, h⟩ := bO_some h
      refine ww_getR 42 X dX11_decode_42 fG_X11_22 e42 ?_
      obtain ⟨_, f45, h⟩ := bO_some h
      obtain ⟨M45, e45, h⟩ := bO_some h
      refine ww_callVV0 45 X dX11_decode_45 mY_X0_clear mL_X11_131 (rcv_spec f45) ⟨_, _, rfl⟩ (by decide) (As := []) (rest := []) rfl rfl ⟨Nat.le_of_ble_eq_true rfl, Nat.le_of_ble_eq_true rfl⟩ (Nat.le_of_ble_eq_true rfl) (fun l D A => c_X0_clear l D A e45) ?_
      refine ww_aload_n 48 X dX11_decode_48 0 rfl rfl ?_
      obtain ⟨v49, e49, h⟩ := bO_some h
      refine ww_getR 49 X dX11_decode_49 fG_X11_22 e49 ?_
      refine ww_aload_n 52 X dX11_decode_52 0 rfl rfl ?_
      obtain ⟨v53, e53, h⟩ := bO_some h
      refine ww_getR 53 X dX11_decode_53 fG_X11_11 e53 ?_
      refine ww_iload_n 56 X dX11_decode_56 1 rfl rfl ?_
      obtain ⟨v57, e57, h⟩ := bO_some h
      refine ww_aald4 57 X dX11_decode_57 e57 ?_
      refine ww_iconst 58 X (v := (0 : Int32)) dX11_decode_58 (by decide) ?_
      refine ww_aload_n 59 X dX11_decode_59 0 rfl rfl ?_
      obtain ⟨v60, e60, h⟩ := bO_some h
      refine ww_getR 60 X dX11_decode_60 fG_X11_11 e60 ?_
      refine ww_iload_n 63 X dX11_decode_63 1 rfl rfl ?_
      obtain ⟨v64, e64, h⟩ := bO_some h
      refine ww_aald4 64 X dX11_decode_64 e64 ?_
      obtain ⟨v65, e65, h⟩ := bO_some h
      refine ww_getI 65 X dX11_decode_65 fG_X11_113 e65 ?_
      obtain ⟨_, f68, h⟩ := bO_some h
      obtain ⟨M68, e68, h⟩ := bO_some h
      refine ww_callVV0 68 X dX11_decode_68 mY_X0_putUnlettered mL_X11_212 (rcv_spec f68) ⟨_, _, rfl⟩ (by decide) (As := [.ref v57, .int (0 : Int32), .int v65]) (rest := []) rfl rfl ⟨Nat.le_of_ble_eq_true rfl, Nat.le_of_ble_eq_true rfl⟩ (Nat.le_of_ble_eq_true rfl) (fun l D A => c_X0_putUnlettered l D A e68) ?_
      refine ww_aload_n 71 X dX11_decode_71 0 rfl rfl ?_
      obtain ⟨v72, e72, h⟩ := bO_some h
      refine ww_getR 72 X dX11_decode_72 fG_X11_22 e72 ?_
      obtain ⟨v75, e75, h⟩ := bO_some h
      refine ww_getI 75 X dX11_decode_75 fG_X11_113 e75 ?_
      exact ww_iretE 78 X hQ dX11_decode_78 h
    · replace h := (if_neg q).symm.trans h
      refine ww_bipush 36 X (v := (-100 : Int32)) dX11_decode_36 (by decide) ?_
      refine ww_iload_n 38 X dX11_decode_38 2 rfl rfl ?_
      refine ww_isub 39 X dX11_decode_39 ?_
      exact ww_iretE 40 X hQ dX11_decode_40 h
  · replace h := (if_pos q).symm.trans h
    refine ww_bipush 8 X (v := (-2 : Int32)) dX11_decode_8 (by decide) ?_
    exact ww_iretE 10 X hQ dX11_decode_10 h
theorem c_X11_decode {G : mG} {F sz : Nat} {r0 : Int32} {M0 : mM} (l : Launch) (D : mD) (A : Nat → Prop) {l0 : Nat} {l1 : Int32} {M : mM} (h : P_X11_decode G F l0 l1 M = some (r0, M0)) : mMetI l D G A yX11_decode cX11_decode 3 (some .int) 2 47 0 0 [.ref l0, .int l1] M sz r0 M0 sz := mMetI_of l D G A (by decide) (Nat.le_of_ble_eq_true rfl) (fun x X hQ => wP_X11_decode X hQ h)
/-! SealedTokens.hash(II)I -/
theorem dX11_hash_0 : decode cX11_hash 0 = .ok (.iload_n 1, 1) := by decide +kernel
theorem dX11_hash_1 : decode cX11_hash 1 = .ok (.sipush 256, 3) := by decide +kernel
theorem dX11_hash_4 : decode cX11_hash 4 = .ok (.if_icmp .eq 10, 3) := by decide +kernel
theorem dX11_hash_7 : decode cX11_hash 7 = .ok (.iload_n 1, 1) := by decide +kernel
theorem dX11_hash_8 : decode cX11_hash 8 = .ok (.sipush 512, 3) := by decide +kernel
theorem dX11_hash_11 : decode cX11_hash 11 = .ok (.if_icmp .ne 11, 3) := by decide +kernel
theorem dX11_hash_14 : decode cX11_hash 14 = .ok (.aload_n 0, 1) := by decide +kernel
theorem dX11_hash_15 : decode cX11_hash 15 = .ok (.iload_n 2, 1) := by decide +kernel
theorem dX11_hash_16 : decode cX11_hash 16 = .ok (.invokevirtual 123, 3) := by decide +kernel
theorem dX11_hash_19 : decode cX11_hash 19 = .ok (.ifCond .ne 6, 3) := by decide +kernel
theorem dX11_hash_22 : decode cX11_hash 22 = .ok (.bipush (-2), 2) := by decide +kernel
theorem dX11_hash_24 : decode cX11_hash 24 = .ok (.ireturn, 1) := by decide +kernel
theorem dX11_hash_25 : decode cX11_hash 25 = .ok (.aload_n 0, 1) := by decide +kernel
theorem dX11_hash_26 : decode cX11_hash 26 = .ok (.getfield 70, 3) := by decide +kernel
theorem dX11_hash_29 : decode cX11_hash 29 = .ok (.iload_n 1, 1) := by decide +kernel
theorem dX11_hash_30 : decode cX11_hash 30 = .ok (.invokevirtual 215, 3) := by decide +kernel
theorem dX11_hash_33 : decode cX11_hash 33 = .ok (.aload_n 0, 1) := by decide +kernel
theorem dX11_hash_34 : decode cX11_hash 34 = .ok (.getfield 70, 3) := by decide +kernel
theorem dX11_hash_37 : decode cX11_hash 37 = .ok (.aload_n 0, 1) := by decide +kernel
theorem dX11_hash_38 : decode cX11_hash 38 = .ok (.getfield 11, 3) := by decide +kernel
theorem dX11_hash_41 : decode cX11_hash 41 = .ok (.iload_n 2, 1) := by decide +kernel
theorem dX11_hash_42 : decode cX11_hash 42 = .ok (.aaload, 1) := by decide +kernel
theorem dX11_hash_43 : decode cX11_hash 43 = .ok (.iconst 0, 1) := by decide +kernel
theorem dX11_hash_44 : decode cX11_hash 44 = .ok (.aload_n 0, 1) := by decide +kernel
theorem dX11_hash_45 : decode cX11_hash 45 = .ok (.getfield 11, 3) := by decide +kernel
theorem dX11_hash_48 : decode cX11_hash 48 = .ok (.iload_n 2, 1) := by decide +kernel
theorem dX11_hash_49 : decode cX11_hash 49 = .ok (.aaload, 1) := by decide +kernel
theorem dX11_hash_50 : decode cX11_hash 50 = .ok (.getfield 113, 3) := by decide +kernel
theorem dX11_hash_53 : decode cX11_hash 53 = .ok (.invokevirtual 217, 3) := by decide +kernel
theorem dX11_hash_56 : decode cX11_hash 56 = .ok (.aload_n 0, 1) := by decide +kernel
theorem dX11_hash_57 : decode cX11_hash 57 = .ok (.getfield 22, 3) := by decide +kernel
theorem dX11_hash_60 : decode cX11_hash 60 = .ok (.invokevirtual 131, 3) := by decide +kernel
theorem dX11_hash_63 : decode cX11_hash 63 = .ok (.aload_n 0, 1) := by decide +kernel
theorem dX11_hash_64 : decode cX11_hash 64 = .ok (.getfield 70, 3) := by decide +kernel
theorem dX11_hash_67 : decode cX11_hash 67 = .ok (.aload_n 0, 1) := by decide +kernel
theorem dX11_hash_68 : decode cX11_hash 68 = .ok (.getfield 22, 3) := by decide +kernel
theorem dX11_hash_71 : decode cX11_hash 71 = .ok (.invokevirtual 220, 3) := by decide +kernel
theorem dX11_hash_74 : decode cX11_hash 74 = .ok (.aload_n 0, 1) := by decide +kernel
theorem dX11_hash_75 : decode cX11_hash 75 = .ok (.getfield 22, 3) := by decide +kernel
theorem dX11_hash_78 : decode cX11_hash 78 = .ok (.getfield 113, 3) := by decide +kernel
theorem dX11_hash_81 : decode cX11_hash 81 = .ok (.ireturn, 1) := by decide +kernel
abbrev rmX11_hash : Room := { frames := 3, cells := 0, slots := 0, locals := 91 }
set_option maxHeartbeats 4000000 in
set_option maxRecDepth 100000 in
theorem wB_X11_hash_14 {G : mG} {F : Nat} {x : mXT} {sz : Nat} {r0 : Int32} {M0 : mM} (X : mCX G RX11 cX11_hash 3 (some .int) "hash" rmX11_hash x) (hQ : mQI x r0 M0 (sz, 0, 0)) {l0 : Nat} {l1 : Int32} {l2 : Int32} {M : mM} (h : B_X11_hash_14 G F l0 l1 l2 M = some (r0, M0)) : WW x (sz, 0, 0) M 14 [(0, .ref l0), (1, .int l1), (2, .int l2)] [] := by
  unfold B_X11_hash_14 at h
  refine ww_aload_n 14 X dX11_hash_14 0 rfl rfl ?_
  refine ww_iload_n 15 X dX11_hash_15 2 rfl rfl ?_
  obtain ⟨_, f16, h⟩ := bO_some h
  obtain ⟨v16, M16, e16, h⟩ := bP_some h
  refine ww_callVI0 16 X dX11_hash_16 mY_X11_isRow mL_X11_123 (rcv_spec f16) ⟨_, _, rfl⟩ (by decide) (As := [.int l2]) (rest := []) rfl rfl ⟨Nat.le_of_ble_eq_true rfl, Nat.le_of_ble_eq_true rfl⟩ (Nat.le_of_ble_eq_true rfl) (fun l D A => c_X11_isRow l D A e16) ?_
  refine ww_if_ne 19 25 X dX11_hash_19 (by decide) (fun q => ?_) (fun q => ?_)
  · replace h := (if_neg q).symm.trans h
    refine ww_aload_n 25 X dX11_hash_25 0 rfl rfl ?_
    obtain ⟨v26, e26, h⟩ := bO_some h
    refine ww_getR 26 X dX11_hash_26 fG_X11_70 e26 ?_
    refine ww_iload_n 29 X dX11_hash_29 1 rfl rfl ?_
    obtain ⟨_, f30, h⟩ := bO_some h
    obtain ⟨M30, e30, h⟩ := bO_some h
    refine ww_callVV0 30 X dX11_hash_30 mY_X4_start mL_X11_215 (rcv_spec f30) ⟨_, _, rfl⟩ (by decide) (As := [.int l1]) (rest := []) rfl rfl ⟨Nat.le_of_ble_eq_true rfl, Nat.le_of_ble_eq_true rfl⟩ (Nat.le_of_ble_eq_true rfl) (fun l D A => c_X4_start l D A e30) ?_
    refine ww_aload_n 33 X dX11_hash_33 0 rfl rfl ?_
    obtain ⟨v34, e34, h⟩ := bO_some h
    refine ww_getR 34 X dX11_hash_34 fG_X11_70 e34 ?_
    refine ww_aload_n 37 X dX11_hash_37 0 rfl rfl ?_
    obtain ⟨v38, e38, h⟩ := bO_some h
    refine ww_getR 38 X dX11_hash_38 fG_X11_11 e38 ?_
    refine ww_iload_n 41 X dX11_hash_41 2 rfl rfl ?_
    obtain ⟨v42, e42, h⟩ := bO_some h
    refine ww_aald4 42 X dX11_hash_42 e42 ?_
    refine ww_iconst 43 X (v := (0 : Int32)) dX11_hash_43 (by decide) ?_
    refine ww_aload_n 44 X dX11_hash_44 0 rfl rfl ?_
    obtain ⟨v45, e45, h⟩ := bO_some h
    refine ww_getR 45 X dX11_hash_45 fG_X11_11 e45 ?_
    refine ww_iload_n 48 X dX11_hash_48 2 rfl rfl ?_
    obtain ⟨v49, e49, h⟩ := bO_some h
    refine ww_aald4 49 X dX11_hash_49 e49 ?_
    obtain ⟨v50, e50, h⟩ := bO_some h
    refine ww_getI 50 X dX11_hash_50 fG_X11_113 e50 ?_
    obtain ⟨_, f53, h⟩ := bO_some h
    obtain ⟨M53, e53, h⟩ := bO_some h
    refine ww_callVV0 53 X dX11_hash_53 mY_X4_add mL_X11_217 (rcv_spec f53) ⟨_, _, rfl⟩ (by decide) (As := [.ref v42, .int (0 : Int32), .int v50]) (rest := []) rfl rfl ⟨Nat.le_of_ble_eq_true rfl, Nat.le_of_ble_eq_true rfl⟩ (Nat.le_of_ble_eq_true rfl) (fun l D A => c_X4_add l D A e53) ?_
    refine ww_aload_n 56 X dX11_hash_56 0 rfl rfl ?_
    obtain ⟨v57, e57, h⟩ := bO_some h
    refine ww_getR 57 X dX11_hash_57 fG_X11_22 e57 ?_
    obtain ⟨_, f60, h⟩ := bO_some h
    obtain ⟨M60, e60, h⟩ := bO_some h
    refine ww_callVV0 60 X dX11_hash_60 mY_X0_clear mL_X11_131 (rcv_spec f60) ⟨_, _, rfl⟩ (by decide) (As := []) (rest := []) rfl rfl ⟨Nat.le_of_ble_eq_true rfl, Nat.le_of_ble_eq_true rfl⟩ (Nat.le_of_ble_eq_true rfl) (fun l D A => c_X0_clear l D A e60) ?_
    refine ww_aload_n 63 X dX11_hash_63 0 rfl rfl ?_
    obtain ⟨v64, e64, h⟩ := bO_some h
    refine ww_getR 64 X dX11_hash_64 fG_X11_70 e64 ?_
    refine ww_aload_n 67 X dX11_hash_67 0 rfl rfl ?_
    obtain ⟨v68, e68, h⟩ := bO_some h
    refine ww_getR 68 X dX11_hash_68 fG_X11_22 e68 ?_
    obtain ⟨_, f71, h⟩ := bO_some h
    obtain ⟨M71, e71, h⟩ := bO_some h
    refine ww_callVV0 71 X dX11_hash_71 mY_X4_finish mL_X11_220 (rcv_spec f71) ⟨_, _, rfl⟩ (by decide) (As := [.ref v68]) (rest := []) rfl rfl ⟨Nat.le_of_ble_eq_true rfl, Nat.le_of_ble_eq_true rfl⟩ (Nat.le_of_ble_eq_true rfl) (fun l D A => c_X4_finish l D A e71) ?_
    refine ww_aload_n 74 X dX11_hash_74 0 rfl rfl ?_
    obtain ⟨v75, e75, h⟩ := bO_some h
    refine ww_getR 75 X dX11_hash_75 fG_X11_22 e75 ?_
    obtain ⟨v78, e78, h⟩ := bO_some h
    refine ww_getI 78 X dX11_hash_78 fG_X11_113 e78 ?_
    exact ww_iretE 81 X hQ dX11_hash_81 h
  · replace h := (if_pos q).symm.trans h
    refine ww_bipush 22 X (v := (-2 : Int32)) dX11_hash_22 (by decide) ?_
    exact ww_iretE 24 X hQ dX11_hash_24 h
set_option maxHeartbeats 4000000 in
set_option maxRecDepth 100000 in
theorem wP_X11_hash {G : mG} {F : Nat} {x : mXT} {sz : Nat} {r0 : Int32} {M0 : mM} (X : mCX G RX11 cX11_hash 3 (some .int) "hash" rmX11_hash x) (hQ : mQI x r0 M0 (sz, 0, 0)) {l0 : Nat} {l1 : Int32} {l2 : Int32} {M : mM} (h : P_X11_hash G F l0 l1 l2 M = some (r0, M0)) : WW x (sz, 0, 0) M 0 [(0, .ref l0), (1, .int l1), (2, .int l2)] [] := by
  unfold P_X11_hash at h
  refine ww_iload_n 0 X dX11_hash_0 1 rfl rfl ?_
  refine ww_sipush 1 X (v := (256 : Int32)) dX11_hash_1 (by decide) ?_
  refine ww_icmp_eq 4 14 X dX11_hash_4 (by decide) (fun q => ?_) (fun q => ?_)
  · replace h := (if_pos q).symm.trans h
    exact (wB_X11_hash_14 X hQ h)
  · replace h := (if_neg q).symm.trans h
    refine ww_iload_n 7 X dX11_hash_7 1 rfl rfl ?_
    refine ww_sipush 8 X (v := (512 : Int32)) dX11_hash_8 (by decide) ?_
    refine ww_icmp_ne 11 22 X dX11_hash_11 (by decide) (fun q => ?_) (fun q => ?_)
    · replace h := (if_neg q).symm.trans h
      refine ww_bipush 22 X (v := (-2 : Int32)) dX11_hash_22 (by decide) ?_
      exact ww_iretE 24 X hQ dX11_hash_24 h
    · replace h := (if_pos q).symm.trans h
      exact (wB_X11_hash_14 X hQ h)
theorem c_X11_hash {G : mG} {F sz : Nat} {r0 : Int32} {M0 : mM} (l : Launch) (D : mD) (A : Nat → Prop) {l0 : Nat} {l1 : Int32} {l2 : Int32} {M : mM} (h : P_X11_hash G F l0 l1 l2 M = some (r0, M0)) : mMetI l D G A yX11_hash cX11_hash 3 (some .int) 3 91 0 0 [.ref l0, .int l1, .int l2] M sz r0 M0 sz := mMetI_of l D G A (by decide) (Nat.le_of_ble_eq_true rfl) (fun x X hQ => wP_X11_hash X hQ h)
/-! SealedTokens.code(III)I -/
theorem dX11_code_0 : decode cX11_code 0 = .ok (.iload_n 1, 1) := by decide +kernel
theorem dX11_code_1 : decode cX11_code 1 = .ok (.sipush 256, 3) := by decide +kernel
theorem dX11_code_4 : decode cX11_code 4 = .ok (.if_icmp .eq 10, 3) := by decide +kernel
theorem dX11_code_7 : decode cX11_code 7 = .ok (.iload_n 1, 1) := by decide +kernel
theorem dX11_code_8 : decode cX11_code 8 = .ok (.sipush 512, 3) := by decide +kernel
theorem dX11_code_11 : decode cX11_code 11 = .ok (.if_icmp .ne 19, 3) := by decide +kernel
theorem dX11_code_14 : decode cX11_code 14 = .ok (.aload_n 0, 1) := by decide +kernel
theorem dX11_code_15 : decode cX11_code 15 = .ok (.iload_n 2, 1) := by decide +kernel
theorem dX11_code_16 : decode cX11_code 16 = .ok (.invokevirtual 123, 3) := by decide +kernel
theorem dX11_code_19 : decode cX11_code 19 = .ok (.ifCond .eq 11, 3) := by decide +kernel
theorem dX11_code_22 : decode cX11_code 22 = .ok (.aload_n 0, 1) := by decide +kernel
theorem dX11_code_23 : decode cX11_code 23 = .ok (.iload_n 3, 1) := by decide +kernel
theorem dX11_code_24 : decode cX11_code 24 = .ok (.invokevirtual 123, 3) := by decide +kernel
theorem dX11_code_27 : decode cX11_code 27 = .ok (.ifCond .ne 6, 3) := by decide +kernel
theorem dX11_code_30 : decode cX11_code 30 = .ok (.bipush (-2), 2) := by decide +kernel
theorem dX11_code_32 : decode cX11_code 32 = .ok (.ireturn, 1) := by decide +kernel
theorem dX11_code_33 : decode cX11_code 33 = .ok (.aload_n 0, 1) := by decide +kernel
theorem dX11_code_34 : decode cX11_code 34 = .ok (.getfield 70, 3) := by decide +kernel
theorem dX11_code_37 : decode cX11_code 37 = .ok (.iload_n 1, 1) := by decide +kernel
theorem dX11_code_38 : decode cX11_code 38 = .ok (.aload_n 0, 1) := by decide +kernel
theorem dX11_code_39 : decode cX11_code 39 = .ok (.getfield 11, 3) := by decide +kernel
theorem dX11_code_42 : decode cX11_code 42 = .ok (.iload_n 2, 1) := by decide +kernel
theorem dX11_code_43 : decode cX11_code 43 = .ok (.aaload, 1) := by decide +kernel
theorem dX11_code_44 : decode cX11_code 44 = .ok (.iconst 0, 1) := by decide +kernel
theorem dX11_code_45 : decode cX11_code 45 = .ok (.aload_n 0, 1) := by decide +kernel
theorem dX11_code_46 : decode cX11_code 46 = .ok (.getfield 11, 3) := by decide +kernel
theorem dX11_code_49 : decode cX11_code 49 = .ok (.iload_n 2, 1) := by decide +kernel
theorem dX11_code_50 : decode cX11_code 50 = .ok (.aaload, 1) := by decide +kernel
theorem dX11_code_51 : decode cX11_code 51 = .ok (.getfield 113, 3) := by decide +kernel
theorem dX11_code_54 : decode cX11_code 54 = .ok (.invokevirtual 223, 3) := by decide +kernel
theorem dX11_code_57 : decode cX11_code 57 = .ok (.aload_n 0, 1) := by decide +kernel
theorem dX11_code_58 : decode cX11_code 58 = .ok (.getfield 70, 3) := by decide +kernel
theorem dX11_code_61 : decode cX11_code 61 = .ok (.aload_n 0, 1) := by decide +kernel
theorem dX11_code_62 : decode cX11_code 62 = .ok (.getfield 11, 3) := by decide +kernel
theorem dX11_code_65 : decode cX11_code 65 = .ok (.iload_n 3, 1) := by decide +kernel
theorem dX11_code_66 : decode cX11_code 66 = .ok (.aaload, 1) := by decide +kernel
theorem dX11_code_67 : decode cX11_code 67 = .ok (.iconst 0, 1) := by decide +kernel
theorem dX11_code_68 : decode cX11_code 68 = .ok (.aload_n 0, 1) := by decide +kernel
theorem dX11_code_69 : decode cX11_code 69 = .ok (.getfield 11, 3) := by decide +kernel
theorem dX11_code_72 : decode cX11_code 72 = .ok (.iload_n 3, 1) := by decide +kernel
theorem dX11_code_73 : decode cX11_code 73 = .ok (.aaload, 1) := by decide +kernel
theorem dX11_code_74 : decode cX11_code 74 = .ok (.getfield 113, 3) := by decide +kernel
theorem dX11_code_77 : decode cX11_code 77 = .ok (.invokevirtual 217, 3) := by decide +kernel
theorem dX11_code_80 : decode cX11_code 80 = .ok (.aload_n 0, 1) := by decide +kernel
theorem dX11_code_81 : decode cX11_code 81 = .ok (.getfield 22, 3) := by decide +kernel
theorem dX11_code_84 : decode cX11_code 84 = .ok (.invokevirtual 131, 3) := by decide +kernel
theorem dX11_code_87 : decode cX11_code 87 = .ok (.aload_n 0, 1) := by decide +kernel
theorem dX11_code_88 : decode cX11_code 88 = .ok (.getfield 70, 3) := by decide +kernel
theorem dX11_code_91 : decode cX11_code 91 = .ok (.aload_n 0, 1) := by decide +kernel
theorem dX11_code_92 : decode cX11_code 92 = .ok (.getfield 22, 3) := by decide +kernel
theorem dX11_code_95 : decode cX11_code 95 = .ok (.invokevirtual 227, 3) := by decide +kernel
theorem dX11_code_98 : decode cX11_code 98 = .ok (.aload_n 0, 1) := by decide +kernel
theorem dX11_code_99 : decode cX11_code 99 = .ok (.getfield 22, 3) := by decide +kernel
theorem dX11_code_102 : decode cX11_code 102 = .ok (.getfield 113, 3) := by decide +kernel
theorem dX11_code_105 : decode cX11_code 105 = .ok (.ireturn, 1) := by decide +kernel
abbrev rmX11_code : Room := { frames := 4, cells := 0, slots := 0, locals := 117 }
set_option maxHeartbeats 4000000 in
set_option maxRecDepth 100000 in
theorem wB_X11_code_14 {G : mG} {F : Nat} {x : mXT} {sz : Nat} {r0 : Int32} {M0 : mM} (X : mCX G RX11 cX11_code 4 (some .int) "code" rmX11_code x) (hQ : mQI x r0 M0 (sz, 0, 0)) {l0 : Nat} {l1 : Int32} {l2 : Int32} {l3 : Int32} {M : mM} (h : B_X11_code_14 G F l0 l1 l2 l3 M = some (r0, M0)) : WW x (sz, 0, 0) M 14 [(0, .ref l0), (1, .int l1), (2, .int l2), (3, .int l3)] [] := by
  unfold B_X11_code_14 at h
  refine ww_aload_n 14 X dX11_code_14 0 rfl rfl ?_
  refine ww_iload_n 15 X dX11_code_15 2 rfl rfl ?_
  obtain ⟨_, f16, h⟩ := bO_some h
  obtain ⟨v16, M16, e16, h⟩ := bP_some h
  refine ww_callVI0 16 X dX11_code_16 mY_X11_isRow mL_X11_123 (rcv_spec f16) ⟨_, _, rfl⟩ (by decide) (As := [.int l2]) (rest := []) rfl rfl ⟨Nat.le_of_ble_eq_true rfl, Nat.le_of_ble_eq_true rfl⟩ (Nat.le_of_ble_eq_true rfl) (fun l D A => c_X11_isRow l D A e16) ?_
  refine ww_if_eq 19 30 X dX11_code_19 (by decide) (fun q => ?_) (fun q => ?_)
  · replace h := (if_pos q).symm.trans h
    refine ww_bipush 30 X (v := (-2 : Int32)) dX11_code_30 (by decide) ?_
    exact ww_iretE 32 X hQ dX11_code_32 h
  · replace h := (if_neg q).symm.trans h
    refine ww_aload_n 22 X dX11_code_22 0 rfl rfl ?_
    refine ww_iload_n 23 X dX11_code_23 3 rfl rfl ?_
    obtain ⟨_, f24, h⟩ := bO_some h
    obtain ⟨v24, M24, e24, h⟩ := bP_some h
    refine ww_callVI0 24 X dX11_code_24 mY_X11_isRow mL_X11_123 (rcv_spec f24) ⟨_, _, rfl⟩ (by decide) (As := [.int l3]) (rest := []) rfl rfl ⟨Nat.le_of_ble_eq_true rfl, Nat.le_of_ble_eq_true rfl⟩ (Nat.le_of_ble_eq_true rfl) (fun l D A => c_X11_isRow l D A e24) ?_
    refine ww_if_ne 27 33 X dX11_code_27 (by decide) (fun q => ?_) (fun q => ?_)
    · replace h := (if_neg q).symm.trans h
      refine ww_aload_n 33 X dX11_code_33 0 rfl rfl ?_
      obtain ⟨v34, e34, h⟩ := bO_some h
      refine ww_getR 34 X dX11_code_34 fG_X11_70 e34 ?_
      refine ww_iload_n 37 X dX11_code_37 1 rfl rfl ?_
      refine ww_aload_n 38 X dX11_code_38 0 rfl rfl ?_
      obtain ⟨v39, e39, h⟩ := bO_some h
      refine ww_getR 39 X dX11_code_39 fG_X11_11 e39 ?_
      refine ww_iload_n 42 X dX11_code_42 2 rfl rfl ?_
      obtain ⟨v43, e43, h⟩ := bO_some h
      refine ww_aald4 43 X dX11_code_43 e43 ?_
      refine ww_iconst 44 X (v := (0 : Int32)) dX11_code_44 (by decide) ?_
      refine ww_aload_n 45 X dX11_code_45 0 rfl rfl ?_
      obtain ⟨v46, e46, h⟩ := bO_some h
      refine ww_getR 46 X dX11_code_46 fG_X11_11 e46 ?_
      refine ww_iload_n 49 X dX11_code_49 2 rfl rfl ?_
      obtain ⟨v50, e50, h⟩ := bO_some h
      refine ww_aald4 50 X dX11_code_50 e50 ?_
      obtain ⟨v51, e51, h⟩ := bO_some h
      refine ww_getI 51 X dX11_code_51 fG_X11_113 e51 ?_
      obtain ⟨_, f54, h⟩ := bO_some h
      obtain ⟨M54, e54, h⟩ := bO_some h
      refine ww_callVV0 54 X dX11_code_54 mY_X4_startCode mL_X11_223 (rcv_spec f54) ⟨_, _, rfl⟩ (by decide) (As := [.int l1, .ref v43, .int (0 : Int32), .int v51]) (rest := []) rfl rfl ⟨Nat.le_of_ble_eq_true rfl, Nat.le_of_ble_eq_true rfl⟩ (Nat.le_of_ble_eq_true rfl) (fun l D A => c_X4_startCode l D A e54) ?_
      refine ww_aload_n 57 X dX11_code_57 0 rfl rfl ?_
      obtain ⟨v58, e58, h⟩ := bO_some h
      refine ww_getR 58 X dX11_code_58 fG_X11_70 e58 ?_
      refine ww_aload_n 61 X dX11_code_61 0 rfl rfl ?_
      obtain ⟨v62, e62, h⟩ := bO_some h
      refine ww_getR 62 X dX11_code_62 fG_X11_11 e62 ?_
      refine ww_iload_n 65 X dX11_code_65 3 rfl rfl ?_
      obtain ⟨v66, e66, h⟩ := bO_some h
      refine ww_aald4 66 X dX11_code_66 e66 ?_
      refine ww_iconst 67 X (v := (0 : Int32)) dX11_code_67 (by decide) ?_
      refine ww_aload_n 68 X dX11_code_68 0 rfl rfl ?_
      obtain ⟨v69, e69, h⟩ := bO_some h
      refine ww_getR 69 X dX11_code_69 fG_X11_11 e69 ?_
      refine ww_iload_n 72 X dX11_code_72 3 rfl rfl ?_
      obtain ⟨v73, e73, h⟩ := bO_some h
      refine ww_aald4 73 X dX11_code_73 e73 ?_
      obtain ⟨v74, e74, h⟩ := bO_some h
      refine ww_getI 74 X dX11_code_74 fG_X11_113 e74 ?_
      obtain ⟨_, f77, h⟩ := bO_some h
      obtain ⟨M77, e77, h⟩ := bO_some h
      refine ww_callVV0 77 X dX11_code_77 mY_X4_add mL_X11_217 (rcv_spec f77) ⟨_, _, rfl⟩ (by decide) (As := [.ref v66, .int (0 : Int32), .int v74]) (rest := []) rfl rfl ⟨Nat.le_of_ble_eq_true rfl, Nat.le_of_ble_eq_true rfl⟩ (Nat.le_of_ble_eq_true rfl) (fun l D A => c_X4_add l D A e77) ?_
      refine ww_aload_n 80 X dX11_code_80 0 rfl rfl ?_
      obtain ⟨v81, e81, h⟩ := bO_some h
      refine ww_getR 81 X dX11_code_81 fG_X11_22 e81 ?_
      obtain ⟨_, f84, h⟩ := bO_some h
      obtain ⟨M84, e84, h⟩ := bO_some h
      refine ww_callVV0 84 X dX11_code_84 mY_X0_clear mL_X11_131 (rcv_spec f84) ⟨_, _, rfl⟩ (by decide) (As := []) (rest := []) rfl rfl ⟨Nat.le_of_ble_eq_true rfl, Nat.le_of_ble_eq_true rfl⟩ (Nat.le_of_ble_eq_true rfl) (fun l D A => c_X0_clear l D A e84) ?_
      refine ww_aload_n 87 X dX11_code_87 0 rfl rfl ?_
      obtain ⟨v88, e88, h⟩ := bO_some h
      refine ww_getR 88 X dX11_code_88 fG_X11_70 e88 ?_
      refine ww_aload_n 91 X dX11_code_91 0 rfl rfl ?_
      obtain ⟨v92, e92, h⟩ := bO_some h
      refine ww_getR 92 X dX11_code_92 fG_X11_22 e92 ?_
      obtain ⟨_, f95, h⟩ := bO_some h
      obtain ⟨M95, e95, h⟩ := bO_some h
      refine ww_callVV0 95 X dX11_code_95 mY_X4_finishCode mL_X11_227 (rcv_spec f95) ⟨_, _, rfl⟩ (by decide) (As := [.ref v92]) (rest := []) rfl rfl ⟨Nat.le_of_ble_eq_true rfl, Nat.le_of_ble_eq_true rfl⟩ (Nat.le_of_ble_eq_true rfl) (fun l D A => c_X4_finishCode l D A e95) ?_
      refine ww_aload_n 98 X dX11_code_98 0 rfl rfl ?_
      obtain ⟨v99, e99, h⟩ := bO_some h
      refine ww_getR 99 X dX11_code_99 fG_X11_22 e99 ?_
      obtain ⟨v102, e102, h⟩ := bO_some h
      refine ww_getI 102 X dX11_code_102 fG_X11_113 e102 ?_
      exact ww_iretE 105 X hQ dX11_code_105 h
    · replace h := (if_pos q).symm.trans h
      refine ww_bipush 30 X (v := (-2 : Int32)) dX11_code_30 (by decide) ?_
      exact ww_iretE 32 X hQ dX11_code_32 h
set_option maxHeartbeats 4000000 in
set_option maxRecDepth 100000 in
theorem wP_X11_code {G : mG} {F : Nat} {x : mXT} {sz : Nat} {r0 : Int32} {M0 : mM} (X : mCX G RX11 cX11_code 4 (some .int) "code" rmX11_code x) (hQ : mQI x r0 M0 (sz, 0, 0)) {l0 : Nat} {l1 : Int32} {l2 : Int32} {l3 : Int32} {M : mM} (h : P_X11_code G F l0 l1 l2 l3 M = some (r0, M0)) : WW x (sz, 0, 0) M 0 [(0, .ref l0), (1, .int l1), (2, .int l2), (3, .int l3)] [] := by
  unfold P_X11_code at h
  refine ww_iload_n 0 X dX11_code_0 1 rfl rfl ?_
  refine ww_sipush 1 X (v := (256 : Int32)) dX11_code_1 (by decide) ?_
  refine ww_icmp_eq 4 14 X dX11_code_4 (by decide) (fun q => ?_) (fun q => ?_)
  · replace h := (if_pos q).symm.trans h
    exact (wB_X11_code_14 X hQ h)
  · replace h := (if_neg q).symm.trans h
    refine ww_iload_n 7 X dX11_code_7 1 rfl rfl ?_
    refine ww_sipush 8 X (v := (512 : Int32)) dX11_code_8 (by decide) ?_
    refine ww_icmp_ne 11 30 X dX11_code_11 (by decide) (fun q => ?_) (fun q => ?_)
    · replace h := (if_neg q).symm.trans h
      refine ww_bipush 30 X (v := (-2 : Int32)) dX11_code_30 (by decide) ?_
      exact ww_iretE 32 X hQ dX11_code_32 h
    · replace h := (if_pos q).symm.trans h
      exact (wB_X11_code_14 X hQ h)
theorem c_X11_code {G : mG} {F sz : Nat} {r0 : Int32} {M0 : mM} (l : Launch) (D : mD) (A : Nat → Prop) {l0 : Nat} {l1 : Int32} {l2 : Int32} {l3 : Int32} {M : mM} (h : P_X11_code G F l0 l1 l2 l3 M = some (r0, M0)) : mMetI l D G A yX11_code cX11_code 4 (some .int) 4 117 0 0 [.ref l0, .int l1, .int l2, .int l3] M sz r0 M0 sz := mMetI_of l D G A (by decide) (Nat.le_of_ble_eq_true rfl) (fun x X hQ => wP_X11_code X hQ h)
/-! SealedTokens.isCipherKey(I)Z -/
theorem dX11_isCipherKey_0 : decode cX11_isCipherKey 0 = .ok (.aload_n 0, 1) := by decide +kernel
theorem dX11_isCipherKey_1 : decode cX11_isCipherKey 1 = .ok (.iload_n 1, 1) := by decide +kernel
theorem dX11_isCipherKey_2 : decode cX11_isCipherKey 2 = .ok (.invokevirtual 123, 3) := by decide +kernel
theorem dX11_isCipherKey_5 : decode cX11_isCipherKey 5 = .ok (.ifCond .eq 35, 3) := by decide +kernel
theorem dX11_isCipherKey_8 : decode cX11_isCipherKey 8 = .ok (.aload_n 0, 1) := by decide +kernel
theorem dX11_isCipherKey_9 : decode cX11_isCipherKey 9 = .ok (.getfield 11, 3) := by decide +kernel
theorem dX11_isCipherKey_12 : decode cX11_isCipherKey 12 = .ok (.iload_n 1, 1) := by decide +kernel
theorem dX11_isCipherKey_13 : decode cX11_isCipherKey 13 = .ok (.aaload, 1) := by decide +kernel
theorem dX11_isCipherKey_14 : decode cX11_isCipherKey 14 = .ok (.getfield 113, 3) := by decide +kernel
theorem dX11_isCipherKey_17 : decode cX11_isCipherKey 17 = .ok (.bipush 16, 2) := by decide +kernel
theorem dX11_isCipherKey_19 : decode cX11_isCipherKey 19 = .ok (.if_icmp .eq 17, 3) := by decide +kernel
theorem dX11_isCipherKey_22 : decode cX11_isCipherKey 22 = .ok (.aload_n 0, 1) := by decide +kernel
theorem dX11_isCipherKey_23 : decode cX11_isCipherKey 23 = .ok (.getfield 11, 3) := by decide +kernel
theorem dX11_isCipherKey_26 : decode cX11_isCipherKey 26 = .ok (.iload_n 1, 1) := by decide +kernel
theorem dX11_isCipherKey_27 : decode cX11_isCipherKey 27 = .ok (.aaload, 1) := by decide +kernel
theorem dX11_isCipherKey_28 : decode cX11_isCipherKey 28 = .ok (.getfield 113, 3) := by decide +kernel
theorem dX11_isCipherKey_31 : decode cX11_isCipherKey 31 = .ok (.bipush 32, 2) := by decide +kernel
theorem dX11_isCipherKey_33 : decode cX11_isCipherKey 33 = .ok (.if_icmp .ne 7, 3) := by decide +kernel
theorem dX11_isCipherKey_36 : decode cX11_isCipherKey 36 = .ok (.iconst 1, 1) := by decide +kernel
theorem dX11_isCipherKey_37 : decode cX11_isCipherKey 37 = .ok (.goto 4, 3) := by decide +kernel
theorem dX11_isCipherKey_40 : decode cX11_isCipherKey 40 = .ok (.iconst 0, 1) := by decide +kernel
theorem dX11_isCipherKey_41 : decode cX11_isCipherKey 41 = .ok (.ireturn, 1) := by decide +kernel
abbrev rmX11_isCipherKey : Room := { frames := 1, cells := 0, slots := 0, locals := 21 }
set_option maxHeartbeats 4000000 in
set_option maxRecDepth 100000 in
theorem wP_X11_isCipherKey {G : mG} {F : Nat} {x : mXT} {sz : Nat} {r0 : Int32} {M0 : mM} (X : mCX G RX11 cX11_isCipherKey 2 (some .boolean) "isCipherKey" rmX11_isCipherKey x) (hQ : mQI x r0 M0 (sz, 0, 0)) {l0 : Nat} {l1 : Int32} {M : mM} (h : P_X11_isCipherKey G F l0 l1 M = some (r0, M0)) : WW x (sz, 0, 0) M 0 [(0, .ref l0), (1, .int l1)] [] := by
  unfold P_X11_isCipherKey at h
  refine ww_aload_n 0 X dX11_isCipherKey_0 0 rfl rfl ?_
  refine ww_iload_n 1 X dX11_isCipherKey_1 1 rfl rfl ?_
  obtain ⟨_, f2, h⟩ := bO_some h
  obtain ⟨v2, M2, e2, h⟩ := bP_some h
  refine ww_callVI0 2 X dX11_isCipherKey_2 mY_X11_isRow mL_X11_123 (rcv_spec f2) ⟨_, _, rfl⟩ (by decide) (As := [.int l1]) (rest := []) rfl rfl ⟨Nat.le_of_ble_eq_true rfl, Nat.le_of_ble_eq_true rfl⟩ (Nat.le_of_ble_eq_true rfl) (fun l D A => c_X11_isRow l D A e2) ?_
  refine ww_if_eq 5 40 X dX11_isCipherKey_5 (by decide) (fun q => ?_) (fun q => ?_)
  · replace h := (if_pos q).symm.trans h
    refine ww_iconst 40 X (v := (0 : Int32)) dX11_isCipherKey_40 (by decide) ?_
    exact ww_zretE 41 X hQ dX11_isCipherKey_41 h
  · replace h := (if_neg q).symm.trans h
    refine ww_aload_n 8 X dX11_isCipherKey_8 0 rfl rfl ?_
    obtain ⟨v9, e9, h⟩ := bO_some h
    refine ww_getR 9 X dX11_isCipherKey_9 fG_X11_11 e9 ?_
    refine ww_iload_n 12 X dX11_isCipherKey_12 1 rfl rfl ?_
    obtain ⟨v13, e13, h⟩ := bO_some h
    refine ww_aald4 13 X dX11_isCipherKey_13 e13 ?_
    obtain ⟨v14, e14, h⟩ := bO_some h
    refine ww_getI 14 X dX11_isCipherKey_14 fG_X11_113 e14 ?_
    refine ww_bipush 17 X (v := (16 : Int32)) dX11_isCipherKey_17 (by decide) ?_
    refine ww_icmp_eq 19 36 X dX11_isCipherKey_19 (by decide) (fun q => ?_) (fun q => ?_)
    · replace h := (if_pos q).symm.trans h
      refine ww_iconst 36 X (v := (1 : Int32)) dX11_isCipherKey_36 (by decide) ?_
      refine ww_goto 37 41 X dX11_isCipherKey_37 (by decide) ?_
      exact ww_zretE 41 X hQ dX11_isCipherKey_41 h
    · replace h := (if_neg q).symm.trans h
      refine ww_aload_n 22 X dX11_isCipherKey_22 0 rfl rfl ?_
      obtain ⟨v23, e23, h⟩ := bO_some h
      refine ww_getR 23 X dX11_isCipherKey_23 fG_X11_11 e23 ?_
      refine ww_iload_n 26 X dX11_isCipherKey_26 1 rfl rfl ?_
      obtain ⟨v27, e27, h⟩ := bO_some h
      refine ww_aald4 27 X dX11_isCipherKey_27 e27 ?_
      obtain ⟨v28, e28, h⟩ := bO_some h
      refine ww_getI 28 X dX11_isCipherKey_28 fG_X11_113 e28 ?_
      refine ww_bipush 31 X (v := (32 : Int32)) dX11_isCipherKey_31 (by decide) ?_
      refine ww_icmp_ne 33 40 X dX11_isCipherKey_33 (by decide) (fun q => ?_) (fun q => ?_)
      · replace h := (if_neg q).symm.trans h
        refine ww_iconst 40 X (v := (0 : Int32)) dX11_isCipherKey_40 (by decide) ?_
        exact ww_zretE 41 X hQ dX11_isCipherKey_41 h
      · replace h := (if_pos q).symm.trans h
        refine ww_iconst 36 X (v := (1 : Int32)) dX11_isCipherKey_36 (by decide) ?_
        refine ww_goto 37 41 X dX11_isCipherKey_37 (by decide) ?_
        exact ww_zretE 41 X hQ dX11_isCipherKey_41 h
theorem c_X11_isCipherKey {G : mG} {F sz : Nat} {r0 : Int32} {M0 : mM} (l : Launch) (D : mD) (A : Nat → Prop) {l0 : Nat} {l1 : Int32} {M : mM} (h : P_X11_isCipherKey G F l0 l1 M = some (r0, M0)) : mMetI l D G A yX11_isCipherKey cX11_isCipherKey 2 (some .boolean) 1 21 0 0 [.ref l0, .int l1] M sz r0 M0 sz := mMetI_of l D G A (by decide) (Nat.le_of_ble_eq_true rfl) (fun x X hQ => wP_X11_isCipherKey X hQ h)
/-! SealedTokens.block(IIZ)I -/
theorem dX11_block_0 : decode cX11_block 0 = .ok (.aload_n 0, 1) := by decide +kernel
theorem dX11_block_1 : decode cX11_block 1 = .ok (.iload_n 1, 1) := by decide +kernel
theorem dX11_block_2 : decode cX11_block 2 = .ok (.invokevirtual 230, 3) := by decide +kernel
theorem dX11_block_5 : decode cX11_block 5 = .ok (.ifCond .eq 25, 3) := by decide +kernel
theorem dX11_block_8 : decode cX11_block 8 = .ok (.aload_n 0, 1) := by decide +kernel
theorem dX11_block_9 : decode cX11_block 9 = .ok (.iload_n 2, 1) := by decide +kernel
theorem dX11_block_10 : decode cX11_block 10 = .ok (.invokevirtual 123, 3) := by decide +kernel
theorem dX11_block_13 : decode cX11_block 13 = .ok (.ifCond .eq 17, 3) := by decide +kernel
theorem dX11_block_16 : decode cX11_block 16 = .ok (.aload_n 0, 1) := by decide +kernel
theorem dX11_block_17 : decode cX11_block 17 = .ok (.getfield 11, 3) := by decide +kernel
theorem dX11_block_20 : decode cX11_block 20 = .ok (.iload_n 2, 1) := by decide +kernel
theorem dX11_block_21 : decode cX11_block 21 = .ok (.aaload, 1) := by decide +kernel
theorem dX11_block_22 : decode cX11_block 22 = .ok (.getfield 113, 3) := by decide +kernel
theorem dX11_block_25 : decode cX11_block 25 = .ok (.bipush 16, 2) := by decide +kernel
theorem dX11_block_27 : decode cX11_block 27 = .ok (.if_icmp .eq 6, 3) := by decide +kernel
theorem dX11_block_30 : decode cX11_block 30 = .ok (.bipush (-2), 2) := by decide +kernel
theorem dX11_block_32 : decode cX11_block 32 = .ok (.ireturn, 1) := by decide +kernel
theorem dX11_block_33 : decode cX11_block 33 = .ok (.aload_n 0, 1) := by decide +kernel
theorem dX11_block_34 : decode cX11_block 34 = .ok (.getfield 77, 3) := by decide +kernel
theorem dX11_block_37 : decode cX11_block 37 = .ok (.aload_n 0, 1) := by decide +kernel
theorem dX11_block_38 : decode cX11_block 38 = .ok (.getfield 11, 3) := by decide +kernel
theorem dX11_block_41 : decode cX11_block 41 = .ok (.iload_n 1, 1) := by decide +kernel
theorem dX11_block_42 : decode cX11_block 42 = .ok (.aaload, 1) := by decide +kernel
theorem dX11_block_43 : decode cX11_block 43 = .ok (.iconst 0, 1) := by decide +kernel
theorem dX11_block_44 : decode cX11_block 44 = .ok (.aload_n 0, 1) := by decide +kernel
theorem dX11_block_45 : decode cX11_block 45 = .ok (.getfield 11, 3) := by decide +kernel
theorem dX11_block_48 : decode cX11_block 48 = .ok (.iload_n 1, 1) := by decide +kernel
theorem dX11_block_49 : decode cX11_block 49 = .ok (.aaload, 1) := by decide +kernel
theorem dX11_block_50 : decode cX11_block 50 = .ok (.getfield 113, 3) := by decide +kernel
theorem dX11_block_53 : decode cX11_block 53 = .ok (.invokevirtual 233, 3) := by decide +kernel
theorem dX11_block_56 : decode cX11_block 56 = .ok (.aload_n 0, 1) := by decide +kernel
theorem dX11_block_57 : decode cX11_block 57 = .ok (.getfield 22, 3) := by decide +kernel
theorem dX11_block_60 : decode cX11_block 60 = .ok (.invokevirtual 131, 3) := by decide +kernel
theorem dX11_block_63 : decode cX11_block 63 = .ok (.aload_n 0, 1) := by decide +kernel
theorem dX11_block_64 : decode cX11_block 64 = .ok (.getfield 77, 3) := by decide +kernel
theorem dX11_block_67 : decode cX11_block 67 = .ok (.aload_n 0, 1) := by decide +kernel
theorem dX11_block_68 : decode cX11_block 68 = .ok (.getfield 11, 3) := by decide +kernel
theorem dX11_block_71 : decode cX11_block 71 = .ok (.iload_n 2, 1) := by decide +kernel
theorem dX11_block_72 : decode cX11_block 72 = .ok (.aaload, 1) := by decide +kernel
theorem dX11_block_73 : decode cX11_block 73 = .ok (.iload_n 3, 1) := by decide +kernel
theorem dX11_block_74 : decode cX11_block 74 = .ok (.aload_n 0, 1) := by decide +kernel
theorem dX11_block_75 : decode cX11_block 75 = .ok (.getfield 22, 3) := by decide +kernel
theorem dX11_block_78 : decode cX11_block 78 = .ok (.invokevirtual 235, 3) := by decide +kernel
theorem dX11_block_81 : decode cX11_block 81 = .ok (.aload_n 0, 1) := by decide +kernel
theorem dX11_block_82 : decode cX11_block 82 = .ok (.getfield 22, 3) := by decide +kernel
theorem dX11_block_85 : decode cX11_block 85 = .ok (.getfield 113, 3) := by decide +kernel
theorem dX11_block_88 : decode cX11_block 88 = .ok (.ireturn, 1) := by decide +kernel
abbrev rmX11_block : Room := { frames := 5, cells := 0, slots := 0, locals := 113 }
set_option maxHeartbeats 4000000 in
set_option maxRecDepth 100000 in
theorem wP_X11_block {G : mG} {F : Nat} {x : mXT} {sz : Nat} {r0 : Int32} {M0 : mM} (X : mCX G RX11 cX11_block 4 (some .int) "block" rmX11_block x) (hQ : mQI x r0 M0 (sz, 0, 0)) {l0 : Nat} {l1 : Int32} {l2 : Int32} {l3 : Int32} {M : mM} (h : P_X11_block G F l0 l1 l2 l3 M = some (r0, M0)) : WW x (sz, 0, 0) M 0 [(0, .ref l0), (1, .int l1), (2, .int l2), (3, .int l3)] [] := by
  unfold P_X11_block at h
  refine ww_aload_n 0 X dX11_block_0 0 rfl rfl ?_
  refine ww_iload_n 1 X dX11_block_1 1 rfl rfl ?_
  obtain ⟨_, f2, h⟩ := bO_some h
  obtain ⟨v2, M2, e2, h⟩ := bP_some h
  refine ww_callVI0 2 X dX11_block_2 mY_X11_isCipherKey mL_X11_230 (rcv_spec f2) ⟨_, _, rfl⟩ (by decide) (As := [.int l1]) (rest := []) rfl rfl ⟨Nat.le_of_ble_eq_true rfl, Nat.le_of_ble_eq_true rfl⟩ (Nat.le_of_ble_eq_true rfl) (fun l D A => c_X11_isCipherKey l D A e2) ?_
  refine ww_if_eq 5 30 X dX11_block_5 (by decide) (fun q => ?_) (fun q => ?_)
  · replace h := (if_pos q).symm.trans h
    refine ww_bipush 30 X (v := (-2 : Int32)) dX11_block_30 (by decide) ?_
    exact ww_iretE 32 X hQ dX11_block_32 h
  · replace h := (if_neg q).symm.trans h
    refine ww_aload_n 8 X dX11_block_8 0 rfl rfl ?_
    refine ww_iload_n 9 X dX11_block_9 2 rfl rfl ?_
    obtain ⟨_, f10, h⟩ := bO_some h
    obtain ⟨v10, M10, e10, h⟩ := bP_some h
    refine ww_callVI0 10 X dX11_block_10 mY_X11_isRow mL_X11_123 (rcv_spec f10) ⟨_, _, rfl⟩ (by decide) (As := [.int l2]) (rest := []) rfl rfl ⟨Nat.le_of_ble_eq_true rfl, Nat.le_of_ble_eq_true rfl⟩ (Nat.le_of_ble_eq_true rfl) (fun l D A => c_X11_isRow l D A e10) ?_
    refine ww_if_eq 13 30 X dX11_block_13 (by decide) (fun q => ?_) (fun q => ?_)
    · replace h := (if_pos q).symm.trans h
      refine ww_bipush 30 X (v := (-2 : Int32)) dX11_block_30 (by decide) ?_
      exact ww_iretE 32 X hQ dX11_block_32 h
    · replace h := (if_neg q).symm.trans h
      refine ww_aload_n 16 X dX11_block_16 0 rfl rfl ?_
      obtain ⟨v17, e17, h⟩ := bO_some h
      refine ww_getR 17 X dX11_block_17 fG_X11_11 e17 ?_
      refine ww_iload_n 20 X dX11_block_20 2 rfl rfl ?_
      obtain ⟨v21, e21, h⟩ := bO_some h
      refine ww_aald4 21 X dX11_block_21 e21 ?_
      obtain ⟨v22, e22, h⟩ := bO_some h
      refine ww_getI 22 X dX11_block_22 fG_X11_113 e22 ?_
      refine ww_bipush 25 X (v := (16 : Int32)) dX11_block_25 (by decide) ?_
      refine ww_icmp_eq 27 33 X dX11_block_27 (by decide) (fun q => ?_) (fun q => ?_)
      · replace h := (if_pos q).symm.trans h
        refine ww_aload_n 33 X dX11_block_33 0 rfl rfl ?_
        obtain ⟨v34, e34, h⟩ := bO_some h
        refine ww_getR 34 X dX11_block_34 fG_X11_77 e34 ?_
        refine ww_aload_n 37 X dX11_block_37 0 rfl rfl ?_
        obtain ⟨v38, e38, h⟩ := bO_some h
        refine ww_getR 38 X dX11_block_38 fG_X11_11 e38 ?_
        refine ww_iload_n 41 X dX11_block_41 1 rfl rfl ?_
        obtain ⟨v42, e42, h⟩ := bO_some h
        refine ww_aald4 42 X dX11_block_42 e42 ?_
        refine ww_iconst 43 X (v := (0 : Int32)) dX11_block_43 (by decide) ?_
        refine ww_aload_n 44 X dX11_block_44 0 rfl rfl ?_
        obtain ⟨v45, e45, h⟩ := bO_some h
        refine ww_getR 45 X dX11_block_45 fG_X11_11 e45 ?_
        refine ww_iload_n 48 X dX11_block_48 1 rfl rfl ?_
        obtain ⟨v49, e49, h⟩ := bO_some h
        refine ww_aald4 49 X dX11_block_49 e49 ?_
        obtain ⟨v50, e50, h⟩ := bO_some h
        refine ww_getI 50 X dX11_block_50 fG_X11_113 e50 ?_
        obtain ⟨_, f53, h⟩ := bO_some h
        obtain ⟨M53, e53, h⟩ := bO_some h
        refine ww_callVV0 53 X dX11_block_53 mY_X1_become mL_X11_233 (rcv_spec f53) ⟨_, _, rfl⟩ (by decide) (As := [.ref v42, .int (0 : Int32), .int v50]) (rest := []) rfl rfl ⟨Nat.le_of_ble_eq_true rfl, Nat.le_of_ble_eq_true rfl⟩ (Nat.le_of_ble_eq_true rfl) (fun l D A => c_X1_become l D A e53) ?_
        refine ww_aload_n 56 X dX11_block_56 0 rfl rfl ?_
        obtain ⟨v57, e57, h⟩ := bO_some h
        refine ww_getR 57 X dX11_block_57 fG_X11_22 e57 ?_
        obtain ⟨_, f60, h⟩ := bO_some h
        obtain ⟨M60, e60, h⟩ := bO_some h
        refine ww_callVV0 60 X dX11_block_60 mY_X0_clear mL_X11_131 (rcv_spec f60) ⟨_, _, rfl⟩ (by decide) (As := []) (rest := []) rfl rfl ⟨Nat.le_of_ble_eq_true rfl, Nat.le_of_ble_eq_true rfl⟩ (Nat.le_of_ble_eq_true rfl) (fun l D A => c_X0_clear l D A e60) ?_
        refine ww_aload_n 63 X dX11_block_63 0 rfl rfl ?_
        obtain ⟨v64, e64, h⟩ := bO_some h
        refine ww_getR 64 X dX11_block_64 fG_X11_77 e64 ?_
        refine ww_aload_n 67 X dX11_block_67 0 rfl rfl ?_
        obtain ⟨v68, e68, h⟩ := bO_some h
        refine ww_getR 68 X dX11_block_68 fG_X11_11 e68 ?_
        refine ww_iload_n 71 X dX11_block_71 2 rfl rfl ?_
        obtain ⟨v72, e72, h⟩ := bO_some h
        refine ww_aald4 72 X dX11_block_72 e72 ?_
        refine ww_iload_n 73 X dX11_block_73 3 rfl rfl ?_
        refine ww_aload_n 74 X dX11_block_74 0 rfl rfl ?_
        obtain ⟨v75, e75, h⟩ := bO_some h
        refine ww_getR 75 X dX11_block_75 fG_X11_22 e75 ?_
        obtain ⟨_, f78, h⟩ := bO_some h
        obtain ⟨M78, e78, h⟩ := bO_some h
        refine ww_callVV0 78 X dX11_block_78 mY_X1_putBlock mL_X11_235 (rcv_spec f78) ⟨_, _, rfl⟩ (by decide) (As := [.ref v72, .int l3, .ref v75]) (rest := []) rfl rfl ⟨Nat.le_of_ble_eq_true rfl, Nat.le_of_ble_eq_true rfl⟩ (Nat.le_of_ble_eq_true rfl) (fun l D A => c_X1_putBlock l D A e78) ?_
        refine ww_aload_n 81 X dX11_block_81 0 rfl rfl ?_
        obtain ⟨v82, e82, h⟩ := bO_some h
        refine ww_getR 82 X dX11_block_82 fG_X11_22 e82 ?_
        obtain ⟨v85, e85, h⟩ := bO_some h
        refine ww_getI 85 X dX11_block_85 fG_X11_113 e85 ?_
        exact ww_iretE 88 X hQ dX11_block_88 h
      · replace h := (if_neg q).symm.trans h
        refine ww_bipush 30 X (v := (-2 : Int32)) dX11_block_30 (by decide) ?_
        exact ww_iretE 32 X hQ dX11_block_32 h
theorem c_X11_block {G : mG} {F sz : Nat} {r0 : Int32} {M0 : mM} (l : Launch) (D : mD) (A : Nat → Prop) {l0 : Nat} {l1 : Int32} {l2 : Int32} {l3 : Int32} {M : mM} (h : P_X11_block G F l0 l1 l2 l3 M = some (r0, M0)) : mMetI l D G A yX11_block cX11_block 4 (some .int) 5 113 0 0 [.ref l0, .int l1, .int l2, .int l3] M sz r0 M0 sz := mMetI_of l D G A (by decide) (Nat.le_of_ble_eq_true rfl) (fun x X hQ => wP_X11_block X hQ h)
/-! SealedTokens.wrap(II)I -/
theorem dX11_wrap_0 : decode cX11_wrap 0 = .ok (.aload_n 0, 1) := by decide +kernel
theorem dX11_wrap_1 : decode cX11_wrap 1 = .ok (.iload_n 1, 1) := by decide +kernel
theorem dX11_wrap_2 : decode cX11_wrap 2 = .ok (.invokevirtual 230, 3) := by decide +kernel
theorem dX11_wrap_5 : decode cX11_wrap 5 = .ok (.ifCond .eq 26, 3) := by decide +kernel
theorem dX11_wrap_8 : decode cX11_wrap 8 = .ok (.aload_n 0, 1) := by decide +kernel
theorem dX11_wrap_9 : decode cX11_wrap 9 = .ok (.iload_n 2, 1) := by decide +kernel
theorem dX11_wrap_10 : decode cX11_wrap 10 = .ok (.invokevirtual 123, 3) := by decide +kernel
theorem dX11_wrap_13 : decode cX11_wrap 13 = .ok (.ifCond .eq 18, 3) := by decide +kernel
theorem dX11_wrap_16 : decode cX11_wrap 16 = .ok (.aload_n 0, 1) := by decide +kernel
theorem dX11_wrap_17 : decode cX11_wrap 17 = .ok (.getfield 11, 3) := by decide +kernel
theorem dX11_wrap_20 : decode cX11_wrap 20 = .ok (.iload_n 2, 1) := by decide +kernel
theorem dX11_wrap_21 : decode cX11_wrap 21 = .ok (.aaload, 1) := by decide +kernel
theorem dX11_wrap_22 : decode cX11_wrap 22 = .ok (.getfield 113, 3) := by decide +kernel
theorem dX11_wrap_25 : decode cX11_wrap 25 = .ok (.invokestatic 239, 3) := by decide +kernel
theorem dX11_wrap_28 : decode cX11_wrap 28 = .ok (.ifCond .ne 6, 3) := by decide +kernel
theorem dX11_wrap_31 : decode cX11_wrap 31 = .ok (.bipush (-2), 2) := by decide +kernel
theorem dX11_wrap_33 : decode cX11_wrap 33 = .ok (.ireturn, 1) := by decide +kernel
theorem dX11_wrap_34 : decode cX11_wrap 34 = .ok (.aload_n 0, 1) := by decide +kernel
theorem dX11_wrap_35 : decode cX11_wrap 35 = .ok (.getfield 77, 3) := by decide +kernel
theorem dX11_wrap_38 : decode cX11_wrap 38 = .ok (.aload_n 0, 1) := by decide +kernel
theorem dX11_wrap_39 : decode cX11_wrap 39 = .ok (.getfield 11, 3) := by decide +kernel
theorem dX11_wrap_42 : decode cX11_wrap 42 = .ok (.iload_n 1, 1) := by decide +kernel
theorem dX11_wrap_43 : decode cX11_wrap 43 = .ok (.aaload, 1) := by decide +kernel
theorem dX11_wrap_44 : decode cX11_wrap 44 = .ok (.aload_n 0, 1) := by decide +kernel
theorem dX11_wrap_45 : decode cX11_wrap 45 = .ok (.getfield 11, 3) := by decide +kernel
theorem dX11_wrap_48 : decode cX11_wrap 48 = .ok (.iload_n 2, 1) := by decide +kernel
theorem dX11_wrap_49 : decode cX11_wrap 49 = .ok (.aaload, 1) := by decide +kernel
theorem dX11_wrap_50 : decode cX11_wrap 50 = .ok (.aload_n 0, 1) := by decide +kernel
theorem dX11_wrap_51 : decode cX11_wrap 51 = .ok (.getfield 22, 3) := by decide +kernel
theorem dX11_wrap_54 : decode cX11_wrap 54 = .ok (.invokevirtual 242, 3) := by decide +kernel
theorem dX11_wrap_57 : decode cX11_wrap 57 = .ok (.aload_n 0, 1) := by decide +kernel
theorem dX11_wrap_58 : decode cX11_wrap 58 = .ok (.getfield 22, 3) := by decide +kernel
theorem dX11_wrap_61 : decode cX11_wrap 61 = .ok (.getfield 113, 3) := by decide +kernel
theorem dX11_wrap_64 : decode cX11_wrap 64 = .ok (.ireturn, 1) := by decide +kernel
abbrev rmX11_wrap : Room := { frames := 4, cells := 0, slots := 0, locals := 109 }
set_option maxHeartbeats 4000000 in
set_option maxRecDepth 100000 in
theorem wP_X11_wrap {G : mG} {F : Nat} {x : mXT} {sz : Nat} {r0 : Int32} {M0 : mM} (X : mCX G RX11 cX11_wrap 3 (some .int) "wrap" rmX11_wrap x) (hQ : mQI x r0 M0 (sz, 0, 0)) {l0 : Nat} {l1 : Int32} {l2 : Int32} {M : mM} (h : P_X11_wrap G F l0 l1 l2 M = some (r0, M0)) : WW x (sz, 0, 0) M 0 [(0, .ref l0), (1, .int l1), (2, .int l2)] [] := by
  unfold P_X11_wrap at h
  refine ww_aload_n 0 X dX11_wrap_0 0 rfl rfl ?_
  refine ww_iload_n 1 X dX11_wrap_1 1 rfl rfl ?_
  obtain ⟨_, f2, h⟩ := bO_some h
  obtain ⟨v2, M2, e2, h⟩ := bP_some h
  refine ww_callVI0 2 X dX11_wrap_2 mY_X11_isCipherKey mL_X11_230 (rcv_spec f2) ⟨_, _, rfl⟩ (by decide) (As := [.int l1]) (rest := []) rfl rfl ⟨Nat.le_of_ble_eq_true rfl, Nat.le_of_ble_eq_true rfl⟩ (Nat.le_of_ble_eq_true rfl) (fun l D A => c_X11_isCipherKey l D A e2) ?_
  refine ww_if_eq 5 31 X dX11_wrap_5 (by decide) (fun q => ?_) (fun q => ?_)
  · replace h := (if_pos q).symm.trans h
    refine ww_bipush 31 X (v := (-2 : Int32)) dX11_wrap_31 (by decide) ?_
    exact ww_iretE 33 X hQ dX11_wrap_33 h
  · replace h := (if_neg q).symm.trans h
    refine ww_aload_n 8 X dX11_wrap_8 0 rfl rfl ?_
    refine ww_iload_n 9 X dX11_wrap_9 2 rfl rfl ?_
    obtain ⟨_, f10, h⟩ := bO_some h
    obtain ⟨v10, M10, e10, h⟩ := bP_some h
    refine ww_callVI0 10 X dX11_wrap_10 mY_X11_isRow mL_X11_123 (rcv_spec f10) ⟨_, _, rfl⟩ (by decide) (As := [.int l2]) (rest := []) rfl rfl ⟨Nat.le_of_ble_eq_true rfl, Nat.le_of_ble_eq_true rfl⟩ (Nat.le_of_ble_eq_true rfl) (fun l D A => c_X11_isRow l D A e10) ?_
    refine ww_if_eq 13 31 X dX11_wrap_13 (by decide) (fun q => ?_) (fun q => ?_)
    · replace h := (if_pos q).symm.trans h
      refine ww_bipush 31 X (v := (-2 : Int32)) dX11_wrap_31 (by decide) ?_
      exact ww_iretE 33 X hQ dX11_wrap_33 h
    · replace h := (if_neg q).symm.trans h
      refine ww_aload_n 16 X dX11_wrap_16 0 rfl rfl ?_
      obtain ⟨v17, e17, h⟩ := bO_some h
      refine ww_getR 17 X dX11_wrap_17 fG_X11_11 e17 ?_
      refine ww_iload_n 20 X dX11_wrap_20 2 rfl rfl ?_
      obtain ⟨v21, e21, h⟩ := bO_some h
      refine ww_aald4 21 X dX11_wrap_21 e21 ?_
      obtain ⟨v22, e22, h⟩ := bO_some h
      refine ww_getI 22 X dX11_wrap_22 fG_X11_113 e22 ?_
      obtain ⟨v25, M25, e25, h⟩ := bP_some h
      refine ww_callSI0 25 X dX11_wrap_25 mY_X1_mayWrap mL_X11_239 (As := [.int v22]) (rest := []) rfl rfl ⟨Nat.le_of_ble_eq_true rfl, Nat.le_of_ble_eq_true rfl⟩ (Nat.le_of_ble_eq_true rfl) (fun l D A => c_X1_mayWrap l D A e25) ?_
      refine ww_if_ne 28 34 X dX11_wrap_28 (by decide) (fun q => ?_) (fun q => ?_)
      · replace h := (if_neg q).symm.trans h
        refine ww_aload_n 34 X dX11_wrap_34 0 rfl rfl ?_
        obtain ⟨v35, e35, h⟩ := bO_some h
        refine ww_getR 35 X dX11_wrap_35 fG_X11_77 e35 ?_
        refine ww_aload_n 38 X dX11_wrap_38 0 rfl rfl ?_
        obtain ⟨v39, e39, h⟩ := bO_some h
        refine ww_getR 39 X dX11_wrap_39 fG_X11_11 e39 ?_
        refine ww_iload_n 42 X dX11_wrap_42 1 rfl rfl ?_
        obtain ⟨v43, e43, h⟩ := bO_some h
        refine ww_aald4 43 X dX11_wrap_43 e43 ?_
        refine ww_aload_n 44 X dX11_wrap_44 0 rfl rfl ?_
        obtain ⟨v45, e45, h⟩ := bO_some h
        refine ww_getR 45 X dX11_wrap_45 fG_X11_11 e45 ?_
        refine ww_iload_n 48 X dX11_wrap_48 2 rfl rfl ?_
        obtain ⟨v49, e49, h⟩ := bO_some h
        refine ww_aald4 49 X dX11_wrap_49 e49 ?_
        refine ww_aload_n 50 X dX11_wrap_50 0 rfl rfl ?_
        obtain ⟨v51, e51, h⟩ := bO_some h
        refine ww_getR 51 X dX11_wrap_51 fG_X11_22 e51 ?_
        obtain ⟨_, f54, h⟩ := bO_some h
        obtain ⟨M54, e54, h⟩ := bO_some h
        refine ww_callVV0 54 X dX11_wrap_54 mY_X1_putWrapped mL_X11_242 (rcv_spec f54) ⟨_, _, rfl⟩ (by decide) (As := [.ref v43, .ref v49, .ref v51]) (rest := []) rfl rfl ⟨Nat.le_of_ble_eq_true rfl, Nat.le_of_ble_eq_true rfl⟩ (Nat.le_of_ble_eq_true rfl) (fun l D A => c_X1_putWrapped l D A e54) ?_
        refine ww_aload_n 57 X dX11_wrap_57 0 rfl rfl ?_
        obtain ⟨v58, e58, h⟩ := bO_some h
        refine ww_getR 58 X dX11_wrap_58 fG_X11_22 e58 ?_
        obtain ⟨v61, e61, h⟩ := bO_some h
        refine ww_getI 61 X dX11_wrap_61 fG_X11_113 e61 ?_
        exact ww_iretE 64 X hQ dX11_wrap_64 h
      · replace h := (if_pos q).symm.trans h
        refine ww_bipush 31 X (v := (-2 : Int32)) dX11_wrap_31 (by decide) ?_
        exact ww_iretE 33 X hQ dX11_wrap_33 h
theorem c_X11_wrap {G : mG} {F sz : Nat} {r0 : Int32} {M0 : mM} (l : Launch) (D : mD) (A : Nat → Prop) {l0 : Nat} {l1 : Int32} {l2 : Int32} {M : mM} (h : P_X11_wrap G F l0 l1 l2 M = some (r0, M0)) : mMetI l D G A yX11_wrap cX11_wrap 3 (some .int) 4 109 0 0 [.ref l0, .int l1, .int l2] M sz r0 M0 sz := mMetI_of l D G A (by decide) (Nat.le_of_ble_eq_true rfl) (fun x X hQ => wP_X11_wrap X hQ h)
/-! SealedTokens.unwrap(II)I -/
theorem dX11_unwrap_0 : decode cX11_unwrap 0 = .ok (.aload_n 0, 1) := by decide +kernel
theorem dX11_unwrap_1 : decode cX11_unwrap 1 = .ok (.iload_n 1, 1) := by decide +kernel
theorem dX11_unwrap_2 : decode cX11_unwrap 2 = .ok (.invokevirtual 230, 3) := by decide +kernel
theorem dX11_unwrap_5 : decode cX11_unwrap 5 = .ok (.ifCond .eq 29, 3) := by decide +kernel
theorem dX11_unwrap_8 : decode cX11_unwrap 8 = .ok (.aload_n 0, 1) := by decide +kernel
theorem dX11_unwrap_9 : decode cX11_unwrap 9 = .ok (.iload_n 2, 1) := by decide +kernel
theorem dX11_unwrap_10 : decode cX11_unwrap 10 = .ok (.invokevirtual 123, 3) := by decide +kernel
theorem dX11_unwrap_13 : decode cX11_unwrap 13 = .ok (.ifCond .eq 21, 3) := by decide +kernel
theorem dX11_unwrap_16 : decode cX11_unwrap 16 = .ok (.aload_n 0, 1) := by decide +kernel
theorem dX11_unwrap_17 : decode cX11_unwrap 17 = .ok (.getfield 11, 3) := by decide +kernel
theorem dX11_unwrap_20 : decode cX11_unwrap 20 = .ok (.iload_n 2, 1) := by decide +kernel
theorem dX11_unwrap_21 : decode cX11_unwrap 21 = .ok (.aaload, 1) := by decide +kernel
theorem dX11_unwrap_22 : decode cX11_unwrap 22 = .ok (.getfield 113, 3) := by decide +kernel
theorem dX11_unwrap_25 : decode cX11_unwrap 25 = .ok (.bipush 8, 2) := by decide +kernel
theorem dX11_unwrap_27 : decode cX11_unwrap 27 = .ok (.isub, 1) := by decide +kernel
theorem dX11_unwrap_28 : decode cX11_unwrap 28 = .ok (.invokestatic 239, 3) := by decide +kernel
theorem dX11_unwrap_31 : decode cX11_unwrap 31 = .ok (.ifCond .ne 6, 3) := by decide +kernel
theorem dX11_unwrap_34 : decode cX11_unwrap 34 = .ok (.bipush (-2), 2) := by decide +kernel
theorem dX11_unwrap_36 : decode cX11_unwrap 36 = .ok (.ireturn, 1) := by decide +kernel
theorem dX11_unwrap_37 : decode cX11_unwrap 37 = .ok (.aload_n 0, 1) := by decide +kernel
theorem dX11_unwrap_38 : decode cX11_unwrap 38 = .ok (.getfield 77, 3) := by decide +kernel
theorem dX11_unwrap_41 : decode cX11_unwrap 41 = .ok (.aload_n 0, 1) := by decide +kernel
theorem dX11_unwrap_42 : decode cX11_unwrap 42 = .ok (.getfield 11, 3) := by decide +kernel
theorem dX11_unwrap_45 : decode cX11_unwrap 45 = .ok (.iload_n 1, 1) := by decide +kernel
theorem dX11_unwrap_46 : decode cX11_unwrap 46 = .ok (.aaload, 1) := by decide +kernel
theorem dX11_unwrap_47 : decode cX11_unwrap 47 = .ok (.aload_n 0, 1) := by decide +kernel
theorem dX11_unwrap_48 : decode cX11_unwrap 48 = .ok (.getfield 11, 3) := by decide +kernel
theorem dX11_unwrap_51 : decode cX11_unwrap 51 = .ok (.iload_n 2, 1) := by decide +kernel
theorem dX11_unwrap_52 : decode cX11_unwrap 52 = .ok (.aaload, 1) := by decide +kernel
theorem dX11_unwrap_53 : decode cX11_unwrap 53 = .ok (.aload_n 0, 1) := by decide +kernel
theorem dX11_unwrap_54 : decode cX11_unwrap 54 = .ok (.getfield 22, 3) := by decide +kernel
theorem dX11_unwrap_57 : decode cX11_unwrap 57 = .ok (.invokevirtual 246, 3) := by decide +kernel
theorem dX11_unwrap_60 : decode cX11_unwrap 60 = .ok (.ifCond .eq 13, 3) := by decide +kernel
theorem dX11_unwrap_63 : decode cX11_unwrap 63 = .ok (.aload_n 0, 1) := by decide +kernel
theorem dX11_unwrap_64 : decode cX11_unwrap 64 = .ok (.getfield 22, 3) := by decide +kernel
theorem dX11_unwrap_67 : decode cX11_unwrap 67 = .ok (.getfield 113, 3) := by decide +kernel
theorem dX11_unwrap_70 : decode cX11_unwrap 70 = .ok (.goto 4, 3) := by decide +kernel
theorem dX11_unwrap_73 : decode cX11_unwrap 73 = .ok (.iconst (-1), 1) := by decide +kernel
theorem dX11_unwrap_74 : decode cX11_unwrap 74 = .ok (.ireturn, 1) := by decide +kernel
abbrev rmX11_unwrap : Room := { frames := 5, cells := 0, slots := 0, locals := 116 }
set_option maxHeartbeats 4000000 in
set_option maxRecDepth 100000 in
theorem wP_X11_unwrap {G : mG} {F : Nat} {x : mXT} {sz : Nat} {r0 : Int32} {M0 : mM} (X : mCX G RX11 cX11_unwrap 3 (some .int) "unwrap" rmX11_unwrap x) (hQ : mQI x r0 M0 (sz, 0, 0)) {l0 : Nat} {l1 : Int32} {l2 : Int32} {M : mM} (h : P_X11_unwrap G F l0 l1 l2 M = some (r0, M0)) : WW x (sz, 0, 0) M 0 [(0, .ref l0), (1, .int l1), (2, .int l2)] [] := by
  unfold P_X11_unwrap at h
  refine ww_aload_n 0 X dX11_unwrap_0 0 rfl rfl ?_
  refine ww_iload_n 1 X dX11_unwrap_1 1 rfl rfl ?_
  obtain ⟨_, f2, h⟩ := bO_some h
  obtain ⟨v2, M2, e2, h⟩ := bP_some h
  refine ww_callVI0 2 X dX11_unwrap_2 mY_X11_isCipherKey mL_X11_230 (rcv_spec f2) ⟨_, _, rfl⟩ (by decide) (As := [.int l1]) (rest := []) rfl rfl ⟨Nat.le_of_ble_eq_true rfl, Nat.le_of_ble_eq_true rfl⟩ (Nat.le_of_ble_eq_true rfl) (fun l D A => c_X11_isCipherKey l D A e2) ?_
  refine ww_if_eq 5 34 X dX11_unwrap_5 (by decide) (fun q => ?_) (fun q => ?_)
  · replace h := (if_pos q).symm.trans h
    refine ww_bipush 34 X (v := (-2 : Int32)) dX11_unwrap_34 (by decide) ?_
    exact ww_iretE 36 X hQ dX11_unwrap_36 h
  · replace h := (if_neg q).symm.trans h
    refine ww_aload_n 8 X dX11_unwrap_8 0 rfl rfl ?_
    refine ww_iload_n 9 X dX11_unwrap_9 2 rfl rfl ?_
    obtain ⟨_, f10, h⟩ := bO_some h
    obtain ⟨v10, M10, e10, h⟩ := bP_some h
    refine ww_callVI0 10 X dX11_unwrap_10 mY_X11_isRow mL_X11_123 (rcv_spec f10) ⟨_, _, rfl⟩ (by decide) (As := [.int l2]) (rest := []) rfl rfl ⟨Nat.le_of_ble_eq_true rfl, Nat.le_of_ble_eq_true rfl⟩ (Nat.le_of_ble_eq_true rfl) (fun l D A => c_X11_isRow l D A e10) ?_
    refine ww_if_eq 13 34 X dX11_unwrap_13 (by decide) (fun q => ?_) (fun q => ?_)
    · replace h := (if_pos q).symm.trans h
      refine ww_bipush 34 X (v := (-2 : Int32)) dX11_unwrap_34 (by decide) ?_
      exact ww_iretE 36 X hQ dX11_unwrap_36 h
    · replace h := (if_neg q).symm.trans h
      refine ww_aload_n 16 X dX11_unwrap_16 0 rfl rfl ?_
      obtain ⟨v17, e17, h⟩ := bO_some h
      refine ww_getR 17 X dX11_unwrap_17 fG_X11_11 e17 ?_
      refine ww_iload_n 20 X dX11_unwrap_20 2 rfl rfl ?_
      obtain ⟨v21, e21, h⟩ := bO_some h
      refine ww_aald4 21 X dX11_unwrap_21 e21 ?_
      obtain ⟨v22, e22, h⟩ := bO_some h
      refine ww_getI 22 X dX11_unwrap_22 fG_X11_113 e22 ?_
      refine ww_bipush 25 X (v := (8 : Int32)) dX11_unwrap_25 (by decide) ?_
      refine ww_isub 27 X dX11_unwrap_27 ?_
      obtain ⟨v28, M28, e28, h⟩ := bP_some h
      refine ww_callSI0 28 X dX11_unwrap_28 mY_X1_mayWrap mL_X11_239 (As := [.int (v22 - (8 : Int32))]) (rest := []) rfl rfl ⟨Nat.le_of_ble_eq_true rfl, Nat.le_of_ble_eq_true rfl⟩ (Nat.le_of_ble_eq_true rfl) (fun l D A => c_X1_mayWrap l D A e28) ?_
      refine ww_if_ne 31 37 X dX11_unwrap_31 (by decide) (fun q => ?_) (fun q => ?_)
      · replace h := (if_neg q).symm.trans h
        refine ww_aload_n 37 X dX11_unwrap_37 0 rfl rfl ?_
        obtain ⟨v38, e38, h⟩ := bO_some h
        refine ww_getR 38 X dX11_unwrap_38 fG_X11_77 e38 ?_
        refine ww_aload_n 41 X dX11_unwrap_41 0 rfl rfl ?_
        obtain ⟨v42, e42, h⟩ := bO_some h
        refine ww_getR 42 X dX11_unwrap_42 fG_X11_11 e42 ?_
        refine ww_iload_n 45 X dX11_unwrap_45 1 rfl rfl ?_
        obtain ⟨v46, e46, h⟩ := bO_some h
        refine ww_aald4 46 X dX11_unwrap_46 e46 ?_
        refine ww_aload_n 47 X dX11_unwrap_47 0 rfl rfl ?_
        obtain ⟨v48, e48, h⟩ := bO_some h
        refine ww_getR 48 X dX11_unwrap_48 fG_X11_11 e48 ?_
        refine ww_iload_n 51 X dX11_unwrap_51 2 rfl rfl ?_
        obtain ⟨v52, e52, h⟩ := bO_some h
        refine ww_aald4 52 X dX11_unwrap_52 e52 ?_
        refine ww_aload_n 53 X dX11_unwrap_53 0 rfl rfl ?_
        obtain ⟨v54, e54, h⟩ := bO_some h
        refine ww_getR 54 X dX11_unwrap_54 fG_X11_22 e54 ?_
        obtain ⟨_, f57, h⟩ := bO_some h
        obtain ⟨v57, M57, e57, h⟩ := bP_some h
        refine ww_callVI0 57 X dX11_unwrap_57 mY_X1_putUnwrapped mL_X11_246 (rcv_spec f57) ⟨_, _, rfl⟩ (by decide) (As := [.ref v46, .ref v52, .ref v54]) (rest := []) rfl rfl ⟨Nat.le_of_ble_eq_true rfl, Nat.le_of_ble_eq_true rfl⟩ (Nat.le_of_ble_eq_true rfl) (fun l D A => c_X1_putUnwrapped l D A e57) ?_
        refine ww_if_eq 60 73 X dX11_unwrap_60 (by decide) (fun q => ?_) (fun q => ?_)
        · replace h := (if_pos q).symm.trans h
          refine ww_iconst 73 X (v := (-1 : Int32)) dX11_unwrap_73 (by decide) ?_
          exact ww_iretE 74 X hQ dX11_unwrap_74 h
        · replace h := (if_neg q).symm.trans h
          refine ww_aload_n 63 X dX11_unwrap_63 0 rfl rfl ?_
          obtain ⟨v64, e64, h⟩ := bO_some h
          refine ww_getR 64 X dX11_unwrap_64 fG_X11_22 e64 ?_
          obtain ⟨v67, e67, h⟩ := bO_some h
          refine ww_getI 67 X dX11_unwrap_67 fG_X11_113 e67 ?_
          refine ww_goto 70 74 X dX11_unwrap_70 (by decide) ?_
          exact ww_iretE 74 X hQ dX11_unwrap_74 h
      · replace h := (if_pos q).symm.trans h
        refine ww_bipush 34 X (v := (-2 : Int32)) dX11_unwrap_34 (by decide) ?_
        exact ww_iretE 36 X hQ dX11_unwrap_36 h
theorem c_X11_unwrap {G : mG} {F sz : Nat} {r0 : Int32} {M0 : mM} (l : Launch) (D : mD) (A : Nat → Prop) {l0 : Nat} {l1 : Int32} {l2 : Int32} {M : mM} (h : P_X11_unwrap G F l0 l1 l2 M = some (r0, M0)) : mMetI l D G A yX11_unwrap cX11_unwrap 3 (some .int) 5 116 0 0 [.ref l0, .int l1, .int l2] M sz r0 M0 sz := mMetI_of l D G A (by decide) (Nat.le_of_ble_eq_true rfl) (fun x X hQ => wP_X11_unwrap X hQ h)
/-! SealedTokens.waySuits(III)Z -/
theorem dX11_waySuits_0 : decode cX11_waySuits 0 = .ok (.iload_n 1, 1) := by decide +kernel
theorem dX11_waySuits_1 : decode cX11_waySuits 1 = .ok (.ifCond .lt 62, 3) := by decide +kernel
theorem dX11_waySuits_4 : decode cX11_waySuits 4 = .ok (.iload_n 1, 1) := by decide +kernel
theorem dX11_waySuits_5 : decode cX11_waySuits 5 = .ok (.iconst 4, 1) := by decide +kernel
theorem dX11_waySuits_6 : decode cX11_waySuits 6 = .ok (.if_icmp .ge 57, 3) := by decide +kernel
theorem dX11_waySuits_9 : decode cX11_waySuits 9 = .ok (.aload_n 0, 1) := by decide +kernel
theorem dX11_waySuits_10 : decode cX11_waySuits 10 = .ok (.iload_n 2, 1) := by decide +kernel
theorem dX11_waySuits_11 : decode cX11_waySuits 11 = .ok (.invokevirtual 123, 3) := by decide +kernel
theorem dX11_waySuits_14 : decode cX11_waySuits 14 = .ok (.ifCond .eq 49, 3) := by decide +kernel
theorem dX11_waySuits_17 : decode cX11_waySuits 17 = .ok (.aload_n 0, 1) := by decide +kernel
theorem dX11_waySuits_18 : decode cX11_waySuits 18 = .ok (.iload_n 3, 1) := by decide +kernel
theorem dX11_waySuits_19 : decode cX11_waySuits 19 = .ok (.invokevirtual 123, 3) := by decide +kernel
theorem dX11_waySuits_22 : decode cX11_waySuits 22 = .ok (.ifCond .eq 41, 3) := by decide +kernel
theorem dX11_waySuits_25 : decode cX11_waySuits 25 = .ok (.aload_n 0, 1) := by decide +kernel
theorem dX11_waySuits_26 : decode cX11_waySuits 26 = .ok (.getfield 11, 3) := by decide +kernel
theorem dX11_waySuits_29 : decode cX11_waySuits 29 = .ok (.iload_n 2, 1) := by decide +kernel
theorem dX11_waySuits_30 : decode cX11_waySuits 30 = .ok (.aaload, 1) := by decide +kernel
theorem dX11_waySuits_31 : decode cX11_waySuits 31 = .ok (.getfield 113, 3) := by decide +kernel
theorem dX11_waySuits_34 : decode cX11_waySuits 34 = .ok (.getstatic 450, 3) := by decide +kernel
theorem dX11_waySuits_37 : decode cX11_waySuits 37 = .ok (.iload_n 1, 1) := by decide +kernel
theorem dX11_waySuits_38 : decode cX11_waySuits 38 = .ok (.iaload, 1) := by decide +kernel
theorem dX11_waySuits_39 : decode cX11_waySuits 39 = .ok (.if_icmp .ne 24, 3) := by decide +kernel
theorem dX11_waySuits_42 : decode cX11_waySuits 42 = .ok (.aload_n 0, 1) := by decide +kernel
theorem dX11_waySuits_43 : decode cX11_waySuits 43 = .ok (.getfield 11, 3) := by decide +kernel
theorem dX11_waySuits_46 : decode cX11_waySuits 46 = .ok (.iload_n 3, 1) := by decide +kernel
theorem dX11_waySuits_47 : decode cX11_waySuits 47 = .ok (.aaload, 1) := by decide +kernel
theorem dX11_waySuits_48 : decode cX11_waySuits 48 = .ok (.getfield 113, 3) := by decide +kernel
theorem dX11_waySuits_51 : decode cX11_waySuits 51 = .ok (.getstatic 453, 3) := by decide +kernel
theorem dX11_waySuits_54 : decode cX11_waySuits 54 = .ok (.iload_n 1, 1) := by decide +kernel
theorem dX11_waySuits_55 : decode cX11_waySuits 55 = .ok (.iaload, 1) := by decide +kernel
theorem dX11_waySuits_56 : decode cX11_waySuits 56 = .ok (.if_icmp .ne 7, 3) := by decide +kernel
theorem dX11_waySuits_59 : decode cX11_waySuits 59 = .ok (.iconst 1, 1) := by decide +kernel
theorem dX11_waySuits_60 : decode cX11_waySuits 60 = .ok (.goto 4, 3) := by decide +kernel
theorem dX11_waySuits_63 : decode cX11_waySuits 63 = .ok (.iconst 0, 1) := by decide +kernel
theorem dX11_waySuits_64 : decode cX11_waySuits 64 = .ok (.ireturn, 1) := by decide +kernel
abbrev rmX11_waySuits : Room := { frames := 1, cells := 0, slots := 0, locals := 21 }
set_option maxHeartbeats 4000000 in
set_option maxRecDepth 100000 in
theorem wP_X11_waySuits {G : mG} {F : Nat} {x : mXT} {sz : Nat} {r0 : Int32} {M0 : mM} (X : mCX G RX11 cX11_waySuits 4 (some .boolean) "waySuits" rmX11_waySuits x) (hQ : mQI x r0 M0 (sz, 0, 0)) {l0 : Nat} {l1 : Int32} {l2 : Int32} {l3 : Int32} {M : mM} (h : P_X11_waySuits G F l0 l1 l2 l3 M = some (r0, M0)) : WW x (sz, 0, 0) M 0 [(0, .ref l0), (1, .int l1), (2, .int l2), (3, .int l3)] [] := by
  unfold P_X11_waySuits at h
  refine ww_iload_n 0 X dX11_waySuits_0 1 rfl rfl ?_
  refine ww_if_lt 1 63 X dX11_waySuits_1 (by decide) (fun q => ?_) (fun q => ?_)
  · replace h := (if_pos q).symm.trans h
    refine ww_iconst 63 X (v := (0 : Int32)) dX11_waySuits_63 (by decide) ?_
    exact ww_zretE 64 X hQ dX11_waySuits_64 h
  · replace h := (if_neg q).symm.trans h
    refine ww_iload_n 4 X dX11_waySuits_4 1 rfl rfl ?_
    refine ww_iconst 5 X (v := (4 : Int32)) dX11_waySuits_5 (by decide) ?_
    refine ww_icmp_ge 6 63 X dX11_waySuits_6 (by decide) (fun q => ?_) (fun q => ?_)
    · replace h := (if_pos q).symm.trans h
      refine ww_iconst 63 X (v := (0 : Int32)) dX11_waySuits_63 (by decide) ?_
      exact ww_zretE 64 X hQ dX11_waySuits_64 h
    · replace h := (if_neg q).symm.trans h
      refine ww_aload_n 9 X dX11_waySuits_9 0 rfl rfl ?_
      refine ww_iload_n 10 X dX11_waySuits_10 2 rfl rfl ?_
      obtain ⟨_, f11, h⟩ := bO_some h
      obtain ⟨v11, M11, e11, h⟩ := bP_some h
      refine ww_callVI0 11 X dX11_waySuits_11 mY_X11_isRow mL_X11_123 (rcv_spec f11) ⟨_, _, rfl⟩ (by decide) (As := [.int l2]) (rest := []) rfl rfl ⟨Nat.le_of_ble_eq_true rfl, Nat.le_of_ble_eq_true rfl⟩ (Nat.le_of_ble_eq_true rfl) (fun l D A => c_X11_isRow l D A e11) ?_
      refine ww_if_eq 14 63 X dX11_waySuits_14 (by decide) (fun q => ?_) (fun q => ?_)
      · replace h := (if_pos q).symm.trans h
        refine ww_iconst 63 X (v := (0 : Int32)) dX11_waySuits_63 (by decide) ?_
        exact ww_zretE 64 X hQ dX11_waySuits_64 h
      · replace h := (if_neg q).symm.trans h
        refine ww_aload_n 17 X dX11_waySuits_17 0 rfl rfl ?_
        refine ww_iload_n 18 X dX11_waySuits_18 3 rfl rfl ?_
        obtain ⟨_, f19, h⟩ := bO_some h
        obtain ⟨v19, M19, e19, h⟩ := bP_some h
        refine ww_callVI0 19 X dX11_waySuits_19 mY_X11_isRow mL_X11_123 (rcv_spec f19) ⟨_, _, rfl⟩ (by decide) (As := [.int l3]) (rest := []) rfl rfl ⟨Nat.le_of_ble_eq_true rfl, Nat.le_of_ble_eq_true rfl⟩ (Nat.le_of_ble_eq_true rfl) (fun l D A => c_X11_isRow l D A e19) ?_
        refine ww_if_eq 22 63 X dX11_waySuits_22 (by decide) (fun q => ?_) (fun q => ?_)
        · replace h := (if_pos q).symm.trans h
          refine ww_iconst 63 X (v := (0 : Int32)) dX11_waySuits_63 (by decide) ?_
          exact ww_zretE 64 X hQ dX11_waySuits_64 h
        · replace h := (if_neg q).symm.trans h
          refine ww_aload_n 25 X dX11_waySuits_25 0 rfl rfl ?_
          obtain ⟨v26, e26, h⟩ := bO_some h
          refine ww_getR 26 X dX11_waySuits_26 fG_X11_11 e26 ?_
          refine ww_iload_n 29 X dX11_waySuits_29 2 rfl rfl ?_
          obtain ⟨v30, e30, h⟩ := bO_some h
          refine ww_aald4 30 X dX11_waySuits_30 e30 ?_
          obtain ⟨v31, e31, h⟩ := bO_some h
          refine ww_getI 31 X dX11_waySuits_31 fG_X11_113 e31 ?_
          refine ww_gets 34 X dX11_waySuits_34 gS_X11_450 ?_
          refine ww_iload_n 37 X dX11_waySuits_37 1 rfl rfl ?_
          obtain ⟨v38, e38, h⟩ := bO_some h
          refine ww_iald 38 X dX11_waySuits_38 e38 ?_
          refine ww_icmp_ne 39 63 X dX11_waySuits_39 (by decide) (fun q => ?_) (fun q => ?_)
          · replace h := (if_neg q).symm.trans h
            refine ww_iconst 63 X (v := (0 : Int32)) dX11_waySuits_63 (by decide) ?_
            exact ww_zretE 64 X hQ dX11_waySuits_64 h
          · replace h := (if_pos q).symm.trans h
            refine ww_aload_n 42 X dX11_waySuits_42 0 rfl rfl ?_
            obtain ⟨v43, e43, h⟩ := bO_some h
            refine ww_getR 43 X dX11_waySuits_43 fG_X11_11 e43 ?_
            refine ww_iload_n 46 X dX11_waySuits_46 3 rfl rfl ?_
            obtain ⟨v47, e47, h⟩ := bO_some h
            refine ww_aald4 47 X dX11_waySuits_47 e47 ?_
            obtain ⟨v48, e48, h⟩ := bO_some h
            refine ww_getI 48 X dX11_waySuits_48 fG_X11_113 e48 ?_
            refine ww_gets 51 X dX11_waySuits_51 gS_X11_453 ?_
            refine ww_iload_n 54 X dX11_waySuits_54 1 rfl rfl ?_
            obtain ⟨v55, e55, h⟩ := bO_some h
            refine ww_iald 55 X dX11_waySuits_55 e55 ?_
            refine ww_icmp_ne 56 63 X dX11_waySuits_56 (by decide) (fun q => ?_) (fun q => ?_)
            · replace h := (if_neg q).symm.trans h
              refine ww_iconst 63 X (v := (0 : Int32)) dX11_waySuits_63 (by decide) ?_
              exact ww_zretE 64 X hQ dX11_waySuits_64 h
            · replace h := (if_pos q).symm.trans h
              refine ww_iconst 59 X (v := (1 : Int32)) dX11_waySuits_59 (by decide) ?_
              refine ww_goto 60 64 X dX11_waySuits_60 (by decide) ?_
              exact ww_zretE 64 X hQ dX11_waySuits_64 h
theorem c_X11_waySuits {G : mG} {F sz : Nat} {r0 : Int32} {M0 : mM} (l : Launch) (D : mD) (A : Nat → Prop) {l0 : Nat} {l1 : Int32} {l2 : Int32} {l3 : Int32} {M : mM} (h : P_X11_waySuits G F l0 l1 l2 l3 M = some (r0, M0)) : mMetI l D G A yX11_waySuits cX11_waySuits 4 (some .boolean) 1 21 0 0 [.ref l0, .int l1, .int l2, .int l3] M sz r0 M0 sz := mMetI_of l D G A (by decide) (Nat.le_of_ble_eq_true rfl) (fun x X hQ => wP_X11_waySuits X hQ h)
/-! SealedTokens.seal(IIIII)I -/
theorem dX11_seal_0 : decode cX11_seal 0 = .ok (.aload_n 0, 1) := by decide +kernel
theorem dX11_seal_1 : decode cX11_seal 1 = .ok (.iload_n 1, 1) := by decide +kernel
theorem dX11_seal_2 : decode cX11_seal 2 = .ok (.iload_n 2, 1) := by decide +kernel
theorem dX11_seal_3 : decode cX11_seal 3 = .ok (.iload_n 3, 1) := by decide +kernel
theorem dX11_seal_4 : decode cX11_seal 4 = .ok (.invokevirtual 250, 3) := by decide +kernel
theorem dX11_seal_7 : decode cX11_seal 7 = .ok (.ifCond .eq 21, 3) := by decide +kernel
theorem dX11_seal_10 : decode cX11_seal 10 = .ok (.aload_n 0, 1) := by decide +kernel
theorem dX11_seal_11 : decode cX11_seal 11 = .ok (.iload 4, 2) := by decide +kernel
theorem dX11_seal_13 : decode cX11_seal 13 = .ok (.invokevirtual 123, 3) := by decide +kernel
theorem dX11_seal_16 : decode cX11_seal 16 = .ok (.ifCond .eq 12, 3) := by decide +kernel
theorem dX11_seal_19 : decode cX11_seal 19 = .ok (.aload_n 0, 1) := by decide +kernel
theorem dX11_seal_20 : decode cX11_seal 20 = .ok (.iload 5, 2) := by decide +kernel
theorem dX11_seal_22 : decode cX11_seal 22 = .ok (.invokevirtual 123, 3) := by decide +kernel
theorem dX11_seal_25 : decode cX11_seal 25 = .ok (.ifCond .ne 6, 3) := by decide +kernel
theorem dX11_seal_28 : decode cX11_seal 28 = .ok (.bipush (-2), 2) := by decide +kernel
theorem dX11_seal_30 : decode cX11_seal 30 = .ok (.ireturn, 1) := by decide +kernel
theorem dX11_seal_31 : decode cX11_seal 31 = .ok (.iload_n 1, 1) := by decide +kernel
theorem dX11_seal_32 : decode cX11_seal 32 = .ok (.aload_n 0, 1) := by decide +kernel
theorem dX11_seal_33 : decode cX11_seal 33 = .ok (.getfield 11, 3) := by decide +kernel
theorem dX11_seal_36 : decode cX11_seal 36 = .ok (.iload 5, 2) := by decide +kernel
theorem dX11_seal_38 : decode cX11_seal 38 = .ok (.aaload, 1) := by decide +kernel
theorem dX11_seal_39 : decode cX11_seal 39 = .ok (.getfield 113, 3) := by decide +kernel
theorem dX11_seal_42 : decode cX11_seal 42 = .ok (.invokestatic 254, 3) := by decide +kernel
theorem dX11_seal_45 : decode cX11_seal 45 = .ok (.getstatic 258, 3) := by decide +kernel
theorem dX11_seal_48 : decode cX11_seal 48 = .ok (.iload_n 1, 1) := by decide +kernel
theorem dX11_seal_49 : decode cX11_seal 49 = .ok (.iaload, 1) := by decide +kernel
theorem dX11_seal_50 : decode cX11_seal 50 = .ok (.iadd, 1) := by decide +kernel
theorem dX11_seal_51 : decode cX11_seal 51 = .ok (.sipush 8192, 3) := by decide +kernel
theorem dX11_seal_54 : decode cX11_seal 54 = .ok (.if_icmp .le 6, 3) := by decide +kernel
theorem dX11_seal_57 : decode cX11_seal 57 = .ok (.bipush (-3), 2) := by decide +kernel
theorem dX11_seal_59 : decode cX11_seal 59 = .ok (.ireturn, 1) := by decide +kernel
theorem dX11_seal_60 : decode cX11_seal 60 = .ok (.aload_n 0, 1) := by decide +kernel
theorem dX11_seal_61 : decode cX11_seal 61 = .ok (.getfield 86, 3) := by decide +kernel
theorem dX11_seal_64 : decode cX11_seal 64 = .ok (.iload_n 1, 1) := by decide +kernel
theorem dX11_seal_65 : decode cX11_seal 65 = .ok (.aload_n 0, 1) := by decide +kernel
theorem dX11_seal_66 : decode cX11_seal 66 = .ok (.getfield 11, 3) := by decide +kernel
theorem dX11_seal_69 : decode cX11_seal 69 = .ok (.iload_n 2, 1) := by decide +kernel
theorem dX11_seal_70 : decode cX11_seal 70 = .ok (.aaload, 1) := by decide +kernel
theorem dX11_seal_71 : decode cX11_seal 71 = .ok (.aload_n 0, 1) := by decide +kernel
theorem dX11_seal_72 : decode cX11_seal 72 = .ok (.getfield 11, 3) := by decide +kernel
theorem dX11_seal_75 : decode cX11_seal 75 = .ok (.iload_n 3, 1) := by decide +kernel
theorem dX11_seal_76 : decode cX11_seal 76 = .ok (.aaload, 1) := by decide +kernel
theorem dX11_seal_77 : decode cX11_seal 77 = .ok (.aload_n 0, 1) := by decide +kernel
theorem dX11_seal_78 : decode cX11_seal 78 = .ok (.getfield 11, 3) := by decide +kernel
theorem dX11_seal_81 : decode cX11_seal 81 = .ok (.iload 4, 2) := by decide +kernel
theorem dX11_seal_83 : decode cX11_seal 83 = .ok (.aaload, 1) := by decide +kernel
theorem dX11_seal_84 : decode cX11_seal 84 = .ok (.aload_n 0, 1) := by decide +kernel
theorem dX11_seal_85 : decode cX11_seal 85 = .ok (.getfield 11, 3) := by decide +kernel
theorem dX11_seal_88 : decode cX11_seal 88 = .ok (.iload 5, 2) := by decide +kernel
theorem dX11_seal_90 : decode cX11_seal 90 = .ok (.aaload, 1) := by decide +kernel
theorem dX11_seal_91 : decode cX11_seal 91 = .ok (.aload_n 0, 1) := by decide +kernel
theorem dX11_seal_92 : decode cX11_seal 92 = .ok (.getfield 22, 3) := by decide +kernel
theorem dX11_seal_95 : decode cX11_seal 95 = .ok (.invokevirtual 261, 3) := by decide +kernel
theorem dX11_seal_98 : decode cX11_seal 98 = .ok (.aload_n 0, 1) := by decide +kernel
theorem dX11_seal_99 : decode cX11_seal 99 = .ok (.getfield 22, 3) := by decide +kernel
theorem dX11_seal_102 : decode cX11_seal 102 = .ok (.getfield 113, 3) := by decide +kernel
theorem dX11_seal_105 : decode cX11_seal 105 = .ok (.ireturn, 1) := by decide +kernel
abbrev rmX11_seal : Room := { frames := 6, cells := 0, slots := 0, locals := 169 }
set_option maxHeartbeats 4000000 in
set_option maxRecDepth 100000 in
theorem wP_X11_seal {G : mG} {F : Nat} {x : mXT} {sz : Nat} {r0 : Int32} {M0 : mM} (X : mCX G RX11 cX11_seal 6 (some .int) "seal" rmX11_seal x) (hQ : mQI x r0 M0 (sz, 0, 0)) {l0 : Nat} {l1 : Int32} {l2 : Int32} {l3 : Int32} {l4 : Int32} {l5 : Int32} {M : mM} (h : P_X11_seal G F l0 l1 l2 l3 l4 l5 M = some (r0, M0)) : WW x (sz, 0, 0) M 0 [(0, .ref l0), (1, .int l1), (2, .int l2), (3, .int l3), (4, .int l4), (5, .int l5)] [] := by
  unfold P_X11_seal at h
  refine ww_aload_n 0 X dX11_seal_0 0 rfl rfl ?_
  refine ww_iload_n 1 X dX11_seal_1 1 rfl rfl ?_
  refine ww_iload_n 2 X dX11_seal_2 2 rfl rfl ?_
  refine ww_iload_n 3 X dX11_seal_3 3 rfl rfl ?_
  obtain ⟨_, f4, h⟩ := bO_some h
  obtain ⟨v4, M4, e4, h⟩ := bP_some h
  refine ww_callVI0 4 X dX11_seal_4 mY_X11_waySuits mL_X11_250 (rcv_spec f4) ⟨_, _, rfl⟩ (by decide) (As := [.int l1, .int l2, .int l3]) (rest := []) rfl rfl ⟨Nat.le_of_ble_eq_true rfl, Nat.le_of_ble_eq_true rfl⟩ (Nat.le_of_ble_eq_true rfl) (fun l D A => c_X11_waySuits l D A e4) ?_
  refine ww_if_eq 7 28 X dX11_seal_7 (by decide) (fun q => ?_) (fun q => ?_)
  · replace h := (if_pos q).symm.trans h
    refine ww_bipush 28 X (v := (-2 : Int32)) dX11_seal_28 (by decide) ?_
    exact ww_iretE 30 X hQ dX11_seal_30 h
  · replace h := (if_neg q).symm.trans h
    refine ww_aload_n 10 X dX11_seal_10 0 rfl rfl ?_
    refine ww_iload 11 X dX11_seal_11 4 rfl ?_
    obtain ⟨_, f13, h⟩ := bO_some h
    obtain ⟨v13, M13, e13, h⟩ := bP_some h
    refine ww_callVI0 13 X dX11_seal_13 mY_X11_isRow mL_X11_123 (rcv_spec f13) ⟨_, _, rfl⟩ (by decide) (As := [.int l4]) (rest := []) rfl rfl ⟨Nat.le_of_ble_eq_true rfl, Nat.le_of_ble_eq_true rfl⟩ (Nat.le_of_ble_eq_true rfl) (fun l D A => c_X11_isRow l D A e13) ?_
    refine ww_if_eq 16 28 X dX11_seal_16 (by decide) (fun q => ?_) (fun q => ?_)
    · replace h := (if_pos q).symm.trans h
      refine ww_bipush 28 X (v := (-2 : Int32)) dX11_seal_28 (by decide) ?_
      exact ww_iretE 30 X hQ dX11_seal_30 h
    · replace h := (if_neg q).symm.trans h
      refine ww_aload_n 19 X dX11_seal_19 0 rfl rfl ?_
      refine ww_iload 20 X dX11_seal_20 5 rfl ?_
      obtain ⟨_, f22, h⟩ := bO_some h
      obtain ⟨v22, M22, e22, h⟩ := bP_some h
      refine ww_callVI0 22 X dX11_seal_22 mY_X11_isRow mL_X11_123 (rcv_spec f22) ⟨_, _, rfl⟩ (by decide) (As := [.int l5]) (rest := []) rfl rfl ⟨Nat.le_of_ble_eq_true rfl, Nat.le_of_ble_eq_true rfl⟩ (Nat.le_of_ble_eq_true rfl) (fun l D A => c_X11_isRow l D A e22) ?_
      refine ww_if_ne 25 31 X dX11_seal_25 (by decide) (fun q => ?_) (fun q => ?_)
      · replace h := (if_neg q).symm.trans h
        refine ww_iload_n 31 X dX11_seal_31 1 rfl rfl ?_
        refine ww_aload_n 32 X dX11_seal_32 0 rfl rfl ?_
        obtain ⟨v33, e33, h⟩ := bO_some h
        refine ww_getR 33 X dX11_seal_33 fG_X11_11 e33 ?_
        refine ww_iload 36 X dX11_seal_36 5 rfl ?_
        obtain ⟨v38, e38, h⟩ := bO_some h
        refine ww_aald4 38 X dX11_seal_38 e38 ?_
        obtain ⟨v39, e39, h⟩ := bO_some h
        refine ww_getI 39 X dX11_seal_39 fG_X11_113 e39 ?_
        obtain ⟨v42, M42, e42, h⟩ := bP_some h
        refine ww_callSI0 42 X dX11_seal_42 mY_X2_sealedBytes mL_X11_254 (As := [.int l1, .int v39]) (rest := []) rfl rfl ⟨Nat.le_of_ble_eq_true rfl, Nat.le_of_ble_eq_true rfl⟩ (Nat.le_of_ble_eq_true rfl) (fun l D A => c_X2_sealedBytes l D A e42) ?_
        refine ww_gets 45 X dX11_seal_45 gS_X11_258 ?_
        refine ww_iload_n 48 X dX11_seal_48 1 rfl rfl ?_
        obtain ⟨v49, e49, h⟩ := bO_some h
        refine ww_iald 49 X dX11_seal_49 e49 ?_
        refine ww_iadd 50 X dX11_seal_50 ?_
        refine ww_sipush 51 X (v := (8192 : Int32)) dX11_seal_51 (by decide) ?_
        refine ww_icmp_le 54 60 X dX11_seal_54 (by decide) (fun q => ?_) (fun q => ?_)
        · replace h := (if_pos q).symm.trans h
          refine ww_aload_n 60 X dX11_seal_60 0 rfl rfl ?_
          obtain ⟨v61, e61, h⟩ := bO_some h
          refine ww_getR 61 X dX11_seal_61 fG_X11_86 e61 ?_
          refine ww_iload_n 64 X dX11_seal_64 1 rfl rfl ?_
          refine ww_aload_n 65 X dX11_seal_65 0 rfl rfl ?_
          obtain ⟨v66, e66, h⟩ := bO_some h
          refine ww_getR 66 X dX11_seal_66 fG_X11_11 e66 ?_
          refine ww_iload_n 69 X dX11_seal_69 2 rfl rfl ?_
          obtain ⟨v70, e70, h⟩ := bO_some h
          refine ww_aald4 70 X dX11_seal_70 e70 ?_
          refine ww_aload_n 71 X dX11_seal_71 0 rfl rfl ?_
          obtain ⟨v72, e72, h⟩ := bO_some h
          refine ww_getR 72 X dX11_seal_72 fG_X11_11 e72 ?_
          refine ww_iload_n 75 X dX11_seal_75 3 rfl rfl ?_
          obtain ⟨v76, e76, h⟩ := bO_some h
          refine ww_aald4 76 X dX11_seal_76 e76 ?_
          refine ww_aload_n 77 X dX11_seal_77 0 rfl rfl ?_
          obtain ⟨v78, e78, h⟩ := bO_some h
          refine ww_getR 78 X dX11_seal_78 fG_X11_11 e78 ?_
          refine ww_iload 81 X dX11_seal_81 4 rfl ?_
          obtain ⟨v83, e83, h⟩ := bO_some h
          refine ww_aald4 83 X dX11_seal_83 e83 ?_
          refine ww_aload_n 84 X dX11_seal_84 0 rfl rfl ?_
          obtain ⟨v85, e85, h⟩ := bO_some h
          refine ww_getR 85 X dX11_seal_85 fG_X11_11 e85 ?_
          refine ww_iload 88 X dX11_seal_88 5 rfl ?_
          obtain ⟨v90, e90, h⟩ := bO_some h
          refine ww_aald4 90 X dX11_seal_90 e90 ?_
          refine ww_aload_n 91 X dX11_seal_91 0 rfl rfl ?_
          obtain ⟨v92, e92, h⟩ := bO_some h
          refine ww_getR 92 X dX11_seal_92 fG_X11_22 e92 ?_
          obtain ⟨_, f95, h⟩ := bO_some h
          obtain ⟨M95, e95, h⟩ := bO_some h
          refine ww_callVV0 95 X dX11_seal_95 mY_X2_lock mL_X11_261 (rcv_spec f95) ⟨_, _, rfl⟩ (by decide) (As := [.int l1, .ref v70, .ref v76, .ref v83, .ref v90, .ref v92]) (rest := []) rfl rfl ⟨Nat.le_of_ble_eq_true rfl, Nat.le_of_ble_eq_true rfl⟩ (Nat.le_of_ble_eq_true rfl) (fun l D A => c_X2_lock l D A e95) ?_
          refine ww_aload_n 98 X dX11_seal_98 0 rfl rfl ?_
          obtain ⟨v99, e99, h⟩ := bO_some h
          refine ww_getR 99 X dX11_seal_99 fG_X11_22 e99 ?_
          obtain ⟨v102, e102, h⟩ := bO_some h
          refine ww_getI 102 X dX11_seal_102 fG_X11_113 e102 ?_
          exact ww_iretE 105 X hQ dX11_seal_105 h
        · replace h := (if_neg q).symm.trans h
          refine ww_bipush 57 X (v := (-3 : Int32)) dX11_seal_57 (by decide) ?_
          exact ww_iretE 59 X hQ dX11_seal_59 h
      · replace h := (if_pos q).symm.trans h
        refine ww_bipush 28 X (v := (-2 : Int32)) dX11_seal_28 (by decide) ?_
        exact ww_iretE 30 X hQ dX11_seal_30 h
theorem c_X11_seal {G : mG} {F sz : Nat} {r0 : Int32} {M0 : mM} (l : Launch) (D : mD) (A : Nat → Prop) {l0 : Nat} {l1 : Int32} {l2 : Int32} {l3 : Int32} {l4 : Int32} {l5 : Int32} {M : mM} (h : P_X11_seal G F l0 l1 l2 l3 l4 l5 M = some (r0, M0)) : mMetI l D G A yX11_seal cX11_seal 6 (some .int) 6 169 0 0 [.ref l0, .int l1, .int l2, .int l3, .int l4, .int l5] M sz r0 M0 sz := mMetI_of l D G A (by decide) (Nat.le_of_ble_eq_true rfl) (fun x X hQ => wP_X11_seal X hQ h)
/-! SealedTokens.open(IIIII)I -/
theorem dX11_open_0 : decode cX11_open 0 = .ok (.aload_n 0, 1) := by decide +kernel
theorem dX11_open_1 : decode cX11_open 1 = .ok (.iload_n 1, 1) := by decide +kernel
theorem dX11_open_2 : decode cX11_open 2 = .ok (.iload_n 2, 1) := by decide +kernel
theorem dX11_open_3 : decode cX11_open 3 = .ok (.iload_n 3, 1) := by decide +kernel
theorem dX11_open_4 : decode cX11_open 4 = .ok (.invokevirtual 250, 3) := by decide +kernel
theorem dX11_open_7 : decode cX11_open 7 = .ok (.ifCond .eq 21, 3) := by decide +kernel
theorem dX11_open_10 : decode cX11_open 10 = .ok (.aload_n 0, 1) := by decide +kernel
theorem dX11_open_11 : decode cX11_open 11 = .ok (.iload 4, 2) := by decide +kernel
theorem dX11_open_13 : decode cX11_open 13 = .ok (.invokevirtual 123, 3) := by decide +kernel
theorem dX11_open_16 : decode cX11_open 16 = .ok (.ifCond .eq 12, 3) := by decide +kernel
theorem dX11_open_19 : decode cX11_open 19 = .ok (.aload_n 0, 1) := by decide +kernel
theorem dX11_open_20 : decode cX11_open 20 = .ok (.iload 5, 2) := by decide +kernel
theorem dX11_open_22 : decode cX11_open 22 = .ok (.invokevirtual 123, 3) := by decide +kernel
theorem dX11_open_25 : decode cX11_open 25 = .ok (.ifCond .ne 6, 3) := by decide +kernel
theorem dX11_open_28 : decode cX11_open 28 = .ok (.bipush (-2), 2) := by decide +kernel
theorem dX11_open_30 : decode cX11_open 30 = .ok (.ireturn, 1) := by decide +kernel
theorem dX11_open_31 : decode cX11_open 31 = .ok (.aload_n 0, 1) := by decide +kernel
theorem dX11_open_32 : decode cX11_open 32 = .ok (.getfield 86, 3) := by decide +kernel
theorem dX11_open_35 : decode cX11_open 35 = .ok (.iload_n 1, 1) := by decide +kernel
theorem dX11_open_36 : decode cX11_open 36 = .ok (.aload_n 0, 1) := by decide +kernel
theorem dX11_open_37 : decode cX11_open 37 = .ok (.getfield 11, 3) := by decide +kernel
theorem dX11_open_40 : decode cX11_open 40 = .ok (.iload_n 2, 1) := by decide +kernel
theorem dX11_open_41 : decode cX11_open 41 = .ok (.aaload, 1) := by decide +kernel
theorem dX11_open_42 : decode cX11_open 42 = .ok (.aload_n 0, 1) := by decide +kernel
theorem dX11_open_43 : decode cX11_open 43 = .ok (.getfield 11, 3) := by decide +kernel
theorem dX11_open_46 : decode cX11_open 46 = .ok (.iload_n 3, 1) := by decide +kernel
theorem dX11_open_47 : decode cX11_open 47 = .ok (.aaload, 1) := by decide +kernel
theorem dX11_open_48 : decode cX11_open 48 = .ok (.aload_n 0, 1) := by decide +kernel
theorem dX11_open_49 : decode cX11_open 49 = .ok (.getfield 11, 3) := by decide +kernel
theorem dX11_open_52 : decode cX11_open 52 = .ok (.iload 4, 2) := by decide +kernel
theorem dX11_open_54 : decode cX11_open 54 = .ok (.aaload, 1) := by decide +kernel
theorem dX11_open_55 : decode cX11_open 55 = .ok (.aload_n 0, 1) := by decide +kernel
theorem dX11_open_56 : decode cX11_open 56 = .ok (.getfield 11, 3) := by decide +kernel
theorem dX11_open_59 : decode cX11_open 59 = .ok (.iload 5, 2) := by decide +kernel
theorem dX11_open_61 : decode cX11_open 61 = .ok (.aaload, 1) := by decide +kernel
theorem dX11_open_62 : decode cX11_open 62 = .ok (.aload_n 0, 1) := by decide +kernel
theorem dX11_open_63 : decode cX11_open 63 = .ok (.getfield 34, 3) := by decide +kernel
theorem dX11_open_66 : decode cX11_open 66 = .ok (.invokevirtual 265, 3) := by decide +kernel
theorem dX11_open_69 : decode cX11_open 69 = .ok (.ifCond .ne 5, 3) := by decide +kernel
theorem dX11_open_72 : decode cX11_open 72 = .ok (.iconst (-1), 1) := by decide +kernel
theorem dX11_open_73 : decode cX11_open 73 = .ok (.ireturn, 1) := by decide +kernel
theorem dX11_open_74 : decode cX11_open 74 = .ok (.aload_n 0, 1) := by decide +kernel
theorem dX11_open_75 : decode cX11_open 75 = .ok (.aload_n 0, 1) := by decide +kernel
theorem dX11_open_76 : decode cX11_open 76 = .ok (.getfield 34, 3) := by decide +kernel
theorem dX11_open_79 : decode cX11_open 79 = .ok (.iconst 0, 1) := by decide +kernel
theorem dX11_open_80 : decode cX11_open 80 = .ok (.aload_n 0, 1) := by decide +kernel
theorem dX11_open_81 : decode cX11_open 81 = .ok (.getfield 34, 3) := by decide +kernel
theorem dX11_open_84 : decode cX11_open 84 = .ok (.getfield 113, 3) := by decide +kernel
theorem dX11_open_87 : decode cX11_open 87 = .ok (.invokevirtual 176, 3) := by decide +kernel
theorem dX11_open_90 : decode cX11_open 90 = .ok (.ireturn, 1) := by decide +kernel
abbrev rmX11_open : Room := { frames := 6, cells := 0, slots := 0, locals := 170 }
set_option maxHeartbeats 4000000 in
set_option maxRecDepth 100000 in
theorem wP_X11_open {G : mG} {F : Nat} {x : mXT} {sz : Nat} {r0 : Int32} {M0 : mM} (X : mCX G RX11 cX11_open 6 (some .int) "open" rmX11_open x) (hQ : mQI x r0 M0 (sz, 0, 0)) {l0 : Nat} {l1 : Int32} {l2 : Int32} {l3 : Int32} {l4 : Int32} {l5 : Int32} {M : mM} (h : P_X11_open G F l0 l1 l2 l3 l4 l5 M = some (r0, M0)) : WW x (sz, 0, 0) M 0 [(0, .ref l0), (1, .int l1), (2, .int l2), (3, .int l3), (4, .int l4), (5, .int l5)] [] := by
  unfold P_X11_open at h
  refine ww_aload_n 0 X dX11_open_0 0 rfl rfl ?_
  refine ww_iload_n 1 X dX11_open_1 1 rfl rfl ?_
  refine ww_iload_n 2 X dX11_open_2 2 rfl rfl ?_
  refine ww_iload_n 3 X dX11_open_3 3 rfl rfl ?_
  obtain ⟨_, f4, h⟩ := bO_some h
  obtain ⟨v4, M4, e4, h⟩ := bP_some h
  refine ww_callVI0 4 X dX11_open_4 mY_X11_waySuits mL_X11_250 (rcv_spec f4) ⟨_, _, rfl⟩ (by decide) (As := [.int l1, .int l2, .int l3]) (rest := []) rfl rfl ⟨Nat.le_of_ble_eq_true rfl, Nat.le_of_ble_eq_true rfl⟩ (Nat.le_of_ble_eq_true rfl) (fun l D A => c_X11_waySuits l D A e4) ?_
  refine ww_if_eq 7 28 X dX11_open_7 (by decide) (fun q => ?_) (fun q => ?_)
  · replace h := (if_pos q).symm.trans h
    refine ww_bipush 28 X (v := (-2 : Int32)) dX11_open_28 (by decide) ?_
    exact ww_iretE 30 X hQ dX11_open_30 h
  · replace h := (if_neg q).symm.trans h
    refine ww_aload_n 10 X dX11_open_10 0 rfl rfl ?_
    refine ww_iload 11 X dX11_open_11 4 rfl ?_
    obtain ⟨_, f13, h⟩ := bO_some h
    obtain ⟨v13, M13, e13, h⟩ := bP_some h
    refine ww_callVI0 13 X dX11_open_13 mY_X11_isRow mL_X11_123 (rcv_spec f13) ⟨_, _, rfl⟩ (by decide) (As := [.int l4]) (rest := []) rfl rfl ⟨Nat.le_of_ble_eq_true rfl, Nat.le_of_ble_eq_true rfl⟩ (Nat.le_of_ble_eq_true rfl) (fun l D A => c_X11_isRow l D A e13) ?_
    refine ww_if_eq 16 28 X dX11_open_16 (by decide) (fun q => ?_) (fun q => ?_)
    · replace h := (if_pos q).symm.trans h
      refine ww_bipush 28 X (v := (-2 : Int32)) dX11_open_28 (by decide) ?_
      exact ww_iretE 30 X hQ dX11_open_30 h
    · replace h := (if_neg q).symm.trans h
      refine ww_aload_n 19 X dX11_open_19 0 rfl rfl ?_
      refine ww_iload 20 X dX11_open_20 5 rfl ?_
      obtain ⟨_, f22, h⟩ := bO_some h
      obtain ⟨v22, M22, e22, h⟩ := bP_some h
      refine ww_callVI0 22 X dX11_open_22 mY_X11_isRow mL_X11_123 (rcv_spec f22) ⟨_, _, rfl⟩ (by decide) (As := [.int l5]) (rest := []) rfl rfl ⟨Nat.le_of_ble_eq_true rfl, Nat.le_of_ble_eq_true rfl⟩ (Nat.le_of_ble_eq_true rfl) (fun l D A => c_X11_isRow l D A e22) ?_
      refine ww_if_ne 25 31 X dX11_open_25 (by decide) (fun q => ?_) (fun q => ?_)
      · replace h := (if_neg q).symm.trans h
        refine ww_aload_n 31 X dX11_open_31 0 rfl rfl ?_
        obtain ⟨v32, e32, h⟩ := bO_some h
        refine ww_getR 32 X dX11_open_32 fG_X11_86 e32 ?_
        refine ww_iload_n 35 X dX11_open_35 1 rfl rfl ?_
        refine ww_aload_n 36 X dX11_open_36 0 rfl rfl ?_
        obtain ⟨v37, e37, h⟩ := bO_some h
        refine ww_getR 37 X dX11_open_37 fG_X11_11 e37 ?_
        refine ww_iload_n 40 X dX11_open_40 2 rfl rfl ?_
        obtain ⟨v41, e41, h⟩ := bO_some h
        refine ww_aald4 41 X dX11_open_41 e41 ?_
        refine ww_aload_n 42 X dX11_open_42 0 rfl rfl ?_
        obtain ⟨v43, e43, h⟩ := bO_some h
        refine ww_getR 43 X dX11_open_43 fG_X11_11 e43 ?_
        refine ww_iload_n 46 X dX11_open_46 3 rfl rfl ?_
        obtain ⟨v47, e47, h⟩ := bO_some h
        refine ww_aald4 47 X dX11_open_47 e47 ?_
        refine ww_aload_n 48 X dX11_open_48 0 rfl rfl ?_
        obtain ⟨v49, e49, h⟩ := bO_some h
        refine ww_getR 49 X dX11_open_49 fG_X11_11 e49 ?_
        refine ww_iload 52 X dX11_open_52 4 rfl ?_
        obtain ⟨v54, e54, h⟩ := bO_some h
        refine ww_aald4 54 X dX11_open_54 e54 ?_
        refine ww_aload_n 55 X dX11_open_55 0 rfl rfl ?_
        obtain ⟨v56, e56, h⟩ := bO_some h
        refine ww_getR 56 X dX11_open_56 fG_X11_11 e56 ?_
        refine ww_iload 59 X dX11_open_59 5 rfl ?_
        obtain ⟨v61, e61, h⟩ := bO_some h
        refine ww_aald4 61 X dX11_open_61 e61 ?_
        refine ww_aload_n 62 X dX11_open_62 0 rfl rfl ?_
        obtain ⟨v63, e63, h⟩ := bO_some h
        refine ww_getR 63 X dX11_open_63 fG_X11_34 e63 ?_
        obtain ⟨_, f66, h⟩ := bO_some h
        obtain ⟨v66, M66, e66, h⟩ := bP_some h
        refine ww_callVI0 66 X dX11_open_66 mY_X2_unlock mL_X11_265 (rcv_spec f66) ⟨_, _, rfl⟩ (by decide) (As := [.int l1, .ref v41, .ref v47, .ref v54, .ref v61, .ref v63]) (rest := []) rfl rfl ⟨Nat.le_of_ble_eq_true rfl, Nat.le_of_ble_eq_true rfl⟩ (Nat.le_of_ble_eq_true rfl) (fun l D A => c_X2_unlock l D A e66) ?_
        refine ww_if_ne 69 74 X dX11_open_69 (by decide) (fun q => ?_) (fun q => ?_)
        · replace h := (if_neg q).symm.trans h
          refine ww_aload_n 74 X dX11_open_74 0 rfl rfl ?_
          refine ww_aload_n 75 X dX11_open_75 0 rfl rfl ?_
          obtain ⟨v76, e76, h⟩ := bO_some h
          refine ww_getR 76 X dX11_open_76 fG_X11_34 e76 ?_
          refine ww_iconst 79 X (v := (0 : Int32)) dX11_open_79 (by decide) ?_
          refine ww_aload_n 80 X dX11_open_80 0 rfl rfl ?_
          obtain ⟨v81, e81, h⟩ := bO_some h
          refine ww_getR 81 X dX11_open_81 fG_X11_34 e81 ?_
          obtain ⟨v84, e84, h⟩ := bO_some h
          refine ww_getI 84 X dX11_open_84 fG_X11_113 e84 ?_
          obtain ⟨_, f87, h⟩ := bO_some h
          obtain ⟨v87, M87, e87, h⟩ := bP_some h
          refine ww_callVI0 87 X dX11_open_87 mY_X11_show mL_X11_176 (rcv_spec f87) ⟨_, _, rfl⟩ (by decide) (As := [.ref v76, .int (0 : Int32), .int v84]) (rest := []) rfl rfl ⟨Nat.le_of_ble_eq_true rfl, Nat.le_of_ble_eq_true rfl⟩ (Nat.le_of_ble_eq_true rfl) (fun l D A => c_X11_show l D A e87) ?_
          exact ww_iretE 90 X hQ dX11_open_90 h
        · replace h := (if_pos q).symm.trans h
          refine ww_iconst 72 X (v := (-1 : Int32)) dX11_open_72 (by decide) ?_
          exact ww_iretE 73 X hQ dX11_open_73 h
      · replace h := (if_pos q).symm.trans h
        refine ww_bipush 28 X (v := (-2 : Int32)) dX11_open_28 (by decide) ?_
        exact ww_iretE 30 X hQ dX11_open_30 h
theorem c_X11_open {G : mG} {F sz : Nat} {r0 : Int32} {M0 : mM} (l : Launch) (D : mD) (A : Nat → Prop) {l0 : Nat} {l1 : Int32} {l2 : Int32} {l3 : Int32} {l4 : Int32} {l5 : Int32} {M : mM} (h : P_X11_open G F l0 l1 l2 l3 l4 l5 M = some (r0, M0)) : mMetI l D G A yX11_open cX11_open 6 (some .int) 6 170 0 0 [.ref l0, .int l1, .int l2, .int l3, .int l4, .int l5] M sz r0 M0 sz := mMetI_of l D G A (by decide) (Nat.le_of_ble_eq_true rfl) (fun x X hQ => wP_X11_open X hQ h)
/-! SealedTokens.power(III)I -/
theorem dX11_power_0 : decode cX11_power 0 = .ok (.aload_n 0, 1) := by decide +kernel
theorem dX11_power_1 : decode cX11_power 1 = .ok (.iload_n 1, 1) := by decide +kernel
theorem dX11_power_2 : decode cX11_power 2 = .ok (.invokevirtual 123, 3) := by decide +kernel
theorem dX11_power_5 : decode cX11_power 5 = .ok (.ifCond .eq 19, 3) := by decide +kernel
theorem dX11_power_8 : decode cX11_power 8 = .ok (.aload_n 0, 1) := by decide +kernel
theorem dX11_power_9 : decode cX11_power 9 = .ok (.iload_n 2, 1) := by decide +kernel
theorem dX11_power_10 : decode cX11_power 10 = .ok (.invokevirtual 123, 3) := by decide +kernel
theorem dX11_power_13 : decode cX11_power 13 = .ok (.ifCond .eq 11, 3) := by decide +kernel
theorem dX11_power_16 : decode cX11_power 16 = .ok (.aload_n 0, 1) := by decide +kernel
theorem dX11_power_17 : decode cX11_power 17 = .ok (.iload_n 3, 1) := by decide +kernel
theorem dX11_power_18 : decode cX11_power 18 = .ok (.invokevirtual 123, 3) := by decide +kernel
theorem dX11_power_21 : decode cX11_power 21 = .ok (.ifCond .ne 6, 3) := by decide +kernel
theorem dX11_power_24 : decode cX11_power 24 = .ok (.bipush (-2), 2) := by decide +kernel
theorem dX11_power_26 : decode cX11_power 26 = .ok (.ireturn, 1) := by decide +kernel
theorem dX11_power_27 : decode cX11_power 27 = .ok (.aload_n 0, 1) := by decide +kernel
theorem dX11_power_28 : decode cX11_power 28 = .ok (.getfield 11, 3) := by decide +kernel
theorem dX11_power_31 : decode cX11_power 31 = .ok (.iload_n 1, 1) := by decide +kernel
theorem dX11_power_32 : decode cX11_power 32 = .ok (.aaload, 1) := by decide +kernel
theorem dX11_power_33 : decode cX11_power 33 = .ok (.getfield 113, 3) := by decide +kernel
theorem dX11_power_36 : decode cX11_power 36 = .ok (.sipush 128, 3) := by decide +kernel
theorem dX11_power_39 : decode cX11_power 39 = .ok (.if_icmp .gt 30, 3) := by decide +kernel
theorem dX11_power_42 : decode cX11_power 42 = .ok (.aload_n 0, 1) := by decide +kernel
theorem dX11_power_43 : decode cX11_power 43 = .ok (.getfield 11, 3) := by decide +kernel
theorem dX11_power_46 : decode cX11_power 46 = .ok (.iload_n 2, 1) := by decide +kernel
theorem dX11_power_47 : decode cX11_power 47 = .ok (.aaload, 1) := by decide +kernel
theorem dX11_power_48 : decode cX11_power 48 = .ok (.getfield 113, 3) := by decide +kernel
theorem dX11_power_51 : decode cX11_power 51 = .ok (.sipush 128, 3) := by decide +kernel
theorem dX11_power_54 : decode cX11_power 54 = .ok (.if_icmp .gt 15, 3) := by decide +kernel
theorem dX11_power_57 : decode cX11_power 57 = .ok (.aload_n 0, 1) := by decide +kernel
theorem dX11_power_58 : decode cX11_power 58 = .ok (.getfield 11, 3) := by decide +kernel
theorem dX11_power_61 : decode cX11_power 61 = .ok (.iload_n 3, 1) := by decide +kernel
theorem dX11_power_62 : decode cX11_power 62 = .ok (.aaload, 1) := by decide +kernel
theorem dX11_power_63 : decode cX11_power 63 = .ok (.invokestatic 271, 3) := by decide +kernel
theorem dX11_power_66 : decode cX11_power 66 = .ok (.ifCond .ne 6, 3) := by decide +kernel
theorem dX11_power_69 : decode cX11_power 69 = .ok (.bipush (-2), 2) := by decide +kernel
theorem dX11_power_71 : decode cX11_power 71 = .ok (.ireturn, 1) := by decide +kernel
theorem dX11_power_72 : decode cX11_power 72 = .ok (.aload_n 0, 1) := by decide +kernel
theorem dX11_power_73 : decode cX11_power 73 = .ok (.getfield 95, 3) := by decide +kernel
theorem dX11_power_76 : decode cX11_power 76 = .ok (.aload_n 0, 1) := by decide +kernel
theorem dX11_power_77 : decode cX11_power 77 = .ok (.getfield 11, 3) := by decide +kernel
theorem dX11_power_80 : decode cX11_power 80 = .ok (.iload_n 1, 1) := by decide +kernel
theorem dX11_power_81 : decode cX11_power 81 = .ok (.aaload, 1) := by decide +kernel
theorem dX11_power_82 : decode cX11_power 82 = .ok (.aload_n 0, 1) := by decide +kernel
theorem dX11_power_83 : decode cX11_power 83 = .ok (.getfield 11, 3) := by decide +kernel
theorem dX11_power_86 : decode cX11_power 86 = .ok (.iload_n 2, 1) := by decide +kernel
theorem dX11_power_87 : decode cX11_power 87 = .ok (.aaload, 1) := by decide +kernel
theorem dX11_power_88 : decode cX11_power 88 = .ok (.aload_n 0, 1) := by decide +kernel
theorem dX11_power_89 : decode cX11_power 89 = .ok (.getfield 11, 3) := by decide +kernel
theorem dX11_power_92 : decode cX11_power 92 = .ok (.iload_n 3, 1) := by decide +kernel
theorem dX11_power_93 : decode cX11_power 93 = .ok (.aaload, 1) := by decide +kernel
theorem dX11_power_94 : decode cX11_power 94 = .ok (.aload_n 0, 1) := by decide +kernel
theorem dX11_power_95 : decode cX11_power 95 = .ok (.getfield 22, 3) := by decide +kernel
theorem dX11_power_98 : decode cX11_power 98 = .ok (.invokevirtual 275, 3) := by decide +kernel
theorem dX11_power_101 : decode cX11_power 101 = .ok (.aload_n 0, 1) := by decide +kernel
theorem dX11_power_102 : decode cX11_power 102 = .ok (.getfield 22, 3) := by decide +kernel
theorem dX11_power_105 : decode cX11_power 105 = .ok (.getfield 113, 3) := by decide +kernel
theorem dX11_power_108 : decode cX11_power 108 = .ok (.ireturn, 1) := by decide +kernel
abbrev rmX11_power : Room := { frames := 5, cells := 0, slots := 0, locals := 168 }
set_option maxHeartbeats 4000000 in
set_option maxRecDepth 100000 in
theorem wP_X11_power {G : mG} {F : Nat} {x : mXT} {sz : Nat} {r0 : Int32} {M0 : mM} (X : mCX G RX11 cX11_power 4 (some .int) "power" rmX11_power x) (hQ : mQI x r0 M0 (sz, 0, 0)) {l0 : Nat} {l1 : Int32} {l2 : Int32} {l3 : Int32} {M : mM} (h : P_X11_power G F l0 l1 l2 l3 M = some (r0, M0)) : WW x (sz, 0, 0) M 0 [(0, .ref l0), (1, .int l1), (2, .int l2), (3, .int l3)] [] := by
  unfold P_X11_power at h
  refine ww_aload_n 0 X dX11_power_0 0 rfl rfl ?_
  refine ww_iload_n 1 X dX11_power_1 1 rfl rfl ?_
  obtain ⟨_, f2, h⟩ := bO_some h
  obtain ⟨v2, M2, e2, h⟩ := bP_some h
  refine ww_callVI0 2 X dX11_power_2 mY_X11_isRow mL_X11_123 (rcv_spec f2) ⟨_, _, rfl⟩ (by decide) (As := [.int l1]) (rest := []) rfl rfl ⟨Nat.le_of_ble_eq_true rfl, Nat.le_of_ble_eq_true rfl⟩ (Nat.le_of_ble_eq_true rfl) (fun l D A => c_X11_isRow l D A e2) ?_
  refine ww_if_eq 5 24 X dX11_power_5 (by decide) (fun q => ?_) (fun q => ?_)
  · replace h := (if_pos q).symm.trans h
    refine ww_bipush 24 X (v := (-2 : Int32)) dX11_power_24 (by decide) ?_
    exact ww_iretE 26 X hQ dX11_power_26 h
  · replace h := (if_neg q).symm.trans h
    refine ww_aload_n 8 X dX11_power_8 0 rfl rfl ?_
    refine ww_iload_n 9 X dX11_power_9 2 rfl rfl ?_
    obtain ⟨_, f10, h⟩ := bO_some h
    obtain ⟨v10, M10, e10, h⟩ := bP_some h
    refine ww_callVI0 10 X dX11_power_10 mY_X11_isRow mL_X11_123 (rcv_spec f10) ⟨_, _, rfl⟩ (by decide) (As := [.int l2]) (rest := []) rfl rfl ⟨Nat.le_of_ble_eq_true rfl, Nat.le_of_ble_eq_true rfl⟩ (Nat.le_of_ble_eq_true rfl) (fun l D A => c_X11_isRow l D A e10) ?_
    refine ww_if_eq 13 24 X dX11_power_13 (by decide) (fun q => ?_) (fun q => ?_)
    · replace h := (if_pos q).symm.trans h
      refine ww_bipush 24 X (v := (-2 : Int32)) dX11_power_24 (by decide) ?_
      exact ww_iretE 26 X hQ dX11_power_26 h
    · replace h := (if_neg q).symm.trans h
      refine ww_aload_n 16 X dX11_power_16 0 rfl rfl ?_
      refine ww_iload_n 17 X dX11_power_17 3 rfl rfl ?_
      obtain ⟨_, f18, h⟩ := bO_some h
      obtain ⟨v18, M18, e18, h⟩ := bP_some h
      refine ww_callVI0 18 X dX11_power_18 mY_X11_isRow mL_X11_123 (rcv_spec f18) ⟨_, _, rfl⟩ (by decide) (As := [.int l3]) (rest := []) rfl rfl ⟨Nat.le_of_ble_eq_true rfl, Nat.le_of_ble_eq_true rfl⟩ (Nat.le_of_ble_eq_true rfl) (fun l D A => c_X11_isRow l D A e18) ?_
      refine ww_if_ne 21 27 X dX11_power_21 (by decide) (fun q => ?_) (fun q => ?_)
      · replace h := (if_neg q).symm.trans h
        refine ww_aload_n 27 X dX11_power_27 0 rfl rfl ?_
        obtain ⟨v28, e28, h⟩ := bO_some h
        refine ww_getR 28 X dX11_power_28 fG_X11_11 e28 ?_
        refine ww_iload_n 31 X dX11_power_31 1 rfl rfl ?_
        obtain ⟨v32, e32, h⟩ := bO_some h
        refine ww_aald4 32 X dX11_power_32 e32 ?_
        obtain ⟨v33, e33, h⟩ := bO_some h
        refine ww_getI 33 X dX11_power_33 fG_X11_113 e33 ?_
        refine ww_sipush 36 X (v := (128 : Int32)) dX11_power_36 (by decide) ?_
        refine ww_icmp_gt 39 69 X dX11_power_39 (by decide) (fun q => ?_) (fun q => ?_)
        · replace h := (if_pos q).symm.trans h
          refine ww_bipush 69 X (v := (-2 : Int32)) dX11_power_69 (by decide) ?_
          exact ww_iretE 71 X hQ dX11_power_71 h
        · replace h := (if_neg q).symm.trans h
          refine ww_aload_n 42 X dX11_power_42 0 rfl rfl ?_
          obtain ⟨v43, e43, h⟩ := bO_some h
          refine ww_getR 43 X dX11_power_43 fG_X11_11 e43 ?_
          refine ww_iload_n 46 X dX11_power_46 2 rfl rfl ?_
          obtain ⟨v47, e47, h⟩ := bO_some h
          refine ww_aald4 47 X dX11_power_47 e47 ?_
          obtain ⟨v48, e48, h⟩ := bO_some h
          refine ww_getI 48 X dX11_power_48 fG_X11_113 e48 ?_
          refine ww_sipush 51 X (v := (128 : Int32)) dX11_power_51 (by decide) ?_
          refine ww_icmp_gt 54 69 X dX11_power_54 (by decide) (fun q => ?_) (fun q => ?_)
          · replace h := (if_pos q).symm.trans h
            refine ww_bipush 69 X (v := (-2 : Int32)) dX11_power_69 (by decide) ?_
            exact ww_iretE 71 X hQ dX11_power_71 h
          · replace h := (if_neg q).symm.trans h
            refine ww_aload_n 57 X dX11_power_57 0 rfl rfl ?_
            obtain ⟨v58, e58, h⟩ := bO_some h
            refine ww_getR 58 X dX11_power_58 fG_X11_11 e58 ?_
            refine ww_iload_n 61 X dX11_power_61 3 rfl rfl ?_
            obtain ⟨v62, e62, h⟩ := bO_some h
            refine ww_aald4 62 X dX11_power_62 e62 ?_
            obtain ⟨v63, M63, e63, h⟩ := bP_some h
            refine ww_callSI0 63 X dX11_power_63 mY_X6_suits mL_X11_271 (As := [.ref v62]) (rest := []) rfl rfl ⟨Nat.le_of_ble_eq_true rfl, Nat.le_of_ble_eq_true rfl⟩ (Nat.le_of_ble_eq_true rfl) (fun l D A => c_X6_suits l D A e63) ?_
            refine ww_if_ne 66 72 X dX11_power_66 (by decide) (fun q => ?_) (fun q => ?_)
            · replace h := (if_neg q).symm.trans h
              refine ww_aload_n 72 X dX11_power_72 0 rfl rfl ?_
              obtain ⟨v73, e73, h⟩ := bO_some h
              refine ww_getR 73 X dX11_power_73 fG_X11_95 e73 ?_
              refine ww_aload_n 76 X dX11_power_76 0 rfl rfl ?_
              obtain ⟨v77, e77, h⟩ := bO_some h
              refine ww_getR 77 X dX11_power_77 fG_X11_11 e77 ?_
              refine ww_iload_n 80 X dX11_power_80 1 rfl rfl ?_
              obtain ⟨v81, e81, h⟩ := bO_some h
              refine ww_aald4 81 X dX11_power_81 e81 ?_
              refine ww_aload_n 82 X dX11_power_82 0 rfl rfl ?_
              obtain ⟨v83, e83, h⟩ := bO_some h
              refine ww_getR 83 X dX11_power_83 fG_X11_11 e83 ?_
              refine ww_iload_n 86 X dX11_power_86 2 rfl rfl ?_
              obtain ⟨v87, e87, h⟩ := bO_some h
              refine ww_aald4 87 X dX11_power_87 e87 ?_
              refine ww_aload_n 88 X dX11_power_88 0 rfl rfl ?_
              obtain ⟨v89, e89, h⟩ := bO_some h
              refine ww_getR 89 X dX11_power_89 fG_X11_11 e89 ?_
              refine ww_iload_n 92 X dX11_power_92 3 rfl rfl ?_
              obtain ⟨v93, e93, h⟩ := bO_some h
              refine ww_aald4 93 X dX11_power_93 e93 ?_
              refine ww_aload_n 94 X dX11_power_94 0 rfl rfl ?_
              obtain ⟨v95, e95, h⟩ := bO_some h
              refine ww_getR 95 X dX11_power_95 fG_X11_22 e95 ?_
              obtain ⟨_, f98, h⟩ := bO_some h
              obtain ⟨M98, e98, h⟩ := bO_some h
              refine ww_callVV0 98 X dX11_power_98 mY_X8_raise mL_X11_275 (rcv_spec f98) ⟨_, _, rfl⟩ (by decide) (As := [.ref v81, .ref v87, .ref v93, .ref v95]) (rest := []) rfl rfl ⟨Nat.le_of_ble_eq_true rfl, Nat.le_of_ble_eq_true rfl⟩ (Nat.le_of_ble_eq_true rfl) (fun l D A => c_X8_raise l D A e98) ?_
              refine ww_aload_n 101 X dX11_power_101 0 rfl rfl ?_
              obtain ⟨v102, e102, h⟩ := bO_some h
              refine ww_getR 102 X dX11_power_102 fG_X11_22 e102 ?_
              obtain ⟨v105, e105, h⟩ := bO_some h
              refine ww_getI 105 X dX11_power_105 fG_X11_113 e105 ?_
              exact ww_iretE 108 X hQ dX11_power_108 h
            · replace h := (if_pos q).symm.trans h
              refine ww_bipush 69 X (v := (-2 : Int32)) dX11_power_69 (by decide) ?_
              exact ww_iretE 71 X hQ dX11_power_71 h
      · replace h := (if_pos q).symm.trans h
        refine ww_bipush 24 X (v := (-2 : Int32)) dX11_power_24 (by decide) ?_
        exact ww_iretE 26 X hQ dX11_power_26 h
theorem c_X11_power {G : mG} {F sz : Nat} {r0 : Int32} {M0 : mM} (l : Launch) (D : mD) (A : Nat → Prop) {l0 : Nat} {l1 : Int32} {l2 : Int32} {l3 : Int32} {M : mM} (h : P_X11_power G F l0 l1 l2 l3 M = some (r0, M0)) : mMetI l D G A yX11_power cX11_power 4 (some .int) 5 168 0 0 [.ref l0, .int l1, .int l2, .int l3] M sz r0 M0 sz := mMetI_of l D G A (by decide) (Nat.le_of_ble_eq_true rfl) (fun x X hQ => wP_X11_power X hQ h)
/-! SealedTokens.multiply(II)I -/
theorem dX11_multiply_0 : decode cX11_multiply 0 = .ok (.aload_n 0, 1) := by decide +kernel
theorem dX11_multiply_1 : decode cX11_multiply 1 = .ok (.iload_n 1, 1) := by decide +kernel
theorem dX11_multiply_2 : decode cX11_multiply 2 = .ok (.invokevirtual 123, 3) := by decide +kernel
theorem dX11_multiply_5 : decode cX11_multiply 5 = .ok (.ifCond .eq 30, 3) := by decide +kernel
theorem dX11_multiply_8 : decode cX11_multiply 8 = .ok (.aload_n 0, 1) := by decide +kernel
theorem dX11_multiply_9 : decode cX11_multiply 9 = .ok (.getfield 11, 3) := by decide +kernel
theorem dX11_multiply_12 : decode cX11_multiply 12 = .ok (.iload_n 1, 1) := by decide +kernel
theorem dX11_multiply_13 : decode cX11_multiply 13 = .ok (.aaload, 1) := by decide +kernel
theorem dX11_multiply_14 : decode cX11_multiply 14 = .ok (.getfield 113, 3) := by decide +kernel
theorem dX11_multiply_17 : decode cX11_multiply 17 = .ok (.bipush 32, 2) := by decide +kernel
theorem dX11_multiply_19 : decode cX11_multiply 19 = .ok (.if_icmp .ne 16, 3) := by decide +kernel
theorem dX11_multiply_22 : decode cX11_multiply 22 = .ok (.iload_n 2, 1) := by decide +kernel
theorem dX11_multiply_23 : decode cX11_multiply 23 = .ok (.iconst (-1), 1) := by decide +kernel
theorem dX11_multiply_24 : decode cX11_multiply 24 = .ok (.if_icmp .eq 14, 3) := by decide +kernel
theorem dX11_multiply_27 : decode cX11_multiply 27 = .ok (.aload_n 0, 1) := by decide +kernel
theorem dX11_multiply_28 : decode cX11_multiply 28 = .ok (.iload_n 2, 1) := by decide +kernel
theorem dX11_multiply_29 : decode cX11_multiply 29 = .ok (.invokevirtual 123, 3) := by decide +kernel
theorem dX11_multiply_32 : decode cX11_multiply 32 = .ok (.ifCond .ne 6, 3) := by decide +kernel
theorem dX11_multiply_35 : decode cX11_multiply 35 = .ok (.bipush (-2), 2) := by decide +kernel
theorem dX11_multiply_37 : decode cX11_multiply 37 = .ok (.ireturn, 1) := by decide +kernel
theorem dX11_multiply_38 : decode cX11_multiply 38 = .ok (.iload_n 2, 1) := by decide +kernel
theorem dX11_multiply_39 : decode cX11_multiply 39 = .ok (.iconst (-1), 1) := by decide +kernel
theorem dX11_multiply_40 : decode cX11_multiply 40 = .ok (.if_icmp .eq 36, 3) := by decide +kernel
theorem dX11_multiply_43 : decode cX11_multiply 43 = .ok (.aload_n 0, 1) := by decide +kernel
theorem dX11_multiply_44 : decode cX11_multiply 44 = .ok (.getfield 11, 3) := by decide +kernel
theorem dX11_multiply_47 : decode cX11_multiply 47 = .ok (.iload_n 2, 1) := by decide +kernel
theorem dX11_multiply_48 : decode cX11_multiply 48 = .ok (.aaload, 1) := by decide +kernel
theorem dX11_multiply_49 : decode cX11_multiply 49 = .ok (.getfield 113, 3) := by decide +kernel
theorem dX11_multiply_52 : decode cX11_multiply 52 = .ok (.bipush 64, 2) := by decide +kernel
theorem dX11_multiply_54 : decode cX11_multiply 54 = .ok (.if_icmp .ne 19, 3) := by decide +kernel
theorem dX11_multiply_57 : decode cX11_multiply 57 = .ok (.aload_n 0, 1) := by decide +kernel
theorem dX11_multiply_58 : decode cX11_multiply 58 = .ok (.getfield 102, 3) := by decide +kernel
theorem dX11_multiply_61 : decode cX11_multiply 61 = .ok (.aload_n 0, 1) := by decide +kernel
theorem dX11_multiply_62 : decode cX11_multiply 62 = .ok (.getfield 11, 3) := by decide +kernel
theorem dX11_multiply_65 : decode cX11_multiply 65 = .ok (.iload_n 2, 1) := by decide +kernel
theorem dX11_multiply_66 : decode cX11_multiply 66 = .ok (.aaload, 1) := by decide +kernel
theorem dX11_multiply_67 : decode cX11_multiply 67 = .ok (.invokevirtual 279, 3) := by decide +kernel
theorem dX11_multiply_70 : decode cX11_multiply 70 = .ok (.ifCond .ne 6, 3) := by decide +kernel
theorem dX11_multiply_73 : decode cX11_multiply 73 = .ok (.bipush (-2), 2) := by decide +kernel
theorem dX11_multiply_75 : decode cX11_multiply 75 = .ok (.ireturn, 1) := by decide +kernel
theorem dX11_multiply_76 : decode cX11_multiply 76 = .ok (.aload_n 0, 1) := by decide +kernel
theorem dX11_multiply_77 : decode cX11_multiply 77 = .ok (.getfield 102, 3) := by decide +kernel
theorem dX11_multiply_80 : decode cX11_multiply 80 = .ok (.aload_n 0, 1) := by decide +kernel
theorem dX11_multiply_81 : decode cX11_multiply 81 = .ok (.getfield 11, 3) := by decide +kernel
theorem dX11_multiply_84 : decode cX11_multiply 84 = .ok (.iload_n 1, 1) := by decide +kernel
theorem dX11_multiply_85 : decode cX11_multiply 85 = .ok (.aaload, 1) := by decide +kernel
theorem dX11_multiply_86 : decode cX11_multiply 86 = .ok (.iload_n 2, 1) := by decide +kernel
theorem dX11_multiply_87 : decode cX11_multiply 87 = .ok (.iconst (-1), 1) := by decide +kernel
theorem dX11_multiply_88 : decode cX11_multiply 88 = .ok (.if_icmp .ne 13, 3) := by decide +kernel
theorem dX11_multiply_91 : decode cX11_multiply 91 = .ok (.aload_n 0, 1) := by decide +kernel
theorem dX11_multiply_92 : decode cX11_multiply 92 = .ok (.getfield 102, 3) := by decide +kernel
theorem dX11_multiply_95 : decode cX11_multiply 95 = .ok (.getfield 282, 3) := by decide +kernel
theorem dX11_multiply_98 : decode cX11_multiply 98 = .ok (.goto 10, 3) := by decide +kernel
theorem dX11_multiply_101 : decode cX11_multiply 101 = .ok (.aload_n 0, 1) := by decide +kernel
theorem dX11_multiply_102 : decode cX11_multiply 102 = .ok (.getfield 102, 3) := by decide +kernel
theorem dX11_multiply_105 : decode cX11_multiply 105 = .ok (.getfield 286, 3) := by decide +kernel
theorem dX11_multiply_108 : decode cX11_multiply 108 = .ok (.aload_n 0, 1) := by decide +kernel
theorem dX11_multiply_109 : decode cX11_multiply 109 = .ok (.getfield 25, 3) := by decide +kernel
theorem dX11_multiply_112 : decode cX11_multiply 112 = .ok (.aload_n 0, 1) := by decide +kernel
theorem dX11_multiply_113 : decode cX11_multiply 113 = .ok (.getfield 102, 3) := by decide +kernel
theorem dX11_multiply_116 : decode cX11_multiply 116 = .ok (.getfield 282, 3) := by decide +kernel
theorem dX11_multiply_119 : decode cX11_multiply 119 = .ok (.invokevirtual 289, 3) := by decide +kernel
theorem dX11_multiply_122 : decode cX11_multiply 122 = .ok (.aload_n 0, 1) := by decide +kernel
theorem dX11_multiply_123 : decode cX11_multiply 123 = .ok (.getfield 102, 3) := by decide +kernel
theorem dX11_multiply_126 : decode cX11_multiply 126 = .ok (.aload_n 0, 1) := by decide +kernel
theorem dX11_multiply_127 : decode cX11_multiply 127 = .ok (.getfield 22, 3) := by decide +kernel
theorem dX11_multiply_130 : decode cX11_multiply 130 = .ok (.invokevirtual 293, 3) := by decide +kernel
theorem dX11_multiply_133 : decode cX11_multiply 133 = .ok (.ifCond .eq 13, 3) := by decide +kernel
theorem dX11_multiply_136 : decode cX11_multiply 136 = .ok (.aload_n 0, 1) := by decide +kernel
theorem dX11_multiply_137 : decode cX11_multiply 137 = .ok (.getfield 22, 3) := by decide +kernel
theorem dX11_multiply_140 : decode cX11_multiply 140 = .ok (.getfield 113, 3) := by decide +kernel
theorem dX11_multiply_143 : decode cX11_multiply 143 = .ok (.goto 4, 3) := by decide +kernel
theorem dX11_multiply_146 : decode cX11_multiply 146 = .ok (.iconst (-1), 1) := by decide +kernel
theorem dX11_multiply_147 : decode cX11_multiply 147 = .ok (.ireturn, 1) := by decide +kernel
abbrev rmX11_multiply : Room := { frames := 5, cells := 0, slots := 0, locals := 167 }
set_option maxHeartbeats 4000000 in
set_option maxRecDepth 100000 in
theorem wB_X11_multiply_108 {G : mG} {F : Nat} {x : mXT} {sz : Nat} {r0 : Int32} {M0 : mM} (X : mCX G RX11 cX11_multiply 3 (some .int) "multiply" rmX11_multiply x) (hQ : mQI x r0 M0 (sz, 0, 0)) {l0 : Nat} {sk0 : Nat} {sk1 : Nat} {sk2 : Nat} {M : mM} (h : B_X11_multiply_108 G F l0 sk0 sk1 sk2 M = some (r0, M0)) : WW x (sz, 0, 0) M 108 [(0, .ref l0)] [.ref sk2, .ref sk1, .ref sk0] := by
  unfold B_X11_multiply_108 at h
  refine ww_aload_n 108 X dX11_multiply_108 0 rfl rfl ?_
  obtain ⟨v109, e109, h⟩ := bO_some h
  refine ww_getR 109 X dX11_multiply_109 fG_X11_25 e109 ?_
  refine ww_aload_n 112 X dX11_multiply_112 0 rfl rfl ?_
  obtain ⟨v113, e113, h⟩ := bO_some h
  refine ww_getR 113 X dX11_multiply_113 fG_X11_102 e113 ?_
  obtain ⟨v116, e116, h⟩ := bO_some h
  refine ww_getR 116 X dX11_multiply_116 fG_X11_282 e116 ?_
  obtain ⟨_, f119, h⟩ := bO_some h
  obtain ⟨M119, e119, h⟩ := bO_some h
  refine ww_callVV0 119 X dX11_multiply_119 mY_X3_sumUp mL_X11_289 (rcv_spec f119) ⟨_, _, rfl⟩ (by decide) (As := [.ref sk1, .ref sk2, .ref v109, .ref v116]) (rest := []) rfl rfl ⟨Nat.le_of_ble_eq_true rfl, Nat.le_of_ble_eq_true rfl⟩ (Nat.le_of_ble_eq_true rfl) (fun l D A => c_X3_sumUp l D A e119) ?_
  refine ww_aload_n 122 X dX11_multiply_122 0 rfl rfl ?_
  obtain ⟨v123, e123, h⟩ := bO_some h
  refine ww_getR 123 X dX11_multiply_123 fG_X11_102 e123 ?_
  refine ww_aload_n 126 X dX11_multiply_126 0 rfl rfl ?_
  obtain ⟨v127, e127, h⟩ := bO_some h
  refine ww_getR 127 X dX11_multiply_127 fG_X11_22 e127 ?_
  obtain ⟨_, f130, h⟩ := bO_some h
  obtain ⟨v130, M130, e130, h⟩ := bP_some h
  refine ww_callVI0 130 X dX11_multiply_130 mY_X3_putSum mL_X11_293 (rcv_spec f130) ⟨_, _, rfl⟩ (by decide) (As := [.ref v127]) (rest := []) rfl rfl ⟨Nat.le_of_ble_eq_true rfl, Nat.le_of_ble_eq_true rfl⟩ (Nat.le_of_ble_eq_true rfl) (fun l D A => c_X3_putSum l D A e130) ?_
  refine ww_if_eq 133 146 X dX11_multiply_133 (by decide) (fun q => ?_) (fun q => ?_)
  · replace h := (if_pos q).symm.trans h
    refine ww_iconst 146 X (v := (-1 : Int32)) dX11_multiply_146 (by decide) ?_
    exact ww_iretE 147 X hQ dX11_multiply_147 h
  · replace h := (if_neg q).symm.trans h
    refine ww_aload_n 136 X dX11_multiply_136 0 rfl rfl ?_
    obtain ⟨v137, e137, h⟩ := bO_some h
    refine ww_getR 137 X dX11_multiply_137 fG_X11_22 e137 ?_
    obtain ⟨v140, e140, h⟩ := bO_some h
    refine ww_getI 140 X dX11_multiply_140 fG_X11_113 e140 ?_
    refine ww_goto 143 147 X dX11_multiply_143 (by decide) ?_
    exact ww_iretE 147 X hQ dX11_multiply_147 h
set_option maxHeartbeats 4000000 in
set_option maxRecDepth 100000 in
theorem wB_X11_multiply_76 {G : mG} {F : Nat} {x : mXT} {sz : Nat} {r0 : Int32} {M0 : mM} (X : mCX G RX11 cX11_multiply 3 (some .int) "multiply" rmX11_multiply x) (hQ : mQI x r0 M0 (sz, 0, 0)) {l0 : Nat} {l1 : Int32} {l2 : Int32} {M : mM} (h : B_X11_multiply_76 G F l0 l1 l2 M = some (r0, M0)) : WW x (sz, 0, 0) M 76 [(0, .ref l0), (1, .int l1), (2, .int l2)] [] := by
  unfold B_X11_multiply_76 at h
  refine ww_aload_n 76 X dX11_multiply_76 0 rfl rfl ?_
  obtain ⟨v77, e77, h⟩ := bO_some h
  refine ww_getR 77 X dX11_multiply_77 fG_X11_102 e77 ?_
  refine ww_aload_n 80 X dX11_multiply_80 0 rfl rfl ?_
  obtain ⟨v81, e81, h⟩ := bO_some h
  refine ww_getR 81 X dX11_multiply_81 fG_X11_11 e81 ?_
  refine ww_iload_n 84 X dX11_multiply_84 1 rfl rfl ?_
  obtain ⟨v85, e85, h⟩ := bO_some h
  refine ww_aald4 85 X dX11_multiply_85 e85 ?_
  refine ww_iload_n 86 X dX11_multiply_86 2 rfl rfl ?_
  refine ww_iconst 87 X (v := (-1 : Int32)) dX11_multiply_87 (by decide) ?_
  refine ww_icmp_ne 88 101 X dX11_multiply_88 (by decide) (fun q => ?_) (fun q => ?_)
  · replace h := (if_neg q).symm.trans h
    refine ww_aload_n 101 X dX11_multiply_101 0 rfl rfl ?_
    obtain ⟨v102, e102, h⟩ := bO_some h
    refine ww_getR 102 X dX11_multiply_102 fG_X11_102 e102 ?_
    obtain ⟨v105, e105, h⟩ := bO_some h
    refine ww_getR 105 X dX11_multiply_105 fG_X11_286 e105 ?_
    exact ww_sub [0] rfl (wB_X11_multiply_108 X hQ h)
  · replace h := (if_pos q).symm.trans h
    refine ww_aload_n 91 X dX11_multiply_91 0 rfl rfl ?_
    obtain ⟨v92, e92, h⟩ := bO_some h
    refine ww_getR 92 X dX11_multiply_92 fG_X11_102 e92 ?_
    obtain ⟨v95, e95, h⟩ := bO_some h
    refine ww_getR 95 X dX11_multiply_95 fG_X11_282 e95 ?_
    refine ww_goto 98 108 X dX11_multiply_98 (by decide) ?_
    exact ww_sub [0] rfl (wB_X11_multiply_108 X hQ h)
set_option maxHeartbeats 4000000 in
set_option maxRecDepth 100000 in
theorem wB_X11_multiply_38 {G : mG} {F : Nat} {x : mXT} {sz : Nat} {r0 : Int32} {M0 : mM} (X : mCX G RX11 cX11_multiply 3 (some .int) "multiply" rmX11_multiply x) (hQ : mQI x r0 M0 (sz, 0, 0)) {l0 : Nat} {l1 : Int32} {l2 : Int32} {M : mM} (h : B_X11_multiply_38 G F l0 l1 l2 M = some (r0, M0)) : WW x (sz, 0, 0) M 38 [(0, .ref l0), (1, .int l1), (2, .int l2)] [] := by
  unfold B_X11_multiply_38 at h
  refine ww_iload_n 38 X dX11_multiply_38 2 rfl rfl ?_
  refine ww_iconst 39 X (v := (-1 : Int32)) dX11_multiply_39 (by decide) ?_
  refine ww_icmp_eq 40 76 X dX11_multiply_40 (by decide) (fun q => ?_) (fun q => ?_)
  · replace h := (if_pos q).symm.trans h
    exact (wB_X11_multiply_76 X hQ h)
  · replace h := (if_neg q).symm.trans h
    refine ww_aload_n 43 X dX11_multiply_43 0 rfl rfl ?_
    obtain ⟨v44, e44, h⟩ := bO_some h
    refine ww_getR 44 X dX11_multiply_44 fG_X11_11 e44 ?_
    refine ww_iload_n 47 X dX11_multiply_47 2 rfl rfl ?_
    obtain ⟨v48, e48, h⟩ := bO_some h
    refine ww_aald4 48 X dX11_multiply_48 e48 ?_
    obtain ⟨v49, e49, h⟩ := bO_some h
    refine ww_getI 49 X dX11_multiply_49 fG_X11_113 e49 ?_
    refine ww_bipush 52 X (v := (64 : Int32)) dX11_multiply_52 (by decide) ?_
    refine ww_icmp_ne 54 73 X dX11_multiply_54 (by decide) (fun q => ?_) (fun q => ?_)
    · replace h := (if_neg q).symm.trans h
      refine ww_bipush 73 X (v := (-2 : Int32)) dX11_multiply_73 (by decide) ?_
      exact ww_iretE 75 X hQ dX11_multiply_75 h
    · replace h := (if_pos q).symm.trans h
      refine ww_aload_n 57 X dX11_multiply_57 0 rfl rfl ?_
      obtain ⟨v58, e58, h⟩ := bO_some h
      refine ww_getR 58 X dX11_multiply_58 fG_X11_102 e58 ?_
      refine ww_aload_n 61 X dX11_multiply_61 0 rfl rfl ?_
      obtain ⟨v62, e62, h⟩ := bO_some h
      refine ww_getR 62 X dX11_multiply_62 fG_X11_11 e62 ?_
      refine ww_iload_n 65 X dX11_multiply_65 2 rfl rfl ?_
      obtain ⟨v66, e66, h⟩ := bO_some h
      refine ww_aald4 66 X dX11_multiply_66 e66 ?_
      obtain ⟨_, f67, h⟩ := bO_some h
      obtain ⟨v67, M67, e67, h⟩ := bP_some h
      refine ww_callVI0 67 X dX11_multiply_67 mY_X3_load mL_X11_279 (rcv_spec f67) ⟨_, _, rfl⟩ (by decide) (As := [.ref v66]) (rest := []) rfl rfl ⟨Nat.le_of_ble_eq_true rfl, Nat.le_of_ble_eq_true rfl⟩ (Nat.le_of_ble_eq_true rfl) (fun l D A => c_X3_load l D A e67) ?_
      refine ww_if_ne 70 76 X dX11_multiply_70 (by decide) (fun q => ?_) (fun q => ?_)
      · replace h := (if_neg q).symm.trans h
        exact (wB_X11_multiply_76 X hQ h)
      · replace h := (if_pos q).symm.trans h
        refine ww_bipush 73 X (v := (-2 : Int32)) dX11_multiply_73 (by decide) ?_
        exact ww_iretE 75 X hQ dX11_multiply_75 h
set_option maxHeartbeats 4000000 in
set_option maxRecDepth 100000 in
theorem wP_X11_multiply {G : mG} {F : Nat} {x : mXT} {sz : Nat} {r0 : Int32} {M0 : mM} (X : mCX G RX11 cX11_multiply 3 (some .int) "multiply" rmX11_multiply x) (hQ : mQI x r0 M0 (sz, 0, 0)) {l0 : Nat} {l1 : Int32} {l2 : Int32} {M : mM} (h : P_X11_multiply G F l0 l1 l2 M = some (r0, M0)) : WW x (sz, 0, 0) M 0 [(0, .ref l0), (1, .int l1), (2, .int l2)] [] := by
  unfold P_X11_multiply at h
  refine ww_aload_n 0 X dX11_multiply_0 0 rfl rfl ?_
  refine ww_iload_n 1 X dX11_multiply_1 1 rfl rfl ?_
  obtain ⟨_, f2, h⟩ := bO_some h
  obtain ⟨v2, M2, e2, h⟩ := bP_some h
  refine ww_callVI0 2 X dX11_multiply_2 mY_X11_isRow mL_X11_123 (rcv_spec f2) ⟨_, _, rfl⟩ (by decide) (As := [.int l1]) (rest := []) rfl rfl ⟨Nat.le_of_ble_eq_true rfl, Nat.le_of_ble_eq_true rfl⟩ (Nat.le_of_ble_eq_true rfl) (fun l D A => c_X11_isRow l D A e2) ?_
  refine ww_if_eq 5 35 X dX11_multiply_5 (by decide) (fun q => ?_) (fun q => ?_)
  · replace h := (if_pos q).symm.trans h
    refine ww_bipush 35 X (v := (-2 : Int32)) dX11_multiply_35 (by decide) ?_
    exact ww_iretE 37 X hQ dX11_multiply_37 h
  · replace h := (if_neg q).symm.trans h
    refine ww_aload_n 8 X dX11_multiply_8 0 rfl rfl ?_
    obtain ⟨v9, e9, h⟩ := bO_some h
    refine ww_getR 9 X dX11_multiply_9 fG_X11_11 e9 ?_
    refine ww_iload_n 12 X dX11_multiply_12 1 rfl rfl ?_
    obtain ⟨v13, e13, h⟩ := bO_some h
    refine ww_aald4 13 X dX11_multiply_13 e13 ?_
    obtain ⟨v14, e14, h⟩ := bO_some h
    refine ww_getI 14 X dX11_multiply_14 fG_X11_113 e14 ?_
    refine ww_bipush 17 X (v := (32 : Int32)) dX11_multiply_17 (by decide) ?_
    refine ww_icmp_ne 19 35 X dX11_multiply_19 (by decide) (fun q => ?_) (fun q => ?_)
    · replace h := (if_neg q).symm.trans h
      refine ww_bipush 35 X (v := (-2 : Int32)) dX11_multiply_35 (by decide) ?_
      exact ww_iretE 37 X hQ dX11_multiply_37 h
    · replace h := (if_pos q).symm.trans h
      refine ww_iload_n 22 X dX11_multiply_22 2 rfl rfl ?_
      refine ww_iconst 23 X (v := (-1 : Int32)) dX11_multiply_23 (by decide) ?_
      refine ww_icmp_eq 24 38 X dX11_multiply_24 (by decide) (fun q => ?_) (fun q => ?_)
      · replace h := (if_pos q).symm.trans h
        exact (wB_X11_multiply_38 X hQ h)
      · replace h := (if_neg q).symm.trans h
        refine ww_aload_n 27 X dX11_multiply_27 0 rfl rfl ?_
        refine ww_iload_n 28 X dX11_multiply_28 2 rfl rfl ?_
        obtain ⟨_, f29, h⟩ := bO_some h
        obtain ⟨v29, M29, e29, h⟩ := bP_some h
        refine ww_callVI0 29 X dX11_multiply_29 mY_X11_isRow mL_X11_123 (rcv_spec f29) ⟨_, _, rfl⟩ (by decide) (As := [.int l2]) (rest := []) rfl rfl ⟨Nat.le_of_ble_eq_true rfl, Nat.le_of_ble_eq_true rfl⟩ (Nat.le_of_ble_eq_true rfl) (fun l D A => c_X11_isRow l D A e29) ?_
        refine ww_if_ne 32 38 X dX11_multiply_32 (by decide) (fun q => ?_) (fun q => ?_)
        · replace h := (if_neg q).symm.trans h
          exact (wB_X11_multiply_38 X hQ h)
        · replace h := (if_pos q).symm.trans h
          refine ww_bipush 35 X (v := (-2 : Int32)) dX11_multiply_35 (by decide) ?_
          exact ww_iretE 37 X hQ dX11_multiply_37 h
theorem c_X11_multiply {G : mG} {F sz : Nat} {r0 : Int32} {M0 : mM} (l : Launch) (D : mD) (A : Nat → Prop) {l0 : Nat} {l1 : Int32} {l2 : Int32} {M : mM} (h : P_X11_multiply G F l0 l1 l2 M = some (r0, M0)) : mMetI l D G A yX11_multiply cX11_multiply 3 (some .int) 5 167 0 0 [.ref l0, .int l1, .int l2] M sz r0 M0 sz := mMetI_of l D G A (by decide) (Nat.le_of_ble_eq_true rfl) (fun x X hQ => wP_X11_multiply X hQ h)
/-! SealedTokens.derive(IIIII)I -/
theorem dX11_derive_0 : decode cX11_derive 0 = .ok (.aload_n 0, 1) := by decide +kernel
theorem dX11_derive_1 : decode cX11_derive 1 = .ok (.iload_n 1, 1) := by decide +kernel
theorem dX11_derive_2 : decode cX11_derive 2 = .ok (.invokevirtual 123, 3) := by decide +kernel
theorem dX11_derive_5 : decode cX11_derive 5 = .ok (.ifCond .eq 49, 3) := by decide +kernel
theorem dX11_derive_8 : decode cX11_derive 8 = .ok (.aload_n 0, 1) := by decide +kernel
theorem dX11_derive_9 : decode cX11_derive 9 = .ok (.iload_n 2, 1) := by decide +kernel
theorem dX11_derive_10 : decode cX11_derive 10 = .ok (.invokevirtual 123, 3) := by decide +kernel
theorem dX11_derive_13 : decode cX11_derive 13 = .ok (.ifCond .eq 41, 3) := by decide +kernel
theorem dX11_derive_16 : decode cX11_derive 16 = .ok (.aload_n 0, 1) := by decide +kernel
theorem dX11_derive_17 : decode cX11_derive 17 = .ok (.iload_n 3, 1) := by decide +kernel
theorem dX11_derive_18 : decode cX11_derive 18 = .ok (.invokevirtual 123, 3) := by decide +kernel
theorem dX11_derive_21 : decode cX11_derive 21 = .ok (.ifCond .eq 33, 3) := by decide +kernel
theorem dX11_derive_24 : decode cX11_derive 24 = .ok (.aload_n 0, 1) := by decide +kernel
theorem dX11_derive_25 : decode cX11_derive 25 = .ok (.iload 4, 2) := by decide +kernel
theorem dX11_derive_27 : decode cX11_derive 27 = .ok (.invokevirtual 123, 3) := by decide +kernel
theorem dX11_derive_30 : decode cX11_derive 30 = .ok (.ifCond .eq 24, 3) := by decide +kernel
theorem dX11_derive_33 : decode cX11_derive 33 = .ok (.iload 5, 2) := by decide +kernel
theorem dX11_derive_35 : decode cX11_derive 35 = .ok (.bipush 16, 2) := by decide +kernel
theorem dX11_derive_37 : decode cX11_derive 37 = .ok (.if_icmp .eq 20, 3) := by decide +kernel
theorem dX11_derive_40 : decode cX11_derive 40 = .ok (.iload 5, 2) := by decide +kernel
theorem dX11_derive_42 : decode cX11_derive 42 = .ok (.bipush 32, 2) := by decide +kernel
theorem dX11_derive_44 : decode cX11_derive 44 = .ok (.if_icmp .eq 13, 3) := by decide +kernel
theorem dX11_derive_47 : decode cX11_derive 47 = .ok (.iload 5, 2) := by decide +kernel
theorem dX11_derive_49 : decode cX11_derive 49 = .ok (.bipush 64, 2) := by decide +kernel
theorem dX11_derive_51 : decode cX11_derive 51 = .ok (.if_icmp .eq 6, 3) := by decide +kernel
theorem dX11_derive_54 : decode cX11_derive 54 = .ok (.bipush (-2), 2) := by decide +kernel
theorem dX11_derive_56 : decode cX11_derive 56 = .ok (.ireturn, 1) := by decide +kernel
theorem dX11_derive_57 : decode cX11_derive 57 = .ok (.aload_n 0, 1) := by decide +kernel
theorem dX11_derive_58 : decode cX11_derive 58 = .ok (.getfield 70, 3) := by decide +kernel
theorem dX11_derive_61 : decode cX11_derive 61 = .ok (.aload_n 0, 1) := by decide +kernel
theorem dX11_derive_62 : decode cX11_derive 62 = .ok (.getfield 11, 3) := by decide +kernel
theorem dX11_derive_65 : decode cX11_derive 65 = .ok (.iload_n 1, 1) := by decide +kernel
theorem dX11_derive_66 : decode cX11_derive 66 = .ok (.aaload, 1) := by decide +kernel
theorem dX11_derive_67 : decode cX11_derive 67 = .ok (.aload_n 0, 1) := by decide +kernel
theorem dX11_derive_68 : decode cX11_derive 68 = .ok (.getfield 11, 3) := by decide +kernel
theorem dX11_derive_71 : decode cX11_derive 71 = .ok (.iload_n 2, 1) := by decide +kernel
theorem dX11_derive_72 : decode cX11_derive 72 = .ok (.aaload, 1) := by decide +kernel
theorem dX11_derive_73 : decode cX11_derive 73 = .ok (.aload_n 0, 1) := by decide +kernel
theorem dX11_derive_74 : decode cX11_derive 74 = .ok (.getfield 11, 3) := by decide +kernel
theorem dX11_derive_77 : decode cX11_derive 77 = .ok (.iload_n 3, 1) := by decide +kernel
theorem dX11_derive_78 : decode cX11_derive 78 = .ok (.aaload, 1) := by decide +kernel
theorem dX11_derive_79 : decode cX11_derive 79 = .ok (.aload_n 0, 1) := by decide +kernel
theorem dX11_derive_80 : decode cX11_derive 80 = .ok (.getfield 11, 3) := by decide +kernel
theorem dX11_derive_83 : decode cX11_derive 83 = .ok (.iload 4, 2) := by decide +kernel
theorem dX11_derive_85 : decode cX11_derive 85 = .ok (.aaload, 1) := by decide +kernel
theorem dX11_derive_86 : decode cX11_derive 86 = .ok (.iload 5, 2) := by decide +kernel
theorem dX11_derive_88 : decode cX11_derive 88 = .ok (.aload_n 0, 1) := by decide +kernel
theorem dX11_derive_89 : decode cX11_derive 89 = .ok (.getfield 22, 3) := by decide +kernel
theorem dX11_derive_92 : decode cX11_derive 92 = .ok (.invokevirtual 296, 3) := by decide +kernel
theorem dX11_derive_95 : decode cX11_derive 95 = .ok (.aload_n 0, 1) := by decide +kernel
theorem dX11_derive_96 : decode cX11_derive 96 = .ok (.getfield 22, 3) := by decide +kernel
theorem dX11_derive_99 : decode cX11_derive 99 = .ok (.getfield 113, 3) := by decide +kernel
theorem dX11_derive_102 : decode cX11_derive 102 = .ok (.ireturn, 1) := by decide +kernel
abbrev rmX11_derive : Room := { frames := 4, cells := 0, slots := 0, locals := 132 }
set_option maxHeartbeats 4000000 in
set_option maxRecDepth 100000 in
theorem wB_X11_derive_57 {G : mG} {F : Nat} {x : mXT} {sz : Nat} {r0 : Int32} {M0 : mM} (X : mCX G RX11 cX11_derive 6 (some .int) "derive" rmX11_derive x) (hQ : mQI x r0 M0 (sz, 0, 0)) {l0 : Nat} {l1 : Int32} {l2 : Int32} {l3 : Int32} {l4 : Int32} {l5 : Int32} {M : mM} (h : B_X11_derive_57 G F l0 l1 l2 l3 l4 l5 M = some (r0, M0)) : WW x (sz, 0, 0) M 57 [(0, .ref l0), (1, .int l1), (2, .int l2), (3, .int l3), (4, .int l4), (5, .int l5)] [] := by
  unfold B_X11_derive_57 at h
  refine ww_aload_n 57 X dX11_derive_57 0 rfl rfl ?_
  obtain ⟨v58, e58, h⟩ := bO_some h
  refine ww_getR 58 X dX11_derive_58 fG_X11_70 e58 ?_
  refine ww_aload_n 61 X dX11_derive_61 0 rfl rfl ?_
  obtain ⟨v62, e62, h⟩ := bO_some h
  refine ww_getR 62 X dX11_derive_62 fG_X11_11 e62 ?_
  refine ww_iload_n 65 X dX11_derive_65 1 rfl rfl ?_
  obtain ⟨v66, e66, h⟩ := bO_some h
  refine ww_aald4 66 X dX11_derive_66 e66 ?_
  refine ww_aload_n 67 X dX11_derive_67 0 rfl rfl ?_
  obtain ⟨v68, e68, h⟩ := bO_some h
  refine ww_getR 68 X dX11_derive_68 fG_X11_11 e68 ?_
  refine ww_iload_n 71 X dX11_derive_71 2 rfl rfl ?_
  obtain ⟨v72, e72, h⟩ := bO_some h
  refine ww_aald4 72 X dX11_derive_72 e72 ?_
  refine ww_aload_n 73 X dX11_derive_73 0 rfl rfl ?_
  obtain ⟨v74, e74, h⟩ := bO_some h
  refine ww_getR 74 X dX11_derive_74 fG_X11_11 e74 ?_
  refine ww_iload_n 77 X dX11_derive_77 3 rfl rfl ?_
  obtain ⟨v78, e78, h⟩ := bO_some h
  refine ww_aald4 78 X dX11_derive_78 e78 ?_
  refine ww_aload_n 79 X dX11_derive_79 0 rfl rfl ?_
  obtain ⟨v80, e80, h⟩ := bO_some h
  refine ww_getR 80 X dX11_derive_80 fG_X11_11 e80 ?_
  refine ww_iload 83 X dX11_derive_83 4 rfl ?_
  obtain ⟨v85, e85, h⟩ := bO_some h
  refine ww_aald4 85 X dX11_derive_85 e85 ?_
  refine ww_iload 86 X dX11_derive_86 5 rfl ?_
  refine ww_aload_n 88 X dX11_derive_88 0 rfl rfl ?_
  obtain ⟨v89, e89, h⟩ := bO_some h
  refine ww_getR 89 X dX11_derive_89 fG_X11_22 e89 ?_
  obtain ⟨_, f92, h⟩ := bO_some h
  obtain ⟨M92, e92, h⟩ := bO_some h
  refine ww_callVV0 92 X dX11_derive_92 mY_X4_putDerived mL_X11_296 (rcv_spec f92) ⟨_, _, rfl⟩ (by decide) (As := [.ref v66, .ref v72, .ref v78, .ref v85, .int l5, .ref v89]) (rest := []) rfl rfl ⟨Nat.le_of_ble_eq_true rfl, Nat.le_of_ble_eq_true rfl⟩ (Nat.le_of_ble_eq_true rfl) (fun l D A => c_X4_putDerived l D A e92) ?_
  refine ww_aload_n 95 X dX11_derive_95 0 rfl rfl ?_
  obtain ⟨v96, e96, h⟩ := bO_some h
  refine ww_getR 96 X dX11_derive_96 fG_X11_22 e96 ?_
  obtain ⟨v99, e99, h⟩ := bO_some h
  refine ww_getI 99 X dX11_derive_99 fG_X11_113 e99 ?_
  exact ww_iretE 102 X hQ dX11_derive_102 h
set_option maxHeartbeats 4000000 in
set_option maxRecDepth 100000 in
theorem wP_X11_derive {G : mG} {F : Nat} {x : mXT} {sz : Nat} {r0 : Int32} {M0 : mM} (X : mCX G RX11 cX11_derive 6 (some .int) "derive" rmX11_derive x) (hQ : mQI x r0 M0 (sz, 0, 0)) {l0 : Nat} {l1 : Int32} {l2 : Int32} {l3 : Int32} {l4 : Int32} {l5 : Int32} {M : mM} (h : P_X11_derive G F l0 l1 l2 l3 l4 l5 M = some (r0, M0)) : WW x (sz, 0, 0) M 0 [(0, .ref l0), (1, .int l1), (2, .int l2), (3, .int l3), (4, .int l4), (5, .int l5)] [] := by
  unfold P_X11_derive at h
  refine ww_aload_n 0 X dX11_derive_0 0 rfl rfl ?_
  refine ww_iload_n 1 X dX11_derive_1 1 rfl rfl ?_
  obtain ⟨_, f2, h⟩ := bO_some h
  obtain ⟨v2, M2, e2, h⟩ := bP_some h
  refine ww_callVI0 2 X dX11_derive_2 mY_X11_isRow mL_X11_123 (rcv_spec f2) ⟨_, _, rfl⟩ (by decide) (As := [.int l1]) (rest := []) rfl rfl ⟨Nat.le_of_ble_eq_true rfl, Nat.le_of_ble_eq_true rfl⟩ (Nat.le_of_ble_eq_true rfl) (fun l D A => c_X11_isRow l D A e2) ?_
  refine ww_if_eq 5 54 X dX11_derive_5 (by decide) (fun q => ?_) (fun q => ?_)
  · replace h := (if_pos q).symm.trans h
    refine ww_bipush 54 X (v := (-2 : Int32)) dX11_derive_54 (by decide) ?_
    exact ww_iretE 56 X hQ dX11_derive_56 h
  · replace h := (if_neg q).symm.trans h
    refine ww_aload_n 8 X dX11_derive_8 0 rfl rfl ?_
    refine ww_iload_n 9 X dX11_derive_9 2 rfl rfl ?_
    obtain ⟨_, f10, h⟩ := bO_some h
    obtain ⟨v10, M10, e10, h⟩ := bP_some h
    refine ww_callVI0 10 X dX11_derive_10 mY_X11_isRow mL_X11_123 (rcv_spec f10) ⟨_, _, rfl⟩ (by decide) (As := [.int l2]) (rest := []) rfl rfl ⟨Nat.le_of_ble_eq_true rfl, Nat.le_of_ble_eq_true rfl⟩ (Nat.le_of_ble_eq_true rfl) (fun l D A => c_X11_isRow l D A e10) ?_
    refine ww_if_eq 13 54 X dX11_derive_13 (by decide) (fun q => ?_) (fun q => ?_)
    · replace h := (if_pos q).symm.trans h
      refine ww_bipush 54 X (v := (-2 : Int32)) dX11_derive_54 (by decide) ?_
      exact ww_iretE 56 X hQ dX11_derive_56 h
    · replace h := (if_neg q).symm.trans h
      refine ww_aload_n 16 X dX11_derive_16 0 rfl rfl ?_
      refine ww_iload_n 17 X dX11_derive_17 3 rfl rfl ?_
      obtain ⟨_, f18, h⟩ := bO_some h
      obtain ⟨v18, M18, e18, h⟩ := bP_some h
      refine ww_callVI0 18 X dX11_derive_18 mY_X11_isRow mL_X11_123 (rcv_spec f18) ⟨_, _, rfl⟩ (by decide) (As := [.int l3]) (rest := []) rfl rfl ⟨Nat.le_of_ble_eq_true rfl, Nat.le_of_ble_eq_true rfl⟩ (Nat.le_of_ble_eq_true rfl) (fun l D A => c_X11_isRow l D A e18) ?_
      refine ww_if_eq 21 54 X dX11_derive_21 (by decide) (fun q => ?_) (fun q => ?_)
      · replace h := (if_pos q).symm.trans h
        refine ww_bipush 54 X (v := (-2 : Int32)) dX11_derive_54 (by decide) ?_
        exact ww_iretE 56 X hQ dX11_derive_56 h
      · replace h := (if_neg q).symm.trans h
        refine ww_aload_n 24 X dX11_derive_24 0 rfl rfl ?_
        refine ww_iload 25 X dX11_derive_25 4 rfl ?_
        obtain ⟨_, f27, h⟩ := bO_some h
        obtain ⟨v27, M27, e27, h⟩ := bP_some h
        refine ww_callVI0 27 X dX11_derive_27 mY_X11_isRow mL_X11_123 (rcv_spec f27) ⟨_, _, rfl⟩ (by decide) (As := [.int l4]) (rest := []) rfl rfl ⟨Nat.le_of_ble_eq_true rfl, Nat.le_of_ble_eq_true rfl⟩ (Nat.le_of_ble_eq_true rfl) (fun l D A => c_X11_isRow l D A e27) ?_
        refine ww_if_eq 30 54 X dX11_derive_30 (by decide) (fun q => ?_) (fun q => ?_)
        · replace h := (if_pos q).symm.trans h
          refine ww_bipush 54 X (v := (-2 : Int32)) dX11_derive_54 (by decide) ?_
          exact ww_iretE 56 X hQ dX11_derive_56 h
        · replace h := (if_neg q).symm.trans h
          refine ww_iload 33 X dX11_derive_33 5 rfl ?_
          refine ww_bipush 35 X (v := (16 : Int32)) dX11_derive_35 (by decide) ?_
          refine ww_icmp_eq 37 57 X dX11_derive_37 (by decide) (fun q => ?_) (fun q => ?_)
          · replace h := (if_pos q).symm.trans h
            exact (wB_X11_derive_57 X hQ h)
          · replace h := (if_neg q).symm.trans h
            refine ww_iload 40 X dX11_derive_40 5 rfl ?_
            refine ww_bipush 42 X (v := (32 : Int32)) dX11_derive_42 (by decide) ?_
            refine ww_icmp_eq 44 57 X dX11_derive_44 (by decide) (fun q => ?_) (fun q => ?_)
            · replace h := (if_pos q).symm.trans h
              exact (wB_X11_derive_57 X hQ h)
            · replace h := (if_neg q).symm.trans h
              refine ww_iload 47 X dX11_derive_47 5 rfl ?_
              refine ww_bipush 49 X (v := (64 : Int32)) dX11_derive_49 (by decide) ?_
              refine ww_icmp_eq 51 57 X dX11_derive_51 (by decide) (fun q => ?_) (fun q => ?_)
              · replace h := (if_pos q).symm.trans h
                exact (wB_X11_derive_57 X hQ h)
              · replace h := (if_neg q).symm.trans h
                refine ww_bipush 54 X (v := (-2 : Int32)) dX11_derive_54 (by decide) ?_
                exact ww_iretE 56 X hQ dX11_derive_56 h
theorem c_X11_derive {G : mG} {F sz : Nat} {r0 : Int32} {M0 : mM} (l : Launch) (D : mD) (A : Nat → Prop) {l0 : Nat} {l1 : Int32} {l2 : Int32} {l3 : Int32} {l4 : Int32} {l5 : Int32} {M : mM} (h : P_X11_derive G F l0 l1 l2 l3 l4 l5 M = some (r0, M0)) : mMetI l D G A yX11_derive cX11_derive 6 (some .int) 4 132 0 0 [.ref l0, .int l1, .int l2, .int l3, .int l4, .int l5] M sz r0 M0 sz := mMetI_of l D G A (by decide) (Nat.le_of_ble_eq_true rfl) (fun x X hQ => wP_X11_derive X hQ h)
/-! SealedTokens.numbersBelong(LSealedTokens$Key;)Z -/
theorem dX11_numbersBelong_0 : decode cX11_numbersBelong 0 = .ok (.aload_n 1, 1) := by decide +kernel
theorem dX11_numbersBelong_1 : decode cX11_numbersBelong 1 = .ok (.getfield 314, 3) := by decide +kernel
theorem dX11_numbersBelong_4 : decode cX11_numbersBelong 4 = .ok (.lookupswitch 108 #[(1, 28), (2, 63)], 28) := by decide +kernel
theorem dX11_numbersBelong_32 : decode cX11_numbersBelong 32 = .ok (.aload_n 1, 1) := by decide +kernel
theorem dX11_numbersBelong_33 : decode cX11_numbersBelong 33 = .ok (.getfield 319, 3) := by decide +kernel
theorem dX11_numbersBelong_36 : decode cX11_numbersBelong 36 = .ok (.ifCond .eq 25, 3) := by decide +kernel
theorem dX11_numbersBelong_39 : decode cX11_numbersBelong 39 = .ok (.aload_n 0, 1) := by decide +kernel
theorem dX11_numbersBelong_40 : decode cX11_numbersBelong 40 = .ok (.getfield 95, 3) := by decide +kernel
theorem dX11_numbersBelong_43 : decode cX11_numbersBelong 43 = .ok (.aload_n 1, 1) := by decide +kernel
theorem dX11_numbersBelong_44 : decode cX11_numbersBelong 44 = .ok (.getfield 316, 3) := by decide +kernel
theorem dX11_numbersBelong_47 : decode cX11_numbersBelong 47 = .ok (.aload_n 1, 1) := by decide +kernel
theorem dX11_numbersBelong_48 : decode cX11_numbersBelong 48 = .ok (.getfield 456, 3) := by decide +kernel
theorem dX11_numbersBelong_51 : decode cX11_numbersBelong 51 = .ok (.aload_n 1, 1) := by decide +kernel
theorem dX11_numbersBelong_52 : decode cX11_numbersBelong 52 = .ok (.getfield 459, 3) := by decide +kernel
theorem dX11_numbersBelong_55 : decode cX11_numbersBelong 55 = .ok (.invokevirtual 462, 3) := by decide +kernel
theorem dX11_numbersBelong_58 : decode cX11_numbersBelong 58 = .ok (.ifCond .eq 7, 3) := by decide +kernel
theorem dX11_numbersBelong_61 : decode cX11_numbersBelong 61 = .ok (.iconst 1, 1) := by decide +kernel
theorem dX11_numbersBelong_62 : decode cX11_numbersBelong 62 = .ok (.goto 4, 3) := by decide +kernel
theorem dX11_numbersBelong_65 : decode cX11_numbersBelong 65 = .ok (.iconst 0, 1) := by decide +kernel
theorem dX11_numbersBelong_66 : decode cX11_numbersBelong 66 = .ok (.ireturn, 1) := by decide +kernel
theorem dX11_numbersBelong_67 : decode cX11_numbersBelong 67 = .ok (.aload_n 0, 1) := by decide +kernel
theorem dX11_numbersBelong_68 : decode cX11_numbersBelong 68 = .ok (.getfield 102, 3) := by decide +kernel
theorem dX11_numbersBelong_71 : decode cX11_numbersBelong 71 = .ok (.aload_n 1, 1) := by decide +kernel
theorem dX11_numbersBelong_72 : decode cX11_numbersBelong 72 = .ok (.getfield 316, 3) := by decide +kernel
theorem dX11_numbersBelong_75 : decode cX11_numbersBelong 75 = .ok (.invokevirtual 279, 3) := by decide +kernel
theorem dX11_numbersBelong_78 : decode cX11_numbersBelong 78 = .ok (.ifCond .eq 32, 3) := by decide +kernel
theorem dX11_numbersBelong_81 : decode cX11_numbersBelong 81 = .ok (.aload_n 1, 1) := by decide +kernel
theorem dX11_numbersBelong_82 : decode cX11_numbersBelong 82 = .ok (.getfield 319, 3) := by decide +kernel
theorem dX11_numbersBelong_85 : decode cX11_numbersBelong 85 = .ok (.ifCond .eq 21, 3) := by decide +kernel
theorem dX11_numbersBelong_88 : decode cX11_numbersBelong 88 = .ok (.aload_n 0, 1) := by decide +kernel
theorem dX11_numbersBelong_89 : decode cX11_numbersBelong 89 = .ok (.getfield 102, 3) := by decide +kernel
theorem dX11_numbersBelong_92 : decode cX11_numbersBelong 92 = .ok (.aload_n 1, 1) := by decide +kernel
theorem dX11_numbersBelong_93 : decode cX11_numbersBelong 93 = .ok (.getfield 459, 3) := by decide +kernel
theorem dX11_numbersBelong_96 : decode cX11_numbersBelong 96 = .ok (.aload_n 1, 1) := by decide +kernel
theorem dX11_numbersBelong_97 : decode cX11_numbersBelong 97 = .ok (.getfield 316, 3) := by decide +kernel
theorem dX11_numbersBelong_100 : decode cX11_numbersBelong 100 = .ok (.invokevirtual 465, 3) := by decide +kernel
theorem dX11_numbersBelong_103 : decode cX11_numbersBelong 103 = .ok (.ifCond .eq 7, 3) := by decide +kernel
theorem dX11_numbersBelong_106 : decode cX11_numbersBelong 106 = .ok (.iconst 1, 1) := by decide +kernel
theorem dX11_numbersBelong_107 : decode cX11_numbersBelong 107 = .ok (.goto 4, 3) := by decide +kernel
theorem dX11_numbersBelong_110 : decode cX11_numbersBelong 110 = .ok (.iconst 0, 1) := by decide +kernel
theorem dX11_numbersBelong_111 : decode cX11_numbersBelong 111 = .ok (.ireturn, 1) := by decide +kernel
theorem dX11_numbersBelong_112 : decode cX11_numbersBelong 112 = .ok (.iconst 1, 1) := by decide +kernel
theorem dX11_numbersBelong_113 : decode cX11_numbersBelong 113 = .ok (.ireturn, 1) := by decide +kernel
abbrev rmX11_numbersBelong : Room := { frames := 6, cells := 0, slots := 0, locals := 192 }
set_option maxHeartbeats 4000000 in
set_option maxRecDepth 100000 in
theorem wP_X11_numbersBelong {G : mG} {F : Nat} {x : mXT} {sz : Nat} {r0 : Int32} {M0 : mM} (X : mCX G RX11 cX11_numbersBelong 2 (some .boolean) "numbersBelong" rmX11_numbersBelong x) (hQ : mQI x r0 M0 (sz, 0, 0)) {l0 : Nat} {l1 : Nat} {M : mM} (h : P_X11_numbersBelong G F l0 l1 M = some (r0, M0)) : WW x (sz, 0, 0) M 0 [(0, .ref l0), (1, .ref l1)] [] := by
  unfold P_X11_numbersBelong at h
  refine ww_aload_n 0 X dX11_numbersBelong_0 1 rfl rfl ?_
  obtain ⟨v1, e1, h⟩ := bO_some h
  refine ww_getI 1 X dX11_numbersBelong_1 fG_X11_314 e1 ?_
  by_cases q1 : v1 = (1 : Int32)
  · replace h := (if_pos q1).symm.trans h
    refine ww_lookup 4 32 X dX11_numbersBelong_4 (off := 28) (by decide) (by rw [q1]; decide) (by decide) ?_
    refine ww_aload_n 32 X dX11_numbersBelong_32 1 rfl rfl ?_
    obtain ⟨v33, e33, h⟩ := bO_some h
    refine ww_getI 33 X dX11_numbersBelong_33 fG_X11_319 e33 ?_
    refine ww_if_eq 36 61 X dX11_numbersBelong_36 (by decide) (fun q => ?_) (fun q => ?_)
    · replace h := (if_pos q).symm.trans h
      refine ww_iconst 61 X (v := (1 : Int32)) dX11_numbersBelong_61 (by decide) ?_
      refine ww_goto 62 66 X dX11_numbersBelong_62 (by decide) ?_
      exact ww_zretE 66 X hQ dX11_numbersBelong_66 h
    · replace h := (if_neg q).symm.trans h
      refine ww_aload_n 39 X dX11_numbersBelong_39 0 rfl rfl ?_
      obtain ⟨v40, e40, h⟩ := bO_some h
      refine ww_getR 40 X dX11_numbersBelong_40 fG_X11_95 e40 ?_
      refine ww_aload_n 43 X dX11_numbersBelong_43 1 rfl rfl ?_
      obtain ⟨v44, e44, h⟩ := bO_some h
      refine ww_getR 44 X dX11_numbersBelong_44 fG_X11_316 e44 ?_
      refine ww_aload_n 47 X dX11_numbersBelong_47 1 rfl rfl ?_
      obtain ⟨v48, e48, h⟩ := bO_some h
      refine ww_getR 48 X dX11_numbersBelong_48 fG_X11_456 e48 ?_
      refine ww_aload_n 51 X dX11_numbersBelong_51 1 rfl rfl ?_
      obtain ⟨v52, e52, h⟩ := bO_some h
      refine ww_getR 52 X dX11_numbersBelong_52 fG_X11_459 e52 ?_
      obtain ⟨_, f55, h⟩ := bO_some h
      obtain ⟨v55, M55, e55, h⟩ := bP_some h
      refine ww_callVI0 55 X dX11_numbersBelong_55 mY_X8_isPair mL_X11_462 (rcv_spec f55) ⟨_, _, rfl⟩ (by decide) (As := [.ref v44, .ref v48, .ref v52]) (rest := []) rfl rfl ⟨Nat.le_of_ble_eq_true rfl, Nat.le_of_ble_eq_true rfl⟩ (Nat.le_of_ble_eq_true rfl) (fun l D A => c_X8_isPair l D A e55) ?_
      refine ww_if_eq 58 65 X dX11_numbersBelong_58 (by decide) (fun q => ?_) (fun q => ?_)
      · replace h := (if_pos q).symm.trans h
        refine ww_iconst 65 X (v := (0 : Int32)) dX11_numbersBelong_65 (by decide) ?_
        exact ww_zretE 66 X hQ dX11_numbersBelong_66 h
      · replace h := (if_neg q).symm.trans h
        refine ww_iconst 61 X (v := (1 : Int32)) dX11_numbersBelong_61 (by decide) ?_
        refine ww_goto 62 66 X dX11_numbersBelong_62 (by decide) ?_
        exact ww_zretE 66 X hQ dX11_numbersBelong_66 h
  · replace h := (if_neg q1).symm.trans h
    by_cases q2 : v1 = (2 : Int32)
    · replace h := (if_pos q2).symm.trans h
      refine ww_lookup 4 67 X dX11_numbersBelong_4 (off := 63) (by decide) (by rw [q2]; decide) (by decide) ?_
      refine ww_aload_n 67 X dX11_numbersBelong_67 0 rfl rfl ?_
      obtain ⟨v68, e68, h⟩ := bO_some h
      refine ww_getR 68 X dX11_numbersBelong_68 fG_X11_102 e68 ?_
      refine ww_aload_n 71 X dX11_numbersBelong_71 1 rfl rfl ?_
      obtain ⟨v72, e72, h⟩ := bO_some h
      refine ww_getR 72 X dX11_numbersBelong_72 fG_X11_316 e72 ?_
      obtain ⟨_, f75, h⟩ := bO_some h
      obtain ⟨v75, M75, e75, h⟩ := bP_some h
      refine ww_callVI0 75 X dX11_numbersBelong_75 mY_X3_load mL_X11_279 (rcv_spec f75) ⟨_, _, rfl⟩ (by decide) (As := [.ref v72]) (rest := []) rfl rfl ⟨Nat.le_of_ble_eq_true rfl, Nat.le_of_ble_eq_true rfl⟩ (Nat.le_of_ble_eq_true rfl) (fun l D A => c_X3_load l D A e75) ?_
      refine ww_if_eq 78 110 X dX11_numbersBelong_78 (by decide) (fun q => ?_) (fun q => ?_)
      · replace h := (if_pos q).symm.trans h
        refine ww_iconst 110 X (v := (0 : Int32)) dX11_numbersBelong_110 (by decide) ?_
        exact ww_zretE 111 X hQ dX11_numbersBelong_111 h
      · replace h := (if_neg q).symm.trans h
        refine ww_aload_n 81 X dX11_numbersBelong_81 1 rfl rfl ?_
        obtain ⟨v82, e82, h⟩ := bO_some h
        refine ww_getI 82 X dX11_numbersBelong_82 fG_X11_319 e82 ?_
        refine ww_if_eq 85 106 X dX11_numbersBelong_85 (by decide) (fun q => ?_) (fun q => ?_)
        · replace h := (if_pos q).symm.trans h
          refine ww_iconst 106 X (v := (1 : Int32)) dX11_numbersBelong_106 (by decide) ?_
          refine ww_goto 107 111 X dX11_numbersBelong_107 (by decide) ?_
          exact ww_zretE 111 X hQ dX11_numbersBelong_111 h
        · replace h := (if_neg q).symm.trans h
          refine ww_aload_n 88 X dX11_numbersBelong_88 0 rfl rfl ?_
          obtain ⟨v89, e89, h⟩ := bO_some h
          refine ww_getR 89 X dX11_numbersBelong_89 fG_X11_102 e89 ?_
          refine ww_aload_n 92 X dX11_numbersBelong_92 1 rfl rfl ?_
          obtain ⟨v93, e93, h⟩ := bO_some h
          refine ww_getR 93 X dX11_numbersBelong_93 fG_X11_459 e93 ?_
          refine ww_aload_n 96 X dX11_numbersBelong_96 1 rfl rfl ?_
          obtain ⟨v97, e97, h⟩ := bO_some h
          refine ww_getR 97 X dX11_numbersBelong_97 fG_X11_316 e97 ?_
          obtain ⟨_, f100, h⟩ := bO_some h
          obtain ⟨v100, M100, e100, h⟩ := bP_some h
          refine ww_callVI0 100 X dX11_numbersBelong_100 mY_X3_isPair mL_X11_465 (rcv_spec f100) ⟨_, _, rfl⟩ (by decide) (As := [.ref v93, .ref v97]) (rest := []) rfl rfl ⟨Nat.le_of_ble_eq_true rfl, Nat.le_of_ble_eq_true rfl⟩ (Nat.le_of_ble_eq_true rfl) (fun l D A => c_X3_isPair l D A e100) ?_
          refine ww_if_eq 103 110 X dX11_numbersBelong_103 (by decide) (fun q => ?_) (fun q => ?_)
          · replace h := (if_pos q).symm.trans h
            refine ww_iconst 110 X (v := (0 : Int32)) dX11_numbersBelong_110 (by decide) ?_
            exact ww_zretE 111 X hQ dX11_numbersBelong_111 h
          · replace h := (if_neg q).symm.trans h
            refine ww_iconst 106 X (v := (1 : Int32)) dX11_numbersBelong_106 (by decide) ?_
            refine ww_goto 107 111 X dX11_numbersBelong_107 (by decide) ?_
            exact ww_zretE 111 X hQ dX11_numbersBelong_111 h
    · replace h := (if_neg q2).symm.trans h
      refine ww_lookup 4 112 X dX11_numbersBelong_4 (off := 108) (by decide) (by show Op.lookupswitch.offset [(1, 28), (2, 63)] 108 _ = _; rw [lv_osw q1 (show (1 : Int32).toInt = 1 by decide), lv_osw q2 (show (2 : Int32).toInt = 2 by decide)]; rfl) (by decide) ?_
      refine ww_iconst 112 X (v := (1 : Int32)) dX11_numbersBelong_112 (by decide) ?_
      exact ww_zretE 113 X hQ dX11_numbersBelong_113 h
theorem c_X11_numbersBelong {G : mG} {F sz : Nat} {r0 : Int32} {M0 : mM} (l : Launch) (D : mD) (A : Nat → Prop) {l0 : Nat} {l1 : Nat} {M : mM} (h : P_X11_numbersBelong G F l0 l1 M = some (r0, M0)) : mMetI l D G A yX11_numbersBelong cX11_numbersBelong 2 (some .boolean) 6 192 0 0 [.ref l0, .ref l1] M sz r0 M0 sz := mMetI_of l D G A (by decide) (Nat.le_of_ble_eq_true rfl) (fun x X hQ => wP_X11_numbersBelong X hQ h)
/-! SealedTokens.key(I)I -/
theorem dX11_key_0 : decode cX11_key 0 = .ok (.aload_n 0, 1) := by decide +kernel
theorem dX11_key_1 : decode cX11_key 1 = .ok (.iload_n 1, 1) := by decide +kernel
theorem dX11_key_2 : decode cX11_key 2 = .ok (.invokevirtual 123, 3) := by decide +kernel
theorem dX11_key_5 : decode cX11_key 5 = .ok (.ifCond .ne 6, 3) := by decide +kernel
theorem dX11_key_8 : decode cX11_key 8 = .ok (.bipush (-2), 2) := by decide +kernel
theorem dX11_key_10 : decode cX11_key 10 = .ok (.ireturn, 1) := by decide +kernel
theorem dX11_key_11 : decode cX11_key 11 = .ok (.aload_n 0, 1) := by decide +kernel
theorem dX11_key_12 : decode cX11_key 12 = .ok (.getfield 52, 3) := by decide +kernel
theorem dX11_key_15 : decode cX11_key 15 = .ok (.aload_n 0, 1) := by decide +kernel
theorem dX11_key_16 : decode cX11_key 16 = .ok (.getfield 11, 3) := by decide +kernel
theorem dX11_key_19 : decode cX11_key 19 = .ok (.iload_n 1, 1) := by decide +kernel
theorem dX11_key_20 : decode cX11_key 20 = .ok (.aaload, 1) := by decide +kernel
theorem dX11_key_21 : decode cX11_key 21 = .ok (.aload_n 0, 1) := by decide +kernel
theorem dX11_key_22 : decode cX11_key 22 = .ok (.getfield 44, 3) := by decide +kernel
theorem dX11_key_25 : decode cX11_key 25 = .ok (.invokevirtual 142, 3) := by decide +kernel
theorem dX11_key_28 : decode cX11_key 28 = .ok (.iconst (-1), 1) := by decide +kernel
theorem dX11_key_29 : decode cX11_key 29 = .ok (.if_icmp .eq 6, 3) := by decide +kernel
theorem dX11_key_32 : decode cX11_key 32 = .ok (.bipush (-11), 2) := by decide +kernel
theorem dX11_key_34 : decode cX11_key 34 = .ok (.ireturn, 1) := by decide +kernel
theorem dX11_key_35 : decode cX11_key 35 = .ok (.aload_n 0, 1) := by decide +kernel
theorem dX11_key_36 : decode cX11_key 36 = .ok (.getfield 63, 3) := by decide +kernel
theorem dX11_key_39 : decode cX11_key 39 = .ok (.aload_n 0, 1) := by decide +kernel
theorem dX11_key_40 : decode cX11_key 40 = .ok (.getfield 44, 3) := by decide +kernel
theorem dX11_key_43 : decode cX11_key 43 = .ok (.invokevirtual 300, 3) := by decide +kernel
theorem dX11_key_46 : decode cX11_key 46 = .ok (.istore_n 2, 1) := by decide +kernel
theorem dX11_key_47 : decode cX11_key 47 = .ok (.iload_n 2, 1) := by decide +kernel
theorem dX11_key_48 : decode cX11_key 48 = .ok (.ifCond .eq 8, 3) := by decide +kernel
theorem dX11_key_51 : decode cX11_key 51 = .ok (.bipush (-10), 2) := by decide +kernel
theorem dX11_key_53 : decode cX11_key 53 = .ok (.iload_n 2, 1) := by decide +kernel
theorem dX11_key_54 : decode cX11_key 54 = .ok (.isub, 1) := by decide +kernel
theorem dX11_key_55 : decode cX11_key 55 = .ok (.ireturn, 1) := by decide +kernel
theorem dX11_key_56 : decode cX11_key 56 = .ok (.aload_n 0, 1) := by decide +kernel
theorem dX11_key_57 : decode cX11_key 57 = .ok (.aload_n 0, 1) := by decide +kernel
theorem dX11_key_58 : decode cX11_key 58 = .ok (.getfield 63, 3) := by decide +kernel
theorem dX11_key_61 : decode cX11_key 61 = .ok (.invokevirtual 304, 3) := by decide +kernel
theorem dX11_key_64 : decode cX11_key 64 = .ok (.ifCond .ne 6, 3) := by decide +kernel
theorem dX11_key_67 : decode cX11_key 67 = .ok (.bipush (-16), 2) := by decide +kernel
theorem dX11_key_69 : decode cX11_key 69 = .ok (.ireturn, 1) := by decide +kernel
theorem dX11_key_70 : decode cX11_key 70 = .ok (.iconst 0, 1) := by decide +kernel
theorem dX11_key_71 : decode cX11_key 71 = .ok (.istore_n 3, 1) := by decide +kernel
theorem dX11_key_72 : decode cX11_key 72 = .ok (.iload_n 3, 1) := by decide +kernel
theorem dX11_key_73 : decode cX11_key 73 = .ok (.bipush 16, 2) := by decide +kernel
theorem dX11_key_75 : decode cX11_key 75 = .ok (.if_icmp .ge 57, 3) := by decide +kernel
theorem dX11_key_78 : decode cX11_key 78 = .ok (.aload_n 0, 1) := by decide +kernel
theorem dX11_key_79 : decode cX11_key 79 = .ok (.getfield 58, 3) := by decide +kernel
theorem dX11_key_82 : decode cX11_key 82 = .ok (.iload_n 3, 1) := by decide +kernel
theorem dX11_key_83 : decode cX11_key 83 = .ok (.aaload, 1) := by decide +kernel
theorem dX11_key_84 : decode cX11_key 84 = .ok (.getfield 308, 3) := by decide +kernel
theorem dX11_key_87 : decode cX11_key 87 = .ok (.ifCond .ne 39, 3) := by decide +kernel
theorem dX11_key_90 : decode cX11_key 90 = .ok (.aload_n 0, 1) := by decide +kernel
theorem dX11_key_91 : decode cX11_key 91 = .ok (.getfield 58, 3) := by decide +kernel
theorem dX11_key_94 : decode cX11_key 94 = .ok (.iload_n 3, 1) := by decide +kernel
theorem dX11_key_95 : decode cX11_key 95 = .ok (.aaload, 1) := by decide +kernel
theorem dX11_key_96 : decode cX11_key 96 = .ok (.astore 4, 2) := by decide +kernel
theorem dX11_key_98 : decode cX11_key 98 = .ok (.aload_n 0, 1) := by decide +kernel
theorem dX11_key_99 : decode cX11_key 99 = .ok (.getfield 58, 3) := by decide +kernel
theorem dX11_key_102 : decode cX11_key 102 = .ok (.iload_n 3, 1) := by decide +kernel
theorem dX11_key_103 : decode cX11_key 103 = .ok (.aload_n 0, 1) := by decide +kernel
theorem dX11_key_104 : decode cX11_key 104 = .ok (.getfield 63, 3) := by decide +kernel
theorem dX11_key_107 : decode cX11_key 107 = .ok (.aastore, 1) := by decide +kernel
theorem dX11_key_108 : decode cX11_key 108 = .ok (.aload_n 0, 1) := by decide +kernel
theorem dX11_key_109 : decode cX11_key 109 = .ok (.getfield 58, 3) := by decide +kernel
theorem dX11_key_112 : decode cX11_key 112 = .ok (.iload_n 3, 1) := by decide +kernel
theorem dX11_key_113 : decode cX11_key 113 = .ok (.aaload, 1) := by decide +kernel
theorem dX11_key_114 : decode cX11_key 114 = .ok (.iconst 1, 1) := by decide +kernel
theorem dX11_key_115 : decode cX11_key 115 = .ok (.putfield 308, 3) := by decide +kernel
theorem dX11_key_118 : decode cX11_key 118 = .ok (.aload_n 0, 1) := by decide +kernel
theorem dX11_key_119 : decode cX11_key 119 = .ok (.aload 4, 2) := by decide +kernel
theorem dX11_key_121 : decode cX11_key 121 = .ok (.putfield 63, 3) := by decide +kernel
theorem dX11_key_124 : decode cX11_key 124 = .ok (.iload_n 3, 1) := by decide +kernel
theorem dX11_key_125 : decode cX11_key 125 = .ok (.ireturn, 1) := by decide +kernel
theorem dX11_key_126 : decode cX11_key 126 = .ok (.iinc 3 1, 3) := by decide +kernel
theorem dX11_key_129 : decode cX11_key 129 = .ok (.goto (-57), 3) := by decide +kernel
theorem dX11_key_132 : decode cX11_key 132 = .ok (.bipush (-17), 2) := by decide +kernel
theorem dX11_key_134 : decode cX11_key 134 = .ok (.ireturn, 1) := by decide +kernel
theorem mB_X11_key_87 {G : mG} {F : Nat} {r0 : Int32} {M0 : mM} {Z0 S0 : Nat} (r72 : Nat → Int32 → mM → Nat → Nat → Option (Int32 × mM × Nat × Nat)) (hm72 : ∀ (l0 : Nat) (l3 : Int32) (M : mM) (sz : Nat) (sl : Nat), r72 l0 l3 M sz sl = some (r0, M0, Z0, S0) → sz ≤ Z0 ∧ sl ≤ S0) {l0 : Nat} {l3 : Int32} {sk0 : Int32} {M : mM} {sz : Nat} {sl : Nat} (h : B_X11_key_87 G F r72 l0 l3 sk0 M sz sl = some (r0, M0, Z0, S0)) : sz ≤ Z0 ∧ sl ≤ S0 := by
  unfold B_X11_key_87 at h
  by_cases q : sk0 = 0
  · replace h := (if_pos q).symm.trans h
    obtain ⟨v91, e91, h⟩ := bO_some h
    obtain ⟨v95, e95, h⟩ := bO_some h
    obtain ⟨v99, e99, h⟩ := bO_some h
    obtain ⟨v104, e104, h⟩ := bO_some h
    obtain ⟨M107, e107, h⟩ := bO_some h
    obtain ⟨v109, e109, h⟩ := bO_some h
    obtain ⟨v113, e113, h⟩ := bO_some h
    obtain ⟨M115, e115, h⟩ := bO_some h
    obtain ⟨M121, e121, h⟩ := bO_some h
    have q := retA_p h
    omega
  · replace h := (if_neg q).symm.trans h
    have q := hm72 _ _ _ _ _ h
    omega
set_option maxHeartbeats 4000000 in
set_option maxRecDepth 100000 in
theorem wB_X11_key_87 {G : mG} {F : Nat} {x : mXT} {z0 s0 : Nat} {r0 : Int32} {M0 : mM} {Z0 S0 : Nat} (X : mCX G RX11 cX11_key 5 (some .int) "key" { frames := 9, cells := Z0 - z0, slots := S0 - s0, locals := 213 } x) (hQ : mQI x r0 M0 (Z0, Z0 - z0, S0 - s0)) (r72 : Nat → Int32 → mM → Nat → Nat → Option (Int32 × mM × Nat × Nat)) (hm72 : ∀ (l0 : Nat) (l3 : Int32) (M : mM) (sz : Nat) (sl : Nat), r72 l0 l3 M sz sl = some (r0, M0, Z0, S0) → sz ≤ Z0 ∧ sl ≤ S0) (hr72 : ∀ (l0 : Nat) (l3 : Int32) (M : mM) (sz : Nat) (sl : Nat), z0 ≤ sz → s0 ≤ sl → r72 l0 l3 M sz sl = some (r0, M0, Z0, S0) → WW x (sz, sz - z0, sl - s0) M 72 [(0, .ref l0), (3, .int l3)] []) {l0 : Nat} {l3 : Int32} {sk0 : Int32} {M : mM} {sz : Nat} {sl : Nat} (hz0 : z0 ≤ sz) (hs0 : s0 ≤ sl) (h : B_X11_key_87 G F r72 l0 l3 sk0 M sz sl = some (r0, M0, Z0, S0)) : WW x (sz, sz - z0, sl - s0) M 87 [(0, .ref l0), (3, .int l3)] [.int sk0] := by
  unfold B_X11_key_87 at h
  refine ww_if_ne 87 126 X dX11_key_87 (by decide) (fun q => ?_) (fun q => ?_)
  · replace h := (if_neg q).symm.trans h
    have q := hm72 _ _ _ _ _ h
    refine ww_iinc 126 X dX11_key_126 (lv' := [(0, .ref l0), (3, .int (l3 + 1))]) 1 rfl rfl (by decide) [1, 0] rfl ?_
    refine ww_goto 129 72 X dX11_key_129 (by decide) ?_
    exact (hr72 _ _ _ _ _ (by omega) (by omega) h)
  · replace h := (if_pos q).symm.trans h
    obtain ⟨v91, e91, h⟩ := bO_some h
    obtain ⟨v95, e95, h⟩ := bO_some h
    obtain ⟨v99, e99, h⟩ := bO_some h
    obtain ⟨v104, e104, h⟩ := bO_some h
    obtain ⟨M107, e107, h⟩ := bO_some h
    obtain ⟨v109, e109, h⟩ := bO_some h
    obtain ⟨v113, e113, h⟩ := bO_some h
    obtain ⟨M115, e115, h⟩ := bO_some h
    obtain ⟨M121, e121, h⟩ := bO_some h
    have q := retA_p h
    refine ww_aload_n 90 X dX11_key_90 0 rfl rfl ?_
    refine ww_getR 91 X dX11_key_91 fG_X11_58 e91 ?_
    refine ww_iload_n 94 X dX11_key_94 1 rfl rfl ?_
    refine ww_aald5 95 X dX11_key_95 e95 ?_
    refine ww_astore 96 X dX11_key_96 (lv' := [(0, .ref l0), (3, .int l3), (4, .ref v95)]) (by decide) [1, 2, 0] rfl ?_
    refine ww_aload_n 98 X dX11_key_98 0 rfl rfl ?_
    refine ww_getR 99 X dX11_key_99 fG_X11_58 e99 ?_
    refine ww_iload_n 102 X dX11_key_102 1 rfl rfl ?_
    refine ww_aload_n 103 X dX11_key_103 0 rfl rfl ?_
    refine ww_getR 104 X dX11_key_104 fG_X11_63 e104 ?_
    refine ww_aast 107 X dX11_key_107 (by decide) ⟨_, rfl, rfl⟩ e107 ?_
    refine ww_aload_n 108 X dX11_key_108 0 rfl rfl ?_
    refine ww_getR 109 X dX11_key_109 fG_X11_58 e109 ?_
    refine ww_iload_n 112 X dX11_key_112 1 rfl rfl ?_
    refine ww_aald5 113 X dX11_key_113 e113 ?_
    refine ww_iconst 114 X (v := (1 : Int32)) dX11_key_114 (by decide) ?_
    refine ww_putZ 115 X dX11_key_115 (fP_X11_308 _) e115 ?_
    refine ww_aload_n 118 X dX11_key_118 0 rfl rfl ?_
    refine ww_aload 119 X dX11_key_119 2 rfl ?_
    refine ww_putR 121 X dX11_key_121 (fP_X11_63 _) e121 rfl rfl ?_
    refine ww_iload_n 124 X dX11_key_124 1 rfl rfl ?_
    exact ww_iretA 125 X hQ dX11_key_125 h
theorem mB_X11_key_75 {G : mG} {F : Nat} {r0 : Int32} {M0 : mM} {Z0 S0 : Nat} (r72 : Nat → Int32 → mM → Nat → Nat → Option (Int32 × mM × Nat × Nat)) (hm72 : ∀ (l0 : Nat) (l3 : Int32) (M : mM) (sz : Nat) (sl : Nat), r72 l0 l3 M sz sl = some (r0, M0, Z0, S0) → sz ≤ Z0 ∧ sl ≤ S0) {l0 : Nat} {l3 : Int32} {sk0 : Int32} {sk1 : Int32} {M : mM} {sz : Nat} {sl : Nat} (h : B_X11_key_75 G F r72 l0 l3 sk0 sk1 M sz sl = some (r0, M0, Z0, S0)) : sz ≤ Z0 ∧ sl ≤ S0 := by
  unfold B_X11_key_75 at h
  by_cases q : sk1 ≤ sk0
  · replace h := (if_pos q).symm.trans h
    have q := retA_p h
    omega
  · replace h := (if_neg q).symm.trans h
    obtain ⟨v79, e79, h⟩ := bO_some h
    obtain ⟨v83, e83, h⟩ := bO_some h
    obtain ⟨v84, e84, h⟩ := bO_some h
    have q := mB_X11_key_87 _ hm72 h
    omega
set_option maxHeartbeats 4000000 in
set_option maxRecDepth 100000 in
theorem wB_X11_key_75 {G : mG} {F : Nat} {x : mXT} {z0 s0 : Nat} {r0 : Int32} {M0 : mM} {Z0 S0 : Nat} (X : mCX G RX11 cX11_key 5 (some .int) "key" { frames := 9, cells := Z0 - z0, slots := S0 - s0, locals := 213 } x) (hQ : mQI x r0 M0 (Z0, Z0 - z0, S0 - s0)) (r72 : Nat → Int32 → mM → Nat → Nat → Option (Int32 × mM × Nat × Nat)) (hm72 : ∀ (l0 : Nat) (l3 : Int32) (M : mM) (sz : Nat) (sl : Nat), r72 l0 l3 M sz sl = some (r0, M0, Z0, S0) → sz ≤ Z0 ∧ sl ≤ S0) (hr72 : ∀ (l0 : Nat) (l3 : Int32) (M : mM) (sz : Nat) (sl : Nat), z0 ≤ sz → s0 ≤ sl → r72 l0 l3 M sz sl = some (r0, M0, Z0, S0) → WW x (sz, sz - z0, sl - s0) M 72 [(0, .ref l0), (3, .int l3)] []) {l0 : Nat} {l3 : Int32} {sk0 : Int32} {sk1 : Int32} {M : mM} {sz : Nat} {sl : Nat} (hz0 : z0 ≤ sz) (hs0 : s0 ≤ sl) (h : B_X11_key_75 G F r72 l0 l3 sk0 sk1 M sz sl = some (r0, M0, Z0, S0)) : WW x (sz, sz - z0, sl - s0) M 75 [(0, .ref l0), (3, .int l3)] [.int sk1, .int sk0] := by
  unfold B_X11_key_75 at h
  refine ww_icmp_ge 75 132 X dX11_key_75 (by decide) (fun q => ?_) (fun q => ?_)
  · replace h := (if_pos q).symm.trans h
    have q := retA_p h
    refine ww_bipush 132 X (v := (-17 : Int32)) dX11_key_132 (by decide) ?_
    exact ww_iretA 134 X hQ dX11_key_134 h
  · replace h := (if_neg q).symm.trans h
    obtain ⟨v79, e79, h⟩ := bO_some h
    obtain ⟨v83, e83, h⟩ := bO_some h
    obtain ⟨v84, e84, h⟩ := bO_some h
    have q := mB_X11_key_87 _ hm72 h
    refine ww_aload_n 78 X dX11_key_78 0 rfl rfl ?_
    refine ww_getR 79 X dX11_key_79 fG_X11_58 e79 ?_
    refine ww_iload_n 82 X dX11_key_82 1 rfl rfl ?_
    refine ww_aald5 83 X dX11_key_83 e83 ?_
    refine ww_getI 84 X dX11_key_84 fG_X11_308 e84 ?_
    exact (wB_X11_key_87 X hQ _ hm72 hr72 (by omega) (by omega) h)
theorem mB_X11_key_72 {G : mG} {F : Nat} {r0 : Int32} {M0 : mM} {Z0 S0 : Nat} : ∀ (n : Nat) (l0 : Nat) (l3 : Int32) (M : mM) (sz : Nat) (sl : Nat), B_X11_key_72 G F n l0 l3 M sz sl = some (r0, M0, Z0, S0) → sz ≤ Z0 ∧ sl ≤ S0 := by
  intro n
  induction n with
  | zero =>
    intro l0 l3 M sz sl h
    exact nomatch (show (none : Option (Int32 × mM × Nat × Nat)) = some (r0, M0, Z0, S0) from h)
  | succ n ih =>
    intro l0 l3 M sz sl h
    rw [B_X11_key_72] at h
    have q := mB_X11_key_75 _ ih h
    omega
set_option maxHeartbeats 4000000 in
set_option maxRecDepth 100000 in
theorem wB_X11_key_72 {G : mG} {F : Nat} {x : mXT} {z0 s0 : Nat} {r0 : Int32} {M0 : mM} {Z0 S0 : Nat} (X : mCX G RX11 cX11_key 5 (some .int) "key" { frames := 9, cells := Z0 - z0, slots := S0 - s0, locals := 213 } x) (hQ : mQI x r0 M0 (Z0, Z0 - z0, S0 - s0)) : ∀ (n : Nat) (l0 : Nat) (l3 : Int32) (M : mM) (sz : Nat) (sl : Nat), z0 ≤ sz → s0 ≤ sl → B_X11_key_72 G F n l0 l3 M sz sl = some (r0, M0, Z0, S0) → WW x (sz, sz - z0, sl - s0) M 72 [(0, .ref l0), (3, .int l3)] [] := by
  intro n
  induction n with
  | zero =>
    intro l0 l3 M sz sl hz0 hs0 h
    exact nomatch (show (none : Option (Int32 × mM × Nat × Nat)) = some (r0, M0, Z0, S0) from h)
  | succ n ih =>
    intro l0 l3 M sz sl hz0 hs0 h
    rw [B_X11_key_72] at h
    have q := mB_X11_key_75 _ (mB_X11_key_72 n) h
    refine ww_iload_n 72 X dX11_key_72 1 rfl rfl ?_
    refine ww_bipush 73 X (v := (16 : Int32)) dX11_key_73 (by decide) ?_
    exact (wB_X11_key_75 X hQ _ (mB_X11_key_72 n) ih (by omega) (by omega) h)
theorem mB_X11_key_64 {G : mG} {F : Nat} {r0 : Int32} {M0 : mM} {Z0 S0 : Nat} {l0 : Nat} {sk0 : Int32} {M : mM} {sz : Nat} {sl : Nat} (h : B_X11_key_64 G F l0 sk0 M sz sl = some (r0, M0, Z0, S0)) : sz ≤ Z0 ∧ sl ≤ S0 := by
  unfold B_X11_key_64 at h
  by_cases q : sk0 = 0
  · replace h := (if_pos q).symm.trans h
    have q := retA_p h
    omega
  · replace h := (if_neg q).symm.trans h
    have q := mB_X11_key_72 F _ _ _ _ _ h
    omega
set_option maxHeartbeats 4000000 in
set_option maxRecDepth 100000 in
theorem wB_X11_key_64 {G : mG} {F : Nat} {x : mXT} {z0 s0 : Nat} {r0 : Int32} {M0 : mM} {Z0 S0 : Nat} (X : mCX G RX11 cX11_key 5 (some .int) "key" { frames := 9, cells := Z0 - z0, slots := S0 - s0, locals := 213 } x) (hQ : mQI x r0 M0 (Z0, Z0 - z0, S0 - s0)) {l0 : Nat} {sk0 : Int32} {M : mM} {sz : Nat} {sl : Nat} (hz0 : z0 ≤ sz) (hs0 : s0 ≤ sl) (h : B_X11_key_64 G F l0 sk0 M sz sl = some (r0, M0, Z0, S0)) : WW x (sz, sz - z0, sl - s0) M 64 [(0, .ref l0)] [.int sk0] := by
  unfold B_X11_key_64 at h
  refine ww_if_ne 64 70 X dX11_key_64 (by decide) (fun q => ?_) (fun q => ?_)
  · replace h := (if_neg q).symm.trans h
    have q := mB_X11_key_72 F _ _ _ _ _ h
    refine ww_iconst 70 X (v := (0 : Int32)) dX11_key_70 (by decide) ?_
    refine ww_istore_n 71 X dX11_key_71 (lv' := [(0, .ref l0), (3, .int (0 : Int32))]) rfl (by decide) [1, 0] rfl ?_
    exact (wB_X11_key_72 X hQ F _ _ _ _ _ (by omega) (by omega) h)
  · replace h := (if_pos q).symm.trans h
    have q := retA_p h
    refine ww_bipush 67 X (v := (-16 : Int32)) dX11_key_67 (by decide) ?_
    exact ww_iretA 69 X hQ dX11_key_69 h
theorem mB_X11_key_48 {G : mG} {F : Nat} {r0 : Int32} {M0 : mM} {Z0 S0 : Nat} {l0 : Nat} {l2 : Int32} {sk0 : Int32} {M : mM} {sz : Nat} {sl : Nat} (h : B_X11_key_48 G F l0 l2 sk0 M sz sl = some (r0, M0, Z0, S0)) : sz ≤ Z0 ∧ sl ≤ S0 := by
  unfold B_X11_key_48 at h
  by_cases q : sk0 = 0
  · replace h := (if_pos q).symm.trans h
    obtain ⟨v58, e58, h⟩ := bO_some h
    obtain ⟨_, f61, h⟩ := bO_some h
    obtain ⟨v61, M61, e61, h⟩ := bP_some h
    have q := mB_X11_key_64 h
    omega
  · replace h := (if_neg q).symm.trans h
    have q := retA_p h
    omega
set_option maxHeartbeats 4000000 in
set_option maxRecDepth 100000 in
theorem wB_X11_key_48 {G : mG} {F : Nat} {x : mXT} {z0 s0 : Nat} {r0 : Int32} {M0 : mM} {Z0 S0 : Nat} (X : mCX G RX11 cX11_key 5 (some .int) "key" { frames := 9, cells := Z0 - z0, slots := S0 - s0, locals := 213 } x) (hQ : mQI x r0 M0 (Z0, Z0 - z0, S0 - s0)) {l0 : Nat} {l2 : Int32} {sk0 : Int32} {M : mM} {sz : Nat} {sl : Nat} (hz0 : z0 ≤ sz) (hs0 : s0 ≤ sl) (h : B_X11_key_48 G F l0 l2 sk0 M sz sl = some (r0, M0, Z0, S0)) : WW x (sz, sz - z0, sl - s0) M 48 [(0, .ref l0), (2, .int l2)] [.int sk0] := by
  unfold B_X11_key_48 at h
  refine ww_if_eq 48 56 X dX11_key_48 (by decide) (fun q => ?_) (fun q => ?_)
  · replace h := (if_pos q).symm.trans h
    obtain ⟨v58, e58, h⟩ := bO_some h
    obtain ⟨_, f61, h⟩ := bO_some h
    obtain ⟨v61, M61, e61, h⟩ := bP_some h
    have q := mB_X11_key_64 h
    refine ww_aload_n 56 X dX11_key_56 0 rfl rfl ?_
    refine ww_aload_n 57 X dX11_key_57 0 rfl rfl ?_
    refine ww_getR 58 X dX11_key_58 fG_X11_63 e58 ?_
    refine ww_callVIz 61 X (sz := sz) (sl := sl) (z0 := z0) (s0 := s0) dX11_key_61 mY_X11_numbersBelong mL_X11_304 (rcv_spec f61) ⟨_, _, rfl⟩ (by decide) (As := [.ref v58]) (rest := []) rfl rfl ⟨Nat.le_of_ble_eq_true rfl, Nat.le_of_ble_eq_true rfl⟩ (by show _ ≤ Z0 - z0; omega) (by show _ ≤ S0 - s0; omega) (Nat.le_of_ble_eq_true rfl) (fun l D A => c_X11_numbersBelong l D A e61) ?_
    exact ww_sub [0] rfl (wB_X11_key_64 X hQ (by omega) (by omega) h)
  · replace h := (if_neg q).symm.trans h
    have q := retA_p h
    refine ww_bipush 51 X (v := (-10 : Int32)) dX11_key_51 (by decide) ?_
    refine ww_iload_n 53 X dX11_key_53 1 rfl rfl ?_
    refine ww_isub 54 X dX11_key_54 ?_
    exact ww_iretA 55 X hQ dX11_key_55 h
theorem mB_X11_key_29 {G : mG} {F : Nat} {r0 : Int32} {M0 : mM} {Z0 S0 : Nat} {l0 : Nat} {sk0 : Int32} {sk1 : Int32} {M : mM} {sz : Nat} {sl : Nat} (h : B_X11_key_29 G F l0 sk0 sk1 M sz sl = some (r0, M0, Z0, S0)) : sz ≤ Z0 ∧ sl ≤ S0 := by
  unfold B_X11_key_29 at h
  by_cases q : sk0 = sk1
  · replace h := (if_pos q).symm.trans h
    obtain ⟨v36, e36, h⟩ := bO_some h
    obtain ⟨v40, e40, h⟩ := bO_some h
    obtain ⟨_, f43, h⟩ := bO_some h
    obtain ⟨v43, M43, z43, k43, e43, h⟩ := bAP_some h
    have g43 := mP_X5_reasonAgainst e43
    have q := mB_X11_key_48 h
    omega
  · replace h := (if_neg q).symm.trans h
    have q := retA_p h
    omega
set_option maxHeartbeats 4000000 in
set_option maxRecDepth 100000 in
theorem wB_X11_key_29 {G : mG} {F : Nat} {x : mXT} {z0 s0 : Nat} {r0 : Int32} {M0 : mM} {Z0 S0 : Nat} (X : mCX G RX11 cX11_key 5 (some .int) "key" { frames := 9, cells := Z0 - z0, slots := S0 - s0, locals := 213 } x) (hQ : mQI x r0 M0 (Z0, Z0 - z0, S0 - s0)) {l0 : Nat} {sk0 : Int32} {sk1 : Int32} {M : mM} {sz : Nat} {sl : Nat} (hz0 : z0 ≤ sz) (hs0 : s0 ≤ sl) (h : B_X11_key_29 G F l0 sk0 sk1 M sz sl = some (r0, M0, Z0, S0)) : WW x (sz, sz - z0, sl - s0) M 29 [(0, .ref l0)] [.int sk1, .int sk0] := by
  unfold B_X11_key_29 at h
  refine ww_icmp_eq 29 35 X dX11_key_29 (by decide) (fun q => ?_) (fun q => ?_)
  · replace h := (if_pos q).symm.trans h
    obtain ⟨v36, e36, h⟩ := bO_some h
    obtain ⟨v40, e40, h⟩ := bO_some h
    obtain ⟨_, f43, h⟩ := bO_some h
    obtain ⟨v43, M43, z43, k43, e43, h⟩ := bAP_some h
    have g43 := mP_X5_reasonAgainst e43
    have q := mB_X11_key_48 h
    refine ww_aload_n 35 X dX11_key_35 0 rfl rfl ?_
    refine ww_getR 36 X dX11_key_36 fG_X11_63 e36 ?_
    refine ww_aload_n 39 X dX11_key_39 0 rfl rfl ?_
    refine ww_getR 40 X dX11_key_40 fG_X11_44 e40 ?_
    refine ww_callVIa 43 X (sz := sz) (sl := sl) (z0 := z0) (s0 := s0) dX11_key_43 mY_X5_reasonAgainst mL_X11_300 (rcv_spec f43) ⟨_, _, rfl⟩ (by decide) (As := [.ref v40]) (rest := []) rfl rfl ⟨Nat.le_of_ble_eq_true rfl, Nat.le_of_ble_eq_true rfl⟩ (by omega) (by omega) (by omega) (by omega) (by show _ ≤ Z0 - z0; omega) (by show _ ≤ S0 - s0; omega) (Nat.le_of_ble_eq_true rfl) (fun l D A => c_X5_reasonAgainst l D A e43) ?_
    refine ww_istore_n 46 X dX11_key_46 (lv' := [(0, .ref l0), (2, .int v43)]) rfl (by decide) [1, 0] rfl ?_
    refine ww_iload_n 47 X dX11_key_47 1 rfl rfl ?_
    exact (wB_X11_key_48 X hQ (by omega) (by omega) h)
  · replace h := (if_neg q).symm.trans h
    have q := retA_p h
    refine ww_bipush 32 X (v := (-11 : Int32)) dX11_key_32 (by decide) ?_
    exact ww_iretA 34 X hQ dX11_key_34 h
theorem mB_X11_key_5 {G : mG} {F : Nat} {r0 : Int32} {M0 : mM} {Z0 S0 : Nat} {l0 : Nat} {l1 : Int32} {sk0 : Int32} {M : mM} {sz : Nat} {sl : Nat} (h : B_X11_key_5 G F l0 l1 sk0 M sz sl = some (r0, M0, Z0, S0)) : sz ≤ Z0 ∧ sl ≤ S0 := by
  unfold B_X11_key_5 at h
  by_cases q : sk0 = 0
  · replace h := (if_pos q).symm.trans h
    have q := retA_p h
    omega
  · replace h := (if_neg q).symm.trans h
    obtain ⟨v12, e12, h⟩ := bO_some h
    obtain ⟨v16, e16, h⟩ := bO_some h
    obtain ⟨v20, e20, h⟩ := bO_some h
    obtain ⟨v22, e22, h⟩ := bO_some h
    obtain ⟨_, f25, h⟩ := bO_some h
    obtain ⟨v25, M25, e25, h⟩ := bP_some h
    have q := mB_X11_key_29 h
    omega
set_option maxHeartbeats 4000000 in
set_option maxRecDepth 100000 in
theorem wB_X11_key_5 {G : mG} {F : Nat} {x : mXT} {z0 s0 : Nat} {r0 : Int32} {M0 : mM} {Z0 S0 : Nat} (X : mCX G RX11 cX11_key 5 (some .int) "key" { frames := 9, cells := Z0 - z0, slots := S0 - s0, locals := 213 } x) (hQ : mQI x r0 M0 (Z0, Z0 - z0, S0 - s0)) {l0 : Nat} {l1 : Int32} {sk0 : Int32} {M : mM} {sz : Nat} {sl : Nat} (hz0 : z0 ≤ sz) (hs0 : s0 ≤ sl) (h : B_X11_key_5 G F l0 l1 sk0 M sz sl = some (r0, M0, Z0, S0)) : WW x (sz, sz - z0, sl - s0) M 5 [(0, .ref l0), (1, .int l1)] [.int sk0] := by
  unfold B_X11_key_5 at h
  refine ww_if_ne 5 11 X dX11_key_5 (by decide) (fun q => ?_) (fun q => ?_)
  · replace h := (if_neg q).symm.trans h
    obtain ⟨v12, e12, h⟩ := bO_some h
    obtain ⟨v16, e16, h⟩ := bO_some h
    obtain ⟨v20, e20, h⟩ := bO_some h
    obtain ⟨v22, e22, h⟩ := bO_some h
    obtain ⟨_, f25, h⟩ := bO_some h
    obtain ⟨v25, M25, e25, h⟩ := bP_some h
    have q := mB_X11_key_29 h
    refine ww_aload_n 11 X dX11_key_11 0 rfl rfl ?_
    refine ww_getR 12 X dX11_key_12 fG_X11_52 e12 ?_
    refine ww_aload_n 15 X dX11_key_15 0 rfl rfl ?_
    refine ww_getR 16 X dX11_key_16 fG_X11_11 e16 ?_
    refine ww_iload_n 19 X dX11_key_19 1 rfl rfl ?_
    refine ww_aald4 20 X dX11_key_20 e20 ?_
    refine ww_aload_n 21 X dX11_key_21 0 rfl rfl ?_
    refine ww_getR 22 X dX11_key_22 fG_X11_44 e22 ?_
    refine ww_callVIz 25 X (sz := sz) (sl := sl) (z0 := z0) (s0 := s0) dX11_key_25 mY_X7_read mL_X11_142 (rcv_spec f25) ⟨_, _, rfl⟩ (by decide) (As := [.ref v20, .ref v22]) (rest := []) rfl rfl ⟨Nat.le_of_ble_eq_true rfl, Nat.le_of_ble_eq_true rfl⟩ (by show _ ≤ Z0 - z0; omega) (by show _ ≤ S0 - s0; omega) (Nat.le_of_ble_eq_true rfl) (fun l D A => c_X7_read l D A e25) ?_
    refine ww_iconst 28 X (v := (-1 : Int32)) dX11_key_28 (by decide) ?_
    exact ww_sub [0] rfl (wB_X11_key_29 X hQ (by omega) (by omega) h)
  · replace h := (if_pos q).symm.trans h
    have q := retA_p h
    refine ww_bipush 8 X (v := (-2 : Int32)) dX11_key_8 (by decide) ?_
    exact ww_iretA 10 X hQ dX11_key_10 h
theorem mP_X11_key {G : mG} {F : Nat} {r0 : Int32} {M0 : mM} {Z0 S0 : Nat} {l0 : Nat} {l1 : Int32} {M : mM} {sz : Nat} {sl : Nat} (h : P_X11_key G F l0 l1 M sz sl = some (r0, M0, Z0, S0)) : sz ≤ Z0 ∧ sl ≤ S0 := by
  unfold P_X11_key at h
  obtain ⟨_, f2, h⟩ := bO_some h
  obtain ⟨v2, M2, e2, h⟩ := bP_some h
  have q := mB_X11_key_5 h
  omega
set_option maxHeartbeats 4000000 in
set_option maxRecDepth 100000 in
theorem wP_X11_key {G : mG} {F : Nat} {x : mXT} {z0 s0 : Nat} {r0 : Int32} {M0 : mM} {Z0 S0 : Nat} (X : mCX G RX11 cX11_key 5 (some .int) "key" { frames := 9, cells := Z0 - z0, slots := S0 - s0, locals := 213 } x) (hQ : mQI x r0 M0 (Z0, Z0 - z0, S0 - s0)) {l0 : Nat} {l1 : Int32} {M : mM} {sz : Nat} {sl : Nat} (hz0 : z0 ≤ sz) (hs0 : s0 ≤ sl) (h : P_X11_key G F l0 l1 M sz sl = some (r0, M0, Z0, S0)) : WW x (sz, sz - z0, sl - s0) M 0 [(0, .ref l0), (1, .int l1)] [] := by
  unfold P_X11_key at h
  obtain ⟨_, f2, h⟩ := bO_some h
  obtain ⟨v2, M2, e2, h⟩ := bP_some h
  have q := mB_X11_key_5 h
  refine ww_aload_n 0 X dX11_key_0 0 rfl rfl ?_
  refine ww_iload_n 1 X dX11_key_1 1 rfl rfl ?_
  refine ww_callVIz 2 X (sz := sz) (sl := sl) (z0 := z0) (s0 := s0) dX11_key_2 mY_X11_isRow mL_X11_123 (rcv_spec f2) ⟨_, _, rfl⟩ (by decide) (As := [.int l1]) (rest := []) rfl rfl ⟨Nat.le_of_ble_eq_true rfl, Nat.le_of_ble_eq_true rfl⟩ (by show _ ≤ Z0 - z0; omega) (by show _ ≤ S0 - s0; omega) (Nat.le_of_ble_eq_true rfl) (fun l D A => c_X11_isRow l D A e2) ?_
  exact (wB_X11_key_5 X hQ (by omega) (by omega) h)
theorem c_X11_key {G : mG} {F : Nat} {r0 : Int32} {M0 : mM} {Z0 S0 : Nat} (l : Launch) (D : mD) (A : Nat → Prop) {l0 : Nat} {l1 : Int32} {M : mM} {sz : Nat} {sl : Nat} (h : P_X11_key G F l0 l1 M sz sl = some (r0, M0, Z0, S0)) : mMetI l D G A yX11_key cX11_key 5 (some .int) 9 213 (Z0 - sz) (S0 - sl) [.ref l0, .int l1] M sz r0 M0 Z0 := mMetI_of l D G A (by decide) (Nat.le_of_ble_eq_true rfl) (fun x X hQ => by have K := wP_X11_key X hQ (Nat.le_refl sz) (Nat.le_refl sl) h; rw [Nat.sub_self, Nat.sub_self] at K; exact K)
/-! SealedTokens.isKey(I)Z -/
theorem dX11_isKey_0 : decode cX11_isKey 0 = .ok (.iload_n 1, 1) := by decide +kernel
theorem dX11_isKey_1 : decode cX11_isKey 1 = .ok (.ifCond .lt 25, 3) := by decide +kernel
theorem dX11_isKey_4 : decode cX11_isKey 4 = .ok (.iload_n 1, 1) := by decide +kernel
theorem dX11_isKey_5 : decode cX11_isKey 5 = .ok (.bipush 16, 2) := by decide +kernel
theorem dX11_isKey_7 : decode cX11_isKey 7 = .ok (.if_icmp .ge 19, 3) := by decide +kernel
theorem dX11_isKey_10 : decode cX11_isKey 10 = .ok (.aload_n 0, 1) := by decide +kernel
theorem dX11_isKey_11 : decode cX11_isKey 11 = .ok (.getfield 58, 3) := by decide +kernel
theorem dX11_isKey_14 : decode cX11_isKey 14 = .ok (.iload_n 1, 1) := by decide +kernel
theorem dX11_isKey_15 : decode cX11_isKey 15 = .ok (.aaload, 1) := by decide +kernel
theorem dX11_isKey_16 : decode cX11_isKey 16 = .ok (.getfield 308, 3) := by decide +kernel
theorem dX11_isKey_19 : decode cX11_isKey 19 = .ok (.ifCond .eq 7, 3) := by decide +kernel
theorem dX11_isKey_22 : decode cX11_isKey 22 = .ok (.iconst 1, 1) := by decide +kernel
theorem dX11_isKey_23 : decode cX11_isKey 23 = .ok (.goto 4, 3) := by decide +kernel
theorem dX11_isKey_26 : decode cX11_isKey 26 = .ok (.iconst 0, 1) := by decide +kernel
theorem dX11_isKey_27 : decode cX11_isKey 27 = .ok (.ireturn, 1) := by decide +kernel
abbrev rmX11_isKey : Room := { frames := 0, cells := 0, slots := 0, locals := 0 }
set_option maxHeartbeats 4000000 in
set_option maxRecDepth 100000 in
theorem wP_X11_isKey {G : mG} {F : Nat} {x : mXT} {sz : Nat} {r0 : Int32} {M0 : mM} (X : mCX G RX11 cX11_isKey 2 (some .boolean) "isKey" rmX11_isKey x) (hQ : mQI x r0 M0 (sz, 0, 0)) {l0 : Nat} {l1 : Int32} {M : mM} (h : P_X11_isKey G F l0 l1 M = some (r0, M0)) : WW x (sz, 0, 0) M 0 [(0, .ref l0), (1, .int l1)] [] := by
  unfold P_X11_isKey at h
  refine ww_iload_n 0 X dX11_isKey_0 1 rfl rfl ?_
  refine ww_if_lt 1 26 X dX11_isKey_1 (by decide) (fun q => ?_) (fun q => ?_)
  · replace h := (if_pos q).symm.trans h
    refine ww_iconst 26 X (v := (0 : Int32)) dX11_isKey_26 (by decide) ?_
    exact ww_zretE 27 X hQ dX11_isKey_27 h
  · replace h := (if_neg q).symm.trans h
    refine ww_iload_n 4 X dX11_isKey_4 1 rfl rfl ?_
    refine ww_bipush 5 X (v := (16 : Int32)) dX11_isKey_5 (by decide) ?_
    refine ww_icmp_ge 7 26 X dX11_isKey_7 (by decide) (fun q => ?_) (fun q => ?_)
    · replace h := (if_pos q).symm.trans h
      refine ww_iconst 26 X (v := (0 : Int32)) dX11_isKey_26 (by decide) ?_
      exact ww_zretE 27 X hQ dX11_isKey_27 h
    · replace h := (if_neg q).symm.trans h
      refine ww_aload_n 10 X dX11_isKey_10 0 rfl rfl ?_
      obtain ⟨v11, e11, h⟩ := bO_some h
      refine ww_getR 11 X dX11_isKey_11 fG_X11_58 e11 ?_
      refine ww_iload_n 14 X dX11_isKey_14 1 rfl rfl ?_
      obtain ⟨v15, e15, h⟩ := bO_some h
      refine ww_aald5 15 X dX11_isKey_15 e15 ?_
      obtain ⟨v16, e16, h⟩ := bO_some h
      refine ww_getI 16 X dX11_isKey_16 fG_X11_308 e16 ?_
      refine ww_if_eq 19 26 X dX11_isKey_19 (by decide) (fun q => ?_) (fun q => ?_)
      · replace h := (if_pos q).symm.trans h
        refine ww_iconst 26 X (v := (0 : Int32)) dX11_isKey_26 (by decide) ?_
        exact ww_zretE 27 X hQ dX11_isKey_27 h
      · replace h := (if_neg q).symm.trans h
        refine ww_iconst 22 X (v := (1 : Int32)) dX11_isKey_22 (by decide) ?_
        refine ww_goto 23 27 X dX11_isKey_23 (by decide) ?_
        exact ww_zretE 27 X hQ dX11_isKey_27 h
theorem c_X11_isKey {G : mG} {F sz : Nat} {r0 : Int32} {M0 : mM} (l : Launch) (D : mD) (A : Nat → Prop) {l0 : Nat} {l1 : Int32} {M : mM} (h : P_X11_isKey G F l0 l1 M = some (r0, M0)) : mMetI l D G A yX11_isKey cX11_isKey 2 (some .boolean) 0 0 0 0 [.ref l0, .int l1] M sz r0 M0 sz := mMetI_of l D G A (by decide) (Nat.le_of_ble_eq_true rfl) (fun x X hQ => wP_X11_isKey X hQ h)
/-! SealedTokens.drop(I)I -/
theorem dX11_drop_0 : decode cX11_drop 0 = .ok (.aload_n 0, 1) := by decide +kernel
theorem dX11_drop_1 : decode cX11_drop 1 = .ok (.iload_n 1, 1) := by decide +kernel
theorem dX11_drop_2 : decode cX11_drop 2 = .ok (.invokevirtual 311, 3) := by decide +kernel
theorem dX11_drop_5 : decode cX11_drop 5 = .ok (.ifCond .ne 6, 3) := by decide +kernel
theorem dX11_drop_8 : decode cX11_drop 8 = .ok (.bipush (-2), 2) := by decide +kernel
theorem dX11_drop_10 : decode cX11_drop 10 = .ok (.ireturn, 1) := by decide +kernel
theorem dX11_drop_11 : decode cX11_drop 11 = .ok (.aload_n 0, 1) := by decide +kernel
theorem dX11_drop_12 : decode cX11_drop 12 = .ok (.getfield 58, 3) := by decide +kernel
theorem dX11_drop_15 : decode cX11_drop 15 = .ok (.iload_n 1, 1) := by decide +kernel
theorem dX11_drop_16 : decode cX11_drop 16 = .ok (.aaload, 1) := by decide +kernel
theorem dX11_drop_17 : decode cX11_drop 17 = .ok (.iconst 0, 1) := by decide +kernel
theorem dX11_drop_18 : decode cX11_drop 18 = .ok (.putfield 308, 3) := by decide +kernel
theorem dX11_drop_21 : decode cX11_drop 21 = .ok (.iconst 1, 1) := by decide +kernel
theorem dX11_drop_22 : decode cX11_drop 22 = .ok (.ireturn, 1) := by decide +kernel
abbrev rmX11_drop : Room := { frames := 1, cells := 0, slots := 0, locals := 21 }
set_option maxHeartbeats 4000000 in
set_option maxRecDepth 100000 in
theorem wP_X11_drop {G : mG} {F : Nat} {x : mXT} {sz : Nat} {r0 : Int32} {M0 : mM} (X : mCX G RX11 cX11_drop 2 (some .int) "drop" rmX11_drop x) (hQ : mQI x r0 M0 (sz, 0, 0)) {l0 : Nat} {l1 : Int32} {M : mM} (h : P_X11_drop G F l0 l1 M = some (r0, M0)) : WW x (sz, 0, 0) M 0 [(0, .ref l0), (1, .int l1)] [] := by
  unfold P_X11_drop at h
  refine ww_aload_n 0 X dX11_drop_0 0 rfl rfl ?_
  refine ww_iload_n 1 X dX11_drop_1 1 rfl rfl ?_
  obtain ⟨_, f2, h⟩ := bO_some h
  obtain ⟨v2, M2, e2, h⟩ := bP_some h
  refine ww_callVI0 2 X dX11_drop_2 mY_X11_isKey mL_X11_311 (rcv_spec f2) ⟨_, _, rfl⟩ (by decide) (As := [.int l1]) (rest := []) rfl rfl ⟨Nat.le_of_ble_eq_true rfl, Nat.le_of_ble_eq_true rfl⟩ (Nat.le_of_ble_eq_true rfl) (fun l D A => c_X11_isKey l D A e2) ?_
  refine ww_if_ne 5 11 X dX11_drop_5 (by decide) (fun q => ?_) (fun q => ?_)
  · replace h := (if_neg q).symm.trans h
    refine ww_aload_n 11 X dX11_drop_11 0 rfl rfl ?_
    obtain ⟨v12, e12, h⟩ := bO_some h
    refine ww_getR 12 X dX11_drop_12 fG_X11_58 e12 ?_
    refine ww_iload_n 15 X dX11_drop_15 1 rfl rfl ?_
    obtain ⟨v16, e16, h⟩ := bO_some h
    refine ww_aald5 16 X dX11_drop_16 e16 ?_
    refine ww_iconst 17 X (v := (0 : Int32)) dX11_drop_17 (by decide) ?_
    obtain ⟨M18, e18, h⟩ := bO_some h
    refine ww_putZ 18 X dX11_drop_18 (fP_X11_308 _) e18 ?_
    refine ww_iconst 21 X (v := (1 : Int32)) dX11_drop_21 (by decide) ?_
    exact ww_iretE 22 X hQ dX11_drop_22 h
  · replace h := (if_pos q).symm.trans h
    refine ww_bipush 8 X (v := (-2 : Int32)) dX11_drop_8 (by decide) ?_
    exact ww_iretE 10 X hQ dX11_drop_10 h
theorem c_X11_drop {G : mG} {F sz : Nat} {r0 : Int32} {M0 : mM} (l : Launch) (D : mD) (A : Nat → Prop) {l0 : Nat} {l1 : Int32} {M : mM} (h : P_X11_drop G F l0 l1 M = some (r0, M0)) : mMetI l D G A yX11_drop cX11_drop 2 (some .int) 1 21 0 0 [.ref l0, .int l1] M sz r0 M0 sz := mMetI_of l D G A (by decide) (Nat.le_of_ble_eq_true rfl) (fun x X hQ => wP_X11_drop X hQ h)
/-! SealedTokens.told(II)I -/
theorem dX11_told_0 : decode cX11_told 0 = .ok (.aload_n 0, 1) := by decide +kernel
theorem dX11_told_1 : decode cX11_told 1 = .ok (.iload_n 1, 1) := by decide +kernel
theorem dX11_told_2 : decode cX11_told 2 = .ok (.invokevirtual 311, 3) := by decide +kernel
theorem dX11_told_5 : decode cX11_told 5 = .ok (.ifCond .ne 6, 3) := by decide +kernel
theorem dX11_told_8 : decode cX11_told 8 = .ok (.bipush (-2), 2) := by decide +kernel
theorem dX11_told_10 : decode cX11_told 10 = .ok (.ireturn, 1) := by decide +kernel
theorem dX11_told_11 : decode cX11_told 11 = .ok (.aload_n 0, 1) := by decide +kernel
theorem dX11_told_12 : decode cX11_told 12 = .ok (.getfield 58, 3) := by decide +kernel
theorem dX11_told_15 : decode cX11_told 15 = .ok (.iload_n 1, 1) := by decide +kernel
theorem dX11_told_16 : decode cX11_told 16 = .ok (.aaload, 1) := by decide +kernel
theorem dX11_told_17 : decode cX11_told 17 = .ok (.astore_n 3, 1) := by decide +kernel
theorem dX11_told_18 : decode cX11_told 18 = .ok (.iload_n 2, 1) := by decide +kernel
theorem dX11_told_19 : decode cX11_told 19 = .ok (.tableswitch 114 0 5 #[37, 42, 63, 76, 81, 100], 37) := by decide +kernel
theorem dX11_told_56 : decode cX11_told 56 = .ok (.aload_n 3, 1) := by decide +kernel
theorem dX11_told_57 : decode cX11_told 57 = .ok (.getfield 314, 3) := by decide +kernel
theorem dX11_told_60 : decode cX11_told 60 = .ok (.ireturn, 1) := by decide +kernel
theorem dX11_told_61 : decode cX11_told 61 = .ok (.aload_n 3, 1) := by decide +kernel
theorem dX11_told_62 : decode cX11_told 62 = .ok (.getfield 314, 3) := by decide +kernel
theorem dX11_told_65 : decode cX11_told 65 = .ok (.iconst 2, 1) := by decide +kernel
theorem dX11_told_66 : decode cX11_told 66 = .ok (.if_icmp .ne 8, 3) := by decide +kernel
theorem dX11_told_69 : decode cX11_told 69 = .ok (.bipush 32, 2) := by decide +kernel
theorem dX11_told_71 : decode cX11_told 71 = .ok (.goto 10, 3) := by decide +kernel
theorem dX11_told_74 : decode cX11_told 74 = .ok (.aload_n 3, 1) := by decide +kernel
theorem dX11_told_75 : decode cX11_told 75 = .ok (.getfield 316, 3) := by decide +kernel
theorem dX11_told_78 : decode cX11_told 78 = .ok (.getfield 113, 3) := by decide +kernel
theorem dX11_told_81 : decode cX11_told 81 = .ok (.ireturn, 1) := by decide +kernel
theorem dX11_told_82 : decode cX11_told 82 = .ok (.aload_n 3, 1) := by decide +kernel
theorem dX11_told_83 : decode cX11_told 83 = .ok (.getfield 319, 3) := by decide +kernel
theorem dX11_told_86 : decode cX11_told 86 = .ok (.ifCond .eq 7, 3) := by decide +kernel
theorem dX11_told_89 : decode cX11_told 89 = .ok (.iconst 1, 1) := by decide +kernel
theorem dX11_told_90 : decode cX11_told 90 = .ok (.goto 4, 3) := by decide +kernel
theorem dX11_told_93 : decode cX11_told 93 = .ok (.iconst 0, 1) := by decide +kernel
theorem dX11_told_94 : decode cX11_told 94 = .ok (.ireturn, 1) := by decide +kernel
theorem dX11_told_95 : decode cX11_told 95 = .ok (.aload_n 3, 1) := by decide +kernel
theorem dX11_told_96 : decode cX11_told 96 = .ok (.getfield 322, 3) := by decide +kernel
theorem dX11_told_99 : decode cX11_told 99 = .ok (.ireturn, 1) := by decide +kernel
theorem dX11_told_100 : decode cX11_told 100 = .ok (.aload_n 3, 1) := by decide +kernel
theorem dX11_told_101 : decode cX11_told 101 = .ok (.getfield 325, 3) := by decide +kernel
theorem dX11_told_104 : decode cX11_told 104 = .ok (.ifCond .eq 13, 3) := by decide +kernel
theorem dX11_told_107 : decode cX11_told 107 = .ok (.aload_n 3, 1) := by decide +kernel
theorem dX11_told_108 : decode cX11_told 108 = .ok (.getfield 328, 3) := by decide +kernel
theorem dX11_told_111 : decode cX11_told 111 = .ok (.getfield 113, 3) := by decide +kernel
theorem dX11_told_114 : decode cX11_told 114 = .ok (.goto 4, 3) := by decide +kernel
theorem dX11_told_117 : decode cX11_told 117 = .ok (.iconst (-1), 1) := by decide +kernel
theorem dX11_told_118 : decode cX11_told 118 = .ok (.ireturn, 1) := by decide +kernel
theorem dX11_told_119 : decode cX11_told 119 = .ok (.aload_n 3, 1) := by decide +kernel
theorem dX11_told_120 : decode cX11_told 120 = .ok (.getfield 331, 3) := by decide +kernel
theorem dX11_told_123 : decode cX11_told 123 = .ok (.iconst (-1), 1) := by decide +kernel
theorem dX11_told_124 : decode cX11_told 124 = .ok (.if_icmp .ne 7, 3) := by decide +kernel
theorem dX11_told_127 : decode cX11_told 127 = .ok (.iconst 0, 1) := by decide +kernel
theorem dX11_told_128 : decode cX11_told 128 = .ok (.goto 4, 3) := by decide +kernel
theorem dX11_told_131 : decode cX11_told 131 = .ok (.iconst 1, 1) := by decide +kernel
theorem dX11_told_132 : decode cX11_told 132 = .ok (.ireturn, 1) := by decide +kernel
theorem dX11_told_133 : decode cX11_told 133 = .ok (.bipush (-2), 2) := by decide +kernel
theorem dX11_told_135 : decode cX11_told 135 = .ok (.ireturn, 1) := by decide +kernel
abbrev rmX11_told : Room := { frames := 1, cells := 0, slots := 0, locals := 21 }
set_option maxHeartbeats 4000000 in
set_option maxRecDepth 100000 in
theorem wP_X11_told {G : mG} {F : Nat} {x : mXT} {sz : Nat} {r0 : Int32} {M0 : mM} (X : mCX G RX11 cX11_told 4 (some .int) "told" rmX11_told x) (hQ : mQI x r0 M0 (sz, 0, 0)) {l0 : Nat} {l1 : Int32} {l2 : Int32} {M : mM} (h : P_X11_told G F l0 l1 l2 M = some (r0, M0)) : WW x (sz, 0, 0) M 0 [(0, .ref l0), (1, .int l1), (2, .int l2)] [] := by
  unfold P_X11_told at h
  refine ww_aload_n 0 X dX11_told_0 0 rfl rfl ?_
  refine ww_iload_n 1 X dX11_told_1 1 rfl rfl ?_
  obtain ⟨_, f2, h⟩ := bO_some h
  obtain ⟨v2, M2, e2, h⟩ := bP_some h
  refine ww_callVI0 2 X dX11_told_2 mY_X11_isKey mL_X11_311 (rcv_spec f2) ⟨_, _, rfl⟩ (by decide) (As := [.int l1]) (rest := []) rfl rfl ⟨Nat.le_of_ble_eq_true rfl, Nat.le_of_ble_eq_true rfl⟩ (Nat.le_of_ble_eq_true rfl) (fun l D A => c_X11_isKey l D A e2) ?_
  refine ww_if_ne 5 11 X dX11_told_5 (by decide) (fun q => ?_) (fun q => ?_)
  · replace h := (if_neg q).symm.trans h
    refine ww_aload_n 11 X dX11_told_11 0 rfl rfl ?_
    obtain ⟨v12, e12, h⟩ := bO_some h
    refine ww_getR 12 X dX11_told_12 fG_X11_58 e12 ?_
    refine ww_iload_n 15 X dX11_told_15 1 rfl rfl ?_
    obtain ⟨v16, e16, h⟩ := bO_some h
    refine ww_aald5 16 X dX11_told_16 e16 ?_
    refine ww_astore_n 17 X dX11_told_17 (lv' := [(0, .ref l0), (1, .int l1), (2, .int l2), (3, .ref v16)]) rfl (by decide) [1, 2, 3, 0] rfl ?_
    refine ww_iload_n 18 X dX11_told_18 2 rfl rfl ?_
    by_cases q0 : l2 = (0 : Int32)
    · replace h := (if_pos q0).symm.trans h
      refine ww_tableIn 19 56 X dX11_told_19 (off := 37) (by rw [q0]; decide) (by rw [q0]; decide) (by rw [q0]; decide) (by decide) ?_
      refine ww_aload_n 56 X dX11_told_56 3 rfl rfl ?_
      obtain ⟨v57, e57, h⟩ := bO_some h
      refine ww_getI 57 X dX11_told_57 fG_X11_314 e57 ?_
      exact ww_iretE 60 X hQ dX11_told_60 h
    · replace h := (if_neg q0).symm.trans h
      by_cases q1 : l2 = (1 : Int32)
      · replace h := (if_pos q1).symm.trans h
        refine ww_tableIn 19 61 X dX11_told_19 (off := 42) (by rw [q1]; decide) (by rw [q1]; decide) (by rw [q1]; decide) (by decide) ?_
        refine ww_aload_n 61 X dX11_told_61 3 rfl rfl ?_
        obtain ⟨v62, e62, h⟩ := bO_some h
        refine ww_getI 62 X dX11_told_62 fG_X11_314 e62 ?_
        refine ww_iconst 65 X (v := (2 : Int32)) dX11_told_65 (by decide) ?_
        refine ww_icmp_ne 66 74 X dX11_told_66 (by decide) (fun q => ?_) (fun q => ?_)
        · replace h := (if_neg q).symm.trans h
          refine ww_aload_n 74 X dX11_told_74 3 rfl rfl ?_
          obtain ⟨v75, e75, h⟩ := bO_some h
          refine ww_getR 75 X dX11_told_75 fG_X11_316 e75 ?_
          obtain ⟨v78, e78, h⟩ := bO_some h
          refine ww_getI 78 X dX11_told_78 fG_X11_113 e78 ?_
          exact ww_iretE 81 X hQ dX11_told_81 h
        · replace h := (if_pos q).symm.trans h
          refine ww_bipush 69 X (v := (32 : Int32)) dX11_told_69 (by decide) ?_
          refine ww_goto 71 81 X dX11_told_71 (by decide) ?_
          exact ww_iretE 81 X hQ dX11_told_81 h
      · replace h := (if_neg q1).symm.trans h
        by_cases q2 : l2 = (2 : Int32)
        · replace h := (if_pos q2).symm.trans h
          refine ww_tableIn 19 82 X dX11_told_19 (off := 63) (by rw [q2]; decide) (by rw [q2]; decide) (by rw [q2]; decide) (by decide) ?_
          refine ww_aload_n 82 X dX11_told_82 3 rfl rfl ?_
          obtain ⟨v83, e83, h⟩ := bO_some h
          refine ww_getI 83 X dX11_told_83 fG_X11_319 e83 ?_
          refine ww_if_eq 86 93 X dX11_told_86 (by decide) (fun q => ?_) (fun q => ?_)
          · replace h := (if_pos q).symm.trans h
            refine ww_iconst 93 X (v := (0 : Int32)) dX11_told_93 (by decide) ?_
            exact ww_iretE 94 X hQ dX11_told_94 h
          · replace h := (if_neg q).symm.trans h
            refine ww_iconst 89 X (v := (1 : Int32)) dX11_told_89 (by decide) ?_
            refine ww_goto 90 94 X dX11_told_90 (by decide) ?_
            exact ww_iretE 94 X hQ dX11_told_94 h
        · replace h := (if_neg q2).symm.trans h
          by_cases q3 : l2 = (3 : Int32)
          · replace h := (if_pos q3).symm.trans h
            refine ww_tableIn 19 95 X dX11_told_19 (off := 76) (by rw [q3]; decide) (by rw [q3]; decide) (by rw [q3]; decide) (by decide) ?_
            refine ww_aload_n 95 X dX11_told_95 3 rfl rfl ?_
            obtain ⟨v96, e96, h⟩ := bO_some h
            refine ww_getI 96 X dX11_told_96 fG_X11_322 e96 ?_
            exact ww_iretE 99 X hQ dX11_told_99 h
          · replace h := (if_neg q3).symm.trans h
            by_cases q4 : l2 = (4 : Int32)
            · replace h := (if_pos q4).symm.trans h
              refine ww_tableIn 19 100 X dX11_told_19 (off := 81) (by rw [q4]; decide) (by rw [q4]; decide) (by rw [q4]; decide) (by decide) ?_
              refine ww_aload_n 100 X dX11_told_100 3 rfl rfl ?_
              obtain ⟨v101, e101, h⟩ := bO_some h
              refine ww_getI 101 X dX11_told_101 fG_X11_325 e101 ?_
              refine ww_if_eq 104 117 X dX11_told_104 (by decide) (fun q => ?_) (fun q => ?_)
              · replace h := (if_pos q).symm.trans h
                refine ww_iconst 117 X (v := (-1 : Int32)) dX11_told_117 (by decide) ?_
                exact ww_iretE 118 X hQ dX11_told_118 h
              · replace h := (if_neg q).symm.trans h
                refine ww_aload_n 107 X dX11_told_107 3 rfl rfl ?_
                obtain ⟨v108, e108, h⟩ := bO_some h
                refine ww_getR 108 X dX11_told_108 fG_X11_328 e108 ?_
                obtain ⟨v111, e111, h⟩ := bO_some h
                refine ww_getI 111 X dX11_told_111 fG_X11_113 e111 ?_
                refine ww_goto 114 118 X dX11_told_114 (by decide) ?_
                exact ww_iretE 118 X hQ dX11_told_118 h
            · replace h := (if_neg q4).symm.trans h
              by_cases q5 : l2 = (5 : Int32)
              · replace h := (if_pos q5).symm.trans h
                refine ww_tableIn 19 119 X dX11_told_19 (off := 100) (by rw [q5]; decide) (by rw [q5]; decide) (by rw [q5]; decide) (by decide) ?_
                refine ww_aload_n 119 X dX11_told_119 3 rfl rfl ?_
                obtain ⟨v120, e120, h⟩ := bO_some h
                refine ww_getI 120 X dX11_told_120 fG_X11_331 e120 ?_
                refine ww_iconst 123 X (v := (-1 : Int32)) dX11_told_123 (by decide) ?_
                refine ww_icmp_ne 124 131 X dX11_told_124 (by decide) (fun q => ?_) (fun q => ?_)
                · replace h := (if_neg q).symm.trans h
                  refine ww_iconst 131 X (v := (1 : Int32)) dX11_told_131 (by decide) ?_
                  exact ww_iretE 132 X hQ dX11_told_132 h
                · replace h := (if_pos q).symm.trans h
                  refine ww_iconst 127 X (v := (0 : Int32)) dX11_told_127 (by decide) ?_
                  refine ww_goto 128 132 X dX11_told_128 (by decide) ?_
                  exact ww_iretE 132 X hQ dX11_told_132 h
              · replace h := (if_neg q5).symm.trans h
                have z0 := lv_neT q0 (show (0 : Int32).toInt = 0 by decide)
                have z1 := lv_neT q1 (show (1 : Int32).toInt = 1 by decide)
                have z2 := lv_neT q2 (show (2 : Int32).toInt = 2 by decide)
                have z3 := lv_neT q3 (show (3 : Int32).toInt = 3 by decide)
                have z4 := lv_neT q4 (show (4 : Int32).toInt = 4 by decide)
                have z5 := lv_neT q5 (show (5 : Int32).toInt = 5 by decide)
                refine ww_tableOut 19 133 X dX11_told_19 (by omega) (by decide) ?_
                refine ww_bipush 133 X (v := (-2 : Int32)) dX11_told_133 (by decide) ?_
                exact ww_iretE 135 X hQ dX11_told_135 h
  · replace h := (if_pos q).symm.trans h
    refine ww_bipush 8 X (v := (-2 : Int32)) dX11_told_8 (by decide) ?_
    exact ww_iretE 10 X hQ dX11_told_10 h
theorem c_X11_told {G : mG} {F sz : Nat} {r0 : Int32} {M0 : mM} (l : Launch) (D : mD) (A : Nat → Prop) {l0 : Nat} {l1 : Int32} {l2 : Int32} {M : mM} (h : P_X11_told G F l0 l1 l2 M = some (r0, M0)) : mMetI l D G A yX11_told cX11_told 4 (some .int) 1 21 0 0 [.ref l0, .int l1, .int l2] M sz r0 M0 sz := mMetI_of l D G A (by decide) (Nat.le_of_ble_eq_true rfl) (fun x X hQ => wP_X11_told X hQ h)
/-! SealedTokens.print(I)I -/
theorem dX11_print_0 : decode cX11_print 0 = .ok (.aload_n 0, 1) := by decide +kernel
theorem dX11_print_1 : decode cX11_print 1 = .ok (.iload_n 1, 1) := by decide +kernel
theorem dX11_print_2 : decode cX11_print 2 = .ok (.invokevirtual 311, 3) := by decide +kernel
theorem dX11_print_5 : decode cX11_print 5 = .ok (.ifCond .ne 6, 3) := by decide +kernel
theorem dX11_print_8 : decode cX11_print 8 = .ok (.bipush (-2), 2) := by decide +kernel
theorem dX11_print_10 : decode cX11_print 10 = .ok (.ireturn, 1) := by decide +kernel
theorem dX11_print_11 : decode cX11_print 11 = .ok (.aload_n 0, 1) := by decide +kernel
theorem dX11_print_12 : decode cX11_print 12 = .ok (.getfield 28, 3) := by decide +kernel
theorem dX11_print_15 : decode cX11_print 15 = .ok (.invokevirtual 131, 3) := by decide +kernel
theorem dX11_print_18 : decode cX11_print 18 = .ok (.aload_n 0, 1) := by decide +kernel
theorem dX11_print_19 : decode cX11_print 19 = .ok (.getfield 58, 3) := by decide +kernel
theorem dX11_print_22 : decode cX11_print 22 = .ok (.iload_n 1, 1) := by decide +kernel
theorem dX11_print_23 : decode cX11_print 23 = .ok (.aaload, 1) := by decide +kernel
theorem dX11_print_24 : decode cX11_print 24 = .ok (.aload_n 0, 1) := by decide +kernel
theorem dX11_print_25 : decode cX11_print 25 = .ok (.getfield 28, 3) := by decide +kernel
theorem dX11_print_28 : decode cX11_print 28 = .ok (.invokevirtual 334, 3) := by decide +kernel
theorem dX11_print_31 : decode cX11_print 31 = .ok (.aload_n 0, 1) := by decide +kernel
theorem dX11_print_32 : decode cX11_print 32 = .ok (.getfield 70, 3) := by decide +kernel
theorem dX11_print_35 : decode cX11_print 35 = .ok (.sipush 256, 3) := by decide +kernel
theorem dX11_print_38 : decode cX11_print 38 = .ok (.invokevirtual 215, 3) := by decide +kernel
theorem dX11_print_41 : decode cX11_print 41 = .ok (.aload_n 0, 1) := by decide +kernel
theorem dX11_print_42 : decode cX11_print 42 = .ok (.getfield 70, 3) := by decide +kernel
theorem dX11_print_45 : decode cX11_print 45 = .ok (.aload_n 0, 1) := by decide +kernel
theorem dX11_print_46 : decode cX11_print 46 = .ok (.getfield 28, 3) := by decide +kernel
theorem dX11_print_49 : decode cX11_print 49 = .ok (.iconst 0, 1) := by decide +kernel
theorem dX11_print_50 : decode cX11_print 50 = .ok (.aload_n 0, 1) := by decide +kernel
theorem dX11_print_51 : decode cX11_print 51 = .ok (.getfield 28, 3) := by decide +kernel
theorem dX11_print_54 : decode cX11_print 54 = .ok (.getfield 113, 3) := by decide +kernel
theorem dX11_print_57 : decode cX11_print 57 = .ok (.invokevirtual 217, 3) := by decide +kernel
theorem dX11_print_60 : decode cX11_print 60 = .ok (.aload_n 0, 1) := by decide +kernel
theorem dX11_print_61 : decode cX11_print 61 = .ok (.getfield 22, 3) := by decide +kernel
theorem dX11_print_64 : decode cX11_print 64 = .ok (.invokevirtual 131, 3) := by decide +kernel
theorem dX11_print_67 : decode cX11_print 67 = .ok (.aload_n 0, 1) := by decide +kernel
theorem dX11_print_68 : decode cX11_print 68 = .ok (.getfield 70, 3) := by decide +kernel
theorem dX11_print_71 : decode cX11_print 71 = .ok (.aload_n 0, 1) := by decide +kernel
theorem dX11_print_72 : decode cX11_print 72 = .ok (.getfield 22, 3) := by decide +kernel
theorem dX11_print_75 : decode cX11_print 75 = .ok (.invokevirtual 220, 3) := by decide +kernel
theorem dX11_print_78 : decode cX11_print 78 = .ok (.aload_n 0, 1) := by decide +kernel
theorem dX11_print_79 : decode cX11_print 79 = .ok (.getfield 22, 3) := by decide +kernel
theorem dX11_print_82 : decode cX11_print 82 = .ok (.getfield 113, 3) := by decide +kernel
theorem dX11_print_85 : decode cX11_print 85 = .ok (.ireturn, 1) := by decide +kernel
abbrev rmX11_print : Room := { frames := 7, cells := 0, slots := 0, locals := 153 }
set_option maxHeartbeats 4000000 in
set_option maxRecDepth 100000 in
theorem wP_X11_print {G : mG} {F : Nat} {x : mXT} {sz : Nat} {r0 : Int32} {M0 : mM} (X : mCX G RX11 cX11_print 2 (some .int) "print" rmX11_print x) (hQ : mQI x r0 M0 (sz, 0, 0)) {l0 : Nat} {l1 : Int32} {M : mM} (h : P_X11_print G F l0 l1 M = some (r0, M0)) : WW x (sz, 0, 0) M 0 [(0, .ref l0), (1, .int l1)] [] := by
  unfold P_X11_print at h
  refine ww_aload_n 0 X dX11_print_0 0 rfl rfl ?_
  refine ww_iload_n 1 X dX11_print_1 1 rfl rfl ?_
  obtain ⟨_, f2, h⟩ := bO_some h
  obtain ⟨v2, M2, e2, h⟩ := bP_some h
  refine ww_callVI0 2 X dX11_print_2 mY_X11_isKey mL_X11_311 (rcv_spec f2) ⟨_, _, rfl⟩ (by decide) (As := [.int l1]) (rest := []) rfl rfl ⟨Nat.le_of_ble_eq_true rfl, Nat.le_of_ble_eq_true rfl⟩ (Nat.le_of_ble_eq_true rfl) (fun l D A => c_X11_isKey l D A e2) ?_
  refine ww_if_ne 5 11 X dX11_print_5 (by decide) (fun q => ?_) (fun q => ?_)
  · replace h := (if_neg q).symm.trans h
    refine ww_aload_n 11 X dX11_print_11 0 rfl rfl ?_
    obtain ⟨v12, e12, h⟩ := bO_some h
    refine ww_getR 12 X dX11_print_12 fG_X11_28 e12 ?_
    obtain ⟨_, f15, h⟩ := bO_some h
    obtain ⟨M15, e15, h⟩ := bO_some h
    refine ww_callVV0 15 X dX11_print_15 mY_X0_clear mL_X11_131 (rcv_spec f15) ⟨_, _, rfl⟩ (by decide) (As := []) (rest := []) rfl rfl ⟨Nat.le_of_ble_eq_true rfl, Nat.le_of_ble_eq_true rfl⟩ (Nat.le_of_ble_eq_true rfl) (fun l D A => c_X0_clear l D A e15) ?_
    refine ww_aload_n 18 X dX11_print_18 0 rfl rfl ?_
    obtain ⟨v19, e19, h⟩ := bO_some h
    refine ww_getR 19 X dX11_print_19 fG_X11_58 e19 ?_
    refine ww_iload_n 22 X dX11_print_22 1 rfl rfl ?_
    obtain ⟨v23, e23, h⟩ := bO_some h
    refine ww_aald5 23 X dX11_print_23 e23 ?_
    refine ww_aload_n 24 X dX11_print_24 0 rfl rfl ?_
    obtain ⟨v25, e25, h⟩ := bO_some h
    refine ww_getR 25 X dX11_print_25 fG_X11_28 e25 ?_
    obtain ⟨_, f28, h⟩ := bO_some h
    obtain ⟨M28, e28, h⟩ := bO_some h
    refine ww_callVV0 28 X dX11_print_28 mY_X5_putPrinted mL_X11_334 (rcv_spec f28) ⟨_, _, rfl⟩ (by decide) (As := [.ref v25]) (rest := []) rfl rfl ⟨Nat.le_of_ble_eq_true rfl, Nat.le_of_ble_eq_true rfl⟩ (Nat.le_of_ble_eq_true rfl) (fun l D A => c_X5_putPrinted l D A e28) ?_
    refine ww_aload_n 31 X dX11_print_31 0 rfl rfl ?_
    obtain ⟨v32, e32, h⟩ := bO_some h
    refine ww_getR 32 X dX11_print_32 fG_X11_70 e32 ?_
    refine ww_sipush 35 X (v := (256 : Int32)) dX11_print_35 (by decide) ?_
    obtain ⟨_, f38, h⟩ := bO_some h
    obtain ⟨M38, e38, h⟩ := bO_some h
    refine ww_callVV0 38 X dX11_print_38 mY_X4_start mL_X11_215 (rcv_spec f38) ⟨_, _, rfl⟩ (by decide) (As := [.int (256 : Int32)]) (rest := []) rfl rfl ⟨Nat.le_of_ble_eq_true rfl, Nat.le_of_ble_eq_true rfl⟩ (Nat.le_of_ble_eq_true rfl) (fun l D A => c_X4_start l D A e38) ?_
    refine ww_aload_n 41 X dX11_print_41 0 rfl rfl ?_
    obtain ⟨v42, e42, h⟩ := bO_some h
    refine ww_getR 42 X dX11_print_42 fG_X11_70 e42 ?_
    refine ww_aload_n 45 X dX11_print_45 0 rfl rfl ?_
    obtain ⟨v46, e46, h⟩ := bO_some h
    refine ww_getR 46 X dX11_print_46 fG_X11_28 e46 ?_
    refine ww_iconst 49 X (v := (0 : Int32)) dX11_print_49 (by decide) ?_
    refine ww_aload_n 50 X dX11_print_50 0 rfl rfl ?_
    obtain ⟨v51, e51, h⟩ := bO_some h
    refine ww_getR 51 X dX11_print_51 fG_X11_28 e51 ?_
    obtain ⟨v54, e54, h⟩ := bO_some h
    refine ww_getI 54 X dX11_print_54 fG_X11_113 e54 ?_
    obtain ⟨_, f57, h⟩ := bO_some h
    obtain ⟨M57, e57, h⟩ := bO_some h
    refine ww_callVV0 57 X dX11_print_57 mY_X4_add mL_X11_217 (rcv_spec f57) ⟨_, _, rfl⟩ (by decide) (As := [.ref v46, .int (0 : Int32), .int v54]) (rest := []) rfl rfl ⟨Nat.le_of_ble_eq_true rfl, Nat.le_of_ble_eq_true rfl⟩ (Nat.le_of_ble_eq_true rfl) (fun l D A => c_X4_add l D A e57) ?_
    refine ww_aload_n 60 X dX11_print_60 0 rfl rfl ?_
    obtain ⟨v61, e61, h⟩ := bO_some h
    refine ww_getR 61 X dX11_print_61 fG_X11_22 e61 ?_
    obtain ⟨_, f64, h⟩ := bO_some h
    obtain ⟨M64, e64, h⟩ := bO_some h
    refine ww_callVV0 64 X dX11_print_64 mY_X0_clear mL_X11_131 (rcv_spec f64) ⟨_, _, rfl⟩ (by decide) (As := []) (rest := []) rfl rfl ⟨Nat.le_of_ble_eq_true rfl, Nat.le_of_ble_eq_true rfl⟩ (Nat.le_of_ble_eq_true rfl) (fun l D A => c_X0_clear l D A e64) ?_
    refine ww_aload_n 67 X dX11_print_67 0 rfl rfl ?_
    obtain ⟨v68, e68, h⟩ := bO_some h
    refine ww_getR 68 X dX11_print_68 fG_X11_70 e68 ?_
    refine ww_aload_n 71 X dX11_print_71 0 rfl rfl ?_
    obtain ⟨v72, e72, h⟩ := bO_some h
    refine ww_getR 72 X dX11_print_72 fG_X11_22 e72 ?_
    obtain ⟨_, f75, h⟩ := bO_some h
    obtain ⟨M75, e75, h⟩ := bO_some h
    refine ww_callVV0 75 X dX11_print_75 mY_X4_finish mL_X11_220 (rcv_spec f75) ⟨_, _, rfl⟩ (by decide) (As := [.ref v72]) (rest := []) rfl rfl ⟨Nat.le_of_ble_eq_true rfl, Nat.le_of_ble_eq_true rfl⟩ (Nat.le_of_ble_eq_true rfl) (fun l D A => c_X4_finish l D A e75) ?_
    refine ww_aload_n 78 X dX11_print_78 0 rfl rfl ?_
    obtain ⟨v79, e79, h⟩ := bO_some h
    refine ww_getR 79 X dX11_print_79 fG_X11_22 e79 ?_
    obtain ⟨v82, e82, h⟩ := bO_some h
    refine ww_getI 82 X dX11_print_82 fG_X11_113 e82 ?_
    exact ww_iretE 85 X hQ dX11_print_85 h
  · replace h := (if_pos q).symm.trans h
    refine ww_bipush 8 X (v := (-2 : Int32)) dX11_print_8 (by decide) ?_
    exact ww_iretE 10 X hQ dX11_print_10 h
theorem c_X11_print {G : mG} {F sz : Nat} {r0 : Int32} {M0 : mM} (l : Launch) (D : mD) (A : Nat → Prop) {l0 : Nat} {l1 : Int32} {M : mM} (h : P_X11_print G F l0 l1 M = some (r0, M0)) : mMetI l D G A yX11_print cX11_print 2 (some .int) 7 153 0 0 [.ref l0, .int l1] M sz r0 M0 sz := mMetI_of l D G A (by decide) (Nat.le_of_ble_eq_true rfl) (fun x X hQ => wP_X11_print X hQ h)
/-! SealedTokens.isRowOrNone(I)Z -/
theorem dX11_isRowOrNone_0 : decode cX11_isRowOrNone 0 = .ok (.iload_n 1, 1) := by decide +kernel
theorem dX11_isRowOrNone_1 : decode cX11_isRowOrNone 1 = .ok (.iconst (-1), 1) := by decide +kernel
theorem dX11_isRowOrNone_2 : decode cX11_isRowOrNone 2 = .ok (.if_icmp .eq 11, 3) := by decide +kernel
theorem dX11_isRowOrNone_5 : decode cX11_isRowOrNone 5 = .ok (.aload_n 0, 1) := by decide +kernel
theorem dX11_isRowOrNone_6 : decode cX11_isRowOrNone 6 = .ok (.iload_n 1, 1) := by decide +kernel
theorem dX11_isRowOrNone_7 : decode cX11_isRowOrNone 7 = .ok (.invokevirtual 123, 3) := by decide +kernel
theorem dX11_isRowOrNone_10 : decode cX11_isRowOrNone 10 = .ok (.ifCond .eq 7, 3) := by decide +kernel
theorem dX11_isRowOrNone_13 : decode cX11_isRowOrNone 13 = .ok (.iconst 1, 1) := by decide +kernel
theorem dX11_isRowOrNone_14 : decode cX11_isRowOrNone 14 = .ok (.goto 4, 3) := by decide +kernel
theorem dX11_isRowOrNone_17 : decode cX11_isRowOrNone 17 = .ok (.iconst 0, 1) := by decide +kernel
theorem dX11_isRowOrNone_18 : decode cX11_isRowOrNone 18 = .ok (.ireturn, 1) := by decide +kernel
abbrev rmX11_isRowOrNone : Room := { frames := 1, cells := 0, slots := 0, locals := 21 }
set_option maxHeartbeats 4000000 in
set_option maxRecDepth 100000 in
theorem wP_X11_isRowOrNone {G : mG} {F : Nat} {x : mXT} {sz : Nat} {r0 : Int32} {M0 : mM} (X : mCX G RX11 cX11_isRowOrNone 2 (some .boolean) "isRowOrNone" rmX11_isRowOrNone x) (hQ : mQI x r0 M0 (sz, 0, 0)) {l0 : Nat} {l1 : Int32} {M : mM} (h : P_X11_isRowOrNone G F l0 l1 M = some (r0, M0)) : WW x (sz, 0, 0) M 0 [(0, .ref l0), (1, .int l1)] [] := by
  unfold P_X11_isRowOrNone at h
  refine ww_iload_n 0 X dX11_isRowOrNone_0 1 rfl rfl ?_
  refine ww_iconst 1 X (v := (-1 : Int32)) dX11_isRowOrNone_1 (by decide) ?_
  refine ww_icmp_eq 2 13 X dX11_isRowOrNone_2 (by decide) (fun q => ?_) (fun q => ?_)
  · replace h := (if_pos q).symm.trans h
    refine ww_iconst 13 X (v := (1 : Int32)) dX11_isRowOrNone_13 (by decide) ?_
    refine ww_goto 14 18 X dX11_isRowOrNone_14 (by decide) ?_
    exact ww_zretE 18 X hQ dX11_isRowOrNone_18 h
  · replace h := (if_neg q).symm.trans h
    refine ww_aload_n 5 X dX11_isRowOrNone_5 0 rfl rfl ?_
    refine ww_iload_n 6 X dX11_isRowOrNone_6 1 rfl rfl ?_
    obtain ⟨_, f7, h⟩ := bO_some h
    obtain ⟨v7, M7, e7, h⟩ := bP_some h
    refine ww_callVI0 7 X dX11_isRowOrNone_7 mY_X11_isRow mL_X11_123 (rcv_spec f7) ⟨_, _, rfl⟩ (by decide) (As := [.int l1]) (rest := []) rfl rfl ⟨Nat.le_of_ble_eq_true rfl, Nat.le_of_ble_eq_true rfl⟩ (Nat.le_of_ble_eq_true rfl) (fun l D A => c_X11_isRow l D A e7) ?_
    refine ww_if_eq 10 17 X dX11_isRowOrNone_10 (by decide) (fun q => ?_) (fun q => ?_)
    · replace h := (if_pos q).symm.trans h
      refine ww_iconst 17 X (v := (0 : Int32)) dX11_isRowOrNone_17 (by decide) ?_
      exact ww_zretE 18 X hQ dX11_isRowOrNone_18 h
    · replace h := (if_neg q).symm.trans h
      refine ww_iconst 13 X (v := (1 : Int32)) dX11_isRowOrNone_13 (by decide) ?_
      refine ww_goto 14 18 X dX11_isRowOrNone_14 (by decide) ?_
      exact ww_zretE 18 X hQ dX11_isRowOrNone_18 h
theorem c_X11_isRowOrNone {G : mG} {F sz : Nat} {r0 : Int32} {M0 : mM} (l : Launch) (D : mD) (A : Nat → Prop) {l0 : Nat} {l1 : Int32} {M : mM} (h : P_X11_isRowOrNone G F l0 l1 M = some (r0, M0)) : mMetI l D G A yX11_isRowOrNone cX11_isRowOrNone 2 (some .boolean) 1 21 0 0 [.ref l0, .int l1] M sz r0 M0 sz := mMetI_of l D G A (by decide) (Nat.le_of_ble_eq_true rfl) (fun x X hQ => wP_X11_isRowOrNone X hQ h)
/-! SealedTokens.codeWork(LSealedTokens$Key;ILSealedTokens$Bytes;)V -/
theorem dX11_codeWork_0 : decode cX11_codeWork 0 = .ok (.aload_n 0, 1) := by decide +kernel
theorem dX11_codeWork_1 : decode cX11_codeWork 1 = .ok (.getfield 70, 3) := by decide +kernel
theorem dX11_codeWork_4 : decode cX11_codeWork 4 = .ok (.iload_n 2, 1) := by decide +kernel
theorem dX11_codeWork_5 : decode cX11_codeWork 5 = .ok (.ifCond .ne 9, 3) := by decide +kernel
theorem dX11_codeWork_8 : decode cX11_codeWork 8 = .ok (.sipush 256, 3) := by decide +kernel
theorem dX11_codeWork_11 : decode cX11_codeWork 11 = .ok (.goto 6, 3) := by decide +kernel
theorem dX11_codeWork_14 : decode cX11_codeWork 14 = .ok (.sipush 512, 3) := by decide +kernel
theorem dX11_codeWork_17 : decode cX11_codeWork 17 = .ok (.aload_n 1, 1) := by decide +kernel
theorem dX11_codeWork_18 : decode cX11_codeWork 18 = .ok (.getfield 316, 3) := by decide +kernel
theorem dX11_codeWork_21 : decode cX11_codeWork 21 = .ok (.iconst 0, 1) := by decide +kernel
theorem dX11_codeWork_22 : decode cX11_codeWork 22 = .ok (.aload_n 1, 1) := by decide +kernel
theorem dX11_codeWork_23 : decode cX11_codeWork 23 = .ok (.getfield 316, 3) := by decide +kernel
theorem dX11_codeWork_26 : decode cX11_codeWork 26 = .ok (.getfield 113, 3) := by decide +kernel
theorem dX11_codeWork_29 : decode cX11_codeWork 29 = .ok (.invokevirtual 223, 3) := by decide +kernel
theorem dX11_codeWork_32 : decode cX11_codeWork 32 = .ok (.aload_n 0, 1) := by decide +kernel
theorem dX11_codeWork_33 : decode cX11_codeWork 33 = .ok (.getfield 70, 3) := by decide +kernel
theorem dX11_codeWork_36 : decode cX11_codeWork 36 = .ok (.aload_n 0, 1) := by decide +kernel
theorem dX11_codeWork_37 : decode cX11_codeWork 37 = .ok (.getfield 28, 3) := by decide +kernel
theorem dX11_codeWork_40 : decode cX11_codeWork 40 = .ok (.iconst 0, 1) := by decide +kernel
theorem dX11_codeWork_41 : decode cX11_codeWork 41 = .ok (.aload_n 0, 1) := by decide +kernel
theorem dX11_codeWork_42 : decode cX11_codeWork 42 = .ok (.getfield 28, 3) := by decide +kernel
theorem dX11_codeWork_45 : decode cX11_codeWork 45 = .ok (.getfield 113, 3) := by decide +kernel
theorem dX11_codeWork_48 : decode cX11_codeWork 48 = .ok (.invokevirtual 217, 3) := by decide +kernel
theorem dX11_codeWork_51 : decode cX11_codeWork 51 = .ok (.aload_n 0, 1) := by decide +kernel
theorem dX11_codeWork_52 : decode cX11_codeWork 52 = .ok (.getfield 70, 3) := by decide +kernel
theorem dX11_codeWork_55 : decode cX11_codeWork 55 = .ok (.aload_n 3, 1) := by decide +kernel
theorem dX11_codeWork_56 : decode cX11_codeWork 56 = .ok (.invokevirtual 227, 3) := by decide +kernel
theorem dX11_codeWork_59 : decode cX11_codeWork 59 = .ok (.return_, 1) := by decide +kernel
abbrev rmX11_codeWork : Room := { frames := 4, cells := 0, slots := 0, locals := 117 }
set_option maxHeartbeats 4000000 in
set_option maxRecDepth 100000 in
theorem wB_X11_codeWork_17 {G : mG} {F : Nat} {x : mXT} {sz : Nat} {M0 : mM} (X : mCX G RX11 cX11_codeWork 4 none "codeWork" rmX11_codeWork x) (hQ : mQV x M0 (sz, 0, 0)) {l0 : Nat} {l1 : Nat} {l3 : Nat} {sk0 : Nat} {sk1 : Int32} {M : mM} (h : B_X11_codeWork_17 G F l0 l1 l3 sk0 sk1 M = some M0) : WW x (sz, 0, 0) M 17 [(0, .ref l0), (1, .ref l1), (3, .ref l3)] [.int sk1, .ref sk0] := by
  unfold B_X11_codeWork_17 at h
  refine ww_aload_n 17 X dX11_codeWork_17 1 rfl rfl ?_
  obtain ⟨v18, e18, h⟩ := bO_some h
  refine ww_getR 18 X dX11_codeWork_18 fG_X11_316 e18 ?_
  refine ww_iconst 21 X (v := (0 : Int32)) dX11_codeWork_21 (by decide) ?_
  refine ww_aload_n 22 X dX11_codeWork_22 1 rfl rfl ?_
  obtain ⟨v23, e23, h⟩ := bO_some h
  refine ww_getR 23 X dX11_codeWork_23 fG_X11_316 e23 ?_
  obtain ⟨v26, e26, h⟩ := bO_some h
  refine ww_getI 26 X dX11_codeWork_26 fG_X11_113 e26 ?_
  obtain ⟨_, f29, h⟩ := bO_some h
  obtain ⟨M29, e29, h⟩ := bO_some h
  refine ww_callVV0 29 X dX11_codeWork_29 mY_X4_startCode mL_X11_223 (rcv_spec f29) ⟨_, _, rfl⟩ (by decide) (As := [.int sk1, .ref v18, .int (0 : Int32), .int v26]) (rest := []) rfl rfl ⟨Nat.le_of_ble_eq_true rfl, Nat.le_of_ble_eq_true rfl⟩ (Nat.le_of_ble_eq_true rfl) (fun l D A => c_X4_startCode l D A e29) ?_
  refine ww_aload_n 32 X dX11_codeWork_32 0 rfl rfl ?_
  obtain ⟨v33, e33, h⟩ := bO_some h
  refine ww_getR 33 X dX11_codeWork_33 fG_X11_70 e33 ?_
  refine ww_aload_n 36 X dX11_codeWork_36 0 rfl rfl ?_
  obtain ⟨v37, e37, h⟩ := bO_some h
  refine ww_getR 37 X dX11_codeWork_37 fG_X11_28 e37 ?_
  refine ww_iconst 40 X (v := (0 : Int32)) dX11_codeWork_40 (by decide) ?_
  refine ww_aload_n 41 X dX11_codeWork_41 0 rfl rfl ?_
  obtain ⟨v42, e42, h⟩ := bO_some h
  refine ww_getR 42 X dX11_codeWork_42 fG_X11_28 e42 ?_
  obtain ⟨v45, e45, h⟩ := bO_some h
  refine ww_getI 45 X dX11_codeWork_45 fG_X11_113 e45 ?_
  obtain ⟨_, f48, h⟩ := bO_some h
  obtain ⟨M48, e48, h⟩ := bO_some h
  refine ww_callVV0 48 X dX11_codeWork_48 mY_X4_add mL_X11_217 (rcv_spec f48) ⟨_, _, rfl⟩ (by decide) (As := [.ref v37, .int (0 : Int32), .int v45]) (rest := []) rfl rfl ⟨Nat.le_of_ble_eq_true rfl, Nat.le_of_ble_eq_true rfl⟩ (Nat.le_of_ble_eq_true rfl) (fun l D A => c_X4_add l D A e48) ?_
  refine ww_aload_n 51 X dX11_codeWork_51 0 rfl rfl ?_
  obtain ⟨v52, e52, h⟩ := bO_some h
  refine ww_getR 52 X dX11_codeWork_52 fG_X11_70 e52 ?_
  refine ww_aload_n 55 X dX11_codeWork_55 2 rfl rfl ?_
  obtain ⟨_, f56, h⟩ := bO_some h
  obtain ⟨M56, e56, h⟩ := bO_some h
  refine ww_callVV0 56 X dX11_codeWork_56 mY_X4_finishCode mL_X11_227 (rcv_spec f56) ⟨_, _, rfl⟩ (by decide) (As := [.ref l3]) (rest := []) rfl rfl ⟨Nat.le_of_ble_eq_true rfl, Nat.le_of_ble_eq_true rfl⟩ (Nat.le_of_ble_eq_true rfl) (fun l D A => c_X4_finishCode l D A e56) ?_
  exact ww_vretE 59 X hQ dX11_codeWork_59 h
set_option maxHeartbeats 4000000 in
set_option maxRecDepth 100000 in
theorem wP_X11_codeWork {G : mG} {F : Nat} {x : mXT} {sz : Nat} {M0 : mM} (X : mCX G RX11 cX11_codeWork 4 none "codeWork" rmX11_codeWork x) (hQ : mQV x M0 (sz, 0, 0)) {l0 : Nat} {l1 : Nat} {l2 : Int32} {l3 : Nat} {M : mM} (h : P_X11_codeWork G F l0 l1 l2 l3 M = some M0) : WW x (sz, 0, 0) M 0 [(0, .ref l0), (1, .ref l1), (2, .int l2), (3, .ref l3)] [] := by
  unfold P_X11_codeWork at h
  refine ww_aload_n 0 X dX11_codeWork_0 0 rfl rfl ?_
  obtain ⟨v1, e1, h⟩ := bO_some h
  refine ww_getR 1 X dX11_codeWork_1 fG_X11_70 e1 ?_
  refine ww_iload_n 4 X dX11_codeWork_4 2 rfl rfl ?_
  refine ww_if_ne 5 14 X dX11_codeWork_5 (by decide) (fun q => ?_) (fun q => ?_)
  · replace h := (if_neg q).symm.trans h
    refine ww_sipush 14 X (v := (512 : Int32)) dX11_codeWork_14 (by decide) ?_
    exact ww_sub [0, 1, 3] rfl (wB_X11_codeWork_17 X hQ h)
  · replace h := (if_pos q).symm.trans h
    refine ww_sipush 8 X (v := (256 : Int32)) dX11_codeWork_8 (by decide) ?_
    refine ww_goto 11 17 X dX11_codeWork_11 (by decide) ?_
    exact ww_sub [0, 1, 3] rfl (wB_X11_codeWork_17 X hQ h)
theorem c_X11_codeWork {G : mG} {F sz : Nat} {M0 : mM} (l : Launch) (D : mD) (A : Nat → Prop) {l0 : Nat} {l1 : Nat} {l2 : Int32} {l3 : Nat} {M : mM} (h : P_X11_codeWork G F l0 l1 l2 l3 M = some M0) : mMetV l D G A yX11_codeWork cX11_codeWork 4 none 4 117 0 0 [.ref l0, .ref l1, .int l2, .ref l3] M sz M0 sz := mMetV_of l D G A (by decide) (Nat.le_of_ble_eq_true rfl) (fun x X hQ => wP_X11_codeWork X hQ h)
/-! SealedTokens.hashWork(LSealedTokens$Bytes;)V -/
theorem dX11_hashWork_0 : decode cX11_hashWork 0 = .ok (.aload_n 1, 1) := by decide +kernel
theorem dX11_hashWork_1 : decode cX11_hashWork 1 = .ok (.invokevirtual 131, 3) := by decide +kernel
theorem dX11_hashWork_4 : decode cX11_hashWork 4 = .ok (.aload_n 0, 1) := by decide +kernel
theorem dX11_hashWork_5 : decode cX11_hashWork 5 = .ok (.getfield 70, 3) := by decide +kernel
theorem dX11_hashWork_8 : decode cX11_hashWork 8 = .ok (.sipush 256, 3) := by decide +kernel
theorem dX11_hashWork_11 : decode cX11_hashWork 11 = .ok (.invokevirtual 215, 3) := by decide +kernel
theorem dX11_hashWork_14 : decode cX11_hashWork 14 = .ok (.aload_n 0, 1) := by decide +kernel
theorem dX11_hashWork_15 : decode cX11_hashWork 15 = .ok (.getfield 70, 3) := by decide +kernel
theorem dX11_hashWork_18 : decode cX11_hashWork 18 = .ok (.aload_n 0, 1) := by decide +kernel
theorem dX11_hashWork_19 : decode cX11_hashWork 19 = .ok (.getfield 28, 3) := by decide +kernel
theorem dX11_hashWork_22 : decode cX11_hashWork 22 = .ok (.iconst 0, 1) := by decide +kernel
theorem dX11_hashWork_23 : decode cX11_hashWork 23 = .ok (.aload_n 0, 1) := by decide +kernel
theorem dX11_hashWork_24 : decode cX11_hashWork 24 = .ok (.getfield 28, 3) := by decide +kernel
theorem dX11_hashWork_27 : decode cX11_hashWork 27 = .ok (.getfield 113, 3) := by decide +kernel
theorem dX11_hashWork_30 : decode cX11_hashWork 30 = .ok (.invokevirtual 217, 3) := by decide +kernel
theorem dX11_hashWork_33 : decode cX11_hashWork 33 = .ok (.aload_n 0, 1) := by decide +kernel
theorem dX11_hashWork_34 : decode cX11_hashWork 34 = .ok (.getfield 70, 3) := by decide +kernel
theorem dX11_hashWork_37 : decode cX11_hashWork 37 = .ok (.aload_n 1, 1) := by decide +kernel
theorem dX11_hashWork_38 : decode cX11_hashWork 38 = .ok (.invokevirtual 220, 3) := by decide +kernel
theorem dX11_hashWork_41 : decode cX11_hashWork 41 = .ok (.return_, 1) := by decide +kernel
abbrev rmX11_hashWork : Room := { frames := 3, cells := 0, slots := 0, locals := 91 }
set_option maxHeartbeats 4000000 in
set_option maxRecDepth 100000 in
theorem wP_X11_hashWork {G : mG} {F : Nat} {x : mXT} {sz : Nat} {M0 : mM} (X : mCX G RX11 cX11_hashWork 2 none "hashWork" rmX11_hashWork x) (hQ : mQV x M0 (sz, 0, 0)) {l0 : Nat} {l1 : Nat} {M : mM} (h : P_X11_hashWork G F l0 l1 M = some M0) : WW x (sz, 0, 0) M 0 [(0, .ref l0), (1, .ref l1)] [] := by
  unfold P_X11_hashWork at h
  refine ww_aload_n 0 X dX11_hashWork_0 1 rfl rfl ?_
  obtain ⟨_, f1, h⟩ := bO_some h
  obtain ⟨M1, e1, h⟩ := bO_some h
  refine ww_callVV0 1 X dX11_hashWork_1 mY_X0_clear mL_X11_131 (rcv_spec f1) ⟨_, _, rfl⟩ (by decide) (As := []) (rest := []) rfl rfl ⟨Nat.le_of_ble_eq_true rfl, Nat.le_of_ble_eq_true rfl⟩ (Nat.le_of_ble_eq_true rfl) (fun l D A => c_X0_clear l D A e1) ?_
  refine ww_aload_n 4 X dX11_hashWork_4 0 rfl rfl ?_
  obtain ⟨v5, e5, h⟩ := bO_some h
  refine ww_getR 5 X dX11_hashWork_5 fG_X11_70 e5 ?_
  refine ww_sipush 8 X (v := (256 : Int32)) dX11_hashWork_8 (by decide) ?_
  obtain ⟨_, f11, h⟩ := bO_some h
  obtain ⟨M11, e11, h⟩ := bO_some h
  refine ww_callVV0 11 X dX11_hashWork_11 mY_X4_start mL_X11_215 (rcv_spec f11) ⟨_, _, rfl⟩ (by decide) (As := [.int (256 : Int32)]) (rest := []) rfl rfl ⟨Nat.le_of_ble_eq_true rfl, Nat.le_of_ble_eq_true rfl⟩ (Nat.le_of_ble_eq_true rfl) (fun l D A => c_X4_start l D A e11) ?_
  refine ww_aload_n 14 X dX11_hashWork_14 0 rfl rfl ?_
  obtain ⟨v15, e15, h⟩ := bO_some h
  refine ww_getR 15 X dX11_hashWork_15 fG_X11_70 e15 ?_
  refine ww_aload_n 18 X dX11_hashWork_18 0 rfl rfl ?_
  obtain ⟨v19, e19, h⟩ := bO_some h
  refine ww_getR 19 X dX11_hashWork_19 fG_X11_28 e19 ?_
  refine ww_iconst 22 X (v := (0 : Int32)) dX11_hashWork_22 (by decide) ?_
  refine ww_aload_n 23 X dX11_hashWork_23 0 rfl rfl ?_
  obtain ⟨v24, e24, h⟩ := bO_some h
  refine ww_getR 24 X dX11_hashWork_24 fG_X11_28 e24 ?_
  obtain ⟨v27, e27, h⟩ := bO_some h
  refine ww_getI 27 X dX11_hashWork_27 fG_X11_113 e27 ?_
  obtain ⟨_, f30, h⟩ := bO_some h
  obtain ⟨M30, e30, h⟩ := bO_some h
  refine ww_callVV0 30 X dX11_hashWork_30 mY_X4_add mL_X11_217 (rcv_spec f30) ⟨_, _, rfl⟩ (by decide) (As := [.ref v19, .int (0 : Int32), .int v27]) (rest := []) rfl rfl ⟨Nat.le_of_ble_eq_true rfl, Nat.le_of_ble_eq_true rfl⟩ (Nat.le_of_ble_eq_true rfl) (fun l D A => c_X4_add l D A e30) ?_
  refine ww_aload_n 33 X dX11_hashWork_33 0 rfl rfl ?_
  obtain ⟨v34, e34, h⟩ := bO_some h
  refine ww_getR 34 X dX11_hashWork_34 fG_X11_70 e34 ?_
  refine ww_aload_n 37 X dX11_hashWork_37 1 rfl rfl ?_
  obtain ⟨_, f38, h⟩ := bO_some h
  obtain ⟨M38, e38, h⟩ := bO_some h
  refine ww_callVV0 38 X dX11_hashWork_38 mY_X4_finish mL_X11_220 (rcv_spec f38) ⟨_, _, rfl⟩ (by decide) (As := [.ref l1]) (rest := []) rfl rfl ⟨Nat.le_of_ble_eq_true rfl, Nat.le_of_ble_eq_true rfl⟩ (Nat.le_of_ble_eq_true rfl) (fun l D A => c_X4_finish l D A e38) ?_
  exact ww_vretE 41 X hQ dX11_hashWork_41 h
theorem c_X11_hashWork {G : mG} {F sz : Nat} {M0 : mM} (l : Launch) (D : mD) (A : Nat → Prop) {l0 : Nat} {l1 : Nat} {M : mM} (h : P_X11_hashWork G F l0 l1 M = some M0) : mMetV l D G A yX11_hashWork cX11_hashWork 2 none 3 91 0 0 [.ref l0, .ref l1] M sz M0 sz := mMetV_of l D G A (by decide) (Nat.le_of_ble_eq_true rfl) (fun x X hQ => wP_X11_hashWork X hQ h)
/-! SealedTokens.makeSignature(LSealedTokens$Key;ILSealedTokens$Bytes;)Z -/
theorem dX11_makeSignature_0 : decode cX11_makeSignature 0 = .ok (.aload_n 0, 1) := by decide +kernel
theorem dX11_makeSignature_1 : decode cX11_makeSignature 1 = .ok (.getfield 31, 3) := by decide +kernel
theorem dX11_makeSignature_4 : decode cX11_makeSignature 4 = .ok (.invokevirtual 131, 3) := by decide +kernel
theorem dX11_makeSignature_7 : decode cX11_makeSignature 7 = .ok (.iload_n 2, 1) := by decide +kernel
theorem dX11_makeSignature_8 : decode cX11_makeSignature 8 = .ok (.ifCond .eq 8, 3) := by decide +kernel
theorem dX11_makeSignature_11 : decode cX11_makeSignature 11 = .ok (.iload_n 2, 1) := by decide +kernel
theorem dX11_makeSignature_12 : decode cX11_makeSignature 12 = .ok (.iconst 1, 1) := by decide +kernel
theorem dX11_makeSignature_13 : decode cX11_makeSignature 13 = .ok (.if_icmp .ne 15, 3) := by decide +kernel
theorem dX11_makeSignature_16 : decode cX11_makeSignature 16 = .ok (.aload_n 0, 1) := by decide +kernel
theorem dX11_makeSignature_17 : decode cX11_makeSignature 17 = .ok (.aload_n 1, 1) := by decide +kernel
theorem dX11_makeSignature_18 : decode cX11_makeSignature 18 = .ok (.iload_n 2, 1) := by decide +kernel
theorem dX11_makeSignature_19 : decode cX11_makeSignature 19 = .ok (.aload_n 0, 1) := by decide +kernel
theorem dX11_makeSignature_20 : decode cX11_makeSignature 20 = .ok (.getfield 31, 3) := by decide +kernel
theorem dX11_makeSignature_23 : decode cX11_makeSignature 23 = .ok (.invokevirtual 500, 3) := by decide +kernel
theorem dX11_makeSignature_26 : decode cX11_makeSignature 26 = .ok (.iconst 1, 1) := by decide +kernel
theorem dX11_makeSignature_27 : decode cX11_makeSignature 27 = .ok (.ireturn, 1) := by decide +kernel
theorem dX11_makeSignature_28 : decode cX11_makeSignature 28 = .ok (.aload_n 0, 1) := by decide +kernel
theorem dX11_makeSignature_29 : decode cX11_makeSignature 29 = .ok (.aload_n 0, 1) := by decide +kernel
theorem dX11_makeSignature_30 : decode cX11_makeSignature 30 = .ok (.getfield 34, 3) := by decide +kernel
theorem dX11_makeSignature_33 : decode cX11_makeSignature 33 = .ok (.invokevirtual 504, 3) := by decide +kernel
theorem dX11_makeSignature_36 : decode cX11_makeSignature 36 = .ok (.iload_n 2, 1) := by decide +kernel
theorem dX11_makeSignature_37 : decode cX11_makeSignature 37 = .ok (.lookupswitch 77 #[(2, 27), (3, 52)], 27) := by decide +kernel
theorem dX11_makeSignature_64 : decode cX11_makeSignature 64 = .ok (.aload_n 0, 1) := by decide +kernel
theorem dX11_makeSignature_65 : decode cX11_makeSignature 65 = .ok (.getfield 95, 3) := by decide +kernel
theorem dX11_makeSignature_68 : decode cX11_makeSignature 68 = .ok (.aload_n 0, 1) := by decide +kernel
theorem dX11_makeSignature_69 : decode cX11_makeSignature 69 = .ok (.getfield 34, 3) := by decide +kernel
theorem dX11_makeSignature_72 : decode cX11_makeSignature 72 = .ok (.aload_n 1, 1) := by decide +kernel
theorem dX11_makeSignature_73 : decode cX11_makeSignature 73 = .ok (.getfield 459, 3) := by decide +kernel
theorem dX11_makeSignature_76 : decode cX11_makeSignature 76 = .ok (.aload_n 1, 1) := by decide +kernel
theorem dX11_makeSignature_77 : decode cX11_makeSignature 77 = .ok (.getfield 316, 3) := by decide +kernel
theorem dX11_makeSignature_80 : decode cX11_makeSignature 80 = .ok (.aload_n 0, 1) := by decide +kernel
theorem dX11_makeSignature_81 : decode cX11_makeSignature 81 = .ok (.getfield 31, 3) := by decide +kernel
theorem dX11_makeSignature_84 : decode cX11_makeSignature 84 = .ok (.invokevirtual 507, 3) := by decide +kernel
theorem dX11_makeSignature_87 : decode cX11_makeSignature 87 = .ok (.iconst 1, 1) := by decide +kernel
theorem dX11_makeSignature_88 : decode cX11_makeSignature 88 = .ok (.ireturn, 1) := by decide +kernel
theorem dX11_makeSignature_89 : decode cX11_makeSignature 89 = .ok (.aload_n 0, 1) := by decide +kernel
theorem dX11_makeSignature_90 : decode cX11_makeSignature 90 = .ok (.getfield 95, 3) := by decide +kernel
theorem dX11_makeSignature_93 : decode cX11_makeSignature 93 = .ok (.aload_n 0, 1) := by decide +kernel
theorem dX11_makeSignature_94 : decode cX11_makeSignature 94 = .ok (.getfield 34, 3) := by decide +kernel
theorem dX11_makeSignature_97 : decode cX11_makeSignature 97 = .ok (.aload_n 3, 1) := by decide +kernel
theorem dX11_makeSignature_98 : decode cX11_makeSignature 98 = .ok (.aload_n 1, 1) := by decide +kernel
theorem dX11_makeSignature_99 : decode cX11_makeSignature 99 = .ok (.getfield 459, 3) := by decide +kernel
theorem dX11_makeSignature_102 : decode cX11_makeSignature 102 = .ok (.aload_n 1, 1) := by decide +kernel
theorem dX11_makeSignature_103 : decode cX11_makeSignature 103 = .ok (.getfield 316, 3) := by decide +kernel
theorem dX11_makeSignature_106 : decode cX11_makeSignature 106 = .ok (.aload_n 0, 1) := by decide +kernel
theorem dX11_makeSignature_107 : decode cX11_makeSignature 107 = .ok (.getfield 31, 3) := by decide +kernel
theorem dX11_makeSignature_110 : decode cX11_makeSignature 110 = .ok (.invokevirtual 510, 3) := by decide +kernel
theorem dX11_makeSignature_113 : decode cX11_makeSignature 113 = .ok (.ireturn, 1) := by decide +kernel
theorem dX11_makeSignature_114 : decode cX11_makeSignature 114 = .ok (.aload_n 0, 1) := by decide +kernel
theorem dX11_makeSignature_115 : decode cX11_makeSignature 115 = .ok (.getfield 102, 3) := by decide +kernel
theorem dX11_makeSignature_118 : decode cX11_makeSignature 118 = .ok (.aload_n 0, 1) := by decide +kernel
theorem dX11_makeSignature_119 : decode cX11_makeSignature 119 = .ok (.getfield 34, 3) := by decide +kernel
theorem dX11_makeSignature_122 : decode cX11_makeSignature 122 = .ok (.aload_n 1, 1) := by decide +kernel
theorem dX11_makeSignature_123 : decode cX11_makeSignature 123 = .ok (.getfield 459, 3) := by decide +kernel
theorem dX11_makeSignature_126 : decode cX11_makeSignature 126 = .ok (.aload_n 3, 1) := by decide +kernel
theorem dX11_makeSignature_127 : decode cX11_makeSignature 127 = .ok (.aload_n 0, 1) := by decide +kernel
theorem dX11_makeSignature_128 : decode cX11_makeSignature 128 = .ok (.getfield 31, 3) := by decide +kernel
theorem dX11_makeSignature_131 : decode cX11_makeSignature 131 = .ok (.invokevirtual 514, 3) := by decide +kernel
theorem dX11_makeSignature_134 : decode cX11_makeSignature 134 = .ok (.ireturn, 1) := by decide +kernel
abbrev rmX11_makeSignature : Room := { frames := 6, cells := 0, slots := 0, locals := 196 }
set_option maxHeartbeats 4000000 in
set_option maxRecDepth 100000 in
theorem wP_X11_makeSignature {G : mG} {F : Nat} {x : mXT} {sz : Nat} {r0 : Int32} {M0 : mM} (X : mCX G RX11 cX11_makeSignature 4 (some .boolean) "makeSignature" rmX11_makeSignature x) (hQ : mQI x r0 M0 (sz, 0, 0)) {l0 : Nat} {l1 : Nat} {l2 : Int32} {l3 : Nat} {M : mM} (h : P_X11_makeSignature G F l0 l1 l2 l3 M = some (r0, M0)) : WW x (sz, 0, 0) M 0 [(0, .ref l0), (1, .ref l1), (2, .int l2), (3, .ref l3)] [] := by
  unfold P_X11_makeSignature at h
  refine ww_aload_n 0 X dX11_makeSignature_0 0 rfl rfl ?_
  obtain ⟨v1, e1, h⟩ := bO_some h
  refine ww_getR 1 X dX11_makeSignature_1 fG_X11_31 e1 ?_
  obtain ⟨_, f4, h⟩ := bO_some h
  obtain ⟨M4, e4, h⟩ := bO_some h
  refine ww_callVV0 4 X dX11_makeSignature_4 mY_X0_clear mL_X11_131 (rcv_spec f4) ⟨_, _, rfl⟩ (by decide) (As := []) (rest := []) rfl rfl ⟨Nat.le_of_ble_eq_true rfl, Nat.le_of_ble_eq_true rfl⟩ (Nat.le_of_ble_eq_true rfl) (fun l D A => c_X0_clear l D A e4) ?_
  refine ww_iload_n 7 X dX11_makeSignature_7 2 rfl rfl ?_
  refine ww_if_eq 8 16 X dX11_makeSignature_8 (by decide) (fun q => ?_) (fun q => ?_)
  · replace h := (if_pos q).symm.trans h
    refine ww_aload_n 16 X dX11_makeSignature_16 0 rfl rfl ?_
    refine ww_aload_n 17 X dX11_makeSignature_17 1 rfl rfl ?_
    refine ww_iload_n 18 X dX11_makeSignature_18 2 rfl rfl ?_
    refine ww_aload_n 19 X dX11_makeSignature_19 0 rfl rfl ?_
    obtain ⟨v20, e20, h⟩ := bO_some h
    refine ww_getR 20 X dX11_makeSignature_20 fG_X11_31 e20 ?_
    obtain ⟨_, f23, h⟩ := bO_some h
    obtain ⟨M23, e23, h⟩ := bO_some h
    refine ww_callVV0 23 X dX11_makeSignature_23 mY_X11_codeWork mL_X11_500 (rcv_spec f23) ⟨_, _, rfl⟩ (by decide) (As := [.ref l1, .int l2, .ref v20]) (rest := []) rfl rfl ⟨Nat.le_of_ble_eq_true rfl, Nat.le_of_ble_eq_true rfl⟩ (Nat.le_of_ble_eq_true rfl) (fun l D A => c_X11_codeWork l D A e23) ?_
    refine ww_iconst 26 X (v := (1 : Int32)) dX11_makeSignature_26 (by decide) ?_
    exact ww_zretE 27 X hQ dX11_makeSignature_27 h
  · replace h := (if_neg q).symm.trans h
    refine ww_iload_n 11 X dX11_makeSignature_11 2 rfl rfl ?_
    refine ww_iconst 12 X (v := (1 : Int32)) dX11_makeSignature_12 (by decide) ?_
    refine ww_icmp_ne 13 28 X dX11_makeSignature_13 (by decide) (fun q => ?_) (fun q => ?_)
    · replace h := (if_neg q).symm.trans h
      refine ww_aload_n 28 X dX11_makeSignature_28 0 rfl rfl ?_
      refine ww_aload_n 29 X dX11_makeSignature_29 0 rfl rfl ?_
      obtain ⟨v30, e30, h⟩ := bO_some h
      refine ww_getR 30 X dX11_makeSignature_30 fG_X11_34 e30 ?_
      obtain ⟨_, f33, h⟩ := bO_some h
      obtain ⟨M33, e33, h⟩ := bO_some h
      refine ww_callVV0 33 X dX11_makeSignature_33 mY_X11_hashWork mL_X11_504 (rcv_spec f33) ⟨_, _, rfl⟩ (by decide) (As := [.ref v30]) (rest := []) rfl rfl ⟨Nat.le_of_ble_eq_true rfl, Nat.le_of_ble_eq_true rfl⟩ (Nat.le_of_ble_eq_true rfl) (fun l D A => c_X11_hashWork l D A e33) ?_
      refine ww_iload_n 36 X dX11_makeSignature_36 2 rfl rfl ?_
      by_cases q2 : l2 = (2 : Int32)
      · replace h := (if_pos q2).symm.trans h
        refine ww_lookup 37 64 X dX11_makeSignature_37 (off := 27) (by decide) (by rw [q2]; decide) (by decide) ?_
        refine ww_aload_n 64 X dX11_makeSignature_64 0 rfl rfl ?_
        obtain ⟨v65, e65, h⟩ := bO_some h
        refine ww_getR 65 X dX11_makeSignature_65 fG_X11_95 e65 ?_
        refine ww_aload_n 68 X dX11_makeSignature_68 0 rfl rfl ?_
        obtain ⟨v69, e69, h⟩ := bO_some h
        refine ww_getR 69 X dX11_makeSignature_69 fG_X11_34 e69 ?_
        refine ww_aload_n 72 X dX11_makeSignature_72 1 rfl rfl ?_
        obtain ⟨v73, e73, h⟩ := bO_some h
        refine ww_getR 73 X dX11_makeSignature_73 fG_X11_459 e73 ?_
        refine ww_aload_n 76 X dX11_makeSignature_76 1 rfl rfl ?_
        obtain ⟨v77, e77, h⟩ := bO_some h
        refine ww_getR 77 X dX11_makeSignature_77 fG_X11_316 e77 ?_
        refine ww_aload_n 80 X dX11_makeSignature_80 0 rfl rfl ?_
        obtain ⟨v81, e81, h⟩ := bO_some h
        refine ww_getR 81 X dX11_makeSignature_81 fG_X11_31 e81 ?_
        obtain ⟨_, f84, h⟩ := bO_some h
        obtain ⟨M84, e84, h⟩ := bO_some h
        refine ww_callVV0 84 X dX11_makeSignature_84 mY_X8_signPkcs mL_X11_507 (rcv_spec f84) ⟨_, _, rfl⟩ (by decide) (As := [.ref v69, .ref v73, .ref v77, .ref v81]) (rest := []) rfl rfl ⟨Nat.le_of_ble_eq_true rfl, Nat.le_of_ble_eq_true rfl⟩ (Nat.le_of_ble_eq_true rfl) (fun l D A => c_X8_signPkcs l D A e84) ?_
        refine ww_iconst 87 X (v := (1 : Int32)) dX11_makeSignature_87 (by decide) ?_
        exact ww_zretE 88 X hQ dX11_makeSignature_88 h
      · replace h := (if_neg q2).symm.trans h
        by_cases q3 : l2 = (3 : Int32)
        · replace h := (if_pos q3).symm.trans h
          refine ww_lookup 37 89 X dX11_makeSignature_37 (off := 52) (by decide) (by rw [q3]; decide) (by decide) ?_
          refine ww_aload_n 89 X dX11_makeSignature_89 0 rfl rfl ?_
          obtain ⟨v90, e90, h⟩ := bO_some h
          refine ww_getR 90 X dX11_makeSignature_90 fG_X11_95 e90 ?_
          refine ww_aload_n 93 X dX11_makeSignature_93 0 rfl rfl ?_
          obtain ⟨v94, e94, h⟩ := bO_some h
          refine ww_getR 94 X dX11_makeSignature_94 fG_X11_34 e94 ?_
          refine ww_aload_n 97 X dX11_makeSignature_97 3 rfl rfl ?_
          refine ww_aload_n 98 X dX11_makeSignature_98 1 rfl rfl ?_
          obtain ⟨v99, e99, h⟩ := bO_some h
          refine ww_getR 99 X dX11_makeSignature_99 fG_X11_459 e99 ?_
          refine ww_aload_n 102 X dX11_makeSignature_102 1 rfl rfl ?_
          obtain ⟨v103, e103, h⟩ := bO_some h
          refine ww_getR 103 X dX11_makeSignature_103 fG_X11_316 e103 ?_
          refine ww_aload_n 106 X dX11_makeSignature_106 0 rfl rfl ?_
          obtain ⟨v107, e107, h⟩ := bO_some h
          refine ww_getR 107 X dX11_makeSignature_107 fG_X11_31 e107 ?_
          obtain ⟨_, f110, h⟩ := bO_some h
          obtain ⟨v110, M110, e110, h⟩ := bP_some h
          refine ww_callVI0 110 X dX11_makeSignature_110 mY_X8_signPss mL_X11_510 (rcv_spec f110) ⟨_, _, rfl⟩ (by decide) (As := [.ref v94, .ref l3, .ref v99, .ref v103, .ref v107]) (rest := []) rfl rfl ⟨Nat.le_of_ble_eq_true rfl, Nat.le_of_ble_eq_true rfl⟩ (Nat.le_of_ble_eq_true rfl) (fun l D A => c_X8_signPss l D A e110) ?_
          exact ww_zretE 113 X hQ dX11_makeSignature_113 h
        · replace h := (if_neg q3).symm.trans h
          refine ww_lookup 37 114 X dX11_makeSignature_37 (off := 77) (by decide) (by show Op.lookupswitch.offset [(2, 27), (3, 52)] 77 _ = _; rw [lv_osw q2 (show (2 : Int32).toInt = 2 by decide), lv_osw q3 (show (3 : Int32).toInt = 3 by decide)]; rfl) (by decide) ?_
          refine ww_aload_n 114 X dX11_makeSignature_114 0 rfl rfl ?_
          obtain ⟨v115, e115, h⟩ := bO_some h
          refine ww_getR 115 X dX11_makeSignature_115 fG_X11_102 e115 ?_
          refine ww_aload_n 118 X dX11_makeSignature_118 0 rfl rfl ?_
          obtain ⟨v119, e119, h⟩ := bO_some h
          refine ww_getR 119 X dX11_makeSignature_119 fG_X11_34 e119 ?_
          refine ww_aload_n 122 X dX11_makeSignature_122 1 rfl rfl ?_
          obtain ⟨v123, e123, h⟩ := bO_some h
          refine ww_getR 123 X dX11_makeSignature_123 fG_X11_459 e123 ?_
          refine ww_aload_n 126 X dX11_makeSignature_126 3 rfl rfl ?_
          refine ww_aload_n 127 X dX11_makeSignature_127 0 rfl rfl ?_
          obtain ⟨v128, e128, h⟩ := bO_some h
          refine ww_getR 128 X dX11_makeSignature_128 fG_X11_31 e128 ?_
          obtain ⟨_, f131, h⟩ := bO_some h
          obtain ⟨v131, M131, e131, h⟩ := bP_some h
          refine ww_callVI0 131 X dX11_makeSignature_131 mY_X3_putSignature mL_X11_514 (rcv_spec f131) ⟨_, _, rfl⟩ (by decide) (As := [.ref v119, .ref v123, .ref l3, .ref v128]) (rest := []) rfl rfl ⟨Nat.le_of_ble_eq_true rfl, Nat.le_of_ble_eq_true rfl⟩ (Nat.le_of_ble_eq_true rfl) (fun l D A => c_X3_putSignature l D A e131) ?_
          exact ww_zretE 134 X hQ dX11_makeSignature_134 h
    · replace h := (if_pos q).symm.trans h
      refine ww_aload_n 16 X dX11_makeSignature_16 0 rfl rfl ?_
      refine ww_aload_n 17 X dX11_makeSignature_17 1 rfl rfl ?_
      refine ww_iload_n 18 X dX11_makeSignature_18 2 rfl rfl ?_
      refine ww_aload_n 19 X dX11_makeSignature_19 0 rfl rfl ?_
      obtain ⟨v20, e20, h⟩ := bO_some h
      refine ww_getR 20 X dX11_makeSignature_20 fG_X11_31 e20 ?_
      obtain ⟨_, f23, h⟩ := bO_some h
      obtain ⟨M23, e23, h⟩ := bO_some h
      refine ww_callVV0 23 X dX11_makeSignature_23 mY_X11_codeWork mL_X11_500 (rcv_spec f23) ⟨_, _, rfl⟩ (by decide) (As := [.ref l1, .int l2, .ref v20]) (rest := []) rfl rfl ⟨Nat.le_of_ble_eq_true rfl, Nat.le_of_ble_eq_true rfl⟩ (Nat.le_of_ble_eq_true rfl) (fun l D A => c_X11_codeWork l D A e23) ?_
      refine ww_iconst 26 X (v := (1 : Int32)) dX11_makeSignature_26 (by decide) ?_
      exact ww_zretE 27 X hQ dX11_makeSignature_27 h
theorem c_X11_makeSignature {G : mG} {F sz : Nat} {r0 : Int32} {M0 : mM} (l : Launch) (D : mD) (A : Nat → Prop) {l0 : Nat} {l1 : Nat} {l2 : Int32} {l3 : Nat} {M : mM} (h : P_X11_makeSignature G F l0 l1 l2 l3 M = some (r0, M0)) : mMetI l D G A yX11_makeSignature cX11_makeSignature 4 (some .boolean) 6 196 0 0 [.ref l0, .ref l1, .int l2, .ref l3] M sz r0 M0 sz := mMetI_of l D G A (by decide) (Nat.le_of_ble_eq_true rfl) (fun x X hQ => wP_X11_makeSignature X hQ h)
/-! SealedTokens.sign(IIIII)I -/
theorem dX11_sign_0 : decode cX11_sign 0 = .ok (.iload_n 2, 1) := by decide +kernel
theorem dX11_sign_1 : decode cX11_sign 1 = .ok (.iconst 3, 1) := by decide +kernel
theorem dX11_sign_2 : decode cX11_sign 2 = .ok (.if_icmp .eq 8, 3) := by decide +kernel
theorem dX11_sign_5 : decode cX11_sign 5 = .ok (.iload_n 2, 1) := by decide +kernel
theorem dX11_sign_6 : decode cX11_sign 6 = .ok (.iconst 4, 1) := by decide +kernel
theorem dX11_sign_7 : decode cX11_sign 7 = .ok (.if_icmp .ne 7, 3) := by decide +kernel
theorem dX11_sign_10 : decode cX11_sign 10 = .ok (.iconst 1, 1) := by decide +kernel
theorem dX11_sign_11 : decode cX11_sign 11 = .ok (.goto 4, 3) := by decide +kernel
theorem dX11_sign_14 : decode cX11_sign 14 = .ok (.iconst 0, 1) := by decide +kernel
theorem dX11_sign_15 : decode cX11_sign 15 = .ok (.istore 6, 2) := by decide +kernel
theorem dX11_sign_17 : decode cX11_sign 17 = .ok (.aload_n 0, 1) := by decide +kernel
theorem dX11_sign_18 : decode cX11_sign 18 = .ok (.iload_n 1, 1) := by decide +kernel
theorem dX11_sign_19 : decode cX11_sign 19 = .ok (.invokevirtual 311, 3) := by decide +kernel
theorem dX11_sign_22 : decode cX11_sign 22 = .ok (.ifCond .eq 43, 3) := by decide +kernel
theorem dX11_sign_25 : decode cX11_sign 25 = .ok (.iload_n 2, 1) := by decide +kernel
theorem dX11_sign_26 : decode cX11_sign 26 = .ok (.ifCond .lt 39, 3) := by decide +kernel
theorem dX11_sign_29 : decode cX11_sign 29 = .ok (.iload_n 2, 1) := by decide +kernel
theorem dX11_sign_30 : decode cX11_sign 30 = .ok (.iconst 5, 1) := by decide +kernel
theorem dX11_sign_31 : decode cX11_sign 31 = .ok (.if_icmp .ge 34, 3) := by decide +kernel
theorem dX11_sign_34 : decode cX11_sign 34 = .ok (.aload_n 0, 1) := by decide +kernel
theorem dX11_sign_35 : decode cX11_sign 35 = .ok (.iload_n 3, 1) := by decide +kernel
theorem dX11_sign_36 : decode cX11_sign 36 = .ok (.invokevirtual 337, 3) := by decide +kernel
theorem dX11_sign_39 : decode cX11_sign 39 = .ok (.ifCond .eq 26, 3) := by decide +kernel
theorem dX11_sign_42 : decode cX11_sign 42 = .ok (.aload_n 0, 1) := by decide +kernel
theorem dX11_sign_43 : decode cX11_sign 43 = .ok (.iload 4, 2) := by decide +kernel
theorem dX11_sign_45 : decode cX11_sign 45 = .ok (.invokevirtual 123, 3) := by decide +kernel
theorem dX11_sign_48 : decode cX11_sign 48 = .ok (.ifCond .eq 17, 3) := by decide +kernel
theorem dX11_sign_51 : decode cX11_sign 51 = .ok (.iload 6, 2) := by decide +kernel
theorem dX11_sign_53 : decode cX11_sign 53 = .ok (.ifCond .eq 15, 3) := by decide +kernel
theorem dX11_sign_56 : decode cX11_sign 56 = .ok (.aload_n 0, 1) := by decide +kernel
theorem dX11_sign_57 : decode cX11_sign 57 = .ok (.iload 5, 2) := by decide +kernel
theorem dX11_sign_59 : decode cX11_sign 59 = .ok (.invokevirtual 123, 3) := by decide +kernel
theorem dX11_sign_62 : decode cX11_sign 62 = .ok (.ifCond .ne 6, 3) := by decide +kernel
theorem dX11_sign_65 : decode cX11_sign 65 = .ok (.bipush (-2), 2) := by decide +kernel
theorem dX11_sign_67 : decode cX11_sign 67 = .ok (.ireturn, 1) := by decide +kernel
theorem dX11_sign_68 : decode cX11_sign 68 = .ok (.aload_n 0, 1) := by decide +kernel
theorem dX11_sign_69 : decode cX11_sign 69 = .ok (.getfield 58, 3) := by decide +kernel
theorem dX11_sign_72 : decode cX11_sign 72 = .ok (.iload_n 1, 1) := by decide +kernel
theorem dX11_sign_73 : decode cX11_sign 73 = .ok (.aaload, 1) := by decide +kernel
theorem dX11_sign_74 : decode cX11_sign 74 = .ok (.astore 7, 2) := by decide +kernel
theorem dX11_sign_76 : decode cX11_sign 76 = .ok (.aload 7, 2) := by decide +kernel
theorem dX11_sign_78 : decode cX11_sign 78 = .ok (.iload_n 2, 1) := by decide +kernel
theorem dX11_sign_79 : decode cX11_sign 79 = .ok (.iconst 1, 1) := by decide +kernel
theorem dX11_sign_80 : decode cX11_sign 80 = .ok (.invokevirtual 340, 3) := by decide +kernel
theorem dX11_sign_83 : decode cX11_sign 83 = .ok (.ifCond .ne 6, 3) := by decide +kernel
theorem dX11_sign_86 : decode cX11_sign 86 = .ok (.bipush (-26), 2) := by decide +kernel
theorem dX11_sign_88 : decode cX11_sign 88 = .ok (.ireturn, 1) := by decide +kernel
theorem dX11_sign_89 : decode cX11_sign 89 = .ok (.iload_n 3, 1) := by decide +kernel
theorem dX11_sign_90 : decode cX11_sign 90 = .ok (.iconst (-1), 1) := by decide +kernel
theorem dX11_sign_91 : decode cX11_sign 91 = .ok (.if_icmp .ne 16, 3) := by decide +kernel
theorem dX11_sign_94 : decode cX11_sign 94 = .ok (.aload_n 0, 1) := by decide +kernel
theorem dX11_sign_95 : decode cX11_sign 95 = .ok (.getfield 109, 3) := by decide +kernel
theorem dX11_sign_98 : decode cX11_sign 98 = .ok (.iload_n 2, 1) := by decide +kernel
theorem dX11_sign_99 : decode cX11_sign 99 = .ok (.aload 7, 2) := by decide +kernel
theorem dX11_sign_101 : decode cX11_sign 101 = .ok (.invokevirtual 344, 3) := by decide +kernel
theorem dX11_sign_104 : decode cX11_sign 104 = .ok (.goto 78, 3) := by decide +kernel
theorem dX11_sign_107 : decode cX11_sign 107 = .ok (.aload_n 0, 1) := by decide +kernel
theorem dX11_sign_108 : decode cX11_sign 108 = .ok (.getfield 52, 3) := by decide +kernel
theorem dX11_sign_111 : decode cX11_sign 111 = .ok (.aload_n 0, 1) := by decide +kernel
theorem dX11_sign_112 : decode cX11_sign 112 = .ok (.getfield 11, 3) := by decide +kernel
theorem dX11_sign_115 : decode cX11_sign 115 = .ok (.iload_n 3, 1) := by decide +kernel
theorem dX11_sign_116 : decode cX11_sign 116 = .ok (.aaload, 1) := by decide +kernel
theorem dX11_sign_117 : decode cX11_sign 117 = .ok (.aload_n 0, 1) := by decide +kernel
theorem dX11_sign_118 : decode cX11_sign 118 = .ok (.getfield 44, 3) := by decide +kernel
theorem dX11_sign_121 : decode cX11_sign 121 = .ok (.invokevirtual 142, 3) := by decide +kernel
theorem dX11_sign_124 : decode cX11_sign 124 = .ok (.iconst (-1), 1) := by decide +kernel
theorem dX11_sign_125 : decode cX11_sign 125 = .ok (.if_icmp .eq 6, 3) := by decide +kernel
theorem dX11_sign_128 : decode cX11_sign 128 = .ok (.bipush (-22), 2) := by decide +kernel
theorem dX11_sign_130 : decode cX11_sign 130 = .ok (.ireturn, 1) := by decide +kernel
theorem dX11_sign_131 : decode cX11_sign 131 = .ok (.aload_n 0, 1) := by decide +kernel
theorem dX11_sign_132 : decode cX11_sign 132 = .ok (.getfield 109, 3) := by decide +kernel
theorem dX11_sign_135 : decode cX11_sign 135 = .ok (.aload_n 0, 1) := by decide +kernel
theorem dX11_sign_136 : decode cX11_sign 136 = .ok (.getfield 44, 3) := by decide +kernel
theorem dX11_sign_139 : decode cX11_sign 139 = .ok (.invokevirtual 348, 3) := by decide +kernel
theorem dX11_sign_142 : decode cX11_sign 142 = .ok (.istore 8, 2) := by decide +kernel
theorem dX11_sign_144 : decode cX11_sign 144 = .ok (.iload 8, 2) := by decide +kernel
theorem dX11_sign_146 : decode cX11_sign 146 = .ok (.ifCond .eq 6, 3) := by decide +kernel
theorem dX11_sign_149 : decode cX11_sign 149 = .ok (.iload 8, 2) := by decide +kernel
theorem dX11_sign_151 : decode cX11_sign 151 = .ok (.ireturn, 1) := by decide +kernel
theorem dX11_sign_152 : decode cX11_sign 152 = .ok (.aload_n 0, 1) := by decide +kernel
theorem dX11_sign_153 : decode cX11_sign 153 = .ok (.getfield 109, 3) := by decide +kernel
theorem dX11_sign_156 : decode cX11_sign 156 = .ok (.getfield 351, 3) := by decide +kernel
theorem dX11_sign_159 : decode cX11_sign 159 = .ok (.iload_n 2, 1) := by decide +kernel
theorem dX11_sign_160 : decode cX11_sign 160 = .ok (.if_icmp .eq 6, 3) := by decide +kernel
theorem dX11_sign_163 : decode cX11_sign 163 = .ok (.bipush (-27), 2) := by decide +kernel
theorem dX11_sign_165 : decode cX11_sign 165 = .ok (.ireturn, 1) := by decide +kernel
theorem dX11_sign_166 : decode cX11_sign 166 = .ok (.aload_n 0, 1) := by decide +kernel
theorem dX11_sign_167 : decode cX11_sign 167 = .ok (.getfield 109, 3) := by decide +kernel
theorem dX11_sign_170 : decode cX11_sign 170 = .ok (.getfield 352, 3) := by decide +kernel
theorem dX11_sign_173 : decode cX11_sign 173 = .ok (.aload_n 0, 1) := by decide +kernel
theorem dX11_sign_174 : decode cX11_sign 174 = .ok (.getfield 11, 3) := by decide +kernel
theorem dX11_sign_177 : decode cX11_sign 177 = .ok (.iload_n 3, 1) := by decide +kernel
theorem dX11_sign_178 : decode cX11_sign 178 = .ok (.aaload, 1) := by decide +kernel
theorem dX11_sign_179 : decode cX11_sign 179 = .ok (.invokevirtual 127, 3) := by decide +kernel
theorem dX11_sign_182 : decode cX11_sign 182 = .ok (.aload_n 0, 1) := by decide +kernel
theorem dX11_sign_183 : decode cX11_sign 183 = .ok (.getfield 109, 3) := by decide +kernel
theorem dX11_sign_186 : decode cX11_sign 186 = .ok (.getfield 355, 3) := by decide +kernel
theorem dX11_sign_189 : decode cX11_sign 189 = .ok (.ifCond .eq 21, 3) := by decide +kernel
theorem dX11_sign_192 : decode cX11_sign 192 = .ok (.aload_n 0, 1) := by decide +kernel
theorem dX11_sign_193 : decode cX11_sign 193 = .ok (.getfield 11, 3) := by decide +kernel
theorem dX11_sign_196 : decode cX11_sign 196 = .ok (.iload 4, 2) := by decide +kernel
theorem dX11_sign_198 : decode cX11_sign 198 = .ok (.aaload, 1) := by decide +kernel
theorem dX11_sign_199 : decode cX11_sign 199 = .ok (.bipush 46, 2) := by decide +kernel
theorem dX11_sign_201 : decode cX11_sign 201 = .ok (.invokevirtual 358, 3) := by decide +kernel
theorem dX11_sign_204 : decode cX11_sign 204 = .ok (.ifCond .eq 6, 3) := by decide +kernel
theorem dX11_sign_207 : decode cX11_sign 207 = .ok (.bipush (-5), 2) := by decide +kernel
theorem dX11_sign_209 : decode cX11_sign 209 = .ok (.ireturn, 1) := by decide +kernel
theorem dX11_sign_210 : decode cX11_sign 210 = .ok (.aload_n 0, 1) := by decide +kernel
theorem dX11_sign_211 : decode cX11_sign 211 = .ok (.getfield 28, 3) := by decide +kernel
theorem dX11_sign_214 : decode cX11_sign 214 = .ok (.invokevirtual 131, 3) := by decide +kernel
theorem dX11_sign_217 : decode cX11_sign 217 = .ok (.aload_n 0, 1) := by decide +kernel
theorem dX11_sign_218 : decode cX11_sign 218 = .ok (.getfield 28, 3) := by decide +kernel
theorem dX11_sign_221 : decode cX11_sign 221 = .ok (.aload_n 0, 1) := by decide +kernel
theorem dX11_sign_222 : decode cX11_sign 222 = .ok (.getfield 109, 3) := by decide +kernel
theorem dX11_sign_225 : decode cX11_sign 225 = .ok (.getfield 352, 3) := by decide +kernel
theorem dX11_sign_228 : decode cX11_sign 228 = .ok (.iconst 0, 1) := by decide +kernel
theorem dX11_sign_229 : decode cX11_sign 229 = .ok (.aload_n 0, 1) := by decide +kernel
theorem dX11_sign_230 : decode cX11_sign 230 = .ok (.getfield 109, 3) := by decide +kernel
theorem dX11_sign_233 : decode cX11_sign 233 = .ok (.getfield 352, 3) := by decide +kernel
theorem dX11_sign_236 : decode cX11_sign 236 = .ok (.getfield 113, 3) := by decide +kernel
theorem dX11_sign_239 : decode cX11_sign 239 = .ok (.invokevirtual 205, 3) := by decide +kernel
theorem dX11_sign_242 : decode cX11_sign 242 = .ok (.aload_n 0, 1) := by decide +kernel
theorem dX11_sign_243 : decode cX11_sign 243 = .ok (.getfield 28, 3) := by decide +kernel
theorem dX11_sign_246 : decode cX11_sign 246 = .ok (.bipush 46, 2) := by decide +kernel
theorem dX11_sign_248 : decode cX11_sign 248 = .ok (.invokevirtual 361, 3) := by decide +kernel
theorem dX11_sign_251 : decode cX11_sign 251 = .ok (.aload_n 0, 1) := by decide +kernel
theorem dX11_sign_252 : decode cX11_sign 252 = .ok (.getfield 109, 3) := by decide +kernel
theorem dX11_sign_255 : decode cX11_sign 255 = .ok (.getfield 355, 3) := by decide +kernel
theorem dX11_sign_258 : decode cX11_sign 258 = .ok (.ifCond .eq 20, 3) := by decide +kernel
theorem dX11_sign_261 : decode cX11_sign 261 = .ok (.aload_n 0, 1) := by decide +kernel
theorem dX11_sign_262 : decode cX11_sign 262 = .ok (.getfield 28, 3) := by decide +kernel
theorem dX11_sign_265 : decode cX11_sign 265 = .ok (.aload_n 0, 1) := by decide +kernel
theorem dX11_sign_266 : decode cX11_sign 266 = .ok (.getfield 11, 3) := by decide +kernel
theorem dX11_sign_269 : decode cX11_sign 269 = .ok (.iload 4, 2) := by decide +kernel
theorem dX11_sign_271 : decode cX11_sign 271 = .ok (.aaload, 1) := by decide +kernel
theorem dX11_sign_272 : decode cX11_sign 272 = .ok (.invokevirtual 364, 3) := by decide +kernel
theorem dX11_sign_275 : decode cX11_sign 275 = .ok (.goto 28, 3) := by decide +kernel
theorem dX11_sign_278 : decode cX11_sign 278 = .ok (.aload_n 0, 1) := by decide +kernel
theorem dX11_sign_279 : decode cX11_sign 279 = .ok (.getfield 28, 3) := by decide +kernel
theorem dX11_sign_282 : decode cX11_sign 282 = .ok (.aload_n 0, 1) := by decide +kernel
theorem dX11_sign_283 : decode cX11_sign 283 = .ok (.getfield 11, 3) := by decide +kernel
theorem dX11_sign_286 : decode cX11_sign 286 = .ok (.iload 4, 2) := by decide +kernel
theorem dX11_sign_288 : decode cX11_sign 288 = .ok (.aaload, 1) := by decide +kernel
theorem dX11_sign_289 : decode cX11_sign 289 = .ok (.iconst 0, 1) := by decide +kernel
theorem dX11_sign_290 : decode cX11_sign 290 = .ok (.aload_n 0, 1) := by decide +kernel
theorem dX11_sign_291 : decode cX11_sign 291 = .ok (.getfield 11, 3) := by decide +kernel
theorem dX11_sign_294 : decode cX11_sign 294 = .ok (.iload 4, 2) := by decide +kernel
theorem dX11_sign_296 : decode cX11_sign 296 = .ok (.aaload, 1) := by decide +kernel
theorem dX11_sign_297 : decode cX11_sign 297 = .ok (.getfield 113, 3) := by decide +kernel
theorem dX11_sign_300 : decode cX11_sign 300 = .ok (.invokevirtual 205, 3) := by decide +kernel
theorem dX11_sign_303 : decode cX11_sign 303 = .ok (.aload_n 0, 1) := by decide +kernel
theorem dX11_sign_304 : decode cX11_sign 304 = .ok (.aload 7, 2) := by decide +kernel
theorem dX11_sign_306 : decode cX11_sign 306 = .ok (.iload_n 2, 1) := by decide +kernel
theorem dX11_sign_307 : decode cX11_sign 307 = .ok (.iload 6, 2) := by decide +kernel
theorem dX11_sign_309 : decode cX11_sign 309 = .ok (.ifCond .eq 13, 3) := by decide +kernel
theorem dX11_sign_312 : decode cX11_sign 312 = .ok (.aload_n 0, 1) := by decide +kernel
theorem dX11_sign_313 : decode cX11_sign 313 = .ok (.getfield 11, 3) := by decide +kernel
theorem dX11_sign_316 : decode cX11_sign 316 = .ok (.iload 5, 2) := by decide +kernel
theorem dX11_sign_318 : decode cX11_sign 318 = .ok (.aaload, 1) := by decide +kernel
theorem dX11_sign_319 : decode cX11_sign 319 = .ok (.goto 7, 3) := by decide +kernel
theorem dX11_sign_322 : decode cX11_sign 322 = .ok (.aload_n 0, 1) := by decide +kernel
theorem dX11_sign_323 : decode cX11_sign 323 = .ok (.getfield 25, 3) := by decide +kernel
theorem dX11_sign_326 : decode cX11_sign 326 = .ok (.invokevirtual 367, 3) := by decide +kernel
theorem dX11_sign_329 : decode cX11_sign 329 = .ok (.ifCond .ne 6, 3) := by decide +kernel
theorem dX11_sign_332 : decode cX11_sign 332 = .ok (.bipush (-4), 2) := by decide +kernel
theorem dX11_sign_334 : decode cX11_sign 334 = .ok (.ireturn, 1) := by decide +kernel
theorem dX11_sign_335 : decode cX11_sign 335 = .ok (.aload_n 0, 1) := by decide +kernel
theorem dX11_sign_336 : decode cX11_sign 336 = .ok (.getfield 28, 3) := by decide +kernel
theorem dX11_sign_339 : decode cX11_sign 339 = .ok (.getfield 113, 3) := by decide +kernel
theorem dX11_sign_342 : decode cX11_sign 342 = .ok (.iconst 1, 1) := by decide +kernel
theorem dX11_sign_343 : decode cX11_sign 343 = .ok (.iadd, 1) := by decide +kernel
theorem dX11_sign_344 : decode cX11_sign 344 = .ok (.aload_n 0, 1) := by decide +kernel
theorem dX11_sign_345 : decode cX11_sign 345 = .ok (.getfield 31, 3) := by decide +kernel
theorem dX11_sign_348 : decode cX11_sign 348 = .ok (.getfield 113, 3) := by decide +kernel
theorem dX11_sign_351 : decode cX11_sign 351 = .ok (.invokestatic 202, 3) := by decide +kernel
theorem dX11_sign_354 : decode cX11_sign 354 = .ok (.iadd, 1) := by decide +kernel
theorem dX11_sign_355 : decode cX11_sign 355 = .ok (.sipush 8192, 3) := by decide +kernel
theorem dX11_sign_358 : decode cX11_sign 358 = .ok (.if_icmp .le 6, 3) := by decide +kernel
theorem dX11_sign_361 : decode cX11_sign 361 = .ok (.bipush (-3), 2) := by decide +kernel
theorem dX11_sign_363 : decode cX11_sign 363 = .ok (.ireturn, 1) := by decide +kernel
theorem dX11_sign_364 : decode cX11_sign 364 = .ok (.aload_n 0, 1) := by decide +kernel
theorem dX11_sign_365 : decode cX11_sign 365 = .ok (.getfield 28, 3) := by decide +kernel
theorem dX11_sign_368 : decode cX11_sign 368 = .ok (.bipush 46, 2) := by decide +kernel
theorem dX11_sign_370 : decode cX11_sign 370 = .ok (.invokevirtual 361, 3) := by decide +kernel
theorem dX11_sign_373 : decode cX11_sign 373 = .ok (.aload_n 0, 1) := by decide +kernel
theorem dX11_sign_374 : decode cX11_sign 374 = .ok (.getfield 28, 3) := by decide +kernel
theorem dX11_sign_377 : decode cX11_sign 377 = .ok (.aload_n 0, 1) := by decide +kernel
theorem dX11_sign_378 : decode cX11_sign 378 = .ok (.getfield 31, 3) := by decide +kernel
theorem dX11_sign_381 : decode cX11_sign 381 = .ok (.iconst 0, 1) := by decide +kernel
theorem dX11_sign_382 : decode cX11_sign 382 = .ok (.aload_n 0, 1) := by decide +kernel
theorem dX11_sign_383 : decode cX11_sign 383 = .ok (.getfield 31, 3) := by decide +kernel
theorem dX11_sign_386 : decode cX11_sign 386 = .ok (.getfield 113, 3) := by decide +kernel
theorem dX11_sign_389 : decode cX11_sign 389 = .ok (.invokevirtual 205, 3) := by decide +kernel
theorem dX11_sign_392 : decode cX11_sign 392 = .ok (.aload_n 0, 1) := by decide +kernel
theorem dX11_sign_393 : decode cX11_sign 393 = .ok (.aload_n 0, 1) := by decide +kernel
theorem dX11_sign_394 : decode cX11_sign 394 = .ok (.getfield 28, 3) := by decide +kernel
theorem dX11_sign_397 : decode cX11_sign 397 = .ok (.iconst 0, 1) := by decide +kernel
theorem dX11_sign_398 : decode cX11_sign 398 = .ok (.aload_n 0, 1) := by decide +kernel
theorem dX11_sign_399 : decode cX11_sign 399 = .ok (.getfield 28, 3) := by decide +kernel
theorem dX11_sign_402 : decode cX11_sign 402 = .ok (.getfield 113, 3) := by decide +kernel
theorem dX11_sign_405 : decode cX11_sign 405 = .ok (.invokevirtual 176, 3) := by decide +kernel
theorem dX11_sign_408 : decode cX11_sign 408 = .ok (.ireturn, 1) := by decide +kernel
abbrev rmX11_sign : Room := { frames := 9, cells := 0, slots := 0, locals := 219 }
set_option maxHeartbeats 4000000 in
set_option maxRecDepth 100000 in
theorem wB_X11_sign_326 {G : mG} {F : Nat} {x : mXT} {sz : Nat} {r0 : Int32} {M0 : mM} (X : mCX G RX11 cX11_sign 9 (some .int) "sign" rmX11_sign x) (hQ : mQI x r0 M0 (sz, 0, 0)) {l0 : Nat} {sk0 : Nat} {sk1 : Nat} {sk2 : Int32} {sk3 : Nat} {M : mM} (h : B_X11_sign_326 G F l0 sk0 sk1 sk2 sk3 M = some (r0, M0)) : WW x (sz, 0, 0) M 326 [(0, .ref l0)] [.ref sk3, .int sk2, .ref sk1, .ref sk0] := by
  unfold B_X11_sign_326 at h
  obtain ⟨_, f326, h⟩ := bO_some h
  obtain ⟨v326, M326, e326, h⟩ := bP_some h
  refine ww_callVI0 326 X dX11_sign_326 mY_X11_makeSignature mL_X11_367 (rcv_spec f326) ⟨_, _, rfl⟩ (by decide) (As := [.ref sk1, .int sk2, .ref sk3]) (rest := []) rfl rfl ⟨Nat.le_of_ble_eq_true rfl, Nat.le_of_ble_eq_true rfl⟩ (Nat.le_of_ble_eq_true rfl) (fun l D A => c_X11_makeSignature l D A e326) ?_
  refine ww_if_ne 329 335 X dX11_sign_329 (by decide) (fun q => ?_) (fun q => ?_)
  · replace h := (if_neg q).symm.trans h
    refine ww_aload_n 335 X dX11_sign_335 0 rfl rfl ?_
    obtain ⟨v336, e336, h⟩ := bO_some h
    refine ww_getR 336 X dX11_sign_336 fG_X11_28 e336 ?_
    obtain ⟨v339, e339, h⟩ := bO_some h
    refine ww_getI 339 X dX11_sign_339 fG_X11_113 e339 ?_
    refine ww_iconst 342 X (v := (1 : Int32)) dX11_sign_342 (by decide) ?_
    refine ww_iadd 343 X dX11_sign_343 ?_
    refine ww_aload_n 344 X dX11_sign_344 0 rfl rfl ?_
    obtain ⟨v345, e345, h⟩ := bO_some h
    refine ww_getR 345 X dX11_sign_345 fG_X11_31 e345 ?_
    obtain ⟨v348, e348, h⟩ := bO_some h
    refine ww_getI 348 X dX11_sign_348 fG_X11_113 e348 ?_
    obtain ⟨v351, M351, e351, h⟩ := bP_some h
    refine ww_callSI0 351 X dX11_sign_351 mY_X0_lettersFor mL_X11_202 (As := [.int v348]) (rest := [.int (v339 + (1 : Int32))]) rfl rfl ⟨Nat.le_of_ble_eq_true rfl, Nat.le_of_ble_eq_true rfl⟩ (Nat.le_of_ble_eq_true rfl) (fun l D A => c_X0_lettersFor l D A e351) ?_
    refine ww_iadd 354 X dX11_sign_354 ?_
    refine ww_sipush 355 X (v := (8192 : Int32)) dX11_sign_355 (by decide) ?_
    refine ww_icmp_le 358 364 X dX11_sign_358 (by decide) (fun q => ?_) (fun q => ?_)
    · replace h := (if_pos q).symm.trans h
      refine ww_aload_n 364 X dX11_sign_364 0 rfl rfl ?_
      obtain ⟨v365, e365, h⟩ := bO_some h
      refine ww_getR 365 X dX11_sign_365 fG_X11_28 e365 ?_
      refine ww_bipush 368 X (v := (46 : Int32)) dX11_sign_368 (by decide) ?_
      obtain ⟨_, f370, h⟩ := bO_some h
      obtain ⟨M370, e370, h⟩ := bO_some h
      refine ww_callVV0 370 X dX11_sign_370 mY_X0_put mL_X11_361 (rcv_spec f370) ⟨_, _, rfl⟩ (by decide) (As := [.int (46 : Int32)]) (rest := []) rfl rfl ⟨Nat.le_of_ble_eq_true rfl, Nat.le_of_ble_eq_true rfl⟩ (Nat.le_of_ble_eq_true rfl) (fun l D A => c_X0_put l D A e370) ?_
      refine ww_aload_n 373 X dX11_sign_373 0 rfl rfl ?_
      obtain ⟨v374, e374, h⟩ := bO_some h
      refine ww_getR 374 X dX11_sign_374 fG_X11_28 e374 ?_
      refine ww_aload_n 377 X dX11_sign_377 0 rfl rfl ?_
      obtain ⟨v378, e378, h⟩ := bO_some h
      refine ww_getR 378 X dX11_sign_378 fG_X11_31 e378 ?_
      refine ww_iconst 381 X (v := (0 : Int32)) dX11_sign_381 (by decide) ?_
      refine ww_aload_n 382 X dX11_sign_382 0 rfl rfl ?_
      obtain ⟨v383, e383, h⟩ := bO_some h
      refine ww_getR 383 X dX11_sign_383 fG_X11_31 e383 ?_
      obtain ⟨v386, e386, h⟩ := bO_some h
      refine ww_getI 386 X dX11_sign_386 fG_X11_113 e386 ?_
      obtain ⟨_, f389, h⟩ := bO_some h
      obtain ⟨M389, e389, h⟩ := bO_some h
      refine ww_callVV0 389 X dX11_sign_389 mY_X0_putLetters mL_X11_205 (rcv_spec f389) ⟨_, _, rfl⟩ (by decide) (As := [.ref v378, .int (0 : Int32), .int v386]) (rest := []) rfl rfl ⟨Nat.le_of_ble_eq_true rfl, Nat.le_of_ble_eq_true rfl⟩ (Nat.le_of_ble_eq_true rfl) (fun l D A => c_X0_putLetters l D A e389) ?_
      refine ww_aload_n 392 X dX11_sign_392 0 rfl rfl ?_
      refine ww_aload_n 393 X dX11_sign_393 0 rfl rfl ?_
      obtain ⟨v394, e394, h⟩ := bO_some h
      refine ww_getR 394 X dX11_sign_394 fG_X11_28 e394 ?_
      refine ww_iconst 397 X (v := (0 : Int32)) dX11_sign_397 (by decide) ?_
      refine ww_aload_n 398 X dX11_sign_398 0 rfl rfl ?_
      obtain ⟨v399, e399, h⟩ := bO_some h
      refine ww_getR 399 X dX11_sign_399 fG_X11_28 e399 ?_
      obtain ⟨v402, e402, h⟩ := bO_some h
      refine ww_getI 402 X dX11_sign_402 fG_X11_113 e402 ?_
      obtain ⟨_, f405, h⟩ := bO_some h
      obtain ⟨v405, M405, e405, h⟩ := bP_some h
      refine ww_callVI0 405 X dX11_sign_405 mY_X11_show mL_X11_176 (rcv_spec f405) ⟨_, _, rfl⟩ (by decide) (As := [.ref v394, .int (0 : Int32), .int v402]) (rest := []) rfl rfl ⟨Nat.le_of_ble_eq_true rfl, Nat.le_of_ble_eq_true rfl⟩ (Nat.le_of_ble_eq_true rfl) (fun l D A => c_X11_show l D A e405) ?_
      exact ww_iretE 408 X hQ dX11_sign_408 h
    · replace h := (if_neg q).symm.trans h
      refine ww_bipush 361 X (v := (-3 : Int32)) dX11_sign_361 (by decide) ?_
      exact ww_iretE 363 X hQ dX11_sign_363 h
  · replace h := (if_pos q).symm.trans h
    refine ww_bipush 332 X (v := (-4 : Int32)) dX11_sign_332 (by decide) ?_
    exact ww_iretE 334 X hQ dX11_sign_334 h
set_option maxHeartbeats 4000000 in
set_option maxRecDepth 100000 in
theorem wB_X11_sign_303 {G : mG} {F : Nat} {x : mXT} {sz : Nat} {r0 : Int32} {M0 : mM} (X : mCX G RX11 cX11_sign 9 (some .int) "sign" rmX11_sign x) (hQ : mQI x r0 M0 (sz, 0, 0)) {l0 : Nat} {l2 : Int32} {l5 : Int32} {l6 : Int32} {l7 : Nat} {M : mM} (h : B_X11_sign_303 G F l0 l2 l5 l6 l7 M = some (r0, M0)) : WW x (sz, 0, 0) M 303 [(0, .ref l0), (2, .int l2), (5, .int l5), (6, .int l6), (7, .ref l7)] [] := by
  unfold B_X11_sign_303 at h
  refine ww_aload_n 303 X dX11_sign_303 0 rfl rfl ?_
  refine ww_aload 304 X dX11_sign_304 4 rfl ?_
  refine ww_iload_n 306 X dX11_sign_306 1 rfl rfl ?_
  refine ww_iload 307 X dX11_sign_307 3 rfl ?_
  refine ww_if_eq 309 322 X dX11_sign_309 (by decide) (fun q => ?_) (fun q => ?_)
  · replace h := (if_pos q).symm.trans h
    refine ww_aload_n 322 X dX11_sign_322 0 rfl rfl ?_
    obtain ⟨v323, e323, h⟩ := bO_some h
    refine ww_getR 323 X dX11_sign_323 fG_X11_25 e323 ?_
    exact ww_sub [0] rfl (wB_X11_sign_326 X hQ h)
  · replace h := (if_neg q).symm.trans h
    refine ww_aload_n 312 X dX11_sign_312 0 rfl rfl ?_
    obtain ⟨v313, e313, h⟩ := bO_some h
    refine ww_getR 313 X dX11_sign_313 fG_X11_11 e313 ?_
    refine ww_iload 316 X dX11_sign_316 2 rfl ?_
    obtain ⟨v318, e318, h⟩ := bO_some h
    refine ww_aald4 318 X dX11_sign_318 e318 ?_
    refine ww_goto 319 326 X dX11_sign_319 (by decide) ?_
    exact ww_sub [0] rfl (wB_X11_sign_326 X hQ h)
set_option maxHeartbeats 4000000 in
set_option maxRecDepth 100000 in
theorem wB_X11_sign_210 {G : mG} {F : Nat} {x : mXT} {sz : Nat} {r0 : Int32} {M0 : mM} (X : mCX G RX11 cX11_sign 9 (some .int) "sign" rmX11_sign x) (hQ : mQI x r0 M0 (sz, 0, 0)) {l0 : Nat} {l2 : Int32} {l4 : Int32} {l5 : Int32} {l6 : Int32} {l7 : Nat} {M : mM} (h : B_X11_sign_210 G F l0 l2 l4 l5 l6 l7 M = some (r0, M0)) : WW x (sz, 0, 0) M 210 [(0, .ref l0), (2, .int l2), (4, .int l4), (5, .int l5), (6, .int l6), (7, .ref l7)] [] := by
  unfold B_X11_sign_210 at h
  refine ww_aload_n 210 X dX11_sign_210 0 rfl rfl ?_
  obtain ⟨v211, e211, h⟩ := bO_some h
  refine ww_getR 211 X dX11_sign_211 fG_X11_28 e211 ?_
  obtain ⟨_, f214, h⟩ := bO_some h
  obtain ⟨M214, e214, h⟩ := bO_some h
  refine ww_callVV0 214 X dX11_sign_214 mY_X0_clear mL_X11_131 (rcv_spec f214) ⟨_, _, rfl⟩ (by decide) (As := []) (rest := []) rfl rfl ⟨Nat.le_of_ble_eq_true rfl, Nat.le_of_ble_eq_true rfl⟩ (Nat.le_of_ble_eq_true rfl) (fun l D A => c_X0_clear l D A e214) ?_
  refine ww_aload_n 217 X dX11_sign_217 0 rfl rfl ?_
  obtain ⟨v218, e218, h⟩ := bO_some h
  refine ww_getR 218 X dX11_sign_218 fG_X11_28 e218 ?_
  refine ww_aload_n 221 X dX11_sign_221 0 rfl rfl ?_
  obtain ⟨v222, e222, h⟩ := bO_some h
  refine ww_getR 222 X dX11_sign_222 fG_X11_109 e222 ?_
  obtain ⟨v225, e225, h⟩ := bO_some h
  refine ww_getR 225 X dX11_sign_225 fG_X11_352 e225 ?_
  refine ww_iconst 228 X (v := (0 : Int32)) dX11_sign_228 (by decide) ?_
  refine ww_aload_n 229 X dX11_sign_229 0 rfl rfl ?_
  obtain ⟨v230, e230, h⟩ := bO_some h
  refine ww_getR 230 X dX11_sign_230 fG_X11_109 e230 ?_
  obtain ⟨v233, e233, h⟩ := bO_some h
  refine ww_getR 233 X dX11_sign_233 fG_X11_352 e233 ?_
  obtain ⟨v236, e236, h⟩ := bO_some h
  refine ww_getI 236 X dX11_sign_236 fG_X11_113 e236 ?_
  obtain ⟨_, f239, h⟩ := bO_some h
  obtain ⟨M239, e239, h⟩ := bO_some h
  refine ww_callVV0 239 X dX11_sign_239 mY_X0_putLetters mL_X11_205 (rcv_spec f239) ⟨_, _, rfl⟩ (by decide) (As := [.ref v225, .int (0 : Int32), .int v236]) (rest := []) rfl rfl ⟨Nat.le_of_ble_eq_true rfl, Nat.le_of_ble_eq_true rfl⟩ (Nat.le_of_ble_eq_true rfl) (fun l D A => c_X0_putLetters l D A e239) ?_
  refine ww_aload_n 242 X dX11_sign_242 0 rfl rfl ?_
  obtain ⟨v243, e243, h⟩ := bO_some h
  refine ww_getR 243 X dX11_sign_243 fG_X11_28 e243 ?_
  refine ww_bipush 246 X (v := (46 : Int32)) dX11_sign_246 (by decide) ?_
  obtain ⟨_, f248, h⟩ := bO_some h
  obtain ⟨M248, e248, h⟩ := bO_some h
  refine ww_callVV0 248 X dX11_sign_248 mY_X0_put mL_X11_361 (rcv_spec f248) ⟨_, _, rfl⟩ (by decide) (As := [.int (46 : Int32)]) (rest := []) rfl rfl ⟨Nat.le_of_ble_eq_true rfl, Nat.le_of_ble_eq_true rfl⟩ (Nat.le_of_ble_eq_true rfl) (fun l D A => c_X0_put l D A e248) ?_
  refine ww_aload_n 251 X dX11_sign_251 0 rfl rfl ?_
  obtain ⟨v252, e252, h⟩ := bO_some h
  refine ww_getR 252 X dX11_sign_252 fG_X11_109 e252 ?_
  obtain ⟨v255, e255, h⟩ := bO_some h
  refine ww_getI 255 X dX11_sign_255 fG_X11_355 e255 ?_
  refine ww_if_eq 258 278 X dX11_sign_258 (by decide) (fun q => ?_) (fun q => ?_)
  · replace h := (if_pos q).symm.trans h
    refine ww_aload_n 278 X dX11_sign_278 0 rfl rfl ?_
    obtain ⟨v279, e279, h⟩ := bO_some h
    refine ww_getR 279 X dX11_sign_279 fG_X11_28 e279 ?_
    refine ww_aload_n 282 X dX11_sign_282 0 rfl rfl ?_
    obtain ⟨v283, e283, h⟩ := bO_some h
    refine ww_getR 283 X dX11_sign_283 fG_X11_11 e283 ?_
    refine ww_iload 286 X dX11_sign_286 2 rfl ?_
    obtain ⟨v288, e288, h⟩ := bO_some h
    refine ww_aald4 288 X dX11_sign_288 e288 ?_
    refine ww_iconst 289 X (v := (0 : Int32)) dX11_sign_289 (by decide) ?_
    refine ww_aload_n 290 X dX11_sign_290 0 rfl rfl ?_
    obtain ⟨v291, e291, h⟩ := bO_some h
    refine ww_getR 291 X dX11_sign_291 fG_X11_11 e291 ?_
    refine ww_iload 294 X dX11_sign_294 2 rfl ?_
    obtain ⟨v296, e296, h⟩ := bO_some h
    refine ww_aald4 296 X dX11_sign_296 e296 ?_
    obtain ⟨v297, e297, h⟩ := bO_some h
    refine ww_getI 297 X dX11_sign_297 fG_X11_113 e297 ?_
    obtain ⟨_, f300, h⟩ := bO_some h
    obtain ⟨M300, e300, h⟩ := bO_some h
    refine ww_callVV0 300 X dX11_sign_300 mY_X0_putLetters mL_X11_205 (rcv_spec f300) ⟨_, _, rfl⟩ (by decide) (As := [.ref v288, .int (0 : Int32), .int v297]) (rest := []) rfl rfl ⟨Nat.le_of_ble_eq_true rfl, Nat.le_of_ble_eq_true rfl⟩ (Nat.le_of_ble_eq_true rfl) (fun l D A => c_X0_putLetters l D A e300) ?_
    exact ww_sub [0, 1, 3, 4, 5] rfl (wB_X11_sign_303 X hQ h)
  · replace h := (if_neg q).symm.trans h
    refine ww_aload_n 261 X dX11_sign_261 0 rfl rfl ?_
    obtain ⟨v262, e262, h⟩ := bO_some h
    refine ww_getR 262 X dX11_sign_262 fG_X11_28 e262 ?_
    refine ww_aload_n 265 X dX11_sign_265 0 rfl rfl ?_
    obtain ⟨v266, e266, h⟩ := bO_some h
    refine ww_getR 266 X dX11_sign_266 fG_X11_11 e266 ?_
    refine ww_iload 269 X dX11_sign_269 2 rfl ?_
    obtain ⟨v271, e271, h⟩ := bO_some h
    refine ww_aald4 271 X dX11_sign_271 e271 ?_
    obtain ⟨_, f272, h⟩ := bO_some h
    obtain ⟨M272, e272, h⟩ := bO_some h
    refine ww_callVV0 272 X dX11_sign_272 mY_X0_putAll mL_X11_364 (rcv_spec f272) ⟨_, _, rfl⟩ (by decide) (As := [.ref v271]) (rest := []) rfl rfl ⟨Nat.le_of_ble_eq_true rfl, Nat.le_of_ble_eq_true rfl⟩ (Nat.le_of_ble_eq_true rfl) (fun l D A => c_X0_putAll l D A e272) ?_
    refine ww_goto 275 303 X dX11_sign_275 (by decide) ?_
    exact ww_sub [0, 1, 3, 4, 5] rfl (wB_X11_sign_303 X hQ h)
set_option maxHeartbeats 4000000 in
set_option maxRecDepth 100000 in
theorem wB_X11_sign_182 {G : mG} {F : Nat} {x : mXT} {sz : Nat} {r0 : Int32} {M0 : mM} (X : mCX G RX11 cX11_sign 9 (some .int) "sign" rmX11_sign x) (hQ : mQI x r0 M0 (sz, 0, 0)) {l0 : Nat} {l2 : Int32} {l4 : Int32} {l5 : Int32} {l6 : Int32} {l7 : Nat} {M : mM} (h : B_X11_sign_182 G F l0 l2 l4 l5 l6 l7 M = some (r0, M0)) : WW x (sz, 0, 0) M 182 [(0, .ref l0), (2, .int l2), (4, .int l4), (5, .int l5), (6, .int l6), (7, .ref l7)] [] := by
  unfold B_X11_sign_182 at h
  refine ww_aload_n 182 X dX11_sign_182 0 rfl rfl ?_
  obtain ⟨v183, e183, h⟩ := bO_some h
  refine ww_getR 183 X dX11_sign_183 fG_X11_109 e183 ?_
  obtain ⟨v186, e186, h⟩ := bO_some h
  refine ww_getI 186 X dX11_sign_186 fG_X11_355 e186 ?_
  refine ww_if_eq 189 210 X dX11_sign_189 (by decide) (fun q => ?_) (fun q => ?_)
  · replace h := (if_pos q).symm.trans h
    exact (wB_X11_sign_210 X hQ h)
  · replace h := (if_neg q).symm.trans h
    refine ww_aload_n 192 X dX11_sign_192 0 rfl rfl ?_
    obtain ⟨v193, e193, h⟩ := bO_some h
    refine ww_getR 193 X dX11_sign_193 fG_X11_11 e193 ?_
    refine ww_iload 196 X dX11_sign_196 2 rfl ?_
    obtain ⟨v198, e198, h⟩ := bO_some h
    refine ww_aald4 198 X dX11_sign_198 e198 ?_
    refine ww_bipush 199 X (v := (46 : Int32)) dX11_sign_199 (by decide) ?_
    obtain ⟨_, f201, h⟩ := bO_some h
    obtain ⟨v201, M201, e201, h⟩ := bP_some h
    refine ww_callVI0 201 X dX11_sign_201 mY_X0_holds mL_X11_358 (rcv_spec f201) ⟨_, _, rfl⟩ (by decide) (As := [.int (46 : Int32)]) (rest := []) rfl rfl ⟨Nat.le_of_ble_eq_true rfl, Nat.le_of_ble_eq_true rfl⟩ (Nat.le_of_ble_eq_true rfl) (fun l D A => c_X0_holds l D A e201) ?_
    refine ww_if_eq 204 210 X dX11_sign_204 (by decide) (fun q => ?_) (fun q => ?_)
    · replace h := (if_pos q).symm.trans h
      exact (wB_X11_sign_210 X hQ h)
    · replace h := (if_neg q).symm.trans h
      refine ww_bipush 207 X (v := (-5 : Int32)) dX11_sign_207 (by decide) ?_
      exact ww_iretE 209 X hQ dX11_sign_209 h
set_option maxHeartbeats 4000000 in
set_option maxRecDepth 100000 in
theorem wB_X11_sign_68 {G : mG} {F : Nat} {x : mXT} {sz : Nat} {r0 : Int32} {M0 : mM} (X : mCX G RX11 cX11_sign 9 (some .int) "sign" rmX11_sign x) (hQ : mQI x r0 M0 (sz, 0, 0)) {l0 : Nat} {l1 : Int32} {l2 : Int32} {l3 : Int32} {l4 : Int32} {l5 : Int32} {l6 : Int32} {M : mM} (h : B_X11_sign_68 G F l0 l1 l2 l3 l4 l5 l6 M = some (r0, M0)) : WW x (sz, 0, 0) M 68 [(0, .ref l0), (1, .int l1), (2, .int l2), (3, .int l3), (4, .int l4), (5, .int l5), (6, .int l6)] [] := by
  unfold B_X11_sign_68 at h
  refine ww_aload_n 68 X dX11_sign_68 0 rfl rfl ?_
  obtain ⟨v69, e69, h⟩ := bO_some h
  refine ww_getR 69 X dX11_sign_69 fG_X11_58 e69 ?_
  refine ww_iload_n 72 X dX11_sign_72 1 rfl rfl ?_
  obtain ⟨v73, e73, h⟩ := bO_some h
  refine ww_aald5 73 X dX11_sign_73 e73 ?_
  refine ww_astore 74 X dX11_sign_74 (lv' := [(0, .ref l0), (1, .int l1), (2, .int l2), (3, .int l3), (4, .int l4), (5, .int l5), (6, .int l6), (7, .ref v73)]) (by decide) [1, 2, 3, 4, 5, 6, 7, 0] rfl ?_
  refine ww_aload 76 X dX11_sign_76 7 rfl ?_
  refine ww_iload_n 78 X dX11_sign_78 2 rfl rfl ?_
  refine ww_iconst 79 X (v := (1 : Int32)) dX11_sign_79 (by decide) ?_
  obtain ⟨_, f80, h⟩ := bO_some h
  obtain ⟨v80, M80, e80, h⟩ := bP_some h
  refine ww_callVI0 80 X dX11_sign_80 mY_X5_maySign mL_X11_340 (rcv_spec f80) ⟨_, _, rfl⟩ (by decide) (As := [.int l2, .int (1 : Int32)]) (rest := []) rfl rfl ⟨Nat.le_of_ble_eq_true rfl, Nat.le_of_ble_eq_true rfl⟩ (Nat.le_of_ble_eq_true rfl) (fun l D A => c_X5_maySign l D A e80) ?_
  refine ww_if_ne 83 89 X dX11_sign_83 (by decide) (fun q => ?_) (fun q => ?_)
  · replace h := (if_neg q).symm.trans h
    refine ww_iload_n 89 X dX11_sign_89 3 rfl rfl ?_
    refine ww_iconst 90 X (v := (-1 : Int32)) dX11_sign_90 (by decide) ?_
    refine ww_icmp_ne 91 107 X dX11_sign_91 (by decide) (fun q => ?_) (fun q => ?_)
    · replace h := (if_neg q).symm.trans h
      refine ww_aload_n 107 X dX11_sign_107 0 rfl rfl ?_
      obtain ⟨v108, e108, h⟩ := bO_some h
      refine ww_getR 108 X dX11_sign_108 fG_X11_52 e108 ?_
      refine ww_aload_n 111 X dX11_sign_111 0 rfl rfl ?_
      obtain ⟨v112, e112, h⟩ := bO_some h
      refine ww_getR 112 X dX11_sign_112 fG_X11_11 e112 ?_
      refine ww_iload_n 115 X dX11_sign_115 3 rfl rfl ?_
      obtain ⟨v116, e116, h⟩ := bO_some h
      refine ww_aald4 116 X dX11_sign_116 e116 ?_
      refine ww_aload_n 117 X dX11_sign_117 0 rfl rfl ?_
      obtain ⟨v118, e118, h⟩ := bO_some h
      refine ww_getR 118 X dX11_sign_118 fG_X11_44 e118 ?_
      obtain ⟨_, f121, h⟩ := bO_some h
      obtain ⟨v121, M121, e121, h⟩ := bP_some h
      refine ww_callVI0 121 X dX11_sign_121 mY_X7_read mL_X11_142 (rcv_spec f121) ⟨_, _, rfl⟩ (by decide) (As := [.ref v116, .ref v118]) (rest := []) rfl rfl ⟨Nat.le_of_ble_eq_true rfl, Nat.le_of_ble_eq_true rfl⟩ (Nat.le_of_ble_eq_true rfl) (fun l D A => c_X7_read l D A e121) ?_
      refine ww_iconst 124 X (v := (-1 : Int32)) dX11_sign_124 (by decide) ?_
      refine ww_icmp_eq 125 131 X dX11_sign_125 (by decide) (fun q => ?_) (fun q => ?_)
      · replace h := (if_pos q).symm.trans h
        refine ww_aload_n 131 X dX11_sign_131 0 rfl rfl ?_
        obtain ⟨v132, e132, h⟩ := bO_some h
        refine ww_getR 132 X dX11_sign_132 fG_X11_109 e132 ?_
        refine ww_aload_n 135 X dX11_sign_135 0 rfl rfl ?_
        obtain ⟨v136, e136, h⟩ := bO_some h
        refine ww_getR 136 X dX11_sign_136 fG_X11_44 e136 ?_
        obtain ⟨_, f139, h⟩ := bO_some h
        obtain ⟨v139, M139, e139, h⟩ := bP_some h
        refine ww_callVI0 139 X dX11_sign_139 mY_X10_signedHeadReason mL_X11_348 (rcv_spec f139) ⟨_, _, rfl⟩ (by decide) (As := [.ref v136]) (rest := []) rfl rfl ⟨Nat.le_of_ble_eq_true rfl, Nat.le_of_ble_eq_true rfl⟩ (Nat.le_of_ble_eq_true rfl) (fun l D A => c_X10_signedHeadReason l D A e139) ?_
        refine ww_istore 142 X dX11_sign_142 (lv' := [(0, .ref l0), (1, .int l1), (2, .int l2), (3, .int l3), (4, .int l4), (5, .int l5), (6, .int l6), (7, .ref v73), (8, .int v139)]) (by decide) [1, 2, 3, 4, 5, 6, 7, 8, 0] rfl ?_
        refine ww_iload 144 X dX11_sign_144 8 rfl ?_
        refine ww_if_eq 146 152 X dX11_sign_146 (by decide) (fun q => ?_) (fun q => ?_)
        · replace h := (if_pos q).symm.trans h
          refine ww_aload_n 152 X dX11_sign_152 0 rfl rfl ?_
          obtain ⟨v153, e153, h⟩ := bO_some h
          refine ww_getR 153 X dX11_sign_153 fG_X11_109 e153 ?_
          obtain ⟨v156, e156, h⟩ := bO_some h
          refine ww_getI 156 X dX11_sign_156 fG_X11_351 e156 ?_
          refine ww_iload_n 159 X dX11_sign_159 2 rfl rfl ?_
          refine ww_icmp_eq 160 166 X dX11_sign_160 (by decide) (fun q => ?_) (fun q => ?_)
          · replace h := (if_pos q).symm.trans h
            refine ww_aload_n 166 X dX11_sign_166 0 rfl rfl ?_
            obtain ⟨v167, e167, h⟩ := bO_some h
            refine ww_getR 167 X dX11_sign_167 fG_X11_109 e167 ?_
            obtain ⟨v170, e170, h⟩ := bO_some h
            refine ww_getR 170 X dX11_sign_170 fG_X11_352 e170 ?_
            refine ww_aload_n 173 X dX11_sign_173 0 rfl rfl ?_
            obtain ⟨v174, e174, h⟩ := bO_some h
            refine ww_getR 174 X dX11_sign_174 fG_X11_11 e174 ?_
            refine ww_iload_n 177 X dX11_sign_177 3 rfl rfl ?_
            obtain ⟨v178, e178, h⟩ := bO_some h
            refine ww_aald4 178 X dX11_sign_178 e178 ?_
            obtain ⟨_, f179, h⟩ := bO_some h
            obtain ⟨M179, e179, h⟩ := bO_some h
            refine ww_callVV0 179 X dX11_sign_179 mY_X0_become mL_X11_127 (rcv_spec f179) ⟨_, _, rfl⟩ (by decide) (As := [.ref v178]) (rest := []) rfl rfl ⟨Nat.le_of_ble_eq_true rfl, Nat.le_of_ble_eq_true rfl⟩ (Nat.le_of_ble_eq_true rfl) (fun l D A => c_X0_become l D A e179) ?_
            exact ww_sub [0, 2, 4, 5, 6, 7] rfl (wB_X11_sign_182 X hQ h)
          · replace h := (if_neg q).symm.trans h
            refine ww_bipush 163 X (v := (-27 : Int32)) dX11_sign_163 (by decide) ?_
            exact ww_iretE 165 X hQ dX11_sign_165 h
        · replace h := (if_neg q).symm.trans h
          refine ww_iload 149 X dX11_sign_149 8 rfl ?_
          exact ww_iretE 151 X hQ dX11_sign_151 h
      · replace h := (if_neg q).symm.trans h
        refine ww_bipush 128 X (v := (-22 : Int32)) dX11_sign_128 (by decide) ?_
        exact ww_iretE 130 X hQ dX11_sign_130 h
    · replace h := (if_pos q).symm.trans h
      refine ww_aload_n 94 X dX11_sign_94 0 rfl rfl ?_
      obtain ⟨v95, e95, h⟩ := bO_some h
      refine ww_getR 95 X dX11_sign_95 fG_X11_109 e95 ?_
      refine ww_iload_n 98 X dX11_sign_98 2 rfl rfl ?_
      refine ww_aload 99 X dX11_sign_99 7 rfl ?_
      obtain ⟨_, f101, h⟩ := bO_some h
      obtain ⟨M101, e101, h⟩ := bO_some h
      refine ww_callVV0 101 X dX11_sign_101 mY_X10_makeSignedHead mL_X11_344 (rcv_spec f101) ⟨_, _, rfl⟩ (by decide) (As := [.int l2, .ref v73]) (rest := []) rfl rfl ⟨Nat.le_of_ble_eq_true rfl, Nat.le_of_ble_eq_true rfl⟩ (Nat.le_of_ble_eq_true rfl) (fun l D A => c_X10_makeSignedHead l D A e101) ?_
      refine ww_goto 104 182 X dX11_sign_104 (by decide) ?_
      exact ww_sub [0, 2, 4, 5, 6, 7] rfl (wB_X11_sign_182 X hQ h)
  · replace h := (if_pos q).symm.trans h
    refine ww_bipush 86 X (v := (-26 : Int32)) dX11_sign_86 (by decide) ?_
    exact ww_iretE 88 X hQ dX11_sign_88 h
set_option maxHeartbeats 4000000 in
set_option maxRecDepth 100000 in
theorem wB_X11_sign_15 {G : mG} {F : Nat} {x : mXT} {sz : Nat} {r0 : Int32} {M0 : mM} (X : mCX G RX11 cX11_sign 9 (some .int) "sign" rmX11_sign x) (hQ : mQI x r0 M0 (sz, 0, 0)) {l0 : Nat} {l1 : Int32} {l2 : Int32} {l3 : Int32} {l4 : Int32} {l5 : Int32} {sk0 : Int32} {M : mM} (h : B_X11_sign_15 G F l0 l1 l2 l3 l4 l5 sk0 M = some (r0, M0)) : WW x (sz, 0, 0) M 15 [(0, .ref l0), (1, .int l1), (2, .int l2), (3, .int l3), (4, .int l4), (5, .int l5)] [.int sk0] := by
  unfold B_X11_sign_15 at h
  refine ww_istore 15 X dX11_sign_15 (lv' := [(0, .ref l0), (1, .int l1), (2, .int l2), (3, .int l3), (4, .int l4), (5, .int l5), (6, .int sk0)]) (by decide) [1, 2, 3, 4, 5, 6, 0] rfl ?_
  refine ww_aload_n 17 X dX11_sign_17 0 rfl rfl ?_
  refine ww_iload_n 18 X dX11_sign_18 1 rfl rfl ?_
  obtain ⟨_, f19, h⟩ := bO_some h
  obtain ⟨v19, M19, e19, h⟩ := bP_some h
  refine ww_callVI0 19 X dX11_sign_19 mY_X11_isKey mL_X11_311 (rcv_spec f19) ⟨_, _, rfl⟩ (by decide) (As := [.int l1]) (rest := []) rfl rfl ⟨Nat.le_of_ble_eq_true rfl, Nat.le_of_ble_eq_true rfl⟩ (Nat.le_of_ble_eq_true rfl) (fun l D A => c_X11_isKey l D A e19) ?_
  refine ww_if_eq 22 65 X dX11_sign_22 (by decide) (fun q => ?_) (fun q => ?_)
  · replace h := (if_pos q).symm.trans h
    refine ww_bipush 65 X (v := (-2 : Int32)) dX11_sign_65 (by decide) ?_
    exact ww_iretE 67 X hQ dX11_sign_67 h
  · replace h := (if_neg q).symm.trans h
    refine ww_iload_n 25 X dX11_sign_25 2 rfl rfl ?_
    refine ww_if_lt 26 65 X dX11_sign_26 (by decide) (fun q => ?_) (fun q => ?_)
    · replace h := (if_pos q).symm.trans h
      refine ww_bipush 65 X (v := (-2 : Int32)) dX11_sign_65 (by decide) ?_
      exact ww_iretE 67 X hQ dX11_sign_67 h
    · replace h := (if_neg q).symm.trans h
      refine ww_iload_n 29 X dX11_sign_29 2 rfl rfl ?_
      refine ww_iconst 30 X (v := (5 : Int32)) dX11_sign_30 (by decide) ?_
      refine ww_icmp_ge 31 65 X dX11_sign_31 (by decide) (fun q => ?_) (fun q => ?_)
      · replace h := (if_pos q).symm.trans h
        refine ww_bipush 65 X (v := (-2 : Int32)) dX11_sign_65 (by decide) ?_
        exact ww_iretE 67 X hQ dX11_sign_67 h
      · replace h := (if_neg q).symm.trans h
        refine ww_aload_n 34 X dX11_sign_34 0 rfl rfl ?_
        refine ww_iload_n 35 X dX11_sign_35 3 rfl rfl ?_
        obtain ⟨_, f36, h⟩ := bO_some h
        obtain ⟨v36, M36, e36, h⟩ := bP_some h
        refine ww_callVI0 36 X dX11_sign_36 mY_X11_isRowOrNone mL_X11_337 (rcv_spec f36) ⟨_, _, rfl⟩ (by decide) (As := [.int l3]) (rest := []) rfl rfl ⟨Nat.le_of_ble_eq_true rfl, Nat.le_of_ble_eq_true rfl⟩ (Nat.le_of_ble_eq_true rfl) (fun l D A => c_X11_isRowOrNone l D A e36) ?_
        refine ww_if_eq 39 65 X dX11_sign_39 (by decide) (fun q => ?_) (fun q => ?_)
        · replace h := (if_pos q).symm.trans h
          refine ww_bipush 65 X (v := (-2 : Int32)) dX11_sign_65 (by decide) ?_
          exact ww_iretE 67 X hQ dX11_sign_67 h
        · replace h := (if_neg q).symm.trans h
          refine ww_aload_n 42 X dX11_sign_42 0 rfl rfl ?_
          refine ww_iload 43 X dX11_sign_43 4 rfl ?_
          obtain ⟨_, f45, h⟩ := bO_some h
          obtain ⟨v45, M45, e45, h⟩ := bP_some h
          refine ww_callVI0 45 X dX11_sign_45 mY_X11_isRow mL_X11_123 (rcv_spec f45) ⟨_, _, rfl⟩ (by decide) (As := [.int l4]) (rest := []) rfl rfl ⟨Nat.le_of_ble_eq_true rfl, Nat.le_of_ble_eq_true rfl⟩ (Nat.le_of_ble_eq_true rfl) (fun l D A => c_X11_isRow l D A e45) ?_
          refine ww_if_eq 48 65 X dX11_sign_48 (by decide) (fun q => ?_) (fun q => ?_)
          · replace h := (if_pos q).symm.trans h
            refine ww_bipush 65 X (v := (-2 : Int32)) dX11_sign_65 (by decide) ?_
            exact ww_iretE 67 X hQ dX11_sign_67 h
          · replace h := (if_neg q).symm.trans h
            refine ww_iload 51 X dX11_sign_51 6 rfl ?_
            refine ww_if_eq 53 68 X dX11_sign_53 (by decide) (fun q => ?_) (fun q => ?_)
            · replace h := (if_pos q).symm.trans h
              exact (wB_X11_sign_68 X hQ h)
            · replace h := (if_neg q).symm.trans h
              refine ww_aload_n 56 X dX11_sign_56 0 rfl rfl ?_
              refine ww_iload 57 X dX11_sign_57 5 rfl ?_
              obtain ⟨_, f59, h⟩ := bO_some h
              obtain ⟨v59, M59, e59, h⟩ := bP_some h
              refine ww_callVI0 59 X dX11_sign_59 mY_X11_isRow mL_X11_123 (rcv_spec f59) ⟨_, _, rfl⟩ (by decide) (As := [.int l5]) (rest := []) rfl rfl ⟨Nat.le_of_ble_eq_true rfl, Nat.le_of_ble_eq_true rfl⟩ (Nat.le_of_ble_eq_true rfl) (fun l D A => c_X11_isRow l D A e59) ?_
              refine ww_if_ne 62 68 X dX11_sign_62 (by decide) (fun q => ?_) (fun q => ?_)
              · replace h := (if_neg q).symm.trans h
                exact (wB_X11_sign_68 X hQ h)
              · replace h := (if_pos q).symm.trans h
                refine ww_bipush 65 X (v := (-2 : Int32)) dX11_sign_65 (by decide) ?_
                exact ww_iretE 67 X hQ dX11_sign_67 h
set_option maxHeartbeats 4000000 in
set_option maxRecDepth 100000 in
theorem wP_X11_sign {G : mG} {F : Nat} {x : mXT} {sz : Nat} {r0 : Int32} {M0 : mM} (X : mCX G RX11 cX11_sign 9 (some .int) "sign" rmX11_sign x) (hQ : mQI x r0 M0 (sz, 0, 0)) {l0 : Nat} {l1 : Int32} {l2 : Int32} {l3 : Int32} {l4 : Int32} {l5 : Int32} {M : mM} (h : P_X11_sign G F l0 l1 l2 l3 l4 l5 M = some (r0, M0)) : WW x (sz, 0, 0) M 0 [(0, .ref l0), (1, .int l1), (2, .int l2), (3, .int l3), (4, .int l4), (5, .int l5)] [] := by
  unfold P_X11_sign at h
  refine ww_iload_n 0 X dX11_sign_0 2 rfl rfl ?_
  refine ww_iconst 1 X (v := (3 : Int32)) dX11_sign_1 (by decide) ?_
  refine ww_icmp_eq 2 10 X dX11_sign_2 (by decide) (fun q => ?_) (fun q => ?_)
  · replace h := (if_pos q).symm.trans h
    refine ww_iconst 10 X (v := (1 : Int32)) dX11_sign_10 (by decide) ?_
    refine ww_goto 11 15 X dX11_sign_11 (by decide) ?_
    exact (wB_X11_sign_15 X hQ h)
  · replace h := (if_neg q).symm.trans h
    refine ww_iload_n 5 X dX11_sign_5 2 rfl rfl ?_
    refine ww_iconst 6 X (v := (4 : Int32)) dX11_sign_6 (by decide) ?_
    refine ww_icmp_ne 7 14 X dX11_sign_7 (by decide) (fun q => ?_) (fun q => ?_)
    · replace h := (if_neg q).symm.trans h
      refine ww_iconst 14 X (v := (0 : Int32)) dX11_sign_14 (by decide) ?_
      exact (wB_X11_sign_15 X hQ h)
    · replace h := (if_pos q).symm.trans h
      refine ww_iconst 10 X (v := (1 : Int32)) dX11_sign_10 (by decide) ?_
      refine ww_goto 11 15 X dX11_sign_11 (by decide) ?_
      exact (wB_X11_sign_15 X hQ h)
theorem c_X11_sign {G : mG} {F sz : Nat} {r0 : Int32} {M0 : mM} (l : Launch) (D : mD) (A : Nat → Prop) {l0 : Nat} {l1 : Int32} {l2 : Int32} {l3 : Int32} {l4 : Int32} {l5 : Int32} {M : mM} (h : P_X11_sign G F l0 l1 l2 l3 l4 l5 M = some (r0, M0)) : mMetI l D G A yX11_sign cX11_sign 9 (some .int) 9 219 0 0 [.ref l0, .int l1, .int l2, .int l3, .int l4, .int l5] M sz r0 M0 sz := mMetI_of l D G A (by decide) (Nat.le_of_ble_eq_true rfl) (fun x X hQ => wP_X11_sign X hQ h)
/-! SealedTokens.signatureIsRight(LSealedTokens$Key;)Z -/
theorem dX11_signatureIsRight_0 : decode cX11_signatureIsRight 0 = .ok (.aload_n 0, 1) := by decide +kernel
theorem dX11_signatureIsRight_1 : decode cX11_signatureIsRight 1 = .ok (.getfield 34, 3) := by decide +kernel
theorem dX11_signatureIsRight_4 : decode cX11_signatureIsRight 4 = .ok (.invokevirtual 131, 3) := by decide +kernel
theorem dX11_signatureIsRight_7 : decode cX11_signatureIsRight 7 = .ok (.aload_n 0, 1) := by decide +kernel
theorem dX11_signatureIsRight_8 : decode cX11_signatureIsRight 8 = .ok (.getfield 109, 3) := by decide +kernel
theorem dX11_signatureIsRight_11 : decode cX11_signatureIsRight 11 = .ok (.getfield 351, 3) := by decide +kernel
theorem dX11_signatureIsRight_14 : decode cX11_signatureIsRight 14 = .ok (.ifCond .eq 14, 3) := by decide +kernel
theorem dX11_signatureIsRight_17 : decode cX11_signatureIsRight 17 = .ok (.aload_n 0, 1) := by decide +kernel
theorem dX11_signatureIsRight_18 : decode cX11_signatureIsRight 18 = .ok (.getfield 109, 3) := by decide +kernel
theorem dX11_signatureIsRight_21 : decode cX11_signatureIsRight 21 = .ok (.getfield 351, 3) := by decide +kernel
theorem dX11_signatureIsRight_24 : decode cX11_signatureIsRight 24 = .ok (.iconst 1, 1) := by decide +kernel
theorem dX11_signatureIsRight_25 : decode cX11_signatureIsRight 25 = .ok (.if_icmp .ne 31, 3) := by decide +kernel
theorem dX11_signatureIsRight_28 : decode cX11_signatureIsRight 28 = .ok (.aload_n 0, 1) := by decide +kernel
theorem dX11_signatureIsRight_29 : decode cX11_signatureIsRight 29 = .ok (.aload_n 1, 1) := by decide +kernel
theorem dX11_signatureIsRight_30 : decode cX11_signatureIsRight 30 = .ok (.aload_n 0, 1) := by decide +kernel
theorem dX11_signatureIsRight_31 : decode cX11_signatureIsRight 31 = .ok (.getfield 109, 3) := by decide +kernel
theorem dX11_signatureIsRight_34 : decode cX11_signatureIsRight 34 = .ok (.getfield 351, 3) := by decide +kernel
theorem dX11_signatureIsRight_37 : decode cX11_signatureIsRight 37 = .ok (.aload_n 0, 1) := by decide +kernel
theorem dX11_signatureIsRight_38 : decode cX11_signatureIsRight 38 = .ok (.getfield 34, 3) := by decide +kernel
theorem dX11_signatureIsRight_41 : decode cX11_signatureIsRight 41 = .ok (.invokevirtual 500, 3) := by decide +kernel
theorem dX11_signatureIsRight_44 : decode cX11_signatureIsRight 44 = .ok (.aload_n 0, 1) := by decide +kernel
theorem dX11_signatureIsRight_45 : decode cX11_signatureIsRight 45 = .ok (.getfield 34, 3) := by decide +kernel
theorem dX11_signatureIsRight_48 : decode cX11_signatureIsRight 48 = .ok (.aload_n 0, 1) := by decide +kernel
theorem dX11_signatureIsRight_49 : decode cX11_signatureIsRight 49 = .ok (.getfield 31, 3) := by decide +kernel
theorem dX11_signatureIsRight_52 : decode cX11_signatureIsRight 52 = .ok (.invokevirtual 518, 3) := by decide +kernel
theorem dX11_signatureIsRight_55 : decode cX11_signatureIsRight 55 = .ok (.ireturn, 1) := by decide +kernel
theorem dX11_signatureIsRight_56 : decode cX11_signatureIsRight 56 = .ok (.aload_n 0, 1) := by decide +kernel
theorem dX11_signatureIsRight_57 : decode cX11_signatureIsRight 57 = .ok (.aload_n 0, 1) := by decide +kernel
theorem dX11_signatureIsRight_58 : decode cX11_signatureIsRight 58 = .ok (.getfield 34, 3) := by decide +kernel
theorem dX11_signatureIsRight_61 : decode cX11_signatureIsRight 61 = .ok (.invokevirtual 504, 3) := by decide +kernel
theorem dX11_signatureIsRight_64 : decode cX11_signatureIsRight 64 = .ok (.aload_n 0, 1) := by decide +kernel
theorem dX11_signatureIsRight_65 : decode cX11_signatureIsRight 65 = .ok (.getfield 109, 3) := by decide +kernel
theorem dX11_signatureIsRight_68 : decode cX11_signatureIsRight 68 = .ok (.getfield 351, 3) := by decide +kernel
theorem dX11_signatureIsRight_71 : decode cX11_signatureIsRight 71 = .ok (.lookupswitch 73 #[(2, 25), (3, 49)], 25) := by decide +kernel
theorem dX11_signatureIsRight_96 : decode cX11_signatureIsRight 96 = .ok (.aload_n 0, 1) := by decide +kernel
theorem dX11_signatureIsRight_97 : decode cX11_signatureIsRight 97 = .ok (.getfield 95, 3) := by decide +kernel
theorem dX11_signatureIsRight_100 : decode cX11_signatureIsRight 100 = .ok (.aload_n 0, 1) := by decide +kernel
theorem dX11_signatureIsRight_101 : decode cX11_signatureIsRight 101 = .ok (.getfield 34, 3) := by decide +kernel
theorem dX11_signatureIsRight_104 : decode cX11_signatureIsRight 104 = .ok (.aload_n 0, 1) := by decide +kernel
theorem dX11_signatureIsRight_105 : decode cX11_signatureIsRight 105 = .ok (.getfield 31, 3) := by decide +kernel
theorem dX11_signatureIsRight_108 : decode cX11_signatureIsRight 108 = .ok (.aload_n 1, 1) := by decide +kernel
theorem dX11_signatureIsRight_109 : decode cX11_signatureIsRight 109 = .ok (.getfield 456, 3) := by decide +kernel
theorem dX11_signatureIsRight_112 : decode cX11_signatureIsRight 112 = .ok (.aload_n 1, 1) := by decide +kernel
theorem dX11_signatureIsRight_113 : decode cX11_signatureIsRight 113 = .ok (.getfield 316, 3) := by decide +kernel
theorem dX11_signatureIsRight_116 : decode cX11_signatureIsRight 116 = .ok (.invokevirtual 521, 3) := by decide +kernel
theorem dX11_signatureIsRight_119 : decode cX11_signatureIsRight 119 = .ok (.ireturn, 1) := by decide +kernel
theorem dX11_signatureIsRight_120 : decode cX11_signatureIsRight 120 = .ok (.aload_n 0, 1) := by decide +kernel
theorem dX11_signatureIsRight_121 : decode cX11_signatureIsRight 121 = .ok (.getfield 95, 3) := by decide +kernel
theorem dX11_signatureIsRight_124 : decode cX11_signatureIsRight 124 = .ok (.aload_n 0, 1) := by decide +kernel
theorem dX11_signatureIsRight_125 : decode cX11_signatureIsRight 125 = .ok (.getfield 34, 3) := by decide +kernel
theorem dX11_signatureIsRight_128 : decode cX11_signatureIsRight 128 = .ok (.aload_n 0, 1) := by decide +kernel
theorem dX11_signatureIsRight_129 : decode cX11_signatureIsRight 129 = .ok (.getfield 31, 3) := by decide +kernel
theorem dX11_signatureIsRight_132 : decode cX11_signatureIsRight 132 = .ok (.aload_n 1, 1) := by decide +kernel
theorem dX11_signatureIsRight_133 : decode cX11_signatureIsRight 133 = .ok (.getfield 456, 3) := by decide +kernel
theorem dX11_signatureIsRight_136 : decode cX11_signatureIsRight 136 = .ok (.aload_n 1, 1) := by decide +kernel
theorem dX11_signatureIsRight_137 : decode cX11_signatureIsRight 137 = .ok (.getfield 316, 3) := by decide +kernel
theorem dX11_signatureIsRight_140 : decode cX11_signatureIsRight 140 = .ok (.invokevirtual 524, 3) := by decide +kernel
theorem dX11_signatureIsRight_143 : decode cX11_signatureIsRight 143 = .ok (.ireturn, 1) := by decide +kernel
theorem dX11_signatureIsRight_144 : decode cX11_signatureIsRight 144 = .ok (.aload_n 0, 1) := by decide +kernel
theorem dX11_signatureIsRight_145 : decode cX11_signatureIsRight 145 = .ok (.getfield 102, 3) := by decide +kernel
theorem dX11_signatureIsRight_148 : decode cX11_signatureIsRight 148 = .ok (.aload_n 0, 1) := by decide +kernel
theorem dX11_signatureIsRight_149 : decode cX11_signatureIsRight 149 = .ok (.getfield 34, 3) := by decide +kernel
theorem dX11_signatureIsRight_152 : decode cX11_signatureIsRight 152 = .ok (.aload_n 0, 1) := by decide +kernel
theorem dX11_signatureIsRight_153 : decode cX11_signatureIsRight 153 = .ok (.getfield 31, 3) := by decide +kernel
theorem dX11_signatureIsRight_156 : decode cX11_signatureIsRight 156 = .ok (.aload_n 1, 1) := by decide +kernel
theorem dX11_signatureIsRight_157 : decode cX11_signatureIsRight 157 = .ok (.getfield 316, 3) := by decide +kernel
theorem dX11_signatureIsRight_160 : decode cX11_signatureIsRight 160 = .ok (.invokevirtual 527, 3) := by decide +kernel
theorem dX11_signatureIsRight_163 : decode cX11_signatureIsRight 163 = .ok (.ireturn, 1) := by decide +kernel
abbrev rmX11_signatureIsRight : Room := { frames := 6, cells := 0, slots := 0, locals := 199 }
set_option maxHeartbeats 4000000 in
set_option maxRecDepth 100000 in
theorem wB_X11_signatureIsRight_28 {G : mG} {F : Nat} {x : mXT} {sz : Nat} {r0 : Int32} {M0 : mM} (X : mCX G RX11 cX11_signatureIsRight 2 (some .boolean) "signatureIsRight" rmX11_signatureIsRight x) (hQ : mQI x r0 M0 (sz, 0, 0)) {l0 : Nat} {l1 : Nat} {M : mM} (h : B_X11_signatureIsRight_28 G F l0 l1 M = some (r0, M0)) : WW x (sz, 0, 0) M 28 [(0, .ref l0), (1, .ref l1)] [] := by
  unfold B_X11_signatureIsRight_28 at h
  refine ww_aload_n 28 X dX11_signatureIsRight_28 0 rfl rfl ?_
  refine ww_aload_n 29 X dX11_signatureIsRight_29 1 rfl rfl ?_
  refine ww_aload_n 30 X dX11_signatureIsRight_30 0 rfl rfl ?_
  obtain ⟨v31, e31, h⟩ := bO_some h
  refine ww_getR 31 X dX11_signatureIsRight_31 fG_X11_109 e31 ?_
  obtain ⟨v34, e34, h⟩ := bO_some h
  refine ww_getI 34 X dX11_signatureIsRight_34 fG_X11_351 e34 ?_
  refine ww_aload_n 37 X dX11_signatureIsRight_37 0 rfl rfl ?_
  obtain ⟨v38, e38, h⟩ := bO_some h
  refine ww_getR 38 X dX11_signatureIsRight_38 fG_X11_34 e38 ?_
  obtain ⟨_, f41, h⟩ := bO_some h
  obtain ⟨M41, e41, h⟩ := bO_some h
  refine ww_callVV0 41 X dX11_signatureIsRight_41 mY_X11_codeWork mL_X11_500 (rcv_spec f41) ⟨_, _, rfl⟩ (by decide) (As := [.ref l1, .int v34, .ref v38]) (rest := []) rfl rfl ⟨Nat.le_of_ble_eq_true rfl, Nat.le_of_ble_eq_true rfl⟩ (Nat.le_of_ble_eq_true rfl) (fun l D A => c_X11_codeWork l D A e41) ?_
  refine ww_aload_n 44 X dX11_signatureIsRight_44 0 rfl rfl ?_
  obtain ⟨v45, e45, h⟩ := bO_some h
  refine ww_getR 45 X dX11_signatureIsRight_45 fG_X11_34 e45 ?_
  refine ww_aload_n 48 X dX11_signatureIsRight_48 0 rfl rfl ?_
  obtain ⟨v49, e49, h⟩ := bO_some h
  refine ww_getR 49 X dX11_signatureIsRight_49 fG_X11_31 e49 ?_
  obtain ⟨_, f52, h⟩ := bO_some h
  obtain ⟨v52, M52, e52, h⟩ := bP_some h
  refine ww_callVI0 52 X dX11_signatureIsRight_52 mY_X0_same mL_X11_518 (rcv_spec f52) ⟨_, _, rfl⟩ (by decide) (As := [.ref v49]) (rest := []) rfl rfl ⟨Nat.le_of_ble_eq_true rfl, Nat.le_of_ble_eq_true rfl⟩ (Nat.le_of_ble_eq_true rfl) (fun l D A => c_X0_same l D A e52) ?_
  exact ww_zretE 55 X hQ dX11_signatureIsRight_55 h
set_option maxHeartbeats 4000000 in
set_option maxRecDepth 100000 in
theorem wP_X11_signatureIsRight {G : mG} {F : Nat} {x : mXT} {sz : Nat} {r0 : Int32} {M0 : mM} (X : mCX G RX11 cX11_signatureIsRight 2 (some .boolean) "signatureIsRight" rmX11_signatureIsRight x) (hQ : mQI x r0 M0 (sz, 0, 0)) {l0 : Nat} {l1 : Nat} {M : mM} (h : P_X11_signatureIsRight G F l0 l1 M = some (r0, M0)) : WW x (sz, 0, 0) M 0 [(0, .ref l0), (1, .ref l1)] [] := by
  unfold P_X11_signatureIsRight at h
  refine ww_aload_n 0 X dX11_signatureIsRight_0 0 rfl rfl ?_
  obtain ⟨v1, e1, h⟩ := bO_some h
  refine ww_getR 1 X dX11_signatureIsRight_1 fG_X11_34 e1 ?_
  obtain ⟨_, f4, h⟩ := bO_some h
  obtain ⟨M4, e4, h⟩ := bO_some h
  refine ww_callVV0 4 X dX11_signatureIsRight_4 mY_X0_clear mL_X11_131 (rcv_spec f4) ⟨_, _, rfl⟩ (by decide) (As := []) (rest := []) rfl rfl ⟨Nat.le_of_ble_eq_true rfl, Nat.le_of_ble_eq_true rfl⟩ (Nat.le_of_ble_eq_true rfl) (fun l D A => c_X0_clear l D A e4) ?_
  refine ww_aload_n 7 X dX11_signatureIsRight_7 0 rfl rfl ?_
  obtain ⟨v8, e8, h⟩ := bO_some h
  refine ww_getR 8 X dX11_signatureIsRight_8 fG_X11_109 e8 ?_
  obtain ⟨v11, e11, h⟩ := bO_some h
  refine ww_getI 11 X dX11_signatureIsRight_11 fG_X11_351 e11 ?_
  refine ww_if_eq 14 28 X dX11_signatureIsRight_14 (by decide) (fun q => ?_) (fun q => ?_)
  · replace h := (if_pos q).symm.trans h
    exact (wB_X11_signatureIsRight_28 X hQ h)
  · replace h := (if_neg q).symm.trans h
    refine ww_aload_n 17 X dX11_signatureIsRight_17 0 rfl rfl ?_
    obtain ⟨v18, e18, h⟩ := bO_some h
    refine ww_getR 18 X dX11_signatureIsRight_18 fG_X11_109 e18 ?_
    obtain ⟨v21, e21, h⟩ := bO_some h
    refine ww_getI 21 X dX11_signatureIsRight_21 fG_X11_351 e21 ?_
    refine ww_iconst 24 X (v := (1 : Int32)) dX11_signatureIsRight_24 (by decide) ?_
    refine ww_icmp_ne 25 56 X dX11_signatureIsRight_25 (by decide) (fun q => ?_) (fun q => ?_)
    · replace h := (if_neg q).symm.trans h
      refine ww_aload_n 56 X dX11_signatureIsRight_56 0 rfl rfl ?_
      refine ww_aload_n 57 X dX11_signatureIsRight_57 0 rfl rfl ?_
      obtain ⟨v58, e58, h⟩ := bO_some h
      refine ww_getR 58 X dX11_signatureIsRight_58 fG_X11_34 e58 ?_
      obtain ⟨_, f61, h⟩ := bO_some h
      obtain ⟨M61, e61, h⟩ := bO_some h
      refine ww_callVV0 61 X dX11_signatureIsRight_61 mY_X11_hashWork mL_X11_504 (rcv_spec f61) ⟨_, _, rfl⟩ (by decide) (As := [.ref v58]) (rest := []) rfl rfl ⟨Nat.le_of_ble_eq_true rfl, Nat.le_of_ble_eq_true rfl⟩ (Nat.le_of_ble_eq_true rfl) (fun l D A => c_X11_hashWork l D A e61) ?_
      refine ww_aload_n 64 X dX11_signatureIsRight_64 0 rfl rfl ?_
      obtain ⟨v65, e65, h⟩ := bO_some h
      refine ww_getR 65 X dX11_signatureIsRight_65 fG_X11_109 e65 ?_
      obtain ⟨v68, e68, h⟩ := bO_some h
      refine ww_getI 68 X dX11_signatureIsRight_68 fG_X11_351 e68 ?_
      by_cases q2 : v68 = (2 : Int32)
      · replace h := (if_pos q2).symm.trans h
        refine ww_lookup 71 96 X dX11_signatureIsRight_71 (off := 25) (by decide) (by rw [q2]; decide) (by decide) ?_
        refine ww_aload_n 96 X dX11_signatureIsRight_96 0 rfl rfl ?_
        obtain ⟨v97, e97, h⟩ := bO_some h
        refine ww_getR 97 X dX11_signatureIsRight_97 fG_X11_95 e97 ?_
        refine ww_aload_n 100 X dX11_signatureIsRight_100 0 rfl rfl ?_
        obtain ⟨v101, e101, h⟩ := bO_some h
        refine ww_getR 101 X dX11_signatureIsRight_101 fG_X11_34 e101 ?_
        refine ww_aload_n 104 X dX11_signatureIsRight_104 0 rfl rfl ?_
        obtain ⟨v105, e105, h⟩ := bO_some h
        refine ww_getR 105 X dX11_signatureIsRight_105 fG_X11_31 e105 ?_
        refine ww_aload_n 108 X dX11_signatureIsRight_108 1 rfl rfl ?_
        obtain ⟨v109, e109, h⟩ := bO_some h
        refine ww_getR 109 X dX11_signatureIsRight_109 fG_X11_456 e109 ?_
        refine ww_aload_n 112 X dX11_signatureIsRight_112 1 rfl rfl ?_
        obtain ⟨v113, e113, h⟩ := bO_some h
        refine ww_getR 113 X dX11_signatureIsRight_113 fG_X11_316 e113 ?_
        obtain ⟨_, f116, h⟩ := bO_some h
        obtain ⟨v116, M116, e116, h⟩ := bP_some h
        refine ww_callVI0 116 X dX11_signatureIsRight_116 mY_X8_isPkcsRight mL_X11_521 (rcv_spec f116) ⟨_, _, rfl⟩ (by decide) (As := [.ref v101, .ref v105, .ref v109, .ref v113]) (rest := []) rfl rfl ⟨Nat.le_of_ble_eq_true rfl, Nat.le_of_ble_eq_true rfl⟩ (Nat.le_of_ble_eq_true rfl) (fun l D A => c_X8_isPkcsRight l D A e116) ?_
        exact ww_zretE 119 X hQ dX11_signatureIsRight_119 h
      · replace h := (if_neg q2).symm.trans h
        by_cases q3 : v68 = (3 : Int32)
        · replace h := (if_pos q3).symm.trans h
          refine ww_lookup 71 120 X dX11_signatureIsRight_71 (off := 49) (by decide) (by rw [q3]; decide) (by decide) ?_
          refine ww_aload_n 120 X dX11_signatureIsRight_120 0 rfl rfl ?_
          obtain ⟨v121, e121, h⟩ := bO_some h
          refine ww_getR 121 X dX11_signatureIsRight_121 fG_X11_95 e121 ?_
          refine ww_aload_n 124 X dX11_signatureIsRight_124 0 rfl rfl ?_
          obtain ⟨v125, e125, h⟩ := bO_some h
          refine ww_getR 125 X dX11_signatureIsRight_125 fG_X11_34 e125 ?_
          refine ww_aload_n 128 X dX11_signatureIsRight_128 0 rfl rfl ?_
          obtain ⟨v129, e129, h⟩ := bO_some h
          refine ww_getR 129 X dX11_signatureIsRight_129 fG_X11_31 e129 ?_
          refine ww_aload_n 132 X dX11_signatureIsRight_132 1 rfl rfl ?_
          obtain ⟨v133, e133, h⟩ := bO_some h
          refine ww_getR 133 X dX11_signatureIsRight_133 fG_X11_456 e133 ?_
          refine ww_aload_n 136 X dX11_signatureIsRight_136 1 rfl rfl ?_
          obtain ⟨v137, e137, h⟩ := bO_some h
          refine ww_getR 137 X dX11_signatureIsRight_137 fG_X11_316 e137 ?_
          obtain ⟨_, f140, h⟩ := bO_some h
          obtain ⟨v140, M140, e140, h⟩ := bP_some h
          refine ww_callVI0 140 X dX11_signatureIsRight_140 mY_X8_isPssRight mL_X11_524 (rcv_spec f140) ⟨_, _, rfl⟩ (by decide) (As := [.ref v125, .ref v129, .ref v133, .ref v137]) (rest := []) rfl rfl ⟨Nat.le_of_ble_eq_true rfl, Nat.le_of_ble_eq_true rfl⟩ (Nat.le_of_ble_eq_true rfl) (fun l D A => c_X8_isPssRight l D A e140) ?_
          exact ww_zretE 143 X hQ dX11_signatureIsRight_143 h
        · replace h := (if_neg q3).symm.trans h
          refine ww_lookup 71 144 X dX11_signatureIsRight_71 (off := 73) (by decide) (by show Op.lookupswitch.offset [(2, 25), (3, 49)] 73 _ = _; rw [lv_osw q2 (show (2 : Int32).toInt = 2 by decide), lv_osw q3 (show (3 : Int32).toInt = 3 by decide)]; rfl) (by decide) ?_
          refine ww_aload_n 144 X dX11_signatureIsRight_144 0 rfl rfl ?_
          obtain ⟨v145, e145, h⟩ := bO_some h
          refine ww_getR 145 X dX11_signatureIsRight_145 fG_X11_102 e145 ?_
          refine ww_aload_n 148 X dX11_signatureIsRight_148 0 rfl rfl ?_
          obtain ⟨v149, e149, h⟩ := bO_some h
          refine ww_getR 149 X dX11_signatureIsRight_149 fG_X11_34 e149 ?_
          refine ww_aload_n 152 X dX11_signatureIsRight_152 0 rfl rfl ?_
          obtain ⟨v153, e153, h⟩ := bO_some h
          refine ww_getR 153 X dX11_signatureIsRight_153 fG_X11_31 e153 ?_
          refine ww_aload_n 156 X dX11_signatureIsRight_156 1 rfl rfl ?_
          obtain ⟨v157, e157, h⟩ := bO_some h
          refine ww_getR 157 X dX11_signatureIsRight_157 fG_X11_316 e157 ?_
          obtain ⟨_, f160, h⟩ := bO_some h
          obtain ⟨v160, M160, e160, h⟩ := bP_some h
          refine ww_callVI0 160 X dX11_signatureIsRight_160 mY_X3_isSignatureRight mL_X11_527 (rcv_spec f160) ⟨_, _, rfl⟩ (by decide) (As := [.ref v149, .ref v153, .ref v157]) (rest := []) rfl rfl ⟨Nat.le_of_ble_eq_true rfl, Nat.le_of_ble_eq_true rfl⟩ (Nat.le_of_ble_eq_true rfl) (fun l D A => c_X3_isSignatureRight l D A e160) ?_
          exact ww_zretE 163 X hQ dX11_signatureIsRight_163 h
    · replace h := (if_pos q).symm.trans h
      exact (wB_X11_signatureIsRight_28 X hQ h)
theorem c_X11_signatureIsRight {G : mG} {F sz : Nat} {r0 : Int32} {M0 : mM} (l : Launch) (D : mD) (A : Nat → Prop) {l0 : Nat} {l1 : Nat} {M : mM} (h : P_X11_signatureIsRight G F l0 l1 M = some (r0, M0)) : mMetI l D G A yX11_signatureIsRight cX11_signatureIsRight 2 (some .boolean) 6 199 0 0 [.ref l0, .ref l1] M sz r0 M0 sz := mMetI_of l D G A (by decide) (Nat.le_of_ble_eq_true rfl) (fun x X hQ => wP_X11_signatureIsRight X hQ h)
