/-! SealedTokens.showPayload(LSealedTokens$Bytes;)V -/
theorem dX11_showPayload_0 : decode cX11_showPayload 0 = .ok (.aload_n 0, 1) := by decide +kernel
theorem dX11_showPayload_1 : decode cX11_showPayload 1 = .ok (.getfield 109, 3) := by decide +kernel
theorem dX11_showPayload_4 : decode cX11_showPayload 4 = .ok (.getfield 355, 3) := by decide +kernel
theorem dX11_showPayload_7 : decode cX11_showPayload 7 = .ok (.ifCond .eq 37, 3) := by decide +kernel
theorem dX11_showPayload_10 : decode cX11_showPayload 10 = .ok (.aload_n 0, 1) := by decide +kernel
theorem dX11_showPayload_11 : decode cX11_showPayload 11 = .ok (.aload_n 1, 1) := by decide +kernel
theorem dX11_showPayload_12 : decode cX11_showPayload 12 = .ok (.aload_n 0, 1) := by decide +kernel
theorem dX11_showPayload_13 : decode cX11_showPayload 13 = .ok (.getfield 109, 3) := by decide +kernel
theorem dX11_showPayload_16 : decode cX11_showPayload 16 = .ok (.iconst 1, 1) := by decide +kernel
theorem dX11_showPayload_17 : decode cX11_showPayload 17 = .ok (.invokevirtual 497, 3) := by decide +kernel
theorem dX11_showPayload_20 : decode cX11_showPayload 20 = .ok (.aload_n 0, 1) := by decide +kernel
theorem dX11_showPayload_21 : decode cX11_showPayload 21 = .ok (.getfield 109, 3) := by decide +kernel
theorem dX11_showPayload_24 : decode cX11_showPayload 24 = .ok (.iconst 1, 1) := by decide +kernel
theorem dX11_showPayload_25 : decode cX11_showPayload 25 = .ok (.invokevirtual 382, 3) := by decide +kernel
theorem dX11_showPayload_28 : decode cX11_showPayload 28 = .ok (.aload_n 0, 1) := by decide +kernel
theorem dX11_showPayload_29 : decode cX11_showPayload 29 = .ok (.getfield 109, 3) := by decide +kernel
theorem dX11_showPayload_32 : decode cX11_showPayload 32 = .ok (.iconst 1, 1) := by decide +kernel
theorem dX11_showPayload_33 : decode cX11_showPayload 33 = .ok (.invokevirtual 497, 3) := by decide +kernel
theorem dX11_showPayload_36 : decode cX11_showPayload 36 = .ok (.isub, 1) := by decide +kernel
theorem dX11_showPayload_37 : decode cX11_showPayload 37 = .ok (.invokevirtual 176, 3) := by decide +kernel
theorem dX11_showPayload_40 : decode cX11_showPayload 40 = .ok (.pop, 1) := by decide +kernel
theorem dX11_showPayload_41 : decode cX11_showPayload 41 = .ok (.goto 16, 3) := by decide +kernel
theorem dX11_showPayload_44 : decode cX11_showPayload 44 = .ok (.aload_n 0, 1) := by decide +kernel
theorem dX11_showPayload_45 : decode cX11_showPayload 45 = .ok (.getfield 109, 3) := by decide +kernel
theorem dX11_showPayload_48 : decode cX11_showPayload 48 = .ok (.aload_n 1, 1) := by decide +kernel
theorem dX11_showPayload_49 : decode cX11_showPayload 49 = .ok (.iconst 1, 1) := by decide +kernel
theorem dX11_showPayload_50 : decode cX11_showPayload 50 = .ok (.aload_n 0, 1) := by decide +kernel
theorem dX11_showPayload_51 : decode cX11_showPayload 51 = .ok (.getfield 22, 3) := by decide +kernel
theorem dX11_showPayload_54 : decode cX11_showPayload 54 = .ok (.invokevirtual 378, 3) := by decide +kernel
theorem dX11_showPayload_57 : decode cX11_showPayload 57 = .ok (.return_, 1) := by decide +kernel
abbrev rmX11_showPayload : Room := { frames := 3, cells := 0, slots := 0, locals := 107 }
def P_X11_showPayload (G : Nat → Nat) (F : Nat) (l0 : Nat) (l1 : Nat) (M : mM) : Option mM :=
  bO (gfR M l0 11 17) fun v1 =>
  bO (gfI M v1 10 3) fun v4 =>
  if v4 = 0 then (bO (gfR M l0 11 17) fun v45 =>
  bO (gfR M l0 11 2) fun v51 =>
  bO (rcv M v45 10) fun _ =>
  bO (P_X10_readPart G F v45 l1 (1 : Int32) v51 M) fun M54 =>
  some M54)
  else (bO (gfR M l0 11 17) fun v13 =>
  bO (rcv M v13 10) fun _ =>
  bP (P_X10_partStart G F v13 (1 : Int32) M) fun v17 M17 =>
  bO (gfR M17 l0 11 17) fun v21 =>
  bO (rcv M17 v21 10) fun _ =>
  bP (P_X10_partEnd G F v21 (1 : Int32) M17) fun v25 M25 =>
  bO (gfR M25 l0 11 17) fun v29 =>
  bO (rcv M25 v29 10) fun _ =>
  bP (P_X10_partStart G F v29 (1 : Int32) M25) fun v33 M33 =>
  bO (rcv M33 l0 11) fun _ =>
  bP (P_X11_show G F l0 l1 v17 (v25 - v33) M33) fun v37 M37 =>
  some M37)
set_option maxHeartbeats 4000000 in
set_option maxRecDepth 100000 in
theorem wP_X11_showPayload {G : Nat → Nat} {F : Nat} {x : mXT} {sz : Nat} {M0 : mM} (X : mCX G RX11 cX11_showPayload 2 none "showPayload" rmX11_showPayload x) (hQ : mQV x M0 (sz, 0, 0)) {l0 : Nat} {l1 : Nat} {M : mM} (h : P_X11_showPayload G F l0 l1 M = some M0) : WW x (sz, 0, 0) M 0 [(0, .ref l0), (1, .ref l1)] [] := by
  unfold P_X11_showPayload at h
  refine ww_aload_n 0 X dX11_showPayload_0 0 rfl rfl ?_
  obtain ⟨v1, e1, h⟩ := bO_some h
  refine ww_getR 1 X dX11_showPayload_1 fG_X11_109 e1 ?_
  obtain ⟨v4, e4, h⟩ := bO_some h
  refine ww_getI 4 X dX11_showPayload_4 fG_X11_355 e4 ?_
  refine ww_if_eq 7 44 X dX11_showPayload_7 (by decide) (fun q => ?_) (fun q => ?_)
  · replace h := (if_pos q).symm.trans h
    refine ww_aload_n 44 X dX11_showPayload_44 0 rfl rfl ?_
    obtain ⟨v45, e45, h⟩ := bO_some h
    refine ww_getR 45 X dX11_showPayload_45 fG_X11_109 e45 ?_
    refine ww_aload_n 48 X dX11_showPayload_48 1 rfl rfl ?_
    refine ww_iconst 49 X (v := (1 : Int32)) dX11_showPayload_49 (by decide) ?_
    refine ww_aload_n 50 X dX11_showPayload_50 0 rfl rfl ?_
    obtain ⟨v51, e51, h⟩ := bO_some h
    refine ww_getR 51 X dX11_showPayload_51 fG_X11_22 e51 ?_
    obtain ⟨_, f54, h⟩ := bO_some h
    obtain ⟨M54, e54, h⟩ := bO_some h
    refine ww_callVV0 54 X dX11_showPayload_54 mY_X10_readPart mL_X11_378 (rcv_spec f54) ⟨_, _, rfl⟩ (by decide) (As := [.ref l1, .int (1 : Int32), .ref v51]) (rest := []) rfl rfl ⟨Nat.le_of_ble_eq_true rfl, Nat.le_of_ble_eq_true rfl⟩ (Nat.le_of_ble_eq_true rfl) (fun l D A => c_X10_readPart l D A e54) ?_
    exact ww_vretE 57 X hQ dX11_showPayload_57 h
  · replace h := (if_neg q).symm.trans h
    refine ww_aload_n 10 X dX11_showPayload_10 0 rfl rfl ?_
    refine ww_aload_n 11 X dX11_showPayload_11 1 rfl rfl ?_
    refine ww_aload_n 12 X dX11_showPayload_12 0 rfl rfl ?_
    obtain ⟨v13, e13, h⟩ := bO_some h
    refine ww_getR 13 X dX11_showPayload_13 fG_X11_109 e13 ?_
    refine ww_iconst 16 X (v := (1 : Int32)) dX11_showPayload_16 (by decide) ?_
    obtain ⟨_, f17, h⟩ := bO_some h
    obtain ⟨v17, M17, e17, h⟩ := bP_some h
    refine ww_callVI0 17 X dX11_showPayload_17 mY_X10_partStart mL_X11_497 (rcv_spec f17) ⟨_, _, rfl⟩ (by decide) (As := [.int (1 : Int32)]) (rest := [.ref l1, .ref l0]) rfl rfl ⟨Nat.le_of_ble_eq_true rfl, Nat.le_of_ble_eq_true rfl⟩ (Nat.le_of_ble_eq_true rfl) (fun l D A => c_X10_partStart l D A e17) ?_
    refine ww_aload_n 20 X dX11_showPayload_20 0 rfl rfl ?_
    obtain ⟨v21, e21, h⟩ := bO_some h
    refine ww_getR 21 X dX11_showPayload_21 fG_X11_109 e21 ?_
    refine ww_iconst 24 X (v := (1 : Int32)) dX11_showPayload_24 (by decide) ?_
    obtain ⟨_, f25, h⟩ := bO_some h
    obtain ⟨v25, M25, e25, h⟩ := bP_some h
    refine ww_callVI0 25 X dX11_showPayload_25 mY_X10_partEnd mL_X11_382 (rcv_spec f25) ⟨_, _, rfl⟩ (by decide) (As := [.int (1 : Int32)]) (rest := [.int v17, .ref l1, .ref l0]) rfl rfl ⟨Nat.le_of_ble_eq_true rfl, Nat.le_of_ble_eq_true rfl⟩ (Nat.le_of_ble_eq_true rfl) (fun l D A => c_X10_partEnd l D A e25) ?_
    refine ww_aload_n 28 X dX11_showPayload_28 0 rfl rfl ?_
    obtain ⟨v29, e29, h⟩ := bO_some h
    refine ww_getR 29 X dX11_showPayload_29 fG_X11_109 e29 ?_
    refine ww_iconst 32 X (v := (1 : Int32)) dX11_showPayload_32 (by decide) ?_
    obtain ⟨_, f33, h⟩ := bO_some h
    obtain ⟨v33, M33, e33, h⟩ := bP_some h
    refine ww_callVI0 33 X dX11_showPayload_33 mY_X10_partStart mL_X11_497 (rcv_spec f33) ⟨_, _, rfl⟩ (by decide) (As := [.int (1 : Int32)]) (rest := [.int v25, .int v17, .ref l1, .ref l0]) rfl rfl ⟨Nat.le_of_ble_eq_true rfl, Nat.le_of_ble_eq_true rfl⟩ (Nat.le_of_ble_eq_true rfl) (fun l D A => c_X10_partStart l D A e33) ?_
    refine ww_isub 36 X dX11_showPayload_36 ?_
    obtain ⟨_, f37, h⟩ := bO_some h
    obtain ⟨v37, M37, e37, h⟩ := bP_some h
    refine ww_callVI0 37 X dX11_showPayload_37 mY_X11_show mL_X11_176 (rcv_spec f37) ⟨_, _, rfl⟩ (by decide) (As := [.ref l1, .int v17, .int (v25 - v33)]) (rest := []) rfl rfl ⟨Nat.le_of_ble_eq_true rfl, Nat.le_of_ble_eq_true rfl⟩ (Nat.le_of_ble_eq_true rfl) (fun l D A => c_X11_show l D A e37) ?_
    refine ww_pop 40 X dX11_showPayload_40 rfl ?_
    refine ww_goto 41 57 X dX11_showPayload_41 (by decide) ?_
    exact ww_vretE 57 X hQ dX11_showPayload_57 h
theorem c_X11_showPayload {G : Nat → Nat} {F sz : Nat} {M0 : mM} (l : Launch) (D : mD) (A : Nat → Prop) {l0 : Nat} {l1 : Nat} {M : mM} (h : P_X11_showPayload G F l0 l1 M = some M0) : mMetV l D G A yX11_showPayload cX11_showPayload 2 none 3 107 0 0 [.ref l0, .ref l1] M sz M0 sz := mMetV_of l D G A (by decide) (Nat.le_of_ble_eq_true rfl) (fun x X hQ => wP_X11_showPayload X hQ h)
/-! SealedTokens.verify(I)I -/
theorem dX11_verify_0 : decode cX11_verify 0 = .ok (.aload_n 0, 1) := by decide +kernel
theorem dX11_verify_1 : decode cX11_verify 1 = .ok (.iload_n 1, 1) := by decide +kernel
theorem dX11_verify_2 : decode cX11_verify 2 = .ok (.invokevirtual 123, 3) := by decide +kernel
theorem dX11_verify_5 : decode cX11_verify 5 = .ok (.ifCond .ne 6, 3) := by decide +kernel
theorem dX11_verify_8 : decode cX11_verify 8 = .ok (.bipush (-2), 2) := by decide +kernel
theorem dX11_verify_10 : decode cX11_verify 10 = .ok (.ireturn, 1) := by decide +kernel
theorem dX11_verify_11 : decode cX11_verify 11 = .ok (.aload_n 0, 1) := by decide +kernel
theorem dX11_verify_12 : decode cX11_verify 12 = .ok (.getfield 11, 3) := by decide +kernel
theorem dX11_verify_15 : decode cX11_verify 15 = .ok (.iload_n 1, 1) := by decide +kernel
theorem dX11_verify_16 : decode cX11_verify 16 = .ok (.aaload, 1) := by decide +kernel
theorem dX11_verify_17 : decode cX11_verify 17 = .ok (.astore_n 2, 1) := by decide +kernel
theorem dX11_verify_18 : decode cX11_verify 18 = .ok (.aload_n 0, 1) := by decide +kernel
theorem dX11_verify_19 : decode cX11_verify 19 = .ok (.getfield 109, 3) := by decide +kernel
theorem dX11_verify_22 : decode cX11_verify 22 = .ok (.aload_n 2, 1) := by decide +kernel
theorem dX11_verify_23 : decode cX11_verify 23 = .ok (.iconst 3, 1) := by decide +kernel
theorem dX11_verify_24 : decode cX11_verify 24 = .ok (.invokevirtual 371, 3) := by decide +kernel
theorem dX11_verify_27 : decode cX11_verify 27 = .ok (.ifCond .ne 6, 3) := by decide +kernel
theorem dX11_verify_30 : decode cX11_verify 30 = .ok (.bipush (-20), 2) := by decide +kernel
theorem dX11_verify_32 : decode cX11_verify 32 = .ok (.ireturn, 1) := by decide +kernel
theorem dX11_verify_33 : decode cX11_verify 33 = .ok (.aload_n 0, 1) := by decide +kernel
theorem dX11_verify_34 : decode cX11_verify 34 = .ok (.getfield 109, 3) := by decide +kernel
theorem dX11_verify_37 : decode cX11_verify 37 = .ok (.aload_n 2, 1) := by decide +kernel
theorem dX11_verify_38 : decode cX11_verify 38 = .ok (.iconst 0, 1) := by decide +kernel
theorem dX11_verify_39 : decode cX11_verify 39 = .ok (.invokevirtual 375, 3) := by decide +kernel
theorem dX11_verify_42 : decode cX11_verify 42 = .ok (.ifCond .eq 6, 3) := by decide +kernel
theorem dX11_verify_45 : decode cX11_verify 45 = .ok (.bipush (-21), 2) := by decide +kernel
theorem dX11_verify_47 : decode cX11_verify 47 = .ok (.ireturn, 1) := by decide +kernel
theorem dX11_verify_48 : decode cX11_verify 48 = .ok (.aload_n 0, 1) := by decide +kernel
theorem dX11_verify_49 : decode cX11_verify 49 = .ok (.getfield 109, 3) := by decide +kernel
theorem dX11_verify_52 : decode cX11_verify 52 = .ok (.aload_n 2, 1) := by decide +kernel
theorem dX11_verify_53 : decode cX11_verify 53 = .ok (.iconst 0, 1) := by decide +kernel
theorem dX11_verify_54 : decode cX11_verify 54 = .ok (.aload_n 0, 1) := by decide +kernel
theorem dX11_verify_55 : decode cX11_verify 55 = .ok (.getfield 109, 3) := by decide +kernel
theorem dX11_verify_58 : decode cX11_verify 58 = .ok (.getfield 352, 3) := by decide +kernel
theorem dX11_verify_61 : decode cX11_verify 61 = .ok (.invokevirtual 378, 3) := by decide +kernel
theorem dX11_verify_64 : decode cX11_verify 64 = .ok (.aload_n 0, 1) := by decide +kernel
theorem dX11_verify_65 : decode cX11_verify 65 = .ok (.getfield 52, 3) := by decide +kernel
theorem dX11_verify_68 : decode cX11_verify 68 = .ok (.aload_n 0, 1) := by decide +kernel
theorem dX11_verify_69 : decode cX11_verify 69 = .ok (.getfield 109, 3) := by decide +kernel
theorem dX11_verify_72 : decode cX11_verify 72 = .ok (.getfield 352, 3) := by decide +kernel
theorem dX11_verify_75 : decode cX11_verify 75 = .ok (.aload_n 0, 1) := by decide +kernel
theorem dX11_verify_76 : decode cX11_verify 76 = .ok (.getfield 44, 3) := by decide +kernel
theorem dX11_verify_79 : decode cX11_verify 79 = .ok (.invokevirtual 142, 3) := by decide +kernel
theorem dX11_verify_82 : decode cX11_verify 82 = .ok (.iconst (-1), 1) := by decide +kernel
theorem dX11_verify_83 : decode cX11_verify 83 = .ok (.if_icmp .eq 6, 3) := by decide +kernel
theorem dX11_verify_86 : decode cX11_verify 86 = .ok (.bipush (-22), 2) := by decide +kernel
theorem dX11_verify_88 : decode cX11_verify 88 = .ok (.ireturn, 1) := by decide +kernel
theorem dX11_verify_89 : decode cX11_verify 89 = .ok (.aload_n 0, 1) := by decide +kernel
theorem dX11_verify_90 : decode cX11_verify 90 = .ok (.getfield 109, 3) := by decide +kernel
theorem dX11_verify_93 : decode cX11_verify 93 = .ok (.aload_n 0, 1) := by decide +kernel
theorem dX11_verify_94 : decode cX11_verify 94 = .ok (.getfield 44, 3) := by decide +kernel
theorem dX11_verify_97 : decode cX11_verify 97 = .ok (.invokevirtual 348, 3) := by decide +kernel
theorem dX11_verify_100 : decode cX11_verify 100 = .ok (.istore_n 3, 1) := by decide +kernel
theorem dX11_verify_101 : decode cX11_verify 101 = .ok (.iload_n 3, 1) := by decide +kernel
theorem dX11_verify_102 : decode cX11_verify 102 = .ok (.ifCond .eq 5, 3) := by decide +kernel
theorem dX11_verify_105 : decode cX11_verify 105 = .ok (.iload_n 3, 1) := by decide +kernel
theorem dX11_verify_106 : decode cX11_verify 106 = .ok (.ireturn, 1) := by decide +kernel
theorem dX11_verify_107 : decode cX11_verify 107 = .ok (.aload_n 0, 1) := by decide +kernel
theorem dX11_verify_108 : decode cX11_verify 108 = .ok (.getfield 109, 3) := by decide +kernel
theorem dX11_verify_111 : decode cX11_verify 111 = .ok (.getfield 355, 3) := by decide +kernel
theorem dX11_verify_114 : decode cX11_verify 114 = .ok (.ifCond .ne 15, 3) := by decide +kernel
theorem dX11_verify_117 : decode cX11_verify 117 = .ok (.aload_n 0, 1) := by decide +kernel
theorem dX11_verify_118 : decode cX11_verify 118 = .ok (.getfield 109, 3) := by decide +kernel
theorem dX11_verify_121 : decode cX11_verify 121 = .ok (.aload_n 2, 1) := by decide +kernel
theorem dX11_verify_122 : decode cX11_verify 122 = .ok (.iconst 1, 1) := by decide +kernel
theorem dX11_verify_123 : decode cX11_verify 123 = .ok (.invokevirtual 375, 3) := by decide +kernel
theorem dX11_verify_126 : decode cX11_verify 126 = .ok (.ifCond .ne 15, 3) := by decide +kernel
theorem dX11_verify_129 : decode cX11_verify 129 = .ok (.aload_n 0, 1) := by decide +kernel
theorem dX11_verify_130 : decode cX11_verify 130 = .ok (.getfield 109, 3) := by decide +kernel
theorem dX11_verify_133 : decode cX11_verify 133 = .ok (.aload_n 2, 1) := by decide +kernel
theorem dX11_verify_134 : decode cX11_verify 134 = .ok (.iconst 2, 1) := by decide +kernel
theorem dX11_verify_135 : decode cX11_verify 135 = .ok (.invokevirtual 375, 3) := by decide +kernel
theorem dX11_verify_138 : decode cX11_verify 138 = .ok (.ifCond .eq 6, 3) := by decide +kernel
theorem dX11_verify_141 : decode cX11_verify 141 = .ok (.bipush (-21), 2) := by decide +kernel
theorem dX11_verify_143 : decode cX11_verify 143 = .ok (.ireturn, 1) := by decide +kernel
theorem dX11_verify_144 : decode cX11_verify 144 = .ok (.aload_n 0, 1) := by decide +kernel
theorem dX11_verify_145 : decode cX11_verify 145 = .ok (.getfield 28, 3) := by decide +kernel
theorem dX11_verify_148 : decode cX11_verify 148 = .ok (.invokevirtual 131, 3) := by decide +kernel
theorem dX11_verify_151 : decode cX11_verify 151 = .ok (.aload_n 0, 1) := by decide +kernel
theorem dX11_verify_152 : decode cX11_verify 152 = .ok (.getfield 28, 3) := by decide +kernel
theorem dX11_verify_155 : decode cX11_verify 155 = .ok (.aload_n 2, 1) := by decide +kernel
theorem dX11_verify_156 : decode cX11_verify 156 = .ok (.iconst 0, 1) := by decide +kernel
theorem dX11_verify_157 : decode cX11_verify 157 = .ok (.aload_n 0, 1) := by decide +kernel
theorem dX11_verify_158 : decode cX11_verify 158 = .ok (.getfield 109, 3) := by decide +kernel
theorem dX11_verify_161 : decode cX11_verify 161 = .ok (.iconst 1, 1) := by decide +kernel
theorem dX11_verify_162 : decode cX11_verify 162 = .ok (.invokevirtual 382, 3) := by decide +kernel
theorem dX11_verify_165 : decode cX11_verify 165 = .ok (.invokevirtual 385, 3) := by decide +kernel
theorem dX11_verify_168 : decode cX11_verify 168 = .ok (.aload_n 0, 1) := by decide +kernel
theorem dX11_verify_169 : decode cX11_verify 169 = .ok (.getfield 109, 3) := by decide +kernel
theorem dX11_verify_172 : decode cX11_verify 172 = .ok (.aload_n 2, 1) := by decide +kernel
theorem dX11_verify_173 : decode cX11_verify 173 = .ok (.iconst 2, 1) := by decide +kernel
theorem dX11_verify_174 : decode cX11_verify 174 = .ok (.aload_n 0, 1) := by decide +kernel
theorem dX11_verify_175 : decode cX11_verify 175 = .ok (.getfield 31, 3) := by decide +kernel
theorem dX11_verify_178 : decode cX11_verify 178 = .ok (.invokevirtual 378, 3) := by decide +kernel
theorem dX11_verify_181 : decode cX11_verify 181 = .ok (.iconst 0, 1) := by decide +kernel
theorem dX11_verify_182 : decode cX11_verify 182 = .ok (.istore 4, 2) := by decide +kernel
theorem dX11_verify_184 : decode cX11_verify 184 = .ok (.iconst 0, 1) := by decide +kernel
theorem dX11_verify_185 : decode cX11_verify 185 = .ok (.istore 5, 2) := by decide +kernel
theorem dX11_verify_187 : decode cX11_verify 187 = .ok (.iload 5, 2) := by decide +kernel
theorem dX11_verify_189 : decode cX11_verify 189 = .ok (.bipush 16, 2) := by decide +kernel
theorem dX11_verify_191 : decode cX11_verify 191 = .ok (.if_icmp .ge 89, 3) := by decide +kernel
theorem dX11_verify_194 : decode cX11_verify 194 = .ok (.aload_n 0, 1) := by decide +kernel
theorem dX11_verify_195 : decode cX11_verify 195 = .ok (.getfield 58, 3) := by decide +kernel
theorem dX11_verify_198 : decode cX11_verify 198 = .ok (.iload 5, 2) := by decide +kernel
theorem dX11_verify_200 : decode cX11_verify 200 = .ok (.aaload, 1) := by decide +kernel
theorem dX11_verify_201 : decode cX11_verify 201 = .ok (.getfield 308, 3) := by decide +kernel
theorem dX11_verify_204 : decode cX11_verify 204 = .ok (.ifCond .eq 70, 3) := by decide +kernel
theorem dX11_verify_207 : decode cX11_verify 207 = .ok (.aload_n 0, 1) := by decide +kernel
theorem dX11_verify_208 : decode cX11_verify 208 = .ok (.getfield 109, 3) := by decide +kernel
theorem dX11_verify_211 : decode cX11_verify 211 = .ok (.aload_n 0, 1) := by decide +kernel
theorem dX11_verify_212 : decode cX11_verify 212 = .ok (.getfield 44, 3) := by decide +kernel
theorem dX11_verify_215 : decode cX11_verify 215 = .ok (.aload_n 0, 1) := by decide +kernel
theorem dX11_verify_216 : decode cX11_verify 216 = .ok (.getfield 58, 3) := by decide +kernel
theorem dX11_verify_219 : decode cX11_verify 219 = .ok (.iload 5, 2) := by decide +kernel
theorem dX11_verify_221 : decode cX11_verify 221 = .ok (.aaload, 1) := by decide +kernel
theorem dX11_verify_222 : decode cX11_verify 222 = .ok (.invokevirtual 388, 3) := by decide +kernel
theorem dX11_verify_225 : decode cX11_verify 225 = .ok (.ifCond .eq 49, 3) := by decide +kernel
theorem dX11_verify_228 : decode cX11_verify 228 = .ok (.aload_n 0, 1) := by decide +kernel
theorem dX11_verify_229 : decode cX11_verify 229 = .ok (.getfield 58, 3) := by decide +kernel
theorem dX11_verify_232 : decode cX11_verify 232 = .ok (.iload 5, 2) := by decide +kernel
theorem dX11_verify_234 : decode cX11_verify 234 = .ok (.aaload, 1) := by decide +kernel
theorem dX11_verify_235 : decode cX11_verify 235 = .ok (.aload_n 0, 1) := by decide +kernel
theorem dX11_verify_236 : decode cX11_verify 236 = .ok (.getfield 109, 3) := by decide +kernel
theorem dX11_verify_239 : decode cX11_verify 239 = .ok (.getfield 351, 3) := by decide +kernel
theorem dX11_verify_242 : decode cX11_verify 242 = .ok (.iconst 0, 1) := by decide +kernel
theorem dX11_verify_243 : decode cX11_verify 243 = .ok (.invokevirtual 340, 3) := by decide +kernel
theorem dX11_verify_246 : decode cX11_verify 246 = .ok (.ifCond .eq 28, 3) := by decide +kernel
theorem dX11_verify_249 : decode cX11_verify 249 = .ok (.iconst 1, 1) := by decide +kernel
theorem dX11_verify_250 : decode cX11_verify 250 = .ok (.istore 4, 2) := by decide +kernel
theorem dX11_verify_252 : decode cX11_verify 252 = .ok (.aload_n 0, 1) := by decide +kernel
theorem dX11_verify_253 : decode cX11_verify 253 = .ok (.aload_n 0, 1) := by decide +kernel
theorem dX11_verify_254 : decode cX11_verify 254 = .ok (.getfield 58, 3) := by decide +kernel
theorem dX11_verify_257 : decode cX11_verify 257 = .ok (.iload 5, 2) := by decide +kernel
theorem dX11_verify_259 : decode cX11_verify 259 = .ok (.aaload, 1) := by decide +kernel
theorem dX11_verify_260 : decode cX11_verify 260 = .ok (.invokevirtual 392, 3) := by decide +kernel
theorem dX11_verify_263 : decode cX11_verify 263 = .ok (.ifCond .eq 11, 3) := by decide +kernel
theorem dX11_verify_266 : decode cX11_verify 266 = .ok (.aload_n 0, 1) := by decide +kernel
theorem dX11_verify_267 : decode cX11_verify 267 = .ok (.aload_n 2, 1) := by decide +kernel
theorem dX11_verify_268 : decode cX11_verify 268 = .ok (.invokevirtual 395, 3) := by decide +kernel
theorem dX11_verify_271 : decode cX11_verify 271 = .ok (.iload 5, 2) := by decide +kernel
theorem dX11_verify_273 : decode cX11_verify 273 = .ok (.ireturn, 1) := by decide +kernel
theorem dX11_verify_274 : decode cX11_verify 274 = .ok (.iinc 5 1, 3) := by decide +kernel
theorem dX11_verify_277 : decode cX11_verify 277 = .ok (.goto (-90), 3) := by decide +kernel
theorem dX11_verify_280 : decode cX11_verify 280 = .ok (.iload 4, 2) := by decide +kernel
theorem dX11_verify_282 : decode cX11_verify 282 = .ok (.ifCond .eq 8, 3) := by decide +kernel
theorem dX11_verify_285 : decode cX11_verify 285 = .ok (.bipush (-27), 2) := by decide +kernel
theorem dX11_verify_287 : decode cX11_verify 287 = .ok (.goto 5, 3) := by decide +kernel
theorem dX11_verify_290 : decode cX11_verify 290 = .ok (.bipush (-26), 2) := by decide +kernel
theorem dX11_verify_292 : decode cX11_verify 292 = .ok (.ireturn, 1) := by decide +kernel
abbrev rmX11_verify : Room := { frames := 9, cells := 0, slots := 0, locals := 220 }
def B_X11_verify_187 (G : Nat → Nat) (F : Nat) : Nat → Nat → Nat → Int32 → Int32 → mM → Option (Int32 × mM)
  | 0, _, _, _, _, _ => none
  | n + 1, l0, l2, l4, l5, M =>
  if (16 : Int32) ≤ l5 then (if l4 = 0 then (some ((-26 : Int32), M))
  else (some ((-27 : Int32), M)))
  else (bO (gfR M l0 11 10) fun v195 =>
  bO (aR M 5 v195 l5) fun v200 =>
  bO (gfI M v200 5 0) fun v201 =>
  if v201 = 0 then (B_X11_verify_187 G F n l0 l2 l4 (l5 + 1) M)
  else (bO (gfR M l0 11 17) fun v208 =>
  bO (gfR M l0 11 8) fun v212 =>
  bO (gfR M l0 11 10) fun v216 =>
  bO (aR M 5 v216 l5) fun v221 =>
  bO (rcv M v208 10) fun _ =>
  bP (P_X10_kidSuits G F v208 v212 v221 M) fun v222 M222 =>
  if v222 = 0 then (B_X11_verify_187 G F n l0 l2 l4 (l5 + 1) M222)
  else (bO (gfR M222 l0 11 10) fun v229 =>
  bO (aR M222 5 v229 l5) fun v234 =>
  bO (gfR M222 l0 11 17) fun v236 =>
  bO (gfI M222 v236 10 1) fun v239 =>
  bO (rcv M222 v234 5) fun _ =>
  bP (P_X5_maySign G F v234 v239 (0 : Int32) M222) fun v243 M243 =>
  if v243 = 0 then (B_X11_verify_187 G F n l0 l2 l4 (l5 + 1) M243)
  else (bO (gfR M243 l0 11 10) fun v254 =>
  bO (aR M243 5 v254 l5) fun v259 =>
  bO (rcv M243 l0 11) fun _ =>
  bP (P_X11_signatureIsRight G F l0 v259 M243) fun v260 M260 =>
  if v260 = 0 then (B_X11_verify_187 G F n l0 l2 (1 : Int32) (l5 + 1) M260)
  else (bO (rcv M260 l0 11) fun _ =>
  bO (P_X11_showPayload G F l0 l2 M260) fun M268 =>
  some (l5, M268))))))
set_option maxHeartbeats 4000000 in
set_option maxRecDepth 100000 in
theorem wB_X11_verify_187 {G : Nat → Nat} {F : Nat} {x : mXT} {sz : Nat} {r0 : Int32} {M0 : mM} (X : mCX G RX11 cX11_verify 6 (some .int) "verify" rmX11_verify x) (hQ : mQI x r0 M0 (sz, 0, 0)) : ∀ (n : Nat) (l0 : Nat) (l2 : Nat) (l4 : Int32) (l5 : Int32) (M : mM), B_X11_verify_187 G F n l0 l2 l4 l5 M = some (r0, M0) → WW x (sz, 0, 0) M 187 [(0, .ref l0), (2, .ref l2), (4, .int l4), (5, .int l5)] [] := by
  intro n
  induction n with
  | zero =>
    intro l0 l2 l4 l5 M h
    exact nomatch (show (none : Option (Int32 × mM)) = some (r0, M0) from h)
  | succ n ih =>
    intro l0 l2 l4 l5 M h
    rw [B_X11_verify_187] at h
    refine ww_iload 187 X dX11_verify_187 3 rfl ?_
    refine ww_bipush 189 X (v := (16 : Int32)) dX11_verify_189 (by decide) ?_
    refine ww_icmp_ge 191 280 X dX11_verify_191 (by decide) (fun q => ?_) (fun q => ?_)
    · replace h := (if_pos q).symm.trans h
      refine ww_iload 280 X dX11_verify_280 2 rfl ?_
      refine ww_if_eq 282 290 X dX11_verify_282 (by decide) (fun q => ?_) (fun q => ?_)
      · replace h := (if_pos q).symm.trans h
        refine ww_bipush 290 X (v := (-26 : Int32)) dX11_verify_290 (by decide) ?_
        exact ww_iretE 292 X hQ dX11_verify_292 h
      · replace h := (if_neg q).symm.trans h
        refine ww_bipush 285 X (v := (-27 : Int32)) dX11_verify_285 (by decide) ?_
        refine ww_goto 287 292 X dX11_verify_287 (by decide) ?_
        exact ww_iretE 292 X hQ dX11_verify_292 h
    · replace h := (if_neg q).symm.trans h
      refine ww_aload_n 194 X dX11_verify_194 0 rfl rfl ?_
      obtain ⟨v195, e195, h⟩ := bO_some h
      refine ww_getR 195 X dX11_verify_195 fG_X11_58 e195 ?_
      refine ww_iload 198 X dX11_verify_198 3 rfl ?_
      obtain ⟨v200, e200, h⟩ := bO_some h
      refine ww_aald5 200 X dX11_verify_200 e200 ?_
      obtain ⟨v201, e201, h⟩ := bO_some h
      refine ww_getI 201 X dX11_verify_201 fG_X11_308 e201 ?_
      refine ww_if_eq 204 274 X dX11_verify_204 (by decide) (fun q => ?_) (fun q => ?_)
      · replace h := (if_pos q).symm.trans h
        refine ww_iinc 274 X dX11_verify_274 (lv' := [(0, .ref l0), (2, .ref l2), (4, .int l4), (5, .int (l5 + 1))]) 3 rfl rfl (by decide) [1, 2, 3, 0] rfl ?_
        refine ww_goto 277 187 X dX11_verify_277 (by decide) ?_
        exact (ih _ _ _ _ _ h)
      · replace h := (if_neg q).symm.trans h
        refine ww_aload_n 207 X dX11_verify_207 0 rfl rfl ?_
        obtain ⟨v208, e208, h⟩ := bO_some h
        refine ww_getR 208 X dX11_verify_208 fG_X11_109 e208 ?_
        refine ww_aload_n 211 X dX11_verify_211 0 rfl rfl ?_
        obtain ⟨v212, e212, h⟩ := bO_some h
        refine ww_getR 212 X dX11_verify_212 fG_X11_44 e212 ?_
        refine ww_aload_n 215 X dX11_verify_215 0 rfl rfl ?_
        obtain ⟨v216, e216, h⟩ := bO_some h
        refine ww_getR 216 X dX11_verify_216 fG_X11_58 e216 ?_
        refine ww_iload 219 X dX11_verify_219 3 rfl ?_
        obtain ⟨v221, e221, h⟩ := bO_some h
        refine ww_aald5 221 X dX11_verify_221 e221 ?_
        obtain ⟨_, f222, h⟩ := bO_some h
        obtain ⟨v222, M222, e222, h⟩ := bP_some h
        refine ww_callVI0 222 X dX11_verify_222 mY_X10_kidSuits mL_X11_388 (rcv_spec f222) ⟨_, _, rfl⟩ (by decide) (As := [.ref v212, .ref v221]) (rest := []) rfl rfl ⟨Nat.le_of_ble_eq_true rfl, Nat.le_of_ble_eq_true rfl⟩ (Nat.le_of_ble_eq_true rfl) (fun l D A => c_X10_kidSuits l D A e222) ?_
        refine ww_if_eq 225 274 X dX11_verify_225 (by decide) (fun q => ?_) (fun q => ?_)
        · replace h := (if_pos q).symm.trans h
          refine ww_iinc 274 X dX11_verify_274 (lv' := [(0, .ref l0), (2, .ref l2), (4, .int l4), (5, .int (l5 + 1))]) 3 rfl rfl (by decide) [1, 2, 3, 0] rfl ?_
          refine ww_goto 277 187 X dX11_verify_277 (by decide) ?_
          exact (ih _ _ _ _ _ h)
        · replace h := (if_neg q).symm.trans h
          refine ww_aload_n 228 X dX11_verify_228 0 rfl rfl ?_
          obtain ⟨v229, e229, h⟩ := bO_some h
          refine ww_getR 229 X dX11_verify_229 fG_X11_58 e229 ?_
          refine ww_iload 232 X dX11_verify_232 3 rfl ?_
          obtain ⟨v234, e234, h⟩ := bO_some h
          refine ww_aald5 234 X dX11_verify_234 e234 ?_
          refine ww_aload_n 235 X dX11_verify_235 0 rfl rfl ?_
          obtain ⟨v236, e236, h⟩ := bO_some h
          refine ww_getR 236 X dX11_verify_236 fG_X11_109 e236 ?_
          obtain ⟨v239, e239, h⟩ := bO_some h
          refine ww_getI 239 X dX11_verify_239 fG_X11_351 e239 ?_
          refine ww_iconst 242 X (v := (0 : Int32)) dX11_verify_242 (by decide) ?_
          obtain ⟨_, f243, h⟩ := bO_some h
          obtain ⟨v243, M243, e243, h⟩ := bP_some h
          refine ww_callVI0 243 X dX11_verify_243 mY_X5_maySign mL_X11_340 (rcv_spec f243) ⟨_, _, rfl⟩ (by decide) (As := [.int v239, .int (0 : Int32)]) (rest := []) rfl rfl ⟨Nat.le_of_ble_eq_true rfl, Nat.le_of_ble_eq_true rfl⟩ (Nat.le_of_ble_eq_true rfl) (fun l D A => c_X5_maySign l D A e243) ?_
          refine ww_if_eq 246 274 X dX11_verify_246 (by decide) (fun q => ?_) (fun q => ?_)
          · replace h := (if_pos q).symm.trans h
            refine ww_iinc 274 X dX11_verify_274 (lv' := [(0, .ref l0), (2, .ref l2), (4, .int l4), (5, .int (l5 + 1))]) 3 rfl rfl (by decide) [1, 2, 3, 0] rfl ?_
            refine ww_goto 277 187 X dX11_verify_277 (by decide) ?_
            exact (ih _ _ _ _ _ h)
          · replace h := (if_neg q).symm.trans h
            refine ww_iconst 249 X (v := (1 : Int32)) dX11_verify_249 (by decide) ?_
            refine ww_istore 250 X dX11_verify_250 (lv' := [(0, .ref l0), (2, .ref l2), (4, .int (1 : Int32)), (5, .int l5)]) (by decide) [1, 2, 0, 3] rfl ?_
            refine ww_aload_n 252 X dX11_verify_252 0 rfl rfl ?_
            refine ww_aload_n 253 X dX11_verify_253 0 rfl rfl ?_
            obtain ⟨v254, e254, h⟩ := bO_some h
            refine ww_getR 254 X dX11_verify_254 fG_X11_58 e254 ?_
            refine ww_iload 257 X dX11_verify_257 3 rfl ?_
            obtain ⟨v259, e259, h⟩ := bO_some h
            refine ww_aald5 259 X dX11_verify_259 e259 ?_
            obtain ⟨_, f260, h⟩ := bO_some h
            obtain ⟨v260, M260, e260, h⟩ := bP_some h
            refine ww_callVI0 260 X dX11_verify_260 mY_X11_signatureIsRight mL_X11_392 (rcv_spec f260) ⟨_, _, rfl⟩ (by decide) (As := [.ref v259]) (rest := []) rfl rfl ⟨Nat.le_of_ble_eq_true rfl, Nat.le_of_ble_eq_true rfl⟩ (Nat.le_of_ble_eq_true rfl) (fun l D A => c_X11_signatureIsRight l D A e260) ?_
            refine ww_if_eq 263 274 X dX11_verify_263 (by decide) (fun q => ?_) (fun q => ?_)
            · replace h := (if_pos q).symm.trans h
              refine ww_iinc 274 X dX11_verify_274 (lv' := [(0, .ref l0), (2, .ref l2), (4, .int (1 : Int32)), (5, .int (l5 + 1))]) 3 rfl rfl (by decide) [1, 2, 3, 0] rfl ?_
              refine ww_goto 277 187 X dX11_verify_277 (by decide) ?_
              exact (ih _ _ _ _ _ h)
            · replace h := (if_neg q).symm.trans h
              refine ww_aload_n 266 X dX11_verify_266 0 rfl rfl ?_
              refine ww_aload_n 267 X dX11_verify_267 1 rfl rfl ?_
              obtain ⟨_, f268, h⟩ := bO_some h
              obtain ⟨M268, e268, h⟩ := bO_some h
              refine ww_callVV0 268 X dX11_verify_268 mY_X11_showPayload mL_X11_395 (rcv_spec f268) ⟨_, _, rfl⟩ (by decide) (As := [.ref l2]) (rest := []) rfl rfl ⟨Nat.le_of_ble_eq_true rfl, Nat.le_of_ble_eq_true rfl⟩ (Nat.le_of_ble_eq_true rfl) (fun l D A => c_X11_showPayload l D A e268) ?_
              refine ww_iload 271 X dX11_verify_271 3 rfl ?_
              exact ww_iretE 273 X hQ dX11_verify_273 h
def B_X11_verify_129 (G : Nat → Nat) (F : Nat) (l0 : Nat) (l2 : Nat) (M : mM) : Option (Int32 × mM) :=
  bO (gfR M l0 11 17) fun v130 =>
  bO (rcv M v130 10) fun _ =>
  bP (P_X10_isFaulty G F v130 l2 (2 : Int32) M) fun v135 M135 =>
  if v135 = 0 then (bO (gfR M135 l0 11 4) fun v145 =>
  bO (rcv M135 v145 0) fun _ =>
  bO (P_X0_clear G F v145 M135) fun M148 =>
  bO (gfR M148 l0 11 4) fun v152 =>
  bO (gfR M148 l0 11 17) fun v158 =>
  bO (rcv M148 v158 10) fun _ =>
  bP (P_X10_partEnd G F v158 (1 : Int32) M148) fun v162 M162 =>
  bO (rcv M162 v152 0) fun _ =>
  bO (P_X0_putPart G F v152 l2 (0 : Int32) v162 M162) fun M165 =>
  bO (gfR M165 l0 11 17) fun v169 =>
  bO (gfR M165 l0 11 5) fun v175 =>
  bO (rcv M165 v169 10) fun _ =>
  bO (P_X10_readPart G F v169 l2 (2 : Int32) v175 M165) fun M178 =>
  B_X11_verify_187 G F F l0 l2 (0 : Int32) (0 : Int32) M178)
  else (some ((-21 : Int32), M135))
set_option maxHeartbeats 4000000 in
set_option maxRecDepth 100000 in
theorem wB_X11_verify_129 {G : Nat → Nat} {F : Nat} {x : mXT} {sz : Nat} {r0 : Int32} {M0 : mM} (X : mCX G RX11 cX11_verify 6 (some .int) "verify" rmX11_verify x) (hQ : mQI x r0 M0 (sz, 0, 0)) {l0 : Nat} {l2 : Nat} {M : mM} (h : B_X11_verify_129 G F l0 l2 M = some (r0, M0)) : WW x (sz, 0, 0) M 129 [(0, .ref l0), (2, .ref l2)] [] := by
  unfold B_X11_verify_129 at h
  refine ww_aload_n 129 X dX11_verify_129 0 rfl rfl ?_
  obtain ⟨v130, e130, h⟩ := bO_some h
  refine ww_getR 130 X dX11_verify_130 fG_X11_109 e130 ?_
  refine ww_aload_n 133 X dX11_verify_133 1 rfl rfl ?_
  refine ww_iconst 134 X (v := (2 : Int32)) dX11_verify_134 (by decide) ?_
  obtain ⟨_, f135, h⟩ := bO_some h
  obtain ⟨v135, M135, e135, h⟩ := bP_some h
  refine ww_callVI0 135 X dX11_verify_135 mY_X10_isFaulty mL_X11_375 (rcv_spec f135) ⟨_, _, rfl⟩ (by decide) (As := [.ref l2, .int (2 : Int32)]) (rest := []) rfl rfl ⟨Nat.le_of_ble_eq_true rfl, Nat.le_of_ble_eq_true rfl⟩ (Nat.le_of_ble_eq_true rfl) (fun l D A => c_X10_isFaulty l D A e135) ?_
  refine ww_if_eq 138 144 X dX11_verify_138 (by decide) (fun q => ?_) (fun q => ?_)
  · replace h := (if_pos q).symm.trans h
    refine ww_aload_n 144 X dX11_verify_144 0 rfl rfl ?_
    obtain ⟨v145, e145, h⟩ := bO_some h
    refine ww_getR 145 X dX11_verify_145 fG_X11_28 e145 ?_
    obtain ⟨_, f148, h⟩ := bO_some h
    obtain ⟨M148, e148, h⟩ := bO_some h
    refine ww_callVV0 148 X dX11_verify_148 mY_X0_clear mL_X11_131 (rcv_spec f148) ⟨_, _, rfl⟩ (by decide) (As := []) (rest := []) rfl rfl ⟨Nat.le_of_ble_eq_true rfl, Nat.le_of_ble_eq_true rfl⟩ (Nat.le_of_ble_eq_true rfl) (fun l D A => c_X0_clear l D A e148) ?_
    refine ww_aload_n 151 X dX11_verify_151 0 rfl rfl ?_
    obtain ⟨v152, e152, h⟩ := bO_some h
    refine ww_getR 152 X dX11_verify_152 fG_X11_28 e152 ?_
    refine ww_aload_n 155 X dX11_verify_155 1 rfl rfl ?_
    refine ww_iconst 156 X (v := (0 : Int32)) dX11_verify_156 (by decide) ?_
    refine ww_aload_n 157 X dX11_verify_157 0 rfl rfl ?_
    obtain ⟨v158, e158, h⟩ := bO_some h
    refine ww_getR 158 X dX11_verify_158 fG_X11_109 e158 ?_
    refine ww_iconst 161 X (v := (1 : Int32)) dX11_verify_161 (by decide) ?_
    obtain ⟨_, f162, h⟩ := bO_some h
    obtain ⟨v162, M162, e162, h⟩ := bP_some h
    refine ww_callVI0 162 X dX11_verify_162 mY_X10_partEnd mL_X11_382 (rcv_spec f162) ⟨_, _, rfl⟩ (by decide) (As := [.int (1 : Int32)]) (rest := [.int (0 : Int32), .ref l2, .ref v152]) rfl rfl ⟨Nat.le_of_ble_eq_true rfl, Nat.le_of_ble_eq_true rfl⟩ (Nat.le_of_ble_eq_true rfl) (fun l D A => c_X10_partEnd l D A e162) ?_
    obtain ⟨_, f165, h⟩ := bO_some h
    obtain ⟨M165, e165, h⟩ := bO_some h
    refine ww_callVV0 165 X dX11_verify_165 mY_X0_putPart mL_X11_385 (rcv_spec f165) ⟨_, _, rfl⟩ (by decide) (As := [.ref l2, .int (0 : Int32), .int v162]) (rest := []) rfl rfl ⟨Nat.le_of_ble_eq_true rfl, Nat.le_of_ble_eq_true rfl⟩ (Nat.le_of_ble_eq_true rfl) (fun l D A => c_X0_putPart l D A e165) ?_
    refine ww_aload_n 168 X dX11_verify_168 0 rfl rfl ?_
    obtain ⟨v169, e169, h⟩ := bO_some h
    refine ww_getR 169 X dX11_verify_169 fG_X11_109 e169 ?_
    refine ww_aload_n 172 X dX11_verify_172 1 rfl rfl ?_
    refine ww_iconst 173 X (v := (2 : Int32)) dX11_verify_173 (by decide) ?_
    refine ww_aload_n 174 X dX11_verify_174 0 rfl rfl ?_
    obtain ⟨v175, e175, h⟩ := bO_some h
    refine ww_getR 175 X dX11_verify_175 fG_X11_31 e175 ?_
    obtain ⟨_, f178, h⟩ := bO_some h
    obtain ⟨M178, e178, h⟩ := bO_some h
    refine ww_callVV0 178 X dX11_verify_178 mY_X10_readPart mL_X11_378 (rcv_spec f178) ⟨_, _, rfl⟩ (by decide) (As := [.ref l2, .int (2 : Int32), .ref v175]) (rest := []) rfl rfl ⟨Nat.le_of_ble_eq_true rfl, Nat.le_of_ble_eq_true rfl⟩ (Nat.le_of_ble_eq_true rfl) (fun l D A => c_X10_readPart l D A e178) ?_
    refine ww_iconst 181 X (v := (0 : Int32)) dX11_verify_181 (by decide) ?_
    refine ww_istore 182 X dX11_verify_182 (lv' := [(0, .ref l0), (2, .ref l2), (4, .int (0 : Int32))]) (by decide) [1, 2, 0] rfl ?_
    refine ww_iconst 184 X (v := (0 : Int32)) dX11_verify_184 (by decide) ?_
    refine ww_istore 185 X dX11_verify_185 (lv' := [(0, .ref l0), (2, .ref l2), (4, .int (0 : Int32)), (5, .int (0 : Int32))]) (by decide) [1, 2, 3, 0] rfl ?_
    exact (wB_X11_verify_187 X hQ F _ _ _ _ _ h)
  · replace h := (if_neg q).symm.trans h
    refine ww_bipush 141 X (v := (-21 : Int32)) dX11_verify_141 (by decide) ?_
    exact ww_iretE 143 X hQ dX11_verify_143 h
def P_X11_verify (G : Nat → Nat) (F : Nat) (l0 : Nat) (l1 : Int32) (M : mM) : Option (Int32 × mM) :=
  bO (rcv M l0 11) fun _ =>
  bP (P_X11_isRow G F l0 l1 M) fun v2 M2 =>
  if v2 = 0 then (some ((-2 : Int32), M2))
  else (bO (gfR M2 l0 11 0) fun v12 =>
  bO (aR M2 4 v12 l1) fun v16 =>
  bO (gfR M2 l0 11 17) fun v19 =>
  bO (rcv M2 v19 10) fun _ =>
  bP (P_X10_split G F v19 v16 (3 : Int32) M2) fun v24 M24 =>
  if v24 = 0 then (some ((-20 : Int32), M24))
  else (bO (gfR M24 l0 11 17) fun v34 =>
  bO (rcv M24 v34 10) fun _ =>
  bP (P_X10_isFaulty G F v34 v16 (0 : Int32) M24) fun v39 M39 =>
  if v39 = 0 then (bO (gfR M39 l0 11 17) fun v49 =>
  bO (gfR M39 l0 11 17) fun v55 =>
  bO (gfR M39 v55 10 0) fun v58 =>
  bO (rcv M39 v49 10) fun _ =>
  bO (P_X10_readPart G F v49 v16 (0 : Int32) v58 M39) fun M61 =>
  bO (gfR M61 l0 11 9) fun v65 =>
  bO (gfR M61 l0 11 17) fun v69 =>
  bO (gfR M61 v69 10 0) fun v72 =>
  bO (gfR M61 l0 11 8) fun v76 =>
  bO (rcv M61 v65 7) fun _ =>
  bP (P_X7_read G F v65 v72 v76 M61) fun v79 M79 =>
  if v79 = (-1 : Int32) then (bO (gfR M79 l0 11 17) fun v90 =>
  bO (gfR M79 l0 11 8) fun v94 =>
  bO (rcv M79 v90 10) fun _ =>
  bP (P_X10_signedHeadReason G F v90 v94 M79) fun v97 M97 =>
  if v97 = 0 then (bO (gfR M97 l0 11 17) fun v108 =>
  bO (gfI M97 v108 10 3) fun v111 =>
  if v111 = 0 then (bO (gfR M97 l0 11 17) fun v118 =>
  bO (rcv M97 v118 10) fun _ =>
  bP (P_X10_isFaulty G F v118 v16 (1 : Int32) M97) fun v123 M123 =>
  if v123 = 0 then (B_X11_verify_129 G F l0 v16 M123)
  else (some ((-21 : Int32), M123)))
  else (B_X11_verify_129 G F l0 v16 M97))
  else (some (v97, M97)))
  else (some ((-22 : Int32), M79)))
  else (some ((-21 : Int32), M39))))
set_option maxHeartbeats 4000000 in
set_option maxRecDepth 100000 in
theorem wP_X11_verify {G : Nat → Nat} {F : Nat} {x : mXT} {sz : Nat} {r0 : Int32} {M0 : mM} (X : mCX G RX11 cX11_verify 6 (some .int) "verify" rmX11_verify x) (hQ : mQI x r0 M0 (sz, 0, 0)) {l0 : Nat} {l1 : Int32} {M : mM} (h : P_X11_verify G F l0 l1 M = some (r0, M0)) : WW x (sz, 0, 0) M 0 [(0, .ref l0), (1, .int l1)] [] := by
  unfold P_X11_verify at h
  refine ww_aload_n 0 X dX11_verify_0 0 rfl rfl ?_
  refine ww_iload_n 1 X dX11_verify_1 1 rfl rfl ?_
  obtain ⟨_, f2, h⟩ := bO_some h
  obtain ⟨v2, M2, e2, h⟩ := bP_some h
  refine ww_callVI0 2 X dX11_verify_2 mY_X11_isRow mL_X11_123 (rcv_spec f2) ⟨_, _, rfl⟩ (by decide) (As := [.int l1]) (rest := []) rfl rfl ⟨Nat.le_of_ble_eq_true rfl, Nat.le_of_ble_eq_true rfl⟩ (Nat.le_of_ble_eq_true rfl) (fun l D A => c_X11_isRow l D A e2) ?_
  refine ww_if_ne 5 11 X dX11_verify_5 (by decide) (fun q => ?_) (fun q => ?_)
  · replace h := (if_neg q).symm.trans h
    refine ww_aload_n 11 X dX11_verify_11 0 rfl rfl ?_
    obtain ⟨v12, e12, h⟩ := bO_some h
    refine ww_getR 12 X dX11_verify_12 fG_X11_11 e12 ?_
    refine ww_iload_n 15 X dX11_verify_15 1 rfl rfl ?_
    obtain ⟨v16, e16, h⟩ := bO_some h
    refine ww_aald4 16 X dX11_verify_16 e16 ?_
    refine ww_astore_n 17 X dX11_verify_17 (lv' := [(0, .ref l0), (1, .int l1), (2, .ref v16)]) rfl (by decide) [1, 2, 0] rfl ?_
    refine ww_aload_n 18 X dX11_verify_18 0 rfl rfl ?_
    obtain ⟨v19, e19, h⟩ := bO_some h
    refine ww_getR 19 X dX11_verify_19 fG_X11_109 e19 ?_
    refine ww_aload_n 22 X dX11_verify_22 2 rfl rfl ?_
    refine ww_iconst 23 X (v := (3 : Int32)) dX11_verify_23 (by decide) ?_
    obtain ⟨_, f24, h⟩ := bO_some h
    obtain ⟨v24, M24, e24, h⟩ := bP_some h
    refine ww_callVI0 24 X dX11_verify_24 mY_X10_split mL_X11_371 (rcv_spec f24) ⟨_, _, rfl⟩ (by decide) (As := [.ref v16, .int (3 : Int32)]) (rest := []) rfl rfl ⟨Nat.le_of_ble_eq_true rfl, Nat.le_of_ble_eq_true rfl⟩ (Nat.le_of_ble_eq_true rfl) (fun l D A => c_X10_split l D A e24) ?_
    refine ww_if_ne 27 33 X dX11_verify_27 (by decide) (fun q => ?_) (fun q => ?_)
    · replace h := (if_neg q).symm.trans h
      refine ww_aload_n 33 X dX11_verify_33 0 rfl rfl ?_
      obtain ⟨v34, e34, h⟩ := bO_some h
      refine ww_getR 34 X dX11_verify_34 fG_X11_109 e34 ?_
      refine ww_aload_n 37 X dX11_verify_37 2 rfl rfl ?_
      refine ww_iconst 38 X (v := (0 : Int32)) dX11_verify_38 (by decide) ?_
      obtain ⟨_, f39, h⟩ := bO_some h
      obtain ⟨v39, M39, e39, h⟩ := bP_some h
      refine ww_callVI0 39 X dX11_verify_39 mY_X10_isFaulty mL_X11_375 (rcv_spec f39) ⟨_, _, rfl⟩ (by decide) (As := [.ref v16, .int (0 : Int32)]) (rest := []) rfl rfl ⟨Nat.le_of_ble_eq_true rfl, Nat.le_of_ble_eq_true rfl⟩ (Nat.le_of_ble_eq_true rfl) (fun l D A => c_X10_isFaulty l D A e39) ?_
      refine ww_if_eq 42 48 X dX11_verify_42 (by decide) (fun q => ?_) (fun q => ?_)
      · replace h := (if_pos q).symm.trans h
        refine ww_aload_n 48 X dX11_verify_48 0 rfl rfl ?_
        obtain ⟨v49, e49, h⟩ := bO_some h
        refine ww_getR 49 X dX11_verify_49 fG_X11_109 e49 ?_
        refine ww_aload_n 52 X dX11_verify_52 2 rfl rfl ?_
        refine ww_iconst 53 X (v := (0 : Int32)) dX11_verify_53 (by decide) ?_
        refine ww_aload_n 54 X dX11_verify_54 0 rfl rfl ?_
        obtain ⟨v55, e55, h⟩ := bO_some h
        refine ww_getR 55 X dX11_verify_55 fG_X11_109 e55 ?_
        obtain ⟨v58, e58, h⟩ := bO_some h
        refine ww_getR 58 X dX11_verify_58 fG_X11_352 e58 ?_
        obtain ⟨_, f61, h⟩ := bO_some h
        obtain ⟨M61, e61, h⟩ := bO_some h
        refine ww_callVV0 61 X dX11_verify_61 mY_X10_readPart mL_X11_378 (rcv_spec f61) ⟨_, _, rfl⟩ (by decide) (As := [.ref v16, .int (0 : Int32), .ref v58]) (rest := []) rfl rfl ⟨Nat.le_of_ble_eq_true rfl, Nat.le_of_ble_eq_true rfl⟩ (Nat.le_of_ble_eq_true rfl) (fun l D A => c_X10_readPart l D A e61) ?_
        refine ww_aload_n 64 X dX11_verify_64 0 rfl rfl ?_
        obtain ⟨v65, e65, h⟩ := bO_some h
        refine ww_getR 65 X dX11_verify_65 fG_X11_52 e65 ?_
        refine ww_aload_n 68 X dX11_verify_68 0 rfl rfl ?_
        obtain ⟨v69, e69, h⟩ := bO_some h
        refine ww_getR 69 X dX11_verify_69 fG_X11_109 e69 ?_
        obtain ⟨v72, e72, h⟩ := bO_some h
        refine ww_getR 72 X dX11_verify_72 fG_X11_352 e72 ?_
        refine ww_aload_n 75 X dX11_verify_75 0 rfl rfl ?_
        obtain ⟨v76, e76, h⟩ := bO_some h
        refine ww_getR 76 X dX11_verify_76 fG_X11_44 e76 ?_
        obtain ⟨_, f79, h⟩ := bO_some h
        obtain ⟨v79, M79, e79, h⟩ := bP_some h
        refine ww_callVI0 79 X dX11_verify_79 mY_X7_read mL_X11_142 (rcv_spec f79) ⟨_, _, rfl⟩ (by decide) (As := [.ref v72, .ref v76]) (rest := []) rfl rfl ⟨Nat.le_of_ble_eq_true rfl, Nat.le_of_ble_eq_true rfl⟩ (Nat.le_of_ble_eq_true rfl) (fun l D A => c_X7_read l D A e79) ?_
        refine ww_iconst 82 X (v := (-1 : Int32)) dX11_verify_82 (by decide) ?_
        refine ww_icmp_eq 83 89 X dX11_verify_83 (by decide) (fun q => ?_) (fun q => ?_)
        · replace h := (if_pos q).symm.trans h
          refine ww_aload_n 89 X dX11_verify_89 0 rfl rfl ?_
          obtain ⟨v90, e90, h⟩ := bO_some h
          refine ww_getR 90 X dX11_verify_90 fG_X11_109 e90 ?_
          refine ww_aload_n 93 X dX11_verify_93 0 rfl rfl ?_
          obtain ⟨v94, e94, h⟩ := bO_some h
          refine ww_getR 94 X dX11_verify_94 fG_X11_44 e94 ?_
          obtain ⟨_, f97, h⟩ := bO_some h
          obtain ⟨v97, M97, e97, h⟩ := bP_some h
          refine ww_callVI0 97 X dX11_verify_97 mY_X10_signedHeadReason mL_X11_348 (rcv_spec f97) ⟨_, _, rfl⟩ (by decide) (As := [.ref v94]) (rest := []) rfl rfl ⟨Nat.le_of_ble_eq_true rfl, Nat.le_of_ble_eq_true rfl⟩ (Nat.le_of_ble_eq_true rfl) (fun l D A => c_X10_signedHeadReason l D A e97) ?_
          refine ww_istore_n 100 X dX11_verify_100 (lv' := [(0, .ref l0), (1, .int l1), (2, .ref v16), (3, .int v97)]) rfl (by decide) [1, 2, 3, 0] rfl ?_
          refine ww_iload_n 101 X dX11_verify_101 3 rfl rfl ?_
          refine ww_if_eq 102 107 X dX11_verify_102 (by decide) (fun q => ?_) (fun q => ?_)
          · replace h := (if_pos q).symm.trans h
            refine ww_aload_n 107 X dX11_verify_107 0 rfl rfl ?_
            obtain ⟨v108, e108, h⟩ := bO_some h
            refine ww_getR 108 X dX11_verify_108 fG_X11_109 e108 ?_
            obtain ⟨v111, e111, h⟩ := bO_some h
            refine ww_getI 111 X dX11_verify_111 fG_X11_355 e111 ?_
            refine ww_if_ne 114 129 X dX11_verify_114 (by decide) (fun q => ?_) (fun q => ?_)
            · replace h := (if_neg q).symm.trans h
              exact ww_sub [0, 2] rfl (wB_X11_verify_129 X hQ h)
            · replace h := (if_pos q).symm.trans h
              refine ww_aload_n 117 X dX11_verify_117 0 rfl rfl ?_
              obtain ⟨v118, e118, h⟩ := bO_some h
              refine ww_getR 118 X dX11_verify_118 fG_X11_109 e118 ?_
              refine ww_aload_n 121 X dX11_verify_121 2 rfl rfl ?_
              refine ww_iconst 122 X (v := (1 : Int32)) dX11_verify_122 (by decide) ?_
              obtain ⟨_, f123, h⟩ := bO_some h
              obtain ⟨v123, M123, e123, h⟩ := bP_some h
              refine ww_callVI0 123 X dX11_verify_123 mY_X10_isFaulty mL_X11_375 (rcv_spec f123) ⟨_, _, rfl⟩ (by decide) (As := [.ref v16, .int (1 : Int32)]) (rest := []) rfl rfl ⟨Nat.le_of_ble_eq_true rfl, Nat.le_of_ble_eq_true rfl⟩ (Nat.le_of_ble_eq_true rfl) (fun l D A => c_X10_isFaulty l D A e123) ?_
              refine ww_if_ne 126 141 X dX11_verify_126 (by decide) (fun q => ?_) (fun q => ?_)
              · replace h := (if_neg q).symm.trans h
                refine ww_bipush 141 X (v := (-21 : Int32)) dX11_verify_141 (by decide) ?_
                exact ww_iretE 143 X hQ dX11_verify_143 h
              · replace h := (if_pos q).symm.trans h
                exact ww_sub [0, 2] rfl (wB_X11_verify_129 X hQ h)
          · replace h := (if_neg q).symm.trans h
            refine ww_iload_n 105 X dX11_verify_105 3 rfl rfl ?_
            exact ww_iretE 106 X hQ dX11_verify_106 h
        · replace h := (if_neg q).symm.trans h
          refine ww_bipush 86 X (v := (-22 : Int32)) dX11_verify_86 (by decide) ?_
          exact ww_iretE 88 X hQ dX11_verify_88 h
      · replace h := (if_neg q).symm.trans h
        refine ww_bipush 45 X (v := (-21 : Int32)) dX11_verify_45 (by decide) ?_
        exact ww_iretE 47 X hQ dX11_verify_47 h
    · replace h := (if_pos q).symm.trans h
      refine ww_bipush 30 X (v := (-20 : Int32)) dX11_verify_30 (by decide) ?_
      exact ww_iretE 32 X hQ dX11_verify_32 h
  · replace h := (if_pos q).symm.trans h
    refine ww_bipush 8 X (v := (-2 : Int32)) dX11_verify_8 (by decide) ?_
    exact ww_iretE 10 X hQ dX11_verify_10 h
theorem c_X11_verify {G : Nat → Nat} {F sz : Nat} {r0 : Int32} {M0 : mM} (l : Launch) (D : mD) (A : Nat → Prop) {l0 : Nat} {l1 : Int32} {M : mM} (h : P_X11_verify G F l0 l1 M = some (r0, M0)) : mMetI l D G A yX11_verify cX11_verify 6 (some .int) 9 220 0 0 [.ref l0, .int l1] M sz r0 M0 sz := mMetI_of l D G A (by decide) (Nat.le_of_ble_eq_true rfl) (fun x X hQ => wP_X11_verify X hQ h)
/-! SealedTokens.agree(LSealedTokens$Bytes;LSealedTokens$Bytes;LSealedTokens$Bytes;LSealedTokens$Bytes;)V -/
theorem dX11_agree_0 : decode cX11_agree 0 = .ok (.aload_n 0, 1) := by decide +kernel
theorem dX11_agree_1 : decode cX11_agree 1 = .ok (.getfield 102, 3) := by decide +kernel
theorem dX11_agree_4 : decode cX11_agree 4 = .ok (.aload_n 2, 1) := by decide +kernel
theorem dX11_agree_5 : decode cX11_agree 5 = .ok (.invokevirtual 279, 3) := by decide +kernel
theorem dX11_agree_8 : decode cX11_agree 8 = .ok (.pop, 1) := by decide +kernel
theorem dX11_agree_9 : decode cX11_agree 9 = .ok (.aload_n 0, 1) := by decide +kernel
theorem dX11_agree_10 : decode cX11_agree 10 = .ok (.getfield 102, 3) := by decide +kernel
theorem dX11_agree_13 : decode cX11_agree 13 = .ok (.aload_n 1, 1) := by decide +kernel
theorem dX11_agree_14 : decode cX11_agree 14 = .ok (.aload_n 0, 1) := by decide +kernel
theorem dX11_agree_15 : decode cX11_agree 15 = .ok (.getfield 102, 3) := by decide +kernel
theorem dX11_agree_18 : decode cX11_agree 18 = .ok (.getfield 286, 3) := by decide +kernel
theorem dX11_agree_21 : decode cX11_agree 21 = .ok (.aload_n 0, 1) := by decide +kernel
theorem dX11_agree_22 : decode cX11_agree 22 = .ok (.getfield 25, 3) := by decide +kernel
theorem dX11_agree_25 : decode cX11_agree 25 = .ok (.aload_n 0, 1) := by decide +kernel
theorem dX11_agree_26 : decode cX11_agree 26 = .ok (.getfield 102, 3) := by decide +kernel
theorem dX11_agree_29 : decode cX11_agree 29 = .ok (.getfield 282, 3) := by decide +kernel
theorem dX11_agree_32 : decode cX11_agree 32 = .ok (.invokevirtual 289, 3) := by decide +kernel
theorem dX11_agree_35 : decode cX11_agree 35 = .ok (.aload_n 0, 1) := by decide +kernel
theorem dX11_agree_36 : decode cX11_agree 36 = .ok (.getfield 102, 3) := by decide +kernel
theorem dX11_agree_39 : decode cX11_agree 39 = .ok (.aload_n 0, 1) := by decide +kernel
theorem dX11_agree_40 : decode cX11_agree 40 = .ok (.getfield 109, 3) := by decide +kernel
theorem dX11_agree_43 : decode cX11_agree 43 = .ok (.getfield 530, 3) := by decide +kernel
theorem dX11_agree_46 : decode cX11_agree 46 = .ok (.invokevirtual 293, 3) := by decide +kernel
theorem dX11_agree_49 : decode cX11_agree 49 = .ok (.pop, 1) := by decide +kernel
theorem dX11_agree_50 : decode cX11_agree 50 = .ok (.aload_n 0, 1) := by decide +kernel
theorem dX11_agree_51 : decode cX11_agree 51 = .ok (.getfield 109, 3) := by decide +kernel
theorem dX11_agree_54 : decode cX11_agree 54 = .ok (.getfield 530, 3) := by decide +kernel
theorem dX11_agree_57 : decode cX11_agree 57 = .ok (.bipush 32, 2) := by decide +kernel
theorem dX11_agree_59 : decode cX11_agree 59 = .ok (.invokevirtual 120, 3) := by decide +kernel
theorem dX11_agree_62 : decode cX11_agree 62 = .ok (.aload_n 0, 1) := by decide +kernel
theorem dX11_agree_63 : decode cX11_agree 63 = .ok (.getfield 109, 3) := by decide +kernel
theorem dX11_agree_66 : decode cX11_agree 66 = .ok (.getfield 533, 3) := by decide +kernel
theorem dX11_agree_69 : decode cX11_agree 69 = .ok (.invokevirtual 131, 3) := by decide +kernel
theorem dX11_agree_72 : decode cX11_agree 72 = .ok (.aload_n 0, 1) := by decide +kernel
theorem dX11_agree_73 : decode cX11_agree 73 = .ok (.getfield 109, 3) := by decide +kernel
theorem dX11_agree_76 : decode cX11_agree 76 = .ok (.getfield 533, 3) := by decide +kernel
theorem dX11_agree_79 : decode cX11_agree 79 = .ok (.aload_n 0, 1) := by decide +kernel
theorem dX11_agree_80 : decode cX11_agree 80 = .ok (.getfield 109, 3) := by decide +kernel
theorem dX11_agree_83 : decode cX11_agree 83 = .ok (.getfield 351, 3) := by decide +kernel
theorem dX11_agree_86 : decode cX11_agree 86 = .ok (.iconst 4, 1) := by decide +kernel
theorem dX11_agree_87 : decode cX11_agree 87 = .ok (.if_icmp .ne 16, 3) := by decide +kernel
theorem dX11_agree_90 : decode cX11_agree 90 = .ok (.aload_n 0, 1) := by decide +kernel
theorem dX11_agree_91 : decode cX11_agree 91 = .ok (.getfield 109, 3) := by decide +kernel
theorem dX11_agree_94 : decode cX11_agree 94 = .ok (.getfield 444, 3) := by decide +kernel
theorem dX11_agree_97 : decode cX11_agree 97 = .ok (.invokestatic 536, 3) := by decide +kernel
theorem dX11_agree_100 : decode cX11_agree 100 = .ok (.goto 15, 3) := by decide +kernel
theorem dX11_agree_103 : decode cX11_agree 103 = .ok (.iconst 5, 1) := by decide +kernel
theorem dX11_agree_104 : decode cX11_agree 104 = .ok (.aload_n 0, 1) := by decide +kernel
theorem dX11_agree_105 : decode cX11_agree 105 = .ok (.getfield 109, 3) := by decide +kernel
theorem dX11_agree_108 : decode cX11_agree 108 = .ok (.getfield 351, 3) := by decide +kernel
theorem dX11_agree_111 : decode cX11_agree 111 = .ok (.iadd, 1) := by decide +kernel
theorem dX11_agree_112 : decode cX11_agree 112 = .ok (.invokestatic 540, 3) := by decide +kernel
theorem dX11_agree_115 : decode cX11_agree 115 = .ok (.invokevirtual 543, 3) := by decide +kernel
theorem dX11_agree_118 : decode cX11_agree 118 = .ok (.aload_n 0, 1) := by decide +kernel
theorem dX11_agree_119 : decode cX11_agree 119 = .ok (.getfield 70, 3) := by decide +kernel
theorem dX11_agree_122 : decode cX11_agree 122 = .ok (.aload_n 0, 1) := by decide +kernel
theorem dX11_agree_123 : decode cX11_agree 123 = .ok (.getfield 109, 3) := by decide +kernel
theorem dX11_agree_126 : decode cX11_agree 126 = .ok (.getfield 530, 3) := by decide +kernel
theorem dX11_agree_129 : decode cX11_agree 129 = .ok (.aload_n 0, 1) := by decide +kernel
theorem dX11_agree_130 : decode cX11_agree 130 = .ok (.getfield 109, 3) := by decide +kernel
theorem dX11_agree_133 : decode cX11_agree 133 = .ok (.getfield 533, 3) := by decide +kernel
theorem dX11_agree_136 : decode cX11_agree 136 = .ok (.aload_n 3, 1) := by decide +kernel
theorem dX11_agree_137 : decode cX11_agree 137 = .ok (.aload 4, 2) := by decide +kernel
theorem dX11_agree_139 : decode cX11_agree 139 = .ok (.aload_n 0, 1) := by decide +kernel
theorem dX11_agree_140 : decode cX11_agree 140 = .ok (.getfield 109, 3) := by decide +kernel
theorem dX11_agree_143 : decode cX11_agree 143 = .ok (.getfield 351, 3) := by decide +kernel
theorem dX11_agree_146 : decode cX11_agree 146 = .ok (.iconst 4, 1) := by decide +kernel
theorem dX11_agree_147 : decode cX11_agree 147 = .ok (.if_icmp .ne 17, 3) := by decide +kernel
theorem dX11_agree_150 : decode cX11_agree 150 = .ok (.getstatic 450, 3) := by decide +kernel
theorem dX11_agree_153 : decode cX11_agree 153 = .ok (.aload_n 0, 1) := by decide +kernel
theorem dX11_agree_154 : decode cX11_agree 154 = .ok (.getfield 109, 3) := by decide +kernel
theorem dX11_agree_157 : decode cX11_agree 157 = .ok (.getfield 444, 3) := by decide +kernel
theorem dX11_agree_160 : decode cX11_agree 160 = .ok (.iaload, 1) := by decide +kernel
theorem dX11_agree_161 : decode cX11_agree 161 = .ok (.goto 5, 3) := by decide +kernel
theorem dX11_agree_164 : decode cX11_agree 164 = .ok (.bipush 16, 2) := by decide +kernel
theorem dX11_agree_166 : decode cX11_agree 166 = .ok (.aload_n 0, 1) := by decide +kernel
theorem dX11_agree_167 : decode cX11_agree 167 = .ok (.getfield 109, 3) := by decide +kernel
theorem dX11_agree_170 : decode cX11_agree 170 = .ok (.getfield 530, 3) := by decide +kernel
theorem dX11_agree_173 : decode cX11_agree 173 = .ok (.invokevirtual 296, 3) := by decide +kernel
theorem dX11_agree_176 : decode cX11_agree 176 = .ok (.return_, 1) := by decide +kernel
abbrev rmX11_agree : Room := { frames := 5, cells := 0, slots := 0, locals := 167 }
def B_X11_agree_115 (G : Nat → Nat) (F : Nat) (l0 : Nat) (l3 : Nat) (l4 : Nat) (s0 : Nat) (s1 : Nat) (M : mM) : Option mM :=
  bO (rcv M s0 0) fun _ =>
  bO (P_X0_putText G F s0 s1 M) fun M115 =>
  bO (gfR M115 l0 11 12) fun v119 =>
  bO (gfR M115 l0 11 17) fun v123 =>
  bO (gfR M115 v123 10 12) fun v126 =>
  bO (gfR M115 l0 11 17) fun v130 =>
  bO (gfR M115 v130 10 13) fun v133 =>
  bO (gfR M115 l0 11 17) fun v140 =>
  bO (gfI M115 v140 10 1) fun v143 =>
  if v143 = (4 : Int32) then (bO (gfR M115 l0 11 17) fun v154 =>
  bO (gfI M115 v154 10 2) fun v157 =>
  bO (aI M115 0 (G 1005) v157) fun v160 =>
  bO (gfR M115 l0 11 17) fun v167 =>
  bO (gfR M115 v167 10 12) fun v170 =>
  bO (rcv M115 v119 4) fun _ =>
  bO (P_X4_putDerived G F v119 v126 v133 l3 l4 v160 v170 M115) fun M173 =>
  some M173)
  else (bO (gfR M115 l0 11 17) fun v167 =>
  bO (gfR M115 v167 10 12) fun v170 =>
  bO (rcv M115 v119 4) fun _ =>
  bO (P_X4_putDerived G F v119 v126 v133 l3 l4 (16 : Int32) v170 M115) fun M173 =>
  some M173)
set_option maxHeartbeats 4000000 in
set_option maxRecDepth 100000 in
theorem wB_X11_agree_115 {G : Nat → Nat} {F : Nat} {x : mXT} {sz : Nat} {M0 : mM} (X : mCX G RX11 cX11_agree 5 none "agree" rmX11_agree x) (hQ : mQV x M0 (sz, 0, 0)) {l0 : Nat} {l3 : Nat} {l4 : Nat} {s0 : Nat} {s1 : Nat} {M : mM} (h : B_X11_agree_115 G F l0 l3 l4 s0 s1 M = some M0) : WW x (sz, 0, 0) M 115 [(0, .ref l0), (3, .ref l3), (4, .ref l4)] [.ref s1, .ref s0] := by
  unfold B_X11_agree_115 at h
  obtain ⟨_, f115, h⟩ := bO_some h
  obtain ⟨M115, e115, h⟩ := bO_some h
  refine ww_callVV0 115 X dX11_agree_115 mY_X0_putText mL_X11_543 (rcv_spec f115) ⟨_, _, rfl⟩ (by decide) (As := [.ref s1]) (rest := []) rfl rfl ⟨Nat.le_of_ble_eq_true rfl, Nat.le_of_ble_eq_true rfl⟩ (Nat.le_of_ble_eq_true rfl) (fun l D A => c_X0_putText l D A e115) ?_
  refine ww_aload_n 118 X dX11_agree_118 0 rfl rfl ?_
  obtain ⟨v119, e119, h⟩ := bO_some h
  refine ww_getR 119 X dX11_agree_119 fG_X11_70 e119 ?_
  refine ww_aload_n 122 X dX11_agree_122 0 rfl rfl ?_
  obtain ⟨v123, e123, h⟩ := bO_some h
  refine ww_getR 123 X dX11_agree_123 fG_X11_109 e123 ?_
  obtain ⟨v126, e126, h⟩ := bO_some h
  refine ww_getR 126 X dX11_agree_126 fG_X11_530 e126 ?_
  refine ww_aload_n 129 X dX11_agree_129 0 rfl rfl ?_
  obtain ⟨v130, e130, h⟩ := bO_some h
  refine ww_getR 130 X dX11_agree_130 fG_X11_109 e130 ?_
  obtain ⟨v133, e133, h⟩ := bO_some h
  refine ww_getR 133 X dX11_agree_133 fG_X11_533 e133 ?_
  refine ww_aload_n 136 X dX11_agree_136 1 rfl rfl ?_
  refine ww_aload 137 X dX11_agree_137 2 rfl ?_
  refine ww_aload_n 139 X dX11_agree_139 0 rfl rfl ?_
  obtain ⟨v140, e140, h⟩ := bO_some h
  refine ww_getR 140 X dX11_agree_140 fG_X11_109 e140 ?_
  obtain ⟨v143, e143, h⟩ := bO_some h
  refine ww_getI 143 X dX11_agree_143 fG_X11_351 e143 ?_
  refine ww_iconst 146 X (v := (4 : Int32)) dX11_agree_146 (by decide) ?_
  refine ww_icmp_ne 147 164 X dX11_agree_147 (by decide) (fun q => ?_) (fun q => ?_)
  · replace h := (if_neg q).symm.trans h
    refine ww_bipush 164 X (v := (16 : Int32)) dX11_agree_164 (by decide) ?_
    refine ww_aload_n 166 X dX11_agree_166 0 rfl rfl ?_
    obtain ⟨v167, e167, h⟩ := bO_some h
    refine ww_getR 167 X dX11_agree_167 fG_X11_109 e167 ?_
    obtain ⟨v170, e170, h⟩ := bO_some h
    refine ww_getR 170 X dX11_agree_170 fG_X11_530 e170 ?_
    obtain ⟨_, f173, h⟩ := bO_some h
    obtain ⟨M173, e173, h⟩ := bO_some h
    refine ww_callVV0 173 X dX11_agree_173 mY_X4_putDerived mL_X11_296 (rcv_spec f173) ⟨_, _, rfl⟩ (by decide) (As := [.ref v126, .ref v133, .ref l3, .ref l4, .int (16 : Int32), .ref v170]) (rest := []) rfl rfl ⟨Nat.le_of_ble_eq_true rfl, Nat.le_of_ble_eq_true rfl⟩ (Nat.le_of_ble_eq_true rfl) (fun l D A => c_X4_putDerived l D A e173) ?_
    exact ww_vretE 176 X hQ dX11_agree_176 h
  · replace h := (if_pos q).symm.trans h
    refine ww_gets 150 X dX11_agree_150 gS_X11_450 ?_
    refine ww_aload_n 153 X dX11_agree_153 0 rfl rfl ?_
    obtain ⟨v154, e154, h⟩ := bO_some h
    refine ww_getR 154 X dX11_agree_154 fG_X11_109 e154 ?_
    obtain ⟨v157, e157, h⟩ := bO_some h
    refine ww_getI 157 X dX11_agree_157 fG_X11_444 e157 ?_
    obtain ⟨v160, e160, h⟩ := bO_some h
    refine ww_iald 160 X dX11_agree_160 e160 ?_
    refine ww_goto 161 166 X dX11_agree_161 (by decide) ?_
    refine ww_aload_n 166 X dX11_agree_166 0 rfl rfl ?_
    obtain ⟨v167, e167, h⟩ := bO_some h
    refine ww_getR 167 X dX11_agree_167 fG_X11_109 e167 ?_
    obtain ⟨v170, e170, h⟩ := bO_some h
    refine ww_getR 170 X dX11_agree_170 fG_X11_530 e170 ?_
    obtain ⟨_, f173, h⟩ := bO_some h
    obtain ⟨M173, e173, h⟩ := bO_some h
    refine ww_callVV0 173 X dX11_agree_173 mY_X4_putDerived mL_X11_296 (rcv_spec f173) ⟨_, _, rfl⟩ (by decide) (As := [.ref v126, .ref v133, .ref l3, .ref l4, .int v160, .ref v170]) (rest := []) rfl rfl ⟨Nat.le_of_ble_eq_true rfl, Nat.le_of_ble_eq_true rfl⟩ (Nat.le_of_ble_eq_true rfl) (fun l D A => c_X4_putDerived l D A e173) ?_
    exact ww_vretE 176 X hQ dX11_agree_176 h
def P_X11_agree (G : Nat → Nat) (F : Nat) (l0 : Nat) (l1 : Nat) (l2 : Nat) (l3 : Nat) (l4 : Nat) (M : mM) : Option mM :=
  bO (gfR M l0 11 16) fun v1 =>
  bO (rcv M v1 3) fun _ =>
  bP (P_X3_load G F v1 l2 M) fun v5 M5 =>
  bO (gfR M5 l0 11 16) fun v10 =>
  bO (gfR M5 l0 11 16) fun v15 =>
  bO (gfR M5 v15 3 1) fun v18 =>
  bO (gfR M5 l0 11 3) fun v22 =>
  bO (gfR M5 l0 11 16) fun v26 =>
  bO (gfR M5 v26 3 0) fun v29 =>
  bO (rcv M5 v10 3) fun _ =>
  bO (P_X3_sumUp G F v10 l1 v18 v22 v29 M5) fun M32 =>
  bO (gfR M32 l0 11 16) fun v36 =>
  bO (gfR M32 l0 11 17) fun v40 =>
  bO (gfR M32 v40 10 12) fun v43 =>
  bO (rcv M32 v36 3) fun _ =>
  bP (P_X3_putSum G F v36 v43 M32) fun v46 M46 =>
  bO (gfR M46 l0 11 17) fun v51 =>
  bO (gfR M46 v51 10 12) fun v54 =>
  bO (rcv M46 v54 0) fun _ =>
  bO (P_X0_cutTo G F v54 (32 : Int32) M46) fun M59 =>
  bO (gfR M59 l0 11 17) fun v63 =>
  bO (gfR M59 v63 10 13) fun v66 =>
  bO (rcv M59 v66 0) fun _ =>
  bO (P_X0_clear G F v66 M59) fun M69 =>
  bO (gfR M69 l0 11 17) fun v73 =>
  bO (gfR M69 v73 10 13) fun v76 =>
  bO (gfR M69 l0 11 17) fun v80 =>
  bO (gfI M69 v80 10 1) fun v83 =>
  if v83 = (4 : Int32) then (bO (gfR M69 l0 11 17) fun v91 =>
  bO (gfI M69 v91 10 2) fun v94 =>
  bP (P_X11_wayName G F v94 M69) fun v97 M97 =>
  B_X11_agree_115 G F l0 l3 l4 v76 v97 M97)
  else (bO (gfR M69 l0 11 17) fun v105 =>
  bO (gfI M69 v105 10 1) fun v108 =>
  bP (P_X11_algName G F ((5 : Int32) + v108) M69) fun v112 M112 =>
  B_X11_agree_115 G F l0 l3 l4 v76 v112 M112)
set_option maxHeartbeats 4000000 in
set_option maxRecDepth 100000 in
theorem wP_X11_agree {G : Nat → Nat} {F : Nat} {x : mXT} {sz : Nat} {M0 : mM} (X : mCX G RX11 cX11_agree 5 none "agree" rmX11_agree x) (hQ : mQV x M0 (sz, 0, 0)) {l0 : Nat} {l1 : Nat} {l2 : Nat} {l3 : Nat} {l4 : Nat} {M : mM} (h : P_X11_agree G F l0 l1 l2 l3 l4 M = some M0) : WW x (sz, 0, 0) M 0 [(0, .ref l0), (1, .ref l1), (2, .ref l2), (3, .ref l3), (4, .ref l4)] [] := by
  unfold P_X11_agree at h
  refine ww_aload_n 0 X dX11_agree_0 0 rfl rfl ?_
  obtain ⟨v1, e1, h⟩ := bO_some h
  refine ww_getR 1 X dX11_agree_1 fG_X11_102 e1 ?_
  refine ww_aload_n 4 X dX11_agree_4 2 rfl rfl ?_
  obtain ⟨_, f5, h⟩ := bO_some h
  obtain ⟨v5, M5, e5, h⟩ := bP_some h
  refine ww_callVI0 5 X dX11_agree_5 mY_X3_load mL_X11_279 (rcv_spec f5) ⟨_, _, rfl⟩ (by decide) (As := [.ref l2]) (rest := []) rfl rfl ⟨Nat.le_of_ble_eq_true rfl, Nat.le_of_ble_eq_true rfl⟩ (Nat.le_of_ble_eq_true rfl) (fun l D A => c_X3_load l D A e5) ?_
  refine ww_pop 8 X dX11_agree_8 rfl ?_
  refine ww_aload_n 9 X dX11_agree_9 0 rfl rfl ?_
  obtain ⟨v10, e10, h⟩ := bO_some h
  refine ww_getR 10 X dX11_agree_10 fG_X11_102 e10 ?_
  refine ww_aload_n 13 X dX11_agree_13 1 rfl rfl ?_
  refine ww_aload_n 14 X dX11_agree_14 0 rfl rfl ?_
  obtain ⟨v15, e15, h⟩ := bO_some h
  refine ww_getR 15 X dX11_agree_15 fG_X11_102 e15 ?_
  obtain ⟨v18, e18, h⟩ := bO_some h
  refine ww_getR 18 X dX11_agree_18 fG_X11_286 e18 ?_
  refine ww_aload_n 21 X dX11_agree_21 0 rfl rfl ?_
  obtain ⟨v22, e22, h⟩ := bO_some h
  refine ww_getR 22 X dX11_agree_22 fG_X11_25 e22 ?_
  refine ww_aload_n 25 X dX11_agree_25 0 rfl rfl ?_
  obtain ⟨v26, e26, h⟩ := bO_some h
  refine ww_getR 26 X dX11_agree_26 fG_X11_102 e26 ?_
  obtain ⟨v29, e29, h⟩ := bO_some h
  refine ww_getR 29 X dX11_agree_29 fG_X11_282 e29 ?_
  obtain ⟨_, f32, h⟩ := bO_some h
  obtain ⟨M32, e32, h⟩ := bO_some h
  refine ww_callVV0 32 X dX11_agree_32 mY_X3_sumUp mL_X11_289 (rcv_spec f32) ⟨_, _, rfl⟩ (by decide) (As := [.ref l1, .ref v18, .ref v22, .ref v29]) (rest := []) rfl rfl ⟨Nat.le_of_ble_eq_true rfl, Nat.le_of_ble_eq_true rfl⟩ (Nat.le_of_ble_eq_true rfl) (fun l D A => c_X3_sumUp l D A e32) ?_
  refine ww_aload_n 35 X dX11_agree_35 0 rfl rfl ?_
  obtain ⟨v36, e36, h⟩ := bO_some h
  refine ww_getR 36 X dX11_agree_36 fG_X11_102 e36 ?_
  refine ww_aload_n 39 X dX11_agree_39 0 rfl rfl ?_
  obtain ⟨v40, e40, h⟩ := bO_some h
  refine ww_getR 40 X dX11_agree_40 fG_X11_109 e40 ?_
  obtain ⟨v43, e43, h⟩ := bO_some h
  refine ww_getR 43 X dX11_agree_43 fG_X11_530 e43 ?_
  obtain ⟨_, f46, h⟩ := bO_some h
  obtain ⟨v46, M46, e46, h⟩ := bP_some h
  refine ww_callVI0 46 X dX11_agree_46 mY_X3_putSum mL_X11_293 (rcv_spec f46) ⟨_, _, rfl⟩ (by decide) (As := [.ref v43]) (rest := []) rfl rfl ⟨Nat.le_of_ble_eq_true rfl, Nat.le_of_ble_eq_true rfl⟩ (Nat.le_of_ble_eq_true rfl) (fun l D A => c_X3_putSum l D A e46) ?_
  refine ww_pop 49 X dX11_agree_49 rfl ?_
  refine ww_aload_n 50 X dX11_agree_50 0 rfl rfl ?_
  obtain ⟨v51, e51, h⟩ := bO_some h
  refine ww_getR 51 X dX11_agree_51 fG_X11_109 e51 ?_
  obtain ⟨v54, e54, h⟩ := bO_some h
  refine ww_getR 54 X dX11_agree_54 fG_X11_530 e54 ?_
  refine ww_bipush 57 X (v := (32 : Int32)) dX11_agree_57 (by decide) ?_
  obtain ⟨_, f59, h⟩ := bO_some h
  obtain ⟨M59, e59, h⟩ := bO_some h
  refine ww_callVV0 59 X dX11_agree_59 mY_X0_cutTo mL_X11_120 (rcv_spec f59) ⟨_, _, rfl⟩ (by decide) (As := [.int (32 : Int32)]) (rest := []) rfl rfl ⟨Nat.le_of_ble_eq_true rfl, Nat.le_of_ble_eq_true rfl⟩ (Nat.le_of_ble_eq_true rfl) (fun l D A => c_X0_cutTo l D A e59) ?_
  refine ww_aload_n 62 X dX11_agree_62 0 rfl rfl ?_
  obtain ⟨v63, e63, h⟩ := bO_some h
  refine ww_getR 63 X dX11_agree_63 fG_X11_109 e63 ?_
  obtain ⟨v66, e66, h⟩ := bO_some h
  refine ww_getR 66 X dX11_agree_66 fG_X11_533 e66 ?_
  obtain ⟨_, f69, h⟩ := bO_some h
  obtain ⟨M69, e69, h⟩ := bO_some h
  refine ww_callVV0 69 X dX11_agree_69 mY_X0_clear mL_X11_131 (rcv_spec f69) ⟨_, _, rfl⟩ (by decide) (As := []) (rest := []) rfl rfl ⟨Nat.le_of_ble_eq_true rfl, Nat.le_of_ble_eq_true rfl⟩ (Nat.le_of_ble_eq_true rfl) (fun l D A => c_X0_clear l D A e69) ?_
  refine ww_aload_n 72 X dX11_agree_72 0 rfl rfl ?_
  obtain ⟨v73, e73, h⟩ := bO_some h
  refine ww_getR 73 X dX11_agree_73 fG_X11_109 e73 ?_
  obtain ⟨v76, e76, h⟩ := bO_some h
  refine ww_getR 76 X dX11_agree_76 fG_X11_533 e76 ?_
  refine ww_aload_n 79 X dX11_agree_79 0 rfl rfl ?_
  obtain ⟨v80, e80, h⟩ := bO_some h
  refine ww_getR 80 X dX11_agree_80 fG_X11_109 e80 ?_
  obtain ⟨v83, e83, h⟩ := bO_some h
  refine ww_getI 83 X dX11_agree_83 fG_X11_351 e83 ?_
  refine ww_iconst 86 X (v := (4 : Int32)) dX11_agree_86 (by decide) ?_
  refine ww_icmp_ne 87 103 X dX11_agree_87 (by decide) (fun q => ?_) (fun q => ?_)
  · replace h := (if_neg q).symm.trans h
    refine ww_iconst 103 X (v := (5 : Int32)) dX11_agree_103 (by decide) ?_
    refine ww_aload_n 104 X dX11_agree_104 0 rfl rfl ?_
    obtain ⟨v105, e105, h⟩ := bO_some h
    refine ww_getR 105 X dX11_agree_105 fG_X11_109 e105 ?_
    obtain ⟨v108, e108, h⟩ := bO_some h
    refine ww_getI 108 X dX11_agree_108 fG_X11_351 e108 ?_
    refine ww_iadd 111 X dX11_agree_111 ?_
    obtain ⟨v112, M112, e112, h⟩ := bP_some h
    refine ww_callSR0 112 X dX11_agree_112 mY_X11_algName mL_X11_540 (As := [.int ((5 : Int32) + v108)]) (rest := [.ref v76]) rfl rfl ⟨Nat.le_of_ble_eq_true rfl, Nat.le_of_ble_eq_true rfl⟩ (Nat.le_of_ble_eq_true rfl) (fun l D A => c_X11_algName l D A e112) ?_
    exact ww_sub [0, 3, 4] rfl (wB_X11_agree_115 X hQ h)
  · replace h := (if_pos q).symm.trans h
    refine ww_aload_n 90 X dX11_agree_90 0 rfl rfl ?_
    obtain ⟨v91, e91, h⟩ := bO_some h
    refine ww_getR 91 X dX11_agree_91 fG_X11_109 e91 ?_
    obtain ⟨v94, e94, h⟩ := bO_some h
    refine ww_getI 94 X dX11_agree_94 fG_X11_444 e94 ?_
    obtain ⟨v97, M97, e97, h⟩ := bP_some h
    refine ww_callSR0 97 X dX11_agree_97 mY_X11_wayName mL_X11_536 (As := [.int v94]) (rest := [.ref v76]) rfl rfl ⟨Nat.le_of_ble_eq_true rfl, Nat.le_of_ble_eq_true rfl⟩ (Nat.le_of_ble_eq_true rfl) (fun l D A => c_X11_wayName l D A e97) ?_
    refine ww_goto 100 115 X dX11_agree_100 (by decide) ?_
    exact ww_sub [0, 3, 4] rfl (wB_X11_agree_115 X hQ h)
theorem c_X11_agree {G : Nat → Nat} {F sz : Nat} {M0 : mM} (l : Launch) (D : mD) (A : Nat → Prop) {l0 : Nat} {l1 : Nat} {l2 : Nat} {l3 : Nat} {l4 : Nat} {M : mM} (h : P_X11_agree G F l0 l1 l2 l3 l4 M = some M0) : mMetV l D G A yX11_agree cX11_agree 5 none 5 167 0 0 [.ref l0, .ref l1, .ref l2, .ref l3, .ref l4] M sz M0 sz := mMetV_of l D G A (by decide) (Nat.le_of_ble_eq_true rfl) (fun x X hQ => wP_X11_agree X hQ h)
/-! SealedTokens.makeSealedKey(LSealedTokens$Key;LSealedTokens$Bytes;LSealedTokens$Bytes;)V -/
theorem dX11_makeSealedKey_0 : decode cX11_makeSealedKey 0 = .ok (.aload_n 0, 1) := by decide +kernel
theorem dX11_makeSealedKey_1 : decode cX11_makeSealedKey 1 = .ok (.getfield 109, 3) := by decide +kernel
theorem dX11_makeSealedKey_4 : decode cX11_makeSealedKey 4 = .ok (.getfield 431, 3) := by decide +kernel
theorem dX11_makeSealedKey_7 : decode cX11_makeSealedKey 7 = .ok (.invokevirtual 131, 3) := by decide +kernel
theorem dX11_makeSealedKey_10 : decode cX11_makeSealedKey 10 = .ok (.aload_n 0, 1) := by decide +kernel
theorem dX11_makeSealedKey_11 : decode cX11_makeSealedKey 11 = .ok (.getfield 109, 3) := by decide +kernel
theorem dX11_makeSealedKey_14 : decode cX11_makeSealedKey 14 = .ok (.getfield 351, 3) := by decide +kernel
theorem dX11_makeSealedKey_17 : decode cX11_makeSealedKey 17 = .ok (.iconst 4, 1) := by decide +kernel
theorem dX11_makeSealedKey_18 : decode cX11_makeSealedKey 18 = .ok (.if_icmp .lt 20, 3) := by decide +kernel
theorem dX11_makeSealedKey_21 : decode cX11_makeSealedKey 21 = .ok (.aload_n 0, 1) := by decide +kernel
theorem dX11_makeSealedKey_22 : decode cX11_makeSealedKey 22 = .ok (.aload_n 0, 1) := by decide +kernel
theorem dX11_makeSealedKey_23 : decode cX11_makeSealedKey 23 = .ok (.getfield 109, 3) := by decide +kernel
theorem dX11_makeSealedKey_26 : decode cX11_makeSealedKey 26 = .ok (.getfield 406, 3) := by decide +kernel
theorem dX11_makeSealedKey_29 : decode cX11_makeSealedKey 29 = .ok (.aload_n 1, 1) := by decide +kernel
theorem dX11_makeSealedKey_30 : decode cX11_makeSealedKey 30 = .ok (.getfield 316, 3) := by decide +kernel
theorem dX11_makeSealedKey_33 : decode cX11_makeSealedKey 33 = .ok (.aload_n 2, 1) := by decide +kernel
theorem dX11_makeSealedKey_34 : decode cX11_makeSealedKey 34 = .ok (.aload_n 3, 1) := by decide +kernel
theorem dX11_makeSealedKey_35 : decode cX11_makeSealedKey 35 = .ok (.invokevirtual 547, 3) := by decide +kernel
theorem dX11_makeSealedKey_38 : decode cX11_makeSealedKey 38 = .ok (.aload_n 0, 1) := by decide +kernel
theorem dX11_makeSealedKey_39 : decode cX11_makeSealedKey 39 = .ok (.getfield 109, 3) := by decide +kernel
theorem dX11_makeSealedKey_42 : decode cX11_makeSealedKey 42 = .ok (.getfield 351, 3) := by decide +kernel
theorem dX11_makeSealedKey_45 : decode cX11_makeSealedKey 45 = .ok (.tableswitch 146 0 5 #[39, 146, 146, 56, 95, 115], 39) := by decide +kernel
theorem dX11_makeSealedKey_84 : decode cX11_makeSealedKey 84 = .ok (.aload_n 0, 1) := by decide +kernel
theorem dX11_makeSealedKey_85 : decode cX11_makeSealedKey 85 = .ok (.getfield 109, 3) := by decide +kernel
theorem dX11_makeSealedKey_88 : decode cX11_makeSealedKey 88 = .ok (.getfield 425, 3) := by decide +kernel
theorem dX11_makeSealedKey_91 : decode cX11_makeSealedKey 91 = .ok (.aload_n 1, 1) := by decide +kernel
theorem dX11_makeSealedKey_92 : decode cX11_makeSealedKey 92 = .ok (.getfield 316, 3) := by decide +kernel
theorem dX11_makeSealedKey_95 : decode cX11_makeSealedKey 95 = .ok (.invokevirtual 127, 3) := by decide +kernel
theorem dX11_makeSealedKey_98 : decode cX11_makeSealedKey 98 = .ok (.goto 118, 3) := by decide +kernel
theorem dX11_makeSealedKey_101 : decode cX11_makeSealedKey 101 = .ok (.aload_n 0, 1) := by decide +kernel
theorem dX11_makeSealedKey_102 : decode cX11_makeSealedKey 102 = .ok (.getfield 95, 3) := by decide +kernel
theorem dX11_makeSealedKey_105 : decode cX11_makeSealedKey 105 = .ok (.aload_n 0, 1) := by decide +kernel
theorem dX11_makeSealedKey_106 : decode cX11_makeSealedKey 106 = .ok (.getfield 109, 3) := by decide +kernel
theorem dX11_makeSealedKey_109 : decode cX11_makeSealedKey 109 = .ok (.getfield 425, 3) := by decide +kernel
theorem dX11_makeSealedKey_112 : decode cX11_makeSealedKey 112 = .ok (.aload_n 0, 1) := by decide +kernel
theorem dX11_makeSealedKey_113 : decode cX11_makeSealedKey 113 = .ok (.getfield 109, 3) := by decide +kernel
theorem dX11_makeSealedKey_116 : decode cX11_makeSealedKey 116 = .ok (.getfield 550, 3) := by decide +kernel
theorem dX11_makeSealedKey_119 : decode cX11_makeSealedKey 119 = .ok (.aload_n 1, 1) := by decide +kernel
theorem dX11_makeSealedKey_120 : decode cX11_makeSealedKey 120 = .ok (.getfield 456, 3) := by decide +kernel
theorem dX11_makeSealedKey_123 : decode cX11_makeSealedKey 123 = .ok (.aload_n 1, 1) := by decide +kernel
theorem dX11_makeSealedKey_124 : decode cX11_makeSealedKey 124 = .ok (.getfield 316, 3) := by decide +kernel
theorem dX11_makeSealedKey_127 : decode cX11_makeSealedKey 127 = .ok (.aload_n 0, 1) := by decide +kernel
theorem dX11_makeSealedKey_128 : decode cX11_makeSealedKey 128 = .ok (.getfield 109, 3) := by decide +kernel
theorem dX11_makeSealedKey_131 : decode cX11_makeSealedKey 131 = .ok (.getfield 431, 3) := by decide +kernel
theorem dX11_makeSealedKey_134 : decode cX11_makeSealedKey 134 = .ok (.invokevirtual 553, 3) := by decide +kernel
theorem dX11_makeSealedKey_137 : decode cX11_makeSealedKey 137 = .ok (.goto 79, 3) := by decide +kernel
theorem dX11_makeSealedKey_140 : decode cX11_makeSealedKey 140 = .ok (.aload_n 0, 1) := by decide +kernel
theorem dX11_makeSealedKey_141 : decode cX11_makeSealedKey 141 = .ok (.getfield 109, 3) := by decide +kernel
theorem dX11_makeSealedKey_144 : decode cX11_makeSealedKey 144 = .ok (.getfield 425, 3) := by decide +kernel
theorem dX11_makeSealedKey_147 : decode cX11_makeSealedKey 147 = .ok (.aload_n 0, 1) := by decide +kernel
theorem dX11_makeSealedKey_148 : decode cX11_makeSealedKey 148 = .ok (.getfield 109, 3) := by decide +kernel
theorem dX11_makeSealedKey_151 : decode cX11_makeSealedKey 151 = .ok (.getfield 530, 3) := by decide +kernel
theorem dX11_makeSealedKey_154 : decode cX11_makeSealedKey 154 = .ok (.invokevirtual 127, 3) := by decide +kernel
theorem dX11_makeSealedKey_157 : decode cX11_makeSealedKey 157 = .ok (.goto 59, 3) := by decide +kernel
theorem dX11_makeSealedKey_160 : decode cX11_makeSealedKey 160 = .ok (.aload_n 0, 1) := by decide +kernel
theorem dX11_makeSealedKey_161 : decode cX11_makeSealedKey 161 = .ok (.getfield 77, 3) := by decide +kernel
theorem dX11_makeSealedKey_164 : decode cX11_makeSealedKey 164 = .ok (.aload_n 0, 1) := by decide +kernel
theorem dX11_makeSealedKey_165 : decode cX11_makeSealedKey 165 = .ok (.getfield 109, 3) := by decide +kernel
theorem dX11_makeSealedKey_168 : decode cX11_makeSealedKey 168 = .ok (.getfield 530, 3) := by decide +kernel
theorem dX11_makeSealedKey_171 : decode cX11_makeSealedKey 171 = .ok (.aload_n 0, 1) := by decide +kernel
theorem dX11_makeSealedKey_172 : decode cX11_makeSealedKey 172 = .ok (.getfield 109, 3) := by decide +kernel
theorem dX11_makeSealedKey_175 : decode cX11_makeSealedKey 175 = .ok (.getfield 425, 3) := by decide +kernel
theorem dX11_makeSealedKey_178 : decode cX11_makeSealedKey 178 = .ok (.aload_n 0, 1) := by decide +kernel
theorem dX11_makeSealedKey_179 : decode cX11_makeSealedKey 179 = .ok (.getfield 109, 3) := by decide +kernel
theorem dX11_makeSealedKey_182 : decode cX11_makeSealedKey 182 = .ok (.getfield 431, 3) := by decide +kernel
theorem dX11_makeSealedKey_185 : decode cX11_makeSealedKey 185 = .ok (.invokevirtual 242, 3) := by decide +kernel
theorem dX11_makeSealedKey_188 : decode cX11_makeSealedKey 188 = .ok (.goto 28, 3) := by decide +kernel
theorem dX11_makeSealedKey_191 : decode cX11_makeSealedKey 191 = .ok (.aload_n 0, 1) := by decide +kernel
theorem dX11_makeSealedKey_192 : decode cX11_makeSealedKey 192 = .ok (.getfield 77, 3) := by decide +kernel
theorem dX11_makeSealedKey_195 : decode cX11_makeSealedKey 195 = .ok (.aload_n 1, 1) := by decide +kernel
theorem dX11_makeSealedKey_196 : decode cX11_makeSealedKey 196 = .ok (.getfield 316, 3) := by decide +kernel
theorem dX11_makeSealedKey_199 : decode cX11_makeSealedKey 199 = .ok (.aload_n 0, 1) := by decide +kernel
theorem dX11_makeSealedKey_200 : decode cX11_makeSealedKey 200 = .ok (.getfield 109, 3) := by decide +kernel
theorem dX11_makeSealedKey_203 : decode cX11_makeSealedKey 203 = .ok (.getfield 425, 3) := by decide +kernel
theorem dX11_makeSealedKey_206 : decode cX11_makeSealedKey 206 = .ok (.aload_n 0, 1) := by decide +kernel
theorem dX11_makeSealedKey_207 : decode cX11_makeSealedKey 207 = .ok (.getfield 109, 3) := by decide +kernel
theorem dX11_makeSealedKey_210 : decode cX11_makeSealedKey 210 = .ok (.getfield 431, 3) := by decide +kernel
theorem dX11_makeSealedKey_213 : decode cX11_makeSealedKey 213 = .ok (.invokevirtual 242, 3) := by decide +kernel
theorem dX11_makeSealedKey_216 : decode cX11_makeSealedKey 216 = .ok (.return_, 1) := by decide +kernel
abbrev rmX11_makeSealedKey : Room := { frames := 6, cells := 0, slots := 0, locals := 193 }
def B_X11_makeSealedKey_38 (G : Nat → Nat) (F : Nat) (l0 : Nat) (l1 : Nat) (M : mM) : Option mM :=
  bO (gfR M l0 11 17) fun v39 =>
  bO (gfI M v39 10 1) fun v42 =>
  if v42 = (0 : Int32) then (bO (gfR M l0 11 17) fun v85 =>
  bO (gfR M v85 10 9) fun v88 =>
  bO (gfR M l1 5 6) fun v92 =>
  bO (rcv M v88 0) fun _ =>
  bO (P_X0_become G F v88 v92 M) fun M95 =>
  some M95)
  else (if v42 = (1 : Int32) then (bO (gfR M l0 11 13) fun v192 =>
  bO (gfR M l1 5 6) fun v196 =>
  bO (gfR M l0 11 17) fun v200 =>
  bO (gfR M v200 10 9) fun v203 =>
  bO (gfR M l0 11 17) fun v207 =>
  bO (gfR M v207 10 10) fun v210 =>
  bO (rcv M v192 1) fun _ =>
  bO (P_X1_putWrapped G F v192 v196 v203 v210 M) fun M213 =>
  some M213)
  else (if v42 = (2 : Int32) then (bO (gfR M l0 11 13) fun v192 =>
  bO (gfR M l1 5 6) fun v196 =>
  bO (gfR M l0 11 17) fun v200 =>
  bO (gfR M v200 10 9) fun v203 =>
  bO (gfR M l0 11 17) fun v207 =>
  bO (gfR M v207 10 10) fun v210 =>
  bO (rcv M v192 1) fun _ =>
  bO (P_X1_putWrapped G F v192 v196 v203 v210 M) fun M213 =>
  some M213)
  else (if v42 = (3 : Int32) then (bO (gfR M l0 11 15) fun v102 =>
  bO (gfR M l0 11 17) fun v106 =>
  bO (gfR M v106 10 9) fun v109 =>
  bO (gfR M l0 11 17) fun v113 =>
  bO (gfR M v113 10 8) fun v116 =>
  bO (gfR M l1 5 7) fun v120 =>
  bO (gfR M l1 5 6) fun v124 =>
  bO (gfR M l0 11 17) fun v128 =>
  bO (gfR M v128 10 10) fun v131 =>
  bO (rcv M v102 8) fun _ =>
  bO (P_X8_sealOaep G F v102 v109 v116 v120 v124 v131 M) fun M134 =>
  some M134)
  else (if v42 = (4 : Int32) then (bO (gfR M l0 11 17) fun v141 =>
  bO (gfR M v141 10 9) fun v144 =>
  bO (gfR M l0 11 17) fun v148 =>
  bO (gfR M v148 10 12) fun v151 =>
  bO (rcv M v144 0) fun _ =>
  bO (P_X0_become G F v144 v151 M) fun M154 =>
  some M154)
  else (if v42 = (5 : Int32) then (bO (gfR M l0 11 13) fun v161 =>
  bO (gfR M l0 11 17) fun v165 =>
  bO (gfR M v165 10 12) fun v168 =>
  bO (gfR M l0 11 17) fun v172 =>
  bO (gfR M v172 10 9) fun v175 =>
  bO (gfR M l0 11 17) fun v179 =>
  bO (gfR M v179 10 10) fun v182 =>
  bO (rcv M v161 1) fun _ =>
  bO (P_X1_putWrapped G F v161 v168 v175 v182 M) fun M185 =>
  some M185)
  else (bO (gfR M l0 11 13) fun v192 =>
  bO (gfR M l1 5 6) fun v196 =>
  bO (gfR M l0 11 17) fun v200 =>
  bO (gfR M v200 10 9) fun v203 =>
  bO (gfR M l0 11 17) fun v207 =>
  bO (gfR M v207 10 10) fun v210 =>
  bO (rcv M v192 1) fun _ =>
  bO (P_X1_putWrapped G F v192 v196 v203 v210 M) fun M213 =>
  some M213))))))
set_option maxHeartbeats 4000000 in
set_option maxRecDepth 100000 in
theorem wB_X11_makeSealedKey_38 {G : Nat → Nat} {F : Nat} {x : mXT} {sz : Nat} {M0 : mM} (X : mCX G RX11 cX11_makeSealedKey 4 none "makeSealedKey" rmX11_makeSealedKey x) (hQ : mQV x M0 (sz, 0, 0)) {l0 : Nat} {l1 : Nat} {M : mM} (h : B_X11_makeSealedKey_38 G F l0 l1 M = some M0) : WW x (sz, 0, 0) M 38 [(0, .ref l0), (1, .ref l1)] [] := by
  unfold B_X11_makeSealedKey_38 at h
  refine ww_aload_n 38 X dX11_makeSealedKey_38 0 rfl rfl ?_
  obtain ⟨v39, e39, h⟩ := bO_some h
  refine ww_getR 39 X dX11_makeSealedKey_39 fG_X11_109 e39 ?_
  obtain ⟨v42, e42, h⟩ := bO_some h
  refine ww_getI 42 X dX11_makeSealedKey_42 fG_X11_351 e42 ?_
  by_cases q0 : v42 = (0 : Int32)
  · replace h := (if_pos q0).symm.trans h
    refine ww_tableIn 45 84 X dX11_makeSealedKey_45 (off := 39) (by rw [q0]; decide) (by rw [q0]; decide) (by rw [q0]; decide) (by decide) ?_
    refine ww_aload_n 84 X dX11_makeSealedKey_84 0 rfl rfl ?_
    obtain ⟨v85, e85, h⟩ := bO_some h
    refine ww_getR 85 X dX11_makeSealedKey_85 fG_X11_109 e85 ?_
    obtain ⟨v88, e88, h⟩ := bO_some h
    refine ww_getR 88 X dX11_makeSealedKey_88 fG_X11_425 e88 ?_
    refine ww_aload_n 91 X dX11_makeSealedKey_91 1 rfl rfl ?_
    obtain ⟨v92, e92, h⟩ := bO_some h
    refine ww_getR 92 X dX11_makeSealedKey_92 fG_X11_316 e92 ?_
    obtain ⟨_, f95, h⟩ := bO_some h
    obtain ⟨M95, e95, h⟩ := bO_some h
    refine ww_callVV0 95 X dX11_makeSealedKey_95 mY_X0_become mL_X11_127 (rcv_spec f95) ⟨_, _, rfl⟩ (by decide) (As := [.ref v92]) (rest := []) rfl rfl ⟨Nat.le_of_ble_eq_true rfl, Nat.le_of_ble_eq_true rfl⟩ (Nat.le_of_ble_eq_true rfl) (fun l D A => c_X0_become l D A e95) ?_
    refine ww_goto 98 216 X dX11_makeSealedKey_98 (by decide) ?_
    exact ww_vretE 216 X hQ dX11_makeSealedKey_216 h
  · replace h := (if_neg q0).symm.trans h
    by_cases q1 : v42 = (1 : Int32)
    · replace h := (if_pos q1).symm.trans h
      refine ww_tableIn 45 191 X dX11_makeSealedKey_45 (off := 146) (by rw [q1]; decide) (by rw [q1]; decide) (by rw [q1]; decide) (by decide) ?_
      refine ww_aload_n 191 X dX11_makeSealedKey_191 0 rfl rfl ?_
      obtain ⟨v192, e192, h⟩ := bO_some h
      refine ww_getR 192 X dX11_makeSealedKey_192 fG_X11_77 e192 ?_
      refine ww_aload_n 195 X dX11_makeSealedKey_195 1 rfl rfl ?_
      obtain ⟨v196, e196, h⟩ := bO_some h
      refine ww_getR 196 X dX11_makeSealedKey_196 fG_X11_316 e196 ?_
      refine ww_aload_n 199 X dX11_makeSealedKey_199 0 rfl rfl ?_
      obtain ⟨v200, e200, h⟩ := bO_some h
      refine ww_getR 200 X dX11_makeSealedKey_200 fG_X11_109 e200 ?_
      obtain ⟨v203, e203, h⟩ := bO_some h
      refine ww_getR 203 X dX11_makeSealedKey_203 fG_X11_425 e203 ?_
      refine ww_aload_n 206 X dX11_makeSealedKey_206 0 rfl rfl ?_
      obtain ⟨v207, e207, h⟩ := bO_some h
      refine ww_getR 207 X dX11_makeSealedKey_207 fG_X11_109 e207 ?_
      obtain ⟨v210, e210, h⟩ := bO_some h
      refine ww_getR 210 X dX11_makeSealedKey_210 fG_X11_431 e210 ?_
      obtain ⟨_, f213, h⟩ := bO_some h
      obtain ⟨M213, e213, h⟩ := bO_some h
      refine ww_callVV0 213 X dX11_makeSealedKey_213 mY_X1_putWrapped mL_X11_242 (rcv_spec f213) ⟨_, _, rfl⟩ (by decide) (As := [.ref v196, .ref v203, .ref v210]) (rest := []) rfl rfl ⟨Nat.le_of_ble_eq_true rfl, Nat.le_of_ble_eq_true rfl⟩ (Nat.le_of_ble_eq_true rfl) (fun l D A => c_X1_putWrapped l D A e213) ?_
      exact ww_vretE 216 X hQ dX11_makeSealedKey_216 h
    · replace h := (if_neg q1).symm.trans h
      by_cases q2 : v42 = (2 : Int32)
      · replace h := (if_pos q2).symm.trans h
        refine ww_tableIn 45 191 X dX11_makeSealedKey_45 (off := 146) (by rw [q2]; decide) (by rw [q2]; decide) (by rw [q2]; decide) (by decide) ?_
        refine ww_aload_n 191 X dX11_makeSealedKey_191 0 rfl rfl ?_
        obtain ⟨v192, e192, h⟩ := bO_some h
        refine ww_getR 192 X dX11_makeSealedKey_192 fG_X11_77 e192 ?_
        refine ww_aload_n 195 X dX11_makeSealedKey_195 1 rfl rfl ?_
        obtain ⟨v196, e196, h⟩ := bO_some h
        refine ww_getR 196 X dX11_makeSealedKey_196 fG_X11_316 e196 ?_
        refine ww_aload_n 199 X dX11_makeSealedKey_199 0 rfl rfl ?_
        obtain ⟨v200, e200, h⟩ := bO_some h
        refine ww_getR 200 X dX11_makeSealedKey_200 fG_X11_109 e200 ?_
        obtain ⟨v203, e203, h⟩ := bO_some h
        refine ww_getR 203 X dX11_makeSealedKey_203 fG_X11_425 e203 ?_
        refine ww_aload_n 206 X dX11_makeSealedKey_206 0 rfl rfl ?_
        obtain ⟨v207, e207, h⟩ := bO_some h
        refine ww_getR 207 X dX11_makeSealedKey_207 fG_X11_109 e207 ?_
        obtain ⟨v210, e210, h⟩ := bO_some h
        refine ww_getR 210 X dX11_makeSealedKey_210 fG_X11_431 e210 ?_
        obtain ⟨_, f213, h⟩ := bO_some h
        obtain ⟨M213, e213, h⟩ := bO_some h
        refine ww_callVV0 213 X dX11_makeSealedKey_213 mY_X1_putWrapped mL_X11_242 (rcv_spec f213) ⟨_, _, rfl⟩ (by decide) (As := [.ref v196, .ref v203, .ref v210]) (rest := []) rfl rfl ⟨Nat.le_of_ble_eq_true rfl, Nat.le_of_ble_eq_true rfl⟩ (Nat.le_of_ble_eq_true rfl) (fun l D A => c_X1_putWrapped l D A e213) ?_
        exact ww_vretE 216 X hQ dX11_makeSealedKey_216 h
      · replace h := (if_neg q2).symm.trans h
        by_cases q3 : v42 = (3 : Int32)
        · replace h := (if_pos q3).symm.trans h
          refine ww_tableIn 45 101 X dX11_makeSealedKey_45 (off := 56) (by rw [q3]; decide) (by rw [q3]; decide) (by rw [q3]; decide) (by decide) ?_
          refine ww_aload_n 101 X dX11_makeSealedKey_101 0 rfl rfl ?_
          obtain ⟨v102, e102, h⟩ := bO_some h
          refine ww_getR 102 X dX11_makeSealedKey_102 fG_X11_95 e102 ?_
          refine ww_aload_n 105 X dX11_makeSealedKey_105 0 rfl rfl ?_
          obtain ⟨v106, e106, h⟩ := bO_some h
          refine ww_getR 106 X dX11_makeSealedKey_106 fG_X11_109 e106 ?_
          obtain ⟨v109, e109, h⟩ := bO_some h
          refine ww_getR 109 X dX11_makeSealedKey_109 fG_X11_425 e109 ?_
          refine ww_aload_n 112 X dX11_makeSealedKey_112 0 rfl rfl ?_
          obtain ⟨v113, e113, h⟩ := bO_some h
          refine ww_getR 113 X dX11_makeSealedKey_113 fG_X11_109 e113 ?_
          obtain ⟨v116, e116, h⟩ := bO_some h
          refine ww_getR 116 X dX11_makeSealedKey_116 fG_X11_550 e116 ?_
          refine ww_aload_n 119 X dX11_makeSealedKey_119 1 rfl rfl ?_
          obtain ⟨v120, e120, h⟩ := bO_some h
          refine ww_getR 120 X dX11_makeSealedKey_120 fG_X11_456 e120 ?_
          refine ww_aload_n 123 X dX11_makeSealedKey_123 1 rfl rfl ?_
          obtain ⟨v124, e124, h⟩ := bO_some h
          refine ww_getR 124 X dX11_makeSealedKey_124 fG_X11_316 e124 ?_
          refine ww_aload_n 127 X dX11_makeSealedKey_127 0 rfl rfl ?_
          obtain ⟨v128, e128, h⟩ := bO_some h
          refine ww_getR 128 X dX11_makeSealedKey_128 fG_X11_109 e128 ?_
          obtain ⟨v131, e131, h⟩ := bO_some h
          refine ww_getR 131 X dX11_makeSealedKey_131 fG_X11_431 e131 ?_
          obtain ⟨_, f134, h⟩ := bO_some h
          obtain ⟨M134, e134, h⟩ := bO_some h
          refine ww_callVV0 134 X dX11_makeSealedKey_134 mY_X8_sealOaep mL_X11_553 (rcv_spec f134) ⟨_, _, rfl⟩ (by decide) (As := [.ref v109, .ref v116, .ref v120, .ref v124, .ref v131]) (rest := []) rfl rfl ⟨Nat.le_of_ble_eq_true rfl, Nat.le_of_ble_eq_true rfl⟩ (Nat.le_of_ble_eq_true rfl) (fun l D A => c_X8_sealOaep l D A e134) ?_
          refine ww_goto 137 216 X dX11_makeSealedKey_137 (by decide) ?_
          exact ww_vretE 216 X hQ dX11_makeSealedKey_216 h
        · replace h := (if_neg q3).symm.trans h
          by_cases q4 : v42 = (4 : Int32)
          · replace h := (if_pos q4).symm.trans h
            refine ww_tableIn 45 140 X dX11_makeSealedKey_45 (off := 95) (by rw [q4]; decide) (by rw [q4]; decide) (by rw [q4]; decide) (by decide) ?_
            refine ww_aload_n 140 X dX11_makeSealedKey_140 0 rfl rfl ?_
            obtain ⟨v141, e141, h⟩ := bO_some h
            refine ww_getR 141 X dX11_makeSealedKey_141 fG_X11_109 e141 ?_
            obtain ⟨v144, e144, h⟩ := bO_some h
            refine ww_getR 144 X dX11_makeSealedKey_144 fG_X11_425 e144 ?_
            refine ww_aload_n 147 X dX11_makeSealedKey_147 0 rfl rfl ?_
            obtain ⟨v148, e148, h⟩ := bO_some h
            refine ww_getR 148 X dX11_makeSealedKey_148 fG_X11_109 e148 ?_
            obtain ⟨v151, e151, h⟩ := bO_some h
            refine ww_getR 151 X dX11_makeSealedKey_151 fG_X11_530 e151 ?_
            obtain ⟨_, f154, h⟩ := bO_some h
            obtain ⟨M154, e154, h⟩ := bO_some h
            refine ww_callVV0 154 X dX11_makeSealedKey_154 mY_X0_become mL_X11_127 (rcv_spec f154) ⟨_, _, rfl⟩ (by decide) (As := [.ref v151]) (rest := []) rfl rfl ⟨Nat.le_of_ble_eq_true rfl, Nat.le_of_ble_eq_true rfl⟩ (Nat.le_of_ble_eq_true rfl) (fun l D A => c_X0_become l D A e154) ?_
            refine ww_goto 157 216 X dX11_makeSealedKey_157 (by decide) ?_
            exact ww_vretE 216 X hQ dX11_makeSealedKey_216 h
          · replace h := (if_neg q4).symm.trans h
            by_cases q5 : v42 = (5 : Int32)
            · replace h := (if_pos q5).symm.trans h
              refine ww_tableIn 45 160 X dX11_makeSealedKey_45 (off := 115) (by rw [q5]; decide) (by rw [q5]; decide) (by rw [q5]; decide) (by decide) ?_
              refine ww_aload_n 160 X dX11_makeSealedKey_160 0 rfl rfl ?_
              obtain ⟨v161, e161, h⟩ := bO_some h
              refine ww_getR 161 X dX11_makeSealedKey_161 fG_X11_77 e161 ?_
              refine ww_aload_n 164 X dX11_makeSealedKey_164 0 rfl rfl ?_
              obtain ⟨v165, e165, h⟩ := bO_some h
              refine ww_getR 165 X dX11_makeSealedKey_165 fG_X11_109 e165 ?_
              obtain ⟨v168, e168, h⟩ := bO_some h
              refine ww_getR 168 X dX11_makeSealedKey_168 fG_X11_530 e168 ?_
              refine ww_aload_n 171 X dX11_makeSealedKey_171 0 rfl rfl ?_
              obtain ⟨v172, e172, h⟩ := bO_some h
              refine ww_getR 172 X dX11_makeSealedKey_172 fG_X11_109 e172 ?_
              obtain ⟨v175, e175, h⟩ := bO_some h
              refine ww_getR 175 X dX11_makeSealedKey_175 fG_X11_425 e175 ?_
              refine ww_aload_n 178 X dX11_makeSealedKey_178 0 rfl rfl ?_
              obtain ⟨v179, e179, h⟩ := bO_some h
              refine ww_getR 179 X dX11_makeSealedKey_179 fG_X11_109 e179 ?_
              obtain ⟨v182, e182, h⟩ := bO_some h
              refine ww_getR 182 X dX11_makeSealedKey_182 fG_X11_431 e182 ?_
              obtain ⟨_, f185, h⟩ := bO_some h
              obtain ⟨M185, e185, h⟩ := bO_some h
              refine ww_callVV0 185 X dX11_makeSealedKey_185 mY_X1_putWrapped mL_X11_242 (rcv_spec f185) ⟨_, _, rfl⟩ (by decide) (As := [.ref v168, .ref v175, .ref v182]) (rest := []) rfl rfl ⟨Nat.le_of_ble_eq_true rfl, Nat.le_of_ble_eq_true rfl⟩ (Nat.le_of_ble_eq_true rfl) (fun l D A => c_X1_putWrapped l D A e185) ?_
              refine ww_goto 188 216 X dX11_makeSealedKey_188 (by decide) ?_
              exact ww_vretE 216 X hQ dX11_makeSealedKey_216 h
            · replace h := (if_neg q5).symm.trans h
              have z0 := lv_neT q0 (show (0 : Int32).toInt = 0 by decide)
              have z1 := lv_neT q1 (show (1 : Int32).toInt = 1 by decide)
              have z2 := lv_neT q2 (show (2 : Int32).toInt = 2 by decide)
              have z3 := lv_neT q3 (show (3 : Int32).toInt = 3 by decide)
              have z4 := lv_neT q4 (show (4 : Int32).toInt = 4 by decide)
              have z5 := lv_neT q5 (show (5 : Int32).toInt = 5 by decide)
              refine ww_tableOut 45 191 X dX11_makeSealedKey_45 (by omega) (by decide) ?_
              refine ww_aload_n 191 X dX11_makeSealedKey_191 0 rfl rfl ?_
              obtain ⟨v192, e192, h⟩ := bO_some h
              refine ww_getR 192 X dX11_makeSealedKey_192 fG_X11_77 e192 ?_
              refine ww_aload_n 195 X dX11_makeSealedKey_195 1 rfl rfl ?_
              obtain ⟨v196, e196, h⟩ := bO_some h
              refine ww_getR 196 X dX11_makeSealedKey_196 fG_X11_316 e196 ?_
              refine ww_aload_n 199 X dX11_makeSealedKey_199 0 rfl rfl ?_
              obtain ⟨v200, e200, h⟩ := bO_some h
              refine ww_getR 200 X dX11_makeSealedKey_200 fG_X11_109 e200 ?_
              obtain ⟨v203, e203, h⟩ := bO_some h
              refine ww_getR 203 X dX11_makeSealedKey_203 fG_X11_425 e203 ?_
              refine ww_aload_n 206 X dX11_makeSealedKey_206 0 rfl rfl ?_
              obtain ⟨v207, e207, h⟩ := bO_some h
              refine ww_getR 207 X dX11_makeSealedKey_207 fG_X11_109 e207 ?_
              obtain ⟨v210, e210, h⟩ := bO_some h
              refine ww_getR 210 X dX11_makeSealedKey_210 fG_X11_431 e210 ?_
              obtain ⟨_, f213, h⟩ := bO_some h
              obtain ⟨M213, e213, h⟩ := bO_some h
              refine ww_callVV0 213 X dX11_makeSealedKey_213 mY_X1_putWrapped mL_X11_242 (rcv_spec f213) ⟨_, _, rfl⟩ (by decide) (As := [.ref v196, .ref v203, .ref v210]) (rest := []) rfl rfl ⟨Nat.le_of_ble_eq_true rfl, Nat.le_of_ble_eq_true rfl⟩ (Nat.le_of_ble_eq_true rfl) (fun l D A => c_X1_putWrapped l D A e213) ?_
              exact ww_vretE 216 X hQ dX11_makeSealedKey_216 h
def P_X11_makeSealedKey (G : Nat → Nat) (F : Nat) (l0 : Nat) (l1 : Nat) (l2 : Nat) (l3 : Nat) (M : mM) : Option mM :=
  bO (gfR M l0 11 17) fun v1 =>
  bO (gfR M v1 10 10) fun v4 =>
  bO (rcv M v4 0) fun _ =>
  bO (P_X0_clear G F v4 M) fun M7 =>
  bO (gfR M7 l0 11 17) fun v11 =>
  bO (gfI M7 v11 10 1) fun v14 =>
  if v14 < (4 : Int32) then (B_X11_makeSealedKey_38 G F l0 l1 M7)
  else (bO (gfR M7 l0 11 17) fun v23 =>
  bO (gfR M7 v23 10 7) fun v26 =>
  bO (gfR M7 l1 5 6) fun v30 =>
  bO (rcv M7 l0 11) fun _ =>
  bO (P_X11_agree G F l0 v26 v30 l2 l3 M7) fun M35 =>
  B_X11_makeSealedKey_38 G F l0 l1 M35)
set_option maxHeartbeats 4000000 in
set_option maxRecDepth 100000 in
theorem wP_X11_makeSealedKey {G : Nat → Nat} {F : Nat} {x : mXT} {sz : Nat} {M0 : mM} (X : mCX G RX11 cX11_makeSealedKey 4 none "makeSealedKey" rmX11_makeSealedKey x) (hQ : mQV x M0 (sz, 0, 0)) {l0 : Nat} {l1 : Nat} {l2 : Nat} {l3 : Nat} {M : mM} (h : P_X11_makeSealedKey G F l0 l1 l2 l3 M = some M0) : WW x (sz, 0, 0) M 0 [(0, .ref l0), (1, .ref l1), (2, .ref l2), (3, .ref l3)] [] := by
  unfold P_X11_makeSealedKey at h
  refine ww_aload_n 0 X dX11_makeSealedKey_0 0 rfl rfl ?_
  obtain ⟨v1, e1, h⟩ := bO_some h
  refine ww_getR 1 X dX11_makeSealedKey_1 fG_X11_109 e1 ?_
  obtain ⟨v4, e4, h⟩ := bO_some h
  refine ww_getR 4 X dX11_makeSealedKey_4 fG_X11_431 e4 ?_
  obtain ⟨_, f7, h⟩ := bO_some h
  obtain ⟨M7, e7, h⟩ := bO_some h
  refine ww_callVV0 7 X dX11_makeSealedKey_7 mY_X0_clear mL_X11_131 (rcv_spec f7) ⟨_, _, rfl⟩ (by decide) (As := []) (rest := []) rfl rfl ⟨Nat.le_of_ble_eq_true rfl, Nat.le_of_ble_eq_true rfl⟩ (Nat.le_of_ble_eq_true rfl) (fun l D A => c_X0_clear l D A e7) ?_
  refine ww_aload_n 10 X dX11_makeSealedKey_10 0 rfl rfl ?_
  obtain ⟨v11, e11, h⟩ := bO_some h
  refine ww_getR 11 X dX11_makeSealedKey_11 fG_X11_109 e11 ?_
  obtain ⟨v14, e14, h⟩ := bO_some h
  refine ww_getI 14 X dX11_makeSealedKey_14 fG_X11_351 e14 ?_
  refine ww_iconst 17 X (v := (4 : Int32)) dX11_makeSealedKey_17 (by decide) ?_
  refine ww_icmp_lt 18 38 X dX11_makeSealedKey_18 (by decide) (fun q => ?_) (fun q => ?_)
  · replace h := (if_pos q).symm.trans h
    exact ww_sub [0, 1] rfl (wB_X11_makeSealedKey_38 X hQ h)
  · replace h := (if_neg q).symm.trans h
    refine ww_aload_n 21 X dX11_makeSealedKey_21 0 rfl rfl ?_
    refine ww_aload_n 22 X dX11_makeSealedKey_22 0 rfl rfl ?_
    obtain ⟨v23, e23, h⟩ := bO_some h
    refine ww_getR 23 X dX11_makeSealedKey_23 fG_X11_109 e23 ?_
    obtain ⟨v26, e26, h⟩ := bO_some h
    refine ww_getR 26 X dX11_makeSealedKey_26 fG_X11_406 e26 ?_
    refine ww_aload_n 29 X dX11_makeSealedKey_29 1 rfl rfl ?_
    obtain ⟨v30, e30, h⟩ := bO_some h
    refine ww_getR 30 X dX11_makeSealedKey_30 fG_X11_316 e30 ?_
    refine ww_aload_n 33 X dX11_makeSealedKey_33 2 rfl rfl ?_
    refine ww_aload_n 34 X dX11_makeSealedKey_34 3 rfl rfl ?_
    obtain ⟨_, f35, h⟩ := bO_some h
    obtain ⟨M35, e35, h⟩ := bO_some h
    refine ww_callVV0 35 X dX11_makeSealedKey_35 mY_X11_agree mL_X11_547 (rcv_spec f35) ⟨_, _, rfl⟩ (by decide) (As := [.ref v26, .ref v30, .ref l2, .ref l3]) (rest := []) rfl rfl ⟨Nat.le_of_ble_eq_true rfl, Nat.le_of_ble_eq_true rfl⟩ (Nat.le_of_ble_eq_true rfl) (fun l D A => c_X11_agree l D A e35) ?_
    exact ww_sub [0, 1] rfl (wB_X11_makeSealedKey_38 X hQ h)
theorem c_X11_makeSealedKey {G : Nat → Nat} {F sz : Nat} {M0 : mM} (l : Launch) (D : mD) (A : Nat → Prop) {l0 : Nat} {l1 : Nat} {l2 : Nat} {l3 : Nat} {M : mM} (h : P_X11_makeSealedKey G F l0 l1 l2 l3 M = some M0) : mMetV l D G A yX11_makeSealedKey cX11_makeSealedKey 4 none 6 193 0 0 [.ref l0, .ref l1, .ref l2, .ref l3] M sz M0 sz := mMetV_of l D G A (by decide) (Nat.le_of_ble_eq_true rfl) (fun x X hQ => wP_X11_makeSealedKey X hQ h)
/-! SealedTokens.contentKeyComes(LSealedTokens$Key;)Z -/
theorem dX11_contentKeyComes_0 : decode cX11_contentKeyComes 0 = .ok (.aload_n 0, 1) := by decide +kernel
theorem dX11_contentKeyComes_1 : decode cX11_contentKeyComes 1 = .ok (.getfield 109, 3) := by decide +kernel
theorem dX11_contentKeyComes_4 : decode cX11_contentKeyComes 4 = .ok (.getfield 351, 3) := by decide +kernel
theorem dX11_contentKeyComes_7 : decode cX11_contentKeyComes 7 = .ok (.iconst 4, 1) := by decide +kernel
theorem dX11_contentKeyComes_8 : decode cX11_contentKeyComes 8 = .ok (.if_icmp .lt 32, 3) := by decide +kernel
theorem dX11_contentKeyComes_11 : decode cX11_contentKeyComes 11 = .ok (.aload_n 0, 1) := by decide +kernel
theorem dX11_contentKeyComes_12 : decode cX11_contentKeyComes 12 = .ok (.aload_n 1, 1) := by decide +kernel
theorem dX11_contentKeyComes_13 : decode cX11_contentKeyComes 13 = .ok (.getfield 459, 3) := by decide +kernel
theorem dX11_contentKeyComes_16 : decode cX11_contentKeyComes 16 = .ok (.aload_n 0, 1) := by decide +kernel
theorem dX11_contentKeyComes_17 : decode cX11_contentKeyComes 17 = .ok (.getfield 109, 3) := by decide +kernel
theorem dX11_contentKeyComes_20 : decode cX11_contentKeyComes 20 = .ok (.getfield 412, 3) := by decide +kernel
theorem dX11_contentKeyComes_23 : decode cX11_contentKeyComes 23 = .ok (.aload_n 0, 1) := by decide +kernel
theorem dX11_contentKeyComes_24 : decode cX11_contentKeyComes 24 = .ok (.getfield 109, 3) := by decide +kernel
theorem dX11_contentKeyComes_27 : decode cX11_contentKeyComes 27 = .ok (.getfield 557, 3) := by decide +kernel
theorem dX11_contentKeyComes_30 : decode cX11_contentKeyComes 30 = .ok (.aload_n 0, 1) := by decide +kernel
theorem dX11_contentKeyComes_31 : decode cX11_contentKeyComes 31 = .ok (.getfield 109, 3) := by decide +kernel
theorem dX11_contentKeyComes_34 : decode cX11_contentKeyComes 34 = .ok (.getfield 560, 3) := by decide +kernel
theorem dX11_contentKeyComes_37 : decode cX11_contentKeyComes 37 = .ok (.invokevirtual 547, 3) := by decide +kernel
theorem dX11_contentKeyComes_40 : decode cX11_contentKeyComes 40 = .ok (.aload_n 0, 1) := by decide +kernel
theorem dX11_contentKeyComes_41 : decode cX11_contentKeyComes 41 = .ok (.getfield 109, 3) := by decide +kernel
theorem dX11_contentKeyComes_44 : decode cX11_contentKeyComes 44 = .ok (.getfield 351, 3) := by decide +kernel
theorem dX11_contentKeyComes_47 : decode cX11_contentKeyComes 47 = .ok (.tableswitch 165 0 5 #[37, 165, 165, 70, 100, 136], 37) := by decide +kernel
theorem dX11_contentKeyComes_84 : decode cX11_contentKeyComes 84 = .ok (.aload_n 0, 1) := by decide +kernel
theorem dX11_contentKeyComes_85 : decode cX11_contentKeyComes 85 = .ok (.getfield 109, 3) := by decide +kernel
theorem dX11_contentKeyComes_88 : decode cX11_contentKeyComes 88 = .ok (.getfield 425, 3) := by decide +kernel
theorem dX11_contentKeyComes_91 : decode cX11_contentKeyComes 91 = .ok (.aload_n 1, 1) := by decide +kernel
theorem dX11_contentKeyComes_92 : decode cX11_contentKeyComes 92 = .ok (.getfield 316, 3) := by decide +kernel
theorem dX11_contentKeyComes_95 : decode cX11_contentKeyComes 95 = .ok (.invokevirtual 127, 3) := by decide +kernel
theorem dX11_contentKeyComes_98 : decode cX11_contentKeyComes 98 = .ok (.aload_n 0, 1) := by decide +kernel
theorem dX11_contentKeyComes_99 : decode cX11_contentKeyComes 99 = .ok (.getfield 109, 3) := by decide +kernel
theorem dX11_contentKeyComes_102 : decode cX11_contentKeyComes 102 = .ok (.getfield 431, 3) := by decide +kernel
theorem dX11_contentKeyComes_105 : decode cX11_contentKeyComes 105 = .ok (.getfield 113, 3) := by decide +kernel
theorem dX11_contentKeyComes_108 : decode cX11_contentKeyComes 108 = .ok (.ifCond .ne 7, 3) := by decide +kernel
theorem dX11_contentKeyComes_111 : decode cX11_contentKeyComes 111 = .ok (.iconst 1, 1) := by decide +kernel
theorem dX11_contentKeyComes_112 : decode cX11_contentKeyComes 112 = .ok (.goto 4, 3) := by decide +kernel
theorem dX11_contentKeyComes_115 : decode cX11_contentKeyComes 115 = .ok (.iconst 0, 1) := by decide +kernel
theorem dX11_contentKeyComes_116 : decode cX11_contentKeyComes 116 = .ok (.ireturn, 1) := by decide +kernel
theorem dX11_contentKeyComes_117 : decode cX11_contentKeyComes 117 = .ok (.aload_n 0, 1) := by decide +kernel
theorem dX11_contentKeyComes_118 : decode cX11_contentKeyComes 118 = .ok (.getfield 95, 3) := by decide +kernel
theorem dX11_contentKeyComes_121 : decode cX11_contentKeyComes 121 = .ok (.aload_n 0, 1) := by decide +kernel
theorem dX11_contentKeyComes_122 : decode cX11_contentKeyComes 122 = .ok (.getfield 109, 3) := by decide +kernel
theorem dX11_contentKeyComes_125 : decode cX11_contentKeyComes 125 = .ok (.getfield 431, 3) := by decide +kernel
theorem dX11_contentKeyComes_128 : decode cX11_contentKeyComes 128 = .ok (.aload_n 1, 1) := by decide +kernel
theorem dX11_contentKeyComes_129 : decode cX11_contentKeyComes 129 = .ok (.getfield 459, 3) := by decide +kernel
theorem dX11_contentKeyComes_132 : decode cX11_contentKeyComes 132 = .ok (.aload_n 1, 1) := by decide +kernel
theorem dX11_contentKeyComes_133 : decode cX11_contentKeyComes 133 = .ok (.getfield 316, 3) := by decide +kernel
theorem dX11_contentKeyComes_136 : decode cX11_contentKeyComes 136 = .ok (.aload_n 0, 1) := by decide +kernel
theorem dX11_contentKeyComes_137 : decode cX11_contentKeyComes 137 = .ok (.getfield 109, 3) := by decide +kernel
theorem dX11_contentKeyComes_140 : decode cX11_contentKeyComes 140 = .ok (.getfield 425, 3) := by decide +kernel
theorem dX11_contentKeyComes_143 : decode cX11_contentKeyComes 143 = .ok (.invokevirtual 563, 3) := by decide +kernel
theorem dX11_contentKeyComes_146 : decode cX11_contentKeyComes 146 = .ok (.ireturn, 1) := by decide +kernel
theorem dX11_contentKeyComes_147 : decode cX11_contentKeyComes 147 = .ok (.aload_n 0, 1) := by decide +kernel
theorem dX11_contentKeyComes_148 : decode cX11_contentKeyComes 148 = .ok (.getfield 109, 3) := by decide +kernel
theorem dX11_contentKeyComes_151 : decode cX11_contentKeyComes 151 = .ok (.getfield 425, 3) := by decide +kernel
theorem dX11_contentKeyComes_154 : decode cX11_contentKeyComes 154 = .ok (.aload_n 0, 1) := by decide +kernel
theorem dX11_contentKeyComes_155 : decode cX11_contentKeyComes 155 = .ok (.getfield 109, 3) := by decide +kernel
theorem dX11_contentKeyComes_158 : decode cX11_contentKeyComes 158 = .ok (.getfield 530, 3) := by decide +kernel
theorem dX11_contentKeyComes_161 : decode cX11_contentKeyComes 161 = .ok (.invokevirtual 127, 3) := by decide +kernel
theorem dX11_contentKeyComes_164 : decode cX11_contentKeyComes 164 = .ok (.aload_n 0, 1) := by decide +kernel
theorem dX11_contentKeyComes_165 : decode cX11_contentKeyComes 165 = .ok (.getfield 109, 3) := by decide +kernel
theorem dX11_contentKeyComes_168 : decode cX11_contentKeyComes 168 = .ok (.getfield 431, 3) := by decide +kernel
theorem dX11_contentKeyComes_171 : decode cX11_contentKeyComes 171 = .ok (.getfield 113, 3) := by decide +kernel
theorem dX11_contentKeyComes_174 : decode cX11_contentKeyComes 174 = .ok (.ifCond .ne 7, 3) := by decide +kernel
theorem dX11_contentKeyComes_177 : decode cX11_contentKeyComes 177 = .ok (.iconst 1, 1) := by decide +kernel
theorem dX11_contentKeyComes_178 : decode cX11_contentKeyComes 178 = .ok (.goto 4, 3) := by decide +kernel
theorem dX11_contentKeyComes_181 : decode cX11_contentKeyComes 181 = .ok (.iconst 0, 1) := by decide +kernel
theorem dX11_contentKeyComes_182 : decode cX11_contentKeyComes 182 = .ok (.ireturn, 1) := by decide +kernel
theorem dX11_contentKeyComes_183 : decode cX11_contentKeyComes 183 = .ok (.aload_n 0, 1) := by decide +kernel
theorem dX11_contentKeyComes_184 : decode cX11_contentKeyComes 184 = .ok (.getfield 77, 3) := by decide +kernel
theorem dX11_contentKeyComes_187 : decode cX11_contentKeyComes 187 = .ok (.aload_n 0, 1) := by decide +kernel
theorem dX11_contentKeyComes_188 : decode cX11_contentKeyComes 188 = .ok (.getfield 109, 3) := by decide +kernel
theorem dX11_contentKeyComes_191 : decode cX11_contentKeyComes 191 = .ok (.getfield 530, 3) := by decide +kernel
theorem dX11_contentKeyComes_194 : decode cX11_contentKeyComes 194 = .ok (.aload_n 0, 1) := by decide +kernel
theorem dX11_contentKeyComes_195 : decode cX11_contentKeyComes 195 = .ok (.getfield 109, 3) := by decide +kernel
theorem dX11_contentKeyComes_198 : decode cX11_contentKeyComes 198 = .ok (.getfield 431, 3) := by decide +kernel
theorem dX11_contentKeyComes_201 : decode cX11_contentKeyComes 201 = .ok (.aload_n 0, 1) := by decide +kernel
theorem dX11_contentKeyComes_202 : decode cX11_contentKeyComes 202 = .ok (.getfield 109, 3) := by decide +kernel
theorem dX11_contentKeyComes_205 : decode cX11_contentKeyComes 205 = .ok (.getfield 425, 3) := by decide +kernel
theorem dX11_contentKeyComes_208 : decode cX11_contentKeyComes 208 = .ok (.invokevirtual 246, 3) := by decide +kernel
theorem dX11_contentKeyComes_211 : decode cX11_contentKeyComes 211 = .ok (.ireturn, 1) := by decide +kernel
theorem dX11_contentKeyComes_212 : decode cX11_contentKeyComes 212 = .ok (.aload_n 0, 1) := by decide +kernel
theorem dX11_contentKeyComes_213 : decode cX11_contentKeyComes 213 = .ok (.getfield 77, 3) := by decide +kernel
theorem dX11_contentKeyComes_216 : decode cX11_contentKeyComes 216 = .ok (.aload_n 1, 1) := by decide +kernel
theorem dX11_contentKeyComes_217 : decode cX11_contentKeyComes 217 = .ok (.getfield 316, 3) := by decide +kernel
theorem dX11_contentKeyComes_220 : decode cX11_contentKeyComes 220 = .ok (.aload_n 0, 1) := by decide +kernel
theorem dX11_contentKeyComes_221 : decode cX11_contentKeyComes 221 = .ok (.getfield 109, 3) := by decide +kernel
theorem dX11_contentKeyComes_224 : decode cX11_contentKeyComes 224 = .ok (.getfield 431, 3) := by decide +kernel
theorem dX11_contentKeyComes_227 : decode cX11_contentKeyComes 227 = .ok (.aload_n 0, 1) := by decide +kernel
theorem dX11_contentKeyComes_228 : decode cX11_contentKeyComes 228 = .ok (.getfield 109, 3) := by decide +kernel
theorem dX11_contentKeyComes_231 : decode cX11_contentKeyComes 231 = .ok (.getfield 425, 3) := by decide +kernel
theorem dX11_contentKeyComes_234 : decode cX11_contentKeyComes 234 = .ok (.invokevirtual 246, 3) := by decide +kernel
theorem dX11_contentKeyComes_237 : decode cX11_contentKeyComes 237 = .ok (.ireturn, 1) := by decide +kernel
abbrev rmX11_contentKeyComes : Room := { frames := 6, cells := 0, slots := 0, locals := 194 }
def B_X11_contentKeyComes_40 (G : Nat → Nat) (F : Nat) (l0 : Nat) (l1 : Nat) (M : mM) : Option (Int32 × mM) :=
  bO (gfR M l0 11 17) fun v41 =>
  bO (gfI M v41 10 1) fun v44 =>
  if v44 = (0 : Int32) then (bO (gfR M l0 11 17) fun v85 =>
  bO (gfR M v85 10 9) fun v88 =>
  bO (gfR M l1 5 6) fun v92 =>
  bO (rcv M v88 0) fun _ =>
  bO (P_X0_become G F v88 v92 M) fun M95 =>
  bO (gfR M95 l0 11 17) fun v99 =>
  bO (gfR M95 v99 10 10) fun v102 =>
  bO (gfI M95 v102 0 1) fun v105 =>
  if v105 = 0 then (retZ (1 : Int32) M95)
  else (retZ (0 : Int32) M95))
  else (if v44 = (1 : Int32) then (bO (gfR M l0 11 13) fun v213 =>
  bO (gfR M l1 5 6) fun v217 =>
  bO (gfR M l0 11 17) fun v221 =>
  bO (gfR M v221 10 10) fun v224 =>
  bO (gfR M l0 11 17) fun v228 =>
  bO (gfR M v228 10 9) fun v231 =>
  bO (rcv M v213 1) fun _ =>
  bP (P_X1_putUnwrapped G F v213 v217 v224 v231 M) fun v234 M234 =>
  retZ v234 M234)
  else (if v44 = (2 : Int32) then (bO (gfR M l0 11 13) fun v213 =>
  bO (gfR M l1 5 6) fun v217 =>
  bO (gfR M l0 11 17) fun v221 =>
  bO (gfR M v221 10 10) fun v224 =>
  bO (gfR M l0 11 17) fun v228 =>
  bO (gfR M v228 10 9) fun v231 =>
  bO (rcv M v213 1) fun _ =>
  bP (P_X1_putUnwrapped G F v213 v217 v224 v231 M) fun v234 M234 =>
  retZ v234 M234)
  else (if v44 = (3 : Int32) then (bO (gfR M l0 11 15) fun v118 =>
  bO (gfR M l0 11 17) fun v122 =>
  bO (gfR M v122 10 10) fun v125 =>
  bO (gfR M l1 5 8) fun v129 =>
  bO (gfR M l1 5 6) fun v133 =>
  bO (gfR M l0 11 17) fun v137 =>
  bO (gfR M v137 10 9) fun v140 =>
  bO (rcv M v118 8) fun _ =>
  bP (P_X8_openOaep G F v118 v125 v129 v133 v140 M) fun v143 M143 =>
  retZ v143 M143)
  else (if v44 = (4 : Int32) then (bO (gfR M l0 11 17) fun v148 =>
  bO (gfR M v148 10 9) fun v151 =>
  bO (gfR M l0 11 17) fun v155 =>
  bO (gfR M v155 10 12) fun v158 =>
  bO (rcv M v151 0) fun _ =>
  bO (P_X0_become G F v151 v158 M) fun M161 =>
  bO (gfR M161 l0 11 17) fun v165 =>
  bO (gfR M161 v165 10 10) fun v168 =>
  bO (gfI M161 v168 0 1) fun v171 =>
  if v171 = 0 then (retZ (1 : Int32) M161)
  else (retZ (0 : Int32) M161))
  else (if v44 = (5 : Int32) then (bO (gfR M l0 11 13) fun v184 =>
  bO (gfR M l0 11 17) fun v188 =>
  bO (gfR M v188 10 12) fun v191 =>
  bO (gfR M l0 11 17) fun v195 =>
  bO (gfR M v195 10 10) fun v198 =>
  bO (gfR M l0 11 17) fun v202 =>
  bO (gfR M v202 10 9) fun v205 =>
  bO (rcv M v184 1) fun _ =>
  bP (P_X1_putUnwrapped G F v184 v191 v198 v205 M) fun v208 M208 =>
  retZ v208 M208)
  else (bO (gfR M l0 11 13) fun v213 =>
  bO (gfR M l1 5 6) fun v217 =>
  bO (gfR M l0 11 17) fun v221 =>
  bO (gfR M v221 10 10) fun v224 =>
  bO (gfR M l0 11 17) fun v228 =>
  bO (gfR M v228 10 9) fun v231 =>
  bO (rcv M v213 1) fun _ =>
  bP (P_X1_putUnwrapped G F v213 v217 v224 v231 M) fun v234 M234 =>
  retZ v234 M234))))))
set_option maxHeartbeats 4000000 in
set_option maxRecDepth 100000 in
theorem wB_X11_contentKeyComes_40 {G : Nat → Nat} {F : Nat} {x : mXT} {sz : Nat} {r0 : Int32} {M0 : mM} (X : mCX G RX11 cX11_contentKeyComes 2 (some .boolean) "contentKeyComes" rmX11_contentKeyComes x) (hQ : mQI x r0 M0 (sz, 0, 0)) {l0 : Nat} {l1 : Nat} {M : mM} (h : B_X11_contentKeyComes_40 G F l0 l1 M = some (r0, M0)) : WW x (sz, 0, 0) M 40 [(0, .ref l0), (1, .ref l1)] [] := by
  unfold B_X11_contentKeyComes_40 at h
  refine ww_aload_n 40 X dX11_contentKeyComes_40 0 rfl rfl ?_
  obtain ⟨v41, e41, h⟩ := bO_some h
  refine ww_getR 41 X dX11_contentKeyComes_41 fG_X11_109 e41 ?_
  obtain ⟨v44, e44, h⟩ := bO_some h
  refine ww_getI 44 X dX11_contentKeyComes_44 fG_X11_351 e44 ?_
  by_cases q0 : v44 = (0 : Int32)
  · replace h := (if_pos q0).symm.trans h
    refine ww_tableIn 47 84 X dX11_contentKeyComes_47 (off := 37) (by rw [q0]; decide) (by rw [q0]; decide) (by rw [q0]; decide) (by decide) ?_
    refine ww_aload_n 84 X dX11_contentKeyComes_84 0 rfl rfl ?_
    obtain ⟨v85, e85, h⟩ := bO_some h
    refine ww_getR 85 X dX11_contentKeyComes_85 fG_X11_109 e85 ?_
    obtain ⟨v88, e88, h⟩ := bO_some h
    refine ww_getR 88 X dX11_contentKeyComes_88 fG_X11_425 e88 ?_
    refine ww_aload_n 91 X dX11_contentKeyComes_91 1 rfl rfl ?_
    obtain ⟨v92, e92, h⟩ := bO_some h
    refine ww_getR 92 X dX11_contentKeyComes_92 fG_X11_316 e92 ?_
    obtain ⟨_, f95, h⟩ := bO_some h
    obtain ⟨M95, e95, h⟩ := bO_some h
    refine ww_callVV0 95 X dX11_contentKeyComes_95 mY_X0_become mL_X11_127 (rcv_spec f95) ⟨_, _, rfl⟩ (by decide) (As := [.ref v92]) (rest := []) rfl rfl ⟨Nat.le_of_ble_eq_true rfl, Nat.le_of_ble_eq_true rfl⟩ (Nat.le_of_ble_eq_true rfl) (fun l D A => c_X0_become l D A e95) ?_
    refine ww_aload_n 98 X dX11_contentKeyComes_98 0 rfl rfl ?_
    obtain ⟨v99, e99, h⟩ := bO_some h
    refine ww_getR 99 X dX11_contentKeyComes_99 fG_X11_109 e99 ?_
    obtain ⟨v102, e102, h⟩ := bO_some h
    refine ww_getR 102 X dX11_contentKeyComes_102 fG_X11_431 e102 ?_
    obtain ⟨v105, e105, h⟩ := bO_some h
    refine ww_getI 105 X dX11_contentKeyComes_105 fG_X11_113 e105 ?_
    refine ww_if_ne 108 115 X dX11_contentKeyComes_108 (by decide) (fun q => ?_) (fun q => ?_)
    · replace h := (if_neg q).symm.trans h
      refine ww_iconst 115 X (v := (0 : Int32)) dX11_contentKeyComes_115 (by decide) ?_
      exact ww_zretE 116 X hQ dX11_contentKeyComes_116 h
    · replace h := (if_pos q).symm.trans h
      refine ww_iconst 111 X (v := (1 : Int32)) dX11_contentKeyComes_111 (by decide) ?_
      refine ww_goto 112 116 X dX11_contentKeyComes_112 (by decide) ?_
      exact ww_zretE 116 X hQ dX11_contentKeyComes_116 h
  · replace h := (if_neg q0).symm.trans h
    by_cases q1 : v44 = (1 : Int32)
    · replace h := (if_pos q1).symm.trans h
      refine ww_tableIn 47 212 X dX11_contentKeyComes_47 (off := 165) (by rw [q1]; decide) (by rw [q1]; decide) (by rw [q1]; decide) (by decide) ?_
      refine ww_aload_n 212 X dX11_contentKeyComes_212 0 rfl rfl ?_
      obtain ⟨v213, e213, h⟩ := bO_some h
      refine ww_getR 213 X dX11_contentKeyComes_213 fG_X11_77 e213 ?_
      refine ww_aload_n 216 X dX11_contentKeyComes_216 1 rfl rfl ?_
      obtain ⟨v217, e217, h⟩ := bO_some h
      refine ww_getR 217 X dX11_contentKeyComes_217 fG_X11_316 e217 ?_
      refine ww_aload_n 220 X dX11_contentKeyComes_220 0 rfl rfl ?_
      obtain ⟨v221, e221, h⟩ := bO_some h
      refine ww_getR 221 X dX11_contentKeyComes_221 fG_X11_109 e221 ?_
      obtain ⟨v224, e224, h⟩ := bO_some h
      refine ww_getR 224 X dX11_contentKeyComes_224 fG_X11_431 e224 ?_
      refine ww_aload_n 227 X dX11_contentKeyComes_227 0 rfl rfl ?_
      obtain ⟨v228, e228, h⟩ := bO_some h
      refine ww_getR 228 X dX11_contentKeyComes_228 fG_X11_109 e228 ?_
      obtain ⟨v231, e231, h⟩ := bO_some h
      refine ww_getR 231 X dX11_contentKeyComes_231 fG_X11_425 e231 ?_
      obtain ⟨_, f234, h⟩ := bO_some h
      obtain ⟨v234, M234, e234, h⟩ := bP_some h
      refine ww_callVI0 234 X dX11_contentKeyComes_234 mY_X1_putUnwrapped mL_X11_246 (rcv_spec f234) ⟨_, _, rfl⟩ (by decide) (As := [.ref v217, .ref v224, .ref v231]) (rest := []) rfl rfl ⟨Nat.le_of_ble_eq_true rfl, Nat.le_of_ble_eq_true rfl⟩ (Nat.le_of_ble_eq_true rfl) (fun l D A => c_X1_putUnwrapped l D A e234) ?_
      exact ww_zretE 237 X hQ dX11_contentKeyComes_237 h
    · replace h := (if_neg q1).symm.trans h
      by_cases q2 : v44 = (2 : Int32)
      · replace h := (if_pos q2).symm.trans h
        refine ww_tableIn 47 212 X dX11_contentKeyComes_47 (off := 165) (by rw [q2]; decide) (by rw [q2]; decide) (by rw [q2]; decide) (by decide) ?_
        refine ww_aload_n 212 X dX11_contentKeyComes_212 0 rfl rfl ?_
        obtain ⟨v213, e213, h⟩ := bO_some h
        refine ww_getR 213 X dX11_contentKeyComes_213 fG_X11_77 e213 ?_
        refine ww_aload_n 216 X dX11_contentKeyComes_216 1 rfl rfl ?_
        obtain ⟨v217, e217, h⟩ := bO_some h
        refine ww_getR 217 X dX11_contentKeyComes_217 fG_X11_316 e217 ?_
        refine ww_aload_n 220 X dX11_contentKeyComes_220 0 rfl rfl ?_
        obtain ⟨v221, e221, h⟩ := bO_some h
        refine ww_getR 221 X dX11_contentKeyComes_221 fG_X11_109 e221 ?_
        obtain ⟨v224, e224, h⟩ := bO_some h
        refine ww_getR 224 X dX11_contentKeyComes_224 fG_X11_431 e224 ?_
        refine ww_aload_n 227 X dX11_contentKeyComes_227 0 rfl rfl ?_
        obtain ⟨v228, e228, h⟩ := bO_some h
        refine ww_getR 228 X dX11_contentKeyComes_228 fG_X11_109 e228 ?_
        obtain ⟨v231, e231, h⟩ := bO_some h
        refine ww_getR 231 X dX11_contentKeyComes_231 fG_X11_425 e231 ?_
        obtain ⟨_, f234, h⟩ := bO_some h
        obtain ⟨v234, M234, e234, h⟩ := bP_some h
        refine ww_callVI0 234 X dX11_contentKeyComes_234 mY_X1_putUnwrapped mL_X11_246 (rcv_spec f234) ⟨_, _, rfl⟩ (by decide) (As := [.ref v217, .ref v224, .ref v231]) (rest := []) rfl rfl ⟨Nat.le_of_ble_eq_true rfl, Nat.le_of_ble_eq_true rfl⟩ (Nat.le_of_ble_eq_true rfl) (fun l D A => c_X1_putUnwrapped l D A e234) ?_
        exact ww_zretE 237 X hQ dX11_contentKeyComes_237 h
      · replace h := (if_neg q2).symm.trans h
        by_cases q3 : v44 = (3 : Int32)
        · replace h := (if_pos q3).symm.trans h
          refine ww_tableIn 47 117 X dX11_contentKeyComes_47 (off := 70) (by rw [q3]; decide) (by rw [q3]; decide) (by rw [q3]; decide) (by decide) ?_
          refine ww_aload_n 117 X dX11_contentKeyComes_117 0 rfl rfl ?_
          obtain ⟨v118, e118, h⟩ := bO_some h
          refine ww_getR 118 X dX11_contentKeyComes_118 fG_X11_95 e118 ?_
          refine ww_aload_n 121 X dX11_contentKeyComes_121 0 rfl rfl ?_
          obtain ⟨v122, e122, h⟩ := bO_some h
          refine ww_getR 122 X dX11_contentKeyComes_122 fG_X11_109 e122 ?_
          obtain ⟨v125, e125, h⟩ := bO_some h
          refine ww_getR 125 X dX11_contentKeyComes_125 fG_X11_431 e125 ?_
          refine ww_aload_n 128 X dX11_contentKeyComes_128 1 rfl rfl ?_
          obtain ⟨v129, e129, h⟩ := bO_some h
          refine ww_getR 129 X dX11_contentKeyComes_129 fG_X11_459 e129 ?_
          refine ww_aload_n 132 X dX11_contentKeyComes_132 1 rfl rfl ?_
          obtain ⟨v133, e133, h⟩ := bO_some h
          refine ww_getR 133 X dX11_contentKeyComes_133 fG_X11_316 e133 ?_
          refine ww_aload_n 136 X dX11_contentKeyComes_136 0 rfl rfl ?_
          obtain ⟨v137, e137, h⟩ := bO_some h
          refine ww_getR 137 X dX11_contentKeyComes_137 fG_X11_109 e137 ?_
          obtain ⟨v140, e140, h⟩ := bO_some h
          refine ww_getR 140 X dX11_contentKeyComes_140 fG_X11_425 e140 ?_
          obtain ⟨_, f143, h⟩ := bO_some h
          obtain ⟨v143, M143, e143, h⟩ := bP_some h
          refine ww_callVI0 143 X dX11_contentKeyComes_143 mY_X8_openOaep mL_X11_563 (rcv_spec f143) ⟨_, _, rfl⟩ (by decide) (As := [.ref v125, .ref v129, .ref v133, .ref v140]) (rest := []) rfl rfl ⟨Nat.le_of_ble_eq_true rfl, Nat.le_of_ble_eq_true rfl⟩ (Nat.le_of_ble_eq_true rfl) (fun l D A => c_X8_openOaep l D A e143) ?_
          exact ww_zretE 146 X hQ dX11_contentKeyComes_146 h
        · replace h := (if_neg q3).symm.trans h
          by_cases q4 : v44 = (4 : Int32)
          · replace h := (if_pos q4).symm.trans h
            refine ww_tableIn 47 147 X dX11_contentKeyComes_47 (off := 100) (by rw [q4]; decide) (by rw [q4]; decide) (by rw [q4]; decide) (by decide) ?_
            refine ww_aload_n 147 X dX11_contentKeyComes_147 0 rfl rfl ?_
            obtain ⟨v148, e148, h⟩ := bO_some h
            refine ww_getR 148 X dX11_contentKeyComes_148 fG_X11_109 e148 ?_
            obtain ⟨v151, e151, h⟩ := bO_some h
            refine ww_getR 151 X dX11_contentKeyComes_151 fG_X11_425 e151 ?_
            refine ww_aload_n 154 X dX11_contentKeyComes_154 0 rfl rfl ?_
            obtain ⟨v155, e155, h⟩ := bO_some h
            refine ww_getR 155 X dX11_contentKeyComes_155 fG_X11_109 e155 ?_
            obtain ⟨v158, e158, h⟩ := bO_some h
            refine ww_getR 158 X dX11_contentKeyComes_158 fG_X11_530 e158 ?_
            obtain ⟨_, f161, h⟩ := bO_some h
            obtain ⟨M161, e161, h⟩ := bO_some h
            refine ww_callVV0 161 X dX11_contentKeyComes_161 mY_X0_become mL_X11_127 (rcv_spec f161) ⟨_, _, rfl⟩ (by decide) (As := [.ref v158]) (rest := []) rfl rfl ⟨Nat.le_of_ble_eq_true rfl, Nat.le_of_ble_eq_true rfl⟩ (Nat.le_of_ble_eq_true rfl) (fun l D A => c_X0_become l D A e161) ?_
            refine ww_aload_n 164 X dX11_contentKeyComes_164 0 rfl rfl ?_
            obtain ⟨v165, e165, h⟩ := bO_some h
            refine ww_getR 165 X dX11_contentKeyComes_165 fG_X11_109 e165 ?_
            obtain ⟨v168, e168, h⟩ := bO_some h
            refine ww_getR 168 X dX11_contentKeyComes_168 fG_X11_431 e168 ?_
            obtain ⟨v171, e171, h⟩ := bO_some h
            refine ww_getI 171 X dX11_contentKeyComes_171 fG_X11_113 e171 ?_
            refine ww_if_ne 174 181 X dX11_contentKeyComes_174 (by decide) (fun q => ?_) (fun q => ?_)
            · replace h := (if_neg q).symm.trans h
              refine ww_iconst 181 X (v := (0 : Int32)) dX11_contentKeyComes_181 (by decide) ?_
              exact ww_zretE 182 X hQ dX11_contentKeyComes_182 h
            · replace h := (if_pos q).symm.trans h
              refine ww_iconst 177 X (v := (1 : Int32)) dX11_contentKeyComes_177 (by decide) ?_
              refine ww_goto 178 182 X dX11_contentKeyComes_178 (by decide) ?_
              exact ww_zretE 182 X hQ dX11_contentKeyComes_182 h
          · replace h := (if_neg q4).symm.trans h
            by_cases q5 : v44 = (5 : Int32)
            · replace h := (if_pos q5).symm.trans h
              refine ww_tableIn 47 183 X dX11_contentKeyComes_47 (off := 136) (by rw [q5]; decide) (by rw [q5]; decide) (by rw [q5]; decide) (by decide) ?_
              refine ww_aload_n 183 X dX11_contentKeyComes_183 0 rfl rfl ?_
              obtain ⟨v184, e184, h⟩ := bO_some h
              refine ww_getR 184 X dX11_contentKeyComes_184 fG_X11_77 e184 ?_
              refine ww_aload_n 187 X dX11_contentKeyComes_187 0 rfl rfl ?_
              obtain ⟨v188, e188, h⟩ := bO_some h
              refine ww_getR 188 X dX11_contentKeyComes_188 fG_X11_109 e188 ?_
              obtain ⟨v191, e191, h⟩ := bO_some h
              refine ww_getR 191 X dX11_contentKeyComes_191 fG_X11_530 e191 ?_
              refine ww_aload_n 194 X dX11_contentKeyComes_194 0 rfl rfl ?_
              obtain ⟨v195, e195, h⟩ := bO_some h
              refine ww_getR 195 X dX11_contentKeyComes_195 fG_X11_109 e195 ?_
              obtain ⟨v198, e198, h⟩ := bO_some h
              refine ww_getR 198 X dX11_contentKeyComes_198 fG_X11_431 e198 ?_
              refine ww_aload_n 201 X dX11_contentKeyComes_201 0 rfl rfl ?_
              obtain ⟨v202, e202, h⟩ := bO_some h
              refine ww_getR 202 X dX11_contentKeyComes_202 fG_X11_109 e202 ?_
              obtain ⟨v205, e205, h⟩ := bO_some h
              refine ww_getR 205 X dX11_contentKeyComes_205 fG_X11_425 e205 ?_
              obtain ⟨_, f208, h⟩ := bO_some h
              obtain ⟨v208, M208, e208, h⟩ := bP_some h
              refine ww_callVI0 208 X dX11_contentKeyComes_208 mY_X1_putUnwrapped mL_X11_246 (rcv_spec f208) ⟨_, _, rfl⟩ (by decide) (As := [.ref v191, .ref v198, .ref v205]) (rest := []) rfl rfl ⟨Nat.le_of_ble_eq_true rfl, Nat.le_of_ble_eq_true rfl⟩ (Nat.le_of_ble_eq_true rfl) (fun l D A => c_X1_putUnwrapped l D A e208) ?_
              exact ww_zretE 211 X hQ dX11_contentKeyComes_211 h
            · replace h := (if_neg q5).symm.trans h
              have z0 := lv_neT q0 (show (0 : Int32).toInt = 0 by decide)
              have z1 := lv_neT q1 (show (1 : Int32).toInt = 1 by decide)
              have z2 := lv_neT q2 (show (2 : Int32).toInt = 2 by decide)
              have z3 := lv_neT q3 (show (3 : Int32).toInt = 3 by decide)
              have z4 := lv_neT q4 (show (4 : Int32).toInt = 4 by decide)
              have z5 := lv_neT q5 (show (5 : Int32).toInt = 5 by decide)
              refine ww_tableOut 47 212 X dX11_contentKeyComes_47 (by omega) (by decide) ?_
              refine ww_aload_n 212 X dX11_contentKeyComes_212 0 rfl rfl ?_
              obtain ⟨v213, e213, h⟩ := bO_some h
              refine ww_getR 213 X dX11_contentKeyComes_213 fG_X11_77 e213 ?_
              refine ww_aload_n 216 X dX11_contentKeyComes_216 1 rfl rfl ?_
              obtain ⟨v217, e217, h⟩ := bO_some h
              refine ww_getR 217 X dX11_contentKeyComes_217 fG_X11_316 e217 ?_
              refine ww_aload_n 220 X dX11_contentKeyComes_220 0 rfl rfl ?_
              obtain ⟨v221, e221, h⟩ := bO_some h
              refine ww_getR 221 X dX11_contentKeyComes_221 fG_X11_109 e221 ?_
              obtain ⟨v224, e224, h⟩ := bO_some h
              refine ww_getR 224 X dX11_contentKeyComes_224 fG_X11_431 e224 ?_
              refine ww_aload_n 227 X dX11_contentKeyComes_227 0 rfl rfl ?_
              obtain ⟨v228, e228, h⟩ := bO_some h
              refine ww_getR 228 X dX11_contentKeyComes_228 fG_X11_109 e228 ?_
              obtain ⟨v231, e231, h⟩ := bO_some h
              refine ww_getR 231 X dX11_contentKeyComes_231 fG_X11_425 e231 ?_
              obtain ⟨_, f234, h⟩ := bO_some h
              obtain ⟨v234, M234, e234, h⟩ := bP_some h
              refine ww_callVI0 234 X dX11_contentKeyComes_234 mY_X1_putUnwrapped mL_X11_246 (rcv_spec f234) ⟨_, _, rfl⟩ (by decide) (As := [.ref v217, .ref v224, .ref v231]) (rest := []) rfl rfl ⟨Nat.le_of_ble_eq_true rfl, Nat.le_of_ble_eq_true rfl⟩ (Nat.le_of_ble_eq_true rfl) (fun l D A => c_X1_putUnwrapped l D A e234) ?_
              exact ww_zretE 237 X hQ dX11_contentKeyComes_237 h
def P_X11_contentKeyComes (G : Nat → Nat) (F : Nat) (l0 : Nat) (l1 : Nat) (M : mM) : Option (Int32 × mM) :=
  bO (gfR M l0 11 17) fun v1 =>
  bO (gfI M v1 10 1) fun v4 =>
  if v4 < (4 : Int32) then (B_X11_contentKeyComes_40 G F l0 l1 M)
  else (bO (gfR M l1 5 8) fun v13 =>
  bO (gfR M l0 11 17) fun v17 =>
  bO (gfR M v17 10 6) fun v20 =>
  bO (gfR M l0 11 17) fun v24 =>
  bO (gfR M v24 10 4) fun v27 =>
  bO (gfR M l0 11 17) fun v31 =>
  bO (gfR M v31 10 5) fun v34 =>
  bO (rcv M l0 11) fun _ =>
  bO (P_X11_agree G F l0 v13 v20 v27 v34 M) fun M37 =>
  B_X11_contentKeyComes_40 G F l0 l1 M37)
set_option maxHeartbeats 4000000 in
set_option maxRecDepth 100000 in
theorem wP_X11_contentKeyComes {G : Nat → Nat} {F : Nat} {x : mXT} {sz : Nat} {r0 : Int32} {M0 : mM} (X : mCX G RX11 cX11_contentKeyComes 2 (some .boolean) "contentKeyComes" rmX11_contentKeyComes x) (hQ : mQI x r0 M0 (sz, 0, 0)) {l0 : Nat} {l1 : Nat} {M : mM} (h : P_X11_contentKeyComes G F l0 l1 M = some (r0, M0)) : WW x (sz, 0, 0) M 0 [(0, .ref l0), (1, .ref l1)] [] := by
  unfold P_X11_contentKeyComes at h
  refine ww_aload_n 0 X dX11_contentKeyComes_0 0 rfl rfl ?_
  obtain ⟨v1, e1, h⟩ := bO_some h
  refine ww_getR 1 X dX11_contentKeyComes_1 fG_X11_109 e1 ?_
  obtain ⟨v4, e4, h⟩ := bO_some h
  refine ww_getI 4 X dX11_contentKeyComes_4 fG_X11_351 e4 ?_
  refine ww_iconst 7 X (v := (4 : Int32)) dX11_contentKeyComes_7 (by decide) ?_
  refine ww_icmp_lt 8 40 X dX11_contentKeyComes_8 (by decide) (fun q => ?_) (fun q => ?_)
  · replace h := (if_pos q).symm.trans h
    exact (wB_X11_contentKeyComes_40 X hQ h)
  · replace h := (if_neg q).symm.trans h
    refine ww_aload_n 11 X dX11_contentKeyComes_11 0 rfl rfl ?_
    refine ww_aload_n 12 X dX11_contentKeyComes_12 1 rfl rfl ?_
    obtain ⟨v13, e13, h⟩ := bO_some h
    refine ww_getR 13 X dX11_contentKeyComes_13 fG_X11_459 e13 ?_
    refine ww_aload_n 16 X dX11_contentKeyComes_16 0 rfl rfl ?_
    obtain ⟨v17, e17, h⟩ := bO_some h
    refine ww_getR 17 X dX11_contentKeyComes_17 fG_X11_109 e17 ?_
    obtain ⟨v20, e20, h⟩ := bO_some h
    refine ww_getR 20 X dX11_contentKeyComes_20 fG_X11_412 e20 ?_
    refine ww_aload_n 23 X dX11_contentKeyComes_23 0 rfl rfl ?_
    obtain ⟨v24, e24, h⟩ := bO_some h
    refine ww_getR 24 X dX11_contentKeyComes_24 fG_X11_109 e24 ?_
    obtain ⟨v27, e27, h⟩ := bO_some h
    refine ww_getR 27 X dX11_contentKeyComes_27 fG_X11_557 e27 ?_
    refine ww_aload_n 30 X dX11_contentKeyComes_30 0 rfl rfl ?_
    obtain ⟨v31, e31, h⟩ := bO_some h
    refine ww_getR 31 X dX11_contentKeyComes_31 fG_X11_109 e31 ?_
    obtain ⟨v34, e34, h⟩ := bO_some h
    refine ww_getR 34 X dX11_contentKeyComes_34 fG_X11_560 e34 ?_
    obtain ⟨_, f37, h⟩ := bO_some h
    obtain ⟨M37, e37, h⟩ := bO_some h
    refine ww_callVV0 37 X dX11_contentKeyComes_37 mY_X11_agree mL_X11_547 (rcv_spec f37) ⟨_, _, rfl⟩ (by decide) (As := [.ref v13, .ref v20, .ref v27, .ref v34]) (rest := []) rfl rfl ⟨Nat.le_of_ble_eq_true rfl, Nat.le_of_ble_eq_true rfl⟩ (Nat.le_of_ble_eq_true rfl) (fun l D A => c_X11_agree l D A e37) ?_
    exact (wB_X11_contentKeyComes_40 X hQ h)
theorem c_X11_contentKeyComes {G : Nat → Nat} {F sz : Nat} {r0 : Int32} {M0 : mM} (l : Launch) (D : mD) (A : Nat → Prop) {l0 : Nat} {l1 : Nat} {M : mM} (h : P_X11_contentKeyComes G F l0 l1 M = some (r0, M0)) : mMetI l D G A yX11_contentKeyComes cX11_contentKeyComes 2 (some .boolean) 6 194 0 0 [.ref l0, .ref l1] M sz r0 M0 sz := mMetI_of l D G A (by decide) (Nat.le_of_ble_eq_true rfl) (fun x X hQ => wP_X11_contentKeyComes X hQ h)
/-! SealedTokens.decrypt(I)I -/
theorem dX11_decrypt_0 : decode cX11_decrypt 0 = .ok (.aload_n 0, 1) := by decide +kernel
theorem dX11_decrypt_1 : decode cX11_decrypt 1 = .ok (.iload_n 1, 1) := by decide +kernel
theorem dX11_decrypt_2 : decode cX11_decrypt 2 = .ok (.invokevirtual 123, 3) := by decide +kernel
theorem dX11_decrypt_5 : decode cX11_decrypt 5 = .ok (.ifCond .ne 6, 3) := by decide +kernel
theorem dX11_decrypt_8 : decode cX11_decrypt 8 = .ok (.bipush (-2), 2) := by decide +kernel
theorem dX11_decrypt_10 : decode cX11_decrypt 10 = .ok (.ireturn, 1) := by decide +kernel
theorem dX11_decrypt_11 : decode cX11_decrypt 11 = .ok (.aload_n 0, 1) := by decide +kernel
theorem dX11_decrypt_12 : decode cX11_decrypt 12 = .ok (.getfield 11, 3) := by decide +kernel
theorem dX11_decrypt_15 : decode cX11_decrypt 15 = .ok (.iload_n 1, 1) := by decide +kernel
theorem dX11_decrypt_16 : decode cX11_decrypt 16 = .ok (.aaload, 1) := by decide +kernel
theorem dX11_decrypt_17 : decode cX11_decrypt 17 = .ok (.astore_n 2, 1) := by decide +kernel
theorem dX11_decrypt_18 : decode cX11_decrypt 18 = .ok (.aload_n 0, 1) := by decide +kernel
theorem dX11_decrypt_19 : decode cX11_decrypt 19 = .ok (.getfield 109, 3) := by decide +kernel
theorem dX11_decrypt_22 : decode cX11_decrypt 22 = .ok (.aload_n 2, 1) := by decide +kernel
theorem dX11_decrypt_23 : decode cX11_decrypt 23 = .ok (.iconst 5, 1) := by decide +kernel
theorem dX11_decrypt_24 : decode cX11_decrypt 24 = .ok (.invokevirtual 371, 3) := by decide +kernel
theorem dX11_decrypt_27 : decode cX11_decrypt 27 = .ok (.ifCond .ne 6, 3) := by decide +kernel
theorem dX11_decrypt_30 : decode cX11_decrypt 30 = .ok (.bipush (-20), 2) := by decide +kernel
theorem dX11_decrypt_32 : decode cX11_decrypt 32 = .ok (.ireturn, 1) := by decide +kernel
theorem dX11_decrypt_33 : decode cX11_decrypt 33 = .ok (.iconst 0, 1) := by decide +kernel
theorem dX11_decrypt_34 : decode cX11_decrypt 34 = .ok (.istore_n 3, 1) := by decide +kernel
theorem dX11_decrypt_35 : decode cX11_decrypt 35 = .ok (.iload_n 3, 1) := by decide +kernel
theorem dX11_decrypt_36 : decode cX11_decrypt 36 = .ok (.iconst 5, 1) := by decide +kernel
theorem dX11_decrypt_37 : decode cX11_decrypt 37 = .ok (.if_icmp .ge 24, 3) := by decide +kernel
theorem dX11_decrypt_40 : decode cX11_decrypt 40 = .ok (.aload_n 0, 1) := by decide +kernel
theorem dX11_decrypt_41 : decode cX11_decrypt 41 = .ok (.getfield 109, 3) := by decide +kernel
theorem dX11_decrypt_44 : decode cX11_decrypt 44 = .ok (.aload_n 2, 1) := by decide +kernel
theorem dX11_decrypt_45 : decode cX11_decrypt 45 = .ok (.iload_n 3, 1) := by decide +kernel
theorem dX11_decrypt_46 : decode cX11_decrypt 46 = .ok (.invokevirtual 375, 3) := by decide +kernel
theorem dX11_decrypt_49 : decode cX11_decrypt 49 = .ok (.ifCond .eq 6, 3) := by decide +kernel
theorem dX11_decrypt_52 : decode cX11_decrypt 52 = .ok (.bipush (-21), 2) := by decide +kernel
theorem dX11_decrypt_54 : decode cX11_decrypt 54 = .ok (.ireturn, 1) := by decide +kernel
theorem dX11_decrypt_55 : decode cX11_decrypt 55 = .ok (.iinc 3 1, 3) := by decide +kernel
theorem dX11_decrypt_58 : decode cX11_decrypt 58 = .ok (.goto (-23), 3) := by decide +kernel
theorem dX11_decrypt_61 : decode cX11_decrypt 61 = .ok (.aload_n 0, 1) := by decide +kernel
theorem dX11_decrypt_62 : decode cX11_decrypt 62 = .ok (.getfield 109, 3) := by decide +kernel
theorem dX11_decrypt_65 : decode cX11_decrypt 65 = .ok (.aload_n 2, 1) := by decide +kernel
theorem dX11_decrypt_66 : decode cX11_decrypt 66 = .ok (.iconst 0, 1) := by decide +kernel
theorem dX11_decrypt_67 : decode cX11_decrypt 67 = .ok (.aload_n 0, 1) := by decide +kernel
theorem dX11_decrypt_68 : decode cX11_decrypt 68 = .ok (.getfield 109, 3) := by decide +kernel
theorem dX11_decrypt_71 : decode cX11_decrypt 71 = .ok (.getfield 352, 3) := by decide +kernel
theorem dX11_decrypt_74 : decode cX11_decrypt 74 = .ok (.invokevirtual 378, 3) := by decide +kernel
theorem dX11_decrypt_77 : decode cX11_decrypt 77 = .ok (.aload_n 0, 1) := by decide +kernel
theorem dX11_decrypt_78 : decode cX11_decrypt 78 = .ok (.getfield 52, 3) := by decide +kernel
theorem dX11_decrypt_81 : decode cX11_decrypt 81 = .ok (.aload_n 0, 1) := by decide +kernel
theorem dX11_decrypt_82 : decode cX11_decrypt 82 = .ok (.getfield 109, 3) := by decide +kernel
theorem dX11_decrypt_85 : decode cX11_decrypt 85 = .ok (.getfield 352, 3) := by decide +kernel
theorem dX11_decrypt_88 : decode cX11_decrypt 88 = .ok (.aload_n 0, 1) := by decide +kernel
theorem dX11_decrypt_89 : decode cX11_decrypt 89 = .ok (.getfield 44, 3) := by decide +kernel
theorem dX11_decrypt_92 : decode cX11_decrypt 92 = .ok (.invokevirtual 142, 3) := by decide +kernel
theorem dX11_decrypt_95 : decode cX11_decrypt 95 = .ok (.iconst (-1), 1) := by decide +kernel
theorem dX11_decrypt_96 : decode cX11_decrypt 96 = .ok (.if_icmp .eq 6, 3) := by decide +kernel
theorem dX11_decrypt_99 : decode cX11_decrypt 99 = .ok (.bipush (-22), 2) := by decide +kernel
theorem dX11_decrypt_101 : decode cX11_decrypt 101 = .ok (.ireturn, 1) := by decide +kernel
theorem dX11_decrypt_102 : decode cX11_decrypt 102 = .ok (.aload_n 0, 1) := by decide +kernel
theorem dX11_decrypt_103 : decode cX11_decrypt 103 = .ok (.getfield 109, 3) := by decide +kernel
theorem dX11_decrypt_106 : decode cX11_decrypt 106 = .ok (.aload_n 0, 1) := by decide +kernel
theorem dX11_decrypt_107 : decode cX11_decrypt 107 = .ok (.getfield 44, 3) := by decide +kernel
theorem dX11_decrypt_110 : decode cX11_decrypt 110 = .ok (.invokevirtual 437, 3) := by decide +kernel
theorem dX11_decrypt_113 : decode cX11_decrypt 113 = .ok (.istore_n 3, 1) := by decide +kernel
theorem dX11_decrypt_114 : decode cX11_decrypt 114 = .ok (.iload_n 3, 1) := by decide +kernel
theorem dX11_decrypt_115 : decode cX11_decrypt 115 = .ok (.ifCond .eq 5, 3) := by decide +kernel
theorem dX11_decrypt_118 : decode cX11_decrypt 118 = .ok (.iload_n 3, 1) := by decide +kernel
theorem dX11_decrypt_119 : decode cX11_decrypt 119 = .ok (.ireturn, 1) := by decide +kernel
theorem dX11_decrypt_120 : decode cX11_decrypt 120 = .ok (.aload_n 0, 1) := by decide +kernel
theorem dX11_decrypt_121 : decode cX11_decrypt 121 = .ok (.getfield 109, 3) := by decide +kernel
theorem dX11_decrypt_124 : decode cX11_decrypt 124 = .ok (.getfield 351, 3) := by decide +kernel
theorem dX11_decrypt_127 : decode cX11_decrypt 127 = .ok (.iconst 4, 1) := by decide +kernel
theorem dX11_decrypt_128 : decode cX11_decrypt 128 = .ok (.if_icmp .lt 23, 3) := by decide +kernel
theorem dX11_decrypt_131 : decode cX11_decrypt 131 = .ok (.aload_n 0, 1) := by decide +kernel
theorem dX11_decrypt_132 : decode cX11_decrypt 132 = .ok (.getfield 102, 3) := by decide +kernel
theorem dX11_decrypt_135 : decode cX11_decrypt 135 = .ok (.aload_n 0, 1) := by decide +kernel
theorem dX11_decrypt_136 : decode cX11_decrypt 136 = .ok (.getfield 109, 3) := by decide +kernel
theorem dX11_decrypt_139 : decode cX11_decrypt 139 = .ok (.getfield 412, 3) := by decide +kernel
theorem dX11_decrypt_142 : decode cX11_decrypt 142 = .ok (.invokevirtual 279, 3) := by decide +kernel
theorem dX11_decrypt_145 : decode cX11_decrypt 145 = .ok (.ifCond .ne 6, 3) := by decide +kernel
theorem dX11_decrypt_148 : decode cX11_decrypt 148 = .ok (.bipush (-23), 2) := by decide +kernel
theorem dX11_decrypt_150 : decode cX11_decrypt 150 = .ok (.ireturn, 1) := by decide +kernel
theorem dX11_decrypt_151 : decode cX11_decrypt 151 = .ok (.aload_n 0, 1) := by decide +kernel
theorem dX11_decrypt_152 : decode cX11_decrypt 152 = .ok (.getfield 28, 3) := by decide +kernel
theorem dX11_decrypt_155 : decode cX11_decrypt 155 = .ok (.invokevirtual 131, 3) := by decide +kernel
theorem dX11_decrypt_158 : decode cX11_decrypt 158 = .ok (.aload_n 0, 1) := by decide +kernel
theorem dX11_decrypt_159 : decode cX11_decrypt 159 = .ok (.getfield 28, 3) := by decide +kernel
theorem dX11_decrypt_162 : decode cX11_decrypt 162 = .ok (.aload_n 2, 1) := by decide +kernel
theorem dX11_decrypt_163 : decode cX11_decrypt 163 = .ok (.iconst 0, 1) := by decide +kernel
theorem dX11_decrypt_164 : decode cX11_decrypt 164 = .ok (.aload_n 0, 1) := by decide +kernel
theorem dX11_decrypt_165 : decode cX11_decrypt 165 = .ok (.getfield 109, 3) := by decide +kernel
theorem dX11_decrypt_168 : decode cX11_decrypt 168 = .ok (.iconst 0, 1) := by decide +kernel
theorem dX11_decrypt_169 : decode cX11_decrypt 169 = .ok (.invokevirtual 382, 3) := by decide +kernel
theorem dX11_decrypt_172 : decode cX11_decrypt 172 = .ok (.invokevirtual 385, 3) := by decide +kernel
theorem dX11_decrypt_175 : decode cX11_decrypt 175 = .ok (.aload_n 0, 1) := by decide +kernel
theorem dX11_decrypt_176 : decode cX11_decrypt 176 = .ok (.getfield 109, 3) := by decide +kernel
theorem dX11_decrypt_179 : decode cX11_decrypt 179 = .ok (.aload_n 2, 1) := by decide +kernel
theorem dX11_decrypt_180 : decode cX11_decrypt 180 = .ok (.aload_n 0, 1) := by decide +kernel
theorem dX11_decrypt_181 : decode cX11_decrypt 181 = .ok (.getfield 31, 3) := by decide +kernel
theorem dX11_decrypt_184 : decode cX11_decrypt 184 = .ok (.invokevirtual 440, 3) := by decide +kernel
theorem dX11_decrypt_187 : decode cX11_decrypt 187 = .ok (.istore 4, 2) := by decide +kernel
theorem dX11_decrypt_189 : decode cX11_decrypt 189 = .ok (.iconst 0, 1) := by decide +kernel
theorem dX11_decrypt_190 : decode cX11_decrypt 190 = .ok (.istore 5, 2) := by decide +kernel
theorem dX11_decrypt_192 : decode cX11_decrypt 192 = .ok (.iconst 0, 1) := by decide +kernel
theorem dX11_decrypt_193 : decode cX11_decrypt 193 = .ok (.istore 6, 2) := by decide +kernel
theorem dX11_decrypt_195 : decode cX11_decrypt 195 = .ok (.iload 6, 2) := by decide +kernel
theorem dX11_decrypt_197 : decode cX11_decrypt 197 = .ok (.bipush 16, 2) := by decide +kernel
theorem dX11_decrypt_199 : decode cX11_decrypt 199 = .ok (.if_icmp .ge 156, 3) := by decide +kernel
theorem dX11_decrypt_202 : decode cX11_decrypt 202 = .ok (.aload_n 0, 1) := by decide +kernel
theorem dX11_decrypt_203 : decode cX11_decrypt 203 = .ok (.getfield 58, 3) := by decide +kernel
theorem dX11_decrypt_206 : decode cX11_decrypt 206 = .ok (.iload 6, 2) := by decide +kernel
theorem dX11_decrypt_208 : decode cX11_decrypt 208 = .ok (.aaload, 1) := by decide +kernel
theorem dX11_decrypt_209 : decode cX11_decrypt 209 = .ok (.getfield 308, 3) := by decide +kernel
theorem dX11_decrypt_212 : decode cX11_decrypt 212 = .ok (.ifCond .eq 137, 3) := by decide +kernel
theorem dX11_decrypt_215 : decode cX11_decrypt 215 = .ok (.aload_n 0, 1) := by decide +kernel
theorem dX11_decrypt_216 : decode cX11_decrypt 216 = .ok (.getfield 109, 3) := by decide +kernel
theorem dX11_decrypt_219 : decode cX11_decrypt 219 = .ok (.aload_n 0, 1) := by decide +kernel
theorem dX11_decrypt_220 : decode cX11_decrypt 220 = .ok (.getfield 44, 3) := by decide +kernel
theorem dX11_decrypt_223 : decode cX11_decrypt 223 = .ok (.aload_n 0, 1) := by decide +kernel
theorem dX11_decrypt_224 : decode cX11_decrypt 224 = .ok (.getfield 58, 3) := by decide +kernel
theorem dX11_decrypt_227 : decode cX11_decrypt 227 = .ok (.iload 6, 2) := by decide +kernel
theorem dX11_decrypt_229 : decode cX11_decrypt 229 = .ok (.aaload, 1) := by decide +kernel
theorem dX11_decrypt_230 : decode cX11_decrypt 230 = .ok (.invokevirtual 388, 3) := by decide +kernel
theorem dX11_decrypt_233 : decode cX11_decrypt 233 = .ok (.ifCond .eq 116, 3) := by decide +kernel
theorem dX11_decrypt_236 : decode cX11_decrypt 236 = .ok (.aload_n 0, 1) := by decide +kernel
theorem dX11_decrypt_237 : decode cX11_decrypt 237 = .ok (.getfield 58, 3) := by decide +kernel
theorem dX11_decrypt_240 : decode cX11_decrypt 240 = .ok (.iload 6, 2) := by decide +kernel
theorem dX11_decrypt_242 : decode cX11_decrypt 242 = .ok (.aaload, 1) := by decide +kernel
theorem dX11_decrypt_243 : decode cX11_decrypt 243 = .ok (.aload_n 0, 1) := by decide +kernel
theorem dX11_decrypt_244 : decode cX11_decrypt 244 = .ok (.getfield 109, 3) := by decide +kernel
theorem dX11_decrypt_247 : decode cX11_decrypt 247 = .ok (.getfield 351, 3) := by decide +kernel
theorem dX11_decrypt_250 : decode cX11_decrypt 250 = .ok (.aload_n 0, 1) := by decide +kernel
theorem dX11_decrypt_251 : decode cX11_decrypt 251 = .ok (.getfield 109, 3) := by decide +kernel
theorem dX11_decrypt_254 : decode cX11_decrypt 254 = .ok (.getfield 444, 3) := by decide +kernel
theorem dX11_decrypt_257 : decode cX11_decrypt 257 = .ok (.iconst 1, 1) := by decide +kernel
theorem dX11_decrypt_258 : decode cX11_decrypt 258 = .ok (.invokevirtual 398, 3) := by decide +kernel
theorem dX11_decrypt_261 : decode cX11_decrypt 261 = .ok (.ifCond .eq 88, 3) := by decide +kernel
theorem dX11_decrypt_264 : decode cX11_decrypt 264 = .ok (.iconst 1, 1) := by decide +kernel
theorem dX11_decrypt_265 : decode cX11_decrypt 265 = .ok (.istore 5, 2) := by decide +kernel
theorem dX11_decrypt_267 : decode cX11_decrypt 267 = .ok (.iload 4, 2) := by decide +kernel
theorem dX11_decrypt_269 : decode cX11_decrypt 269 = .ok (.ifCond .eq 80, 3) := by decide +kernel
theorem dX11_decrypt_272 : decode cX11_decrypt 272 = .ok (.aload_n 0, 1) := by decide +kernel
theorem dX11_decrypt_273 : decode cX11_decrypt 273 = .ok (.aload_n 0, 1) := by decide +kernel
theorem dX11_decrypt_274 : decode cX11_decrypt 274 = .ok (.getfield 58, 3) := by decide +kernel
theorem dX11_decrypt_277 : decode cX11_decrypt 277 = .ok (.iload 6, 2) := by decide +kernel
theorem dX11_decrypt_279 : decode cX11_decrypt 279 = .ok (.aaload, 1) := by decide +kernel
theorem dX11_decrypt_280 : decode cX11_decrypt 280 = .ok (.invokevirtual 447, 3) := by decide +kernel
theorem dX11_decrypt_283 : decode cX11_decrypt 283 = .ok (.ifCond .eq 66, 3) := by decide +kernel
theorem dX11_decrypt_286 : decode cX11_decrypt 286 = .ok (.aload_n 0, 1) := by decide +kernel
theorem dX11_decrypt_287 : decode cX11_decrypt 287 = .ok (.getfield 86, 3) := by decide +kernel
theorem dX11_decrypt_290 : decode cX11_decrypt 290 = .ok (.aload_n 0, 1) := by decide +kernel
theorem dX11_decrypt_291 : decode cX11_decrypt 291 = .ok (.getfield 109, 3) := by decide +kernel
theorem dX11_decrypt_294 : decode cX11_decrypt 294 = .ok (.getfield 444, 3) := by decide +kernel
theorem dX11_decrypt_297 : decode cX11_decrypt 297 = .ok (.aload_n 0, 1) := by decide +kernel
theorem dX11_decrypt_298 : decode cX11_decrypt 298 = .ok (.getfield 109, 3) := by decide +kernel
theorem dX11_decrypt_301 : decode cX11_decrypt 301 = .ok (.getfield 425, 3) := by decide +kernel
theorem dX11_decrypt_304 : decode cX11_decrypt 304 = .ok (.aload_n 0, 1) := by decide +kernel
theorem dX11_decrypt_305 : decode cX11_decrypt 305 = .ok (.getfield 109, 3) := by decide +kernel
theorem dX11_decrypt_308 : decode cX11_decrypt 308 = .ok (.getfield 428, 3) := by decide +kernel
theorem dX11_decrypt_311 : decode cX11_decrypt 311 = .ok (.aload_n 0, 1) := by decide +kernel
theorem dX11_decrypt_312 : decode cX11_decrypt 312 = .ok (.getfield 28, 3) := by decide +kernel
theorem dX11_decrypt_315 : decode cX11_decrypt 315 = .ok (.aload_n 0, 1) := by decide +kernel
theorem dX11_decrypt_316 : decode cX11_decrypt 316 = .ok (.getfield 31, 3) := by decide +kernel
theorem dX11_decrypt_319 : decode cX11_decrypt 319 = .ok (.aload_n 0, 1) := by decide +kernel
theorem dX11_decrypt_320 : decode cX11_decrypt 320 = .ok (.getfield 34, 3) := by decide +kernel
theorem dX11_decrypt_323 : decode cX11_decrypt 323 = .ok (.invokevirtual 265, 3) := by decide +kernel
theorem dX11_decrypt_326 : decode cX11_decrypt 326 = .ok (.ifCond .eq 23, 3) := by decide +kernel
theorem dX11_decrypt_329 : decode cX11_decrypt 329 = .ok (.aload_n 0, 1) := by decide +kernel
theorem dX11_decrypt_330 : decode cX11_decrypt 330 = .ok (.aload_n 0, 1) := by decide +kernel
theorem dX11_decrypt_331 : decode cX11_decrypt 331 = .ok (.getfield 34, 3) := by decide +kernel
theorem dX11_decrypt_334 : decode cX11_decrypt 334 = .ok (.iconst 0, 1) := by decide +kernel
theorem dX11_decrypt_335 : decode cX11_decrypt 335 = .ok (.aload_n 0, 1) := by decide +kernel
theorem dX11_decrypt_336 : decode cX11_decrypt 336 = .ok (.getfield 34, 3) := by decide +kernel
theorem dX11_decrypt_339 : decode cX11_decrypt 339 = .ok (.getfield 113, 3) := by decide +kernel
theorem dX11_decrypt_342 : decode cX11_decrypt 342 = .ok (.invokevirtual 176, 3) := by decide +kernel
theorem dX11_decrypt_345 : decode cX11_decrypt 345 = .ok (.pop, 1) := by decide +kernel
theorem dX11_decrypt_346 : decode cX11_decrypt 346 = .ok (.iload 6, 2) := by decide +kernel
theorem dX11_decrypt_348 : decode cX11_decrypt 348 = .ok (.ireturn, 1) := by decide +kernel
theorem dX11_decrypt_349 : decode cX11_decrypt 349 = .ok (.iinc 6 1, 3) := by decide +kernel
theorem dX11_decrypt_352 : decode cX11_decrypt 352 = .ok (.goto (-157), 3) := by decide +kernel
theorem dX11_decrypt_355 : decode cX11_decrypt 355 = .ok (.iload 5, 2) := by decide +kernel
theorem dX11_decrypt_357 : decode cX11_decrypt 357 = .ok (.ifCond .eq 8, 3) := by decide +kernel
theorem dX11_decrypt_360 : decode cX11_decrypt 360 = .ok (.bipush (-27), 2) := by decide +kernel
theorem dX11_decrypt_362 : decode cX11_decrypt 362 = .ok (.goto 5, 3) := by decide +kernel
theorem dX11_decrypt_365 : decode cX11_decrypt 365 = .ok (.bipush (-26), 2) := by decide +kernel
theorem dX11_decrypt_367 : decode cX11_decrypt 367 = .ok (.ireturn, 1) := by decide +kernel
abbrev rmX11_decrypt : Room := { frames := 9, cells := 0, slots := 0, locals := 215 }
def B_X11_decrypt_195 (G : Nat → Nat) (F : Nat) : Nat → Nat → Int32 → Int32 → Int32 → mM → Option (Int32 × mM)
  | 0, _, _, _, _, _ => none
  | n + 1, l0, l4, l5, l6, M =>
  if (16 : Int32) ≤ l6 then (if l5 = 0 then (some ((-26 : Int32), M))
  else (some ((-27 : Int32), M)))
  else (bO (gfR M l0 11 10) fun v203 =>
  bO (aR M 5 v203 l6) fun v208 =>
  bO (gfI M v208 5 0) fun v209 =>
  if v209 = 0 then (B_X11_decrypt_195 G F n l0 l4 l5 (l6 + 1) M)
  else (bO (gfR M l0 11 17) fun v216 =>
  bO (gfR M l0 11 8) fun v220 =>
  bO (gfR M l0 11 10) fun v224 =>
  bO (aR M 5 v224 l6) fun v229 =>
  bO (rcv M v216 10) fun _ =>
  bP (P_X10_kidSuits G F v216 v220 v229 M) fun v230 M230 =>
  if v230 = 0 then (B_X11_decrypt_195 G F n l0 l4 l5 (l6 + 1) M230)
  else (bO (gfR M230 l0 11 10) fun v237 =>
  bO (aR M230 5 v237 l6) fun v242 =>
  bO (gfR M230 l0 11 17) fun v244 =>
  bO (gfI M230 v244 10 1) fun v247 =>
  bO (gfR M230 l0 11 17) fun v251 =>
  bO (gfI M230 v251 10 2) fun v254 =>
  bO (rcv M230 v242 5) fun _ =>
  bP (P_X5_maySeal G F v242 v247 v254 (1 : Int32) M230) fun v258 M258 =>
  if v258 = 0 then (B_X11_decrypt_195 G F n l0 l4 l5 (l6 + 1) M258)
  else (if l4 = 0 then (B_X11_decrypt_195 G F n l0 l4 (1 : Int32) (l6 + 1) M258)
  else (bO (gfR M258 l0 11 10) fun v274 =>
  bO (aR M258 5 v274 l6) fun v279 =>
  bO (rcv M258 l0 11) fun _ =>
  bP (P_X11_contentKeyComes G F l0 v279 M258) fun v280 M280 =>
  if v280 = 0 then (B_X11_decrypt_195 G F n l0 l4 (1 : Int32) (l6 + 1) M280)
  else (bO (gfR M280 l0 11 14) fun v287 =>
  bO (gfR M280 l0 11 17) fun v291 =>
  bO (gfI M280 v291 10 2) fun v294 =>
  bO (gfR M280 l0 11 17) fun v298 =>
  bO (gfR M280 v298 10 9) fun v301 =>
  bO (gfR M280 l0 11 17) fun v305 =>
  bO (gfR M280 v305 10 11) fun v308 =>
  bO (gfR M280 l0 11 4) fun v312 =>
  bO (gfR M280 l0 11 5) fun v316 =>
  bO (gfR M280 l0 11 6) fun v320 =>
  bO (rcv M280 v287 2) fun _ =>
  bP (P_X2_unlock G F v287 v294 v301 v308 v312 v316 v320 M280) fun v323 M323 =>
  if v323 = 0 then (B_X11_decrypt_195 G F n l0 l4 (1 : Int32) (l6 + 1) M323)
  else (bO (gfR M323 l0 11 6) fun v331 =>
  bO (gfR M323 l0 11 6) fun v336 =>
  bO (gfI M323 v336 0 1) fun v339 =>
  bO (rcv M323 l0 11) fun _ =>
  bP (P_X11_show G F l0 v331 (0 : Int32) v339 M323) fun v342 M342 =>
  some (l6, M342))))))))
set_option maxHeartbeats 4000000 in
set_option maxRecDepth 100000 in
theorem wB_X11_decrypt_195 {G : Nat → Nat} {F : Nat} {x : mXT} {sz : Nat} {r0 : Int32} {M0 : mM} (X : mCX G RX11 cX11_decrypt 7 (some .int) "decrypt" rmX11_decrypt x) (hQ : mQI x r0 M0 (sz, 0, 0)) : ∀ (n : Nat) (l0 : Nat) (l4 : Int32) (l5 : Int32) (l6 : Int32) (M : mM), B_X11_decrypt_195 G F n l0 l4 l5 l6 M = some (r0, M0) → WW x (sz, 0, 0) M 195 [(0, .ref l0), (4, .int l4), (5, .int l5), (6, .int l6)] [] := by
  intro n
  induction n with
  | zero =>
    intro l0 l4 l5 l6 M h
    exact nomatch (show (none : Option (Int32 × mM)) = some (r0, M0) from h)
  | succ n ih =>
    intro l0 l4 l5 l6 M h
    rw [B_X11_decrypt_195] at h
    refine ww_iload 195 X dX11_decrypt_195 3 rfl ?_
    refine ww_bipush 197 X (v := (16 : Int32)) dX11_decrypt_197 (by decide) ?_
    refine ww_icmp_ge 199 355 X dX11_decrypt_199 (by decide) (fun q => ?_) (fun q => ?_)
    · replace h := (if_pos q).symm.trans h
      refine ww_iload 355 X dX11_decrypt_355 2 rfl ?_
      refine ww_if_eq 357 365 X dX11_decrypt_357 (by decide) (fun q => ?_) (fun q => ?_)
      · replace h := (if_pos q).symm.trans h
        refine ww_bipush 365 X (v := (-26 : Int32)) dX11_decrypt_365 (by decide) ?_
        exact ww_iretE 367 X hQ dX11_decrypt_367 h
      · replace h := (if_neg q).symm.trans h
        refine ww_bipush 360 X (v := (-27 : Int32)) dX11_decrypt_360 (by decide) ?_
        refine ww_goto 362 367 X dX11_decrypt_362 (by decide) ?_
        exact ww_iretE 367 X hQ dX11_decrypt_367 h
    · replace h := (if_neg q).symm.trans h
      refine ww_aload_n 202 X dX11_decrypt_202 0 rfl rfl ?_
      obtain ⟨v203, e203, h⟩ := bO_some h
      refine ww_getR 203 X dX11_decrypt_203 fG_X11_58 e203 ?_
      refine ww_iload 206 X dX11_decrypt_206 3 rfl ?_
      obtain ⟨v208, e208, h⟩ := bO_some h
      refine ww_aald5 208 X dX11_decrypt_208 e208 ?_
      obtain ⟨v209, e209, h⟩ := bO_some h
      refine ww_getI 209 X dX11_decrypt_209 fG_X11_308 e209 ?_
      refine ww_if_eq 212 349 X dX11_decrypt_212 (by decide) (fun q => ?_) (fun q => ?_)
      · replace h := (if_pos q).symm.trans h
        refine ww_iinc 349 X dX11_decrypt_349 (lv' := [(0, .ref l0), (4, .int l4), (5, .int l5), (6, .int (l6 + 1))]) 3 rfl rfl (by decide) [1, 2, 3, 0] rfl ?_
        refine ww_goto 352 195 X dX11_decrypt_352 (by decide) ?_
        exact (ih _ _ _ _ _ h)
      · replace h := (if_neg q).symm.trans h
        refine ww_aload_n 215 X dX11_decrypt_215 0 rfl rfl ?_
        obtain ⟨v216, e216, h⟩ := bO_some h
        refine ww_getR 216 X dX11_decrypt_216 fG_X11_109 e216 ?_
        refine ww_aload_n 219 X dX11_decrypt_219 0 rfl rfl ?_
        obtain ⟨v220, e220, h⟩ := bO_some h
        refine ww_getR 220 X dX11_decrypt_220 fG_X11_44 e220 ?_
        refine ww_aload_n 223 X dX11_decrypt_223 0 rfl rfl ?_
        obtain ⟨v224, e224, h⟩ := bO_some h
        refine ww_getR 224 X dX11_decrypt_224 fG_X11_58 e224 ?_
        refine ww_iload 227 X dX11_decrypt_227 3 rfl ?_
        obtain ⟨v229, e229, h⟩ := bO_some h
        refine ww_aald5 229 X dX11_decrypt_229 e229 ?_
        obtain ⟨_, f230, h⟩ := bO_some h
        obtain ⟨v230, M230, e230, h⟩ := bP_some h
        refine ww_callVI0 230 X dX11_decrypt_230 mY_X10_kidSuits mL_X11_388 (rcv_spec f230) ⟨_, _, rfl⟩ (by decide) (As := [.ref v220, .ref v229]) (rest := []) rfl rfl ⟨Nat.le_of_ble_eq_true rfl, Nat.le_of_ble_eq_true rfl⟩ (Nat.le_of_ble_eq_true rfl) (fun l D A => c_X10_kidSuits l D A e230) ?_
        refine ww_if_eq 233 349 X dX11_decrypt_233 (by decide) (fun q => ?_) (fun q => ?_)
        · replace h := (if_pos q).symm.trans h
          refine ww_iinc 349 X dX11_decrypt_349 (lv' := [(0, .ref l0), (4, .int l4), (5, .int l5), (6, .int (l6 + 1))]) 3 rfl rfl (by decide) [1, 2, 3, 0] rfl ?_
          refine ww_goto 352 195 X dX11_decrypt_352 (by decide) ?_
          exact (ih _ _ _ _ _ h)
        · replace h := (if_neg q).symm.trans h
          refine ww_aload_n 236 X dX11_decrypt_236 0 rfl rfl ?_
          obtain ⟨v237, e237, h⟩ := bO_some h
          refine ww_getR 237 X dX11_decrypt_237 fG_X11_58 e237 ?_
          refine ww_iload 240 X dX11_decrypt_240 3 rfl ?_
          obtain ⟨v242, e242, h⟩ := bO_some h
          refine ww_aald5 242 X dX11_decrypt_242 e242 ?_
          refine ww_aload_n 243 X dX11_decrypt_243 0 rfl rfl ?_
          obtain ⟨v244, e244, h⟩ := bO_some h
          refine ww_getR 244 X dX11_decrypt_244 fG_X11_109 e244 ?_
          obtain ⟨v247, e247, h⟩ := bO_some h
          refine ww_getI 247 X dX11_decrypt_247 fG_X11_351 e247 ?_
          refine ww_aload_n 250 X dX11_decrypt_250 0 rfl rfl ?_
          obtain ⟨v251, e251, h⟩ := bO_some h
          refine ww_getR 251 X dX11_decrypt_251 fG_X11_109 e251 ?_
          obtain ⟨v254, e254, h⟩ := bO_some h
          refine ww_getI 254 X dX11_decrypt_254 fG_X11_444 e254 ?_
          refine ww_iconst 257 X (v := (1 : Int32)) dX11_decrypt_257 (by decide) ?_
          obtain ⟨_, f258, h⟩ := bO_some h
          obtain ⟨v258, M258, e258, h⟩ := bP_some h
          refine ww_callVI0 258 X dX11_decrypt_258 mY_X5_maySeal mL_X11_398 (rcv_spec f258) ⟨_, _, rfl⟩ (by decide) (As := [.int v247, .int v254, .int (1 : Int32)]) (rest := []) rfl rfl ⟨Nat.le_of_ble_eq_true rfl, Nat.le_of_ble_eq_true rfl⟩ (Nat.le_of_ble_eq_true rfl) (fun l D A => c_X5_maySeal l D A e258) ?_
          refine ww_if_eq 261 349 X dX11_decrypt_261 (by decide) (fun q => ?_) (fun q => ?_)
          · replace h := (if_pos q).symm.trans h
            refine ww_iinc 349 X dX11_decrypt_349 (lv' := [(0, .ref l0), (4, .int l4), (5, .int l5), (6, .int (l6 + 1))]) 3 rfl rfl (by decide) [1, 2, 3, 0] rfl ?_
            refine ww_goto 352 195 X dX11_decrypt_352 (by decide) ?_
            exact (ih _ _ _ _ _ h)
          · replace h := (if_neg q).symm.trans h
            refine ww_iconst 264 X (v := (1 : Int32)) dX11_decrypt_264 (by decide) ?_
            refine ww_istore 265 X dX11_decrypt_265 (lv' := [(0, .ref l0), (4, .int l4), (5, .int (1 : Int32)), (6, .int l6)]) (by decide) [1, 2, 0, 3] rfl ?_
            refine ww_iload 267 X dX11_decrypt_267 1 rfl ?_
            refine ww_if_eq 269 349 X dX11_decrypt_269 (by decide) (fun q => ?_) (fun q => ?_)
            · replace h := (if_pos q).symm.trans h
              refine ww_iinc 349 X dX11_decrypt_349 (lv' := [(0, .ref l0), (4, .int l4), (5, .int (1 : Int32)), (6, .int (l6 + 1))]) 3 rfl rfl (by decide) [1, 2, 3, 0] rfl ?_
              refine ww_goto 352 195 X dX11_decrypt_352 (by decide) ?_
              exact (ih _ _ _ _ _ h)
            · replace h := (if_neg q).symm.trans h
              refine ww_aload_n 272 X dX11_decrypt_272 0 rfl rfl ?_
              refine ww_aload_n 273 X dX11_decrypt_273 0 rfl rfl ?_
              obtain ⟨v274, e274, h⟩ := bO_some h
              refine ww_getR 274 X dX11_decrypt_274 fG_X11_58 e274 ?_
              refine ww_iload 277 X dX11_decrypt_277 3 rfl ?_
              obtain ⟨v279, e279, h⟩ := bO_some h
              refine ww_aald5 279 X dX11_decrypt_279 e279 ?_
              obtain ⟨_, f280, h⟩ := bO_some h
              obtain ⟨v280, M280, e280, h⟩ := bP_some h
              refine ww_callVI0 280 X dX11_decrypt_280 mY_X11_contentKeyComes mL_X11_447 (rcv_spec f280) ⟨_, _, rfl⟩ (by decide) (As := [.ref v279]) (rest := []) rfl rfl ⟨Nat.le_of_ble_eq_true rfl, Nat.le_of_ble_eq_true rfl⟩ (Nat.le_of_ble_eq_true rfl) (fun l D A => c_X11_contentKeyComes l D A e280) ?_
              refine ww_if_eq 283 349 X dX11_decrypt_283 (by decide) (fun q => ?_) (fun q => ?_)
              · replace h := (if_pos q).symm.trans h
                refine ww_iinc 349 X dX11_decrypt_349 (lv' := [(0, .ref l0), (4, .int l4), (5, .int (1 : Int32)), (6, .int (l6 + 1))]) 3 rfl rfl (by decide) [1, 2, 3, 0] rfl ?_
                refine ww_goto 352 195 X dX11_decrypt_352 (by decide) ?_
                exact (ih _ _ _ _ _ h)
              · replace h := (if_neg q).symm.trans h
                refine ww_aload_n 286 X dX11_decrypt_286 0 rfl rfl ?_
                obtain ⟨v287, e287, h⟩ := bO_some h
                refine ww_getR 287 X dX11_decrypt_287 fG_X11_86 e287 ?_
                refine ww_aload_n 290 X dX11_decrypt_290 0 rfl rfl ?_
                obtain ⟨v291, e291, h⟩ := bO_some h
                refine ww_getR 291 X dX11_decrypt_291 fG_X11_109 e291 ?_
                obtain ⟨v294, e294, h⟩ := bO_some h
                refine ww_getI 294 X dX11_decrypt_294 fG_X11_444 e294 ?_
                refine ww_aload_n 297 X dX11_decrypt_297 0 rfl rfl ?_
                obtain ⟨v298, e298, h⟩ := bO_some h
                refine ww_getR 298 X dX11_decrypt_298 fG_X11_109 e298 ?_
                obtain ⟨v301, e301, h⟩ := bO_some h
                refine ww_getR 301 X dX11_decrypt_301 fG_X11_425 e301 ?_
                refine ww_aload_n 304 X dX11_decrypt_304 0 rfl rfl ?_
                obtain ⟨v305, e305, h⟩ := bO_some h
                refine ww_getR 305 X dX11_decrypt_305 fG_X11_109 e305 ?_
                obtain ⟨v308, e308, h⟩ := bO_some h
                refine ww_getR 308 X dX11_decrypt_308 fG_X11_428 e308 ?_
                refine ww_aload_n 311 X dX11_decrypt_311 0 rfl rfl ?_
                obtain ⟨v312, e312, h⟩ := bO_some h
                refine ww_getR 312 X dX11_decrypt_312 fG_X11_28 e312 ?_
                refine ww_aload_n 315 X dX11_decrypt_315 0 rfl rfl ?_
                obtain ⟨v316, e316, h⟩ := bO_some h
                refine ww_getR 316 X dX11_decrypt_316 fG_X11_31 e316 ?_
                refine ww_aload_n 319 X dX11_decrypt_319 0 rfl rfl ?_
                obtain ⟨v320, e320, h⟩ := bO_some h
                refine ww_getR 320 X dX11_decrypt_320 fG_X11_34 e320 ?_
                obtain ⟨_, f323, h⟩ := bO_some h
                obtain ⟨v323, M323, e323, h⟩ := bP_some h
                refine ww_callVI0 323 X dX11_decrypt_323 mY_X2_unlock mL_X11_265 (rcv_spec f323) ⟨_, _, rfl⟩ (by decide) (As := [.int v294, .ref v301, .ref v308, .ref v312, .ref v316, .ref v320]) (rest := []) rfl rfl ⟨Nat.le_of_ble_eq_true rfl, Nat.le_of_ble_eq_true rfl⟩ (Nat.le_of_ble_eq_true rfl) (fun l D A => c_X2_unlock l D A e323) ?_
                refine ww_if_eq 326 349 X dX11_decrypt_326 (by decide) (fun q => ?_) (fun q => ?_)
                · replace h := (if_pos q).symm.trans h
                  refine ww_iinc 349 X dX11_decrypt_349 (lv' := [(0, .ref l0), (4, .int l4), (5, .int (1 : Int32)), (6, .int (l6 + 1))]) 3 rfl rfl (by decide) [1, 2, 3, 0] rfl ?_
                  refine ww_goto 352 195 X dX11_decrypt_352 (by decide) ?_
                  exact (ih _ _ _ _ _ h)
                · replace h := (if_neg q).symm.trans h
                  refine ww_aload_n 329 X dX11_decrypt_329 0 rfl rfl ?_
                  refine ww_aload_n 330 X dX11_decrypt_330 0 rfl rfl ?_
                  obtain ⟨v331, e331, h⟩ := bO_some h
                  refine ww_getR 331 X dX11_decrypt_331 fG_X11_34 e331 ?_
                  refine ww_iconst 334 X (v := (0 : Int32)) dX11_decrypt_334 (by decide) ?_
                  refine ww_aload_n 335 X dX11_decrypt_335 0 rfl rfl ?_
                  obtain ⟨v336, e336, h⟩ := bO_some h
                  refine ww_getR 336 X dX11_decrypt_336 fG_X11_34 e336 ?_
                  obtain ⟨v339, e339, h⟩ := bO_some h
                  refine ww_getI 339 X dX11_decrypt_339 fG_X11_113 e339 ?_
                  obtain ⟨_, f342, h⟩ := bO_some h
                  obtain ⟨v342, M342, e342, h⟩ := bP_some h
                  refine ww_callVI0 342 X dX11_decrypt_342 mY_X11_show mL_X11_176 (rcv_spec f342) ⟨_, _, rfl⟩ (by decide) (As := [.ref v331, .int (0 : Int32), .int v339]) (rest := []) rfl rfl ⟨Nat.le_of_ble_eq_true rfl, Nat.le_of_ble_eq_true rfl⟩ (Nat.le_of_ble_eq_true rfl) (fun l D A => c_X11_show l D A e342) ?_
                  refine ww_pop 345 X dX11_decrypt_345 rfl ?_
                  refine ww_iload 346 X dX11_decrypt_346 3 rfl ?_
                  exact ww_iretE 348 X hQ dX11_decrypt_348 h
def B_X11_decrypt_151 (G : Nat → Nat) (F : Nat) (l0 : Nat) (l2 : Nat) (M : mM) : Option (Int32 × mM) :=
  bO (gfR M l0 11 4) fun v152 =>
  bO (rcv M v152 0) fun _ =>
  bO (P_X0_clear G F v152 M) fun M155 =>
  bO (gfR M155 l0 11 4) fun v159 =>
  bO (gfR M155 l0 11 17) fun v165 =>
  bO (rcv M155 v165 10) fun _ =>
  bP (P_X10_partEnd G F v165 (0 : Int32) M155) fun v169 M169 =>
  bO (rcv M169 v159 0) fun _ =>
  bO (P_X0_putPart G F v159 l2 (0 : Int32) v169 M169) fun M172 =>
  bO (gfR M172 l0 11 17) fun v176 =>
  bO (gfR M172 l0 11 5) fun v181 =>
  bO (rcv M172 v176 10) fun _ =>
  bP (P_X10_readSealedParts G F v176 l2 v181 M172) fun v184 M184 =>
  B_X11_decrypt_195 G F F l0 v184 (0 : Int32) (0 : Int32) M184
set_option maxHeartbeats 4000000 in
set_option maxRecDepth 100000 in
theorem wB_X11_decrypt_151 {G : Nat → Nat} {F : Nat} {x : mXT} {sz : Nat} {r0 : Int32} {M0 : mM} (X : mCX G RX11 cX11_decrypt 7 (some .int) "decrypt" rmX11_decrypt x) (hQ : mQI x r0 M0 (sz, 0, 0)) {l0 : Nat} {l2 : Nat} {M : mM} (h : B_X11_decrypt_151 G F l0 l2 M = some (r0, M0)) : WW x (sz, 0, 0) M 151 [(0, .ref l0), (2, .ref l2)] [] := by
  unfold B_X11_decrypt_151 at h
  refine ww_aload_n 151 X dX11_decrypt_151 0 rfl rfl ?_
  obtain ⟨v152, e152, h⟩ := bO_some h
  refine ww_getR 152 X dX11_decrypt_152 fG_X11_28 e152 ?_
  obtain ⟨_, f155, h⟩ := bO_some h
  obtain ⟨M155, e155, h⟩ := bO_some h
  refine ww_callVV0 155 X dX11_decrypt_155 mY_X0_clear mL_X11_131 (rcv_spec f155) ⟨_, _, rfl⟩ (by decide) (As := []) (rest := []) rfl rfl ⟨Nat.le_of_ble_eq_true rfl, Nat.le_of_ble_eq_true rfl⟩ (Nat.le_of_ble_eq_true rfl) (fun l D A => c_X0_clear l D A e155) ?_
  refine ww_aload_n 158 X dX11_decrypt_158 0 rfl rfl ?_
  obtain ⟨v159, e159, h⟩ := bO_some h
  refine ww_getR 159 X dX11_decrypt_159 fG_X11_28 e159 ?_
  refine ww_aload_n 162 X dX11_decrypt_162 1 rfl rfl ?_
  refine ww_iconst 163 X (v := (0 : Int32)) dX11_decrypt_163 (by decide) ?_
  refine ww_aload_n 164 X dX11_decrypt_164 0 rfl rfl ?_
  obtain ⟨v165, e165, h⟩ := bO_some h
  refine ww_getR 165 X dX11_decrypt_165 fG_X11_109 e165 ?_
  refine ww_iconst 168 X (v := (0 : Int32)) dX11_decrypt_168 (by decide) ?_
  obtain ⟨_, f169, h⟩ := bO_some h
  obtain ⟨v169, M169, e169, h⟩ := bP_some h
  refine ww_callVI0 169 X dX11_decrypt_169 mY_X10_partEnd mL_X11_382 (rcv_spec f169) ⟨_, _, rfl⟩ (by decide) (As := [.int (0 : Int32)]) (rest := [.int (0 : Int32), .ref l2, .ref v159]) rfl rfl ⟨Nat.le_of_ble_eq_true rfl, Nat.le_of_ble_eq_true rfl⟩ (Nat.le_of_ble_eq_true rfl) (fun l D A => c_X10_partEnd l D A e169) ?_
  obtain ⟨_, f172, h⟩ := bO_some h
  obtain ⟨M172, e172, h⟩ := bO_some h
  refine ww_callVV0 172 X dX11_decrypt_172 mY_X0_putPart mL_X11_385 (rcv_spec f172) ⟨_, _, rfl⟩ (by decide) (As := [.ref l2, .int (0 : Int32), .int v169]) (rest := []) rfl rfl ⟨Nat.le_of_ble_eq_true rfl, Nat.le_of_ble_eq_true rfl⟩ (Nat.le_of_ble_eq_true rfl) (fun l D A => c_X0_putPart l D A e172) ?_
  refine ww_aload_n 175 X dX11_decrypt_175 0 rfl rfl ?_
  obtain ⟨v176, e176, h⟩ := bO_some h
  refine ww_getR 176 X dX11_decrypt_176 fG_X11_109 e176 ?_
  refine ww_aload_n 179 X dX11_decrypt_179 1 rfl rfl ?_
  refine ww_aload_n 180 X dX11_decrypt_180 0 rfl rfl ?_
  obtain ⟨v181, e181, h⟩ := bO_some h
  refine ww_getR 181 X dX11_decrypt_181 fG_X11_31 e181 ?_
  obtain ⟨_, f184, h⟩ := bO_some h
  obtain ⟨v184, M184, e184, h⟩ := bP_some h
  refine ww_callVI0 184 X dX11_decrypt_184 mY_X10_readSealedParts mL_X11_440 (rcv_spec f184) ⟨_, _, rfl⟩ (by decide) (As := [.ref l2, .ref v181]) (rest := []) rfl rfl ⟨Nat.le_of_ble_eq_true rfl, Nat.le_of_ble_eq_true rfl⟩ (Nat.le_of_ble_eq_true rfl) (fun l D A => c_X10_readSealedParts l D A e184) ?_
  refine ww_istore 187 X dX11_decrypt_187 (lv' := [(0, .ref l0), (2, .ref l2), (4, .int v184)]) (by decide) [1, 2, 0] rfl ?_
  refine ww_iconst 189 X (v := (0 : Int32)) dX11_decrypt_189 (by decide) ?_
  refine ww_istore 190 X dX11_decrypt_190 (lv' := [(0, .ref l0), (2, .ref l2), (4, .int v184), (5, .int (0 : Int32))]) (by decide) [1, 2, 3, 0] rfl ?_
  refine ww_iconst 192 X (v := (0 : Int32)) dX11_decrypt_192 (by decide) ?_
  refine ww_istore 193 X dX11_decrypt_193 (lv' := [(0, .ref l0), (2, .ref l2), (4, .int v184), (5, .int (0 : Int32)), (6, .int (0 : Int32))]) (by decide) [1, 2, 3, 4, 0] rfl ?_
  exact ww_sub [0, 2, 3, 4] rfl (wB_X11_decrypt_195 X hQ F _ _ _ _ _ h)
def B_X11_decrypt_35 (G : Nat → Nat) (F : Nat) : Nat → Nat → Nat → Int32 → mM → Option (Int32 × mM)
  | 0, _, _, _, _ => none
  | n + 1, l0, l2, l3, M =>
  if (5 : Int32) ≤ l3 then (bO (gfR M l0 11 17) fun v62 =>
  bO (gfR M l0 11 17) fun v68 =>
  bO (gfR M v68 10 0) fun v71 =>
  bO (rcv M v62 10) fun _ =>
  bO (P_X10_readPart G F v62 l2 (0 : Int32) v71 M) fun M74 =>
  bO (gfR M74 l0 11 9) fun v78 =>
  bO (gfR M74 l0 11 17) fun v82 =>
  bO (gfR M74 v82 10 0) fun v85 =>
  bO (gfR M74 l0 11 8) fun v89 =>
  bO (rcv M74 v78 7) fun _ =>
  bP (P_X7_read G F v78 v85 v89 M74) fun v92 M92 =>
  if v92 = (-1 : Int32) then (bO (gfR M92 l0 11 17) fun v103 =>
  bO (gfR M92 l0 11 8) fun v107 =>
  bO (rcv M92 v103 10) fun _ =>
  bP (P_X10_sealedHeadReason G F v103 v107 M92) fun v110 M110 =>
  if v110 = 0 then (bO (gfR M110 l0 11 17) fun v121 =>
  bO (gfI M110 v121 10 1) fun v124 =>
  if v124 < (4 : Int32) then (B_X11_decrypt_151 G F l0 l2 M110)
  else (bO (gfR M110 l0 11 16) fun v132 =>
  bO (gfR M110 l0 11 17) fun v136 =>
  bO (gfR M110 v136 10 6) fun v139 =>
  bO (rcv M110 v132 3) fun _ =>
  bP (P_X3_load G F v132 v139 M110) fun v142 M142 =>
  if v142 = 0 then (some ((-23 : Int32), M142))
  else (B_X11_decrypt_151 G F l0 l2 M142)))
  else (some (v110, M110)))
  else (some ((-22 : Int32), M92)))
  else (bO (gfR M l0 11 17) fun v41 =>
  bO (rcv M v41 10) fun _ =>
  bP (P_X10_isFaulty G F v41 l2 l3 M) fun v46 M46 =>
  if v46 = 0 then (B_X11_decrypt_35 G F n l0 l2 (l3 + 1) M46)
  else (some ((-21 : Int32), M46)))
set_option maxHeartbeats 4000000 in
set_option maxRecDepth 100000 in
theorem wB_X11_decrypt_35 {G : Nat → Nat} {F : Nat} {x : mXT} {sz : Nat} {r0 : Int32} {M0 : mM} (X : mCX G RX11 cX11_decrypt 7 (some .int) "decrypt" rmX11_decrypt x) (hQ : mQI x r0 M0 (sz, 0, 0)) : ∀ (n : Nat) (l0 : Nat) (l2 : Nat) (l3 : Int32) (M : mM), B_X11_decrypt_35 G F n l0 l2 l3 M = some (r0, M0) → WW x (sz, 0, 0) M 35 [(0, .ref l0), (2, .ref l2), (3, .int l3)] [] := by
  intro n
  induction n with
  | zero =>
    intro l0 l2 l3 M h
    exact nomatch (show (none : Option (Int32 × mM)) = some (r0, M0) from h)
  | succ n ih =>
    intro l0 l2 l3 M h
    rw [B_X11_decrypt_35] at h
    refine ww_iload_n 35 X dX11_decrypt_35 2 rfl rfl ?_
    refine ww_iconst 36 X (v := (5 : Int32)) dX11_decrypt_36 (by decide) ?_
    refine ww_icmp_ge 37 61 X dX11_decrypt_37 (by decide) (fun q => ?_) (fun q => ?_)
    · replace h := (if_pos q).symm.trans h
      refine ww_aload_n 61 X dX11_decrypt_61 0 rfl rfl ?_
      obtain ⟨v62, e62, h⟩ := bO_some h
      refine ww_getR 62 X dX11_decrypt_62 fG_X11_109 e62 ?_
      refine ww_aload_n 65 X dX11_decrypt_65 1 rfl rfl ?_
      refine ww_iconst 66 X (v := (0 : Int32)) dX11_decrypt_66 (by decide) ?_
      refine ww_aload_n 67 X dX11_decrypt_67 0 rfl rfl ?_
      obtain ⟨v68, e68, h⟩ := bO_some h
      refine ww_getR 68 X dX11_decrypt_68 fG_X11_109 e68 ?_
      obtain ⟨v71, e71, h⟩ := bO_some h
      refine ww_getR 71 X dX11_decrypt_71 fG_X11_352 e71 ?_
      obtain ⟨_, f74, h⟩ := bO_some h
      obtain ⟨M74, e74, h⟩ := bO_some h
      refine ww_callVV0 74 X dX11_decrypt_74 mY_X10_readPart mL_X11_378 (rcv_spec f74) ⟨_, _, rfl⟩ (by decide) (As := [.ref l2, .int (0 : Int32), .ref v71]) (rest := []) rfl rfl ⟨Nat.le_of_ble_eq_true rfl, Nat.le_of_ble_eq_true rfl⟩ (Nat.le_of_ble_eq_true rfl) (fun l D A => c_X10_readPart l D A e74) ?_
      refine ww_aload_n 77 X dX11_decrypt_77 0 rfl rfl ?_
      obtain ⟨v78, e78, h⟩ := bO_some h
      refine ww_getR 78 X dX11_decrypt_78 fG_X11_52 e78 ?_
      refine ww_aload_n 81 X dX11_decrypt_81 0 rfl rfl ?_
      obtain ⟨v82, e82, h⟩ := bO_some h
      refine ww_getR 82 X dX11_decrypt_82 fG_X11_109 e82 ?_
      obtain ⟨v85, e85, h⟩ := bO_some h
      refine ww_getR 85 X dX11_decrypt_85 fG_X11_352 e85 ?_
      refine ww_aload_n 88 X dX11_decrypt_88 0 rfl rfl ?_
      obtain ⟨v89, e89, h⟩ := bO_some h
      refine ww_getR 89 X dX11_decrypt_89 fG_X11_44 e89 ?_
      obtain ⟨_, f92, h⟩ := bO_some h
      obtain ⟨v92, M92, e92, h⟩ := bP_some h
      refine ww_callVI0 92 X dX11_decrypt_92 mY_X7_read mL_X11_142 (rcv_spec f92) ⟨_, _, rfl⟩ (by decide) (As := [.ref v85, .ref v89]) (rest := []) rfl rfl ⟨Nat.le_of_ble_eq_true rfl, Nat.le_of_ble_eq_true rfl⟩ (Nat.le_of_ble_eq_true rfl) (fun l D A => c_X7_read l D A e92) ?_
      refine ww_iconst 95 X (v := (-1 : Int32)) dX11_decrypt_95 (by decide) ?_
      refine ww_icmp_eq 96 102 X dX11_decrypt_96 (by decide) (fun q => ?_) (fun q => ?_)
      · replace h := (if_pos q).symm.trans h
        refine ww_aload_n 102 X dX11_decrypt_102 0 rfl rfl ?_
        obtain ⟨v103, e103, h⟩ := bO_some h
        refine ww_getR 103 X dX11_decrypt_103 fG_X11_109 e103 ?_
        refine ww_aload_n 106 X dX11_decrypt_106 0 rfl rfl ?_
        obtain ⟨v107, e107, h⟩ := bO_some h
        refine ww_getR 107 X dX11_decrypt_107 fG_X11_44 e107 ?_
        obtain ⟨_, f110, h⟩ := bO_some h
        obtain ⟨v110, M110, e110, h⟩ := bP_some h
        refine ww_callVI0 110 X dX11_decrypt_110 mY_X10_sealedHeadReason mL_X11_437 (rcv_spec f110) ⟨_, _, rfl⟩ (by decide) (As := [.ref v107]) (rest := []) rfl rfl ⟨Nat.le_of_ble_eq_true rfl, Nat.le_of_ble_eq_true rfl⟩ (Nat.le_of_ble_eq_true rfl) (fun l D A => c_X10_sealedHeadReason l D A e110) ?_
        refine ww_istore_n 113 X dX11_decrypt_113 (lv' := [(0, .ref l0), (2, .ref l2), (3, .int v110)]) rfl (by decide) [1, 2, 0] rfl ?_
        refine ww_iload_n 114 X dX11_decrypt_114 2 rfl rfl ?_
        refine ww_if_eq 115 120 X dX11_decrypt_115 (by decide) (fun q => ?_) (fun q => ?_)
        · replace h := (if_pos q).symm.trans h
          refine ww_aload_n 120 X dX11_decrypt_120 0 rfl rfl ?_
          obtain ⟨v121, e121, h⟩ := bO_some h
          refine ww_getR 121 X dX11_decrypt_121 fG_X11_109 e121 ?_
          obtain ⟨v124, e124, h⟩ := bO_some h
          refine ww_getI 124 X dX11_decrypt_124 fG_X11_351 e124 ?_
          refine ww_iconst 127 X (v := (4 : Int32)) dX11_decrypt_127 (by decide) ?_
          refine ww_icmp_lt 128 151 X dX11_decrypt_128 (by decide) (fun q => ?_) (fun q => ?_)
          · replace h := (if_pos q).symm.trans h
            exact ww_sub [0, 1] rfl (wB_X11_decrypt_151 X hQ h)
          · replace h := (if_neg q).symm.trans h
            refine ww_aload_n 131 X dX11_decrypt_131 0 rfl rfl ?_
            obtain ⟨v132, e132, h⟩ := bO_some h
            refine ww_getR 132 X dX11_decrypt_132 fG_X11_102 e132 ?_
            refine ww_aload_n 135 X dX11_decrypt_135 0 rfl rfl ?_
            obtain ⟨v136, e136, h⟩ := bO_some h
            refine ww_getR 136 X dX11_decrypt_136 fG_X11_109 e136 ?_
            obtain ⟨v139, e139, h⟩ := bO_some h
            refine ww_getR 139 X dX11_decrypt_139 fG_X11_412 e139 ?_
            obtain ⟨_, f142, h⟩ := bO_some h
            obtain ⟨v142, M142, e142, h⟩ := bP_some h
            refine ww_callVI0 142 X dX11_decrypt_142 mY_X3_load mL_X11_279 (rcv_spec f142) ⟨_, _, rfl⟩ (by decide) (As := [.ref v139]) (rest := []) rfl rfl ⟨Nat.le_of_ble_eq_true rfl, Nat.le_of_ble_eq_true rfl⟩ (Nat.le_of_ble_eq_true rfl) (fun l D A => c_X3_load l D A e142) ?_
            refine ww_if_ne 145 151 X dX11_decrypt_145 (by decide) (fun q => ?_) (fun q => ?_)
            · replace h := (if_neg q).symm.trans h
              exact ww_sub [0, 1] rfl (wB_X11_decrypt_151 X hQ h)
            · replace h := (if_pos q).symm.trans h
              refine ww_bipush 148 X (v := (-23 : Int32)) dX11_decrypt_148 (by decide) ?_
              exact ww_iretE 150 X hQ dX11_decrypt_150 h
        · replace h := (if_neg q).symm.trans h
          refine ww_iload_n 118 X dX11_decrypt_118 2 rfl rfl ?_
          exact ww_iretE 119 X hQ dX11_decrypt_119 h
      · replace h := (if_neg q).symm.trans h
        refine ww_bipush 99 X (v := (-22 : Int32)) dX11_decrypt_99 (by decide) ?_
        exact ww_iretE 101 X hQ dX11_decrypt_101 h
    · replace h := (if_neg q).symm.trans h
      refine ww_aload_n 40 X dX11_decrypt_40 0 rfl rfl ?_
      obtain ⟨v41, e41, h⟩ := bO_some h
      refine ww_getR 41 X dX11_decrypt_41 fG_X11_109 e41 ?_
      refine ww_aload_n 44 X dX11_decrypt_44 1 rfl rfl ?_
      refine ww_iload_n 45 X dX11_decrypt_45 2 rfl rfl ?_
      obtain ⟨_, f46, h⟩ := bO_some h
      obtain ⟨v46, M46, e46, h⟩ := bP_some h
      refine ww_callVI0 46 X dX11_decrypt_46 mY_X10_isFaulty mL_X11_375 (rcv_spec f46) ⟨_, _, rfl⟩ (by decide) (As := [.ref l2, .int l3]) (rest := []) rfl rfl ⟨Nat.le_of_ble_eq_true rfl, Nat.le_of_ble_eq_true rfl⟩ (Nat.le_of_ble_eq_true rfl) (fun l D A => c_X10_isFaulty l D A e46) ?_
      refine ww_if_eq 49 55 X dX11_decrypt_49 (by decide) (fun q => ?_) (fun q => ?_)
      · replace h := (if_pos q).symm.trans h
        refine ww_iinc 55 X dX11_decrypt_55 (lv' := [(0, .ref l0), (2, .ref l2), (3, .int (l3 + 1))]) 2 rfl rfl (by decide) [1, 2, 0] rfl ?_
        refine ww_goto 58 35 X dX11_decrypt_58 (by decide) ?_
        exact (ih _ _ _ _ h)
      · replace h := (if_neg q).symm.trans h
        refine ww_bipush 52 X (v := (-21 : Int32)) dX11_decrypt_52 (by decide) ?_
        exact ww_iretE 54 X hQ dX11_decrypt_54 h
def P_X11_decrypt (G : Nat → Nat) (F : Nat) (l0 : Nat) (l1 : Int32) (M : mM) : Option (Int32 × mM) :=
  bO (rcv M l0 11) fun _ =>
  bP (P_X11_isRow G F l0 l1 M) fun v2 M2 =>
  if v2 = 0 then (some ((-2 : Int32), M2))
  else (bO (gfR M2 l0 11 0) fun v12 =>
  bO (aR M2 4 v12 l1) fun v16 =>
  bO (gfR M2 l0 11 17) fun v19 =>
  bO (rcv M2 v19 10) fun _ =>
  bP (P_X10_split G F v19 v16 (5 : Int32) M2) fun v24 M24 =>
  if v24 = 0 then (some ((-20 : Int32), M24))
  else (B_X11_decrypt_35 G F F l0 v16 (0 : Int32) M24))
set_option maxHeartbeats 4000000 in
set_option maxRecDepth 100000 in
theorem wP_X11_decrypt {G : Nat → Nat} {F : Nat} {x : mXT} {sz : Nat} {r0 : Int32} {M0 : mM} (X : mCX G RX11 cX11_decrypt 7 (some .int) "decrypt" rmX11_decrypt x) (hQ : mQI x r0 M0 (sz, 0, 0)) {l0 : Nat} {l1 : Int32} {M : mM} (h : P_X11_decrypt G F l0 l1 M = some (r0, M0)) : WW x (sz, 0, 0) M 0 [(0, .ref l0), (1, .int l1)] [] := by
  unfold P_X11_decrypt at h
  refine ww_aload_n 0 X dX11_decrypt_0 0 rfl rfl ?_
  refine ww_iload_n 1 X dX11_decrypt_1 1 rfl rfl ?_
  obtain ⟨_, f2, h⟩ := bO_some h
  obtain ⟨v2, M2, e2, h⟩ := bP_some h
  refine ww_callVI0 2 X dX11_decrypt_2 mY_X11_isRow mL_X11_123 (rcv_spec f2) ⟨_, _, rfl⟩ (by decide) (As := [.int l1]) (rest := []) rfl rfl ⟨Nat.le_of_ble_eq_true rfl, Nat.le_of_ble_eq_true rfl⟩ (Nat.le_of_ble_eq_true rfl) (fun l D A => c_X11_isRow l D A e2) ?_
  refine ww_if_ne 5 11 X dX11_decrypt_5 (by decide) (fun q => ?_) (fun q => ?_)
  · replace h := (if_neg q).symm.trans h
    refine ww_aload_n 11 X dX11_decrypt_11 0 rfl rfl ?_
    obtain ⟨v12, e12, h⟩ := bO_some h
    refine ww_getR 12 X dX11_decrypt_12 fG_X11_11 e12 ?_
    refine ww_iload_n 15 X dX11_decrypt_15 1 rfl rfl ?_
    obtain ⟨v16, e16, h⟩ := bO_some h
    refine ww_aald4 16 X dX11_decrypt_16 e16 ?_
    refine ww_astore_n 17 X dX11_decrypt_17 (lv' := [(0, .ref l0), (1, .int l1), (2, .ref v16)]) rfl (by decide) [1, 2, 0] rfl ?_
    refine ww_aload_n 18 X dX11_decrypt_18 0 rfl rfl ?_
    obtain ⟨v19, e19, h⟩ := bO_some h
    refine ww_getR 19 X dX11_decrypt_19 fG_X11_109 e19 ?_
    refine ww_aload_n 22 X dX11_decrypt_22 2 rfl rfl ?_
    refine ww_iconst 23 X (v := (5 : Int32)) dX11_decrypt_23 (by decide) ?_
    obtain ⟨_, f24, h⟩ := bO_some h
    obtain ⟨v24, M24, e24, h⟩ := bP_some h
    refine ww_callVI0 24 X dX11_decrypt_24 mY_X10_split mL_X11_371 (rcv_spec f24) ⟨_, _, rfl⟩ (by decide) (As := [.ref v16, .int (5 : Int32)]) (rest := []) rfl rfl ⟨Nat.le_of_ble_eq_true rfl, Nat.le_of_ble_eq_true rfl⟩ (Nat.le_of_ble_eq_true rfl) (fun l D A => c_X10_split l D A e24) ?_
    refine ww_if_ne 27 33 X dX11_decrypt_27 (by decide) (fun q => ?_) (fun q => ?_)
    · replace h := (if_neg q).symm.trans h
      refine ww_iconst 33 X (v := (0 : Int32)) dX11_decrypt_33 (by decide) ?_
      refine ww_istore_n 34 X dX11_decrypt_34 (lv' := [(0, .ref l0), (1, .int l1), (2, .ref v16), (3, .int (0 : Int32))]) rfl (by decide) [1, 2, 3, 0] rfl ?_
      exact ww_sub [0, 2, 3] rfl (wB_X11_decrypt_35 X hQ F _ _ _ _ h)
    · replace h := (if_pos q).symm.trans h
      refine ww_bipush 30 X (v := (-20 : Int32)) dX11_decrypt_30 (by decide) ?_
      exact ww_iretE 32 X hQ dX11_decrypt_32 h
  · replace h := (if_pos q).symm.trans h
    refine ww_bipush 8 X (v := (-2 : Int32)) dX11_decrypt_8 (by decide) ?_
    exact ww_iretE 10 X hQ dX11_decrypt_10 h
theorem c_X11_decrypt {G : Nat → Nat} {F sz : Nat} {r0 : Int32} {M0 : mM} (l : Launch) (D : mD) (A : Nat → Prop) {l0 : Nat} {l1 : Int32} {M : mM} (h : P_X11_decrypt G F l0 l1 M = some (r0, M0)) : mMetI l D G A yX11_decrypt cX11_decrypt 7 (some .int) 9 215 0 0 [.ref l0, .int l1] M sz r0 M0 sz := mMetI_of l D G A (by decide) (Nat.le_of_ble_eq_true rfl) (fun x X hQ => wP_X11_decrypt X hQ h)
/-! SealedTokensModel$Mod.load([BII[I)V -/
theorem dX12_load_0 : decode cX12_load 0 = .ok (.iconst 0, 1) := by decide +kernel
theorem dX12_load_1 : decode cX12_load 1 = .ok (.istore 5, 2) := by decide +kernel
theorem dX12_load_3 : decode cX12_load 3 = .ok (.iload 5, 2) := by decide +kernel
theorem dX12_load_5 : decode cX12_load 5 = .ok (.aload_n 0, 1) := by decide +kernel
theorem dX12_load_6 : decode cX12_load 6 = .ok (.getfield 31, 3) := by decide +kernel
theorem dX12_load_9 : decode cX12_load 9 = .ok (.if_icmp .ge 15, 3) := by decide +kernel
theorem dX12_load_12 : decode cX12_load 12 = .ok (.aload 4, 2) := by decide +kernel
theorem dX12_load_14 : decode cX12_load 14 = .ok (.iload 5, 2) := by decide +kernel
theorem dX12_load_16 : decode cX12_load 16 = .ok (.iconst 0, 1) := by decide +kernel
theorem dX12_load_17 : decode cX12_load 17 = .ok (.iastore, 1) := by decide +kernel
theorem dX12_load_18 : decode cX12_load 18 = .ok (.iinc 5 1, 3) := by decide +kernel
theorem dX12_load_21 : decode cX12_load 21 = .ok (.goto (-18), 3) := by decide +kernel
theorem dX12_load_24 : decode cX12_load 24 = .ok (.iconst 0, 1) := by decide +kernel
theorem dX12_load_25 : decode cX12_load 25 = .ok (.istore 5, 2) := by decide +kernel
theorem dX12_load_27 : decode cX12_load 27 = .ok (.iload 5, 2) := by decide +kernel
theorem dX12_load_29 : decode cX12_load 29 = .ok (.iload_n 3, 1) := by decide +kernel
theorem dX12_load_30 : decode cX12_load 30 = .ok (.if_icmp .ge 41, 3) := by decide +kernel
theorem dX12_load_33 : decode cX12_load 33 = .ok (.aload 4, 2) := by decide +kernel
theorem dX12_load_35 : decode cX12_load 35 = .ok (.iload 5, 2) := by decide +kernel
theorem dX12_load_37 : decode cX12_load 37 = .ok (.iconst 4, 1) := by decide +kernel
theorem dX12_load_38 : decode cX12_load 38 = .ok (.idiv, 1) := by decide +kernel
theorem dX12_load_39 : decode cX12_load 39 = .ok (.dup2, 1) := by decide +kernel
theorem dX12_load_40 : decode cX12_load 40 = .ok (.iaload, 1) := by decide +kernel
theorem dX12_load_41 : decode cX12_load 41 = .ok (.aload_n 1, 1) := by decide +kernel
theorem dX12_load_42 : decode cX12_load 42 = .ok (.iload_n 2, 1) := by decide +kernel
theorem dX12_load_43 : decode cX12_load 43 = .ok (.iload_n 3, 1) := by decide +kernel
theorem dX12_load_44 : decode cX12_load 44 = .ok (.iadd, 1) := by decide +kernel
theorem dX12_load_45 : decode cX12_load 45 = .ok (.iconst 1, 1) := by decide +kernel
theorem dX12_load_46 : decode cX12_load 46 = .ok (.isub, 1) := by decide +kernel
theorem dX12_load_47 : decode cX12_load 47 = .ok (.iload 5, 2) := by decide +kernel
theorem dX12_load_49 : decode cX12_load 49 = .ok (.isub, 1) := by decide +kernel
theorem dX12_load_50 : decode cX12_load 50 = .ok (.baload, 1) := by decide +kernel
theorem dX12_load_51 : decode cX12_load 51 = .ok (.sipush 255, 3) := by decide +kernel
theorem dX12_load_54 : decode cX12_load 54 = .ok (.iand, 1) := by decide +kernel
theorem dX12_load_55 : decode cX12_load 55 = .ok (.bipush 8, 2) := by decide +kernel
theorem dX12_load_57 : decode cX12_load 57 = .ok (.iload 5, 2) := by decide +kernel
theorem dX12_load_59 : decode cX12_load 59 = .ok (.iconst 4, 1) := by decide +kernel
theorem dX12_load_60 : decode cX12_load 60 = .ok (.irem, 1) := by decide +kernel
theorem dX12_load_61 : decode cX12_load 61 = .ok (.imul, 1) := by decide +kernel
theorem dX12_load_62 : decode cX12_load 62 = .ok (.ishl, 1) := by decide +kernel
theorem dX12_load_63 : decode cX12_load 63 = .ok (.ior, 1) := by decide +kernel
theorem dX12_load_64 : decode cX12_load 64 = .ok (.iastore, 1) := by decide +kernel
theorem dX12_load_65 : decode cX12_load 65 = .ok (.iinc 5 1, 3) := by decide +kernel
theorem dX12_load_68 : decode cX12_load 68 = .ok (.goto (-41), 3) := by decide +kernel
theorem dX12_load_71 : decode cX12_load 71 = .ok (.return_, 1) := by decide +kernel
abbrev rmX12_load : Room := { frames := 0, cells := 0, slots := 0, locals := 0 }
def B_X12_load_27 (G : Nat → Nat) (F : Nat) : Nat → Nat → Int32 → Int32 → Nat → Int32 → mM → Option mM
  | 0, _, _, _, _, _, _ => none
  | n + 1, l1, l2, l3, l4, l5, M =>
  if l3 ≤ l5 then (some M)
  else (bO (aI M 0 l4 (l5 / (4 : Int32))) fun v40 =>
  bO (aI M 1 l1 (((l2 + l3) - (1 : Int32)) - l5)) fun v50 =>
  bO (sI M 0 l4 (l5 / (4 : Int32)) (v40 ||| ((v50 &&& (255 : Int32)) <<< (((8 : Int32) * (l5 - l5 / (4 : Int32) * (4 : Int32))) &&& 31)))) fun M64 =>
  B_X12_load_27 G F n l1 l2 l3 l4 (l5 + 1) M64)
set_option maxHeartbeats 4000000 in
set_option maxRecDepth 100000 in
theorem wB_X12_load_27 {G : Nat → Nat} {F : Nat} {x : mXT} {sz : Nat} {M0 : mM} (X : mCX G RX12 cX12_load 6 none "load" rmX12_load x) (hQ : mQV x M0 (sz, 0, 0)) : ∀ (n : Nat) (l1 : Nat) (l2 : Int32) (l3 : Int32) (l4 : Nat) (l5 : Int32) (M : mM), B_X12_load_27 G F n l1 l2 l3 l4 l5 M = some M0 → WW x (sz, 0, 0) M 27 [(1, .ref l1), (2, .int l2), (3, .int l3), (4, .ref l4), (5, .int l5)] [] := by
  intro n
  induction n with
  | zero =>
    intro l1 l2 l3 l4 l5 M h
    exact nomatch (show (none : Option mM) = some M0 from h)
  | succ n ih =>
    intro l1 l2 l3 l4 l5 M h
    rw [B_X12_load_27] at h
    refine ww_iload 27 X dX12_load_27 4 rfl ?_
    refine ww_iload_n 29 X dX12_load_29 2 rfl rfl ?_
    refine ww_icmp_ge 30 71 X dX12_load_30 (by decide) (fun q => ?_) (fun q => ?_)
    · replace h := (if_pos q).symm.trans h
      exact ww_vretE 71 X hQ dX12_load_71 h
    · replace h := (if_neg q).symm.trans h
      refine ww_aload 33 X dX12_load_33 3 rfl ?_
      refine ww_iload 35 X dX12_load_35 4 rfl ?_
      refine ww_iconst 37 X (v := (4 : Int32)) dX12_load_37 (by decide) ?_
      refine ww_idiv 38 X (v := (l5 / (4 : Int32))) dX12_load_38 rfl ?_
      refine ww_dup2_11 39 X dX12_load_39 rfl rfl ?_
      obtain ⟨v40, e40, h⟩ := bO_some h
      refine ww_iald 40 X dX12_load_40 e40 ?_
      refine ww_aload_n 41 X dX12_load_41 0 rfl rfl ?_
      refine ww_iload_n 42 X dX12_load_42 1 rfl rfl ?_
      refine ww_iload_n 43 X dX12_load_43 2 rfl rfl ?_
      refine ww_iadd 44 X dX12_load_44 ?_
      refine ww_iconst 45 X (v := (1 : Int32)) dX12_load_45 (by decide) ?_
      refine ww_isub 46 X dX12_load_46 ?_
      refine ww_iload 47 X dX12_load_47 4 rfl ?_
      refine ww_isub 49 X dX12_load_49 ?_
      obtain ⟨v50, e50, h⟩ := bO_some h
      refine ww_bald 50 X dX12_load_50 e50 ?_
      refine ww_sipush 51 X (v := (255 : Int32)) dX12_load_51 (by decide) ?_
      refine ww_iand 54 X dX12_load_54 ?_
      refine ww_bipush 55 X (v := (8 : Int32)) dX12_load_55 (by decide) ?_
      refine ww_iload 57 X dX12_load_57 4 rfl ?_
      refine ww_iconst 59 X (v := (4 : Int32)) dX12_load_59 (by decide) ?_
      refine ww_irem 60 X (v := (l5 - l5 / (4 : Int32) * (4 : Int32))) dX12_load_60 rfl ?_
      refine ww_imul 61 X dX12_load_61 ?_
      refine ww_ishl 62 X dX12_load_62 ?_
      refine ww_ior 63 X dX12_load_63 ?_
      obtain ⟨M64, e64, h⟩ := bO_some h
      refine ww_iast 64 X dX12_load_64 e64 ?_
      refine ww_iinc 65 X dX12_load_65 (lv' := [(1, .ref l1), (2, .int l2), (3, .int l3), (4, .ref l4), (5, .int (l5 + 1))]) 4 rfl rfl (by decide) [1, 2, 3, 4, 0] rfl ?_
      refine ww_goto 68 27 X dX12_load_68 (by decide) ?_
      exact (ih _ _ _ _ _ _ h)
def B_X12_load_3 (G : Nat → Nat) (F : Nat) : Nat → Nat → Nat → Int32 → Int32 → Nat → Int32 → mM → Option mM
  | 0, _, _, _, _, _, _, _ => none
  | n + 1, l0, l1, l2, l3, l4, l5, M =>
  bO (gfI M l0 12 1) fun v6 =>
  if v6 ≤ l5 then (B_X12_load_27 G F F l1 l2 l3 l4 (0 : Int32) M)
  else (bO (sI M 0 l4 l5 (0 : Int32)) fun M17 =>
  B_X12_load_3 G F n l0 l1 l2 l3 l4 (l5 + 1) M17)
set_option maxHeartbeats 4000000 in
set_option maxRecDepth 100000 in
theorem wB_X12_load_3 {G : Nat → Nat} {F : Nat} {x : mXT} {sz : Nat} {M0 : mM} (X : mCX G RX12 cX12_load 6 none "load" rmX12_load x) (hQ : mQV x M0 (sz, 0, 0)) : ∀ (n : Nat) (l0 : Nat) (l1 : Nat) (l2 : Int32) (l3 : Int32) (l4 : Nat) (l5 : Int32) (M : mM), B_X12_load_3 G F n l0 l1 l2 l3 l4 l5 M = some M0 → WW x (sz, 0, 0) M 3 [(0, .ref l0), (1, .ref l1), (2, .int l2), (3, .int l3), (4, .ref l4), (5, .int l5)] [] := by
  intro n
  induction n with
  | zero =>
    intro l0 l1 l2 l3 l4 l5 M h
    exact nomatch (show (none : Option mM) = some M0 from h)
  | succ n ih =>
    intro l0 l1 l2 l3 l4 l5 M h
    rw [B_X12_load_3] at h
    refine ww_iload 3 X dX12_load_3 5 rfl ?_
    refine ww_aload_n 5 X dX12_load_5 0 rfl rfl ?_
    obtain ⟨v6, e6, h⟩ := bO_some h
    refine ww_getI 6 X dX12_load_6 fG_X12_31 e6 ?_
    refine ww_icmp_ge 9 24 X dX12_load_9 (by decide) (fun q => ?_) (fun q => ?_)
    · replace h := (if_pos q).symm.trans h
      refine ww_iconst 24 X (v := (0 : Int32)) dX12_load_24 (by decide) ?_
      refine ww_istore 25 X dX12_load_25 (lv' := [(0, .ref l0), (1, .ref l1), (2, .int l2), (3, .int l3), (4, .ref l4), (5, .int (0 : Int32))]) (by decide) [1, 2, 3, 4, 5, 0] rfl ?_
      exact ww_sub [1, 2, 3, 4, 5] rfl (wB_X12_load_27 X hQ F _ _ _ _ _ _ h)
    · replace h := (if_neg q).symm.trans h
      refine ww_aload 12 X dX12_load_12 4 rfl ?_
      refine ww_iload 14 X dX12_load_14 5 rfl ?_
      refine ww_iconst 16 X (v := (0 : Int32)) dX12_load_16 (by decide) ?_
      obtain ⟨M17, e17, h⟩ := bO_some h
      refine ww_iast 17 X dX12_load_17 e17 ?_
      refine ww_iinc 18 X dX12_load_18 (lv' := [(0, .ref l0), (1, .ref l1), (2, .int l2), (3, .int l3), (4, .ref l4), (5, .int (l5 + 1))]) 5 rfl rfl (by decide) [1, 2, 3, 4, 5, 0] rfl ?_
      refine ww_goto 21 3 X dX12_load_21 (by decide) ?_
      exact (ih _ _ _ _ _ _ _ h)
def P_X12_load (G : Nat → Nat) (F : Nat) (l0 : Nat) (l1 : Nat) (l2 : Int32) (l3 : Int32) (l4 : Nat) (M : mM) : Option mM :=
  B_X12_load_3 G F F l0 l1 l2 l3 l4 (0 : Int32) M
set_option maxHeartbeats 4000000 in
set_option maxRecDepth 100000 in
theorem wP_X12_load {G : Nat → Nat} {F : Nat} {x : mXT} {sz : Nat} {M0 : mM} (X : mCX G RX12 cX12_load 6 none "load" rmX12_load x) (hQ : mQV x M0 (sz, 0, 0)) {l0 : Nat} {l1 : Nat} {l2 : Int32} {l3 : Int32} {l4 : Nat} {M : mM} (h : P_X12_load G F l0 l1 l2 l3 l4 M = some M0) : WW x (sz, 0, 0) M 0 [(0, .ref l0), (1, .ref l1), (2, .int l2), (3, .int l3), (4, .ref l4)] [] := by
  unfold P_X12_load at h
  refine ww_iconst 0 X (v := (0 : Int32)) dX12_load_0 (by decide) ?_
  refine ww_istore 1 X dX12_load_1 (lv' := [(0, .ref l0), (1, .ref l1), (2, .int l2), (3, .int l3), (4, .ref l4), (5, .int (0 : Int32))]) (by decide) [1, 2, 3, 4, 5, 0] rfl ?_
  exact (wB_X12_load_3 X hQ F _ _ _ _ _ _ _ h)
theorem c_X12_load {G : Nat → Nat} {F sz : Nat} {M0 : mM} (l : Launch) (D : mD) (A : Nat → Prop) {l0 : Nat} {l1 : Nat} {l2 : Int32} {l3 : Int32} {l4 : Nat} {M : mM} (h : P_X12_load G F l0 l1 l2 l3 l4 M = some M0) : mMetV l D G A yX12_load cX12_load 6 none 0 0 0 0 [.ref l0, .ref l1, .int l2, .int l3, .ref l4] M sz M0 sz := mMetV_of l D G A (by decide) (Nat.le_of_ble_eq_true rfl) (fun x X hQ => wP_X12_load X hQ h)
/-! SealedTokensModel$Mod.order([I[I)I -/
theorem dX12_order_0 : decode cX12_order 0 = .ok (.aload_n 0, 1) := by decide +kernel
theorem dX12_order_1 : decode cX12_order 1 = .ok (.getfield 31, 3) := by decide +kernel
theorem dX12_order_4 : decode cX12_order 4 = .ok (.iconst 1, 1) := by decide +kernel
theorem dX12_order_5 : decode cX12_order 5 = .ok (.isub, 1) := by decide +kernel
theorem dX12_order_6 : decode cX12_order 6 = .ok (.istore_n 3, 1) := by decide +kernel
theorem dX12_order_7 : decode cX12_order 7 = .ok (.iload_n 3, 1) := by decide +kernel
theorem dX12_order_8 : decode cX12_order 8 = .ok (.ifCond .lt 39, 3) := by decide +kernel
theorem dX12_order_11 : decode cX12_order 11 = .ok (.aload_n 1, 1) := by decide +kernel
theorem dX12_order_12 : decode cX12_order 12 = .ok (.iload_n 3, 1) := by decide +kernel
theorem dX12_order_13 : decode cX12_order 13 = .ok (.iaload, 1) := by decide +kernel
theorem dX12_order_14 : decode cX12_order 14 = .ok (.aload_n 2, 1) := by decide +kernel
theorem dX12_order_15 : decode cX12_order 15 = .ok (.iload_n 3, 1) := by decide +kernel
theorem dX12_order_16 : decode cX12_order 16 = .ok (.iaload, 1) := by decide +kernel
theorem dX12_order_17 : decode cX12_order 17 = .ok (.if_icmp .eq 24, 3) := by decide +kernel
theorem dX12_order_20 : decode cX12_order 20 = .ok (.aload_n 1, 1) := by decide +kernel
theorem dX12_order_21 : decode cX12_order 21 = .ok (.iload_n 3, 1) := by decide +kernel
theorem dX12_order_22 : decode cX12_order 22 = .ok (.iaload, 1) := by decide +kernel
theorem dX12_order_23 : decode cX12_order 23 = .ok (.ldc 46, 2) := by decide +kernel
theorem dX12_order_25 : decode cX12_order 25 = .ok (.ixor, 1) := by decide +kernel
theorem dX12_order_26 : decode cX12_order 26 = .ok (.aload_n 2, 1) := by decide +kernel
theorem dX12_order_27 : decode cX12_order 27 = .ok (.iload_n 3, 1) := by decide +kernel
theorem dX12_order_28 : decode cX12_order 28 = .ok (.iaload, 1) := by decide +kernel
theorem dX12_order_29 : decode cX12_order 29 = .ok (.ldc 46, 2) := by decide +kernel
theorem dX12_order_31 : decode cX12_order 31 = .ok (.ixor, 1) := by decide +kernel
theorem dX12_order_32 : decode cX12_order 32 = .ok (.if_icmp .ge 7, 3) := by decide +kernel
theorem dX12_order_35 : decode cX12_order 35 = .ok (.iconst (-1), 1) := by decide +kernel
theorem dX12_order_36 : decode cX12_order 36 = .ok (.goto 4, 3) := by decide +kernel
theorem dX12_order_39 : decode cX12_order 39 = .ok (.iconst 1, 1) := by decide +kernel
theorem dX12_order_40 : decode cX12_order 40 = .ok (.ireturn, 1) := by decide +kernel
theorem dX12_order_41 : decode cX12_order 41 = .ok (.iinc 3 (-1), 3) := by decide +kernel
theorem dX12_order_44 : decode cX12_order 44 = .ok (.goto (-37), 3) := by decide +kernel
theorem dX12_order_47 : decode cX12_order 47 = .ok (.iconst 0, 1) := by decide +kernel
theorem dX12_order_48 : decode cX12_order 48 = .ok (.ireturn, 1) := by decide +kernel
abbrev rmX12_order : Room := { frames := 0, cells := 0, slots := 0, locals := 0 }
def B_X12_order_7 (G : Nat → Nat) (F : Nat) : Nat → Nat → Nat → Int32 → mM → Option (Int32 × mM)
  | 0, _, _, _, _ => none
  | n + 1, l1, l2, l3, M =>
  if l3 < 0 then (some ((0 : Int32), M))
  else (bO (aI M 0 l1 l3) fun v13 =>
  bO (aI M 0 l2 l3) fun v16 =>
  if v13 = v16 then (B_X12_order_7 G F n l1 l2 (l3 + (-1)) M)
  else (bO (aI M 0 l1 l3) fun v22 =>
  bO (aI M 0 l2 l3) fun v28 =>
  if (v28 ^^^ (-2147483648 : Int32)) ≤ (v22 ^^^ (-2147483648 : Int32)) then (some ((1 : Int32), M))
  else (some ((-1 : Int32), M))))
set_option maxHeartbeats 4000000 in
set_option maxRecDepth 100000 in
theorem wB_X12_order_7 {G : Nat → Nat} {F : Nat} {x : mXT} {sz : Nat} {r0 : Int32} {M0 : mM} (X : mCX G RX12 cX12_order 4 (some .int) "order" rmX12_order x) (hQ : mQI x r0 M0 (sz, 0, 0)) : ∀ (n : Nat) (l1 : Nat) (l2 : Nat) (l3 : Int32) (M : mM), B_X12_order_7 G F n l1 l2 l3 M = some (r0, M0) → WW x (sz, 0, 0) M 7 [(1, .ref l1), (2, .ref l2), (3, .int l3)] [] := by
  intro n
  induction n with
  | zero =>
    intro l1 l2 l3 M h
    exact nomatch (show (none : Option (Int32 × mM)) = some (r0, M0) from h)
  | succ n ih =>
    intro l1 l2 l3 M h
    rw [B_X12_order_7] at h
    refine ww_iload_n 7 X dX12_order_7 2 rfl rfl ?_
    refine ww_if_lt 8 47 X dX12_order_8 (by decide) (fun q => ?_) (fun q => ?_)
    · replace h := (if_pos q).symm.trans h
      refine ww_iconst 47 X (v := (0 : Int32)) dX12_order_47 (by decide) ?_
      exact ww_iretE 48 X hQ dX12_order_48 h
    · replace h := (if_neg q).symm.trans h
      refine ww_aload_n 11 X dX12_order_11 0 rfl rfl ?_
      refine ww_iload_n 12 X dX12_order_12 2 rfl rfl ?_
      obtain ⟨v13, e13, h⟩ := bO_some h
      refine ww_iald 13 X dX12_order_13 e13 ?_
      refine ww_aload_n 14 X dX12_order_14 1 rfl rfl ?_
      refine ww_iload_n 15 X dX12_order_15 2 rfl rfl ?_
      obtain ⟨v16, e16, h⟩ := bO_some h
      refine ww_iald 16 X dX12_order_16 e16 ?_
      refine ww_icmp_eq 17 41 X dX12_order_17 (by decide) (fun q => ?_) (fun q => ?_)
      · replace h := (if_pos q).symm.trans h
        refine ww_iinc 41 X dX12_order_41 (lv' := [(1, .ref l1), (2, .ref l2), (3, .int (l3 + (-1)))]) 2 rfl rfl (by decide) [1, 2, 0] rfl ?_
        refine ww_goto 44 7 X dX12_order_44 (by decide) ?_
        exact (ih _ _ _ _ h)
      · replace h := (if_neg q).symm.trans h
        refine ww_aload_n 20 X dX12_order_20 0 rfl rfl ?_
        refine ww_iload_n 21 X dX12_order_21 2 rfl rfl ?_
        obtain ⟨v22, e22, h⟩ := bO_some h
        refine ww_iald 22 X dX12_order_22 e22 ?_
        refine ww_ldc 23 X (v := (-2147483648 : Int32)) dX12_order_23 kI_X12_46 ?_
        refine ww_ixor 25 X dX12_order_25 ?_
        refine ww_aload_n 26 X dX12_order_26 1 rfl rfl ?_
        refine ww_iload_n 27 X dX12_order_27 2 rfl rfl ?_
        obtain ⟨v28, e28, h⟩ := bO_some h
        refine ww_iald 28 X dX12_order_28 e28 ?_
        refine ww_ldc 29 X (v := (-2147483648 : Int32)) dX12_order_29 kI_X12_46 ?_
        refine ww_ixor 31 X dX12_order_31 ?_
        refine ww_icmp_ge 32 39 X dX12_order_32 (by decide) (fun q => ?_) (fun q => ?_)
        · replace h := (if_pos q).symm.trans h
          refine ww_iconst 39 X (v := (1 : Int32)) dX12_order_39 (by decide) ?_
          exact ww_iretE 40 X hQ dX12_order_40 h
        · replace h := (if_neg q).symm.trans h
          refine ww_iconst 35 X (v := (-1 : Int32)) dX12_order_35 (by decide) ?_
          refine ww_goto 36 40 X dX12_order_36 (by decide) ?_
          exact ww_iretE 40 X hQ dX12_order_40 h
def P_X12_order (G : Nat → Nat) (F : Nat) (l0 : Nat) (l1 : Nat) (l2 : Nat) (M : mM) : Option (Int32 × mM) :=
  bO (gfI M l0 12 1) fun v1 =>
  B_X12_order_7 G F F l1 l2 (v1 - (1 : Int32)) M
set_option maxHeartbeats 4000000 in
set_option maxRecDepth 100000 in
theorem wP_X12_order {G : Nat → Nat} {F : Nat} {x : mXT} {sz : Nat} {r0 : Int32} {M0 : mM} (X : mCX G RX12 cX12_order 4 (some .int) "order" rmX12_order x) (hQ : mQI x r0 M0 (sz, 0, 0)) {l0 : Nat} {l1 : Nat} {l2 : Nat} {M : mM} (h : P_X12_order G F l0 l1 l2 M = some (r0, M0)) : WW x (sz, 0, 0) M 0 [(0, .ref l0), (1, .ref l1), (2, .ref l2)] [] := by
  unfold P_X12_order at h
  refine ww_aload_n 0 X dX12_order_0 0 rfl rfl ?_
  obtain ⟨v1, e1, h⟩ := bO_some h
  refine ww_getI 1 X dX12_order_1 fG_X12_31 e1 ?_
  refine ww_iconst 4 X (v := (1 : Int32)) dX12_order_4 (by decide) ?_
  refine ww_isub 5 X dX12_order_5 ?_
  refine ww_istore_n 6 X dX12_order_6 (lv' := [(0, .ref l0), (1, .ref l1), (2, .ref l2), (3, .int (v1 - (1 : Int32)))]) rfl (by decide) [1, 2, 3, 0] rfl ?_
  exact ww_sub [1, 2, 3] rfl (wB_X12_order_7 X hQ F _ _ _ _ h)
theorem c_X12_order {G : Nat → Nat} {F sz : Nat} {r0 : Int32} {M0 : mM} (l : Launch) (D : mD) (A : Nat → Prop) {l0 : Nat} {l1 : Nat} {l2 : Nat} {M : mM} (h : P_X12_order G F l0 l1 l2 M = some (r0, M0)) : mMetI l D G A yX12_order cX12_order 4 (some .int) 0 0 0 0 [.ref l0, .ref l1, .ref l2] M sz r0 M0 sz := mMetI_of l D G A (by decide) (Nat.le_of_ble_eq_true rfl) (fun x X hQ => wP_X12_order X hQ h)
/-! SealedTokensModel$Mod.less([I)V -/
theorem dX12_less_0 : decode cX12_less 0 = .ok (.lconst 0, 1) := by decide +kernel
theorem dX12_less_1 : decode cX12_less 1 = .ok (.lstore_n 2, 1) := by decide +kernel
theorem dX12_less_2 : decode cX12_less 2 = .ok (.iconst 0, 1) := by decide +kernel
theorem dX12_less_3 : decode cX12_less 3 = .ok (.istore 4, 2) := by decide +kernel
theorem dX12_less_5 : decode cX12_less 5 = .ok (.iload 4, 2) := by decide +kernel
theorem dX12_less_7 : decode cX12_less 7 = .ok (.aload_n 0, 1) := by decide +kernel
theorem dX12_less_8 : decode cX12_less 8 = .ok (.getfield 31, 3) := by decide +kernel
theorem dX12_less_11 : decode cX12_less 11 = .ok (.if_icmp .ge 55, 3) := by decide +kernel
theorem dX12_less_14 : decode cX12_less 14 = .ok (.aload_n 1, 1) := by decide +kernel
theorem dX12_less_15 : decode cX12_less 15 = .ok (.iload 4, 2) := by decide +kernel
theorem dX12_less_17 : decode cX12_less 17 = .ok (.iaload, 1) := by decide +kernel
theorem dX12_less_18 : decode cX12_less 18 = .ok (.i2l, 1) := by decide +kernel
theorem dX12_less_19 : decode cX12_less 19 = .ok (.ldc2_w 47, 3) := by decide +kernel
theorem dX12_less_22 : decode cX12_less 22 = .ok (.land, 1) := by decide +kernel
theorem dX12_less_23 : decode cX12_less 23 = .ok (.aload_n 0, 1) := by decide +kernel
theorem dX12_less_24 : decode cX12_less 24 = .ok (.getfield 7, 3) := by decide +kernel
theorem dX12_less_27 : decode cX12_less 27 = .ok (.iload 4, 2) := by decide +kernel
theorem dX12_less_29 : decode cX12_less 29 = .ok (.iaload, 1) := by decide +kernel
theorem dX12_less_30 : decode cX12_less 30 = .ok (.i2l, 1) := by decide +kernel
theorem dX12_less_31 : decode cX12_less 31 = .ok (.ldc2_w 47, 3) := by decide +kernel
theorem dX12_less_34 : decode cX12_less 34 = .ok (.land, 1) := by decide +kernel
theorem dX12_less_35 : decode cX12_less 35 = .ok (.lsub, 1) := by decide +kernel
theorem dX12_less_36 : decode cX12_less 36 = .ok (.lload_n 2, 1) := by decide +kernel
theorem dX12_less_37 : decode cX12_less 37 = .ok (.lsub, 1) := by decide +kernel
theorem dX12_less_38 : decode cX12_less 38 = .ok (.lstore 5, 2) := by decide +kernel
theorem dX12_less_40 : decode cX12_less 40 = .ok (.aload_n 1, 1) := by decide +kernel
theorem dX12_less_41 : decode cX12_less 41 = .ok (.iload 4, 2) := by decide +kernel
theorem dX12_less_43 : decode cX12_less 43 = .ok (.lload 5, 2) := by decide +kernel
theorem dX12_less_45 : decode cX12_less 45 = .ok (.l2i, 1) := by decide +kernel
theorem dX12_less_46 : decode cX12_less 46 = .ok (.iastore, 1) := by decide +kernel
theorem dX12_less_47 : decode cX12_less 47 = .ok (.lload 5, 2) := by decide +kernel
theorem dX12_less_49 : decode cX12_less 49 = .ok (.lconst 0, 1) := by decide +kernel
theorem dX12_less_50 : decode cX12_less 50 = .ok (.lcmp, 1) := by decide +kernel
theorem dX12_less_51 : decode cX12_less 51 = .ok (.ifCond .ge 7, 3) := by decide +kernel
theorem dX12_less_54 : decode cX12_less 54 = .ok (.lconst 1, 1) := by decide +kernel
theorem dX12_less_55 : decode cX12_less 55 = .ok (.goto 4, 3) := by decide +kernel
theorem dX12_less_58 : decode cX12_less 58 = .ok (.lconst 0, 1) := by decide +kernel
theorem dX12_less_59 : decode cX12_less 59 = .ok (.lstore_n 2, 1) := by decide +kernel
theorem dX12_less_60 : decode cX12_less 60 = .ok (.iinc 4 1, 3) := by decide +kernel
theorem dX12_less_63 : decode cX12_less 63 = .ok (.goto (-58), 3) := by decide +kernel
theorem dX12_less_66 : decode cX12_less 66 = .ok (.return_, 1) := by decide +kernel
abbrev rmX12_less : Room := { frames := 0, cells := 0, slots := 0, locals := 0 }
def B_X12_less_5 (G : Nat → Nat) (F : Nat) : Nat → Nat → Nat → Int64 → Int32 → mM → Option mM
  | 0, _, _, _, _, _ => none
  | n + 1, l0, l1, l2, l4, M =>
  bO (gfI M l0 12 1) fun v8 =>
  if v8 ≤ l4 then (some M)
  else (bO (aI M 0 l1 l4) fun v17 =>
  bO (gfR M l0 12 0) fun v24 =>
  bO (aI M 0 v24 l4) fun v29 =>
  bO (sI M 0 l1 l4 (((((v17.toInt64) &&& (4294967295 : Int64)) - ((v29.toInt64) &&& (4294967295 : Int64))) - l2).toInt32)) fun M46 =>
  if 0 ≤ (lg_cmp ((((v17.toInt64) &&& (4294967295 : Int64)) - ((v29.toInt64) &&& (4294967295 : Int64))) - l2) (0 : Int64)) then (B_X12_less_5 G F n l0 l1 (0 : Int64) (l4 + 1) M46)
  else (B_X12_less_5 G F n l0 l1 (1 : Int64) (l4 + 1) M46))
set_option maxHeartbeats 4000000 in
set_option maxRecDepth 100000 in
theorem wB_X12_less_5 {G : Nat → Nat} {F : Nat} {x : mXT} {sz : Nat} {M0 : mM} (X : mCX G RX12 cX12_less 7 none "less" rmX12_less x) (hQ : mQV x M0 (sz, 0, 0)) : ∀ (n : Nat) (l0 : Nat) (l1 : Nat) (l2 : Int64) (l4 : Int32) (M : mM), B_X12_less_5 G F n l0 l1 l2 l4 M = some M0 → WW x (sz, 0, 0) M 5 [(0, .ref l0), (1, .ref l1), (2, .long l2), (4, .int l4)] [] := by
  intro n
  induction n with
  | zero =>
    intro l0 l1 l2 l4 M h
    exact nomatch (show (none : Option mM) = some M0 from h)
  | succ n ih =>
    intro l0 l1 l2 l4 M h
    rw [B_X12_less_5] at h
    refine ww_iload 5 X dX12_less_5 3 rfl ?_
    refine ww_aload_n 7 X dX12_less_7 0 rfl rfl ?_
    obtain ⟨v8, e8, h⟩ := bO_some h
    refine ww_getI 8 X dX12_less_8 fG_X12_31 e8 ?_
    refine ww_icmp_ge 11 66 X dX12_less_11 (by decide) (fun q => ?_) (fun q => ?_)
    · replace h := (if_pos q).symm.trans h
      exact ww_vretE 66 X hQ dX12_less_66 h
    · replace h := (if_neg q).symm.trans h
      refine ww_aload_n 14 X dX12_less_14 1 rfl rfl ?_
      refine ww_iload 15 X dX12_less_15 3 rfl ?_
      obtain ⟨v17, e17, h⟩ := bO_some h
      refine ww_iald 17 X dX12_less_17 e17 ?_
      refine ww_i2l 18 X dX12_less_18 ?_
      refine ww_ldc2 19 X (v := (4294967295 : Int64)) dX12_less_19 kL_X12_47 ?_
      refine ww_land 22 X dX12_less_22 ?_
      refine ww_aload_n 23 X dX12_less_23 0 rfl rfl ?_
      obtain ⟨v24, e24, h⟩ := bO_some h
      refine ww_getR 24 X dX12_less_24 fG_X12_7 e24 ?_
      refine ww_iload 27 X dX12_less_27 3 rfl ?_
      obtain ⟨v29, e29, h⟩ := bO_some h
      refine ww_iald 29 X dX12_less_29 e29 ?_
      refine ww_i2l 30 X dX12_less_30 ?_
      refine ww_ldc2 31 X (v := (4294967295 : Int64)) dX12_less_31 kL_X12_47 ?_
      refine ww_land 34 X dX12_less_34 ?_
      refine ww_lsub 35 X dX12_less_35 ?_
      refine ww_lload_n 36 X dX12_less_36 2 rfl rfl ?_
      refine ww_lsub 37 X dX12_less_37 ?_
      refine ww_lstore 38 X dX12_less_38 (lv' := [(0, .ref l0), (1, .ref l1), (2, .long l2), (4, .int l4), (5, .long ((((v17.toInt64) &&& (4294967295 : Int64)) - ((v29.toInt64) &&& (4294967295 : Int64))) - l2))]) (by decide) [1, 2, 3, 4, 0] rfl ?_
      refine ww_aload_n 40 X dX12_less_40 1 rfl rfl ?_
      refine ww_iload 41 X dX12_less_41 3 rfl ?_
      refine ww_lload 43 X dX12_less_43 4 rfl ?_
      refine ww_l2i 45 X dX12_less_45 ?_
      obtain ⟨M46, e46, h⟩ := bO_some h
      refine ww_iast 46 X dX12_less_46 e46 ?_
      refine ww_lload 47 X dX12_less_47 4 rfl ?_
      refine ww_lconst 49 X (v := (0 : Int64)) dX12_less_49 (by decide) ?_
      refine ww_lcmp 50 X dX12_less_50 ?_
      refine ww_if_ge 51 58 X dX12_less_51 (by decide) (fun q => ?_) (fun q => ?_)
      · replace h := (if_pos q).symm.trans h
        refine ww_lconst 58 X (v := (0 : Int64)) dX12_less_58 (by decide) ?_
        refine ww_lstore_n 59 X dX12_less_59 (lv' := [(0, .ref l0), (1, .ref l1), (2, .long (0 : Int64)), (4, .int l4), (5, .long ((((v17.toInt64) &&& (4294967295 : Int64)) - ((v29.toInt64) &&& (4294967295 : Int64))) - l2))]) rfl (by decide) [1, 2, 0, 3, 4] rfl ?_
        refine ww_iinc 60 X dX12_less_60 (lv' := [(0, .ref l0), (1, .ref l1), (2, .long (0 : Int64)), (4, .int (l4 + 1)), (5, .long ((((v17.toInt64) &&& (4294967295 : Int64)) - ((v29.toInt64) &&& (4294967295 : Int64))) - l2))]) 3 rfl rfl (by decide) [1, 2, 3, 0, 4] rfl ?_
        refine ww_goto 63 5 X dX12_less_63 (by decide) ?_
        exact ww_sub [0, 1, 2, 3] rfl (ih _ _ _ _ _ h)
      · replace h := (if_neg q).symm.trans h
        refine ww_lconst 54 X (v := (1 : Int64)) dX12_less_54 (by decide) ?_
        refine ww_goto 55 59 X dX12_less_55 (by decide) ?_
        refine ww_lstore_n 59 X dX12_less_59 (lv' := [(0, .ref l0), (1, .ref l1), (2, .long (1 : Int64)), (4, .int l4), (5, .long ((((v17.toInt64) &&& (4294967295 : Int64)) - ((v29.toInt64) &&& (4294967295 : Int64))) - l2))]) rfl (by decide) [1, 2, 0, 3, 4] rfl ?_
        refine ww_iinc 60 X dX12_less_60 (lv' := [(0, .ref l0), (1, .ref l1), (2, .long (1 : Int64)), (4, .int (l4 + 1)), (5, .long ((((v17.toInt64) &&& (4294967295 : Int64)) - ((v29.toInt64) &&& (4294967295 : Int64))) - l2))]) 3 rfl rfl (by decide) [1, 2, 3, 0, 4] rfl ?_
        refine ww_goto 63 5 X dX12_less_63 (by decide) ?_
        exact ww_sub [0, 1, 2, 3] rfl (ih _ _ _ _ _ h)
def P_X12_less (G : Nat → Nat) (F : Nat) (l0 : Nat) (l1 : Nat) (M : mM) : Option mM :=
  B_X12_less_5 G F F l0 l1 (0 : Int64) (0 : Int32) M
set_option maxHeartbeats 4000000 in
set_option maxRecDepth 100000 in
theorem wP_X12_less {G : Nat → Nat} {F : Nat} {x : mXT} {sz : Nat} {M0 : mM} (X : mCX G RX12 cX12_less 7 none "less" rmX12_less x) (hQ : mQV x M0 (sz, 0, 0)) {l0 : Nat} {l1 : Nat} {M : mM} (h : P_X12_less G F l0 l1 M = some M0) : WW x (sz, 0, 0) M 0 [(0, .ref l0), (1, .ref l1)] [] := by
  unfold P_X12_less at h
  refine ww_lconst 0 X (v := (0 : Int64)) dX12_less_0 (by decide) ?_
  refine ww_lstore_n 1 X dX12_less_1 (lv' := [(0, .ref l0), (1, .ref l1), (2, .long (0 : Int64))]) rfl (by decide) [1, 2, 0] rfl ?_
  refine ww_iconst 2 X (v := (0 : Int32)) dX12_less_2 (by decide) ?_
  refine ww_istore 3 X dX12_less_3 (lv' := [(0, .ref l0), (1, .ref l1), (2, .long (0 : Int64)), (4, .int (0 : Int32))]) (by decide) [1, 2, 3, 0] rfl ?_
  exact (wB_X12_less_5 X hQ F _ _ _ _ _ h)
theorem c_X12_less {G : Nat → Nat} {F sz : Nat} {M0 : mM} (l : Launch) (D : mD) (A : Nat → Prop) {l0 : Nat} {l1 : Nat} {M : mM} (h : P_X12_less G F l0 l1 M = some M0) : mMetV l D G A yX12_less cX12_less 7 none 0 0 0 0 [.ref l0, .ref l1] M sz M0 sz := mMetV_of l D G A (by decide) (Nat.le_of_ble_eq_true rfl) (fun x X hQ => wP_X12_less X hQ h)
/-! SealedTokensModel$Mod.twice([I)V -/
theorem dX12_twice_0 : decode cX12_twice 0 = .ok (.iconst 0, 1) := by decide +kernel
theorem dX12_twice_1 : decode cX12_twice 1 = .ok (.istore_n 2, 1) := by decide +kernel
theorem dX12_twice_2 : decode cX12_twice 2 = .ok (.iconst 0, 1) := by decide +kernel
theorem dX12_twice_3 : decode cX12_twice 3 = .ok (.istore_n 3, 1) := by decide +kernel
theorem dX12_twice_4 : decode cX12_twice 4 = .ok (.iload_n 3, 1) := by decide +kernel
theorem dX12_twice_5 : decode cX12_twice 5 = .ok (.aload_n 0, 1) := by decide +kernel
theorem dX12_twice_6 : decode cX12_twice 6 = .ok (.getfield 31, 3) := by decide +kernel
theorem dX12_twice_9 : decode cX12_twice 9 = .ok (.if_icmp .ge 30, 3) := by decide +kernel
theorem dX12_twice_12 : decode cX12_twice 12 = .ok (.aload_n 1, 1) := by decide +kernel
theorem dX12_twice_13 : decode cX12_twice 13 = .ok (.iload_n 3, 1) := by decide +kernel
theorem dX12_twice_14 : decode cX12_twice 14 = .ok (.iaload, 1) := by decide +kernel
theorem dX12_twice_15 : decode cX12_twice 15 = .ok (.bipush 31, 2) := by decide +kernel
theorem dX12_twice_17 : decode cX12_twice 17 = .ok (.iushr, 1) := by decide +kernel
theorem dX12_twice_18 : decode cX12_twice 18 = .ok (.istore 4, 2) := by decide +kernel
theorem dX12_twice_20 : decode cX12_twice 20 = .ok (.aload_n 1, 1) := by decide +kernel
theorem dX12_twice_21 : decode cX12_twice 21 = .ok (.iload_n 3, 1) := by decide +kernel
theorem dX12_twice_22 : decode cX12_twice 22 = .ok (.aload_n 1, 1) := by decide +kernel
theorem dX12_twice_23 : decode cX12_twice 23 = .ok (.iload_n 3, 1) := by decide +kernel
theorem dX12_twice_24 : decode cX12_twice 24 = .ok (.iaload, 1) := by decide +kernel
theorem dX12_twice_25 : decode cX12_twice 25 = .ok (.iconst 1, 1) := by decide +kernel
theorem dX12_twice_26 : decode cX12_twice 26 = .ok (.ishl, 1) := by decide +kernel
theorem dX12_twice_27 : decode cX12_twice 27 = .ok (.iload_n 2, 1) := by decide +kernel
theorem dX12_twice_28 : decode cX12_twice 28 = .ok (.ior, 1) := by decide +kernel
theorem dX12_twice_29 : decode cX12_twice 29 = .ok (.iastore, 1) := by decide +kernel
theorem dX12_twice_30 : decode cX12_twice 30 = .ok (.iload 4, 2) := by decide +kernel
theorem dX12_twice_32 : decode cX12_twice 32 = .ok (.istore_n 2, 1) := by decide +kernel
theorem dX12_twice_33 : decode cX12_twice 33 = .ok (.iinc 3 1, 3) := by decide +kernel
theorem dX12_twice_36 : decode cX12_twice 36 = .ok (.goto (-32), 3) := by decide +kernel
theorem dX12_twice_39 : decode cX12_twice 39 = .ok (.iload_n 2, 1) := by decide +kernel
theorem dX12_twice_40 : decode cX12_twice 40 = .ok (.iconst 1, 1) := by decide +kernel
theorem dX12_twice_41 : decode cX12_twice 41 = .ok (.if_icmp .eq 15, 3) := by decide +kernel
theorem dX12_twice_44 : decode cX12_twice 44 = .ok (.aload_n 0, 1) := by decide +kernel
theorem dX12_twice_45 : decode cX12_twice 45 = .ok (.aload_n 1, 1) := by decide +kernel
theorem dX12_twice_46 : decode cX12_twice 46 = .ok (.aload_n 0, 1) := by decide +kernel
theorem dX12_twice_47 : decode cX12_twice 47 = .ok (.getfield 7, 3) := by decide +kernel
theorem dX12_twice_50 : decode cX12_twice 50 = .ok (.invokevirtual 49, 3) := by decide +kernel
theorem dX12_twice_53 : decode cX12_twice 53 = .ok (.ifCond .lt 8, 3) := by decide +kernel
theorem dX12_twice_56 : decode cX12_twice 56 = .ok (.aload_n 0, 1) := by decide +kernel
theorem dX12_twice_57 : decode cX12_twice 57 = .ok (.aload_n 1, 1) := by decide +kernel
theorem dX12_twice_58 : decode cX12_twice 58 = .ok (.invokevirtual 53, 3) := by decide +kernel
theorem dX12_twice_61 : decode cX12_twice 61 = .ok (.return_, 1) := by decide +kernel
abbrev rmX12_twice : Room := { frames := 1, cells := 0, slots := 0, locals := 26 }
def B_X12_twice_4 (G : Nat → Nat) (F : Nat) : Nat → Nat → Nat → Int32 → Int32 → mM → Option mM
  | 0, _, _, _, _, _ => none
  | n + 1, l0, l1, l2, l3, M =>
  bO (gfI M l0 12 1) fun v6 =>
  if v6 ≤ l3 then (if l2 = (1 : Int32) then (bO (rcv M l0 12) fun _ =>
  bO (P_X12_less G F l0 l1 M) fun M58 =>
  some M58)
  else (bO (gfR M l0 12 0) fun v47 =>
  bO (rcv M l0 12) fun _ =>
  bP (P_X12_order G F l0 l1 v47 M) fun v50 M50 =>
  if v50 < 0 then (some M50)
  else (bO (rcv M50 l0 12) fun _ =>
  bO (P_X12_less G F l0 l1 M50) fun M58 =>
  some M58)))
  else (bO (aI M 0 l1 l3) fun v14 =>
  bO (aI M 0 l1 l3) fun v24 =>
  bO (sI M 0 l1 l3 ((v24 <<< ((1 : Int32) &&& 31)) ||| l2)) fun M29 =>
  B_X12_twice_4 G F n l0 l1 (ushI v14 (31 : Int32)) (l3 + 1) M29)
set_option maxHeartbeats 4000000 in
set_option maxRecDepth 100000 in
theorem wB_X12_twice_4 {G : Nat → Nat} {F : Nat} {x : mXT} {sz : Nat} {M0 : mM} (X : mCX G RX12 cX12_twice 5 none "twice" rmX12_twice x) (hQ : mQV x M0 (sz, 0, 0)) : ∀ (n : Nat) (l0 : Nat) (l1 : Nat) (l2 : Int32) (l3 : Int32) (M : mM), B_X12_twice_4 G F n l0 l1 l2 l3 M = some M0 → WW x (sz, 0, 0) M 4 [(0, .ref l0), (1, .ref l1), (2, .int l2), (3, .int l3)] [] := by
  intro n
  induction n with
  | zero =>
    intro l0 l1 l2 l3 M h
    exact nomatch (show (none : Option mM) = some M0 from h)
  | succ n ih =>
    intro l0 l1 l2 l3 M h
    rw [B_X12_twice_4] at h
    refine ww_iload_n 4 X dX12_twice_4 3 rfl rfl ?_
    refine ww_aload_n 5 X dX12_twice_5 0 rfl rfl ?_
    obtain ⟨v6, e6, h⟩ := bO_some h
    refine ww_getI 6 X dX12_twice_6 fG_X12_31 e6 ?_
    refine ww_icmp_ge 9 39 X dX12_twice_9 (by decide) (fun q => ?_) (fun q => ?_)
    · replace h := (if_pos q).symm.trans h
      refine ww_iload_n 39 X dX12_twice_39 2 rfl rfl ?_
      refine ww_iconst 40 X (v := (1 : Int32)) dX12_twice_40 (by decide) ?_
      refine ww_icmp_eq 41 56 X dX12_twice_41 (by decide) (fun q => ?_) (fun q => ?_)
      · replace h := (if_pos q).symm.trans h
        refine ww_aload_n 56 X dX12_twice_56 0 rfl rfl ?_
        refine ww_aload_n 57 X dX12_twice_57 1 rfl rfl ?_
        obtain ⟨_, f58, h⟩ := bO_some h
        obtain ⟨M58, e58, h⟩ := bO_some h
        refine ww_callVV0 58 X dX12_twice_58 mY_X12_less mL_X12_53 (rcv_spec f58) ⟨_, _, rfl⟩ (by decide) (As := [.ref l1]) (rest := []) rfl rfl ⟨Nat.le_of_ble_eq_true rfl, Nat.le_of_ble_eq_true rfl⟩ (Nat.le_of_ble_eq_true rfl) (fun l D A => c_X12_less l D A e58) ?_
        exact ww_vretE 61 X hQ dX12_twice_61 h
      · replace h := (if_neg q).symm.trans h
        refine ww_aload_n 44 X dX12_twice_44 0 rfl rfl ?_
        refine ww_aload_n 45 X dX12_twice_45 1 rfl rfl ?_
        refine ww_aload_n 46 X dX12_twice_46 0 rfl rfl ?_
        obtain ⟨v47, e47, h⟩ := bO_some h
        refine ww_getR 47 X dX12_twice_47 fG_X12_7 e47 ?_
        obtain ⟨_, f50, h⟩ := bO_some h
        obtain ⟨v50, M50, e50, h⟩ := bP_some h
        refine ww_callVI0 50 X dX12_twice_50 mY_X12_order mL_X12_49 (rcv_spec f50) ⟨_, _, rfl⟩ (by decide) (As := [.ref l1, .ref v47]) (rest := []) rfl rfl ⟨Nat.le_of_ble_eq_true rfl, Nat.le_of_ble_eq_true rfl⟩ (Nat.le_of_ble_eq_true rfl) (fun l D A => c_X12_order l D A e50) ?_
        refine ww_if_lt 53 61 X dX12_twice_53 (by decide) (fun q => ?_) (fun q => ?_)
        · replace h := (if_pos q).symm.trans h
          exact ww_vretE 61 X hQ dX12_twice_61 h
        · replace h := (if_neg q).symm.trans h
          refine ww_aload_n 56 X dX12_twice_56 0 rfl rfl ?_
          refine ww_aload_n 57 X dX12_twice_57 1 rfl rfl ?_
          obtain ⟨_, f58, h⟩ := bO_some h
          obtain ⟨M58, e58, h⟩ := bO_some h
          refine ww_callVV0 58 X dX12_twice_58 mY_X12_less mL_X12_53 (rcv_spec f58) ⟨_, _, rfl⟩ (by decide) (As := [.ref l1]) (rest := []) rfl rfl ⟨Nat.le_of_ble_eq_true rfl, Nat.le_of_ble_eq_true rfl⟩ (Nat.le_of_ble_eq_true rfl) (fun l D A => c_X12_less l D A e58) ?_
          exact ww_vretE 61 X hQ dX12_twice_61 h
    · replace h := (if_neg q).symm.trans h
      refine ww_aload_n 12 X dX12_twice_12 1 rfl rfl ?_
      refine ww_iload_n 13 X dX12_twice_13 3 rfl rfl ?_
      obtain ⟨v14, e14, h⟩ := bO_some h
      refine ww_iald 14 X dX12_twice_14 e14 ?_
      refine ww_bipush 15 X (v := (31 : Int32)) dX12_twice_15 (by decide) ?_
      refine ww_iushr 17 X dX12_twice_17 ?_
      refine ww_istore 18 X dX12_twice_18 (lv' := [(0, .ref l0), (1, .ref l1), (2, .int l2), (3, .int l3), (4, .int (ushI v14 (31 : Int32)))]) (by decide) [1, 2, 3, 4, 0] rfl ?_
      refine ww_aload_n 20 X dX12_twice_20 1 rfl rfl ?_
      refine ww_iload_n 21 X dX12_twice_21 3 rfl rfl ?_
      refine ww_aload_n 22 X dX12_twice_22 1 rfl rfl ?_
      refine ww_iload_n 23 X dX12_twice_23 3 rfl rfl ?_
      obtain ⟨v24, e24, h⟩ := bO_some h
      refine ww_iald 24 X dX12_twice_24 e24 ?_
      refine ww_iconst 25 X (v := (1 : Int32)) dX12_twice_25 (by decide) ?_
      refine ww_ishl 26 X dX12_twice_26 ?_
      refine ww_iload_n 27 X dX12_twice_27 2 rfl rfl ?_
      refine ww_ior 28 X dX12_twice_28 ?_
      obtain ⟨M29, e29, h⟩ := bO_some h
      refine ww_iast 29 X dX12_twice_29 e29 ?_
      refine ww_iload 30 X dX12_twice_30 4 rfl ?_
      refine ww_istore_n 32 X dX12_twice_32 (lv' := [(0, .ref l0), (1, .ref l1), (2, .int (ushI v14 (31 : Int32))), (3, .int l3), (4, .int (ushI v14 (31 : Int32)))]) rfl (by decide) [1, 2, 0, 3, 4] rfl ?_
      refine ww_iinc 33 X dX12_twice_33 (lv' := [(0, .ref l0), (1, .ref l1), (2, .int (ushI v14 (31 : Int32))), (3, .int (l3 + 1)), (4, .int (ushI v14 (31 : Int32)))]) 3 rfl rfl (by decide) [1, 2, 3, 0, 4] rfl ?_
      refine ww_goto 36 4 X dX12_twice_36 (by decide) ?_
      exact ww_sub [0, 1, 2, 3] rfl (ih _ _ _ _ _ h)
def P_X12_twice (G : Nat → Nat) (F : Nat) (l0 : Nat) (l1 : Nat) (M : mM) : Option mM :=
  B_X12_twice_4 G F F l0 l1 (0 : Int32) (0 : Int32) M
set_option maxHeartbeats 4000000 in
set_option maxRecDepth 100000 in
theorem wP_X12_twice {G : Nat → Nat} {F : Nat} {x : mXT} {sz : Nat} {M0 : mM} (X : mCX G RX12 cX12_twice 5 none "twice" rmX12_twice x) (hQ : mQV x M0 (sz, 0, 0)) {l0 : Nat} {l1 : Nat} {M : mM} (h : P_X12_twice G F l0 l1 M = some M0) : WW x (sz, 0, 0) M 0 [(0, .ref l0), (1, .ref l1)] [] := by
  unfold P_X12_twice at h
  refine ww_iconst 0 X (v := (0 : Int32)) dX12_twice_0 (by decide) ?_
  refine ww_istore_n 1 X dX12_twice_1 (lv' := [(0, .ref l0), (1, .ref l1), (2, .int (0 : Int32))]) rfl (by decide) [1, 2, 0] rfl ?_
  refine ww_iconst 2 X (v := (0 : Int32)) dX12_twice_2 (by decide) ?_
  refine ww_istore_n 3 X dX12_twice_3 (lv' := [(0, .ref l0), (1, .ref l1), (2, .int (0 : Int32)), (3, .int (0 : Int32))]) rfl (by decide) [1, 2, 3, 0] rfl ?_
  exact (wB_X12_twice_4 X hQ F _ _ _ _ _ h)
theorem c_X12_twice {G : Nat → Nat} {F sz : Nat} {M0 : mM} (l : Launch) (D : mD) (A : Nat → Prop) {l0 : Nat} {l1 : Nat} {M : mM} (h : P_X12_twice G F l0 l1 M = some M0) : mMetV l D G A yX12_twice cX12_twice 5 none 1 26 0 0 [.ref l0, .ref l1] M sz M0 sz := mMetV_of l D G A (by decide) (Nat.le_of_ble_eq_true rfl) (fun x X hQ => wP_X12_twice X hQ h)
/-! SealedTokensModel$Mod.set([BII)V -/
theorem dX12_set_0 : decode cX12_set 0 = .ok (.aload_n 0, 1) := by decide +kernel
theorem dX12_set_1 : decode cX12_set 1 = .ok (.iload_n 3, 1) := by decide +kernel
theorem dX12_set_2 : decode cX12_set 2 = .ok (.iconst 3, 1) := by decide +kernel
theorem dX12_set_3 : decode cX12_set 3 = .ok (.iadd, 1) := by decide +kernel
theorem dX12_set_4 : decode cX12_set 4 = .ok (.iconst 4, 1) := by decide +kernel
theorem dX12_set_5 : decode cX12_set 5 = .ok (.idiv, 1) := by decide +kernel
theorem dX12_set_6 : decode cX12_set 6 = .ok (.putfield 31, 3) := by decide +kernel
theorem dX12_set_9 : decode cX12_set 9 = .ok (.aload_n 0, 1) := by decide +kernel
theorem dX12_set_10 : decode cX12_set 10 = .ok (.aload_n 1, 1) := by decide +kernel
theorem dX12_set_11 : decode cX12_set 11 = .ok (.iload_n 2, 1) := by decide +kernel
theorem dX12_set_12 : decode cX12_set 12 = .ok (.iload_n 3, 1) := by decide +kernel
theorem dX12_set_13 : decode cX12_set 13 = .ok (.aload_n 0, 1) := by decide +kernel
theorem dX12_set_14 : decode cX12_set 14 = .ok (.getfield 7, 3) := by decide +kernel
theorem dX12_set_17 : decode cX12_set 17 = .ok (.invokevirtual 35, 3) := by decide +kernel
theorem dX12_set_20 : decode cX12_set 20 = .ok (.iconst 1, 1) := by decide +kernel
theorem dX12_set_21 : decode cX12_set 21 = .ok (.istore 4, 2) := by decide +kernel
theorem dX12_set_23 : decode cX12_set 23 = .ok (.iconst 0, 1) := by decide +kernel
theorem dX12_set_24 : decode cX12_set 24 = .ok (.istore 5, 2) := by decide +kernel
theorem dX12_set_26 : decode cX12_set 26 = .ok (.iload 5, 2) := by decide +kernel
theorem dX12_set_28 : decode cX12_set 28 = .ok (.iconst 5, 1) := by decide +kernel
theorem dX12_set_29 : decode cX12_set 29 = .ok (.if_icmp .ge 25, 3) := by decide +kernel
theorem dX12_set_32 : decode cX12_set 32 = .ok (.iload 4, 2) := by decide +kernel
theorem dX12_set_34 : decode cX12_set 34 = .ok (.iconst 2, 1) := by decide +kernel
theorem dX12_set_35 : decode cX12_set 35 = .ok (.aload_n 0, 1) := by decide +kernel
theorem dX12_set_36 : decode cX12_set 36 = .ok (.getfield 7, 3) := by decide +kernel
theorem dX12_set_39 : decode cX12_set 39 = .ok (.iconst 0, 1) := by decide +kernel
theorem dX12_set_40 : decode cX12_set 40 = .ok (.iaload, 1) := by decide +kernel
theorem dX12_set_41 : decode cX12_set 41 = .ok (.iload 4, 2) := by decide +kernel
theorem dX12_set_43 : decode cX12_set 43 = .ok (.imul, 1) := by decide +kernel
theorem dX12_set_44 : decode cX12_set 44 = .ok (.isub, 1) := by decide +kernel
theorem dX12_set_45 : decode cX12_set 45 = .ok (.imul, 1) := by decide +kernel
theorem dX12_set_46 : decode cX12_set 46 = .ok (.istore 4, 2) := by decide +kernel
theorem dX12_set_48 : decode cX12_set 48 = .ok (.iinc 5 1, 3) := by decide +kernel
theorem dX12_set_51 : decode cX12_set 51 = .ok (.goto (-25), 3) := by decide +kernel
theorem dX12_set_54 : decode cX12_set 54 = .ok (.aload_n 0, 1) := by decide +kernel
theorem dX12_set_55 : decode cX12_set 55 = .ok (.iload 4, 2) := by decide +kernel
theorem dX12_set_57 : decode cX12_set 57 = .ok (.ineg, 1) := by decide +kernel
theorem dX12_set_58 : decode cX12_set 58 = .ok (.putfield 39, 3) := by decide +kernel
theorem dX12_set_61 : decode cX12_set 61 = .ok (.iconst 0, 1) := by decide +kernel
theorem dX12_set_62 : decode cX12_set 62 = .ok (.istore 5, 2) := by decide +kernel
theorem dX12_set_64 : decode cX12_set 64 = .ok (.iload 5, 2) := by decide +kernel
theorem dX12_set_66 : decode cX12_set 66 = .ok (.aload_n 0, 1) := by decide +kernel
theorem dX12_set_67 : decode cX12_set 67 = .ok (.getfield 31, 3) := by decide +kernel
theorem dX12_set_70 : decode cX12_set 70 = .ok (.if_icmp .ge 17, 3) := by decide +kernel
theorem dX12_set_73 : decode cX12_set 73 = .ok (.aload_n 0, 1) := by decide +kernel
theorem dX12_set_74 : decode cX12_set 74 = .ok (.getfield 13, 3) := by decide +kernel
theorem dX12_set_77 : decode cX12_set 77 = .ok (.iload 5, 2) := by decide +kernel
theorem dX12_set_79 : decode cX12_set 79 = .ok (.iconst 0, 1) := by decide +kernel
theorem dX12_set_80 : decode cX12_set 80 = .ok (.iastore, 1) := by decide +kernel
theorem dX12_set_81 : decode cX12_set 81 = .ok (.iinc 5 1, 3) := by decide +kernel
theorem dX12_set_84 : decode cX12_set 84 = .ok (.goto (-20), 3) := by decide +kernel
theorem dX12_set_87 : decode cX12_set 87 = .ok (.aload_n 0, 1) := by decide +kernel
theorem dX12_set_88 : decode cX12_set 88 = .ok (.getfield 13, 3) := by decide +kernel
theorem dX12_set_91 : decode cX12_set 91 = .ok (.iconst 0, 1) := by decide +kernel
theorem dX12_set_92 : decode cX12_set 92 = .ok (.iconst 1, 1) := by decide +kernel
theorem dX12_set_93 : decode cX12_set 93 = .ok (.iastore, 1) := by decide +kernel
theorem dX12_set_94 : decode cX12_set 94 = .ok (.iconst 0, 1) := by decide +kernel
theorem dX12_set_95 : decode cX12_set 95 = .ok (.istore 5, 2) := by decide +kernel
theorem dX12_set_97 : decode cX12_set 97 = .ok (.iload 5, 2) := by decide +kernel
theorem dX12_set_99 : decode cX12_set 99 = .ok (.bipush 32, 2) := by decide +kernel
theorem dX12_set_101 : decode cX12_set 101 = .ok (.aload_n 0, 1) := by decide +kernel
theorem dX12_set_102 : decode cX12_set 102 = .ok (.getfield 31, 3) := by decide +kernel
theorem dX12_set_105 : decode cX12_set 105 = .ok (.imul, 1) := by decide +kernel
theorem dX12_set_106 : decode cX12_set 106 = .ok (.if_icmp .ge 17, 3) := by decide +kernel
theorem dX12_set_109 : decode cX12_set 109 = .ok (.aload_n 0, 1) := by decide +kernel
theorem dX12_set_110 : decode cX12_set 110 = .ok (.aload_n 0, 1) := by decide +kernel
theorem dX12_set_111 : decode cX12_set 111 = .ok (.getfield 13, 3) := by decide +kernel
theorem dX12_set_114 : decode cX12_set 114 = .ok (.invokevirtual 42, 3) := by decide +kernel
theorem dX12_set_117 : decode cX12_set 117 = .ok (.iinc 5 1, 3) := by decide +kernel
theorem dX12_set_120 : decode cX12_set 120 = .ok (.goto (-23), 3) := by decide +kernel
theorem dX12_set_123 : decode cX12_set 123 = .ok (.iconst 0, 1) := by decide +kernel
theorem dX12_set_124 : decode cX12_set 124 = .ok (.istore 5, 2) := by decide +kernel
theorem dX12_set_126 : decode cX12_set 126 = .ok (.iload 5, 2) := by decide +kernel
theorem dX12_set_128 : decode cX12_set 128 = .ok (.aload_n 0, 1) := by decide +kernel
theorem dX12_set_129 : decode cX12_set 129 = .ok (.getfield 31, 3) := by decide +kernel
theorem dX12_set_132 : decode cX12_set 132 = .ok (.if_icmp .ge 23, 3) := by decide +kernel
theorem dX12_set_135 : decode cX12_set 135 = .ok (.aload_n 0, 1) := by decide +kernel
theorem dX12_set_136 : decode cX12_set 136 = .ok (.getfield 16, 3) := by decide +kernel
theorem dX12_set_139 : decode cX12_set 139 = .ok (.iload 5, 2) := by decide +kernel
theorem dX12_set_141 : decode cX12_set 141 = .ok (.aload_n 0, 1) := by decide +kernel
theorem dX12_set_142 : decode cX12_set 142 = .ok (.getfield 13, 3) := by decide +kernel
theorem dX12_set_145 : decode cX12_set 145 = .ok (.iload 5, 2) := by decide +kernel
theorem dX12_set_147 : decode cX12_set 147 = .ok (.iaload, 1) := by decide +kernel
theorem dX12_set_148 : decode cX12_set 148 = .ok (.iastore, 1) := by decide +kernel
theorem dX12_set_149 : decode cX12_set 149 = .ok (.iinc 5 1, 3) := by decide +kernel
theorem dX12_set_152 : decode cX12_set 152 = .ok (.goto (-26), 3) := by decide +kernel
theorem dX12_set_155 : decode cX12_set 155 = .ok (.iconst 0, 1) := by decide +kernel
theorem dX12_set_156 : decode cX12_set 156 = .ok (.istore 5, 2) := by decide +kernel
theorem dX12_set_158 : decode cX12_set 158 = .ok (.iload 5, 2) := by decide +kernel
theorem dX12_set_160 : decode cX12_set 160 = .ok (.bipush 32, 2) := by decide +kernel
theorem dX12_set_162 : decode cX12_set 162 = .ok (.aload_n 0, 1) := by decide +kernel
theorem dX12_set_163 : decode cX12_set 163 = .ok (.getfield 31, 3) := by decide +kernel
theorem dX12_set_166 : decode cX12_set 166 = .ok (.imul, 1) := by decide +kernel
theorem dX12_set_167 : decode cX12_set 167 = .ok (.if_icmp .ge 17, 3) := by decide +kernel
theorem dX12_set_170 : decode cX12_set 170 = .ok (.aload_n 0, 1) := by decide +kernel
theorem dX12_set_171 : decode cX12_set 171 = .ok (.aload_n 0, 1) := by decide +kernel
theorem dX12_set_172 : decode cX12_set 172 = .ok (.getfield 16, 3) := by decide +kernel
theorem dX12_set_175 : decode cX12_set 175 = .ok (.invokevirtual 42, 3) := by decide +kernel
theorem dX12_set_178 : decode cX12_set 178 = .ok (.iinc 5 1, 3) := by decide +kernel
theorem dX12_set_181 : decode cX12_set 181 = .ok (.goto (-23), 3) := by decide +kernel
theorem dX12_set_184 : decode cX12_set 184 = .ok (.return_, 1) := by decide +kernel
abbrev rmX12_set : Room := { frames := 2, cells := 0, slots := 0, locals := 50 }
def B_X12_set_158 (G : Nat → Nat) (F : Nat) : Nat → Nat → Int32 → mM → Option mM
  | 0, _, _, _ => none
  | n + 1, l0, l5, M =>
  bO (gfI M l0 12 1) fun v163 =>
  if ((32 : Int32) * v163) ≤ l5 then (some M)
  else (bO (gfR M l0 12 4) fun v172 =>
  bO (rcv M l0 12) fun _ =>
  bO (P_X12_twice G F l0 v172 M) fun M175 =>
  B_X12_set_158 G F n l0 (l5 + 1) M175)
set_option maxHeartbeats 4000000 in
set_option maxRecDepth 100000 in
theorem wB_X12_set_158 {G : Nat → Nat} {F : Nat} {x : mXT} {sz : Nat} {M0 : mM} (X : mCX G RX12 cX12_set 6 none "set" rmX12_set x) (hQ : mQV x M0 (sz, 0, 0)) : ∀ (n : Nat) (l0 : Nat) (l5 : Int32) (M : mM), B_X12_set_158 G F n l0 l5 M = some M0 → WW x (sz, 0, 0) M 158 [(0, .ref l0), (5, .int l5)] [] := by
  intro n
  induction n with
  | zero =>
    intro l0 l5 M h
    exact nomatch (show (none : Option mM) = some M0 from h)
  | succ n ih =>
    intro l0 l5 M h
    rw [B_X12_set_158] at h
    refine ww_iload 158 X dX12_set_158 1 rfl ?_
    refine ww_bipush 160 X (v := (32 : Int32)) dX12_set_160 (by decide) ?_
    refine ww_aload_n 162 X dX12_set_162 0 rfl rfl ?_
    obtain ⟨v163, e163, h⟩ := bO_some h
    refine ww_getI 163 X dX12_set_163 fG_X12_31 e163 ?_
    refine ww_imul 166 X dX12_set_166 ?_
    refine ww_icmp_ge 167 184 X dX12_set_167 (by decide) (fun q => ?_) (fun q => ?_)
    · replace h := (if_pos q).symm.trans h
      exact ww_vretE 184 X hQ dX12_set_184 h
    · replace h := (if_neg q).symm.trans h
      refine ww_aload_n 170 X dX12_set_170 0 rfl rfl ?_
      refine ww_aload_n 171 X dX12_set_171 0 rfl rfl ?_
      obtain ⟨v172, e172, h⟩ := bO_some h
      refine ww_getR 172 X dX12_set_172 fG_X12_16 e172 ?_
      obtain ⟨_, f175, h⟩ := bO_some h
      obtain ⟨M175, e175, h⟩ := bO_some h
      refine ww_callVV0 175 X dX12_set_175 mY_X12_twice mL_X12_42 (rcv_spec f175) ⟨_, _, rfl⟩ (by decide) (As := [.ref v172]) (rest := []) rfl rfl ⟨Nat.le_of_ble_eq_true rfl, Nat.le_of_ble_eq_true rfl⟩ (Nat.le_of_ble_eq_true rfl) (fun l D A => c_X12_twice l D A e175) ?_
      refine ww_iinc 178 X dX12_set_178 (lv' := [(0, .ref l0), (5, .int (l5 + 1))]) 1 rfl rfl (by decide) [1, 0] rfl ?_
      refine ww_goto 181 158 X dX12_set_181 (by decide) ?_
      exact (ih _ _ _ h)
def B_X12_set_126 (G : Nat → Nat) (F : Nat) : Nat → Nat → Int32 → mM → Option mM
  | 0, _, _, _ => none
  | n + 1, l0, l5, M =>
  bO (gfI M l0 12 1) fun v129 =>
  if v129 ≤ l5 then (B_X12_set_158 G F F l0 (0 : Int32) M)
  else (bO (gfR M l0 12 4) fun v136 =>
  bO (gfR M l0 12 3) fun v142 =>
  bO (aI M 0 v142 l5) fun v147 =>
  bO (sI M 0 v136 l5 v147) fun M148 =>
  B_X12_set_126 G F n l0 (l5 + 1) M148)
set_option maxHeartbeats 4000000 in
set_option maxRecDepth 100000 in
theorem wB_X12_set_126 {G : Nat → Nat} {F : Nat} {x : mXT} {sz : Nat} {M0 : mM} (X : mCX G RX12 cX12_set 6 none "set" rmX12_set x) (hQ : mQV x M0 (sz, 0, 0)) : ∀ (n : Nat) (l0 : Nat) (l5 : Int32) (M : mM), B_X12_set_126 G F n l0 l5 M = some M0 → WW x (sz, 0, 0) M 126 [(0, .ref l0), (5, .int l5)] [] := by
  intro n
  induction n with
  | zero =>
    intro l0 l5 M h
    exact nomatch (show (none : Option mM) = some M0 from h)
  | succ n ih =>
    intro l0 l5 M h
    rw [B_X12_set_126] at h
    refine ww_iload 126 X dX12_set_126 1 rfl ?_
    refine ww_aload_n 128 X dX12_set_128 0 rfl rfl ?_
    obtain ⟨v129, e129, h⟩ := bO_some h
    refine ww_getI 129 X dX12_set_129 fG_X12_31 e129 ?_
    refine ww_icmp_ge 132 155 X dX12_set_132 (by decide) (fun q => ?_) (fun q => ?_)
    · replace h := (if_pos q).symm.trans h
      refine ww_iconst 155 X (v := (0 : Int32)) dX12_set_155 (by decide) ?_
      refine ww_istore 156 X dX12_set_156 (lv' := [(0, .ref l0), (5, .int (0 : Int32))]) (by decide) [1, 0] rfl ?_
      exact (wB_X12_set_158 X hQ F _ _ _ h)
    · replace h := (if_neg q).symm.trans h
      refine ww_aload_n 135 X dX12_set_135 0 rfl rfl ?_
      obtain ⟨v136, e136, h⟩ := bO_some h
      refine ww_getR 136 X dX12_set_136 fG_X12_16 e136 ?_
      refine ww_iload 139 X dX12_set_139 1 rfl ?_
      refine ww_aload_n 141 X dX12_set_141 0 rfl rfl ?_
      obtain ⟨v142, e142, h⟩ := bO_some h
      refine ww_getR 142 X dX12_set_142 fG_X12_13 e142 ?_
      refine ww_iload 145 X dX12_set_145 1 rfl ?_
      obtain ⟨v147, e147, h⟩ := bO_some h
      refine ww_iald 147 X dX12_set_147 e147 ?_
      obtain ⟨M148, e148, h⟩ := bO_some h
      refine ww_iast 148 X dX12_set_148 e148 ?_
      refine ww_iinc 149 X dX12_set_149 (lv' := [(0, .ref l0), (5, .int (l5 + 1))]) 1 rfl rfl (by decide) [1, 0] rfl ?_
      refine ww_goto 152 126 X dX12_set_152 (by decide) ?_
      exact (ih _ _ _ h)
def B_X12_set_97 (G : Nat → Nat) (F : Nat) : Nat → Nat → Int32 → mM → Option mM
  | 0, _, _, _ => none
  | n + 1, l0, l5, M =>
  bO (gfI M l0 12 1) fun v102 =>
  if ((32 : Int32) * v102) ≤ l5 then (B_X12_set_126 G F F l0 (0 : Int32) M)
  else (bO (gfR M l0 12 3) fun v111 =>
  bO (rcv M l0 12) fun _ =>
  bO (P_X12_twice G F l0 v111 M) fun M114 =>
  B_X12_set_97 G F n l0 (l5 + 1) M114)
set_option maxHeartbeats 4000000 in
set_option maxRecDepth 100000 in
theorem wB_X12_set_97 {G : Nat → Nat} {F : Nat} {x : mXT} {sz : Nat} {M0 : mM} (X : mCX G RX12 cX12_set 6 none "set" rmX12_set x) (hQ : mQV x M0 (sz, 0, 0)) : ∀ (n : Nat) (l0 : Nat) (l5 : Int32) (M : mM), B_X12_set_97 G F n l0 l5 M = some M0 → WW x (sz, 0, 0) M 97 [(0, .ref l0), (5, .int l5)] [] := by
  intro n
  induction n with
  | zero =>
    intro l0 l5 M h
    exact nomatch (show (none : Option mM) = some M0 from h)
  | succ n ih =>
    intro l0 l5 M h
    rw [B_X12_set_97] at h
    refine ww_iload 97 X dX12_set_97 1 rfl ?_
    refine ww_bipush 99 X (v := (32 : Int32)) dX12_set_99 (by decide) ?_
    refine ww_aload_n 101 X dX12_set_101 0 rfl rfl ?_
    obtain ⟨v102, e102, h⟩ := bO_some h
    refine ww_getI 102 X dX12_set_102 fG_X12_31 e102 ?_
    refine ww_imul 105 X dX12_set_105 ?_
    refine ww_icmp_ge 106 123 X dX12_set_106 (by decide) (fun q => ?_) (fun q => ?_)
    · replace h := (if_pos q).symm.trans h
      refine ww_iconst 123 X (v := (0 : Int32)) dX12_set_123 (by decide) ?_
      refine ww_istore 124 X dX12_set_124 (lv' := [(0, .ref l0), (5, .int (0 : Int32))]) (by decide) [1, 0] rfl ?_
      exact (wB_X12_set_126 X hQ F _ _ _ h)
    · replace h := (if_neg q).symm.trans h
      refine ww_aload_n 109 X dX12_set_109 0 rfl rfl ?_
      refine ww_aload_n 110 X dX12_set_110 0 rfl rfl ?_
      obtain ⟨v111, e111, h⟩ := bO_some h
      refine ww_getR 111 X dX12_set_111 fG_X12_13 e111 ?_
      obtain ⟨_, f114, h⟩ := bO_some h
      obtain ⟨M114, e114, h⟩ := bO_some h
      refine ww_callVV0 114 X dX12_set_114 mY_X12_twice mL_X12_42 (rcv_spec f114) ⟨_, _, rfl⟩ (by decide) (As := [.ref v111]) (rest := []) rfl rfl ⟨Nat.le_of_ble_eq_true rfl, Nat.le_of_ble_eq_true rfl⟩ (Nat.le_of_ble_eq_true rfl) (fun l D A => c_X12_twice l D A e114) ?_
      refine ww_iinc 117 X dX12_set_117 (lv' := [(0, .ref l0), (5, .int (l5 + 1))]) 1 rfl rfl (by decide) [1, 0] rfl ?_
      refine ww_goto 120 97 X dX12_set_120 (by decide) ?_
      exact (ih _ _ _ h)
def B_X12_set_64 (G : Nat → Nat) (F : Nat) : Nat → Nat → Int32 → mM → Option mM
  | 0, _, _, _ => none
  | n + 1, l0, l5, M =>
  bO (gfI M l0 12 1) fun v67 =>
  if v67 ≤ l5 then (bO (gfR M l0 12 3) fun v88 =>
  bO (sI M 0 v88 (0 : Int32) (1 : Int32)) fun M93 =>
  B_X12_set_97 G F F l0 (0 : Int32) M93)
  else (bO (gfR M l0 12 3) fun v74 =>
  bO (sI M 0 v74 l5 (0 : Int32)) fun M80 =>
  B_X12_set_64 G F n l0 (l5 + 1) M80)
set_option maxHeartbeats 4000000 in
set_option maxRecDepth 100000 in
theorem wB_X12_set_64 {G : Nat → Nat} {F : Nat} {x : mXT} {sz : Nat} {M0 : mM} (X : mCX G RX12 cX12_set 6 none "set" rmX12_set x) (hQ : mQV x M0 (sz, 0, 0)) : ∀ (n : Nat) (l0 : Nat) (l5 : Int32) (M : mM), B_X12_set_64 G F n l0 l5 M = some M0 → WW x (sz, 0, 0) M 64 [(0, .ref l0), (5, .int l5)] [] := by
  intro n
  induction n with
  | zero =>
    intro l0 l5 M h
    exact nomatch (show (none : Option mM) = some M0 from h)
  | succ n ih =>
    intro l0 l5 M h
    rw [B_X12_set_64] at h
    refine ww_iload 64 X dX12_set_64 1 rfl ?_
    refine ww_aload_n 66 X dX12_set_66 0 rfl rfl ?_
    obtain ⟨v67, e67, h⟩ := bO_some h
    refine ww_getI 67 X dX12_set_67 fG_X12_31 e67 ?_
    refine ww_icmp_ge 70 87 X dX12_set_70 (by decide) (fun q => ?_) (fun q => ?_)
    · replace h := (if_pos q).symm.trans h
      refine ww_aload_n 87 X dX12_set_87 0 rfl rfl ?_
      obtain ⟨v88, e88, h⟩ := bO_some h
      refine ww_getR 88 X dX12_set_88 fG_X12_13 e88 ?_
      refine ww_iconst 91 X (v := (0 : Int32)) dX12_set_91 (by decide) ?_
      refine ww_iconst 92 X (v := (1 : Int32)) dX12_set_92 (by decide) ?_
      obtain ⟨M93, e93, h⟩ := bO_some h
      refine ww_iast 93 X dX12_set_93 e93 ?_
      refine ww_iconst 94 X (v := (0 : Int32)) dX12_set_94 (by decide) ?_
      refine ww_istore 95 X dX12_set_95 (lv' := [(0, .ref l0), (5, .int (0 : Int32))]) (by decide) [1, 0] rfl ?_
      exact (wB_X12_set_97 X hQ F _ _ _ h)
    · replace h := (if_neg q).symm.trans h
      refine ww_aload_n 73 X dX12_set_73 0 rfl rfl ?_
      obtain ⟨v74, e74, h⟩ := bO_some h
      refine ww_getR 74 X dX12_set_74 fG_X12_13 e74 ?_
      refine ww_iload 77 X dX12_set_77 1 rfl ?_
      refine ww_iconst 79 X (v := (0 : Int32)) dX12_set_79 (by decide) ?_
      obtain ⟨M80, e80, h⟩ := bO_some h
      refine ww_iast 80 X dX12_set_80 e80 ?_
      refine ww_iinc 81 X dX12_set_81 (lv' := [(0, .ref l0), (5, .int (l5 + 1))]) 1 rfl rfl (by decide) [1, 0] rfl ?_
      refine ww_goto 84 64 X dX12_set_84 (by decide) ?_
      exact (ih _ _ _ h)
def B_X12_set_26 (G : Nat → Nat) (F : Nat) : Nat → Nat → Int32 → Int32 → mM → Option mM
  | 0, _, _, _, _ => none
  | n + 1, l0, l4, l5, M =>
  if (5 : Int32) ≤ l5 then (bO (pfv M l0 12 2 (.int (-l4))) fun M58 =>
  B_X12_set_64 G F F l0 (0 : Int32) M58)
  else (bO (gfR M l0 12 0) fun v36 =>
  bO (aI M 0 v36 (0 : Int32)) fun v40 =>
  B_X12_set_26 G F n l0 (l4 * ((2 : Int32) - (v40 * l4))) (l5 + 1) M)
set_option maxHeartbeats 4000000 in
set_option maxRecDepth 100000 in
theorem wB_X12_set_26 {G : Nat → Nat} {F : Nat} {x : mXT} {sz : Nat} {M0 : mM} (X : mCX G RX12 cX12_set 6 none "set" rmX12_set x) (hQ : mQV x M0 (sz, 0, 0)) : ∀ (n : Nat) (l0 : Nat) (l4 : Int32) (l5 : Int32) (M : mM), B_X12_set_26 G F n l0 l4 l5 M = some M0 → WW x (sz, 0, 0) M 26 [(0, .ref l0), (4, .int l4), (5, .int l5)] [] := by
  intro n
  induction n with
  | zero =>
    intro l0 l4 l5 M h
    exact nomatch (show (none : Option mM) = some M0 from h)
  | succ n ih =>
    intro l0 l4 l5 M h
    rw [B_X12_set_26] at h
    refine ww_iload 26 X dX12_set_26 2 rfl ?_
    refine ww_iconst 28 X (v := (5 : Int32)) dX12_set_28 (by decide) ?_
    refine ww_icmp_ge 29 54 X dX12_set_29 (by decide) (fun q => ?_) (fun q => ?_)
    · replace h := (if_pos q).symm.trans h
      refine ww_aload_n 54 X dX12_set_54 0 rfl rfl ?_
      refine ww_iload 55 X dX12_set_55 1 rfl ?_
      refine ww_ineg 57 X dX12_set_57 ?_
      obtain ⟨M58, e58, h⟩ := bO_some h
      refine ww_putI 58 X dX12_set_58 (fP_X12_39 _) e58 ?_
      refine ww_iconst 61 X (v := (0 : Int32)) dX12_set_61 (by decide) ?_
      refine ww_istore 62 X dX12_set_62 (lv' := [(0, .ref l0), (4, .int l4), (5, .int (0 : Int32))]) (by decide) [1, 2, 0] rfl ?_
      exact ww_sub [0, 2] rfl (wB_X12_set_64 X hQ F _ _ _ h)
    · replace h := (if_neg q).symm.trans h
      refine ww_iload 32 X dX12_set_32 1 rfl ?_
      refine ww_iconst 34 X (v := (2 : Int32)) dX12_set_34 (by decide) ?_
      refine ww_aload_n 35 X dX12_set_35 0 rfl rfl ?_
      obtain ⟨v36, e36, h⟩ := bO_some h
      refine ww_getR 36 X dX12_set_36 fG_X12_7 e36 ?_
      refine ww_iconst 39 X (v := (0 : Int32)) dX12_set_39 (by decide) ?_
      obtain ⟨v40, e40, h⟩ := bO_some h
      refine ww_iald 40 X dX12_set_40 e40 ?_
      refine ww_iload 41 X dX12_set_41 1 rfl ?_
      refine ww_imul 43 X dX12_set_43 ?_
      refine ww_isub 44 X dX12_set_44 ?_
      refine ww_imul 45 X dX12_set_45 ?_
      refine ww_istore 46 X dX12_set_46 (lv' := [(0, .ref l0), (4, .int (l4 * ((2 : Int32) - (v40 * l4)))), (5, .int l5)]) (by decide) [1, 0, 2] rfl ?_
      refine ww_iinc 48 X dX12_set_48 (lv' := [(0, .ref l0), (4, .int (l4 * ((2 : Int32) - (v40 * l4)))), (5, .int (l5 + 1))]) 2 rfl rfl (by decide) [1, 2, 0] rfl ?_
      refine ww_goto 51 26 X dX12_set_51 (by decide) ?_
      exact (ih _ _ _ _ h)
def P_X12_set (G : Nat → Nat) (F : Nat) (l0 : Nat) (l1 : Nat) (l2 : Int32) (l3 : Int32) (M : mM) : Option mM :=
  bO (pfv M l0 12 1 (.int ((l3 + (3 : Int32)) / (4 : Int32)))) fun M6 =>
  bO (gfR M6 l0 12 0) fun v14 =>
  bO (rcv M6 l0 12) fun _ =>
  bO (P_X12_load G F l0 l1 l2 l3 v14 M6) fun M17 =>
  B_X12_set_26 G F F l0 (1 : Int32) (0 : Int32) M17
set_option maxHeartbeats 4000000 in
set_option maxRecDepth 100000 in
theorem wP_X12_set {G : Nat → Nat} {F : Nat} {x : mXT} {sz : Nat} {M0 : mM} (X : mCX G RX12 cX12_set 6 none "set" rmX12_set x) (hQ : mQV x M0 (sz, 0, 0)) {l0 : Nat} {l1 : Nat} {l2 : Int32} {l3 : Int32} {M : mM} (h : P_X12_set G F l0 l1 l2 l3 M = some M0) : WW x (sz, 0, 0) M 0 [(0, .ref l0), (1, .ref l1), (2, .int l2), (3, .int l3)] [] := by
  unfold P_X12_set at h
  refine ww_aload_n 0 X dX12_set_0 0 rfl rfl ?_
  refine ww_iload_n 1 X dX12_set_1 3 rfl rfl ?_
  refine ww_iconst 2 X (v := (3 : Int32)) dX12_set_2 (by decide) ?_
  refine ww_iadd 3 X dX12_set_3 ?_
  refine ww_iconst 4 X (v := (4 : Int32)) dX12_set_4 (by decide) ?_
  refine ww_idiv 5 X (v := ((l3 + (3 : Int32)) / (4 : Int32))) dX12_set_5 rfl ?_
  obtain ⟨M6, e6, h⟩ := bO_some h
  refine ww_putI 6 X dX12_set_6 (fP_X12_31 _) e6 ?_
  refine ww_aload_n 9 X dX12_set_9 0 rfl rfl ?_
  refine ww_aload_n 10 X dX12_set_10 1 rfl rfl ?_
  refine ww_iload_n 11 X dX12_set_11 2 rfl rfl ?_
  refine ww_iload_n 12 X dX12_set_12 3 rfl rfl ?_
  refine ww_aload_n 13 X dX12_set_13 0 rfl rfl ?_
  obtain ⟨v14, e14, h⟩ := bO_some h
  refine ww_getR 14 X dX12_set_14 fG_X12_7 e14 ?_
  obtain ⟨_, f17, h⟩ := bO_some h
  obtain ⟨M17, e17, h⟩ := bO_some h
  refine ww_callVV0 17 X dX12_set_17 mY_X12_load mL_X12_35 (rcv_spec f17) ⟨_, _, rfl⟩ (by decide) (As := [.ref l1, .int l2, .int l3, .ref v14]) (rest := []) rfl rfl ⟨Nat.le_of_ble_eq_true rfl, Nat.le_of_ble_eq_true rfl⟩ (Nat.le_of_ble_eq_true rfl) (fun l D A => c_X12_load l D A e17) ?_
  refine ww_iconst 20 X (v := (1 : Int32)) dX12_set_20 (by decide) ?_
  refine ww_istore 21 X dX12_set_21 (lv' := [(0, .ref l0), (1, .ref l1), (2, .int l2), (3, .int l3), (4, .int (1 : Int32))]) (by decide) [1, 2, 3, 4, 0] rfl ?_
  refine ww_iconst 23 X (v := (0 : Int32)) dX12_set_23 (by decide) ?_
  refine ww_istore 24 X dX12_set_24 (lv' := [(0, .ref l0), (1, .ref l1), (2, .int l2), (3, .int l3), (4, .int (1 : Int32)), (5, .int (0 : Int32))]) (by decide) [1, 2, 3, 4, 5, 0] rfl ?_
  exact ww_sub [0, 4, 5] rfl (wB_X12_set_26 X hQ F _ _ _ _ h)
theorem c_X12_set {G : Nat → Nat} {F sz : Nat} {M0 : mM} (l : Launch) (D : mD) (A : Nat → Prop) {l0 : Nat} {l1 : Nat} {l2 : Int32} {l3 : Int32} {M : mM} (h : P_X12_set G F l0 l1 l2 l3 M = some M0) : mMetV l D G A yX12_set cX12_set 6 none 2 50 0 0 [.ref l0, .ref l1, .int l2, .int l3] M sz M0 sz := mMetV_of l D G A (by decide) (Nat.le_of_ble_eq_true rfl) (fun x X hQ => wP_X12_set X hQ h)
/-! SealedTokensModel$Mod.store([I[BII)V -/
theorem dX12_store_0 : decode cX12_store 0 = .ok (.iconst 0, 1) := by decide +kernel
theorem dX12_store_1 : decode cX12_store 1 = .ok (.istore 5, 2) := by decide +kernel
theorem dX12_store_3 : decode cX12_store 3 = .ok (.iload 5, 2) := by decide +kernel
theorem dX12_store_5 : decode cX12_store 5 = .ok (.iload 4, 2) := by decide +kernel
theorem dX12_store_7 : decode cX12_store 7 = .ok (.if_icmp .ge 35, 3) := by decide +kernel
theorem dX12_store_10 : decode cX12_store 10 = .ok (.aload_n 2, 1) := by decide +kernel
theorem dX12_store_11 : decode cX12_store 11 = .ok (.iload_n 3, 1) := by decide +kernel
theorem dX12_store_12 : decode cX12_store 12 = .ok (.iload 4, 2) := by decide +kernel
theorem dX12_store_14 : decode cX12_store 14 = .ok (.iadd, 1) := by decide +kernel
theorem dX12_store_15 : decode cX12_store 15 = .ok (.iconst 1, 1) := by decide +kernel
theorem dX12_store_16 : decode cX12_store 16 = .ok (.isub, 1) := by decide +kernel
theorem dX12_store_17 : decode cX12_store 17 = .ok (.iload 5, 2) := by decide +kernel
theorem dX12_store_19 : decode cX12_store 19 = .ok (.isub, 1) := by decide +kernel
theorem dX12_store_20 : decode cX12_store 20 = .ok (.aload_n 1, 1) := by decide +kernel
theorem dX12_store_21 : decode cX12_store 21 = .ok (.iload 5, 2) := by decide +kernel
theorem dX12_store_23 : decode cX12_store 23 = .ok (.iconst 4, 1) := by decide +kernel
theorem dX12_store_24 : decode cX12_store 24 = .ok (.idiv, 1) := by decide +kernel
theorem dX12_store_25 : decode cX12_store 25 = .ok (.iaload, 1) := by decide +kernel
theorem dX12_store_26 : decode cX12_store 26 = .ok (.bipush 8, 2) := by decide +kernel
theorem dX12_store_28 : decode cX12_store 28 = .ok (.iload 5, 2) := by decide +kernel
theorem dX12_store_30 : decode cX12_store 30 = .ok (.iconst 4, 1) := by decide +kernel
theorem dX12_store_31 : decode cX12_store 31 = .ok (.irem, 1) := by decide +kernel
theorem dX12_store_32 : decode cX12_store 32 = .ok (.imul, 1) := by decide +kernel
theorem dX12_store_33 : decode cX12_store 33 = .ok (.iushr, 1) := by decide +kernel
theorem dX12_store_34 : decode cX12_store 34 = .ok (.i2b, 1) := by decide +kernel
theorem dX12_store_35 : decode cX12_store 35 = .ok (.bastore, 1) := by decide +kernel
theorem dX12_store_36 : decode cX12_store 36 = .ok (.iinc 5 1, 3) := by decide +kernel
theorem dX12_store_39 : decode cX12_store 39 = .ok (.goto (-36), 3) := by decide +kernel
theorem dX12_store_42 : decode cX12_store 42 = .ok (.return_, 1) := by decide +kernel
abbrev rmX12_store : Room := { frames := 0, cells := 0, slots := 0, locals := 0 }
def B_X12_store_3 (G : Nat → Nat) (F : Nat) : Nat → Nat → Nat → Int32 → Int32 → Int32 → mM → Option mM
  | 0, _, _, _, _, _, _ => none
  | n + 1, l1, l2, l3, l4, l5, M =>
  if l4 ≤ l5 then (some M)
  else (bO (aI M 0 l1 (l5 / (4 : Int32))) fun v25 =>
  bO (sI M 1 l2 (((l3 + l4) - (1 : Int32)) - l5) (((ushI v25 ((8 : Int32) * (l5 - l5 / (4 : Int32) * (4 : Int32)))).toInt8.toInt32).toInt8.toInt32)) fun M35 =>
  B_X12_store_3 G F n l1 l2 l3 l4 (l5 + 1) M35)
set_option maxHeartbeats 4000000 in
set_option maxRecDepth 100000 in
theorem wB_X12_store_3 {G : Nat → Nat} {F : Nat} {x : mXT} {sz : Nat} {M0 : mM} (X : mCX G RX12 cX12_store 6 none "store" rmX12_store x) (hQ : mQV x M0 (sz, 0, 0)) : ∀ (n : Nat) (l1 : Nat) (l2 : Nat) (l3 : Int32) (l4 : Int32) (l5 : Int32) (M : mM), B_X12_store_3 G F n l1 l2 l3 l4 l5 M = some M0 → WW x (sz, 0, 0) M 3 [(1, .ref l1), (2, .ref l2), (3, .int l3), (4, .int l4), (5, .int l5)] [] := by
  intro n
  induction n with
  | zero =>
    intro l1 l2 l3 l4 l5 M h
    exact nomatch (show (none : Option mM) = some M0 from h)
  | succ n ih =>
    intro l1 l2 l3 l4 l5 M h
    rw [B_X12_store_3] at h
    refine ww_iload 3 X dX12_store_3 4 rfl ?_
    refine ww_iload 5 X dX12_store_5 3 rfl ?_
    refine ww_icmp_ge 7 42 X dX12_store_7 (by decide) (fun q => ?_) (fun q => ?_)
    · replace h := (if_pos q).symm.trans h
      exact ww_vretE 42 X hQ dX12_store_42 h
    · replace h := (if_neg q).symm.trans h
      refine ww_aload_n 10 X dX12_store_10 1 rfl rfl ?_
      refine ww_iload_n 11 X dX12_store_11 2 rfl rfl ?_
      refine ww_iload 12 X dX12_store_12 3 rfl ?_
      refine ww_iadd 14 X dX12_store_14 ?_
      refine ww_iconst 15 X (v := (1 : Int32)) dX12_store_15 (by decide) ?_
      refine ww_isub 16 X dX12_store_16 ?_
      refine ww_iload 17 X dX12_store_17 4 rfl ?_
      refine ww_isub 19 X dX12_store_19 ?_
      refine ww_aload_n 20 X dX12_store_20 0 rfl rfl ?_
      refine ww_iload 21 X dX12_store_21 4 rfl ?_
      refine ww_iconst 23 X (v := (4 : Int32)) dX12_store_23 (by decide) ?_
      refine ww_idiv 24 X (v := (l5 / (4 : Int32))) dX12_store_24 rfl ?_
      obtain ⟨v25, e25, h⟩ := bO_some h
      refine ww_iald 25 X dX12_store_25 e25 ?_
      refine ww_bipush 26 X (v := (8 : Int32)) dX12_store_26 (by decide) ?_
      refine ww_iload 28 X dX12_store_28 4 rfl ?_
      refine ww_iconst 30 X (v := (4 : Int32)) dX12_store_30 (by decide) ?_
      refine ww_irem 31 X (v := (l5 - l5 / (4 : Int32) * (4 : Int32))) dX12_store_31 rfl ?_
      refine ww_imul 32 X dX12_store_32 ?_
      refine ww_iushr 33 X dX12_store_33 ?_
      refine ww_i2b 34 X dX12_store_34 ?_
      obtain ⟨M35, e35, h⟩ := bO_some h
      refine ww_bast 35 X dX12_store_35 e35 ?_
      refine ww_iinc 36 X dX12_store_36 (lv' := [(1, .ref l1), (2, .ref l2), (3, .int l3), (4, .int l4), (5, .int (l5 + 1))]) 4 rfl rfl (by decide) [1, 2, 3, 4, 0] rfl ?_
      refine ww_goto 39 3 X dX12_store_39 (by decide) ?_
      exact (ih _ _ _ _ _ _ h)
def P_X12_store (G : Nat → Nat) (F : Nat) (l0 : Nat) (l1 : Nat) (l2 : Nat) (l3 : Int32) (l4 : Int32) (M : mM) : Option mM :=
  B_X12_store_3 G F F l1 l2 l3 l4 (0 : Int32) M
set_option maxHeartbeats 4000000 in
set_option maxRecDepth 100000 in
theorem wP_X12_store {G : Nat → Nat} {F : Nat} {x : mXT} {sz : Nat} {M0 : mM} (X : mCX G RX12 cX12_store 6 none "store" rmX12_store x) (hQ : mQV x M0 (sz, 0, 0)) {l0 : Nat} {l1 : Nat} {l2 : Nat} {l3 : Int32} {l4 : Int32} {M : mM} (h : P_X12_store G F l0 l1 l2 l3 l4 M = some M0) : WW x (sz, 0, 0) M 0 [(0, .ref l0), (1, .ref l1), (2, .ref l2), (3, .int l3), (4, .int l4)] [] := by
  unfold P_X12_store at h
  refine ww_iconst 0 X (v := (0 : Int32)) dX12_store_0 (by decide) ?_
  refine ww_istore 1 X dX12_store_1 (lv' := [(0, .ref l0), (1, .ref l1), (2, .ref l2), (3, .int l3), (4, .int l4), (5, .int (0 : Int32))]) (by decide) [1, 2, 3, 4, 5, 0] rfl ?_
  exact ww_sub [1, 2, 3, 4, 5] rfl (wB_X12_store_3 X hQ F _ _ _ _ _ _ h)
theorem c_X12_store {G : Nat → Nat} {F sz : Nat} {M0 : mM} (l : Launch) (D : mD) (A : Nat → Prop) {l0 : Nat} {l1 : Nat} {l2 : Nat} {l3 : Int32} {l4 : Int32} {M : mM} (h : P_X12_store G F l0 l1 l2 l3 l4 M = some M0) : mMetV l D G A yX12_store cX12_store 6 none 0 0 0 0 [.ref l0, .ref l1, .ref l2, .int l3, .int l4] M sz M0 sz := mMetV_of l D G A (by decide) (Nat.le_of_ble_eq_true rfl) (fun x X hQ => wP_X12_store X hQ h)
/-! SealedTokensModel$Mod.isZero([I)Z -/
theorem dX12_isZero_0 : decode cX12_isZero 0 = .ok (.iconst 1, 1) := by decide +kernel
theorem dX12_isZero_1 : decode cX12_isZero 1 = .ok (.istore_n 2, 1) := by decide +kernel
theorem dX12_isZero_2 : decode cX12_isZero 2 = .ok (.iconst 0, 1) := by decide +kernel
theorem dX12_isZero_3 : decode cX12_isZero 3 = .ok (.istore_n 3, 1) := by decide +kernel
theorem dX12_isZero_4 : decode cX12_isZero 4 = .ok (.iload_n 3, 1) := by decide +kernel
theorem dX12_isZero_5 : decode cX12_isZero 5 = .ok (.aload_n 0, 1) := by decide +kernel
theorem dX12_isZero_6 : decode cX12_isZero 6 = .ok (.getfield 31, 3) := by decide +kernel
theorem dX12_isZero_9 : decode cX12_isZero 9 = .ok (.if_icmp .ge 25, 3) := by decide +kernel
theorem dX12_isZero_12 : decode cX12_isZero 12 = .ok (.iload_n 2, 1) := by decide +kernel
theorem dX12_isZero_13 : decode cX12_isZero 13 = .ok (.ifCond .eq 13, 3) := by decide +kernel
theorem dX12_isZero_16 : decode cX12_isZero 16 = .ok (.aload_n 1, 1) := by decide +kernel
theorem dX12_isZero_17 : decode cX12_isZero 17 = .ok (.iload_n 3, 1) := by decide +kernel
theorem dX12_isZero_18 : decode cX12_isZero 18 = .ok (.iaload, 1) := by decide +kernel
theorem dX12_isZero_19 : decode cX12_isZero 19 = .ok (.ifCond .ne 7, 3) := by decide +kernel
theorem dX12_isZero_22 : decode cX12_isZero 22 = .ok (.iconst 1, 1) := by decide +kernel
theorem dX12_isZero_23 : decode cX12_isZero 23 = .ok (.goto 4, 3) := by decide +kernel
theorem dX12_isZero_26 : decode cX12_isZero 26 = .ok (.iconst 0, 1) := by decide +kernel
theorem dX12_isZero_27 : decode cX12_isZero 27 = .ok (.istore_n 2, 1) := by decide +kernel
theorem dX12_isZero_28 : decode cX12_isZero 28 = .ok (.iinc 3 1, 3) := by decide +kernel
theorem dX12_isZero_31 : decode cX12_isZero 31 = .ok (.goto (-27), 3) := by decide +kernel
theorem dX12_isZero_34 : decode cX12_isZero 34 = .ok (.iload_n 2, 1) := by decide +kernel
theorem dX12_isZero_35 : decode cX12_isZero 35 = .ok (.ireturn, 1) := by decide +kernel
abbrev rmX12_isZero : Room := { frames := 0, cells := 0, slots := 0, locals := 0 }
def B_X12_isZero_4 (G : Nat → Nat) (F : Nat) : Nat → Nat → Nat → Int32 → Int32 → mM → Option (Int32 × mM)
  | 0, _, _, _, _, _ => none
  | n + 1, l0, l1, l2, l3, M =>
  bO (gfI M l0 12 1) fun v6 =>
  if v6 ≤ l3 then (retZ l2 M)
  else (if l2 = 0 then (B_X12_isZero_4 G F n l0 l1 (0 : Int32) (l3 + 1) M)
  else (bO (aI M 0 l1 l3) fun v18 =>
  if v18 = 0 then (B_X12_isZero_4 G F n l0 l1 (1 : Int32) (l3 + 1) M)
  else (B_X12_isZero_4 G F n l0 l1 (0 : Int32) (l3 + 1) M)))
set_option maxHeartbeats 4000000 in
set_option maxRecDepth 100000 in
theorem wB_X12_isZero_4 {G : Nat → Nat} {F : Nat} {x : mXT} {sz : Nat} {r0 : Int32} {M0 : mM} (X : mCX G RX12 cX12_isZero 4 (some .boolean) "isZero" rmX12_isZero x) (hQ : mQI x r0 M0 (sz, 0, 0)) : ∀ (n : Nat) (l0 : Nat) (l1 : Nat) (l2 : Int32) (l3 : Int32) (M : mM), B_X12_isZero_4 G F n l0 l1 l2 l3 M = some (r0, M0) → WW x (sz, 0, 0) M 4 [(0, .ref l0), (1, .ref l1), (2, .int l2), (3, .int l3)] [] := by
  intro n
  induction n with
  | zero =>
    intro l0 l1 l2 l3 M h
    exact nomatch (show (none : Option (Int32 × mM)) = some (r0, M0) from h)
  | succ n ih =>
    intro l0 l1 l2 l3 M h
    rw [B_X12_isZero_4] at h
    refine ww_iload_n 4 X dX12_isZero_4 3 rfl rfl ?_
    refine ww_aload_n 5 X dX12_isZero_5 0 rfl rfl ?_
    obtain ⟨v6, e6, h⟩ := bO_some h
    refine ww_getI 6 X dX12_isZero_6 fG_X12_31 e6 ?_
    refine ww_icmp_ge 9 34 X dX12_isZero_9 (by decide) (fun q => ?_) (fun q => ?_)
    · replace h := (if_pos q).symm.trans h
      refine ww_iload_n 34 X dX12_isZero_34 2 rfl rfl ?_
      exact ww_zretE 35 X hQ dX12_isZero_35 h
    · replace h := (if_neg q).symm.trans h
      refine ww_iload_n 12 X dX12_isZero_12 2 rfl rfl ?_
      refine ww_if_eq 13 26 X dX12_isZero_13 (by decide) (fun q => ?_) (fun q => ?_)
      · replace h := (if_pos q).symm.trans h
        refine ww_iconst 26 X (v := (0 : Int32)) dX12_isZero_26 (by decide) ?_
        refine ww_istore_n 27 X dX12_isZero_27 (lv' := [(0, .ref l0), (1, .ref l1), (2, .int (0 : Int32)), (3, .int l3)]) rfl (by decide) [1, 2, 0, 3] rfl ?_
        refine ww_iinc 28 X dX12_isZero_28 (lv' := [(0, .ref l0), (1, .ref l1), (2, .int (0 : Int32)), (3, .int (l3 + 1))]) 3 rfl rfl (by decide) [1, 2, 3, 0] rfl ?_
        refine ww_goto 31 4 X dX12_isZero_31 (by decide) ?_
        exact (ih _ _ _ _ _ h)
      · replace h := (if_neg q).symm.trans h
        refine ww_aload_n 16 X dX12_isZero_16 1 rfl rfl ?_
        refine ww_iload_n 17 X dX12_isZero_17 3 rfl rfl ?_
        obtain ⟨v18, e18, h⟩ := bO_some h
        refine ww_iald 18 X dX12_isZero_18 e18 ?_
        refine ww_if_ne 19 26 X dX12_isZero_19 (by decide) (fun q => ?_) (fun q => ?_)
        · replace h := (if_neg q).symm.trans h
          refine ww_iconst 26 X (v := (0 : Int32)) dX12_isZero_26 (by decide) ?_
          refine ww_istore_n 27 X dX12_isZero_27 (lv' := [(0, .ref l0), (1, .ref l1), (2, .int (0 : Int32)), (3, .int l3)]) rfl (by decide) [1, 2, 0, 3] rfl ?_
          refine ww_iinc 28 X dX12_isZero_28 (lv' := [(0, .ref l0), (1, .ref l1), (2, .int (0 : Int32)), (3, .int (l3 + 1))]) 3 rfl rfl (by decide) [1, 2, 3, 0] rfl ?_
          refine ww_goto 31 4 X dX12_isZero_31 (by decide) ?_
          exact (ih _ _ _ _ _ h)
        · replace h := (if_pos q).symm.trans h
          refine ww_iconst 22 X (v := (1 : Int32)) dX12_isZero_22 (by decide) ?_
          refine ww_goto 23 27 X dX12_isZero_23 (by decide) ?_
          refine ww_istore_n 27 X dX12_isZero_27 (lv' := [(0, .ref l0), (1, .ref l1), (2, .int (1 : Int32)), (3, .int l3)]) rfl (by decide) [1, 2, 0, 3] rfl ?_
          refine ww_iinc 28 X dX12_isZero_28 (lv' := [(0, .ref l0), (1, .ref l1), (2, .int (1 : Int32)), (3, .int (l3 + 1))]) 3 rfl rfl (by decide) [1, 2, 3, 0] rfl ?_
          refine ww_goto 31 4 X dX12_isZero_31 (by decide) ?_
          exact (ih _ _ _ _ _ h)
def P_X12_isZero (G : Nat → Nat) (F : Nat) (l0 : Nat) (l1 : Nat) (M : mM) : Option (Int32 × mM) :=
  B_X12_isZero_4 G F F l0 l1 (1 : Int32) (0 : Int32) M
set_option maxHeartbeats 4000000 in
set_option maxRecDepth 100000 in
theorem wP_X12_isZero {G : Nat → Nat} {F : Nat} {x : mXT} {sz : Nat} {r0 : Int32} {M0 : mM} (X : mCX G RX12 cX12_isZero 4 (some .boolean) "isZero" rmX12_isZero x) (hQ : mQI x r0 M0 (sz, 0, 0)) {l0 : Nat} {l1 : Nat} {M : mM} (h : P_X12_isZero G F l0 l1 M = some (r0, M0)) : WW x (sz, 0, 0) M 0 [(0, .ref l0), (1, .ref l1)] [] := by
  unfold P_X12_isZero at h
  refine ww_iconst 0 X (v := (1 : Int32)) dX12_isZero_0 (by decide) ?_
  refine ww_istore_n 1 X dX12_isZero_1 (lv' := [(0, .ref l0), (1, .ref l1), (2, .int (1 : Int32))]) rfl (by decide) [1, 2, 0] rfl ?_
  refine ww_iconst 2 X (v := (0 : Int32)) dX12_isZero_2 (by decide) ?_
  refine ww_istore_n 3 X dX12_isZero_3 (lv' := [(0, .ref l0), (1, .ref l1), (2, .int (1 : Int32)), (3, .int (0 : Int32))]) rfl (by decide) [1, 2, 3, 0] rfl ?_
  exact (wB_X12_isZero_4 X hQ F _ _ _ _ _ h)
theorem c_X12_isZero {G : Nat → Nat} {F sz : Nat} {r0 : Int32} {M0 : mM} (l : Launch) (D : mD) (A : Nat → Prop) {l0 : Nat} {l1 : Nat} {M : mM} (h : P_X12_isZero G F l0 l1 M = some (r0, M0)) : mMetI l D G A yX12_isZero cX12_isZero 4 (some .boolean) 0 0 0 0 [.ref l0, .ref l1] M sz r0 M0 sz := mMetI_of l D G A (by decide) (Nat.le_of_ble_eq_true rfl) (fun x X hQ => wP_X12_isZero X hQ h)
/-! SealedTokensModel$Mod.addOne([I)V -/
theorem dX12_addOne_0 : decode cX12_addOne 0 = .ok (.iconst 0, 1) := by decide +kernel
theorem dX12_addOne_1 : decode cX12_addOne 1 = .ok (.istore_n 2, 1) := by decide +kernel
theorem dX12_addOne_2 : decode cX12_addOne 2 = .ok (.iconst 1, 1) := by decide +kernel
theorem dX12_addOne_3 : decode cX12_addOne 3 = .ok (.istore_n 3, 1) := by decide +kernel
theorem dX12_addOne_4 : decode cX12_addOne 4 = .ok (.iload_n 3, 1) := by decide +kernel
theorem dX12_addOne_5 : decode cX12_addOne 5 = .ok (.ifCond .eq 36, 3) := by decide +kernel
theorem dX12_addOne_8 : decode cX12_addOne 8 = .ok (.iload_n 2, 1) := by decide +kernel
theorem dX12_addOne_9 : decode cX12_addOne 9 = .ok (.aload_n 0, 1) := by decide +kernel
theorem dX12_addOne_10 : decode cX12_addOne 10 = .ok (.getfield 31, 3) := by decide +kernel
theorem dX12_addOne_13 : decode cX12_addOne 13 = .ok (.if_icmp .ge 28, 3) := by decide +kernel
theorem dX12_addOne_16 : decode cX12_addOne 16 = .ok (.aload_n 1, 1) := by decide +kernel
theorem dX12_addOne_17 : decode cX12_addOne 17 = .ok (.iload_n 2, 1) := by decide +kernel
theorem dX12_addOne_18 : decode cX12_addOne 18 = .ok (.dup2, 1) := by decide +kernel
theorem dX12_addOne_19 : decode cX12_addOne 19 = .ok (.iaload, 1) := by decide +kernel
theorem dX12_addOne_20 : decode cX12_addOne 20 = .ok (.iconst 1, 1) := by decide +kernel
theorem dX12_addOne_21 : decode cX12_addOne 21 = .ok (.iadd, 1) := by decide +kernel
theorem dX12_addOne_22 : decode cX12_addOne 22 = .ok (.iastore, 1) := by decide +kernel
theorem dX12_addOne_23 : decode cX12_addOne 23 = .ok (.aload_n 1, 1) := by decide +kernel
theorem dX12_addOne_24 : decode cX12_addOne 24 = .ok (.iload_n 2, 1) := by decide +kernel
theorem dX12_addOne_25 : decode cX12_addOne 25 = .ok (.iaload, 1) := by decide +kernel
theorem dX12_addOne_26 : decode cX12_addOne 26 = .ok (.ifCond .ne 7, 3) := by decide +kernel
theorem dX12_addOne_29 : decode cX12_addOne 29 = .ok (.iconst 1, 1) := by decide +kernel
theorem dX12_addOne_30 : decode cX12_addOne 30 = .ok (.goto 4, 3) := by decide +kernel
theorem dX12_addOne_33 : decode cX12_addOne 33 = .ok (.iconst 0, 1) := by decide +kernel
theorem dX12_addOne_34 : decode cX12_addOne 34 = .ok (.istore_n 3, 1) := by decide +kernel
theorem dX12_addOne_35 : decode cX12_addOne 35 = .ok (.iinc 2 1, 3) := by decide +kernel
theorem dX12_addOne_38 : decode cX12_addOne 38 = .ok (.goto (-34), 3) := by decide +kernel
theorem dX12_addOne_41 : decode cX12_addOne 41 = .ok (.aload_n 0, 1) := by decide +kernel
theorem dX12_addOne_42 : decode cX12_addOne 42 = .ok (.aload_n 1, 1) := by decide +kernel
theorem dX12_addOne_43 : decode cX12_addOne 43 = .ok (.aload_n 0, 1) := by decide +kernel
theorem dX12_addOne_44 : decode cX12_addOne 44 = .ok (.getfield 7, 3) := by decide +kernel
theorem dX12_addOne_47 : decode cX12_addOne 47 = .ok (.invokevirtual 49, 3) := by decide +kernel
theorem dX12_addOne_50 : decode cX12_addOne 50 = .ok (.ifCond .lt 8, 3) := by decide +kernel
theorem dX12_addOne_53 : decode cX12_addOne 53 = .ok (.aload_n 0, 1) := by decide +kernel
theorem dX12_addOne_54 : decode cX12_addOne 54 = .ok (.aload_n 1, 1) := by decide +kernel
theorem dX12_addOne_55 : decode cX12_addOne 55 = .ok (.invokevirtual 53, 3) := by decide +kernel
theorem dX12_addOne_58 : decode cX12_addOne 58 = .ok (.return_, 1) := by decide +kernel
abbrev rmX12_addOne : Room := { frames := 1, cells := 0, slots := 0, locals := 26 }
def B_X12_addOne_4 (G : Nat → Nat) (F : Nat) : Nat → Nat → Nat → Int32 → Int32 → mM → Option mM
  | 0, _, _, _, _, _ => none
  | n + 1, l0, l1, l2, l3, M =>
  if l3 = 0 then (bO (gfR M l0 12 0) fun v44 =>
  bO (rcv M l0 12) fun _ =>
  bP (P_X12_order G F l0 l1 v44 M) fun v47 M47 =>
  if v47 < 0 then (some M47)
  else (bO (rcv M47 l0 12) fun _ =>
  bO (P_X12_less G F l0 l1 M47) fun M55 =>
  some M55))
  else (bO (gfI M l0 12 1) fun v10 =>
  if v10 ≤ l2 then (bO (gfR M l0 12 0) fun v44 =>
  bO (rcv M l0 12) fun _ =>
  bP (P_X12_order G F l0 l1 v44 M) fun v47 M47 =>
  if v47 < 0 then (some M47)
  else (bO (rcv M47 l0 12) fun _ =>
  bO (P_X12_less G F l0 l1 M47) fun M55 =>
  some M55))
  else (bO (aI M 0 l1 l2) fun v19 =>
  bO (sI M 0 l1 l2 (v19 + (1 : Int32))) fun M22 =>
  bO (aI M22 0 l1 l2) fun v25 =>
  if v25 = 0 then (B_X12_addOne_4 G F n l0 l1 (l2 + 1) (1 : Int32) M22)
  else (B_X12_addOne_4 G F n l0 l1 (l2 + 1) (0 : Int32) M22)))
set_option maxHeartbeats 4000000 in
set_option maxRecDepth 100000 in
theorem wB_X12_addOne_4 {G : Nat → Nat} {F : Nat} {x : mXT} {sz : Nat} {M0 : mM} (X : mCX G RX12 cX12_addOne 4 none "addOne" rmX12_addOne x) (hQ : mQV x M0 (sz, 0, 0)) : ∀ (n : Nat) (l0 : Nat) (l1 : Nat) (l2 : Int32) (l3 : Int32) (M : mM), B_X12_addOne_4 G F n l0 l1 l2 l3 M = some M0 → WW x (sz, 0, 0) M 4 [(0, .ref l0), (1, .ref l1), (2, .int l2), (3, .int l3)] [] := by
  intro n
  induction n with
  | zero =>
    intro l0 l1 l2 l3 M h
    exact nomatch (show (none : Option mM) = some M0 from h)
  | succ n ih =>
    intro l0 l1 l2 l3 M h
    rw [B_X12_addOne_4] at h
    refine ww_iload_n 4 X dX12_addOne_4 3 rfl rfl ?_
    refine ww_if_eq 5 41 X dX12_addOne_5 (by decide) (fun q => ?_) (fun q => ?_)
    · replace h := (if_pos q).symm.trans h
      refine ww_aload_n 41 X dX12_addOne_41 0 rfl rfl ?_
      refine ww_aload_n 42 X dX12_addOne_42 1 rfl rfl ?_
      refine ww_aload_n 43 X dX12_addOne_43 0 rfl rfl ?_
      obtain ⟨v44, e44, h⟩ := bO_some h
      refine ww_getR 44 X dX12_addOne_44 fG_X12_7 e44 ?_
      obtain ⟨_, f47, h⟩ := bO_some h
      obtain ⟨v47, M47, e47, h⟩ := bP_some h
      refine ww_callVI0 47 X dX12_addOne_47 mY_X12_order mL_X12_49 (rcv_spec f47) ⟨_, _, rfl⟩ (by decide) (As := [.ref l1, .ref v44]) (rest := []) rfl rfl ⟨Nat.le_of_ble_eq_true rfl, Nat.le_of_ble_eq_true rfl⟩ (Nat.le_of_ble_eq_true rfl) (fun l D A => c_X12_order l D A e47) ?_
      refine ww_if_lt 50 58 X dX12_addOne_50 (by decide) (fun q => ?_) (fun q => ?_)
      · replace h := (if_pos q).symm.trans h
        exact ww_vretE 58 X hQ dX12_addOne_58 h
      · replace h := (if_neg q).symm.trans h
        refine ww_aload_n 53 X dX12_addOne_53 0 rfl rfl ?_
        refine ww_aload_n 54 X dX12_addOne_54 1 rfl rfl ?_
        obtain ⟨_, f55, h⟩ := bO_some h
        obtain ⟨M55, e55, h⟩ := bO_some h
        refine ww_callVV0 55 X dX12_addOne_55 mY_X12_less mL_X12_53 (rcv_spec f55) ⟨_, _, rfl⟩ (by decide) (As := [.ref l1]) (rest := []) rfl rfl ⟨Nat.le_of_ble_eq_true rfl, Nat.le_of_ble_eq_true rfl⟩ (Nat.le_of_ble_eq_true rfl) (fun l D A => c_X12_less l D A e55) ?_
        exact ww_vretE 58 X hQ dX12_addOne_58 h
    · replace h := (if_neg q).symm.trans h
      refine ww_iload_n 8 X dX12_addOne_8 2 rfl rfl ?_
      refine ww_aload_n 9 X dX12_addOne_9 0 rfl rfl ?_
      obtain ⟨v10, e10, h⟩ := bO_some h
      refine ww_getI 10 X dX12_addOne_10 fG_X12_31 e10 ?_
      refine ww_icmp_ge 13 41 X dX12_addOne_13 (by decide) (fun q => ?_) (fun q => ?_)
      · replace h := (if_pos q).symm.trans h
        refine ww_aload_n 41 X dX12_addOne_41 0 rfl rfl ?_
        refine ww_aload_n 42 X dX12_addOne_42 1 rfl rfl ?_
        refine ww_aload_n 43 X dX12_addOne_43 0 rfl rfl ?_
        obtain ⟨v44, e44, h⟩ := bO_some h
        refine ww_getR 44 X dX12_addOne_44 fG_X12_7 e44 ?_
        obtain ⟨_, f47, h⟩ := bO_some h
        obtain ⟨v47, M47, e47, h⟩ := bP_some h
        refine ww_callVI0 47 X dX12_addOne_47 mY_X12_order mL_X12_49 (rcv_spec f47) ⟨_, _, rfl⟩ (by decide) (As := [.ref l1, .ref v44]) (rest := []) rfl rfl ⟨Nat.le_of_ble_eq_true rfl, Nat.le_of_ble_eq_true rfl⟩ (Nat.le_of_ble_eq_true rfl) (fun l D A => c_X12_order l D A e47) ?_
        refine ww_if_lt 50 58 X dX12_addOne_50 (by decide) (fun q => ?_) (fun q => ?_)
        · replace h := (if_pos q).symm.trans h
          exact ww_vretE 58 X hQ dX12_addOne_58 h
        · replace h := (if_neg q).symm.trans h
          refine ww_aload_n 53 X dX12_addOne_53 0 rfl rfl ?_
          refine ww_aload_n 54 X dX12_addOne_54 1 rfl rfl ?_
          obtain ⟨_, f55, h⟩ := bO_some h
          obtain ⟨M55, e55, h⟩ := bO_some h
          refine ww_callVV0 55 X dX12_addOne_55 mY_X12_less mL_X12_53 (rcv_spec f55) ⟨_, _, rfl⟩ (by decide) (As := [.ref l1]) (rest := []) rfl rfl ⟨Nat.le_of_ble_eq_true rfl, Nat.le_of_ble_eq_true rfl⟩ (Nat.le_of_ble_eq_true rfl) (fun l D A => c_X12_less l D A e55) ?_
          exact ww_vretE 58 X hQ dX12_addOne_58 h
      · replace h := (if_neg q).symm.trans h
        refine ww_aload_n 16 X dX12_addOne_16 1 rfl rfl ?_
        refine ww_iload_n 17 X dX12_addOne_17 2 rfl rfl ?_
        refine ww_dup2_11 18 X dX12_addOne_18 rfl rfl ?_
        obtain ⟨v19, e19, h⟩ := bO_some h
        refine ww_iald 19 X dX12_addOne_19 e19 ?_
        refine ww_iconst 20 X (v := (1 : Int32)) dX12_addOne_20 (by decide) ?_
        refine ww_iadd 21 X dX12_addOne_21 ?_
        obtain ⟨M22, e22, h⟩ := bO_some h
        refine ww_iast 22 X dX12_addOne_22 e22 ?_
        refine ww_aload_n 23 X dX12_addOne_23 1 rfl rfl ?_
        refine ww_iload_n 24 X dX12_addOne_24 2 rfl rfl ?_
        obtain ⟨v25, e25, h⟩ := bO_some h
        refine ww_iald 25 X dX12_addOne_25 e25 ?_
        refine ww_if_ne 26 33 X dX12_addOne_26 (by decide) (fun q => ?_) (fun q => ?_)
        · replace h := (if_neg q).symm.trans h
          refine ww_iconst 33 X (v := (0 : Int32)) dX12_addOne_33 (by decide) ?_
          refine ww_istore_n 34 X dX12_addOne_34 (lv' := [(0, .ref l0), (1, .ref l1), (2, .int l2), (3, .int (0 : Int32))]) rfl (by decide) [1, 2, 3, 0] rfl ?_
          refine ww_iinc 35 X dX12_addOne_35 (lv' := [(0, .ref l0), (1, .ref l1), (2, .int (l2 + 1)), (3, .int (0 : Int32))]) 2 rfl rfl (by decide) [1, 2, 0, 3] rfl ?_
          refine ww_goto 38 4 X dX12_addOne_38 (by decide) ?_
          exact (ih _ _ _ _ _ h)
        · replace h := (if_pos q).symm.trans h
          refine ww_iconst 29 X (v := (1 : Int32)) dX12_addOne_29 (by decide) ?_
          refine ww_goto 30 34 X dX12_addOne_30 (by decide) ?_
          refine ww_istore_n 34 X dX12_addOne_34 (lv' := [(0, .ref l0), (1, .ref l1), (2, .int l2), (3, .int (1 : Int32))]) rfl (by decide) [1, 2, 3, 0] rfl ?_
          refine ww_iinc 35 X dX12_addOne_35 (lv' := [(0, .ref l0), (1, .ref l1), (2, .int (l2 + 1)), (3, .int (1 : Int32))]) 2 rfl rfl (by decide) [1, 2, 0, 3] rfl ?_
          refine ww_goto 38 4 X dX12_addOne_38 (by decide) ?_
          exact (ih _ _ _ _ _ h)
def P_X12_addOne (G : Nat → Nat) (F : Nat) (l0 : Nat) (l1 : Nat) (M : mM) : Option mM :=
  B_X12_addOne_4 G F F l0 l1 (0 : Int32) (1 : Int32) M
set_option maxHeartbeats 4000000 in
set_option maxRecDepth 100000 in
theorem wP_X12_addOne {G : Nat → Nat} {F : Nat} {x : mXT} {sz : Nat} {M0 : mM} (X : mCX G RX12 cX12_addOne 4 none "addOne" rmX12_addOne x) (hQ : mQV x M0 (sz, 0, 0)) {l0 : Nat} {l1 : Nat} {M : mM} (h : P_X12_addOne G F l0 l1 M = some M0) : WW x (sz, 0, 0) M 0 [(0, .ref l0), (1, .ref l1)] [] := by
  unfold P_X12_addOne at h
  refine ww_iconst 0 X (v := (0 : Int32)) dX12_addOne_0 (by decide) ?_
  refine ww_istore_n 1 X dX12_addOne_1 (lv' := [(0, .ref l0), (1, .ref l1), (2, .int (0 : Int32))]) rfl (by decide) [1, 2, 0] rfl ?_
  refine ww_iconst 2 X (v := (1 : Int32)) dX12_addOne_2 (by decide) ?_
  refine ww_istore_n 3 X dX12_addOne_3 (lv' := [(0, .ref l0), (1, .ref l1), (2, .int (0 : Int32)), (3, .int (1 : Int32))]) rfl (by decide) [1, 2, 3, 0] rfl ?_
  exact (wB_X12_addOne_4 X hQ F _ _ _ _ _ h)
theorem c_X12_addOne {G : Nat → Nat} {F sz : Nat} {M0 : mM} (l : Launch) (D : mD) (A : Nat → Prop) {l0 : Nat} {l1 : Nat} {M : mM} (h : P_X12_addOne G F l0 l1 M = some M0) : mMetV l D G A yX12_addOne cX12_addOne 4 none 1 26 0 0 [.ref l0, .ref l1] M sz M0 sz := mMetV_of l D G A (by decide) (Nat.le_of_ble_eq_true rfl) (fun x X hQ => wP_X12_addOne X hQ h)
/-! SealedTokensModel$Mod.reduce([BII[I)V -/
theorem dX12_reduce_0 : decode cX12_reduce 0 = .ok (.iconst 0, 1) := by decide +kernel
theorem dX12_reduce_1 : decode cX12_reduce 1 = .ok (.istore 5, 2) := by decide +kernel
theorem dX12_reduce_3 : decode cX12_reduce 3 = .ok (.iload 5, 2) := by decide +kernel
theorem dX12_reduce_5 : decode cX12_reduce 5 = .ok (.aload_n 0, 1) := by decide +kernel
theorem dX12_reduce_6 : decode cX12_reduce 6 = .ok (.getfield 31, 3) := by decide +kernel
theorem dX12_reduce_9 : decode cX12_reduce 9 = .ok (.if_icmp .ge 15, 3) := by decide +kernel
theorem dX12_reduce_12 : decode cX12_reduce 12 = .ok (.aload 4, 2) := by decide +kernel
theorem dX12_reduce_14 : decode cX12_reduce 14 = .ok (.iload 5, 2) := by decide +kernel
theorem dX12_reduce_16 : decode cX12_reduce 16 = .ok (.iconst 0, 1) := by decide +kernel
theorem dX12_reduce_17 : decode cX12_reduce 17 = .ok (.iastore, 1) := by decide +kernel
theorem dX12_reduce_18 : decode cX12_reduce 18 = .ok (.iinc 5 1, 3) := by decide +kernel
theorem dX12_reduce_21 : decode cX12_reduce 21 = .ok (.goto (-18), 3) := by decide +kernel
theorem dX12_reduce_24 : decode cX12_reduce 24 = .ok (.iconst 0, 1) := by decide +kernel
theorem dX12_reduce_25 : decode cX12_reduce 25 = .ok (.istore 5, 2) := by decide +kernel
theorem dX12_reduce_27 : decode cX12_reduce 27 = .ok (.iload 5, 2) := by decide +kernel
theorem dX12_reduce_29 : decode cX12_reduce 29 = .ok (.bipush 8, 2) := by decide +kernel
theorem dX12_reduce_31 : decode cX12_reduce 31 = .ok (.iload_n 3, 1) := by decide +kernel
theorem dX12_reduce_32 : decode cX12_reduce 32 = .ok (.imul, 1) := by decide +kernel
theorem dX12_reduce_33 : decode cX12_reduce 33 = .ok (.if_icmp .ge 45, 3) := by decide +kernel
theorem dX12_reduce_36 : decode cX12_reduce 36 = .ok (.aload_n 0, 1) := by decide +kernel
theorem dX12_reduce_37 : decode cX12_reduce 37 = .ok (.aload 4, 2) := by decide +kernel
theorem dX12_reduce_39 : decode cX12_reduce 39 = .ok (.invokevirtual 42, 3) := by decide +kernel
theorem dX12_reduce_42 : decode cX12_reduce 42 = .ok (.aload_n 1, 1) := by decide +kernel
theorem dX12_reduce_43 : decode cX12_reduce 43 = .ok (.iload_n 2, 1) := by decide +kernel
theorem dX12_reduce_44 : decode cX12_reduce 44 = .ok (.iload 5, 2) := by decide +kernel
theorem dX12_reduce_46 : decode cX12_reduce 46 = .ok (.bipush 8, 2) := by decide +kernel
theorem dX12_reduce_48 : decode cX12_reduce 48 = .ok (.idiv, 1) := by decide +kernel
theorem dX12_reduce_49 : decode cX12_reduce 49 = .ok (.iadd, 1) := by decide +kernel
theorem dX12_reduce_50 : decode cX12_reduce 50 = .ok (.baload, 1) := by decide +kernel
theorem dX12_reduce_51 : decode cX12_reduce 51 = .ok (.bipush 7, 2) := by decide +kernel
theorem dX12_reduce_53 : decode cX12_reduce 53 = .ok (.iload 5, 2) := by decide +kernel
theorem dX12_reduce_55 : decode cX12_reduce 55 = .ok (.bipush 8, 2) := by decide +kernel
theorem dX12_reduce_57 : decode cX12_reduce 57 = .ok (.irem, 1) := by decide +kernel
theorem dX12_reduce_58 : decode cX12_reduce 58 = .ok (.isub, 1) := by decide +kernel
theorem dX12_reduce_59 : decode cX12_reduce 59 = .ok (.ishr, 1) := by decide +kernel
theorem dX12_reduce_60 : decode cX12_reduce 60 = .ok (.iconst 1, 1) := by decide +kernel
theorem dX12_reduce_61 : decode cX12_reduce 61 = .ok (.iand, 1) := by decide +kernel
theorem dX12_reduce_62 : decode cX12_reduce 62 = .ok (.iconst 1, 1) := by decide +kernel
theorem dX12_reduce_63 : decode cX12_reduce 63 = .ok (.if_icmp .ne 9, 3) := by decide +kernel
theorem dX12_reduce_66 : decode cX12_reduce 66 = .ok (.aload_n 0, 1) := by decide +kernel
theorem dX12_reduce_67 : decode cX12_reduce 67 = .ok (.aload 4, 2) := by decide +kernel
theorem dX12_reduce_69 : decode cX12_reduce 69 = .ok (.invokevirtual 56, 3) := by decide +kernel
theorem dX12_reduce_72 : decode cX12_reduce 72 = .ok (.iinc 5 1, 3) := by decide +kernel
theorem dX12_reduce_75 : decode cX12_reduce 75 = .ok (.goto (-48), 3) := by decide +kernel
theorem dX12_reduce_78 : decode cX12_reduce 78 = .ok (.return_, 1) := by decide +kernel
abbrev rmX12_reduce : Room := { frames := 2, cells := 0, slots := 0, locals := 50 }
def B_X12_reduce_27 (G : Nat → Nat) (F : Nat) : Nat → Nat → Nat → Int32 → Int32 → Nat → Int32 → mM → Option mM
  | 0, _, _, _, _, _, _, _ => none
  | n + 1, l0, l1, l2, l3, l4, l5, M =>
  if ((8 : Int32) * l3) ≤ l5 then (some M)
  else (bO (rcv M l0 12) fun _ =>
  bO (P_X12_twice G F l0 l4 M) fun M39 =>
  bO (aI M39 1 l1 (l2 + (l5 / (8 : Int32)))) fun v50 =>
  if ((v50 >>> (((7 : Int32) - (l5 - l5 / (8 : Int32) * (8 : Int32))) &&& 31)) &&& (1 : Int32)) = (1 : Int32) then (bO (rcv M39 l0 12) fun _ =>
  bO (P_X12_addOne G F l0 l4 M39) fun M69 =>
  B_X12_reduce_27 G F n l0 l1 l2 l3 l4 (l5 + 1) M69)
  else (B_X12_reduce_27 G F n l0 l1 l2 l3 l4 (l5 + 1) M39))
set_option maxHeartbeats 4000000 in
set_option maxRecDepth 100000 in
theorem wB_X12_reduce_27 {G : Nat → Nat} {F : Nat} {x : mXT} {sz : Nat} {M0 : mM} (X : mCX G RX12 cX12_reduce 6 none "reduce" rmX12_reduce x) (hQ : mQV x M0 (sz, 0, 0)) : ∀ (n : Nat) (l0 : Nat) (l1 : Nat) (l2 : Int32) (l3 : Int32) (l4 : Nat) (l5 : Int32) (M : mM), B_X12_reduce_27 G F n l0 l1 l2 l3 l4 l5 M = some M0 → WW x (sz, 0, 0) M 27 [(0, .ref l0), (1, .ref l1), (2, .int l2), (3, .int l3), (4, .ref l4), (5, .int l5)] [] := by
  intro n
  induction n with
  | zero =>
    intro l0 l1 l2 l3 l4 l5 M h
    exact nomatch (show (none : Option mM) = some M0 from h)
  | succ n ih =>
    intro l0 l1 l2 l3 l4 l5 M h
    rw [B_X12_reduce_27] at h
    refine ww_iload 27 X dX12_reduce_27 5 rfl ?_
    refine ww_bipush 29 X (v := (8 : Int32)) dX12_reduce_29 (by decide) ?_
    refine ww_iload_n 31 X dX12_reduce_31 3 rfl rfl ?_
    refine ww_imul 32 X dX12_reduce_32 ?_
    refine ww_icmp_ge 33 78 X dX12_reduce_33 (by decide) (fun q => ?_) (fun q => ?_)
    · replace h := (if_pos q).symm.trans h
      exact ww_vretE 78 X hQ dX12_reduce_78 h
    · replace h := (if_neg q).symm.trans h
      refine ww_aload_n 36 X dX12_reduce_36 0 rfl rfl ?_
      refine ww_aload 37 X dX12_reduce_37 4 rfl ?_
      obtain ⟨_, f39, h⟩ := bO_some h
      obtain ⟨M39, e39, h⟩ := bO_some h
      refine ww_callVV0 39 X dX12_reduce_39 mY_X12_twice mL_X12_42 (rcv_spec f39) ⟨_, _, rfl⟩ (by decide) (As := [.ref l4]) (rest := []) rfl rfl ⟨Nat.le_of_ble_eq_true rfl, Nat.le_of_ble_eq_true rfl⟩ (Nat.le_of_ble_eq_true rfl) (fun l D A => c_X12_twice l D A e39) ?_
      refine ww_aload_n 42 X dX12_reduce_42 1 rfl rfl ?_
      refine ww_iload_n 43 X dX12_reduce_43 2 rfl rfl ?_
      refine ww_iload 44 X dX12_reduce_44 5 rfl ?_
      refine ww_bipush 46 X (v := (8 : Int32)) dX12_reduce_46 (by decide) ?_
      refine ww_idiv 48 X (v := (l5 / (8 : Int32))) dX12_reduce_48 rfl ?_
      refine ww_iadd 49 X dX12_reduce_49 ?_
      obtain ⟨v50, e50, h⟩ := bO_some h
      refine ww_bald 50 X dX12_reduce_50 e50 ?_
      refine ww_bipush 51 X (v := (7 : Int32)) dX12_reduce_51 (by decide) ?_
      refine ww_iload 53 X dX12_reduce_53 5 rfl ?_
      refine ww_bipush 55 X (v := (8 : Int32)) dX12_reduce_55 (by decide) ?_
      refine ww_irem 57 X (v := (l5 - l5 / (8 : Int32) * (8 : Int32))) dX12_reduce_57 rfl ?_
      refine ww_isub 58 X dX12_reduce_58 ?_
      refine ww_ishr 59 X dX12_reduce_59 ?_
      refine ww_iconst 60 X (v := (1 : Int32)) dX12_reduce_60 (by decide) ?_
      refine ww_iand 61 X dX12_reduce_61 ?_
      refine ww_iconst 62 X (v := (1 : Int32)) dX12_reduce_62 (by decide) ?_
      refine ww_icmp_ne 63 72 X dX12_reduce_63 (by decide) (fun q => ?_) (fun q => ?_)
      · replace h := (if_neg q).symm.trans h
        refine ww_iinc 72 X dX12_reduce_72 (lv' := [(0, .ref l0), (1, .ref l1), (2, .int l2), (3, .int l3), (4, .ref l4), (5, .int (l5 + 1))]) 5 rfl rfl (by decide) [1, 2, 3, 4, 5, 0] rfl ?_
        refine ww_goto 75 27 X dX12_reduce_75 (by decide) ?_
        exact (ih _ _ _ _ _ _ _ h)
      · replace h := (if_pos q).symm.trans h
        refine ww_aload_n 66 X dX12_reduce_66 0 rfl rfl ?_
        refine ww_aload 67 X dX12_reduce_67 4 rfl ?_
        obtain ⟨_, f69, h⟩ := bO_some h
        obtain ⟨M69, e69, h⟩ := bO_some h
        refine ww_callVV0 69 X dX12_reduce_69 mY_X12_addOne mL_X12_56 (rcv_spec f69) ⟨_, _, rfl⟩ (by decide) (As := [.ref l4]) (rest := []) rfl rfl ⟨Nat.le_of_ble_eq_true rfl, Nat.le_of_ble_eq_true rfl⟩ (Nat.le_of_ble_eq_true rfl) (fun l D A => c_X12_addOne l D A e69) ?_
        refine ww_iinc 72 X dX12_reduce_72 (lv' := [(0, .ref l0), (1, .ref l1), (2, .int l2), (3, .int l3), (4, .ref l4), (5, .int (l5 + 1))]) 5 rfl rfl (by decide) [1, 2, 3, 4, 5, 0] rfl ?_
        refine ww_goto 75 27 X dX12_reduce_75 (by decide) ?_
        exact (ih _ _ _ _ _ _ _ h)
def B_X12_reduce_3 (G : Nat → Nat) (F : Nat) : Nat → Nat → Nat → Int32 → Int32 → Nat → Int32 → mM → Option mM
  | 0, _, _, _, _, _, _, _ => none
  | n + 1, l0, l1, l2, l3, l4, l5, M =>
  bO (gfI M l0 12 1) fun v6 =>
  if v6 ≤ l5 then (B_X12_reduce_27 G F F l0 l1 l2 l3 l4 (0 : Int32) M)
  else (bO (sI M 0 l4 l5 (0 : Int32)) fun M17 =>
  B_X12_reduce_3 G F n l0 l1 l2 l3 l4 (l5 + 1) M17)
set_option maxHeartbeats 4000000 in
set_option maxRecDepth 100000 in
theorem wB_X12_reduce_3 {G : Nat → Nat} {F : Nat} {x : mXT} {sz : Nat} {M0 : mM} (X : mCX G RX12 cX12_reduce 6 none "reduce" rmX12_reduce x) (hQ : mQV x M0 (sz, 0, 0)) : ∀ (n : Nat) (l0 : Nat) (l1 : Nat) (l2 : Int32) (l3 : Int32) (l4 : Nat) (l5 : Int32) (M : mM), B_X12_reduce_3 G F n l0 l1 l2 l3 l4 l5 M = some M0 → WW x (sz, 0, 0) M 3 [(0, .ref l0), (1, .ref l1), (2, .int l2), (3, .int l3), (4, .ref l4), (5, .int l5)] [] := by
  intro n
  induction n with
  | zero =>
    intro l0 l1 l2 l3 l4 l5 M h
    exact nomatch (show (none : Option mM) = some M0 from h)
  | succ n ih =>
    intro l0 l1 l2 l3 l4 l5 M h
    rw [B_X12_reduce_3] at h
    refine ww_iload 3 X dX12_reduce_3 5 rfl ?_
    refine ww_aload_n 5 X dX12_reduce_5 0 rfl rfl ?_
    obtain ⟨v6, e6, h⟩ := bO_some h
    refine ww_getI 6 X dX12_reduce_6 fG_X12_31 e6 ?_
    refine ww_icmp_ge 9 24 X dX12_reduce_9 (by decide) (fun q => ?_) (fun q => ?_)
    · replace h := (if_pos q).symm.trans h
      refine ww_iconst 24 X (v := (0 : Int32)) dX12_reduce_24 (by decide) ?_
      refine ww_istore 25 X dX12_reduce_25 (lv' := [(0, .ref l0), (1, .ref l1), (2, .int l2), (3, .int l3), (4, .ref l4), (5, .int (0 : Int32))]) (by decide) [1, 2, 3, 4, 5, 0] rfl ?_
      exact (wB_X12_reduce_27 X hQ F _ _ _ _ _ _ _ h)
    · replace h := (if_neg q).symm.trans h
      refine ww_aload 12 X dX12_reduce_12 4 rfl ?_
      refine ww_iload 14 X dX12_reduce_14 5 rfl ?_
      refine ww_iconst 16 X (v := (0 : Int32)) dX12_reduce_16 (by decide) ?_
      obtain ⟨M17, e17, h⟩ := bO_some h
      refine ww_iast 17 X dX12_reduce_17 e17 ?_
      refine ww_iinc 18 X dX12_reduce_18 (lv' := [(0, .ref l0), (1, .ref l1), (2, .int l2), (3, .int l3), (4, .ref l4), (5, .int (l5 + 1))]) 5 rfl rfl (by decide) [1, 2, 3, 4, 5, 0] rfl ?_
      refine ww_goto 21 3 X dX12_reduce_21 (by decide) ?_
      exact (ih _ _ _ _ _ _ _ h)
def P_X12_reduce (G : Nat → Nat) (F : Nat) (l0 : Nat) (l1 : Nat) (l2 : Int32) (l3 : Int32) (l4 : Nat) (M : mM) : Option mM :=
  B_X12_reduce_3 G F F l0 l1 l2 l3 l4 (0 : Int32) M
set_option maxHeartbeats 4000000 in
set_option maxRecDepth 100000 in
theorem wP_X12_reduce {G : Nat → Nat} {F : Nat} {x : mXT} {sz : Nat} {M0 : mM} (X : mCX G RX12 cX12_reduce 6 none "reduce" rmX12_reduce x) (hQ : mQV x M0 (sz, 0, 0)) {l0 : Nat} {l1 : Nat} {l2 : Int32} {l3 : Int32} {l4 : Nat} {M : mM} (h : P_X12_reduce G F l0 l1 l2 l3 l4 M = some M0) : WW x (sz, 0, 0) M 0 [(0, .ref l0), (1, .ref l1), (2, .int l2), (3, .int l3), (4, .ref l4)] [] := by
  unfold P_X12_reduce at h
  refine ww_iconst 0 X (v := (0 : Int32)) dX12_reduce_0 (by decide) ?_
  refine ww_istore 1 X dX12_reduce_1 (lv' := [(0, .ref l0), (1, .ref l1), (2, .int l2), (3, .int l3), (4, .ref l4), (5, .int (0 : Int32))]) (by decide) [1, 2, 3, 4, 5, 0] rfl ?_
  exact (wB_X12_reduce_3 X hQ F _ _ _ _ _ _ _ h)
theorem c_X12_reduce {G : Nat → Nat} {F sz : Nat} {M0 : mM} (l : Launch) (D : mD) (A : Nat → Prop) {l0 : Nat} {l1 : Nat} {l2 : Int32} {l3 : Int32} {l4 : Nat} {M : mM} (h : P_X12_reduce G F l0 l1 l2 l3 l4 M = some M0) : mMetV l D G A yX12_reduce cX12_reduce 6 none 2 50 0 0 [.ref l0, .ref l1, .int l2, .int l3, .ref l4] M sz M0 sz := mMetV_of l D G A (by decide) (Nat.le_of_ble_eq_true rfl) (fun x X hQ => wP_X12_reduce X hQ h)
/-! SealedTokensModel$Mod.add([I[I[I)V -/
theorem dX12_add_0 : decode cX12_add 0 = .ok (.lconst 0, 1) := by decide +kernel
theorem dX12_add_1 : decode cX12_add 1 = .ok (.lstore 4, 2) := by decide +kernel
theorem dX12_add_3 : decode cX12_add 3 = .ok (.iconst 0, 1) := by decide +kernel
theorem dX12_add_4 : decode cX12_add 4 = .ok (.istore 6, 2) := by decide +kernel
theorem dX12_add_6 : decode cX12_add 6 = .ok (.iload 6, 2) := by decide +kernel
theorem dX12_add_8 : decode cX12_add 8 = .ok (.aload_n 0, 1) := by decide +kernel
theorem dX12_add_9 : decode cX12_add 9 = .ok (.getfield 31, 3) := by decide +kernel
theorem dX12_add_12 : decode cX12_add 12 = .ok (.if_icmp .ge 47, 3) := by decide +kernel
theorem dX12_add_15 : decode cX12_add 15 = .ok (.aload_n 1, 1) := by decide +kernel
theorem dX12_add_16 : decode cX12_add 16 = .ok (.iload 6, 2) := by decide +kernel
theorem dX12_add_18 : decode cX12_add 18 = .ok (.iaload, 1) := by decide +kernel
theorem dX12_add_19 : decode cX12_add 19 = .ok (.i2l, 1) := by decide +kernel
theorem dX12_add_20 : decode cX12_add 20 = .ok (.ldc2_w 47, 3) := by decide +kernel
theorem dX12_add_23 : decode cX12_add 23 = .ok (.land, 1) := by decide +kernel
theorem dX12_add_24 : decode cX12_add 24 = .ok (.aload_n 2, 1) := by decide +kernel
theorem dX12_add_25 : decode cX12_add 25 = .ok (.iload 6, 2) := by decide +kernel
theorem dX12_add_27 : decode cX12_add 27 = .ok (.iaload, 1) := by decide +kernel
theorem dX12_add_28 : decode cX12_add 28 = .ok (.i2l, 1) := by decide +kernel
theorem dX12_add_29 : decode cX12_add 29 = .ok (.ldc2_w 47, 3) := by decide +kernel
theorem dX12_add_32 : decode cX12_add 32 = .ok (.land, 1) := by decide +kernel
theorem dX12_add_33 : decode cX12_add 33 = .ok (.ladd, 1) := by decide +kernel
theorem dX12_add_34 : decode cX12_add 34 = .ok (.lload 4, 2) := by decide +kernel
theorem dX12_add_36 : decode cX12_add 36 = .ok (.ladd, 1) := by decide +kernel
theorem dX12_add_37 : decode cX12_add 37 = .ok (.lstore 7, 2) := by decide +kernel
theorem dX12_add_39 : decode cX12_add 39 = .ok (.aload_n 3, 1) := by decide +kernel
theorem dX12_add_40 : decode cX12_add 40 = .ok (.iload 6, 2) := by decide +kernel
theorem dX12_add_42 : decode cX12_add 42 = .ok (.lload 7, 2) := by decide +kernel
theorem dX12_add_44 : decode cX12_add 44 = .ok (.l2i, 1) := by decide +kernel
theorem dX12_add_45 : decode cX12_add 45 = .ok (.iastore, 1) := by decide +kernel
theorem dX12_add_46 : decode cX12_add 46 = .ok (.lload 7, 2) := by decide +kernel
theorem dX12_add_48 : decode cX12_add 48 = .ok (.bipush 32, 2) := by decide +kernel
theorem dX12_add_50 : decode cX12_add 50 = .ok (.lushr, 1) := by decide +kernel
theorem dX12_add_51 : decode cX12_add 51 = .ok (.lstore 4, 2) := by decide +kernel
theorem dX12_add_53 : decode cX12_add 53 = .ok (.iinc 6 1, 3) := by decide +kernel
theorem dX12_add_56 : decode cX12_add 56 = .ok (.goto (-50), 3) := by decide +kernel
theorem dX12_add_59 : decode cX12_add 59 = .ok (.lload 4, 2) := by decide +kernel
theorem dX12_add_61 : decode cX12_add 61 = .ok (.lconst 1, 1) := by decide +kernel
theorem dX12_add_62 : decode cX12_add 62 = .ok (.lcmp, 1) := by decide +kernel
theorem dX12_add_63 : decode cX12_add 63 = .ok (.ifCond .eq 15, 3) := by decide +kernel
theorem dX12_add_66 : decode cX12_add 66 = .ok (.aload_n 0, 1) := by decide +kernel
theorem dX12_add_67 : decode cX12_add 67 = .ok (.aload_n 3, 1) := by decide +kernel
theorem dX12_add_68 : decode cX12_add 68 = .ok (.aload_n 0, 1) := by decide +kernel
theorem dX12_add_69 : decode cX12_add 69 = .ok (.getfield 7, 3) := by decide +kernel
theorem dX12_add_72 : decode cX12_add 72 = .ok (.invokevirtual 49, 3) := by decide +kernel
theorem dX12_add_75 : decode cX12_add 75 = .ok (.ifCond .lt 8, 3) := by decide +kernel
theorem dX12_add_78 : decode cX12_add 78 = .ok (.aload_n 0, 1) := by decide +kernel
theorem dX12_add_79 : decode cX12_add 79 = .ok (.aload_n 3, 1) := by decide +kernel
theorem dX12_add_80 : decode cX12_add 80 = .ok (.invokevirtual 53, 3) := by decide +kernel
theorem dX12_add_83 : decode cX12_add 83 = .ok (.return_, 1) := by decide +kernel
abbrev rmX12_add : Room := { frames := 1, cells := 0, slots := 0, locals := 26 }
def B_X12_add_6 (G : Nat → Nat) (F : Nat) : Nat → Nat → Nat → Nat → Nat → Int64 → Int32 → mM → Option mM
  | 0, _, _, _, _, _, _, _ => none
  | n + 1, l0, l1, l2, l3, l4, l6, M =>
  bO (gfI M l0 12 1) fun v9 =>
  if v9 ≤ l6 then (if (lg_cmp l4 (1 : Int64)) = 0 then (bO (rcv M l0 12) fun _ =>
  bO (P_X12_less G F l0 l3 M) fun M80 =>
  some M80)
  else (bO (gfR M l0 12 0) fun v69 =>
  bO (rcv M l0 12) fun _ =>
  bP (P_X12_order G F l0 l3 v69 M) fun v72 M72 =>
  if v72 < 0 then (some M72)
  else (bO (rcv M72 l0 12) fun _ =>
  bO (P_X12_less G F l0 l3 M72) fun M80 =>
  some M80)))
  else (bO (aI M 0 l1 l6) fun v18 =>
  bO (aI M 0 l2 l6) fun v27 =>
  bO (sI M 0 l3 l6 (((((v18.toInt64) &&& (4294967295 : Int64)) + ((v27.toInt64) &&& (4294967295 : Int64))) + l4).toInt32)) fun M45 =>
  B_X12_add_6 G F n l0 l1 l2 l3 (ushL ((((v18.toInt64) &&& (4294967295 : Int64)) + ((v27.toInt64) &&& (4294967295 : Int64))) + l4) (32 : Int32)) (l6 + 1) M45)
set_option maxHeartbeats 4000000 in
set_option maxRecDepth 100000 in
theorem wB_X12_add_6 {G : Nat → Nat} {F : Nat} {x : mXT} {sz : Nat} {M0 : mM} (X : mCX G RX12 cX12_add 9 none "add" rmX12_add x) (hQ : mQV x M0 (sz, 0, 0)) : ∀ (n : Nat) (l0 : Nat) (l1 : Nat) (l2 : Nat) (l3 : Nat) (l4 : Int64) (l6 : Int32) (M : mM), B_X12_add_6 G F n l0 l1 l2 l3 l4 l6 M = some M0 → WW x (sz, 0, 0) M 6 [(0, .ref l0), (1, .ref l1), (2, .ref l2), (3, .ref l3), (4, .long l4), (6, .int l6)] [] := by
  intro n
  induction n with
  | zero =>
    intro l0 l1 l2 l3 l4 l6 M h
    exact nomatch (show (none : Option mM) = some M0 from h)
  | succ n ih =>
    intro l0 l1 l2 l3 l4 l6 M h
    rw [B_X12_add_6] at h
    refine ww_iload 6 X dX12_add_6 5 rfl ?_
    refine ww_aload_n 8 X dX12_add_8 0 rfl rfl ?_
    obtain ⟨v9, e9, h⟩ := bO_some h
    refine ww_getI 9 X dX12_add_9 fG_X12_31 e9 ?_
    refine ww_icmp_ge 12 59 X dX12_add_12 (by decide) (fun q => ?_) (fun q => ?_)
    · replace h := (if_pos q).symm.trans h
      refine ww_lload 59 X dX12_add_59 4 rfl ?_
      refine ww_lconst 61 X (v := (1 : Int64)) dX12_add_61 (by decide) ?_
      refine ww_lcmp 62 X dX12_add_62 ?_
      refine ww_if_eq 63 78 X dX12_add_63 (by decide) (fun q => ?_) (fun q => ?_)
      · replace h := (if_pos q).symm.trans h
        refine ww_aload_n 78 X dX12_add_78 0 rfl rfl ?_
        refine ww_aload_n 79 X dX12_add_79 3 rfl rfl ?_
        obtain ⟨_, f80, h⟩ := bO_some h
        obtain ⟨M80, e80, h⟩ := bO_some h
        refine ww_callVV0 80 X dX12_add_80 mY_X12_less mL_X12_53 (rcv_spec f80) ⟨_, _, rfl⟩ (by decide) (As := [.ref l3]) (rest := []) rfl rfl ⟨Nat.le_of_ble_eq_true rfl, Nat.le_of_ble_eq_true rfl⟩ (Nat.le_of_ble_eq_true rfl) (fun l D A => c_X12_less l D A e80) ?_
        exact ww_vretE 83 X hQ dX12_add_83 h
      · replace h := (if_neg q).symm.trans h
        refine ww_aload_n 66 X dX12_add_66 0 rfl rfl ?_
        refine ww_aload_n 67 X dX12_add_67 3 rfl rfl ?_
        refine ww_aload_n 68 X dX12_add_68 0 rfl rfl ?_
        obtain ⟨v69, e69, h⟩ := bO_some h
        refine ww_getR 69 X dX12_add_69 fG_X12_7 e69 ?_
        obtain ⟨_, f72, h⟩ := bO_some h
        obtain ⟨v72, M72, e72, h⟩ := bP_some h
        refine ww_callVI0 72 X dX12_add_72 mY_X12_order mL_X12_49 (rcv_spec f72) ⟨_, _, rfl⟩ (by decide) (As := [.ref l3, .ref v69]) (rest := []) rfl rfl ⟨Nat.le_of_ble_eq_true rfl, Nat.le_of_ble_eq_true rfl⟩ (Nat.le_of_ble_eq_true rfl) (fun l D A => c_X12_order l D A e72) ?_
        refine ww_if_lt 75 83 X dX12_add_75 (by decide) (fun q => ?_) (fun q => ?_)
        · replace h := (if_pos q).symm.trans h
          exact ww_vretE 83 X hQ dX12_add_83 h
        · replace h := (if_neg q).symm.trans h
          refine ww_aload_n 78 X dX12_add_78 0 rfl rfl ?_
          refine ww_aload_n 79 X dX12_add_79 3 rfl rfl ?_
          obtain ⟨_, f80, h⟩ := bO_some h
          obtain ⟨M80, e80, h⟩ := bO_some h
          refine ww_callVV0 80 X dX12_add_80 mY_X12_less mL_X12_53 (rcv_spec f80) ⟨_, _, rfl⟩ (by decide) (As := [.ref l3]) (rest := []) rfl rfl ⟨Nat.le_of_ble_eq_true rfl, Nat.le_of_ble_eq_true rfl⟩ (Nat.le_of_ble_eq_true rfl) (fun l D A => c_X12_less l D A e80) ?_
          exact ww_vretE 83 X hQ dX12_add_83 h
    · replace h := (if_neg q).symm.trans h
      refine ww_aload_n 15 X dX12_add_15 1 rfl rfl ?_
      refine ww_iload 16 X dX12_add_16 5 rfl ?_
      obtain ⟨v18, e18, h⟩ := bO_some h
      refine ww_iald 18 X dX12_add_18 e18 ?_
      refine ww_i2l 19 X dX12_add_19 ?_
      refine ww_ldc2 20 X (v := (4294967295 : Int64)) dX12_add_20 kL_X12_47 ?_
      refine ww_land 23 X dX12_add_23 ?_
      refine ww_aload_n 24 X dX12_add_24 2 rfl rfl ?_
      refine ww_iload 25 X dX12_add_25 5 rfl ?_
      obtain ⟨v27, e27, h⟩ := bO_some h
      refine ww_iald 27 X dX12_add_27 e27 ?_
      refine ww_i2l 28 X dX12_add_28 ?_
      refine ww_ldc2 29 X (v := (4294967295 : Int64)) dX12_add_29 kL_X12_47 ?_
      refine ww_land 32 X dX12_add_32 ?_
      refine ww_ladd 33 X dX12_add_33 ?_
      refine ww_lload 34 X dX12_add_34 4 rfl ?_
      refine ww_ladd 36 X dX12_add_36 ?_
      refine ww_lstore 37 X dX12_add_37 (lv' := [(0, .ref l0), (1, .ref l1), (2, .ref l2), (3, .ref l3), (4, .long l4), (6, .int l6), (7, .long ((((v18.toInt64) &&& (4294967295 : Int64)) + ((v27.toInt64) &&& (4294967295 : Int64))) + l4))]) (by decide) [1, 2, 3, 4, 5, 6, 0] rfl ?_
      refine ww_aload_n 39 X dX12_add_39 3 rfl rfl ?_
      refine ww_iload 40 X dX12_add_40 5 rfl ?_
      refine ww_lload 42 X dX12_add_42 6 rfl ?_
      refine ww_l2i 44 X dX12_add_44 ?_
      obtain ⟨M45, e45, h⟩ := bO_some h
      refine ww_iast 45 X dX12_add_45 e45 ?_
      refine ww_lload 46 X dX12_add_46 6 rfl ?_
      refine ww_bipush 48 X (v := (32 : Int32)) dX12_add_48 (by decide) ?_
      refine ww_lushr 50 X dX12_add_50 ?_
      refine ww_lstore 51 X dX12_add_51 (lv' := [(0, .ref l0), (1, .ref l1), (2, .ref l2), (3, .ref l3), (4, .long (ushL ((((v18.toInt64) &&& (4294967295 : Int64)) + ((v27.toInt64) &&& (4294967295 : Int64))) + l4) (32 : Int32))), (6, .int l6), (7, .long ((((v18.toInt64) &&& (4294967295 : Int64)) + ((v27.toInt64) &&& (4294967295 : Int64))) + l4))]) (by decide) [1, 2, 3, 4, 0, 5, 6] rfl ?_
      refine ww_iinc 53 X dX12_add_53 (lv' := [(0, .ref l0), (1, .ref l1), (2, .ref l2), (3, .ref l3), (4, .long (ushL ((((v18.toInt64) &&& (4294967295 : Int64)) + ((v27.toInt64) &&& (4294967295 : Int64))) + l4) (32 : Int32))), (6, .int (l6 + 1)), (7, .long ((((v18.toInt64) &&& (4294967295 : Int64)) + ((v27.toInt64) &&& (4294967295 : Int64))) + l4))]) 5 rfl rfl (by decide) [1, 2, 3, 4, 5, 0, 6] rfl ?_
      refine ww_goto 56 6 X dX12_add_56 (by decide) ?_
      exact ww_sub [0, 1, 2, 3, 4, 5] rfl (ih _ _ _ _ _ _ _ h)
def P_X12_add (G : Nat → Nat) (F : Nat) (l0 : Nat) (l1 : Nat) (l2 : Nat) (l3 : Nat) (M : mM) : Option mM :=
  B_X12_add_6 G F F l0 l1 l2 l3 (0 : Int64) (0 : Int32) M
set_option maxHeartbeats 4000000 in
set_option maxRecDepth 100000 in
theorem wP_X12_add {G : Nat → Nat} {F : Nat} {x : mXT} {sz : Nat} {M0 : mM} (X : mCX G RX12 cX12_add 9 none "add" rmX12_add x) (hQ : mQV x M0 (sz, 0, 0)) {l0 : Nat} {l1 : Nat} {l2 : Nat} {l3 : Nat} {M : mM} (h : P_X12_add G F l0 l1 l2 l3 M = some M0) : WW x (sz, 0, 0) M 0 [(0, .ref l0), (1, .ref l1), (2, .ref l2), (3, .ref l3)] [] := by
  unfold P_X12_add at h
  refine ww_lconst 0 X (v := (0 : Int64)) dX12_add_0 (by decide) ?_
  refine ww_lstore 1 X dX12_add_1 (lv' := [(0, .ref l0), (1, .ref l1), (2, .ref l2), (3, .ref l3), (4, .long (0 : Int64))]) (by decide) [1, 2, 3, 4, 0] rfl ?_
  refine ww_iconst 3 X (v := (0 : Int32)) dX12_add_3 (by decide) ?_
  refine ww_istore 4 X dX12_add_4 (lv' := [(0, .ref l0), (1, .ref l1), (2, .ref l2), (3, .ref l3), (4, .long (0 : Int64)), (6, .int (0 : Int32))]) (by decide) [1, 2, 3, 4, 5, 0] rfl ?_
  exact (wB_X12_add_6 X hQ F _ _ _ _ _ _ _ h)
theorem c_X12_add {G : Nat → Nat} {F sz : Nat} {M0 : mM} (l : Launch) (D : mD) (A : Nat → Prop) {l0 : Nat} {l1 : Nat} {l2 : Nat} {l3 : Nat} {M : mM} (h : P_X12_add G F l0 l1 l2 l3 M = some M0) : mMetV l D G A yX12_add cX12_add 9 none 1 26 0 0 [.ref l0, .ref l1, .ref l2, .ref l3] M sz M0 sz := mMetV_of l D G A (by decide) (Nat.le_of_ble_eq_true rfl) (fun x X hQ => wP_X12_add X hQ h)
/-! SealedTokensModel$Mod.subtract([I[I[I)V -/
theorem dX12_subtract_0 : decode cX12_subtract 0 = .ok (.lconst 0, 1) := by decide +kernel
theorem dX12_subtract_1 : decode cX12_subtract 1 = .ok (.lstore 4, 2) := by decide +kernel
theorem dX12_subtract_3 : decode cX12_subtract 3 = .ok (.iconst 0, 1) := by decide +kernel
theorem dX12_subtract_4 : decode cX12_subtract 4 = .ok (.istore 6, 2) := by decide +kernel
theorem dX12_subtract_6 : decode cX12_subtract 6 = .ok (.iload 6, 2) := by decide +kernel
theorem dX12_subtract_8 : decode cX12_subtract 8 = .ok (.aload_n 0, 1) := by decide +kernel
theorem dX12_subtract_9 : decode cX12_subtract 9 = .ok (.getfield 31, 3) := by decide +kernel
theorem dX12_subtract_12 : decode cX12_subtract 12 = .ok (.if_icmp .ge 54, 3) := by decide +kernel
theorem dX12_subtract_15 : decode cX12_subtract 15 = .ok (.aload_n 1, 1) := by decide +kernel
theorem dX12_subtract_16 : decode cX12_subtract 16 = .ok (.iload 6, 2) := by decide +kernel
theorem dX12_subtract_18 : decode cX12_subtract 18 = .ok (.iaload, 1) := by decide +kernel
theorem dX12_subtract_19 : decode cX12_subtract 19 = .ok (.i2l, 1) := by decide +kernel
theorem dX12_subtract_20 : decode cX12_subtract 20 = .ok (.ldc2_w 47, 3) := by decide +kernel
theorem dX12_subtract_23 : decode cX12_subtract 23 = .ok (.land, 1) := by decide +kernel
theorem dX12_subtract_24 : decode cX12_subtract 24 = .ok (.aload_n 2, 1) := by decide +kernel
theorem dX12_subtract_25 : decode cX12_subtract 25 = .ok (.iload 6, 2) := by decide +kernel
theorem dX12_subtract_27 : decode cX12_subtract 27 = .ok (.iaload, 1) := by decide +kernel
theorem dX12_subtract_28 : decode cX12_subtract 28 = .ok (.i2l, 1) := by decide +kernel
theorem dX12_subtract_29 : decode cX12_subtract 29 = .ok (.ldc2_w 47, 3) := by decide +kernel
theorem dX12_subtract_32 : decode cX12_subtract 32 = .ok (.land, 1) := by decide +kernel
theorem dX12_subtract_33 : decode cX12_subtract 33 = .ok (.lsub, 1) := by decide +kernel
theorem dX12_subtract_34 : decode cX12_subtract 34 = .ok (.lload 4, 2) := by decide +kernel
theorem dX12_subtract_36 : decode cX12_subtract 36 = .ok (.lsub, 1) := by decide +kernel
theorem dX12_subtract_37 : decode cX12_subtract 37 = .ok (.lstore 7, 2) := by decide +kernel
theorem dX12_subtract_39 : decode cX12_subtract 39 = .ok (.aload_n 3, 1) := by decide +kernel
theorem dX12_subtract_40 : decode cX12_subtract 40 = .ok (.iload 6, 2) := by decide +kernel
theorem dX12_subtract_42 : decode cX12_subtract 42 = .ok (.lload 7, 2) := by decide +kernel
theorem dX12_subtract_44 : decode cX12_subtract 44 = .ok (.l2i, 1) := by decide +kernel
theorem dX12_subtract_45 : decode cX12_subtract 45 = .ok (.iastore, 1) := by decide +kernel
theorem dX12_subtract_46 : decode cX12_subtract 46 = .ok (.lload 7, 2) := by decide +kernel
theorem dX12_subtract_48 : decode cX12_subtract 48 = .ok (.lconst 0, 1) := by decide +kernel
theorem dX12_subtract_49 : decode cX12_subtract 49 = .ok (.lcmp, 1) := by decide +kernel
theorem dX12_subtract_50 : decode cX12_subtract 50 = .ok (.ifCond .ge 7, 3) := by decide +kernel
theorem dX12_subtract_53 : decode cX12_subtract 53 = .ok (.lconst 1, 1) := by decide +kernel
theorem dX12_subtract_54 : decode cX12_subtract 54 = .ok (.goto 4, 3) := by decide +kernel
theorem dX12_subtract_57 : decode cX12_subtract 57 = .ok (.lconst 0, 1) := by decide +kernel
theorem dX12_subtract_58 : decode cX12_subtract 58 = .ok (.lstore 4, 2) := by decide +kernel
theorem dX12_subtract_60 : decode cX12_subtract 60 = .ok (.iinc 6 1, 3) := by decide +kernel
theorem dX12_subtract_63 : decode cX12_subtract 63 = .ok (.goto (-57), 3) := by decide +kernel
theorem dX12_subtract_66 : decode cX12_subtract 66 = .ok (.lconst 0, 1) := by decide +kernel
theorem dX12_subtract_67 : decode cX12_subtract 67 = .ok (.lstore 6, 2) := by decide +kernel
theorem dX12_subtract_69 : decode cX12_subtract 69 = .ok (.iconst 0, 1) := by decide +kernel
theorem dX12_subtract_70 : decode cX12_subtract 70 = .ok (.istore 8, 2) := by decide +kernel
theorem dX12_subtract_72 : decode cX12_subtract 72 = .ok (.iload 8, 2) := by decide +kernel
theorem dX12_subtract_74 : decode cX12_subtract 74 = .ok (.aload_n 0, 1) := by decide +kernel
theorem dX12_subtract_75 : decode cX12_subtract 75 = .ok (.getfield 31, 3) := by decide +kernel
theorem dX12_subtract_78 : decode cX12_subtract 78 = .ok (.if_icmp .ge 57, 3) := by decide +kernel
theorem dX12_subtract_81 : decode cX12_subtract 81 = .ok (.lload 4, 2) := by decide +kernel
theorem dX12_subtract_83 : decode cX12_subtract 83 = .ok (.lconst 1, 1) := by decide +kernel
theorem dX12_subtract_84 : decode cX12_subtract 84 = .ok (.lcmp, 1) := by decide +kernel
theorem dX12_subtract_85 : decode cX12_subtract 85 = .ok (.ifCond .ne 50, 3) := by decide +kernel
theorem dX12_subtract_88 : decode cX12_subtract 88 = .ok (.aload_n 3, 1) := by decide +kernel
theorem dX12_subtract_89 : decode cX12_subtract 89 = .ok (.iload 8, 2) := by decide +kernel
theorem dX12_subtract_91 : decode cX12_subtract 91 = .ok (.iaload, 1) := by decide +kernel
theorem dX12_subtract_92 : decode cX12_subtract 92 = .ok (.i2l, 1) := by decide +kernel
theorem dX12_subtract_93 : decode cX12_subtract 93 = .ok (.ldc2_w 47, 3) := by decide +kernel
theorem dX12_subtract_96 : decode cX12_subtract 96 = .ok (.land, 1) := by decide +kernel
theorem dX12_subtract_97 : decode cX12_subtract 97 = .ok (.aload_n 0, 1) := by decide +kernel
theorem dX12_subtract_98 : decode cX12_subtract 98 = .ok (.getfield 7, 3) := by decide +kernel
theorem dX12_subtract_101 : decode cX12_subtract 101 = .ok (.iload 8, 2) := by decide +kernel
theorem dX12_subtract_103 : decode cX12_subtract 103 = .ok (.iaload, 1) := by decide +kernel
theorem dX12_subtract_104 : decode cX12_subtract 104 = .ok (.i2l, 1) := by decide +kernel
theorem dX12_subtract_105 : decode cX12_subtract 105 = .ok (.ldc2_w 47, 3) := by decide +kernel
theorem dX12_subtract_108 : decode cX12_subtract 108 = .ok (.land, 1) := by decide +kernel
theorem dX12_subtract_109 : decode cX12_subtract 109 = .ok (.ladd, 1) := by decide +kernel
theorem dX12_subtract_110 : decode cX12_subtract 110 = .ok (.lload 6, 2) := by decide +kernel
theorem dX12_subtract_112 : decode cX12_subtract 112 = .ok (.ladd, 1) := by decide +kernel
theorem dX12_subtract_113 : decode cX12_subtract 113 = .ok (.lstore 9, 2) := by decide +kernel
theorem dX12_subtract_115 : decode cX12_subtract 115 = .ok (.aload_n 3, 1) := by decide +kernel
theorem dX12_subtract_116 : decode cX12_subtract 116 = .ok (.iload 8, 2) := by decide +kernel
theorem dX12_subtract_118 : decode cX12_subtract 118 = .ok (.lload 9, 2) := by decide +kernel
theorem dX12_subtract_120 : decode cX12_subtract 120 = .ok (.l2i, 1) := by decide +kernel
theorem dX12_subtract_121 : decode cX12_subtract 121 = .ok (.iastore, 1) := by decide +kernel
theorem dX12_subtract_122 : decode cX12_subtract 122 = .ok (.lload 9, 2) := by decide +kernel
theorem dX12_subtract_124 : decode cX12_subtract 124 = .ok (.bipush 32, 2) := by decide +kernel
theorem dX12_subtract_126 : decode cX12_subtract 126 = .ok (.lushr, 1) := by decide +kernel
theorem dX12_subtract_127 : decode cX12_subtract 127 = .ok (.lstore 6, 2) := by decide +kernel
theorem dX12_subtract_129 : decode cX12_subtract 129 = .ok (.iinc 8 1, 3) := by decide +kernel
theorem dX12_subtract_132 : decode cX12_subtract 132 = .ok (.goto (-60), 3) := by decide +kernel
theorem dX12_subtract_135 : decode cX12_subtract 135 = .ok (.return_, 1) := by decide +kernel
abbrev rmX12_subtract : Room := { frames := 0, cells := 0, slots := 0, locals := 0 }
def B_X12_subtract_72 (G : Nat → Nat) (F : Nat) : Nat → Nat → Nat → Int64 → Int64 → Int32 → mM → Option mM
  | 0, _, _, _, _, _, _ => none
  | n + 1, l0, l3, l4, l6, l8, M =>
  bO (gfI M l0 12 1) fun v75 =>
  if v75 ≤ l8 then (some M)
  else (if (lg_cmp l4 (1 : Int64)) = 0 then (bO (aI M 0 l3 l8) fun v91 =>
  bO (gfR M l0 12 0) fun v98 =>
  bO (aI M 0 v98 l8) fun v103 =>
  bO (sI M 0 l3 l8 (((((v91.toInt64) &&& (4294967295 : Int64)) + ((v103.toInt64) &&& (4294967295 : Int64))) + l6).toInt32)) fun M121 =>
  B_X12_subtract_72 G F n l0 l3 l4 (ushL ((((v91.toInt64) &&& (4294967295 : Int64)) + ((v103.toInt64) &&& (4294967295 : Int64))) + l6) (32 : Int32)) (l8 + 1) M121)
  else (some M))
set_option maxHeartbeats 4000000 in
set_option maxRecDepth 100000 in
theorem wB_X12_subtract_72 {G : Nat → Nat} {F : Nat} {x : mXT} {sz : Nat} {M0 : mM} (X : mCX G RX12 cX12_subtract 11 none "subtract" rmX12_subtract x) (hQ : mQV x M0 (sz, 0, 0)) : ∀ (n : Nat) (l0 : Nat) (l3 : Nat) (l4 : Int64) (l6 : Int64) (l8 : Int32) (M : mM), B_X12_subtract_72 G F n l0 l3 l4 l6 l8 M = some M0 → WW x (sz, 0, 0) M 72 [(0, .ref l0), (3, .ref l3), (4, .long l4), (6, .long l6), (8, .int l8)] [] := by
  intro n
  induction n with
  | zero =>
    intro l0 l3 l4 l6 l8 M h
    exact nomatch (show (none : Option mM) = some M0 from h)
  | succ n ih =>
    intro l0 l3 l4 l6 l8 M h
    rw [B_X12_subtract_72] at h
    refine ww_iload 72 X dX12_subtract_72 4 rfl ?_
    refine ww_aload_n 74 X dX12_subtract_74 0 rfl rfl ?_
    obtain ⟨v75, e75, h⟩ := bO_some h
    refine ww_getI 75 X dX12_subtract_75 fG_X12_31 e75 ?_
    refine ww_icmp_ge 78 135 X dX12_subtract_78 (by decide) (fun q => ?_) (fun q => ?_)
    · replace h := (if_pos q).symm.trans h
      exact ww_vretE 135 X hQ dX12_subtract_135 h
    · replace h := (if_neg q).symm.trans h
      refine ww_lload 81 X dX12_subtract_81 2 rfl ?_
      refine ww_lconst 83 X (v := (1 : Int64)) dX12_subtract_83 (by decide) ?_
      refine ww_lcmp 84 X dX12_subtract_84 ?_
      refine ww_if_ne 85 135 X dX12_subtract_85 (by decide) (fun q => ?_) (fun q => ?_)
      · replace h := (if_neg q).symm.trans h
        exact ww_vretE 135 X hQ dX12_subtract_135 h
      · replace h := (if_pos q).symm.trans h
        refine ww_aload_n 88 X dX12_subtract_88 1 rfl rfl ?_
        refine ww_iload 89 X dX12_subtract_89 4 rfl ?_
        obtain ⟨v91, e91, h⟩ := bO_some h
        refine ww_iald 91 X dX12_subtract_91 e91 ?_
        refine ww_i2l 92 X dX12_subtract_92 ?_
        refine ww_ldc2 93 X (v := (4294967295 : Int64)) dX12_subtract_93 kL_X12_47 ?_
        refine ww_land 96 X dX12_subtract_96 ?_
        refine ww_aload_n 97 X dX12_subtract_97 0 rfl rfl ?_
        obtain ⟨v98, e98, h⟩ := bO_some h
        refine ww_getR 98 X dX12_subtract_98 fG_X12_7 e98 ?_
        refine ww_iload 101 X dX12_subtract_101 4 rfl ?_
        obtain ⟨v103, e103, h⟩ := bO_some h
        refine ww_iald 103 X dX12_subtract_103 e103 ?_
        refine ww_i2l 104 X dX12_subtract_104 ?_
        refine ww_ldc2 105 X (v := (4294967295 : Int64)) dX12_subtract_105 kL_X12_47 ?_
        refine ww_land 108 X dX12_subtract_108 ?_
        refine ww_ladd 109 X dX12_subtract_109 ?_
        refine ww_lload 110 X dX12_subtract_110 3 rfl ?_
        refine ww_ladd 112 X dX12_subtract_112 ?_
        refine ww_lstore 113 X dX12_subtract_113 (lv' := [(0, .ref l0), (3, .ref l3), (4, .long l4), (6, .long l6), (8, .int l8), (9, .long ((((v91.toInt64) &&& (4294967295 : Int64)) + ((v103.toInt64) &&& (4294967295 : Int64))) + l6))]) (by decide) [1, 2, 3, 4, 5, 0] rfl ?_
        refine ww_aload_n 115 X dX12_subtract_115 1 rfl rfl ?_
        refine ww_iload 116 X dX12_subtract_116 4 rfl ?_
        refine ww_lload 118 X dX12_subtract_118 5 rfl ?_
        refine ww_l2i 120 X dX12_subtract_120 ?_
        obtain ⟨M121, e121, h⟩ := bO_some h
        refine ww_iast 121 X dX12_subtract_121 e121 ?_
        refine ww_lload 122 X dX12_subtract_122 5 rfl ?_
        refine ww_bipush 124 X (v := (32 : Int32)) dX12_subtract_124 (by decide) ?_
        refine ww_lushr 126 X dX12_subtract_126 ?_
        refine ww_lstore 127 X dX12_subtract_127 (lv' := [(0, .ref l0), (3, .ref l3), (4, .long l4), (6, .long (ushL ((((v91.toInt64) &&& (4294967295 : Int64)) + ((v103.toInt64) &&& (4294967295 : Int64))) + l6) (32 : Int32))), (8, .int l8), (9, .long ((((v91.toInt64) &&& (4294967295 : Int64)) + ((v103.toInt64) &&& (4294967295 : Int64))) + l6))]) (by decide) [1, 2, 3, 0, 4, 5] rfl ?_
        refine ww_iinc 129 X dX12_subtract_129 (lv' := [(0, .ref l0), (3, .ref l3), (4, .long l4), (6, .long (ushL ((((v91.toInt64) &&& (4294967295 : Int64)) + ((v103.toInt64) &&& (4294967295 : Int64))) + l6) (32 : Int32))), (8, .int (l8 + 1)), (9, .long ((((v91.toInt64) &&& (4294967295 : Int64)) + ((v103.toInt64) &&& (4294967295 : Int64))) + l6))]) 4 rfl rfl (by decide) [1, 2, 3, 4, 0, 5] rfl ?_
        refine ww_goto 132 72 X dX12_subtract_132 (by decide) ?_
        exact ww_sub [0, 1, 2, 3, 4] rfl (ih _ _ _ _ _ _ h)
def B_X12_subtract_6 (G : Nat → Nat) (F : Nat) : Nat → Nat → Nat → Nat → Nat → Int64 → Int32 → mM → Option mM
  | 0, _, _, _, _, _, _, _ => none
  | n + 1, l0, l1, l2, l3, l4, l6, M =>
  bO (gfI M l0 12 1) fun v9 =>
  if v9 ≤ l6 then (B_X12_subtract_72 G F F l0 l3 l4 (0 : Int64) (0 : Int32) M)
  else (bO (aI M 0 l1 l6) fun v18 =>
  bO (aI M 0 l2 l6) fun v27 =>
  bO (sI M 0 l3 l6 (((((v18.toInt64) &&& (4294967295 : Int64)) - ((v27.toInt64) &&& (4294967295 : Int64))) - l4).toInt32)) fun M45 =>
  if 0 ≤ (lg_cmp ((((v18.toInt64) &&& (4294967295 : Int64)) - ((v27.toInt64) &&& (4294967295 : Int64))) - l4) (0 : Int64)) then (B_X12_subtract_6 G F n l0 l1 l2 l3 (0 : Int64) (l6 + 1) M45)
  else (B_X12_subtract_6 G F n l0 l1 l2 l3 (1 : Int64) (l6 + 1) M45))
set_option maxHeartbeats 4000000 in
set_option maxRecDepth 100000 in
theorem wB_X12_subtract_6 {G : Nat → Nat} {F : Nat} {x : mXT} {sz : Nat} {M0 : mM} (X : mCX G RX12 cX12_subtract 11 none "subtract" rmX12_subtract x) (hQ : mQV x M0 (sz, 0, 0)) : ∀ (n : Nat) (l0 : Nat) (l1 : Nat) (l2 : Nat) (l3 : Nat) (l4 : Int64) (l6 : Int32) (M : mM), B_X12_subtract_6 G F n l0 l1 l2 l3 l4 l6 M = some M0 → WW x (sz, 0, 0) M 6 [(0, .ref l0), (1, .ref l1), (2, .ref l2), (3, .ref l3), (4, .long l4), (6, .int l6)] [] := by
  intro n
  induction n with
  | zero =>
    intro l0 l1 l2 l3 l4 l6 M h
    exact nomatch (show (none : Option mM) = some M0 from h)
  | succ n ih =>
    intro l0 l1 l2 l3 l4 l6 M h
    rw [B_X12_subtract_6] at h
    refine ww_iload 6 X dX12_subtract_6 5 rfl ?_
    refine ww_aload_n 8 X dX12_subtract_8 0 rfl rfl ?_
    obtain ⟨v9, e9, h⟩ := bO_some h
    refine ww_getI 9 X dX12_subtract_9 fG_X12_31 e9 ?_
    refine ww_icmp_ge 12 66 X dX12_subtract_12 (by decide) (fun q => ?_) (fun q => ?_)
    · replace h := (if_pos q).symm.trans h
      refine ww_lconst 66 X (v := (0 : Int64)) dX12_subtract_66 (by decide) ?_
      refine ww_lstore 67 X dX12_subtract_67 (lv' := [(0, .ref l0), (1, .ref l1), (2, .ref l2), (3, .ref l3), (4, .long l4), (6, .long (0 : Int64))]) (by decide) [1, 2, 3, 4, 5, 0] rfl ?_
      refine ww_iconst 69 X (v := (0 : Int32)) dX12_subtract_69 (by decide) ?_
      refine ww_istore 70 X dX12_subtract_70 (lv' := [(0, .ref l0), (1, .ref l1), (2, .ref l2), (3, .ref l3), (4, .long l4), (6, .long (0 : Int64)), (8, .int (0 : Int32))]) (by decide) [1, 2, 3, 4, 5, 6, 0] rfl ?_
      exact ww_sub [0, 3, 4, 5, 6] rfl (wB_X12_subtract_72 X hQ F _ _ _ _ _ _ h)
    · replace h := (if_neg q).symm.trans h
      refine ww_aload_n 15 X dX12_subtract_15 1 rfl rfl ?_
      refine ww_iload 16 X dX12_subtract_16 5 rfl ?_
      obtain ⟨v18, e18, h⟩ := bO_some h
      refine ww_iald 18 X dX12_subtract_18 e18 ?_
      refine ww_i2l 19 X dX12_subtract_19 ?_
      refine ww_ldc2 20 X (v := (4294967295 : Int64)) dX12_subtract_20 kL_X12_47 ?_
      refine ww_land 23 X dX12_subtract_23 ?_
      refine ww_aload_n 24 X dX12_subtract_24 2 rfl rfl ?_
      refine ww_iload 25 X dX12_subtract_25 5 rfl ?_
      obtain ⟨v27, e27, h⟩ := bO_some h
      refine ww_iald 27 X dX12_subtract_27 e27 ?_
      refine ww_i2l 28 X dX12_subtract_28 ?_
      refine ww_ldc2 29 X (v := (4294967295 : Int64)) dX12_subtract_29 kL_X12_47 ?_
      refine ww_land 32 X dX12_subtract_32 ?_
      refine ww_lsub 33 X dX12_subtract_33 ?_
      refine ww_lload 34 X dX12_subtract_34 4 rfl ?_
      refine ww_lsub 36 X dX12_subtract_36 ?_
      refine ww_lstore 37 X dX12_subtract_37 (lv' := [(0, .ref l0), (1, .ref l1), (2, .ref l2), (3, .ref l3), (4, .long l4), (6, .int l6), (7, .long ((((v18.toInt64) &&& (4294967295 : Int64)) - ((v27.toInt64) &&& (4294967295 : Int64))) - l4))]) (by decide) [1, 2, 3, 4, 5, 6, 0] rfl ?_
      refine ww_aload_n 39 X dX12_subtract_39 3 rfl rfl ?_
      refine ww_iload 40 X dX12_subtract_40 5 rfl ?_
      refine ww_lload 42 X dX12_subtract_42 6 rfl ?_
      refine ww_l2i 44 X dX12_subtract_44 ?_
      obtain ⟨M45, e45, h⟩ := bO_some h
      refine ww_iast 45 X dX12_subtract_45 e45 ?_
      refine ww_lload 46 X dX12_subtract_46 6 rfl ?_
      refine ww_lconst 48 X (v := (0 : Int64)) dX12_subtract_48 (by decide) ?_
      refine ww_lcmp 49 X dX12_subtract_49 ?_
      refine ww_if_ge 50 57 X dX12_subtract_50 (by decide) (fun q => ?_) (fun q => ?_)
      · replace h := (if_pos q).symm.trans h
        refine ww_lconst 57 X (v := (0 : Int64)) dX12_subtract_57 (by decide) ?_
        refine ww_lstore 58 X dX12_subtract_58 (lv' := [(0, .ref l0), (1, .ref l1), (2, .ref l2), (3, .ref l3), (4, .long (0 : Int64)), (6, .int l6), (7, .long ((((v18.toInt64) &&& (4294967295 : Int64)) - ((v27.toInt64) &&& (4294967295 : Int64))) - l4))]) (by decide) [1, 2, 3, 4, 0, 5, 6] rfl ?_
        refine ww_iinc 60 X dX12_subtract_60 (lv' := [(0, .ref l0), (1, .ref l1), (2, .ref l2), (3, .ref l3), (4, .long (0 : Int64)), (6, .int (l6 + 1)), (7, .long ((((v18.toInt64) &&& (4294967295 : Int64)) - ((v27.toInt64) &&& (4294967295 : Int64))) - l4))]) 5 rfl rfl (by decide) [1, 2, 3, 4, 5, 0, 6] rfl ?_
        refine ww_goto 63 6 X dX12_subtract_63 (by decide) ?_
        exact ww_sub [0, 1, 2, 3, 4, 5] rfl (ih _ _ _ _ _ _ _ h)
      · replace h := (if_neg q).symm.trans h
        refine ww_lconst 53 X (v := (1 : Int64)) dX12_subtract_53 (by decide) ?_
        refine ww_goto 54 58 X dX12_subtract_54 (by decide) ?_
        refine ww_lstore 58 X dX12_subtract_58 (lv' := [(0, .ref l0), (1, .ref l1), (2, .ref l2), (3, .ref l3), (4, .long (1 : Int64)), (6, .int l6), (7, .long ((((v18.toInt64) &&& (4294967295 : Int64)) - ((v27.toInt64) &&& (4294967295 : Int64))) - l4))]) (by decide) [1, 2, 3, 4, 0, 5, 6] rfl ?_
        refine ww_iinc 60 X dX12_subtract_60 (lv' := [(0, .ref l0), (1, .ref l1), (2, .ref l2), (3, .ref l3), (4, .long (1 : Int64)), (6, .int (l6 + 1)), (7, .long ((((v18.toInt64) &&& (4294967295 : Int64)) - ((v27.toInt64) &&& (4294967295 : Int64))) - l4))]) 5 rfl rfl (by decide) [1, 2, 3, 4, 5, 0, 6] rfl ?_
        refine ww_goto 63 6 X dX12_subtract_63 (by decide) ?_
        exact ww_sub [0, 1, 2, 3, 4, 5] rfl (ih _ _ _ _ _ _ _ h)
def P_X12_subtract (G : Nat → Nat) (F : Nat) (l0 : Nat) (l1 : Nat) (l2 : Nat) (l3 : Nat) (M : mM) : Option mM :=
  B_X12_subtract_6 G F F l0 l1 l2 l3 (0 : Int64) (0 : Int32) M
set_option maxHeartbeats 4000000 in
set_option maxRecDepth 100000 in
theorem wP_X12_subtract {G : Nat → Nat} {F : Nat} {x : mXT} {sz : Nat} {M0 : mM} (X : mCX G RX12 cX12_subtract 11 none "subtract" rmX12_subtract x) (hQ : mQV x M0 (sz, 0, 0)) {l0 : Nat} {l1 : Nat} {l2 : Nat} {l3 : Nat} {M : mM} (h : P_X12_subtract G F l0 l1 l2 l3 M = some M0) : WW x (sz, 0, 0) M 0 [(0, .ref l0), (1, .ref l1), (2, .ref l2), (3, .ref l3)] [] := by
  unfold P_X12_subtract at h
  refine ww_lconst 0 X (v := (0 : Int64)) dX12_subtract_0 (by decide) ?_
  refine ww_lstore 1 X dX12_subtract_1 (lv' := [(0, .ref l0), (1, .ref l1), (2, .ref l2), (3, .ref l3), (4, .long (0 : Int64))]) (by decide) [1, 2, 3, 4, 0] rfl ?_
  refine ww_iconst 3 X (v := (0 : Int32)) dX12_subtract_3 (by decide) ?_
  refine ww_istore 4 X dX12_subtract_4 (lv' := [(0, .ref l0), (1, .ref l1), (2, .ref l2), (3, .ref l3), (4, .long (0 : Int64)), (6, .int (0 : Int32))]) (by decide) [1, 2, 3, 4, 5, 0] rfl ?_
  exact (wB_X12_subtract_6 X hQ F _ _ _ _ _ _ _ h)
theorem c_X12_subtract {G : Nat → Nat} {F sz : Nat} {M0 : mM} (l : Launch) (D : mD) (A : Nat → Prop) {l0 : Nat} {l1 : Nat} {l2 : Nat} {l3 : Nat} {M : mM} (h : P_X12_subtract G F l0 l1 l2 l3 M = some M0) : mMetV l D G A yX12_subtract cX12_subtract 11 none 0 0 0 0 [.ref l0, .ref l1, .ref l2, .ref l3] M sz M0 sz := mMetV_of l D G A (by decide) (Nat.le_of_ble_eq_true rfl) (fun x X hQ => wP_X12_subtract X hQ h)
/-! SealedTokensModel$Mod.product([I[I[I)V -/
theorem dX12_product_0 : decode cX12_product 0 = .ok (.iconst 0, 1) := by decide +kernel
theorem dX12_product_1 : decode cX12_product 1 = .ok (.istore 4, 2) := by decide +kernel
theorem dX12_product_3 : decode cX12_product 3 = .ok (.iload 4, 2) := by decide +kernel
theorem dX12_product_5 : decode cX12_product 5 = .ok (.aload_n 0, 1) := by decide +kernel
theorem dX12_product_6 : decode cX12_product 6 = .ok (.getfield 31, 3) := by decide +kernel
theorem dX12_product_9 : decode cX12_product 9 = .ok (.iconst 1, 1) := by decide +kernel
theorem dX12_product_10 : decode cX12_product 10 = .ok (.iadd, 1) := by decide +kernel
theorem dX12_product_11 : decode cX12_product 11 = .ok (.if_icmp .gt 17, 3) := by decide +kernel
theorem dX12_product_14 : decode cX12_product 14 = .ok (.aload_n 0, 1) := by decide +kernel
theorem dX12_product_15 : decode cX12_product 15 = .ok (.getfield 19, 3) := by decide +kernel
theorem dX12_product_18 : decode cX12_product 18 = .ok (.iload 4, 2) := by decide +kernel
theorem dX12_product_20 : decode cX12_product 20 = .ok (.iconst 0, 1) := by decide +kernel
theorem dX12_product_21 : decode cX12_product 21 = .ok (.iastore, 1) := by decide +kernel
theorem dX12_product_22 : decode cX12_product 22 = .ok (.iinc 4 1, 3) := by decide +kernel
theorem dX12_product_25 : decode cX12_product 25 = .ok (.goto (-22), 3) := by decide +kernel
theorem dX12_product_28 : decode cX12_product 28 = .ok (.iconst 0, 1) := by decide +kernel
theorem dX12_product_29 : decode cX12_product 29 = .ok (.istore 4, 2) := by decide +kernel
theorem dX12_product_31 : decode cX12_product 31 = .ok (.iload 4, 2) := by decide +kernel
theorem dX12_product_33 : decode cX12_product 33 = .ok (.aload_n 0, 1) := by decide +kernel
theorem dX12_product_34 : decode cX12_product 34 = .ok (.getfield 31, 3) := by decide +kernel
theorem dX12_product_37 : decode cX12_product 37 = .ok (.if_icmp .ge 315, 3) := by decide +kernel
theorem dX12_product_40 : decode cX12_product 40 = .ok (.lconst 0, 1) := by decide +kernel
theorem dX12_product_41 : decode cX12_product 41 = .ok (.lstore 5, 2) := by decide +kernel
theorem dX12_product_43 : decode cX12_product 43 = .ok (.aload_n 1, 1) := by decide +kernel
theorem dX12_product_44 : decode cX12_product 44 = .ok (.iload 4, 2) := by decide +kernel
theorem dX12_product_46 : decode cX12_product 46 = .ok (.iaload, 1) := by decide +kernel
theorem dX12_product_47 : decode cX12_product 47 = .ok (.i2l, 1) := by decide +kernel
theorem dX12_product_48 : decode cX12_product 48 = .ok (.ldc2_w 47, 3) := by decide +kernel
theorem dX12_product_51 : decode cX12_product 51 = .ok (.land, 1) := by decide +kernel
theorem dX12_product_52 : decode cX12_product 52 = .ok (.lstore 7, 2) := by decide +kernel
theorem dX12_product_54 : decode cX12_product 54 = .ok (.iconst 0, 1) := by decide +kernel
theorem dX12_product_55 : decode cX12_product 55 = .ok (.istore 9, 2) := by decide +kernel
theorem dX12_product_57 : decode cX12_product 57 = .ok (.iload 9, 2) := by decide +kernel
theorem dX12_product_59 : decode cX12_product 59 = .ok (.aload_n 0, 1) := by decide +kernel
theorem dX12_product_60 : decode cX12_product 60 = .ok (.getfield 31, 3) := by decide +kernel
theorem dX12_product_63 : decode cX12_product 63 = .ok (.if_icmp .ge 56, 3) := by decide +kernel
theorem dX12_product_66 : decode cX12_product 66 = .ok (.aload_n 0, 1) := by decide +kernel
theorem dX12_product_67 : decode cX12_product 67 = .ok (.getfield 19, 3) := by decide +kernel
theorem dX12_product_70 : decode cX12_product 70 = .ok (.iload 9, 2) := by decide +kernel
theorem dX12_product_72 : decode cX12_product 72 = .ok (.iaload, 1) := by decide +kernel
theorem dX12_product_73 : decode cX12_product 73 = .ok (.i2l, 1) := by decide +kernel
theorem dX12_product_74 : decode cX12_product 74 = .ok (.ldc2_w 47, 3) := by decide +kernel
theorem dX12_product_77 : decode cX12_product 77 = .ok (.land, 1) := by decide +kernel
theorem dX12_product_78 : decode cX12_product 78 = .ok (.lload 7, 2) := by decide +kernel
theorem dX12_product_80 : decode cX12_product 80 = .ok (.aload_n 2, 1) := by decide +kernel
theorem dX12_product_81 : decode cX12_product 81 = .ok (.iload 9, 2) := by decide +kernel
theorem dX12_product_83 : decode cX12_product 83 = .ok (.iaload, 1) := by decide +kernel
theorem dX12_product_84 : decode cX12_product 84 = .ok (.i2l, 1) := by decide +kernel
theorem dX12_product_85 : decode cX12_product 85 = .ok (.ldc2_w 47, 3) := by decide +kernel
theorem dX12_product_88 : decode cX12_product 88 = .ok (.land, 1) := by decide +kernel
theorem dX12_product_89 : decode cX12_product 89 = .ok (.lmul, 1) := by decide +kernel
theorem dX12_product_90 : decode cX12_product 90 = .ok (.ladd, 1) := by decide +kernel
theorem dX12_product_91 : decode cX12_product 91 = .ok (.lload 5, 2) := by decide +kernel
theorem dX12_product_93 : decode cX12_product 93 = .ok (.ladd, 1) := by decide +kernel
theorem dX12_product_94 : decode cX12_product 94 = .ok (.lstore 10, 2) := by decide +kernel
theorem dX12_product_96 : decode cX12_product 96 = .ok (.aload_n 0, 1) := by decide +kernel
theorem dX12_product_97 : decode cX12_product 97 = .ok (.getfield 19, 3) := by decide +kernel
theorem dX12_product_100 : decode cX12_product 100 = .ok (.iload 9, 2) := by decide +kernel
theorem dX12_product_102 : decode cX12_product 102 = .ok (.lload 10, 2) := by decide +kernel
theorem dX12_product_104 : decode cX12_product 104 = .ok (.l2i, 1) := by decide +kernel
theorem dX12_product_105 : decode cX12_product 105 = .ok (.iastore, 1) := by decide +kernel
theorem dX12_product_106 : decode cX12_product 106 = .ok (.lload 10, 2) := by decide +kernel
theorem dX12_product_108 : decode cX12_product 108 = .ok (.bipush 32, 2) := by decide +kernel
theorem dX12_product_110 : decode cX12_product 110 = .ok (.lushr, 1) := by decide +kernel
theorem dX12_product_111 : decode cX12_product 111 = .ok (.lstore 5, 2) := by decide +kernel
theorem dX12_product_113 : decode cX12_product 113 = .ok (.iinc 9 1, 3) := by decide +kernel
theorem dX12_product_116 : decode cX12_product 116 = .ok (.goto (-59), 3) := by decide +kernel
theorem dX12_product_119 : decode cX12_product 119 = .ok (.aload_n 0, 1) := by decide +kernel
theorem dX12_product_120 : decode cX12_product 120 = .ok (.getfield 19, 3) := by decide +kernel
theorem dX12_product_123 : decode cX12_product 123 = .ok (.aload_n 0, 1) := by decide +kernel
theorem dX12_product_124 : decode cX12_product 124 = .ok (.getfield 31, 3) := by decide +kernel
theorem dX12_product_127 : decode cX12_product 127 = .ok (.iaload, 1) := by decide +kernel
theorem dX12_product_128 : decode cX12_product 128 = .ok (.i2l, 1) := by decide +kernel
theorem dX12_product_129 : decode cX12_product 129 = .ok (.ldc2_w 47, 3) := by decide +kernel
theorem dX12_product_132 : decode cX12_product 132 = .ok (.land, 1) := by decide +kernel
theorem dX12_product_133 : decode cX12_product 133 = .ok (.lload 5, 2) := by decide +kernel
theorem dX12_product_135 : decode cX12_product 135 = .ok (.ladd, 1) := by decide +kernel
theorem dX12_product_136 : decode cX12_product 136 = .ok (.lstore 9, 2) := by decide +kernel
theorem dX12_product_138 : decode cX12_product 138 = .ok (.aload_n 0, 1) := by decide +kernel
theorem dX12_product_139 : decode cX12_product 139 = .ok (.getfield 19, 3) := by decide +kernel
theorem dX12_product_142 : decode cX12_product 142 = .ok (.aload_n 0, 1) := by decide +kernel
theorem dX12_product_143 : decode cX12_product 143 = .ok (.getfield 31, 3) := by decide +kernel
theorem dX12_product_146 : decode cX12_product 146 = .ok (.lload 9, 2) := by decide +kernel
theorem dX12_product_148 : decode cX12_product 148 = .ok (.l2i, 1) := by decide +kernel
theorem dX12_product_149 : decode cX12_product 149 = .ok (.iastore, 1) := by decide +kernel
theorem dX12_product_150 : decode cX12_product 150 = .ok (.aload_n 0, 1) := by decide +kernel
theorem dX12_product_151 : decode cX12_product 151 = .ok (.getfield 19, 3) := by decide +kernel
theorem dX12_product_154 : decode cX12_product 154 = .ok (.aload_n 0, 1) := by decide +kernel
theorem dX12_product_155 : decode cX12_product 155 = .ok (.getfield 31, 3) := by decide +kernel
theorem dX12_product_158 : decode cX12_product 158 = .ok (.iconst 1, 1) := by decide +kernel
theorem dX12_product_159 : decode cX12_product 159 = .ok (.iadd, 1) := by decide +kernel
theorem dX12_product_160 : decode cX12_product 160 = .ok (.lload 9, 2) := by decide +kernel
theorem dX12_product_162 : decode cX12_product 162 = .ok (.bipush 32, 2) := by decide +kernel
theorem dX12_product_164 : decode cX12_product 164 = .ok (.lushr, 1) := by decide +kernel
theorem dX12_product_165 : decode cX12_product 165 = .ok (.l2i, 1) := by decide +kernel
theorem dX12_product_166 : decode cX12_product 166 = .ok (.iastore, 1) := by decide +kernel
theorem dX12_product_167 : decode cX12_product 167 = .ok (.aload_n 0, 1) := by decide +kernel
theorem dX12_product_168 : decode cX12_product 168 = .ok (.getfield 19, 3) := by decide +kernel
theorem dX12_product_171 : decode cX12_product 171 = .ok (.iconst 0, 1) := by decide +kernel
theorem dX12_product_172 : decode cX12_product 172 = .ok (.iaload, 1) := by decide +kernel
theorem dX12_product_173 : decode cX12_product 173 = .ok (.aload_n 0, 1) := by decide +kernel
theorem dX12_product_174 : decode cX12_product 174 = .ok (.getfield 39, 3) := by decide +kernel
theorem dX12_product_177 : decode cX12_product 177 = .ok (.imul, 1) := by decide +kernel
theorem dX12_product_178 : decode cX12_product 178 = .ok (.i2l, 1) := by decide +kernel
theorem dX12_product_179 : decode cX12_product 179 = .ok (.ldc2_w 47, 3) := by decide +kernel
theorem dX12_product_182 : decode cX12_product 182 = .ok (.land, 1) := by decide +kernel
theorem dX12_product_183 : decode cX12_product 183 = .ok (.lstore 11, 2) := by decide +kernel
theorem dX12_product_185 : decode cX12_product 185 = .ok (.aload_n 0, 1) := by decide +kernel
theorem dX12_product_186 : decode cX12_product 186 = .ok (.getfield 19, 3) := by decide +kernel
theorem dX12_product_189 : decode cX12_product 189 = .ok (.iconst 0, 1) := by decide +kernel
theorem dX12_product_190 : decode cX12_product 190 = .ok (.iaload, 1) := by decide +kernel
theorem dX12_product_191 : decode cX12_product 191 = .ok (.i2l, 1) := by decide +kernel
theorem dX12_product_192 : decode cX12_product 192 = .ok (.ldc2_w 47, 3) := by decide +kernel
theorem dX12_product_195 : decode cX12_product 195 = .ok (.land, 1) := by decide +kernel
theorem dX12_product_196 : decode cX12_product 196 = .ok (.lload 11, 2) := by decide +kernel
theorem dX12_product_198 : decode cX12_product 198 = .ok (.aload_n 0, 1) := by decide +kernel
theorem dX12_product_199 : decode cX12_product 199 = .ok (.getfield 7, 3) := by decide +kernel
theorem dX12_product_202 : decode cX12_product 202 = .ok (.iconst 0, 1) := by decide +kernel
theorem dX12_product_203 : decode cX12_product 203 = .ok (.iaload, 1) := by decide +kernel
theorem dX12_product_204 : decode cX12_product 204 = .ok (.i2l, 1) := by decide +kernel
theorem dX12_product_205 : decode cX12_product 205 = .ok (.ldc2_w 47, 3) := by decide +kernel
theorem dX12_product_208 : decode cX12_product 208 = .ok (.land, 1) := by decide +kernel
theorem dX12_product_209 : decode cX12_product 209 = .ok (.lmul, 1) := by decide +kernel
theorem dX12_product_210 : decode cX12_product 210 = .ok (.ladd, 1) := by decide +kernel
theorem dX12_product_211 : decode cX12_product 211 = .ok (.bipush 32, 2) := by decide +kernel
theorem dX12_product_213 : decode cX12_product 213 = .ok (.lushr, 1) := by decide +kernel
theorem dX12_product_214 : decode cX12_product 214 = .ok (.lstore 5, 2) := by decide +kernel
theorem dX12_product_216 : decode cX12_product 216 = .ok (.iconst 1, 1) := by decide +kernel
theorem dX12_product_217 : decode cX12_product 217 = .ok (.istore 13, 2) := by decide +kernel
theorem dX12_product_219 : decode cX12_product 219 = .ok (.iload 13, 2) := by decide +kernel
theorem dX12_product_221 : decode cX12_product 221 = .ok (.aload_n 0, 1) := by decide +kernel
theorem dX12_product_222 : decode cX12_product 222 = .ok (.getfield 31, 3) := by decide +kernel
theorem dX12_product_225 : decode cX12_product 225 = .ok (.if_icmp .ge 61, 3) := by decide +kernel
theorem dX12_product_228 : decode cX12_product 228 = .ok (.aload_n 0, 1) := by decide +kernel
theorem dX12_product_229 : decode cX12_product 229 = .ok (.getfield 19, 3) := by decide +kernel
theorem dX12_product_232 : decode cX12_product 232 = .ok (.iload 13, 2) := by decide +kernel
theorem dX12_product_234 : decode cX12_product 234 = .ok (.iaload, 1) := by decide +kernel
theorem dX12_product_235 : decode cX12_product 235 = .ok (.i2l, 1) := by decide +kernel
theorem dX12_product_236 : decode cX12_product 236 = .ok (.ldc2_w 47, 3) := by decide +kernel
theorem dX12_product_239 : decode cX12_product 239 = .ok (.land, 1) := by decide +kernel
theorem dX12_product_240 : decode cX12_product 240 = .ok (.lload 11, 2) := by decide +kernel
theorem dX12_product_242 : decode cX12_product 242 = .ok (.aload_n 0, 1) := by decide +kernel
theorem dX12_product_243 : decode cX12_product 243 = .ok (.getfield 7, 3) := by decide +kernel
theorem dX12_product_246 : decode cX12_product 246 = .ok (.iload 13, 2) := by decide +kernel
theorem dX12_product_248 : decode cX12_product 248 = .ok (.iaload, 1) := by decide +kernel
theorem dX12_product_249 : decode cX12_product 249 = .ok (.i2l, 1) := by decide +kernel
theorem dX12_product_250 : decode cX12_product 250 = .ok (.ldc2_w 47, 3) := by decide +kernel
theorem dX12_product_253 : decode cX12_product 253 = .ok (.land, 1) := by decide +kernel
theorem dX12_product_254 : decode cX12_product 254 = .ok (.lmul, 1) := by decide +kernel
theorem dX12_product_255 : decode cX12_product 255 = .ok (.ladd, 1) := by decide +kernel
theorem dX12_product_256 : decode cX12_product 256 = .ok (.lload 5, 2) := by decide +kernel
theorem dX12_product_258 : decode cX12_product 258 = .ok (.ladd, 1) := by decide +kernel
theorem dX12_product_259 : decode cX12_product 259 = .ok (.lstore 9, 2) := by decide +kernel
theorem dX12_product_261 : decode cX12_product 261 = .ok (.aload_n 0, 1) := by decide +kernel
theorem dX12_product_262 : decode cX12_product 262 = .ok (.getfield 19, 3) := by decide +kernel
theorem dX12_product_265 : decode cX12_product 265 = .ok (.iload 13, 2) := by decide +kernel
theorem dX12_product_267 : decode cX12_product 267 = .ok (.iconst 1, 1) := by decide +kernel
theorem dX12_product_268 : decode cX12_product 268 = .ok (.isub, 1) := by decide +kernel
theorem dX12_product_269 : decode cX12_product 269 = .ok (.lload 9, 2) := by decide +kernel
theorem dX12_product_271 : decode cX12_product 271 = .ok (.l2i, 1) := by decide +kernel
theorem dX12_product_272 : decode cX12_product 272 = .ok (.iastore, 1) := by decide +kernel
theorem dX12_product_273 : decode cX12_product 273 = .ok (.lload 9, 2) := by decide +kernel
theorem dX12_product_275 : decode cX12_product 275 = .ok (.bipush 32, 2) := by decide +kernel
theorem dX12_product_277 : decode cX12_product 277 = .ok (.lushr, 1) := by decide +kernel
theorem dX12_product_278 : decode cX12_product 278 = .ok (.lstore 5, 2) := by decide +kernel
theorem dX12_product_280 : decode cX12_product 280 = .ok (.iinc 13 1, 3) := by decide +kernel
theorem dX12_product_283 : decode cX12_product 283 = .ok (.goto (-64), 3) := by decide +kernel
theorem dX12_product_286 : decode cX12_product 286 = .ok (.aload_n 0, 1) := by decide +kernel
theorem dX12_product_287 : decode cX12_product 287 = .ok (.getfield 19, 3) := by decide +kernel
theorem dX12_product_290 : decode cX12_product 290 = .ok (.aload_n 0, 1) := by decide +kernel
theorem dX12_product_291 : decode cX12_product 291 = .ok (.getfield 31, 3) := by decide +kernel
theorem dX12_product_294 : decode cX12_product 294 = .ok (.iaload, 1) := by decide +kernel
theorem dX12_product_295 : decode cX12_product 295 = .ok (.i2l, 1) := by decide +kernel
theorem dX12_product_296 : decode cX12_product 296 = .ok (.ldc2_w 47, 3) := by decide +kernel
theorem dX12_product_299 : decode cX12_product 299 = .ok (.land, 1) := by decide +kernel
theorem dX12_product_300 : decode cX12_product 300 = .ok (.lload 5, 2) := by decide +kernel
theorem dX12_product_302 : decode cX12_product 302 = .ok (.ladd, 1) := by decide +kernel
theorem dX12_product_303 : decode cX12_product 303 = .ok (.lstore 9, 2) := by decide +kernel
theorem dX12_product_305 : decode cX12_product 305 = .ok (.aload_n 0, 1) := by decide +kernel
theorem dX12_product_306 : decode cX12_product 306 = .ok (.getfield 19, 3) := by decide +kernel
theorem dX12_product_309 : decode cX12_product 309 = .ok (.aload_n 0, 1) := by decide +kernel
theorem dX12_product_310 : decode cX12_product 310 = .ok (.getfield 31, 3) := by decide +kernel
theorem dX12_product_313 : decode cX12_product 313 = .ok (.iconst 1, 1) := by decide +kernel
theorem dX12_product_314 : decode cX12_product 314 = .ok (.isub, 1) := by decide +kernel
theorem dX12_product_315 : decode cX12_product 315 = .ok (.lload 9, 2) := by decide +kernel
theorem dX12_product_317 : decode cX12_product 317 = .ok (.l2i, 1) := by decide +kernel
theorem dX12_product_318 : decode cX12_product 318 = .ok (.iastore, 1) := by decide +kernel
theorem dX12_product_319 : decode cX12_product 319 = .ok (.aload_n 0, 1) := by decide +kernel
theorem dX12_product_320 : decode cX12_product 320 = .ok (.getfield 19, 3) := by decide +kernel
theorem dX12_product_323 : decode cX12_product 323 = .ok (.aload_n 0, 1) := by decide +kernel
theorem dX12_product_324 : decode cX12_product 324 = .ok (.getfield 31, 3) := by decide +kernel
theorem dX12_product_327 : decode cX12_product 327 = .ok (.aload_n 0, 1) := by decide +kernel
theorem dX12_product_328 : decode cX12_product 328 = .ok (.getfield 19, 3) := by decide +kernel
theorem dX12_product_331 : decode cX12_product 331 = .ok (.aload_n 0, 1) := by decide +kernel
theorem dX12_product_332 : decode cX12_product 332 = .ok (.getfield 31, 3) := by decide +kernel
theorem dX12_product_335 : decode cX12_product 335 = .ok (.iconst 1, 1) := by decide +kernel
theorem dX12_product_336 : decode cX12_product 336 = .ok (.iadd, 1) := by decide +kernel
theorem dX12_product_337 : decode cX12_product 337 = .ok (.iaload, 1) := by decide +kernel
theorem dX12_product_338 : decode cX12_product 338 = .ok (.lload 9, 2) := by decide +kernel
theorem dX12_product_340 : decode cX12_product 340 = .ok (.bipush 32, 2) := by decide +kernel
theorem dX12_product_342 : decode cX12_product 342 = .ok (.lushr, 1) := by decide +kernel
theorem dX12_product_343 : decode cX12_product 343 = .ok (.l2i, 1) := by decide +kernel
theorem dX12_product_344 : decode cX12_product 344 = .ok (.iadd, 1) := by decide +kernel
theorem dX12_product_345 : decode cX12_product 345 = .ok (.iastore, 1) := by decide +kernel
theorem dX12_product_346 : decode cX12_product 346 = .ok (.iinc 4 1, 3) := by decide +kernel
theorem dX12_product_349 : decode cX12_product 349 = .ok (.goto (-318), 3) := by decide +kernel
theorem dX12_product_352 : decode cX12_product 352 = .ok (.aload_n 0, 1) := by decide +kernel
theorem dX12_product_353 : decode cX12_product 353 = .ok (.getfield 19, 3) := by decide +kernel
theorem dX12_product_356 : decode cX12_product 356 = .ok (.aload_n 0, 1) := by decide +kernel
theorem dX12_product_357 : decode cX12_product 357 = .ok (.getfield 31, 3) := by decide +kernel
theorem dX12_product_360 : decode cX12_product 360 = .ok (.iaload, 1) := by decide +kernel
theorem dX12_product_361 : decode cX12_product 361 = .ok (.ifCond .eq 7, 3) := by decide +kernel
theorem dX12_product_364 : decode cX12_product 364 = .ok (.iconst 1, 1) := by decide +kernel
theorem dX12_product_365 : decode cX12_product 365 = .ok (.goto 4, 3) := by decide +kernel
theorem dX12_product_368 : decode cX12_product 368 = .ok (.iconst 0, 1) := by decide +kernel
theorem dX12_product_369 : decode cX12_product 369 = .ok (.istore 4, 2) := by decide +kernel
theorem dX12_product_371 : decode cX12_product 371 = .ok (.iconst 0, 1) := by decide +kernel
theorem dX12_product_372 : decode cX12_product 372 = .ok (.istore 5, 2) := by decide +kernel
theorem dX12_product_374 : decode cX12_product 374 = .ok (.iload 5, 2) := by decide +kernel
theorem dX12_product_376 : decode cX12_product 376 = .ok (.aload_n 0, 1) := by decide +kernel
theorem dX12_product_377 : decode cX12_product 377 = .ok (.getfield 31, 3) := by decide +kernel
theorem dX12_product_380 : decode cX12_product 380 = .ok (.if_icmp .ge 20, 3) := by decide +kernel
theorem dX12_product_383 : decode cX12_product 383 = .ok (.aload_n 3, 1) := by decide +kernel
theorem dX12_product_384 : decode cX12_product 384 = .ok (.iload 5, 2) := by decide +kernel
theorem dX12_product_386 : decode cX12_product 386 = .ok (.aload_n 0, 1) := by decide +kernel
theorem dX12_product_387 : decode cX12_product 387 = .ok (.getfield 19, 3) := by decide +kernel
theorem dX12_product_390 : decode cX12_product 390 = .ok (.iload 5, 2) := by decide +kernel
theorem dX12_product_392 : decode cX12_product 392 = .ok (.iaload, 1) := by decide +kernel
theorem dX12_product_393 : decode cX12_product 393 = .ok (.iastore, 1) := by decide +kernel
theorem dX12_product_394 : decode cX12_product 394 = .ok (.iinc 5 1, 3) := by decide +kernel
theorem dX12_product_397 : decode cX12_product 397 = .ok (.goto (-23), 3) := by decide +kernel
theorem dX12_product_400 : decode cX12_product 400 = .ok (.iload 4, 2) := by decide +kernel
theorem dX12_product_402 : decode cX12_product 402 = .ok (.ifCond .ne 15, 3) := by decide +kernel
theorem dX12_product_405 : decode cX12_product 405 = .ok (.aload_n 0, 1) := by decide +kernel
theorem dX12_product_406 : decode cX12_product 406 = .ok (.aload_n 3, 1) := by decide +kernel
theorem dX12_product_407 : decode cX12_product 407 = .ok (.aload_n 0, 1) := by decide +kernel
theorem dX12_product_408 : decode cX12_product 408 = .ok (.getfield 7, 3) := by decide +kernel
theorem dX12_product_411 : decode cX12_product 411 = .ok (.invokevirtual 49, 3) := by decide +kernel
theorem dX12_product_414 : decode cX12_product 414 = .ok (.ifCond .lt 8, 3) := by decide +kernel
theorem dX12_product_417 : decode cX12_product 417 = .ok (.aload_n 0, 1) := by decide +kernel
theorem dX12_product_418 : decode cX12_product 418 = .ok (.aload_n 3, 1) := by decide +kernel
theorem dX12_product_419 : decode cX12_product 419 = .ok (.invokevirtual 53, 3) := by decide +kernel
theorem dX12_product_422 : decode cX12_product 422 = .ok (.return_, 1) := by decide +kernel
abbrev rmX12_product : Room := { frames := 1, cells := 0, slots := 0, locals := 26 }
def B_X12_product_374 (G : Nat → Nat) (F : Nat) : Nat → Nat → Nat → Int32 → Int32 → mM → Option mM
  | 0, _, _, _, _, _ => none
  | n + 1, l0, l3, l4, l5, M =>
  bO (gfI M l0 12 1) fun v377 =>
  if v377 ≤ l5 then (if l4 = 0 then (bO (gfR M l0 12 0) fun v408 =>
  bO (rcv M l0 12) fun _ =>
  bP (P_X12_order G F l0 l3 v408 M) fun v411 M411 =>
  if v411 < 0 then (some M411)
  else (bO (rcv M411 l0 12) fun _ =>
  bO (P_X12_less G F l0 l3 M411) fun M419 =>
  some M419))
  else (bO (rcv M l0 12) fun _ =>
  bO (P_X12_less G F l0 l3 M) fun M419 =>
  some M419))
  else (bO (gfR M l0 12 5) fun v387 =>
  bO (aI M 0 v387 l5) fun v392 =>
  bO (sI M 0 l3 l5 v392) fun M393 =>
  B_X12_product_374 G F n l0 l3 l4 (l5 + 1) M393)
set_option maxHeartbeats 4000000 in
set_option maxRecDepth 100000 in
theorem wB_X12_product_374 {G : Nat → Nat} {F : Nat} {x : mXT} {sz : Nat} {M0 : mM} (X : mCX G RX12 cX12_product 14 none "product" rmX12_product x) (hQ : mQV x M0 (sz, 0, 0)) : ∀ (n : Nat) (l0 : Nat) (l3 : Nat) (l4 : Int32) (l5 : Int32) (M : mM), B_X12_product_374 G F n l0 l3 l4 l5 M = some M0 → WW x (sz, 0, 0) M 374 [(0, .ref l0), (3, .ref l3), (4, .int l4), (5, .int l5)] [] := by
  intro n
  induction n with
  | zero =>
    intro l0 l3 l4 l5 M h
    exact nomatch (show (none : Option mM) = some M0 from h)
  | succ n ih =>
    intro l0 l3 l4 l5 M h
    rw [B_X12_product_374] at h
    refine ww_iload 374 X dX12_product_374 3 rfl ?_
    refine ww_aload_n 376 X dX12_product_376 0 rfl rfl ?_
    obtain ⟨v377, e377, h⟩ := bO_some h
    refine ww_getI 377 X dX12_product_377 fG_X12_31 e377 ?_
    refine ww_icmp_ge 380 400 X dX12_product_380 (by decide) (fun q => ?_) (fun q => ?_)
    · replace h := (if_pos q).symm.trans h
      refine ww_iload 400 X dX12_product_400 2 rfl ?_
      refine ww_if_ne 402 417 X dX12_product_402 (by decide) (fun q => ?_) (fun q => ?_)
      · replace h := (if_neg q).symm.trans h
        refine ww_aload_n 417 X dX12_product_417 0 rfl rfl ?_
        refine ww_aload_n 418 X dX12_product_418 1 rfl rfl ?_
        obtain ⟨_, f419, h⟩ := bO_some h
        obtain ⟨M419, e419, h⟩ := bO_some h
        refine ww_callVV0 419 X dX12_product_419 mY_X12_less mL_X12_53 (rcv_spec f419) ⟨_, _, rfl⟩ (by decide) (As := [.ref l3]) (rest := []) rfl rfl ⟨Nat.le_of_ble_eq_true rfl, Nat.le_of_ble_eq_true rfl⟩ (Nat.le_of_ble_eq_true rfl) (fun l D A => c_X12_less l D A e419) ?_
        exact ww_vretE 422 X hQ dX12_product_422 h
      · replace h := (if_pos q).symm.trans h
        refine ww_aload_n 405 X dX12_product_405 0 rfl rfl ?_
        refine ww_aload_n 406 X dX12_product_406 1 rfl rfl ?_
        refine ww_aload_n 407 X dX12_product_407 0 rfl rfl ?_
        obtain ⟨v408, e408, h⟩ := bO_some h
        refine ww_getR 408 X dX12_product_408 fG_X12_7 e408 ?_
        obtain ⟨_, f411, h⟩ := bO_some h
        obtain ⟨v411, M411, e411, h⟩ := bP_some h
        refine ww_callVI0 411 X dX12_product_411 mY_X12_order mL_X12_49 (rcv_spec f411) ⟨_, _, rfl⟩ (by decide) (As := [.ref l3, .ref v408]) (rest := []) rfl rfl ⟨Nat.le_of_ble_eq_true rfl, Nat.le_of_ble_eq_true rfl⟩ (Nat.le_of_ble_eq_true rfl) (fun l D A => c_X12_order l D A e411) ?_
        refine ww_if_lt 414 422 X dX12_product_414 (by decide) (fun q => ?_) (fun q => ?_)
        · replace h := (if_pos q).symm.trans h
          exact ww_vretE 422 X hQ dX12_product_422 h
        · replace h := (if_neg q).symm.trans h
          refine ww_aload_n 417 X dX12_product_417 0 rfl rfl ?_
          refine ww_aload_n 418 X dX12_product_418 1 rfl rfl ?_
          obtain ⟨_, f419, h⟩ := bO_some h
          obtain ⟨M419, e419, h⟩ := bO_some h
          refine ww_callVV0 419 X dX12_product_419 mY_X12_less mL_X12_53 (rcv_spec f419) ⟨_, _, rfl⟩ (by decide) (As := [.ref l3]) (rest := []) rfl rfl ⟨Nat.le_of_ble_eq_true rfl, Nat.le_of_ble_eq_true rfl⟩ (Nat.le_of_ble_eq_true rfl) (fun l D A => c_X12_less l D A e419) ?_
          exact ww_vretE 422 X hQ dX12_product_422 h
    · replace h := (if_neg q).symm.trans h
      refine ww_aload_n 383 X dX12_product_383 1 rfl rfl ?_
      refine ww_iload 384 X dX12_product_384 3 rfl ?_
      refine ww_aload_n 386 X dX12_product_386 0 rfl rfl ?_
      obtain ⟨v387, e387, h⟩ := bO_some h
      refine ww_getR 387 X dX12_product_387 fG_X12_19 e387 ?_
      refine ww_iload 390 X dX12_product_390 3 rfl ?_
      obtain ⟨v392, e392, h⟩ := bO_some h
      refine ww_iald 392 X dX12_product_392 e392 ?_
      obtain ⟨M393, e393, h⟩ := bO_some h
      refine ww_iast 393 X dX12_product_393 e393 ?_
      refine ww_iinc 394 X dX12_product_394 (lv' := [(0, .ref l0), (3, .ref l3), (4, .int l4), (5, .int (l5 + 1))]) 3 rfl rfl (by decide) [1, 2, 3, 0] rfl ?_
      refine ww_goto 397 374 X dX12_product_397 (by decide) ?_
      exact (ih _ _ _ _ _ h)
def B_X12_product_219 (G : Nat → Nat) (F : Nat) (r31 : Nat → Nat → Nat → Nat → Int32 → mM → Option mM) : Nat → Nat → Nat → Nat → Nat → Int32 → Int64 → Int64 → Int32 → mM → Option mM
  | 0, _, _, _, _, _, _, _, _, _ => none
  | n + 1, l0, l1, l2, l3, l4, l5, l11, l13, M =>
  bO (gfI M l0 12 1) fun v222 =>
  if v222 ≤ l13 then (bO (gfR M l0 12 5) fun v287 =>
  bO (gfI M l0 12 1) fun v291 =>
  bO (aI M 0 v287 v291) fun v294 =>
  bO (gfR M l0 12 5) fun v306 =>
  bO (gfI M l0 12 1) fun v310 =>
  bO (sI M 0 v306 (v310 - (1 : Int32)) ((((v294.toInt64) &&& (4294967295 : Int64)) + l5).toInt32)) fun M318 =>
  bO (gfR M318 l0 12 5) fun v320 =>
  bO (gfI M318 l0 12 1) fun v324 =>
  bO (gfR M318 l0 12 5) fun v328 =>
  bO (gfI M318 l0 12 1) fun v332 =>
  bO (aI M318 0 v328 (v332 + (1 : Int32))) fun v337 =>
  bO (sI M318 0 v320 v324 (v337 + ((ushL (((v294.toInt64) &&& (4294967295 : Int64)) + l5) (32 : Int32)).toInt32))) fun M345 =>
  r31 l0 l1 l2 l3 (l4 + 1) M345)
  else (bO (gfR M l0 12 5) fun v229 =>
  bO (aI M 0 v229 l13) fun v234 =>
  bO (gfR M l0 12 0) fun v243 =>
  bO (aI M 0 v243 l13) fun v248 =>
  bO (gfR M l0 12 5) fun v262 =>
  bO (sI M 0 v262 (l13 - (1 : Int32)) (((((v234.toInt64) &&& (4294967295 : Int64)) + (l11 * ((v248.toInt64) &&& (4294967295 : Int64)))) + l5).toInt32)) fun M272 =>
  B_X12_product_219 G F r31 n l0 l1 l2 l3 l4 (ushL ((((v234.toInt64) &&& (4294967295 : Int64)) + (l11 * ((v248.toInt64) &&& (4294967295 : Int64)))) + l5) (32 : Int32)) l11 (l13 + 1) M272)
set_option maxHeartbeats 4000000 in
set_option maxRecDepth 100000 in
theorem wB_X12_product_219 {G : Nat → Nat} {F : Nat} {x : mXT} {sz : Nat} {M0 : mM} (X : mCX G RX12 cX12_product 14 none "product" rmX12_product x) (hQ : mQV x M0 (sz, 0, 0)) (r31 : Nat → Nat → Nat → Nat → Int32 → mM → Option mM) (hr31 : ∀ (l0 : Nat) (l1 : Nat) (l2 : Nat) (l3 : Nat) (l4 : Int32) (M : mM), r31 l0 l1 l2 l3 l4 M = some M0 → WW x (sz, 0, 0) M 31 [(0, .ref l0), (1, .ref l1), (2, .ref l2), (3, .ref l3), (4, .int l4)] []) : ∀ (n : Nat) (l0 : Nat) (l1 : Nat) (l2 : Nat) (l3 : Nat) (l4 : Int32) (l5 : Int64) (l11 : Int64) (l13 : Int32) (M : mM), B_X12_product_219 G F r31 n l0 l1 l2 l3 l4 l5 l11 l13 M = some M0 → WW x (sz, 0, 0) M 219 [(0, .ref l0), (1, .ref l1), (2, .ref l2), (3, .ref l3), (4, .int l4), (5, .long l5), (11, .long l11), (13, .int l13)] [] := by
  intro n
  induction n with
  | zero =>
    intro l0 l1 l2 l3 l4 l5 l11 l13 M h
    exact nomatch (show (none : Option mM) = some M0 from h)
  | succ n ih =>
    intro l0 l1 l2 l3 l4 l5 l11 l13 M h
    rw [B_X12_product_219] at h
    refine ww_iload 219 X dX12_product_219 7 rfl ?_
    refine ww_aload_n 221 X dX12_product_221 0 rfl rfl ?_
    obtain ⟨v222, e222, h⟩ := bO_some h
    refine ww_getI 222 X dX12_product_222 fG_X12_31 e222 ?_
    refine ww_icmp_ge 225 286 X dX12_product_225 (by decide) (fun q => ?_) (fun q => ?_)
    · replace h := (if_pos q).symm.trans h
      refine ww_aload_n 286 X dX12_product_286 0 rfl rfl ?_
      obtain ⟨v287, e287, h⟩ := bO_some h
      refine ww_getR 287 X dX12_product_287 fG_X12_19 e287 ?_
      refine ww_aload_n 290 X dX12_product_290 0 rfl rfl ?_
      obtain ⟨v291, e291, h⟩ := bO_some h
      refine ww_getI 291 X dX12_product_291 fG_X12_31 e291 ?_
      obtain ⟨v294, e294, h⟩ := bO_some h
      refine ww_iald 294 X dX12_product_294 e294 ?_
      refine ww_i2l 295 X dX12_product_295 ?_
      refine ww_ldc2 296 X (v := (4294967295 : Int64)) dX12_product_296 kL_X12_47 ?_
      refine ww_land 299 X dX12_product_299 ?_
      refine ww_lload 300 X dX12_product_300 5 rfl ?_
      refine ww_ladd 302 X dX12_product_302 ?_
      refine ww_lstore 303 X dX12_product_303 (lv' := [(0, .ref l0), (1, .ref l1), (2, .ref l2), (3, .ref l3), (4, .int l4), (5, .long l5), (9, .long (((v294.toInt64) &&& (4294967295 : Int64)) + l5)), (11, .long l11), (13, .int l13)]) (by decide) [1, 2, 3, 4, 5, 6, 0, 7, 8] rfl ?_
      refine ww_aload_n 305 X dX12_product_305 0 rfl rfl ?_
      obtain ⟨v306, e306, h⟩ := bO_some h
      refine ww_getR 306 X dX12_product_306 fG_X12_19 e306 ?_
      refine ww_aload_n 309 X dX12_product_309 0 rfl rfl ?_
      obtain ⟨v310, e310, h⟩ := bO_some h
      refine ww_getI 310 X dX12_product_310 fG_X12_31 e310 ?_
      refine ww_iconst 313 X (v := (1 : Int32)) dX12_product_313 (by decide) ?_
      refine ww_isub 314 X dX12_product_314 ?_
      refine ww_lload 315 X dX12_product_315 6 rfl ?_
      refine ww_l2i 317 X dX12_product_317 ?_
      obtain ⟨M318, e318, h⟩ := bO_some h
      refine ww_iast 318 X dX12_product_318 e318 ?_
      refine ww_aload_n 319 X dX12_product_319 0 rfl rfl ?_
      obtain ⟨v320, e320, h⟩ := bO_some h
      refine ww_getR 320 X dX12_product_320 fG_X12_19 e320 ?_
      refine ww_aload_n 323 X dX12_product_323 0 rfl rfl ?_
      obtain ⟨v324, e324, h⟩ := bO_some h
      refine ww_getI 324 X dX12_product_324 fG_X12_31 e324 ?_
      refine ww_aload_n 327 X dX12_product_327 0 rfl rfl ?_
      obtain ⟨v328, e328, h⟩ := bO_some h
      refine ww_getR 328 X dX12_product_328 fG_X12_19 e328 ?_
      refine ww_aload_n 331 X dX12_product_331 0 rfl rfl ?_
      obtain ⟨v332, e332, h⟩ := bO_some h
      refine ww_getI 332 X dX12_product_332 fG_X12_31 e332 ?_
      refine ww_iconst 335 X (v := (1 : Int32)) dX12_product_335 (by decide) ?_
      refine ww_iadd 336 X dX12_product_336 ?_
      obtain ⟨v337, e337, h⟩ := bO_some h
      refine ww_iald 337 X dX12_product_337 e337 ?_
      refine ww_lload 338 X dX12_product_338 6 rfl ?_
      refine ww_bipush 340 X (v := (32 : Int32)) dX12_product_340 (by decide) ?_
      refine ww_lushr 342 X dX12_product_342 ?_
      refine ww_l2i 343 X dX12_product_343 ?_
      refine ww_iadd 344 X dX12_product_344 ?_
      obtain ⟨M345, e345, h⟩ := bO_some h
      refine ww_iast 345 X dX12_product_345 e345 ?_
      refine ww_iinc 346 X dX12_product_346 (lv' := [(0, .ref l0), (1, .ref l1), (2, .ref l2), (3, .ref l3), (4, .int (l4 + 1)), (5, .long l5), (9, .long (((v294.toInt64) &&& (4294967295 : Int64)) + l5)), (11, .long l11), (13, .int l13)]) 4 rfl rfl (by decide) [1, 2, 3, 4, 0, 5, 6, 7, 8] rfl ?_
      refine ww_goto 349 31 X dX12_product_349 (by decide) ?_
      exact ww_sub [0, 1, 2, 3, 4] rfl (hr31 _ _ _ _ _ _ h)
    · replace h := (if_neg q).symm.trans h
      refine ww_aload_n 228 X dX12_product_228 0 rfl rfl ?_
      obtain ⟨v229, e229, h⟩ := bO_some h
      refine ww_getR 229 X dX12_product_229 fG_X12_19 e229 ?_
      refine ww_iload 232 X dX12_product_232 7 rfl ?_
      obtain ⟨v234, e234, h⟩ := bO_some h
      refine ww_iald 234 X dX12_product_234 e234 ?_
      refine ww_i2l 235 X dX12_product_235 ?_
      refine ww_ldc2 236 X (v := (4294967295 : Int64)) dX12_product_236 kL_X12_47 ?_
      refine ww_land 239 X dX12_product_239 ?_
      refine ww_lload 240 X dX12_product_240 6 rfl ?_
      refine ww_aload_n 242 X dX12_product_242 0 rfl rfl ?_
      obtain ⟨v243, e243, h⟩ := bO_some h
      refine ww_getR 243 X dX12_product_243 fG_X12_7 e243 ?_
      refine ww_iload 246 X dX12_product_246 7 rfl ?_
      obtain ⟨v248, e248, h⟩ := bO_some h
      refine ww_iald 248 X dX12_product_248 e248 ?_
      refine ww_i2l 249 X dX12_product_249 ?_
      refine ww_ldc2 250 X (v := (4294967295 : Int64)) dX12_product_250 kL_X12_47 ?_
      refine ww_land 253 X dX12_product_253 ?_
      refine ww_lmul 254 X dX12_product_254 ?_
      refine ww_ladd 255 X dX12_product_255 ?_
      refine ww_lload 256 X dX12_product_256 5 rfl ?_
      refine ww_ladd 258 X dX12_product_258 ?_
      refine ww_lstore 259 X dX12_product_259 (lv' := [(0, .ref l0), (1, .ref l1), (2, .ref l2), (3, .ref l3), (4, .int l4), (5, .long l5), (9, .long ((((v234.toInt64) &&& (4294967295 : Int64)) + (l11 * ((v248.toInt64) &&& (4294967295 : Int64)))) + l5)), (11, .long l11), (13, .int l13)]) (by decide) [1, 2, 3, 4, 5, 6, 0, 7, 8] rfl ?_
      refine ww_aload_n 261 X dX12_product_261 0 rfl rfl ?_
      obtain ⟨v262, e262, h⟩ := bO_some h
      refine ww_getR 262 X dX12_product_262 fG_X12_19 e262 ?_
      refine ww_iload 265 X dX12_product_265 8 rfl ?_
      refine ww_iconst 267 X (v := (1 : Int32)) dX12_product_267 (by decide) ?_
      refine ww_isub 268 X dX12_product_268 ?_
      refine ww_lload 269 X dX12_product_269 6 rfl ?_
      refine ww_l2i 271 X dX12_product_271 ?_
      obtain ⟨M272, e272, h⟩ := bO_some h
      refine ww_iast 272 X dX12_product_272 e272 ?_
      refine ww_lload 273 X dX12_product_273 6 rfl ?_
      refine ww_bipush 275 X (v := (32 : Int32)) dX12_product_275 (by decide) ?_
      refine ww_lushr 277 X dX12_product_277 ?_
      refine ww_lstore 278 X dX12_product_278 (lv' := [(0, .ref l0), (1, .ref l1), (2, .ref l2), (3, .ref l3), (4, .int l4), (5, .long (ushL ((((v234.toInt64) &&& (4294967295 : Int64)) + (l11 * ((v248.toInt64) &&& (4294967295 : Int64)))) + l5) (32 : Int32))), (9, .long ((((v234.toInt64) &&& (4294967295 : Int64)) + (l11 * ((v248.toInt64) &&& (4294967295 : Int64)))) + l5)), (11, .long l11), (13, .int l13)]) (by decide) [1, 2, 3, 4, 5, 0, 6, 7, 8] rfl ?_
      refine ww_iinc 280 X dX12_product_280 (lv' := [(0, .ref l0), (1, .ref l1), (2, .ref l2), (3, .ref l3), (4, .int l4), (5, .long (ushL ((((v234.toInt64) &&& (4294967295 : Int64)) + (l11 * ((v248.toInt64) &&& (4294967295 : Int64)))) + l5) (32 : Int32))), (9, .long ((((v234.toInt64) &&& (4294967295 : Int64)) + (l11 * ((v248.toInt64) &&& (4294967295 : Int64)))) + l5)), (11, .long l11), (13, .int (l13 + 1))]) 8 rfl rfl (by decide) [1, 2, 3, 4, 5, 6, 7, 8, 0] rfl ?_
      refine ww_goto 283 219 X dX12_product_283 (by decide) ?_
      exact ww_sub [0, 1, 2, 3, 4, 5, 7, 8] rfl (ih _ _ _ _ _ _ _ _ _ h)
def B_X12_product_57 (G : Nat → Nat) (F : Nat) (r31 : Nat → Nat → Nat → Nat → Int32 → mM → Option mM) : Nat → Nat → Nat → Nat → Nat → Int32 → Int64 → Int64 → Int32 → mM → Option mM
  | 0, _, _, _, _, _, _, _, _, _ => none
  | n + 1, l0, l1, l2, l3, l4, l5, l7, l9, M =>
  bO (gfI M l0 12 1) fun v60 =>
  if v60 ≤ l9 then (bO (gfR M l0 12 5) fun v120 =>
  bO (gfI M l0 12 1) fun v124 =>
  bO (aI M 0 v120 v124) fun v127 =>
  bO (gfR M l0 12 5) fun v139 =>
  bO (gfI M l0 12 1) fun v143 =>
  bO (sI M 0 v139 v143 ((((v127.toInt64) &&& (4294967295 : Int64)) + l5).toInt32)) fun M149 =>
  bO (gfR M149 l0 12 5) fun v151 =>
  bO (gfI M149 l0 12 1) fun v155 =>
  bO (sI M149 0 v151 (v155 + (1 : Int32)) ((ushL (((v127.toInt64) &&& (4294967295 : Int64)) + l5) (32 : Int32)).toInt32)) fun M166 =>
  bO (gfR M166 l0 12 5) fun v168 =>
  bO (aI M166 0 v168 (0 : Int32)) fun v172 =>
  bO (gfI M166 l0 12 2) fun v174 =>
  bO (gfR M166 l0 12 5) fun v186 =>
  bO (aI M166 0 v186 (0 : Int32)) fun v190 =>
  bO (gfR M166 l0 12 0) fun v199 =>
  bO (aI M166 0 v199 (0 : Int32)) fun v203 =>
  B_X12_product_219 G F r31 F l0 l1 l2 l3 l4 (ushL (((v190.toInt64) &&& (4294967295 : Int64)) + ((((v172 * v174).toInt64) &&& (4294967295 : Int64)) * ((v203.toInt64) &&& (4294967295 : Int64)))) (32 : Int32)) (((v172 * v174).toInt64) &&& (4294967295 : Int64)) (1 : Int32) M166)
  else (bO (gfR M l0 12 5) fun v67 =>
  bO (aI M 0 v67 l9) fun v72 =>
  bO (aI M 0 l2 l9) fun v83 =>
  bO (gfR M l0 12 5) fun v97 =>
  bO (sI M 0 v97 l9 (((((v72.toInt64) &&& (4294967295 : Int64)) + (l7 * ((v83.toInt64) &&& (4294967295 : Int64)))) + l5).toInt32)) fun M105 =>
  B_X12_product_57 G F r31 n l0 l1 l2 l3 l4 (ushL ((((v72.toInt64) &&& (4294967295 : Int64)) + (l7 * ((v83.toInt64) &&& (4294967295 : Int64)))) + l5) (32 : Int32)) l7 (l9 + 1) M105)
set_option maxHeartbeats 4000000 in
set_option maxRecDepth 100000 in
theorem wB_X12_product_57 {G : Nat → Nat} {F : Nat} {x : mXT} {sz : Nat} {M0 : mM} (X : mCX G RX12 cX12_product 14 none "product" rmX12_product x) (hQ : mQV x M0 (sz, 0, 0)) (r31 : Nat → Nat → Nat → Nat → Int32 → mM → Option mM) (hr31 : ∀ (l0 : Nat) (l1 : Nat) (l2 : Nat) (l3 : Nat) (l4 : Int32) (M : mM), r31 l0 l1 l2 l3 l4 M = some M0 → WW x (sz, 0, 0) M 31 [(0, .ref l0), (1, .ref l1), (2, .ref l2), (3, .ref l3), (4, .int l4)] []) : ∀ (n : Nat) (l0 : Nat) (l1 : Nat) (l2 : Nat) (l3 : Nat) (l4 : Int32) (l5 : Int64) (l7 : Int64) (l9 : Int32) (M : mM), B_X12_product_57 G F r31 n l0 l1 l2 l3 l4 l5 l7 l9 M = some M0 → WW x (sz, 0, 0) M 57 [(0, .ref l0), (1, .ref l1), (2, .ref l2), (3, .ref l3), (4, .int l4), (5, .long l5), (7, .long l7), (9, .int l9)] [] := by
  intro n
  induction n with
  | zero =>
    intro l0 l1 l2 l3 l4 l5 l7 l9 M h
    exact nomatch (show (none : Option mM) = some M0 from h)
  | succ n ih =>
    intro l0 l1 l2 l3 l4 l5 l7 l9 M h
    rw [B_X12_product_57] at h
    refine ww_iload 57 X dX12_product_57 7 rfl ?_
    refine ww_aload_n 59 X dX12_product_59 0 rfl rfl ?_
    obtain ⟨v60, e60, h⟩ := bO_some h
    refine ww_getI 60 X dX12_product_60 fG_X12_31 e60 ?_
    refine ww_icmp_ge 63 119 X dX12_product_63 (by decide) (fun q => ?_) (fun q => ?_)
    · replace h := (if_pos q).symm.trans h
      refine ww_aload_n 119 X dX12_product_119 0 rfl rfl ?_
      obtain ⟨v120, e120, h⟩ := bO_some h
      refine ww_getR 120 X dX12_product_120 fG_X12_19 e120 ?_
      refine ww_aload_n 123 X dX12_product_123 0 rfl rfl ?_
      obtain ⟨v124, e124, h⟩ := bO_some h
      refine ww_getI 124 X dX12_product_124 fG_X12_31 e124 ?_
      obtain ⟨v127, e127, h⟩ := bO_some h
      refine ww_iald 127 X dX12_product_127 e127 ?_
      refine ww_i2l 128 X dX12_product_128 ?_
      refine ww_ldc2 129 X (v := (4294967295 : Int64)) dX12_product_129 kL_X12_47 ?_
      refine ww_land 132 X dX12_product_132 ?_
      refine ww_lload 133 X dX12_product_133 5 rfl ?_
      refine ww_ladd 135 X dX12_product_135 ?_
      refine ww_lstore 136 X dX12_product_136 (lv' := [(0, .ref l0), (1, .ref l1), (2, .ref l2), (3, .ref l3), (4, .int l4), (5, .long l5), (7, .long l7), (9, .long (((v127.toInt64) &&& (4294967295 : Int64)) + l5))]) (by decide) [1, 2, 3, 4, 5, 6, 7, 0] rfl ?_
      refine ww_aload_n 138 X dX12_product_138 0 rfl rfl ?_
      obtain ⟨v139, e139, h⟩ := bO_some h
      refine ww_getR 139 X dX12_product_139 fG_X12_19 e139 ?_
      refine ww_aload_n 142 X dX12_product_142 0 rfl rfl ?_
      obtain ⟨v143, e143, h⟩ := bO_some h
      refine ww_getI 143 X dX12_product_143 fG_X12_31 e143 ?_
      refine ww_lload 146 X dX12_product_146 7 rfl ?_
      refine ww_l2i 148 X dX12_product_148 ?_
      obtain ⟨M149, e149, h⟩ := bO_some h
      refine ww_iast 149 X dX12_product_149 e149 ?_
      refine ww_aload_n 150 X dX12_product_150 0 rfl rfl ?_
      obtain ⟨v151, e151, h⟩ := bO_some h
      refine ww_getR 151 X dX12_product_151 fG_X12_19 e151 ?_
      refine ww_aload_n 154 X dX12_product_154 0 rfl rfl ?_
      obtain ⟨v155, e155, h⟩ := bO_some h
      refine ww_getI 155 X dX12_product_155 fG_X12_31 e155 ?_
      refine ww_iconst 158 X (v := (1 : Int32)) dX12_product_158 (by decide) ?_
      refine ww_iadd 159 X dX12_product_159 ?_
      refine ww_lload 160 X dX12_product_160 7 rfl ?_
      refine ww_bipush 162 X (v := (32 : Int32)) dX12_product_162 (by decide) ?_
      refine ww_lushr 164 X dX12_product_164 ?_
      refine ww_l2i 165 X dX12_product_165 ?_
      obtain ⟨M166, e166, h⟩ := bO_some h
      refine ww_iast 166 X dX12_product_166 e166 ?_
      refine ww_aload_n 167 X dX12_product_167 0 rfl rfl ?_
      obtain ⟨v168, e168, h⟩ := bO_some h
      refine ww_getR 168 X dX12_product_168 fG_X12_19 e168 ?_
      refine ww_iconst 171 X (v := (0 : Int32)) dX12_product_171 (by decide) ?_
      obtain ⟨v172, e172, h⟩ := bO_some h
      refine ww_iald 172 X dX12_product_172 e172 ?_
      refine ww_aload_n 173 X dX12_product_173 0 rfl rfl ?_
      obtain ⟨v174, e174, h⟩ := bO_some h
      refine ww_getI 174 X dX12_product_174 fG_X12_39 e174 ?_
      refine ww_imul 177 X dX12_product_177 ?_
      refine ww_i2l 178 X dX12_product_178 ?_
      refine ww_ldc2 179 X (v := (4294967295 : Int64)) dX12_product_179 kL_X12_47 ?_
      refine ww_land 182 X dX12_product_182 ?_
      refine ww_lstore 183 X dX12_product_183 (lv' := [(0, .ref l0), (1, .ref l1), (2, .ref l2), (3, .ref l3), (4, .int l4), (5, .long l5), (7, .long l7), (9, .long (((v127.toInt64) &&& (4294967295 : Int64)) + l5)), (11, .long (((v172 * v174).toInt64) &&& (4294967295 : Int64)))]) (by decide) [1, 2, 3, 4, 5, 6, 7, 8, 0] rfl ?_
      refine ww_aload_n 185 X dX12_product_185 0 rfl rfl ?_
      obtain ⟨v186, e186, h⟩ := bO_some h
      refine ww_getR 186 X dX12_product_186 fG_X12_19 e186 ?_
      refine ww_iconst 189 X (v := (0 : Int32)) dX12_product_189 (by decide) ?_
      obtain ⟨v190, e190, h⟩ := bO_some h
      refine ww_iald 190 X dX12_product_190 e190 ?_
      refine ww_i2l 191 X dX12_product_191 ?_
      refine ww_ldc2 192 X (v := (4294967295 : Int64)) dX12_product_192 kL_X12_47 ?_
      refine ww_land 195 X dX12_product_195 ?_
      refine ww_lload 196 X dX12_product_196 8 rfl ?_
      refine ww_aload_n 198 X dX12_product_198 0 rfl rfl ?_
      obtain ⟨v199, e199, h⟩ := bO_some h
      refine ww_getR 199 X dX12_product_199 fG_X12_7 e199 ?_
      refine ww_iconst 202 X (v := (0 : Int32)) dX12_product_202 (by decide) ?_
      obtain ⟨v203, e203, h⟩ := bO_some h
      refine ww_iald 203 X dX12_product_203 e203 ?_
      refine ww_i2l 204 X dX12_product_204 ?_
      refine ww_ldc2 205 X (v := (4294967295 : Int64)) dX12_product_205 kL_X12_47 ?_
      refine ww_land 208 X dX12_product_208 ?_
      refine ww_lmul 209 X dX12_product_209 ?_
      refine ww_ladd 210 X dX12_product_210 ?_
      refine ww_bipush 211 X (v := (32 : Int32)) dX12_product_211 (by decide) ?_
      refine ww_lushr 213 X dX12_product_213 ?_
      refine ww_lstore 214 X dX12_product_214 (lv' := [(0, .ref l0), (1, .ref l1), (2, .ref l2), (3, .ref l3), (4, .int l4), (5, .long (ushL (((v190.toInt64) &&& (4294967295 : Int64)) + ((((v172 * v174).toInt64) &&& (4294967295 : Int64)) * ((v203.toInt64) &&& (4294967295 : Int64)))) (32 : Int32))), (7, .long l7), (9, .long (((v127.toInt64) &&& (4294967295 : Int64)) + l5)), (11, .long (((v172 * v174).toInt64) &&& (4294967295 : Int64)))]) (by decide) [1, 2, 3, 4, 5, 0, 6, 7, 8] rfl ?_
      refine ww_iconst 216 X (v := (1 : Int32)) dX12_product_216 (by decide) ?_
      refine ww_istore 217 X dX12_product_217 (lv' := [(0, .ref l0), (1, .ref l1), (2, .ref l2), (3, .ref l3), (4, .int l4), (5, .long (ushL (((v190.toInt64) &&& (4294967295 : Int64)) + ((((v172 * v174).toInt64) &&& (4294967295 : Int64)) * ((v203.toInt64) &&& (4294967295 : Int64)))) (32 : Int32))), (7, .long l7), (9, .long (((v127.toInt64) &&& (4294967295 : Int64)) + l5)), (11, .long (((v172 * v174).toInt64) &&& (4294967295 : Int64))), (13, .int (1 : Int32))]) (by decide) [1, 2, 3, 4, 5, 6, 7, 8, 9, 0] rfl ?_
      exact ww_sub [0, 1, 2, 3, 4, 5, 8, 9] rfl (wB_X12_product_219 X hQ _ hr31 F _ _ _ _ _ _ _ _ _ h)
    · replace h := (if_neg q).symm.trans h
      refine ww_aload_n 66 X dX12_product_66 0 rfl rfl ?_
      obtain ⟨v67, e67, h⟩ := bO_some h
      refine ww_getR 67 X dX12_product_67 fG_X12_19 e67 ?_
      refine ww_iload 70 X dX12_product_70 7 rfl ?_
      obtain ⟨v72, e72, h⟩ := bO_some h
      refine ww_iald 72 X dX12_product_72 e72 ?_
      refine ww_i2l 73 X dX12_product_73 ?_
      refine ww_ldc2 74 X (v := (4294967295 : Int64)) dX12_product_74 kL_X12_47 ?_
      refine ww_land 77 X dX12_product_77 ?_
      refine ww_lload 78 X dX12_product_78 6 rfl ?_
      refine ww_aload_n 80 X dX12_product_80 2 rfl rfl ?_
      refine ww_iload 81 X dX12_product_81 7 rfl ?_
      obtain ⟨v83, e83, h⟩ := bO_some h
      refine ww_iald 83 X dX12_product_83 e83 ?_
      refine ww_i2l 84 X dX12_product_84 ?_
      refine ww_ldc2 85 X (v := (4294967295 : Int64)) dX12_product_85 kL_X12_47 ?_
      refine ww_land 88 X dX12_product_88 ?_
      refine ww_lmul 89 X dX12_product_89 ?_
      refine ww_ladd 90 X dX12_product_90 ?_
      refine ww_lload 91 X dX12_product_91 5 rfl ?_
      refine ww_ladd 93 X dX12_product_93 ?_
      refine ww_lstore 94 X dX12_product_94 (lv' := [(0, .ref l0), (1, .ref l1), (2, .ref l2), (3, .ref l3), (4, .int l4), (5, .long l5), (7, .long l7), (9, .int l9), (10, .long ((((v72.toInt64) &&& (4294967295 : Int64)) + (l7 * ((v83.toInt64) &&& (4294967295 : Int64)))) + l5))]) (by decide) [1, 2, 3, 4, 5, 6, 7, 8, 0] rfl ?_
      refine ww_aload_n 96 X dX12_product_96 0 rfl rfl ?_
      obtain ⟨v97, e97, h⟩ := bO_some h
      refine ww_getR 97 X dX12_product_97 fG_X12_19 e97 ?_
      refine ww_iload 100 X dX12_product_100 7 rfl ?_
      refine ww_lload 102 X dX12_product_102 8 rfl ?_
      refine ww_l2i 104 X dX12_product_104 ?_
      obtain ⟨M105, e105, h⟩ := bO_some h
      refine ww_iast 105 X dX12_product_105 e105 ?_
      refine ww_lload 106 X dX12_product_106 8 rfl ?_
      refine ww_bipush 108 X (v := (32 : Int32)) dX12_product_108 (by decide) ?_
      refine ww_lushr 110 X dX12_product_110 ?_
      refine ww_lstore 111 X dX12_product_111 (lv' := [(0, .ref l0), (1, .ref l1), (2, .ref l2), (3, .ref l3), (4, .int l4), (5, .long (ushL ((((v72.toInt64) &&& (4294967295 : Int64)) + (l7 * ((v83.toInt64) &&& (4294967295 : Int64)))) + l5) (32 : Int32))), (7, .long l7), (9, .int l9), (10, .long ((((v72.toInt64) &&& (4294967295 : Int64)) + (l7 * ((v83.toInt64) &&& (4294967295 : Int64)))) + l5))]) (by decide) [1, 2, 3, 4, 5, 0, 6, 7, 8] rfl ?_
      refine ww_iinc 113 X dX12_product_113 (lv' := [(0, .ref l0), (1, .ref l1), (2, .ref l2), (3, .ref l3), (4, .int l4), (5, .long (ushL ((((v72.toInt64) &&& (4294967295 : Int64)) + (l7 * ((v83.toInt64) &&& (4294967295 : Int64)))) + l5) (32 : Int32))), (7, .long l7), (9, .int (l9 + 1)), (10, .long ((((v72.toInt64) &&& (4294967295 : Int64)) + (l7 * ((v83.toInt64) &&& (4294967295 : Int64)))) + l5))]) 7 rfl rfl (by decide) [1, 2, 3, 4, 5, 6, 7, 0, 8] rfl ?_
      refine ww_goto 116 57 X dX12_product_116 (by decide) ?_
      exact ww_sub [0, 1, 2, 3, 4, 5, 6, 7] rfl (ih _ _ _ _ _ _ _ _ _ h)
def B_X12_product_31 (G : Nat → Nat) (F : Nat) : Nat → Nat → Nat → Nat → Nat → Int32 → mM → Option mM
  | 0, _, _, _, _, _, _ => none
  | n + 1, l0, l1, l2, l3, l4, M =>
  bO (gfI M l0 12 1) fun v34 =>
  if v34 ≤ l4 then (bO (gfR M l0 12 5) fun v353 =>
  bO (gfI M l0 12 1) fun v357 =>
  bO (aI M 0 v353 v357) fun v360 =>
  if v360 = 0 then (B_X12_product_374 G F F l0 l3 (0 : Int32) (0 : Int32) M)
  else (B_X12_product_374 G F F l0 l3 (1 : Int32) (0 : Int32) M))
  else (bO (aI M 0 l1 l4) fun v46 =>
  B_X12_product_57 G F (B_X12_product_31 G F n) F l0 l1 l2 l3 l4 (0 : Int64) ((v46.toInt64) &&& (4294967295 : Int64)) (0 : Int32) M)
set_option maxHeartbeats 4000000 in
set_option maxRecDepth 100000 in
theorem wB_X12_product_31 {G : Nat → Nat} {F : Nat} {x : mXT} {sz : Nat} {M0 : mM} (X : mCX G RX12 cX12_product 14 none "product" rmX12_product x) (hQ : mQV x M0 (sz, 0, 0)) : ∀ (n : Nat) (l0 : Nat) (l1 : Nat) (l2 : Nat) (l3 : Nat) (l4 : Int32) (M : mM), B_X12_product_31 G F n l0 l1 l2 l3 l4 M = some M0 → WW x (sz, 0, 0) M 31 [(0, .ref l0), (1, .ref l1), (2, .ref l2), (3, .ref l3), (4, .int l4)] [] := by
  intro n
  induction n with
  | zero =>
    intro l0 l1 l2 l3 l4 M h
    exact nomatch (show (none : Option mM) = some M0 from h)
  | succ n ih =>
    intro l0 l1 l2 l3 l4 M h
    rw [B_X12_product_31] at h
    refine ww_iload 31 X dX12_product_31 4 rfl ?_
    refine ww_aload_n 33 X dX12_product_33 0 rfl rfl ?_
    obtain ⟨v34, e34, h⟩ := bO_some h
    refine ww_getI 34 X dX12_product_34 fG_X12_31 e34 ?_
    refine ww_icmp_ge 37 352 X dX12_product_37 (by decide) (fun q => ?_) (fun q => ?_)
    · replace h := (if_pos q).symm.trans h
      refine ww_aload_n 352 X dX12_product_352 0 rfl rfl ?_
      obtain ⟨v353, e353, h⟩ := bO_some h
      refine ww_getR 353 X dX12_product_353 fG_X12_19 e353 ?_
      refine ww_aload_n 356 X dX12_product_356 0 rfl rfl ?_
      obtain ⟨v357, e357, h⟩ := bO_some h
      refine ww_getI 357 X dX12_product_357 fG_X12_31 e357 ?_
      obtain ⟨v360, e360, h⟩ := bO_some h
      refine ww_iald 360 X dX12_product_360 e360 ?_
      refine ww_if_eq 361 368 X dX12_product_361 (by decide) (fun q => ?_) (fun q => ?_)
      · replace h := (if_pos q).symm.trans h
        refine ww_iconst 368 X (v := (0 : Int32)) dX12_product_368 (by decide) ?_
        refine ww_istore 369 X dX12_product_369 (lv' := [(0, .ref l0), (1, .ref l1), (2, .ref l2), (3, .ref l3), (4, .int (0 : Int32))]) (by decide) [1, 2, 3, 4, 0] rfl ?_
        refine ww_iconst 371 X (v := (0 : Int32)) dX12_product_371 (by decide) ?_
        refine ww_istore 372 X dX12_product_372 (lv' := [(0, .ref l0), (1, .ref l1), (2, .ref l2), (3, .ref l3), (4, .int (0 : Int32)), (5, .int (0 : Int32))]) (by decide) [1, 2, 3, 4, 5, 0] rfl ?_
        exact ww_sub [0, 3, 4, 5] rfl (wB_X12_product_374 X hQ F _ _ _ _ _ h)
      · replace h := (if_neg q).symm.trans h
        refine ww_iconst 364 X (v := (1 : Int32)) dX12_product_364 (by decide) ?_
        refine ww_goto 365 369 X dX12_product_365 (by decide) ?_
        refine ww_istore 369 X dX12_product_369 (lv' := [(0, .ref l0), (1, .ref l1), (2, .ref l2), (3, .ref l3), (4, .int (1 : Int32))]) (by decide) [1, 2, 3, 4, 0] rfl ?_
        refine ww_iconst 371 X (v := (0 : Int32)) dX12_product_371 (by decide) ?_
        refine ww_istore 372 X dX12_product_372 (lv' := [(0, .ref l0), (1, .ref l1), (2, .ref l2), (3, .ref l3), (4, .int (1 : Int32)), (5, .int (0 : Int32))]) (by decide) [1, 2, 3, 4, 5, 0] rfl ?_
        exact ww_sub [0, 3, 4, 5] rfl (wB_X12_product_374 X hQ F _ _ _ _ _ h)
    · replace h := (if_neg q).symm.trans h
      refine ww_lconst 40 X (v := (0 : Int64)) dX12_product_40 (by decide) ?_
      refine ww_lstore 41 X dX12_product_41 (lv' := [(0, .ref l0), (1, .ref l1), (2, .ref l2), (3, .ref l3), (4, .int l4), (5, .long (0 : Int64))]) (by decide) [1, 2, 3, 4, 5, 0] rfl ?_
      refine ww_aload_n 43 X dX12_product_43 1 rfl rfl ?_
      refine ww_iload 44 X dX12_product_44 4 rfl ?_
      obtain ⟨v46, e46, h⟩ := bO_some h
      refine ww_iald 46 X dX12_product_46 e46 ?_
      refine ww_i2l 47 X dX12_product_47 ?_
      refine ww_ldc2 48 X (v := (4294967295 : Int64)) dX12_product_48 kL_X12_47 ?_
      refine ww_land 51 X dX12_product_51 ?_
      refine ww_lstore 52 X dX12_product_52 (lv' := [(0, .ref l0), (1, .ref l1), (2, .ref l2), (3, .ref l3), (4, .int l4), (5, .long (0 : Int64)), (7, .long ((v46.toInt64) &&& (4294967295 : Int64)))]) (by decide) [1, 2, 3, 4, 5, 6, 0] rfl ?_
      refine ww_iconst 54 X (v := (0 : Int32)) dX12_product_54 (by decide) ?_
      refine ww_istore 55 X dX12_product_55 (lv' := [(0, .ref l0), (1, .ref l1), (2, .ref l2), (3, .ref l3), (4, .int l4), (5, .long (0 : Int64)), (7, .long ((v46.toInt64) &&& (4294967295 : Int64))), (9, .int (0 : Int32))]) (by decide) [1, 2, 3, 4, 5, 6, 7, 0] rfl ?_
      exact (wB_X12_product_57 X hQ _ ih F _ _ _ _ _ _ _ _ _ h)
def B_X12_product_3 (G : Nat → Nat) (F : Nat) : Nat → Nat → Nat → Nat → Nat → Int32 → mM → Option mM
  | 0, _, _, _, _, _, _ => none
  | n + 1, l0, l1, l2, l3, l4, M =>
  bO (gfI M l0 12 1) fun v6 =>
  if (v6 + (1 : Int32)) < l4 then (B_X12_product_31 G F F l0 l1 l2 l3 (0 : Int32) M)
  else (bO (gfR M l0 12 5) fun v15 =>
  bO (sI M 0 v15 l4 (0 : Int32)) fun M21 =>
  B_X12_product_3 G F n l0 l1 l2 l3 (l4 + 1) M21)
set_option maxHeartbeats 4000000 in
set_option maxRecDepth 100000 in
theorem wB_X12_product_3 {G : Nat → Nat} {F : Nat} {x : mXT} {sz : Nat} {M0 : mM} (X : mCX G RX12 cX12_product 14 none "product" rmX12_product x) (hQ : mQV x M0 (sz, 0, 0)) : ∀ (n : Nat) (l0 : Nat) (l1 : Nat) (l2 : Nat) (l3 : Nat) (l4 : Int32) (M : mM), B_X12_product_3 G F n l0 l1 l2 l3 l4 M = some M0 → WW x (sz, 0, 0) M 3 [(0, .ref l0), (1, .ref l1), (2, .ref l2), (3, .ref l3), (4, .int l4)] [] := by
  intro n
  induction n with
  | zero =>
    intro l0 l1 l2 l3 l4 M h
    exact nomatch (show (none : Option mM) = some M0 from h)
  | succ n ih =>
    intro l0 l1 l2 l3 l4 M h
    rw [B_X12_product_3] at h
    refine ww_iload 3 X dX12_product_3 4 rfl ?_
    refine ww_aload_n 5 X dX12_product_5 0 rfl rfl ?_
    obtain ⟨v6, e6, h⟩ := bO_some h
    refine ww_getI 6 X dX12_product_6 fG_X12_31 e6 ?_
    refine ww_iconst 9 X (v := (1 : Int32)) dX12_product_9 (by decide) ?_
    refine ww_iadd 10 X dX12_product_10 ?_
    refine ww_icmp_gt 11 28 X dX12_product_11 (by decide) (fun q => ?_) (fun q => ?_)
    · replace h := (if_pos q).symm.trans h
      refine ww_iconst 28 X (v := (0 : Int32)) dX12_product_28 (by decide) ?_
      refine ww_istore 29 X dX12_product_29 (lv' := [(0, .ref l0), (1, .ref l1), (2, .ref l2), (3, .ref l3), (4, .int (0 : Int32))]) (by decide) [1, 2, 3, 4, 0] rfl ?_
      exact (wB_X12_product_31 X hQ F _ _ _ _ _ _ h)
    · replace h := (if_neg q).symm.trans h
      refine ww_aload_n 14 X dX12_product_14 0 rfl rfl ?_
      obtain ⟨v15, e15, h⟩ := bO_some h
      refine ww_getR 15 X dX12_product_15 fG_X12_19 e15 ?_
      refine ww_iload 18 X dX12_product_18 4 rfl ?_
      refine ww_iconst 20 X (v := (0 : Int32)) dX12_product_20 (by decide) ?_
      obtain ⟨M21, e21, h⟩ := bO_some h
      refine ww_iast 21 X dX12_product_21 e21 ?_
      refine ww_iinc 22 X dX12_product_22 (lv' := [(0, .ref l0), (1, .ref l1), (2, .ref l2), (3, .ref l3), (4, .int (l4 + 1))]) 4 rfl rfl (by decide) [1, 2, 3, 4, 0] rfl ?_
      refine ww_goto 25 3 X dX12_product_25 (by decide) ?_
      exact (ih _ _ _ _ _ _ h)
def P_X12_product (G : Nat → Nat) (F : Nat) (l0 : Nat) (l1 : Nat) (l2 : Nat) (l3 : Nat) (M : mM) : Option mM :=
  B_X12_product_3 G F F l0 l1 l2 l3 (0 : Int32) M
set_option maxHeartbeats 4000000 in
set_option maxRecDepth 100000 in
theorem wP_X12_product {G : Nat → Nat} {F : Nat} {x : mXT} {sz : Nat} {M0 : mM} (X : mCX G RX12 cX12_product 14 none "product" rmX12_product x) (hQ : mQV x M0 (sz, 0, 0)) {l0 : Nat} {l1 : Nat} {l2 : Nat} {l3 : Nat} {M : mM} (h : P_X12_product G F l0 l1 l2 l3 M = some M0) : WW x (sz, 0, 0) M 0 [(0, .ref l0), (1, .ref l1), (2, .ref l2), (3, .ref l3)] [] := by
  unfold P_X12_product at h
  refine ww_iconst 0 X (v := (0 : Int32)) dX12_product_0 (by decide) ?_
  refine ww_istore 1 X dX12_product_1 (lv' := [(0, .ref l0), (1, .ref l1), (2, .ref l2), (3, .ref l3), (4, .int (0 : Int32))]) (by decide) [1, 2, 3, 4, 0] rfl ?_
  exact (wB_X12_product_3 X hQ F _ _ _ _ _ _ h)
theorem c_X12_product {G : Nat → Nat} {F sz : Nat} {M0 : mM} (l : Launch) (D : mD) (A : Nat → Prop) {l0 : Nat} {l1 : Nat} {l2 : Nat} {l3 : Nat} {M : mM} (h : P_X12_product G F l0 l1 l2 l3 M = some M0) : mMetV l D G A yX12_product cX12_product 14 none 1 26 0 0 [.ref l0, .ref l1, .ref l2, .ref l3] M sz M0 sz := mMetV_of l D G A (by decide) (Nat.le_of_ble_eq_true rfl) (fun x X hQ => wP_X12_product X hQ h)
