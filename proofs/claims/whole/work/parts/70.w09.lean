/-! SealedTokens.showPayload(LSealedTokens$Bytes;)V -/
theorem dX11_showPayload_0 : decode cX11_showPayload 0 = .ok (.aload_n 0, 1) := by decide +kernel
theorem dX11_showPayload_1 : decode cX11_showPayload 1 = .ok (.getfield 109, 3) := by decide +kernel
theorem dX11_showPayload_4 : decode cX11_showPayload 4 = .ok (.getfield 355, 3) := by decide +kernel
theorem dX11_showPayload_7 : decode cX11_showPayload 7 = .ok (.ifCond .eq 37, 3) := by decide +kernel
theorem dX11_showPayload_10 : decode cX11_showPayload 10 = .ok (.aload_n 0, 1) := by decide +kernel
theorem dX11_showPayload_11 : decode cX11_showPayload 11 = .ok (.aload_n 1, 1) := by decide +kernel
theorem dX11_showPayload_12 : decode cX11_showPayload 12 = .ok (.aload_n 0, 1) := by decide +kernel
theorem dX11_showPayload_13 : decode cX11_showPayload 13 = .ok (.getfield 109, 3) := by decide +kernel
theorem dX11_showPayload_16 : decode cX11_showPayload 16 = .ok (.iconst 1, 1) := by decide +kernel
theorem dX11_showPayload_17 : decode cX11_showPayload 17 = .ok (.invokevirtual 497, 3) := by decide +kernel
theorem dX11_showPayload_20 : decode cX11_showPayload 20 = .ok (.aload_n 0, 1) := by decide +kernel
theorem dX11_showPayload_21 : decode cX11_showPayload 21 = .ok (.getfield 109, 3) := by decide +kernel
theorem dX11_showPayload_24 : decode cX11_showPayload 24 = .ok (.iconst 1, 1) := by decide +kernel
theorem dX11_showPayload_25 : decode cX11_showPayload 25 = .ok (.invokevirtual 382, 3) := by decide +kernel
theorem dX11_showPayload_28 : decode cX11_showPayload 28 = .ok (.aload_n 0, 1) := by decide +kernel
theorem dX11_showPayload_29 : decode cX11_showPayload 29 = .ok (.getfield 109, 3) := by decide +kernel
theorem dX11_showPayload_32 : decode cX11_showPayload 32 = .ok (.iconst 1, 1) := by decide +kernel
theorem dX11_showPayload_33 : decode cX11_showPayload 33 = .ok (.invokevirtual 497, 3) := by decide +kernel
theorem dX11_showPayload_36 : decode cX11_showPayload 36 = .ok (.isub, 1) := by decide +kernel
theorem dX11_showPayload_37 : decode cX11_showPayload 37 = .ok (.invokevirtual 176, 3) := by decide +kernel
theorem dX11_showPayload_40 : decode cX11_showPayload 40 = .ok (.pop, 1) := by decide +kernel
theorem dX11_showPayload_41 : decode cX11_showPayload 41 = .ok (.goto 16, 3) := by decide +kernel
theorem dX11_showPayload_44 : decode cX11_showPayload 44 = .ok (.aload_n 0, 1) := by decide +kernel
theorem dX11_showPayload_45 : decode cX11_showPayload 45 = .ok (.getfield 109, 3) := by decide +kernel
theorem dX11_showPayload_48 : decode cX11_showPayload 48 = .ok (.aload_n 1, 1) := by decide +kernel
theorem dX11_showPayload_49 : decode cX11_showPayload 49 = .ok (.iconst 1, 1) := by decide +kernel
theorem dX11_showPayload_50 : decode cX11_showPayload 50 = .ok (.aload_n 0, 1) := by decide +kernel
theorem dX11_showPayload_51 : decode cX11_showPayload 51 = .ok (.getfield 22, 3) := by decide +kernel
theorem dX11_showPayload_54 : decode cX11_showPayload 54 = .ok (.invokevirtual 378, 3) := by decide +kernel
theorem dX11_showPayload_57 : decode cX11_showPayload 57 = .ok (.return_, 1) := by decide +kernel
abbrev rmX11_showPayload : Room := { frames := 3, cells := 0, slots := 0, locals := 107 }
set_option maxHeartbeats 4000000 in
set_option maxRecDepth 100000 in
theorem wP_X11_showPayload {G : mG} {F : Nat} {x : mXT} {sz : Nat} {M0 : mM} (X : mCX G RX11 cX11_showPayload 2 none "showPayload" rmX11_showPayload x) (hQ : mQV x M0 (sz, 0, 0)) {l0 : Nat} {l1 : Nat} {M : mM} (h : P_X11_showPayload G F l0 l1 M = some M0) : WW x (sz, 0, 0) M 0 [(0, .ref l0), (1, .ref l1)] [] := by
  unfold P_X11_showPayload at h
  refine ww_aload_n 0 X dX11_showPayload_0 0 rfl rfl ?_
  obtain ⟨v1, e1, h⟩ := bO_some h
  refine ww_getR 1 X dX11_showPayload_1 fG_X11_109 e1 ?_
  obtain ⟨v4, e4, h⟩ := bO_some h
  refine ww_getI 4 X dX11_showPayload_4 fG_X11_355 e4 ?_
  refine ww_if_eq 7 44 X dX11_showPayload_7 (by decide) (fun q => ?_) (fun q => ?_)
  · replace h := (if_pos q).symm.trans h
    refine ww_aload_n 44 X dX11_showPayload_44 0 rfl rfl ?_
    obtain ⟨v45, e45, h⟩ := bO_some h
    refine ww_getR 45 X dX11_showPayload_45 fG_X11_109 e45 ?_
    refine ww_aload_n 48 X dX11_showPayload_48 1 rfl rfl ?_
    refine ww_iconst 49 X (v := (1 : Int32)) dX11_showPayload_49 (by decide) ?_
    refine ww_aload_n 50 X dX11_showPayload_50 0 rfl rfl ?_
    obtain ⟨v51, e51, h⟩ := bO_some h
    refine ww_getR 51 X dX11_showPayload_51 fG_X11_22 e51 ?_
    obtain ⟨_, f54, h⟩ := bO_some h
    obtain ⟨M54, e54, h⟩ := bO_some h
    refine ww_callVV0 54 X dX11_showPayload_54 mY_X10_readPart mL_X11_378 (rcv_spec f54) ⟨_, _, rfl⟩ (by decide) (As := [.ref l1, .int (1 : Int32), .ref v51]) (rest := []) rfl rfl ⟨Nat.le_of_ble_eq_true rfl, Nat.le_of_ble_eq_true rfl⟩ (Nat.le_of_ble_eq_true rfl) (fun l D A => c_X10_readPart l D A e54) ?_
    exact ww_vretE 57 X hQ dX11_showPayload_57 h
  · replace h := (if_neg q).symm.trans h
    refine ww_aload_n 10 X dX11_showPayload_10 0 rfl rfl ?_
    refine ww_aload_n 11 X dX11_showPayload_11 1 rfl rfl ?_
    refine ww_aload_n 12 X dX11_showPayload_12 0 rfl rfl ?_
    obtain ⟨v13, e13, h⟩ := bO_some h
    refine ww_getR 13 X dX11_showPayload_13 fG_X11_109 e13 ?_
    refine ww_iconst 16 X (v := (1 : Int32)) dX11_showPayload_16 (by decide) ?_
    obtain ⟨_, f17, h⟩ := bO_some h
    obtain ⟨v17, M17, e17, h⟩ := bP_some h
    refine ww_callVI0 17 X dX11_showPayload_17 mY_X10_partStart mL_X11_497 (rcv_spec f17) ⟨_, _, rfl⟩ (by decide) (As := [.int (1 : Int32)]) (rest := [.ref l1, .ref l0]) rfl rfl ⟨Nat.le_of_ble_eq_true rfl, Nat.le_of_ble_eq_true rfl⟩ (Nat.le_of_ble_eq_true rfl) (fun l D A => c_X10_partStart l D A e17) ?_
    refine ww_aload_n 20 X dX11_showPayload_20 0 rfl rfl ?_
    obtain ⟨v21, e21, h⟩ := bO_some h
    refine ww_getR 21 X dX11_showPayload_21 fG_X11_109 e21 ?_
    refine ww_iconst 24 X (v := (1 : Int32)) dX11_showPayload_24 (by decide) ?_
    obtain ⟨_, f25, h⟩ := bO_some h
    obtain ⟨v25, M25, e25, h⟩ := bP_some h
    refine ww_callVI0 25 X dX11_showPayload_25 mY_X10_partEnd mL_X11_382 (rcv_spec f25) ⟨_, _, rfl⟩ (by decide) (As := [.int (1 : Int32)]) (rest := [.int v17, .ref l1, .ref l0]) rfl rfl ⟨Nat.le_of_ble_eq_true rfl, Nat.le_of_ble_eq_true rfl⟩ (Nat.le_of_ble_eq_true rfl) (fun l D A => c_X10_partEnd l D A e25) ?_
    refine ww_aload_n 28 X dX11_showPayload_28 0 rfl rfl ?_
    obtain ⟨v29, e29, h⟩ := bO_some h
    refine ww_getR 29 X dX11_showPayload_29 fG_X11_109 e29 ?_
    refine ww_iconst 32 X (v := (1 : Int32)) dX11_showPayload_32 (by decide) ?_
    obtain ⟨_, f33, h⟩ := bO_some h
    obtain ⟨v33, M33, e33, h⟩ := bP_some h
    refine ww_callVI0 33 X dX11_showPayload_33 mY_X10_partStart mL_X11_497 (rcv_spec f33) ⟨_, _, rfl⟩ (by decide) (As := [.int (1 : Int32)]) (rest := [.int v25, .int v17, .ref l1, .ref l0]) rfl rfl ⟨Nat.le_of_ble_eq_true rfl, Nat.le_of_ble_eq_true rfl⟩ (Nat.le_of_ble_eq_true rfl) (fun l D A => c_X10_partStart l D A e33) ?_
    refine ww_isub 36 X dX11_showPayload_36 ?_
    obtain ⟨_, f37, h⟩ := bO_some h
    obtain ⟨v37, M37, e37, h⟩ := bP_some h
    refine ww_callVI0 37 X dX11_showPayload_37 mY_X11_show mL_X11_176 (rcv_spec f37) ⟨_, _, rfl⟩ (by decide) (As := [.ref l1, .int v17, .int (v25 - v33)]) (rest := []) rfl rfl ⟨Nat.le_of_ble_eq_true rfl, Nat.le_of_ble_eq_true rfl⟩ (Nat.le_of_ble_eq_true rfl) (fun l D A => c_X11_show l D A e37) ?_
    refine ww_pop 40 X dX11_showPayload_40 rfl ?_
    refine ww_goto 41 57 X dX11_showPayload_41 (by decide) ?_
    exact ww_vretE 57 X hQ dX11_showPayload_57 h
theorem c_X11_showPayload {G : mG} {F sz : Nat} {M0 : mM} (l : Launch) (D : mD) (A : Nat → Prop) {l0 : Nat} {l1 : Nat} {M : mM} (h : P_X11_showPayload G F l0 l1 M = some M0) : mMetV l D G A yX11_showPayload cX11_showPayload 2 none 3 107 0 0 [.ref l0, .ref l1] M sz M0 sz := mMetV_of l D G A (by decide) (Nat.le_of_ble_eq_true rfl) (fun x X hQ => wP_X11_showPayload X hQ h)
/-! SealedTokens.verify(I)I -/
theorem dX11_verify_0 : decode cX11_verify 0 = .ok (.aload_n 0, 1) := by decide +kernel
theorem dX11_verify_1 : decode cX11_verify 1 = .ok (.iload_n 1, 1) := by decide +kernel
theorem dX11_verify_2 : decode cX11_verify 2 = .ok (.invokevirtual 123, 3) := by decide +kernel
theorem dX11_verify_5 : decode cX11_verify 5 = .ok (.ifCond .ne 6, 3) := by decide +kernel
theorem dX11_verify_8 : decode cX11_verify 8 = .ok (.bipush (-2), 2) := by decide +kernel
theorem dX11_verify_10 : decode cX11_verify 10 = .ok (.ireturn, 1) := by decide +kernel
theorem dX11_verify_11 : decode cX11_verify 11 = .ok (.aload_n 0, 1) := by decide +kernel
theorem dX11_verify_12 : decode cX11_verify 12 = .ok (.getfield 11, 3) := by decide +kernel
theorem dX11_verify_15 : decode cX11_verify 15 = .ok (.iload_n 1, 1) := by decide +kernel
theorem dX11_verify_16 : decode cX11_verify 16 = .ok (.aaload, 1) := by decide +kernel
theorem dX11_verify_17 : decode cX11_verify 17 = .ok (.astore_n 2, 1) := by decide +kernel
theorem dX11_verify_18 : decode cX11_verify 18 = .ok (.aload_n 0, 1) := by decide +kernel
theorem dX11_verify_19 : decode cX11_verify 19 = .ok (.getfield 109, 3) := by decide +kernel
theorem dX11_verify_22 : decode cX11_verify 22 = .ok (.aload_n 2, 1) := by decide +kernel
theorem dX11_verify_23 : decode cX11_verify 23 = .ok (.iconst 3, 1) := by decide +kernel
theorem dX11_verify_24 : decode cX11_verify 24 = .ok (.invokevirtual 371, 3) := by decide +kernel
theorem dX11_verify_27 : decode cX11_verify 27 = .ok (.ifCond .ne 6, 3) := by decide +kernel
theorem dX11_verify_30 : decode cX11_verify 30 = .ok (.bipush (-20), 2) := by decide +kernel
theorem dX11_verify_32 : decode cX11_verify 32 = .ok (.ireturn, 1) := by decide +kernel
theorem dX11_verify_33 : decode cX11_verify 33 = .ok (.aload_n 0, 1) := by decide +kernel
theorem dX11_verify_34 : decode cX11_verify 34 = .ok (.getfield 109, 3) := by decide +kernel
theorem dX11_verify_37 : decode cX11_verify 37 = .ok (.aload_n 2, 1) := by decide +kernel
theorem dX11_verify_38 : decode cX11_verify 38 = .ok (.iconst 0, 1) := by decide +kernel
theorem dX11_verify_39 : decode cX11_verify 39 = .ok (.invokevirtual 375, 3) := by decide +kernel
theorem dX11_verify_42 : decode cX11_verify 42 = .ok (.ifCond .eq 6, 3) := by decide +kernel
theorem dX11_verify_45 : decode cX11_verify 45 = .ok (.bipush (-21), 2) := by decide +kernel
theorem dX11_verify_47 : decode cX11_verify 47 = .ok (.ireturn, 1) := by decide +kernel
theorem dX11_verify_48 : decode cX11_verify 48 = .ok (.aload_n 0, 1) := by decide +kernel
theorem dX11_verify_49 : decode cX11_verify 49 = .ok (.getfield 109, 3) := by decide +kernel
theorem dX11_verify_52 : decode cX11_verify 52 = .ok (.aload_n 2, 1) := by decide +kernel
theorem dX11_verify_53 : decode cX11_verify 53 = .ok (.iconst 0, 1) := by decide +kernel
theorem dX11_verify_54 : decode cX11_verify 54 = .ok (.aload_n 0, 1) := by decide +kernel
theorem dX11_verify_55 : decode cX11_verify 55 = .ok (.getfield 109, 3) := by decide +kernel
theorem dX11_verify_58 : decode cX11_verify 58 = .ok (.getfield 352, 3) := by decide +kernel
theorem dX11_verify_61 : decode cX11_verify 61 = .ok (.invokevirtual 378, 3) := by decide +kernel
theorem dX11_verify_64 : decode cX11_verify 64 = .ok (.aload_n 0, 1) := by decide +kernel
theorem dX11_verify_65 : decode cX11_verify 65 = .ok (.getfield 52, 3) := by decide +kernel
theorem dX11_verify_68 : decode cX11_verify 68 = .ok (.aload_n 0, 1) := by decide +kernel
theorem dX11_verify_69 : decode cX11_verify 69 = .ok (.getfield 109, 3) := by decide +kernel
theorem dX11_verify_72 : decode cX11_verify 72 = .ok (.getfield 352, 3) := by decide +kernel
theorem dX11_verify_75 : decode cX11_verify 75 = .ok (.aload_n 0, 1) := by decide +kernel
theorem dX11_verify_76 : decode cX11_verify 76 = .ok (.getfield 44, 3) := by decide +kernel
theorem dX11_verify_79 : decode cX11_verify 79 = .ok (.invokevirtual 142, 3) := by decide +kernel
theorem dX11_verify_82 : decode cX11_verify 82 = .ok (.iconst (-1), 1) := by decide +kernel
theorem dX11_verify_83 : decode cX11_verify 83 = .ok (.if_icmp .eq 6, 3) := by decide +kernel
theorem dX11_verify_86 : decode cX11_verify 86 = .ok (.bipush (-22), 2) := by decide +kernel
theorem dX11_verify_88 : decode cX11_verify 88 = .ok (.ireturn, 1) := by decide +kernel
theorem dX11_verify_89 : decode cX11_verify 89 = .ok (.aload_n 0, 1) := by decide +kernel
theorem dX11_verify_90 : decode cX11_verify 90 = .ok (.getfield 109, 3) := by decide +kernel
theorem dX11_verify_93 : decode cX11_verify 93 = .ok (.aload_n 0, 1) := by decide +kernel
theorem dX11_verify_94 : decode cX11_verify 94 = .ok (.getfield 44, 3) := by decide +kernel
theorem dX11_verify_97 : decode cX11_verify 97 = .ok (.invokevirtual 348, 3) := by decide +kernel
theorem dX11_verify_100 : decode cX11_verify 100 = .ok (.istore_n 3, 1) := by decide +kernel
theorem dX11_verify_101 : decode cX11_verify 101 = .ok (.iload_n 3, 1) := by decide +kernel
theorem dX11_verify_102 : decode cX11_verify 102 = .ok (.ifCond .eq 5, 3) := by decide +kernel
theorem dX11_verify_105 : decode cX11_verify 105 = .ok (.iload_n 3, 1) := by decide +kernel
theorem dX11_verify_106 : decode cX11_verify 106 = .ok (.ireturn, 1) := by decide +kernel
theorem dX11_verify_107 : decode cX11_verify 107 = .ok (.aload_n 0, 1) := by decide +kernel
theorem dX11_verify_108 : decode cX11_verify 108 = .ok (.getfield 109, 3) := by decide +kernel
theorem dX11_verify_111 : decode cX11_verify 111 = .ok (.getfield 355, 3) := by decide +kernel
theorem dX11_verify_114 : decode cX11_verify 114 = .ok (.ifCond .ne 15, 3) := by decide +kernel
theorem dX11_verify_117 : decode cX11_verify 117 = .ok (.aload_n 0, 1) := by decide +kernel
theorem dX11_verify_118 : decode cX11_verify 118 = .ok (.getfield 109, 3) := by decide +kernel
theorem dX11_verify_121 : decode cX11_verify 121 = .ok (.aload_n 2, 1) := by decide +kernel
theorem dX11_verify_122 : decode cX11_verify 122 = .ok (.iconst 1, 1) := by decide +kernel
theorem dX11_verify_123 : decode cX11_verify 123 = .ok (.invokevirtual 375, 3) := by decide +kernel
theorem dX11_verify_126 : decode cX11_verify 126 = .ok (.ifCond .ne 15, 3) := by decide +kernel
theorem dX11_verify_129 : decode cX11_verify 129 = .ok (.aload_n 0, 1) := by decide +kernel
theorem dX11_verify_130 : decode cX11_verify 130 = .ok (.getfield 109, 3) := by decide +kernel
theorem dX11_verify_133 : decode cX11_verify 133 = .ok (.aload_n 2, 1) := by decide +kernel
theorem dX11_verify_134 : decode cX11_verify 134 = .ok (.iconst 2, 1) := by decide +kernel
theorem dX11_verify_135 : decode cX11_verify 135 = .ok (.invokevirtual 375, 3) := by decide +kernel
theorem dX11_verify_138 : decode cX11_verify 138 = .ok (.ifCond .eq 6, 3) := by decide +kernel
theorem dX11_verify_141 : decode cX11_verify 141 = .ok (.bipush (-21), 2) := by decide +kernel
theorem dX11_verify_143 : decode cX11_verify 143 = .ok (.ireturn, 1) := by decide +kernel
theorem dX11_verify_144 : decode cX11_verify 144 = .ok (.aload_n 0, 1) := by decide +kernel
theorem dX11_verify_145 : decode cX11_verify 145 = .ok (.getfield 28, 3) := by decide +kernel
theorem dX11_verify_148 : decode cX11_verify 148 = .ok (.invokevirtual 131, 3) := by decide +kernel
theorem dX11_verify_151 : decode cX11_verify 151 = .ok (.aload_n 0, 1) := by decide +kernel
theorem dX11_verify_152 : decode cX11_verify 152 = .ok (.getfield 28, 3) := by decide +kernel
theorem dX11_verify_155 : decode cX11_verify 155 = .ok (.aload_n 2, 1) := by decide +kernel
theorem dX11_verify_156 : decode cX11_verify 156 = .ok (.iconst 0, 1) := by decide +kernel
theorem dX11_verify_157 : decode cX11_verify 157 = .ok (.aload_n 0, 1) := by decide +kernel
theorem dX11_verify_158 : decode cX11_verify 158 = .ok (.getfield 109, 3) := by decide +kernel
theorem dX11_verify_161 : decode cX11_verify 161 = .ok (.iconst 1, 1) := by decide +kernel
theorem dX11_verify_162 : decode cX11_verify 162 = .ok (.invokevirtual 382, 3) := by decide +kernel
theorem dX11_verify_165 : decode cX11_verify 165 = .ok (.invokevirtual 385, 3) := by decide +kernel
theorem dX11_verify_168 : decode cX11_verify 168 = .ok (.aload_n 0, 1) := by decide +kernel
theorem dX11_verify_169 : decode cX11_verify 169 = .ok (.getfield 109, 3) := by decide +kernel
theorem dX11_verify_172 : decode cX11_verify 172 = .ok (.aload_n 2, 1) := by decide +kernel
theorem dX11_verify_173 : decode cX11_verify 173 = .ok (.iconst 2, 1) := by decide +kernel
theorem dX11_verify_174 : decode cX11_verify 174 = .ok (.aload_n 0, 1) := by decide +kernel
theorem dX11_verify_175 : decode cX11_verify 175 = .ok (.getfield 31, 3) := by decide +kernel
theorem dX11_verify_178 : decode cX11_verify 178 = .ok (.invokevirtual 378, 3) := by decide +kernel
theorem dX11_verify_181 : decode cX11_verify 181 = .ok (.iconst 0, 1) := by decide +kernel
theorem dX11_verify_182 : decode cX11_verify 182 = .ok (.istore 4, 2) := by decide +kernel
theorem dX11_verify_184 : decode cX11_verify 184 = .ok (.iconst 0, 1) := by decide +kernel
theorem dX11_verify_185 : decode cX11_verify 185 = .ok (.istore 5, 2) := by decide +kernel
theorem dX11_verify_187 : decode cX11_verify 187 = .ok (.iload 5, 2) := by decide +kernel
theorem dX11_verify_189 : decode cX11_verify 189 = .ok (.bipush 16, 2) := by decide +kernel
theorem dX11_verify_191 : decode cX11_verify 191 = .ok (.if_icmp .ge 89, 3) := by decide +kernel
theorem dX11_verify_194 : decode cX11_verify 194 = .ok (.aload_n 0, 1) := by decide +kernel
theorem dX11_verify_195 : decode cX11_verify 195 = .ok (.getfield 58, 3) := by decide +kernel
theorem dX11_verify_198 : decode cX11_verify 198 = .ok (.iload 5, 2) := by decide +kernel
theorem dX11_verify_200 : decode cX11_verify 200 = .ok (.aaload, 1) := by decide +kernel
theorem dX11_verify_201 : decode cX11_verify 201 = .ok (.getfield 308, 3) := by decide +kernel
theorem dX11_verify_204 : decode cX11_verify 204 = .ok (.ifCond .eq 70, 3) := by decide +kernel
theorem dX11_verify_207 : decode cX11_verify 207 = .ok (.aload_n 0, 1) := by decide +kernel
theorem dX11_verify_208 : decode cX11_verify 208 = .ok (.getfield 109, 3) := by decide +kernel
theorem dX11_verify_211 : decode cX11_verify 211 = .ok (.aload_n 0, 1) := by decide +kernel
theorem dX11_verify_212 : decode cX11_verify 212 = .ok (.getfield 44, 3) := by decide +kernel
theorem dX11_verify_215 : decode cX11_verify 215 = .ok (.aload_n 0, 1) := by decide +kernel
theorem dX11_verify_216 : decode cX11_verify 216 = .ok (.getfield 58, 3) := by decide +kernel
theorem dX11_verify_219 : decode cX11_verify 219 = .ok (.iload 5, 2) := by decide +kernel
theorem dX11_verify_221 : decode cX11_verify 221 = .ok (.aaload, 1) := by decide +kernel
theorem dX11_verify_222 : decode cX11_verify 222 = .ok (.invokevirtual 388, 3) := by decide +kernel
theorem dX11_verify_225 : decode cX11_verify 225 = .ok (.ifCond .eq 49, 3) := by decide +kernel
theorem dX11_verify_228 : decode cX11_verify 228 = .ok (.aload_n 0, 1) := by decide +kernel
theorem dX11_verify_229 : decode cX11_verify 229 = .ok (.getfield 58, 3) := by decide +kernel
theorem dX11_verify_232 : decode cX11_verify 232 = .ok (.iload 5, 2) := by decide +kernel
theorem dX11_verify_234 : decode cX11_verify 234 = .ok (.aaload, 1) := by decide +kernel
theorem dX11_verify_235 : decode cX11_verify 235 = .ok (.aload_n 0, 1) := by decide +kernel
theorem dX11_verify_236 : decode cX11_verify 236 = .ok (.getfield 109, 3) := by decide +kernel
theorem dX11_verify_239 : decode cX11_verify 239 = .ok (.getfield 351, 3) := by decide +kernel
theorem dX11_verify_242 : decode cX11_verify 242 = .ok (.iconst 0, 1) := by decide +kernel
theorem dX11_verify_243 : decode cX11_verify 243 = .ok (.invokevirtual 340, 3) := by decide +kernel
theorem dX11_verify_246 : decode cX11_verify 246 = .ok (.ifCond .eq 28, 3) := by decide +kernel
theorem dX11_verify_249 : decode cX11_verify 249 = .ok (.iconst 1, 1) := by decide +kernel
theorem dX11_verify_250 : decode cX11_verify 250 = .ok (.istore 4, 2) := by decide +kernel
theorem dX11_verify_252 : decode cX11_verify 252 = .ok (.aload_n 0, 1) := by decide +kernel
theorem dX11_verify_253 : decode cX11_verify 253 = .ok (.aload_n 0, 1) := by decide +kernel
theorem dX11_verify_254 : decode cX11_verify 254 = .ok (.getfield 58, 3) := by decide +kernel
theorem dX11_verify_257 : decode cX11_verify 257 = .ok (.iload 5, 2) := by decide +kernel
theorem dX11_verify_259 : decode cX11_verify 259 = .ok (.aaload, 1) := by decide +kernel
theorem dX11_verify_260 : decode cX11_verify 260 = .ok (.invokevirtual 392, 3) := by decide +kernel
theorem dX11_verify_263 : decode cX11_verify 263 = .ok (.ifCond .eq 11, 3) := by decide +kernel
theorem dX11_verify_266 : decode cX11_verify 266 = .ok (.aload_n 0, 1) := by decide +kernel
theorem dX11_verify_267 : decode cX11_verify 267 = .ok (.aload_n 2, 1) := by decide +kernel
theorem dX11_verify_268 : decode cX11_verify 268 = .ok (.invokevirtual 395, 3) := by decide +kernel
theorem dX11_verify_271 : decode cX11_verify 271 = .ok (.iload 5, 2) := by decide +kernel
theorem dX11_verify_273 : decode cX11_verify 273 = .ok (.ireturn, 1) := by decide +kernel
theorem dX11_verify_274 : decode cX11_verify 274 = .ok (.iinc 5 1, 3) := by decide +kernel
theorem dX11_verify_277 : decode cX11_verify 277 = .ok (.goto (-90), 3) := by decide +kernel
theorem dX11_verify_280 : decode cX11_verify 280 = .ok (.iload 4, 2) := by decide +kernel
theorem dX11_verify_282 : decode cX11_verify 282 = .ok (.ifCond .eq 8, 3) := by decide +kernel
theorem dX11_verify_285 : decode cX11_verify 285 = .ok (.bipush (-27), 2) := by decide +kernel
theorem dX11_verify_287 : decode cX11_verify 287 = .ok (.goto 5, 3) := by decide +kernel
theorem dX11_verify_290 : decode cX11_verify 290 = .ok (.bipush (-26), 2) := by decide +kernel
theorem dX11_verify_292 : decode cX11_verify 292 = .ok (.ireturn, 1) := by decide +kernel
abbrev rmX11_verify : Room := { frames := 9, cells := 0, slots := 0, locals := 220 }
set_option maxHeartbeats 4000000 in
set_option maxRecDepth 100000 in
theorem wB_X11_verify_187 {G : mG} {F : Nat} {x : mXT} {sz : Nat} {r0 : Int32} {M0 : mM} (X : mCX G RX11 cX11_verify 6 (some .int) "verify" rmX11_verify x) (hQ : mQI x r0 M0 (sz, 0, 0)) : ∀ (n : Nat) (l0 : Nat) (l2 : Nat) (l4 : Int32) (l5 : Int32) (M : mM), B_X11_verify_187 G F n l0 l2 l4 l5 M = some (r0, M0) → WW x (sz, 0, 0) M 187 [(0, .ref l0), (2, .ref l2), (4, .int l4), (5, .int l5)] [] := by
  intro n
  induction n with
  | zero =>
    intro l0 l2 l4 l5 M h
    exact nomatch (show (none : Option (Int32 × mM)) = some (r0, M0) from h)
  | succ n ih =>
    intro l0 l2 l4 l5 M h
    rw [B_X11_verify_187] at h
    refine ww_iload 187 X dX11_verify_187 3 rfl ?_
    refine ww_bipush 189 X (v := (16 : Int32)) dX11_verify_189 (by decide) ?_
    refine ww_icmp_ge 191 280 X dX11_verify_191 (by decide) (fun q => ?_) (fun q => ?_)
    · replace h := (if_pos q).symm.trans h
      refine ww_iload 280 X dX11_verify_280 2 rfl ?_
      refine ww_if_eq 282 290 X dX11_verify_282 (by decide) (fun q => ?_) (fun q => ?_)
      · replace h := (if_pos q).symm.trans h
        refine ww_bipush 290 X (v := (-26 : Int32)) dX11_verify_290 (by decide) ?_
        exact ww_iretE 292 X hQ dX11_verify_292 h
      · replace h := (if_neg q).symm.trans h
        refine ww_bipush 285 X (v := (-27 : Int32)) dX11_verify_285 (by decide) ?_
        refine ww_goto 287 292 X dX11_verify_287 (by decide) ?_
        exact ww_iretE 292 X hQ dX11_verify_292 h
    · replace h := (if_neg q).symm.trans h
      refine ww_aload_n 194 X dX11_verify_194 0 rfl rfl ?_
      obtain ⟨v195, e195, h⟩ := bO_some h
      refine ww_getR 195 X dX11_verify_195 fG_X11_58 e195 ?_
      refine ww_iload 198 X dX11_verify_198 3 rfl ?_
      obtain ⟨v200, e200, h⟩ := bO_some h
      refine ww_aald5 200 X dX11_verify_200 e200 ?_
      obtain ⟨v201, e201, h⟩ := bO_some h
      refine ww_getI 201 X dX11_verify_201 fG_X11_308 e201 ?_
      refine ww_if_eq 204 274 X dX11_verify_204 (by decide) (fun q => ?_) (fun q => ?_)
      · replace h := (if_pos q).symm.trans h
        refine ww_iinc 274 X dX11_verify_274 (lv' := [(0, .ref l0), (2, .ref l2), (4, .int l4), (5, .int (l5 + 1))]) 3 rfl rfl (by decide) [1, 2, 3, 0] rfl ?_
        refine ww_goto 277 187 X dX11_verify_277 (by decide) ?_
        exact (ih _ _ _ _ _ h)
      · replace h := (if_neg q).symm.trans h
        refine ww_aload_n 207 X dX11_verify_207 0 rfl rfl ?_
        obtain ⟨v208, e208, h⟩ := bO_some h
        refine ww_getR 208 X dX11_verify_208 fG_X11_109 e208 ?_
        refine ww_aload_n 211 X dX11_verify_211 0 rfl rfl ?_
        obtain ⟨v212, e212, h⟩ := bO_some h
        refine ww_getR 212 X dX11_verify_212 fG_X11_44 e212 ?_
        refine ww_aload_n 215 X dX11_verify_215 0 rfl rfl ?_
        obtain ⟨v216, e216, h⟩ := bO_some h
        refine ww_getR 216 X dX11_verify_216 fG_X11_58 e216 ?_
        refine ww_iload 219 X dX11_verify_219 3 rfl ?_
        obtain ⟨v221, e221, h⟩ := bO_some h
        refine ww_aald5 221 X dX11_verify_221 e221 ?_
        obtain ⟨_, f222, h⟩ := bO_some h
        obtain ⟨v222, M222, e222, h⟩ := bP_some h
        refine ww_callVI0 222 X dX11_verify_222 mY_X10_kidSuits mL_X11_388 (rcv_spec f222) ⟨_, _, rfl⟩ (by decide) (As := [.ref v212, .ref v221]) (rest := []) rfl rfl ⟨Nat.le_of_ble_eq_true rfl, Nat.le_of_ble_eq_true rfl⟩ (Nat.le_of_ble_eq_true rfl) (fun l D A => c_X10_kidSuits l D A e222) ?_
        refine ww_if_eq 225 274 X dX11_verify_225 (by decide) (fun q => ?_) (fun q => ?_)
        · replace h := (if_pos q).symm.trans h
          refine ww_iinc 274 X dX11_verify_274 (lv' := [(0, .ref l0), (2, .ref l2), (4, .int l4), (5, .int (l5 + 1))]) 3 rfl rfl (by decide) [1, 2, 3, 0] rfl ?_
          refine ww_goto 277 187 X dX11_verify_277 (by decide) ?_
          exact (ih _ _ _ _ _ h)
        · replace h := (if_neg q).symm.trans h
          refine ww_aload_n 228 X dX11_verify_228 0 rfl rfl ?_
          obtain ⟨v229, e229, h⟩ := bO_some h
          refine ww_getR 229 X dX11_verify_229 fG_X11_58 e229 ?_
          refine ww_iload 232 X dX11_verify_232 3 rfl ?_
          obtain ⟨v234, e234, h⟩ := bO_some h
          refine ww_aald5 234 X dX11_verify_234 e234 ?_
          refine ww_aload_n 235 X dX11_verify_235 0 rfl rfl ?_
          obtain ⟨v236, e236, h⟩ := bO_some h
          refine ww_getR 236 X dX11_verify_236 fG_X11_109 e236 ?_
          obtain ⟨v239, e239, h⟩ := bO_some h
          refine ww_getI 239 X dX11_verify_239 fG_X11_351 e239 ?_
          refine ww_iconst 242 X (v := (0 : Int32)) dX11_verify_242 (by decide) ?_
          obtain ⟨_, f243, h⟩ := bO_some h
          obtain ⟨v243, M243, e243, h⟩ := bP_some h
          refine ww_callVI0 243 X dX11_verify_243 mY_X5_maySign mL_X11_340 (rcv_spec f243) ⟨_, _, rfl⟩ (by decide) (As := [.int v239, .int (0 : Int32)]) (rest := []) rfl rfl ⟨Nat.le_of_ble_eq_true rfl, Nat.le_of_ble_eq_true rfl⟩ (Nat.le_of_ble_eq_true rfl) (fun l D A => c_X5_maySign l D A e243) ?_
          refine ww_if_eq 246 274 X dX11_verify_246 (by decide) (fun q => ?_) (fun q => ?_)
          · replace h := (if_pos q).symm.trans h
            refine ww_iinc 274 X dX11_verify_274 (lv' := [(0, .ref l0), (2, .ref l2), (4, .int l4), (5, .int (l5 + 1))]) 3 rfl rfl (by decide) [1, 2, 3, 0] rfl ?_
            refine ww_goto 277 187 X dX11_verify_277 (by decide) ?_
            exact (ih _ _ _ _ _ h)
          · replace h := (if_neg q).symm.trans h
            refine ww_iconst 249 X (v := (1 : Int32)) dX11_verify_249 (by decide) ?_
            refine ww_istore 250 X dX11_verify_250 (lv' := [(0, .ref l0), (2, .ref l2), (4, .int (1 : Int32)), (5, .int l5)]) (by decide) [1, 2, 0, 3] rfl ?_
            refine ww_aload_n 252 X dX11_verify_252 0 rfl rfl ?_
            refine ww_aload_n 253 X dX11_verify_253 0 rfl rfl ?_
            obtain ⟨v254, e254, h⟩ := bO_some h
            refine ww_getR 254 X dX11_verify_254 fG_X11_58 e254 ?_
            refine ww_iload 257 X dX11_verify_257 3 rfl ?_
            obtain ⟨v259, e259, h⟩ := bO_some h
            refine ww_aald5 259 X dX11_verify_259 e259 ?_
            obtain ⟨_, f260, h⟩ := bO_some h
            obtain ⟨v260, M260, e260, h⟩ := bP_some h
            refine ww_callVI0 260 X dX11_verify_260 mY_X11_signatureIsRight mL_X11_392 (rcv_spec f260) ⟨_, _, rfl⟩ (by decide) (As := [.ref v259]) (rest := []) rfl rfl ⟨Nat.le_of_ble_eq_true rfl, Nat.le_of_ble_eq_true rfl⟩ (Nat.le_of_ble_eq_true rfl) (fun l D A => c_X11_signatureIsRight l D A e260) ?_
            refine ww_if_eq 263 274 X dX11_verify_263 (by decide) (fun q => ?_) (fun q => ?_)
            · replace h := (if_pos q).symm.trans h
              refine ww_iinc 274 X dX11_verify_274 (lv' := [(0, .ref l0), (2, .ref l2), (4, .int (1 : Int32)), (5, .int (l5 + 1))]) 3 rfl rfl (by decide) [1, 2, 3, 0] rfl ?_
              refine ww_goto 277 187 X dX11_verify_277 (by decide) ?_
              exact (ih _ _ _ _ _ h)
            · replace h := (if_neg q).symm.trans h
              refine ww_aload_n 266 X dX11_verify_266 0 rfl rfl ?_
              refine ww_aload_n 267 X dX11_verify_267 1 rfl rfl ?_
              obtain ⟨_, f268, h⟩ := bO_some h
              obtain ⟨M268, e268, h⟩ := bO_some h
              refine ww_callVV0 268 X dX11_verify_268 mY_X11_showPayload mL_X11_395 (rcv_spec f268) ⟨_, _, rfl⟩ (by decide) (As := [.ref l2]) (rest := []) rfl rfl ⟨Nat.le_of_ble_eq_true rfl, Nat.le_of_ble_eq_true rfl⟩ (Nat.le_of_ble_eq_true rfl) (fun l D A => c_X11_showPayload l D A e268) ?_
              refine ww_iload 271 X dX11_verify_271 3 rfl ?_
              exact ww_iretE 273 X hQ dX11_verify_273 h
set_option maxHeartbeats 4000000 in
set_option maxRecDepth 100000 in
theorem wB_X11_verify_129 {G : mG} {F : Nat} {x : mXT} {sz : Nat} {r0 : Int32} {M0 : mM} (X : mCX G RX11 cX11_verify 6 (some .int) "verify" rmX11_verify x) (hQ : mQI x r0 M0 (sz, 0, 0)) {l0 : Nat} {l2 : Nat} {M : mM} (h : B_X11_verify_129 G F l0 l2 M = some (r0, M0)) : WW x (sz, 0, 0) M 129 [(0, .ref l0), (2, .ref l2)] [] := by
  unfold B_X11_verify_129 at h
  refine ww_aload_n 129 X dX11_verify_129 0 rfl rfl ?_
  obtain ⟨v130, e130, h⟩ := bO_some h
  refine ww_getR 130 X dX11_verify_130 fG_X11_109 e130 ?_
  refine ww_aload_n 133 X dX11_verify_133 1 rfl rfl ?_
  refine ww_iconst 134 X (v := (2 : Int32)) dX11_verify_134 (by decide) ?_
  obtain ⟨_, f135, h⟩ := bO_some h
  obtain ⟨v135, M135, e135, h⟩ := bP_some h
  refine ww_callVI0 135 X dX11_verify_135 mY_X10_isFaulty mL_X11_375 (rcv_spec f135) ⟨_, _, rfl⟩ (by decide) (As := [.ref l2, .int (2 : Int32)]) (rest := []) rfl rfl ⟨Nat.le_of_ble_eq_true rfl, Nat.le_of_ble_eq_true rfl⟩ (Nat.le_of_ble_eq_true rfl) (fun l D A => c_X10_isFaulty l D A e135) ?_
  refine ww_if_eq 138 144 X dX11_verify_138 (by decide) (fun q => ?_) (fun q => ?_)
  · replace h := (if_pos q).symm.trans h
    refine ww_aload_n 144 X dX11_verify_144 0 rfl rfl ?_
    obtain ⟨v145, e145, h⟩ := bO_some h
    refine ww_getR 145 X dX11_verify_145 fG_X11_28 e145 ?_
    obtain ⟨_, f148, h⟩ := bO_some h
    obtain ⟨M148, e148, h⟩ := bO_some h
    refine ww_callVV0 148 X dX11_verify_148 mY_X0_clear mL_X11_131 (rcv_spec f148) ⟨_, _, rfl⟩ (by decide) (As := []) (rest := []) rfl rfl ⟨Nat.le_of_ble_eq_true rfl, Nat.le_of_ble_eq_true rfl⟩ (Nat.le_of_ble_eq_true rfl) (fun l D A => c_X0_clear l D A e148) ?_
    refine ww_aload_n 151 X dX11_verify_151 0 rfl rfl ?_
    obtain ⟨v152, e152, h⟩ := bO_some h
    refine ww_getR 152 X dX11_verify_152 fG_X11_28 e152 ?_
    refine ww_aload_n 155 X dX11_verify_155 1 rfl rfl ?_
    refine ww_iconst 156 X (v := (0 : Int32)) dX11_verify_156 (by decide) ?_
    refine ww_aload_n 157 X dX11_verify_157 0 rfl rfl ?_
    obtain ⟨v158, e158, h⟩ := bO_some h
    refine ww_getR 158 X dX11_verify_158 fG_X11_109 e158 ?_
    refine ww_iconst 161 X (v := (1 : Int32)) dX11_verify_161 (by decide) ?_
    obtain ⟨_, f162, h⟩ := bO_some h
    obtain ⟨v162, M162, e162, h⟩ := bP_some h
    refine ww_callVI0 162 X dX11_verify_162 mY_X10_partEnd mL_X11_382 (rcv_spec f162) ⟨_, _, rfl⟩ (by decide) (As := [.int (1 : Int32)]) (rest := [.int (0 : Int32), .ref l2, .ref v152]) rfl rfl ⟨Nat.le_of_ble_eq_true rfl, Nat.le_of_ble_eq_true rfl⟩ (Nat.le_of_ble_eq_true rfl) (fun l D A => c_X10_partEnd l D A e162) ?_
    obtain ⟨_, f165, h⟩ := bO_some h
    obtain ⟨M165, e165, h⟩ := bO_some h
    refine ww_callVV0 165 X dX11_verify_165 mY_X0_putPart mL_X11_385 (rcv_spec f165) ⟨_, _, rfl⟩ (by decide) (As := [.ref l2, .int (0 : Int32), .int v162]) (rest := []) rfl rfl ⟨Nat.le_of_ble_eq_true rfl, Nat.le_of_ble_eq_true rfl⟩ (Nat.le_of_ble_eq_true rfl) (fun l D A => c_X0_putPart l D A e165) ?_
    refine ww_aload_n 168 X dX11_verify_168 0 rfl rfl ?_
    obtain ⟨v169, e169, h⟩ := bO_some h
    refine ww_getR 169 X dX11_verify_169 fG_X11_109 e169 ?_
    refine ww_aload_n 172 X dX11_verify_172 1 rfl rfl ?_
    refine ww_iconst 173 X (v := (2 : Int32)) dX11_verify_173 (by decide) ?_
    refine ww_aload_n 174 X dX11_verify_174 0 rfl rfl ?_
    obtain ⟨v175, e175, h⟩ := bO_some h
    refine ww_getR 175 X dX11_verify_175 fG_X11_31 e175 ?_
    obtain ⟨_, f178, h⟩ := bO_some h
    obtain ⟨M178, e178, h⟩ := bO_some h
    refine ww_callVV0 178 X dX11_verify_178 mY_X10_readPart mL_X11_378 (rcv_spec f178) ⟨_, _, rfl⟩ (by decide) (As := [.ref l2, .int (2 : Int32), .ref v175]) (rest := []) rfl rfl ⟨Nat.le_of_ble_eq_true rfl, Nat.le_of_ble_eq_true rfl⟩ (Nat.le_of_ble_eq_true rfl) (fun l D A => c_X10_readPart l D A e178) ?_
    refine ww_iconst 181 X (v := (0 : Int32)) dX11_verify_181 (by decide) ?_
    refine ww_istore 182 X dX11_verify_182 (lv' := [(0, .ref l0), (2, .ref l2), (4, .int (0 : Int32))]) (by decide) [1, 2, 0] rfl ?_
    refine ww_iconst 184 X (v := (0 : Int32)) dX11_verify_184 (by decide) ?_
    refine ww_istore 185 X dX11_verify_185 (lv' := [(0, .ref l0), (2, .ref l2), (4, .int (0 : Int32)), (5, .int (0 : Int32))]) (by decide) [1, 2, 3, 0] rfl ?_
    exact (wB_X11_verify_187 X hQ F _ _ _ _ _ h)
  · replace h := (if_neg q).symm.trans h
    refine ww_bipush 141 X (v := (-21 : Int32)) dX11_verify_141 (by decide) ?_
    exact ww_iretE 143 X hQ dX11_verify_143 h
set_option maxHeartbeats 4000000 in
set_option maxRecDepth 100000 in
theorem wP_X11_verify {G : mG} {F : Nat} {x : mXT} {sz : Nat} {r0 : Int32} {M0 : mM} (X : mCX G RX11 cX11_verify 6 (some .int) "verify" rmX11_verify x) (hQ : mQI x r0 M0 (sz, 0, 0)) {l0 : Nat} {l1 : Int32} {M : mM} (h : P_X11_verify G F l0 l1 M = some (r0, M0)) : WW x (sz, 0, 0) M 0 [(0, .ref l0), (1, .int l1)] [] := by
  unfold P_X11_verify at h
  refine ww_aload_n 0 X dX11_verify_0 0 rfl rfl ?_
  refine ww_iload_n 1 X dX11_verify_1 1 rfl rfl ?_
  obtain ⟨_, f2, h⟩ := bO_some h
  obtain ⟨v2, M2, e2, h⟩ := bP_some h
  refine ww_callVI0 2 X dX11_verify_2 mY_X11_isRow mL_X11_123 (rcv_spec f2) ⟨_, _, rfl⟩ (by decide) (As := [.int l1]) (rest := []) rfl rfl ⟨Nat.le_of_ble_eq_true rfl, Nat.le_of_ble_eq_true rfl⟩ (Nat.le_of_ble_eq_true rfl) (fun l D A => c_X11_isRow l D A e2) ?_
  refine ww_if_ne 5 11 X dX11_verify_5 (by decide) (fun q => ?_) (fun q => ?_)
  · replace h := (if_neg q).symm.trans h
    refine ww_aload_n 11 X dX11_verify_11 0 rfl rfl ?_
    obtain ⟨v12, e12, h⟩ := bO_some h
    refine ww_getR 12 X dX11_verify_12 fG_X11_11 e12 ?_
    refine ww_iload_n 15 X dX11_verify_15 1 rfl rfl ?_
    obtain ⟨v16, e16, h⟩ := bO_some h
    refine ww_aald4 16 X dX11_verify_16 e16 ?_
    refine ww_astore_n 17 X dX11_verify_17 (lv' := [(0, .ref l0), (1, .int l1), (2, .ref v16)]) rfl (by decide) [1, 2, 0] rfl ?_
    refine ww_aload_n 18 X dX11_verify_18 0 rfl rfl ?_
    obtain ⟨v19, e19, h⟩ := bO_some h
    refine ww_getR 19 X dX11_verify_19 fG_X11_109 e19 ?_
    refine ww_aload_n 22 X dX11_verify_22 2 rfl rfl ?_
    refine ww_iconst 23 X (v := (3 : Int32)) dX11_verify_23 (by decide) ?_
    obtain ⟨_, f24, h⟩ := bO_some h
    obtain ⟨v24, M24, e24, h⟩ := bP_some h
    refine ww_callVI0 24 X dX11_verify_24 mY_X10_split mL_X11_371 (rcv_spec f24) ⟨_, _, rfl⟩ (by decide) (As := [.ref v16, .int (3 : Int32)]) (rest := []) rfl rfl ⟨Nat.le_of_ble_eq_true rfl, Nat.le_of_ble_eq_true rfl⟩ (Nat.le_of_ble_eq_true rfl) (fun l D A => c_X10_split l D A e24) ?_
    refine ww_if_ne 27 33 X dX11_verify_27 (by decide) (fun q => ?_) (fun q => ?_)
    · replace h := (if_neg q).symm.trans h
      refine ww_aload_n 33 X dX11_verify_33 0 rfl rfl ?_
      obtain ⟨v34, e34, h⟩ := bO_some h
      refine ww_getR 34 X dX11_verify_34 fG_X11_109 e34 ?_
      refine ww_aload_n 37 X dX11_verify_37 2 rfl rfl ?_
      refine ww_iconst 38 X (v := (0 : Int32)) dX11_verify_38 (by decide) ?_
      obtain ⟨_, f39, h⟩ := bO_some h
      obtain ⟨v39, M39, e39, h⟩ := bP_some h
      refine ww_callVI0 39 X dX11_verify_39 mY_X10_isFaulty mL_X11_375 (rcv_spec f39) ⟨_, _, rfl⟩ (by decide) (As := [.ref v16, .int (0 : Int32)]) (rest := []) rfl rfl ⟨Nat.le_of_ble_eq_true rfl, Nat.le_of_ble_eq_true rfl⟩ (Nat.le_of_ble_eq_true rfl) (fun l D A => c_X10_isFaulty l D A e39) ?_
      refine ww_if_eq 42 48 X dX11_verify_42 (by decide) (fun q => ?_) (fun q => ?_)
      · replace h := (if_pos q).symm.trans h
        refine ww_aload_n 48 X dX11_verify_48 0 rfl rfl ?_
        obtain ⟨v49, e49, h⟩ := bO_some h
        refine ww_getR 49 X dX11_verify_49 fG_X11_109 e49 ?_
        refine ww_aload_n 52 X dX11_verify_52 2 rfl rfl ?_
        refine ww_iconst 53 X (v := (0 : Int32)) dX11_verify_53 (by decide) ?_
        refine ww_aload_n 54 X dX11_verify_54 0 rfl rfl ?_
        obtain ⟨v55, e55, h⟩ := bO_some h
        refine ww_getR 55 X dX11_verify_55 fG_X11_109 e55 ?_
        obtain ⟨v58, e58, h⟩ := bO_some h
        refine ww_getR 58 X dX11_verify_58 fG_X11_352 e58 ?_
        obtain ⟨_, f61, h⟩ := bO_some h
        obtain ⟨M61, e61, h⟩ := bO_some h
        refine ww_callVV0 61 X dX11_verify_61 mY_X10_readPart mL_X11_378 (rcv_spec f61) ⟨_, _, rfl⟩ (by decide) (As := [.ref v16, .int (0 : Int32), .ref v58]) (rest := []) rfl rfl ⟨Nat.le_of_ble_eq_true rfl, Nat.le_of_ble_eq_true rfl⟩ (Nat.le_of_ble_eq_true rfl) (fun l D A => c_X10_readPart l D A e61) ?_
        refine ww_aload_n 64 X dX11_verify_64 0 rfl rfl ?_
        obtain ⟨v65, e65, h⟩ := bO_some h
        refine ww_getR 65 X dX11_verify_65 fG_X11_52 e65 ?_
        refine ww_aload_n 68 X dX11_verify_68 0 rfl rfl ?_
        obtain ⟨v69, e69, h⟩ := bO_some h
        refine ww_getR 69 X dX11_verify_69 fG_X11_109 e69 ?_
        obtain ⟨v72, e72, h⟩ := bO_some h
        refine ww_getR 72 X dX11_verify_72 fG_X11_352 e72 ?_
        refine ww_aload_n 75 X dX11_verify_75 0 rfl rfl ?_
        obtain ⟨v76, e76, h⟩ := bO_some h
        refine ww_getR 76 X dX11_verify_76 fG_X11_44 e76 ?_
        obtain ⟨_, f79, h⟩ := bO_some h
        obtain ⟨v79, M79, e79, h⟩ := bP_some h
        refine ww_callVI0 79 X dX11_verify_79 mY_X7_read mL_X11_142 (rcv_spec f79) ⟨_, _, rfl⟩ (by decide) (As := [.ref v72, .ref v76]) (rest := []) rfl rfl ⟨Nat.le_of_ble_eq_true rfl, Nat.le_of_ble_eq_true rfl⟩ (Nat.le_of_ble_eq_true rfl) (fun l D A => c_X7_read l D A e79) ?_
        refine ww_iconst 82 X (v := (-1 : Int32)) dX11_verify_82 (by decide) ?_
        refine ww_icmp_eq 83 89 X dX11_verify_83 (by decide) (fun q => ?_) (fun q => ?_)
        · replace h := (if_pos q).symm.trans h
          refine ww_aload_n 89 X dX11_verify_89 0 rfl rfl ?_
          obtain ⟨v90, e90, h⟩ := bO_some h
          refine ww_getR 90 X dX11_verify_90 fG_X11_109 e90 ?_
          refine ww_aload_n 93 X dX11_verify_93 0 rfl rfl ?_
          obtain ⟨v94, e94, h⟩ := bO_some h
          refine ww_getR 94 X dX11_verify_94 fG_X11_44 e94 ?_
          obtain ⟨_, f97, h⟩ := bO_some h
          obtain ⟨v97, M97, e97, h⟩ := bP_some h
          refine ww_callVI0 97 X dX11_verify_97 mY_X10_signedHeadReason mL_X11_348 (rcv_spec f97) ⟨_, _, rfl⟩ (by decide) (As := [.ref v94]) (rest := []) rfl rfl ⟨Nat.le_of_ble_eq_true rfl, Nat.le_of_ble_eq_true rfl⟩ (Nat.le_of_ble_eq_true rfl) (fun l D A => c_X10_signedHeadReason l D A e97) ?_
          refine ww_istore_n 100 X dX11_verify_100 (lv' := [(0, .ref l0), (1, .int l1), (2, .ref v16), (3, .int v97)]) rfl (by decide) [1, 2, 3, 0] rfl ?_
          refine ww_iload_n 101 X dX11_verify_101 3 rfl rfl ?_
          refine ww_if_eq 102 107 X dX11_verify_102 (by decide) (fun q => ?_) (fun q => ?_)
          · replace h := (if_pos q).symm.trans h
            refine ww_aload_n 107 X dX11_verify_107 0 rfl rfl ?_
            obtain ⟨v108, e108, h⟩ := bO_some h
            refine ww_getR 108 X dX11_verify_108 fG_X11_109 e108 ?_
            obtain ⟨v111, e111, h⟩ := bO_some h
            refine ww_getI 111 X dX11_verify_111 fG_X11_355 e111 ?_
            refine ww_if_ne 114 129 X dX11_verify_114 (by decide) (fun q => ?_) (fun q => ?_)
            · replace h := (if_neg q).symm.trans h
              exact ww_sub [0, 2] rfl (wB_X11_verify_129 X hQ h)
            · replace h := (if_pos q).symm.trans h
              refine ww_aload_n 117 X dX11_verify_117 0 rfl rfl ?_
              obtain ⟨v118, e118, h⟩ := bO_some h
              refine ww_getR 118 X dX11_verify_118 fG_X11_109 e118 ?_
              refine ww_aload_n 121 X dX11_verify_121 2 rfl rfl ?_
              refine ww_iconst 122 X (v := (1 : Int32)) dX11_verify_122 (by decide) ?_
              obtain ⟨_, f123, h⟩ := bO_some h
              obtain ⟨v123, M123, e123, h⟩ := bP_some h
              refine ww_callVI0 123 X dX11_verify_123 mY_X10_isFaulty mL_X11_375 (rcv_spec f123) ⟨_, _, rfl⟩ (by decide) (As := [.ref v16, .int (1 : Int32)]) (rest := []) rfl rfl ⟨Nat.le_of_ble_eq_true rfl, Nat.le_of_ble_eq_true rfl⟩ (Nat.le_of_ble_eq_true rfl) (fun l D A => c_X10_isFaulty l D A e123) ?_
              refine ww_if_ne 126 141 X dX11_verify_126 (by decide) (fun q => ?_) (fun q => ?_)
              · replace h := (if_neg q).symm.trans h
                refine ww_bipush 141 X (v := (-21 : Int32)) dX11_verify_141 (by decide) ?_
                exact ww_iretE 143 X hQ dX11_verify_143 h
              · replace h := (if_pos q).symm.trans h
                exact ww_sub [0, 2] rfl (wB_X11_verify_129 X hQ h)
          · replace h := (if_neg q).symm.trans h
            refine ww_iload_n 105 X dX11_verify_105 3 rfl rfl ?_
            exact ww_iretE 106 X hQ dX11_verify_106 h
        · replace h := (if_neg q).symm.trans h
          refine ww_bipush 86 X (v := (-22 : Int32)) dX11_verify_86 (by decide) ?_
          exact ww_iretE 88 X hQ dX11_verify_88 h
      · replace h := (if_neg q).symm.trans h
        refine ww_bipush 45 X (v := (-21 : Int32)) dX11_verify_45 (by decide) ?_
        exact ww_iretE 47 X hQ dX11_verify_47 h
    · replace h := (if_pos q).symm.trans h
      refine ww_bipush 30 X (v := (-20 : Int32)) dX11_verify_30 (by decide) ?_
      exact ww_iretE 32 X hQ dX11_verify_32 h
  · replace h := (if_pos q).symm.trans h
    refine ww_bipush 8 X (v := (-2 : Int32)) dX11_verify_8 (by decide) ?_
    exact ww_iretE 10 X hQ dX11_verify_10 h
theorem c_X11_verify {G : mG} {F sz : Nat} {r0 : Int32} {M0 : mM} (l : Launch) (D : mD) (A : Nat → Prop) {l0 : Nat} {l1 : Int32} {M : mM} (h : P_X11_verify G F l0 l1 M = some (r0, M0)) : mMetI l D G A yX11_verify cX11_verify 6 (some .int) 9 220 0 0 [.ref l0, .int l1] M sz r0 M0 sz := mMetI_of l D G A (by decide) (Nat.le_of_ble_eq_true rfl) (fun x X hQ => wP_X11_verify X hQ h)
/-! SealedTokens.agree(LSealedTokens$Bytes;LSealedTokens$Bytes;LSealedTokens$Bytes;LSealedTokens$Bytes;)V -/
theorem dX11_agree_0 : decode cX11_agree 0 = .ok (.aload_n 0, 1) := by decide +kernel
theorem dX11_agree_1 : decode cX11_agree 1 = .ok (.getfield 102, 3) := by decide +kernel
theorem dX11_agree_4 : decode cX11_agree 4 = .ok (.aload_n 2, 1) := by decide +kernel
theorem dX11_agree_5 : decode cX11_agree 5 = .ok (.invokevirtual 279, 3) := by decide +kernel
theorem dX11_agree_8 : decode cX11_agree 8 = .ok (.pop, 1) := by decide +kernel
theorem dX11_agree_9 : decode cX11_agree 9 = .ok (.aload_n 0, 1) := by decide +kernel
theorem dX11_agree_10 : decode cX11_agree 10 = .ok (.getfield 102, 3) := by decide +kernel
theorem dX11_agree_13 : decode cX11_agree 13 = .ok (.aload_n 1, 1) := by decide +kernel
theorem dX11_agree_14 : decode cX11_agree 14 = .ok (.aload_n 0, 1) := by decide +kernel
theorem dX11_agree_15 : decode cX11_agree 15 = .ok (.getfield 102, 3) := by decide +kernel
theorem dX11_agree_18 : decode cX11_agree 18 = .ok (.getfield 286, 3) := by decide +kernel
theorem dX11_agree_21 : decode cX11_agree 21 = .ok (.aload_n 0, 1) := by decide +kernel
theorem dX11_agree_22 : decode cX11_agree 22 = .ok (.getfield 25, 3) := by decide +kernel
theorem dX11_agree_25 : decode cX11_agree 25 = .ok (.aload_n 0, 1) := by decide +kernel
theorem dX11_agree_26 : decode cX11_agree 26 = .ok (.getfield 102, 3) := by decide +kernel
theorem dX11_agree_29 : decode cX11_agree 29 = .ok (.getfield 282, 3) := by decide +kernel
theorem dX11_agree_32 : decode cX11_agree 32 = .ok (.invokevirtual 289, 3) := by decide +kernel
theorem dX11_agree_35 : decode cX11_agree 35 = .ok (.aload_n 0, 1) := by decide +kernel
theorem dX11_agree_36 : decode cX11_agree 36 = .ok (.getfield 102, 3) := by decide +kernel
theorem dX11_agree_39 : decode cX11_agree 39 = .ok (.aload_n 0, 1) := by decide +kernel
theorem dX11_agree_40 : decode cX11_agree 40 = .ok (.getfield 109, 3) := by decide +kernel
theorem dX11_agree_43 : decode cX11_agree 43 = .ok (.getfield 530, 3) := by decide +kernel
theorem dX11_agree_46 : decode cX11_agree 46 = .ok (.invokevirtual 293, 3) := by decide +kernel
theorem dX11_agree_49 : decode cX11_agree 49 = .ok (.pop, 1) := by decide +kernel
theorem dX11_agree_50 : decode cX11_agree 50 = .ok (.aload_n 0, 1) := by decide +kernel
theorem dX11_agree_51 : decode cX11_agree 51 = .ok (.getfield 109, 3) := by decide +kernel
theorem dX11_agree_54 : decode cX11_agree 54 = .ok (.getfield 530, 3) := by decide +kernel
theorem dX11_agree_57 : decode cX11_agree 57 = .ok (.bipush 32, 2) := by decide +kernel
theorem dX11_agree_59 : decode cX11_agree 59 = .ok (.invokevirtual 120, 3) := by decide +kernel
theorem dX11_agree_62 : decode cX11_agree 62 = .ok (.aload_n 0, 1) := by decide +kernel
theorem dX11_agree_63 : decode cX11_agree 63 = .ok (.getfield 109, 3) := by decide +kernel
theorem dX11_agree_66 : decode cX11_agree 66 = .ok (.getfield 533, 3) := by decide +kernel
theorem dX11_agree_69 : decode cX11_agree 69 = .ok (.invokevirtual 131, 3) := by decide +kernel
theorem dX11_agree_72 : decode cX11_agree 72 = .ok (.aload_n 0, 1) := by decide +kernel
theorem dX11_agree_73 : decode cX11_agree 73 = .ok (.getfield 109, 3) := by decide +kernel
theorem dX11_agree_76 : decode cX11_agree 76 = .ok (.getfield 533, 3) := by decide +kernel
theorem dX11_agree_79 : decode cX11_agree 79 = .ok (.aload_n 0, 1) := by decide +kernel
theorem dX11_agree_80 : decode cX11_agree 80 = .ok (.getfield 109, 3) := by decide +kernel
theorem dX11_agree_83 : decode cX11_agree 83 = .ok (.getfield 351, 3) := by decide +kernel
theorem dX11_agree_86 : decode cX11_agree 86 = .ok (.iconst 4, 1) := by decide +kernel
theorem dX11_agree_87 : decode cX11_agree 87 = .ok (.if_icmp .ne 16, 3) := by decide +kernel
theorem dX11_agree_90 : decode cX11_agree 90 = .ok (.aload_n 0, 1) := by decide +kernel
theorem dX11_agree_91 : decode cX11_agree 91 = .ok (.getfield 109, 3) := by decide +kernel
theorem dX11_agree_94 : decode cX11_agree 94 = .ok (.getfield 444, 3) := by decide +kernel
theorem dX11_agree_97 : decode cX11_agree 97 = .ok (.invokestatic 536, 3) := by decide +kernel
theorem dX11_agree_100 : decode cX11_agree 100 = .ok (.goto 15, 3) := by decide +kernel
theorem dX11_agree_103 : decode cX11_agree 103 = .ok (.iconst 5, 1) := by decide +kernel
theorem dX11_agree_104 : decode cX11_agree 104 = .ok (.aload_n 0, 1) := by decide +kernel
theorem dX11_agree_105 : decode cX11_agree 105 = .ok (.getfield 109, 3) := by decide +kernel
theorem dX11_agree_108 : decode cX11_agree 108 = .ok (.getfield 351, 3) := by decide +kernel
theorem dX11_agree_111 : decode cX11_agree 111 = .ok (.iadd, 1) := by decide +kernel
theorem dX11_agree_112 : decode cX11_agree 112 = .ok (.invokestatic 540, 3) := by decide +kernel
theorem dX11_agree_115 : decode cX11_agree 115 = .ok (.invokevirtual 543, 3) := by decide +kernel
theorem dX11_agree_118 : decode cX11_agree 118 = .ok (.aload_n 0, 1) := by decide +kernel
theorem dX11_agree_119 : decode cX11_agree 119 = .ok (.getfield 70, 3) := by decide +kernel
theorem dX11_agree_122 : decode cX11_agree 122 = .ok (.aload_n 0, 1) := by decide +kernel
theorem dX11_agree_123 : decode cX11_agree 123 = .ok (.getfield 109, 3) := by decide +kernel
theorem dX11_agree_126 : decode cX11_agree 126 = .ok (.getfield 530, 3) := by decide +kernel
theorem dX11_agree_129 : decode cX11_agree 129 = .ok (.aload_n 0, 1) := by decide +kernel
theorem dX11_agree_130 : decode cX11_agree 130 = .ok (.getfield 109, 3) := by decide +kernel
theorem dX11_agree_133 : decode cX11_agree 133 = .ok (.getfield 533, 3) := by decide +kernel
theorem dX11_agree_136 : decode cX11_agree 136 = .ok (.aload_n 3, 1) := by decide +kernel
theorem dX11_agree_137 : decode cX11_agree 137 = .ok (.aload 4, 2) := by decide +kernel
theorem dX11_agree_139 : decode cX11_agree 139 = .ok (.aload_n 0, 1) := by decide +kernel
theorem dX11_agree_140 : decode cX11_agree 140 = .ok (.getfield 109, 3) := by decide +kernel
theorem dX11_agree_143 : decode cX11_agree 143 = .ok (.getfield 351, 3) := by decide +kernel
theorem dX11_agree_146 : decode cX11_agree 146 = .ok (.iconst 4, 1) := by decide +kernel
theorem dX11_agree_147 : decode cX11_agree 147 = .ok (.if_icmp .ne 17, 3) := by decide +kernel
theorem dX11_agree_150 : decode cX11_agree 150 = .ok (.getstatic 450, 3) := by decide +kernel
theorem dX11_agree_153 : decode cX11_agree 153 = .ok (.aload_n 0, 1) := by decide +kernel
theorem dX11_agree_154 : decode cX11_agree 154 = .ok (.getfield 109, 3) := by decide +kernel
theorem dX11_agree_157 : decode cX11_agree 157 = .ok (.getfield 444, 3) := by decide +kernel
theorem dX11_agree_160 : decode cX11_agree 160 = .ok (.iaload, 1) := by decide +kernel
theorem dX11_agree_161 : decode cX11_agree 161 = .ok (.goto 5, 3) := by decide +kernel
theorem dX11_agree_164 : decode cX11_agree 164 = .ok (.bipush 16, 2) := by decide +kernel
theorem dX11_agree_166 : decode cX11_agree 166 = .ok (.aload_n 0, 1) := by decide +kernel
theorem dX11_agree_167 : decode cX11_agree 167 = .ok (.getfield 109, 3) := by decide +kernel
theorem dX11_agree_170 : decode cX11_agree 170 = .ok (.getfield 530, 3) := by decide +kernel
theorem dX11_agree_173 : decode cX11_agree 173 = .ok (.invokevirtual 296, 3) := by decide +kernel
theorem dX11_agree_176 : decode cX11_agree 176 = .ok (.return_, 1) := by decide +kernel
abbrev rmX11_agree : Room := { frames := 5, cells := 0, slots := 0, locals := 167 }
set_option maxHeartbeats 4000000 in
set_option maxRecDepth 100000 in
theorem wB_X11_agree_115 {G : mG} {F : Nat} {x : mXT} {sz : Nat} {M0 : mM} (X : mCX G RX11 cX11_agree 5 none "agree" rmX11_agree x) (hQ : mQV x M0 (sz, 0, 0)) {l0 : Nat} {l3 : Nat} {l4 : Nat} {sk0 : Nat} {sk1 : Nat} {M : mM} (h : B_X11_agree_115 G F l0 l3 l4 sk0 sk1 M = some M0) : WW x (sz, 0, 0) M 115 [(0, .ref l0), (3, .ref l3), (4, .ref l4)] [.ref sk1, .ref sk0] := by
  unfold B_X11_agree_115 at h
  obtain ⟨_, f115, h⟩ := bO_some h
  obtain ⟨M115, e115, h⟩ := bO_some h
  refine ww_callVV0 115 X dX11_agree_115 mY_X0_putText mL_X11_543 (rcv_spec f115) ⟨_, _, rfl⟩ (by decide) (As := [.ref sk1]) (rest := []) rfl rfl ⟨Nat.le_of_ble_eq_true rfl, Nat.le_of_ble_eq_true rfl⟩ (Nat.le_of_ble_eq_true rfl) (fun l D A => c_X0_putText l D A e115) ?_
  refine ww_aload_n 118 X dX11_agree_118 0 rfl rfl ?_
  obtain ⟨v119, e119, h⟩ := bO_some h
  refine ww_getR 119 X dX11_agree_119 fG_X11_70 e119 ?_
  refine ww_aload_n 122 X dX11_agree_122 0 rfl rfl ?_
  obtain ⟨v123, e123, h⟩ := bO_some h
  refine ww_getR 123 X dX11_agree_123 fG_X11_109 e123 ?_
  obtain ⟨v126, e126, h⟩ := bO_some h
  refine ww_getR 126 X dX11_agree_126 fG_X11_530 e126 ?_
  refine ww_aload_n 129 X dX11_agree_129 0 rfl rfl ?_
  obtain ⟨v130, e130, h⟩ := bO_some h
  refine ww_getR 130 X dX11_agree_130 fG_X11_109 e130 ?_
  obtain ⟨v133, e133, h⟩ := bO_some h
  refine ww_getR 133 X dX11_agree_133 fG_X11_533 e133 ?_
  refine ww_aload_n 136 X dX11_agree_136 1 rfl rfl ?_
  refine ww_aload 137 X dX11_agree_137 2 rfl ?_
  refine ww_aload_n 139 X dX11_agree_139 0 rfl rfl ?_
  obtain ⟨v140, e140, h⟩ := bO_some h
  refine ww_getR 140 X dX11_agree_140 fG_X11_109 e140 ?_
  obtain ⟨v143, e143, h⟩ := bO_some h
  refine ww_getI 143 X dX11_agree_143 fG_X11_351 e143 ?_
  refine ww_iconst 146 X (v := (4 : Int32)) dX11_agree_146 (by decide) ?_
  refine ww_icmp_ne 147 164 X dX11_agree_147 (by decide) (fun q => ?_) (fun q => ?_)
  · replace h := (if_neg q).symm.trans h
    refine ww_bipush 164 X (v := (16 : Int32)) dX11_agree_164 (by decide) ?_
    refine ww_aload_n 166 X dX11_agree_166 0 rfl rfl ?_
    obtain ⟨v167, e167, h⟩ := bO_some h
    refine ww_getR 167 X dX11_agree_167 fG_X11_109 e167 ?_
    obtain ⟨v170, e170, h⟩ := bO_some h
    refine ww_getR 170 X dX11_agree_170 fG_X11_530 e170 ?_
    obtain ⟨_, f173, h⟩ := bO_some h
    obtain ⟨M173, e173, h⟩ := bO_some h
    refine ww_callVV0 173 X dX11_agree_173 mY_X4_putDerived mL_X11_296 (rcv_spec f173) ⟨_, _, rfl⟩ (by decide) (As := [.ref v126, .ref v133, .ref l3, .ref l4, .int (16 : Int32), .ref v170]) (rest := []) rfl rfl ⟨Nat.le_of_ble_eq_true rfl, Nat.le_of_ble_eq_true rfl⟩ (Nat.le_of_ble_eq_true rfl) (fun l D A => c_X4_putDerived l D A e173) ?_
    exact ww_vretE 176 X hQ dX11_agree_176 h
  · replace h := (if_pos q).symm.trans h
    refine ww_gets 150 X dX11_agree_150 gS_X11_450 ?_
    refine ww_aload_n 153 X dX11_agree_153 0 rfl rfl ?_
    obtain ⟨v154, e154, h⟩ := bO_some h
    refine ww_getR 154 X dX11_agree_154 fG_X11_109 e154 ?_
    obtain ⟨v157, e157, h⟩ := bO_some h
    refine ww_getI 157 X dX11_agree_157 fG_X11_444 e157 ?_
    obtain ⟨v160, e160, h⟩ := bO_some h
    refine ww_iald 160 X dX11_agree_160 e160 ?_
    refine ww_goto 161 166 X dX11_agree_161 (by decide) ?_
    refine ww_aload_n 166 X dX11_agree_166 0 rfl rfl ?_
    obtain ⟨v167, e167, h⟩ := bO_some h
    refine ww_getR 167 X dX11_agree_167 fG_X11_109 e167 ?_
    obtain ⟨v170, e170, h⟩ := bO_some h
    refine ww_getR 170 X dX11_agree_170 fG_X11_530 e170 ?_
    obtain ⟨_, f173, h⟩ := bO_some h
    obtain ⟨M173, e173, h⟩ := bO_some h
    refine ww_callVV0 173 X dX11_agree_173 mY_X4_putDerived mL_X11_296 (rcv_spec f173) ⟨_, _, rfl⟩ (by decide) (As := [.ref v126, .ref v133, .ref l3, .ref l4, .int v160, .ref v170]) (rest := []) rfl rfl ⟨Nat.le_of_ble_eq_true rfl, Nat.le_of_ble_eq_true rfl⟩ (Nat.le_of_ble_eq_true rfl) (fun l D A => c_X4_putDerived l D A e173) ?_
    exact ww_vretE 176 X hQ dX11_agree_176 h
set_option maxHeartbeats 4000000 in
set_option maxRecDepth 100000 in
theorem wP_X11_agree {G : mG} {F : Nat} {x : mXT} {sz : Nat} {M0 : mM} (X : mCX G RX11 cX11_agree 5 none "agree" rmX11_agree x) (hQ : mQV x M0 (sz, 0, 0)) {l0 : Nat} {l1 : Nat} {l2 : Nat} {l3 : Nat} {l4 : Nat} {M : mM} (h : P_X11_agree G F l0 l1 l2 l3 l4 M = some M0) : WW x (sz, 0, 0) M 0 [(0, .ref l0), (1, .ref l1), (2, .ref l2), (3, .ref l3), (4, .ref l4)] [] := by
  unfold P_X11_agree at h
  refine ww_aload_n 0 X dX11_agree_0 0 rfl rfl ?_
  obtain ⟨v1, e1, h⟩ := bO_some h
  refine ww_getR 1 X dX11_agree_1 fG_X11_102 e1 ?_
  refine ww_aload_n 4 X dX11_agree_4 2 rfl rfl ?_
  obtain ⟨_, f5, h⟩ := bO_some h
  obtain ⟨v5, M5, e5, h⟩ := bP_some h
  refine ww_callVI0 5 X dX11_agree_5 mY_X3_load mL_X11_279 (rcv_spec f5) ⟨_, _, rfl⟩ (by decide) (As := [.ref l2]) (rest := []) rfl rfl ⟨Nat.le_of_ble_eq_true rfl, Nat.le_of_ble_eq_true rfl⟩ (Nat.le_of_ble_eq_true rfl) (fun l D A => c_X3_load l D A e5) ?_
  refine ww_pop 8 X dX11_agree_8 rfl ?_
  refine ww_aload_n 9 X dX11_agree_9 0 rfl rfl ?_
  obtain ⟨v10, e10, h⟩ := bO_some h
  refine ww_getR 10 X dX11_agree_10 fG_X11_102 e10 ?_
  refine ww_aload_n 13 X dX11_agree_13 1 rfl rfl ?_
  refine ww_aload_n 14 X dX11_agree_14 0 rfl rfl ?_
  obtain ⟨v15, e15, h⟩ := bO_some h
  refine ww_getR 15 X dX11_agree_15 fG_X11_102 e15 ?_
  obtain ⟨v18, e18, h⟩ := bO_some h
  refine ww_getR 18 X dX11_agree_18 fG_X11_286 e18 ?_
  refine ww_aload_n 21 X dX11_agree_21 0 rfl rfl ?_
  obtain ⟨v22, e22, h⟩ := bO_some h
  refine ww_getR 22 X dX11_agree_22 fG_X11_25 e22 ?_
  refine ww_aload_n 25 X dX11_agree_25 0 rfl rfl ?_
  obtain ⟨v26, e26, h⟩ := bO_some h
  refine ww_getR 26 X dX11_agree_26 fG_X11_102 e26 ?_
  obtain ⟨v29, e29, h⟩ := bO_some h
  refine ww_getR 29 X dX11_agree_29 fG_X11_282 e29 ?_
  obtain ⟨_, f32, h⟩ := bO_some h
  obtain ⟨M32, e32, h⟩ := bO_some h
  refine ww_callVV0 32 X dX11_agree_32 mY_X3_sumUp mL_X11_289 (rcv_spec f32) ⟨_, _, rfl⟩ (by decide) (As := [.ref l1, .ref v18, .ref v22, .ref v29]) (rest := []) rfl rfl ⟨Nat.le_of_ble_eq_true rfl, Nat.le_of_ble_eq_true rfl⟩ (Nat.le_of_ble_eq_true rfl) (fun l D A => c_X3_sumUp l D A e32) ?_
  refine ww_aload_n 35 X dX11_agree_35 0 rfl rfl ?_
  obtain ⟨v36, e36, h⟩ := bO_some h
  refine ww_getR 36 X dX11_agree_36 fG_X11_102 e36 ?_
  refine ww_aload_n 39 X dX11_agree_39 0 rfl rfl ?_
  obtain ⟨v40, e40, h⟩ := bO_some h
  refine ww_getR 40 X dX11_agree_40 fG_X11_109 e40 ?_
  obtain ⟨v43, e43, h⟩ := bO_some h
  refine ww_getR 43 X dX11_agree_43 fG_X11_530 e43 ?_
  obtain ⟨_, f46, h⟩ := bO_some h
  obtain ⟨v46, M46, e46, h⟩ := bP_some h
  refine ww_callVI0 46 X dX11_agree_46 mY_X3_putSum mL_X11_293 (rcv_spec f46) ⟨_, _, rfl⟩ (by decide) (As := [.ref v43]) (rest := []) rfl rfl ⟨Nat.le_of_ble_eq_true rfl, Nat.le_of_ble_eq_true rfl⟩ (Nat.le_of_ble_eq_true rfl) (fun l D A => c_X3_putSum l D A e46) ?_
  refine ww_pop 49 X dX11_agree_49 rfl ?_
  refine ww_aload_n 50 X dX11_agree_50 0 rfl rfl ?_
  obtain ⟨v51, e51, h⟩ := bO_some h
  refine ww_getR 51 X dX11_agree_51 fG_X11_109 e51 ?_
  obtain ⟨v54, e54, h⟩ := bO_some h
  refine ww_getR 54 X dX11_agree_54 fG_X11_530 e54 ?_
  refine ww_bipush 57 X (v := (32 : Int32)) dX11_agree_57 (by decide) ?_
  obtain ⟨_, f59, h⟩ := bO_some h
  obtain ⟨M59, e59, h⟩ := bO_some h
  refine ww_callVV0 59 X dX11_agree_59 mY_X0_cutTo mL_X11_120 (rcv_spec f59) ⟨_, _, rfl⟩ (by decide) (As := [.int (32 : Int32)]) (rest := []) rfl rfl ⟨Nat.le_of_ble_eq_true rfl, Nat.le_of_ble_eq_true rfl⟩ (Nat.le_of_ble_eq_true rfl) (fun l D A => c_X0_cutTo l D A e59) ?_
  refine ww_aload_n 62 X dX11_agree_62 0 rfl rfl ?_
  obtain ⟨v63, e63, h⟩ := bO_some h
  refine ww_getR 63 X dX11_agree_63 fG_X11_109 e63 ?_
  obtain ⟨v66, e66, h⟩ := bO_some h
  refine ww_getR 66 X dX11_agree_66 fG_X11_533 e66 ?_
  obtain ⟨_, f69, h⟩ := bO_some h
  obtain ⟨M69, e69, h⟩ := bO_some h
  refine ww_callVV0 69 X dX11_agree_69 mY_X0_clear mL_X11_131 (rcv_spec f69) ⟨_, _, rfl⟩ (by decide) (As := []) (rest := []) rfl rfl ⟨Nat.le_of_ble_eq_true rfl, Nat.le_of_ble_eq_true rfl⟩ (Nat.le_of_ble_eq_true rfl) (fun l D A => c_X0_clear l D A e69) ?_
  refine ww_aload_n 72 X dX11_agree_72 0 rfl rfl ?_
  obtain ⟨v73, e73, h⟩ := bO_some h
  refine ww_getR 73 X dX11_agree_73 fG_X11_109 e73 ?_
  obtain ⟨v76, e76, h⟩ := bO_some h
  refine ww_getR 76 X dX11_agree_76 fG_X11_533 e76 ?_
  refine ww_aload_n 79 X dX11_agree_79 0 rfl rfl ?_
  obtain ⟨v80, e80, h⟩ := bO_some h
  refine ww_getR 80 X dX11_agree_80 fG_X11_109 e80 ?_
  obtain ⟨v83, e83, h⟩ := bO_some h
  refine ww_getI 83 X dX11_agree_83 fG_X11_351 e83 ?_
  refine ww_iconst 86 X (v := (4 : Int32)) dX11_agree_86 (by decide) ?_
  refine ww_icmp_ne 87 103 X dX11_agree_87 (by decide) (fun q => ?_) (fun q => ?_)
  · replace h := (if_neg q).symm.trans h
    refine ww_iconst 103 X (v := (5 : Int32)) dX11_agree_103 (by decide) ?_
    refine ww_aload_n 104 X dX11_agree_104 0 rfl rfl ?_
    obtain ⟨v105, e105, h⟩ := bO_some h
    refine ww_getR 105 X dX11_agree_105 fG_X11_109 e105 ?_
    obtain ⟨v108, e108, h⟩ := bO_some h
    refine ww_getI 108 X dX11_agree_108 fG_X11_351 e108 ?_
    refine ww_iadd 111 X dX11_agree_111 ?_
    obtain ⟨v112, M112, e112, h⟩ := bP_some h
    refine ww_callSR0 112 X dX11_agree_112 mY_X11_algName mL_X11_540 (As := [.int ((5 : Int32) + v108)]) (rest := [.ref v76]) rfl rfl ⟨Nat.le_of_ble_eq_true rfl, Nat.le_of_ble_eq_true rfl⟩ (Nat.le_of_ble_eq_true rfl) (fun l D A => c_X11_algName l D A e112) ?_
    exact ww_sub [0, 3, 4] rfl (wB_X11_agree_115 X hQ h)
  · replace h := (if_pos q).symm.trans h
    refine ww_aload_n 90 X dX11_agree_90 0 rfl rfl ?_
    obtain ⟨v91, e91, h⟩ := bO_some h
    refine ww_getR 91 X dX11_agree_91 fG_X11_109 e91 ?_
    obtain ⟨v94, e94, h⟩ := bO_some h
    refine ww_getI 94 X dX11_agree_94 fG_X11_444 e94 ?_
    obtain ⟨v97, M97, e97, h⟩ := bP_some h
    refine ww_callSR0 97 X dX11_agree_97 mY_X11_wayName mL_X11_536 (As := [.int v94]) (rest := [.ref v76]) rfl rfl ⟨Nat.le_of_ble_eq_true rfl, Nat.le_of_ble_eq_true rfl⟩ (Nat.le_of_ble_eq_true rfl) (fun l D A => c_X11_wayName l D A e97) ?_
    refine ww_goto 100 115 X dX11_agree_100 (by decide) ?_
    exact ww_sub [0, 3, 4] rfl (wB_X11_agree_115 X hQ h)
theorem c_X11_agree {G : mG} {F sz : Nat} {M0 : mM} (l : Launch) (D : mD) (A : Nat → Prop) {l0 : Nat} {l1 : Nat} {l2 : Nat} {l3 : Nat} {l4 : Nat} {M : mM} (h : P_X11_agree G F l0 l1 l2 l3 l4 M = some M0) : mMetV l D G A yX11_agree cX11_agree 5 none 5 167 0 0 [.ref l0, .ref l1, .ref l2, .ref l3, .ref l4] M sz M0 sz := mMetV_of l D G A (by decide) (Nat.le_of_ble_eq_true rfl) (fun x X hQ => wP_X11_agree X hQ h)
/-! SealedTokens.makeSealedKey(LSealedTokens$Key;LSealedTokens$Bytes;LSealedTokens$Bytes;)V -/
theorem dX11_makeSealedKey_0 : decode cX11_makeSealedKey 0 = .ok (.aload_n 0, 1) := by decide +kernel
theorem dX11_makeSealedKey_1 : decode cX11_makeSealedKey 1 = .ok (.getfield 109, 3) := by decide +kernel
theorem dX11_makeSealedKey_4 : decode cX11_makeSealedKey 4 = .ok (.getfield 431, 3) := by decide +kernel
theorem dX11_makeSealedKey_7 : decode cX11_makeSealedKey 7 = .ok (.invokevirtual 131, 3) := by decide +kernel
theorem dX11_makeSealedKey_10 : decode cX11_makeSealedKey 10 = .ok (.aload_n 0, 1) := by decide +kernel
theorem dX11_makeSealedKey_11 : decode cX11_makeSealedKey 11 = .ok (.getfield 109, 3) := by decide +kernel
theorem dX11_makeSealedKey_14 : decode cX11_makeSealedKey 14 = .ok (.getfield 351, 3) := by decide +kernel
theorem dX11_makeSealedKey_17 : decode cX11_makeSealedKey 17 = .ok (.iconst 4, 1) := by decide +kernel
theorem dX11_makeSealedKey_18 : decode cX11_makeSealedKey 18 = .ok (.if_icmp .lt 20, 3) := by decide +kernel
theorem dX11_makeSealedKey_21 : decode cX11_makeSealedKey 21 = .ok (.aload_n 0, 1) := by decide +kernel
theorem dX11_makeSealedKey_22 : decode cX11_makeSealedKey 22 = .ok (.aload_n 0, 1) := by decide +kernel
theorem dX11_makeSealedKey_23 : decode cX11_makeSealedKey 23 = .ok (.getfield 109, 3) := by decide +kernel
theorem dX11_makeSealedKey_26 : decode cX11_makeSealedKey 26 = .ok (.getfield 406, 3) := by decide +kernel
theorem dX11_makeSealedKey_29 : decode cX11_makeSealedKey 29 = .ok (.aload_n 1, 1) := by decide +kernel
theorem dX11_makeSealedKey_30 : decode cX11_makeSealedKey 30 = .ok (.getfield 316, 3) := by decide +kernel
theorem dX11_makeSealedKey_33 : decode cX11_makeSealedKey 33 = .ok (.aload_n 2, 1) := by decide +kernel
theorem dX11_makeSealedKey_34 : decode cX11_makeSealedKey 34 = .ok (.aload_n 3, 1) := by decide +kernel
theorem dX11_makeSealedKey_35 : decode cX11_makeSealedKey 35 = .ok (.invokevirtual 547, 3) := by decide +kernel
theorem dX11_makeSealedKey_38 : decode cX11_makeSealedKey 38 = .ok (.aload_n 0, 1) := by decide +kernel
theorem dX11_makeSealedKey_39 : decode cX11_makeSealedKey 39 = .ok (.getfield 109, 3) := by decide +kernel
theorem dX11_makeSealedKey_42 : decode cX11_makeSealedKey 42 = .ok (.getfield 351, 3) := by decide +kernel
theorem dX11_makeSealedKey_45 : decode cX11_makeSealedKey 45 = .ok (.tableswitch 146 0 5 #[39, 146, 146, 56, 95, 115], 39) := by decide +kernel
theorem dX11_makeSealedKey_84 : decode cX11_makeSealedKey 84 = .ok (.aload_n 0, 1) := by decide +kernel
theorem dX11_makeSealedKey_85 : decode cX11_makeSealedKey 85 = .ok (.getfield 109, 3) := by decide +kernel
theorem dX11_makeSealedKey_88 : decode cX11_makeSealedKey 88 = .ok (.getfield 425, 3) := by decide +kernel
theorem dX11_makeSealedKey_91 : decode cX11_makeSealedKey 91 = .ok (.aload_n 1, 1) := by decide +kernel
theorem dX11_makeSealedKey_92 : decode cX11_makeSealedKey 92 = .ok (.getfield 316, 3) := by decide +kernel
theorem dX11_makeSealedKey_95 : decode cX11_makeSealedKey 95 = .ok (.invokevirtual 127, 3) := by decide +kernel
theorem dX11_makeSealedKey_98 : decode cX11_makeSealedKey 98 = .ok (.goto 118, 3) := by decide +kernel
theorem dX11_makeSealedKey_101 : decode cX11_makeSealedKey 101 = .ok (.aload_n 0, 1) := by decide +kernel
theorem dX11_makeSealedKey_102 : decode cX11_makeSealedKey 102 = .ok (.getfield 95, 3) := by decide +kernel
theorem dX11_makeSealedKey_105 : decode cX11_makeSealedKey 105 = .ok (.aload_n 0, 1) := by decide +kernel
theorem dX11_makeSealedKey_106 : decode cX11_makeSealedKey 106 = .ok (.getfield 109, 3) := by decide +kernel
theorem dX11_makeSealedKey_109 : decode cX11_makeSealedKey 109 = .ok (.getfield 425, 3) := by decide +kernel
theorem dX11_makeSealedKey_112 : decode cX11_makeSealedKey 112 = .ok (.aload_n 0, 1) := by decide +kernel
theorem dX11_makeSealedKey_113 : decode cX11_makeSealedKey 113 = .ok (.getfield 109, 3) := by decide +kernel
theorem dX11_makeSealedKey_116 : decode cX11_makeSealedKey 116 = .ok (.getfield 550, 3) := by decide +kernel
theorem dX11_makeSealedKey_119 : decode cX11_makeSealedKey 119 = .ok (.aload_n 1, 1) := by decide +kernel
theorem dX11_makeSealedKey_120 : decode cX11_makeSealedKey 120 = .ok (.getfield 456, 3) := by decide +kernel
theorem dX11_makeSealedKey_123 : decode cX11_makeSealedKey 123 = .ok (.aload_n 1, 1) := by decide +kernel
theorem dX11_makeSealedKey_124 : decode cX11_makeSealedKey 124 = .ok (.getfield 316, 3) := by decide +kernel
theorem dX11_makeSealedKey_127 : decode cX11_makeSealedKey 127 = .ok (.aload_n 0, 1) := by decide +kernel
theorem dX11_makeSealedKey_128 : decode cX11_makeSealedKey 128 = .ok (.getfield 109, 3) := by decide +kernel
theorem dX11_makeSealedKey_131 : decode cX11_makeSealedKey 131 = .ok (.getfield 431, 3) := by decide +kernel
theorem dX11_makeSealedKey_134 : decode cX11_makeSealedKey 134 = .ok (.invokevirtual 553, 3) := by decide +kernel
theorem dX11_makeSealedKey_137 : decode cX11_makeSealedKey 137 = .ok (.goto 79, 3) := by decide +kernel
theorem dX11_makeSealedKey_140 : decode cX11_makeSealedKey 140 = .ok (.aload_n 0, 1) := by decide +kernel
theorem dX11_makeSealedKey_141 : decode cX11_makeSealedKey 141 = .ok (.getfield 109, 3) := by decide +kernel
theorem dX11_makeSealedKey_144 : decode cX11_makeSealedKey 144 = .ok (.getfield 425, 3) := by decide +kernel
theorem dX11_makeSealedKey_147 : decode cX11_makeSealedKey 147 = .ok (.aload_n 0, 1) := by decide +kernel
theorem dX11_makeSealedKey_148 : decode cX11_makeSealedKey 148 = .ok (.getfield 109, 3) := by decide +kernel
theorem dX11_makeSealedKey_151 : decode cX11_makeSealedKey 151 = .ok (.getfield 530, 3) := by decide +kernel
theorem dX11_makeSealedKey_154 : decode cX11_makeSealedKey 154 = .ok (.invokevirtual 127, 3) := by decide +kernel
theorem dX11_makeSealedKey_157 : decode cX11_makeSealedKey 157 = .ok (.goto 59, 3) := by decide +kernel
theorem dX11_makeSealedKey_160 : decode cX11_makeSealedKey 160 = .ok (.aload_n 0, 1) := by decide +kernel
theorem dX11_makeSealedKey_161 : decode cX11_makeSealedKey 161 = .ok (.getfield 77, 3) := by decide +kernel
theorem dX11_makeSealedKey_164 : decode cX11_makeSealedKey 164 = .ok (.aload_n 0, 1) := by decide +kernel
theorem dX11_makeSealedKey_165 : decode cX11_makeSealedKey 165 = .ok (.getfield 109, 3) := by decide +kernel
theorem dX11_makeSealedKey_168 : decode cX11_makeSealedKey 168 = .ok (.getfield 530, 3) := by decide +kernel
theorem dX11_makeSealedKey_171 : decode cX11_makeSealedKey 171 = .ok (.aload_n 0, 1) := by decide +kernel
theorem dX11_makeSealedKey_172 : decode cX11_makeSealedKey 172 = .ok (.getfield 109, 3) := by decide +kernel
theorem dX11_makeSealedKey_175 : decode cX11_makeSealedKey 175 = .ok (.getfield 425, 3) := by decide +kernel
theorem dX11_makeSealedKey_178 : decode cX11_makeSealedKey 178 = .ok (.aload_n 0, 1) := by decide +kernel
theorem dX11_makeSealedKey_179 : decode cX11_makeSealedKey 179 = .ok (.getfield 109, 3) := by decide +kernel
theorem dX11_makeSealedKey_182 : decode cX11_makeSealedKey 182 = .ok (.getfield 431, 3) := by decide +kernel
theorem dX11_makeSealedKey_185 : decode cX11_makeSealedKey 185 = .ok (.invokevirtual 242, 3) := by decide +kernel
theorem dX11_makeSealedKey_188 : decode cX11_makeSealedKey 188 = .ok (.goto 28, 3) := by decide +kernel
theorem dX11_makeSealedKey_191 : decode cX11_makeSealedKey 191 = .ok (.aload_n 0, 1) := by decide +kernel
theorem dX11_makeSealedKey_192 : decode cX11_makeSealedKey 192 = .ok (.getfield 77, 3) := by decide +kernel
theorem dX11_makeSealedKey_195 : decode cX11_makeSealedKey 195 = .ok (.aload_n 1, 1) := by decide +kernel
theorem dX11_makeSealedKey_196 : decode cX11_makeSealedKey 196 = .ok (.getfield 316, 3) := by decide +kernel
theorem dX11_makeSealedKey_199 : decode cX11_makeSealedKey 199 = .ok (.aload_n 0, 1) := by decide +kernel
theorem dX11_makeSealedKey_200 : decode cX11_makeSealedKey 200 = .ok (.getfield 109, 3) := by decide +kernel
theorem dX11_makeSealedKey_203 : decode cX11_makeSealedKey 203 = .ok (.getfield 425, 3) := by decide +kernel
theorem dX11_makeSealedKey_206 : decode cX11_makeSealedKey 206 = .ok (.aload_n 0, 1) := by decide +kernel
theorem dX11_makeSealedKey_207 : decode cX11_makeSealedKey 207 = .ok (.getfield 109, 3) := by decide +kernel
theorem dX11_makeSealedKey_210 : decode cX11_makeSealedKey 210 = .ok (.getfield 431, 3) := by decide +kernel
theorem dX11_makeSealedKey_213 : decode cX11_makeSealedKey 213 = .ok (.invokevirtual 242, 3) := by decide +kernel
theorem dX11_makeSealedKey_216 : decode cX11_makeSealedKey 216 = .ok (.return_, 1) := by decide +kernel
abbrev rmX11_makeSealedKey : Room := { frames := 6, cells := 0, slots := 0, locals := 193 }
set_option maxHeartbeats 4000000 in
set_option maxRecDepth 100000 in
theorem wB_X11_makeSealedKey_38 {G : mG} {F : Nat} {x : mXT} {sz : Nat} {M0 : mM} (X : mCX G RX11 cX11_makeSealedKey 4 none "makeSealedKey" rmX11_makeSealedKey x) (hQ : mQV x M0 (sz, 0, 0)) {l0 : Nat} {l1 : Nat} {M : mM} (h : B_X11_makeSealedKey_38 G F l0 l1 M = some M0) : WW x (sz, 0, 0) M 38 [(0, .ref l0), (1, .ref l1)] [] := by
  unfold B_X11_makeSealedKey_38 at h
  refine ww_aload_n 38 X dX11_makeSealedKey_38 0 rfl rfl ?_
  obtain ⟨v39, e39, h⟩ := bO_some h
  refine ww_getR 39 X dX11_makeSealedKey_39 fG_X11_109 e39 ?_
  obtain ⟨v42, e42, h⟩ := bO_some h
  refine ww_getI 42 X dX11_makeSealedKey_42 fG_X11_351 e42 ?_
  by_cases q0 : v42 = (0 : Int32)
  · replace h := (if_pos q0).symm.trans h
    refine ww_tableIn 45 84 X dX11_makeSealedKey_45 (off := 39) (by rw [q0]; decide) (by rw [q0]; decide) (by rw [q0]; decide) (by decide) ?_
    refine ww_aload_n 84 X dX11_makeSealedKey_84 0 rfl rfl ?_
    obtain ⟨v85, e85, h⟩ := bO_some h
    refine ww_getR 85 X dX11_makeSealedKey_85 fG_X11_109 e85 ?_
    obtain ⟨v88, e88, h⟩ := bO_some h
    refine ww_getR 88 X dX11_makeSealedKey_88 fG_X11_425 e88 ?_
    refine ww_aload_n 91 X dX11_makeSealedKey_91 1 rfl rfl ?_
    obtain ⟨v92, e92, h⟩ := bO_some h
    refine ww_getR 92 X dX11_makeSealedKey_92 fG_X11_316 e92 ?_
    obtain ⟨_, f95, h⟩ := bO_some h
    obtain ⟨M95, e95, h⟩ := bO_some h
    refine ww_callVV0 95 X dX11_makeSealedKey_95 mY_X0_become mL_X11_127 (rcv_spec f95) ⟨_, _, rfl⟩ (by decide) (As := [.ref v92]) (rest := []) rfl rfl ⟨Nat.le_of_ble_eq_true rfl, Nat.le_of_ble_eq_true rfl⟩ (Nat.le_of_ble_eq_true rfl) (fun l D A => c_X0_become l D A e95) ?_
    refine ww_goto 98 216 X dX11_makeSealedKey_98 (by decide) ?_
    exact ww_vretE 216 X hQ dX11_makeSealedKey_216 h
  · replace h := (if_neg q0).symm.trans h
    by_cases q1 : v42 = (1 : Int32)
    · replace h := (if_pos q1).symm.trans h
      refine ww_tableIn 45 191 X dX11_makeSealedKey_45 (off := 146) (by rw [q1]; decide) (by rw [q1]; decide) (by rw [q1]; decide) (by decide) ?_
      refine ww_aload_n 191 X dX11_makeSealedKey_191 0 rfl rfl ?_
      obtain ⟨v192, e192, h⟩ := bO_some h
      refine ww_getR 192 X dX11_makeSealedKey_192 fG_X11_77 e192 ?_
      refine ww_aload_n 195 X dX11_makeSealedKey_195 1 rfl rfl ?_
      obtain ⟨v196, e196, h⟩ := bO_some h
      refine ww_getR 196 X dX11_makeSealedKey_196 fG_X11_316 e196 ?_
      refine ww_aload_n 199 X dX11_makeSealedKey_199 0 rfl rfl ?_
      obtain ⟨v200, e200, h⟩ := bO_some h
      refine ww_getR 200 X dX11_makeSealedKey_200 fG_X11_109 e200 ?_
      obtain ⟨v203, e203, h⟩ := bO_some h
      refine ww_getR 203 X dX11_makeSealedKey_203 fG_X11_425 e203 ?_
      refine ww_aload_n 206 X dX11_makeSealedKey_206 0 rfl rfl ?_
      obtain ⟨v207, e207, h⟩ := bO_some h
      refine ww_getR 207 X dX11_makeSealedKey_207 fG_X11_109 e207 ?_
      obtain ⟨v210, e210, h⟩ := bO_some h
      refine ww_getR 210 X dX11_makeSealedKey_210 fG_X11_431 e210 ?_
      obtain ⟨_, f213, h⟩ := bO_some h
      obtain ⟨M213, e213, h⟩ := bO_some h
      refine ww_callVV0 213 X dX11_makeSealedKey_213 mY_X1_putWrapped mL_X11_242 (rcv_spec f213) ⟨_, _, rfl⟩ (by decide) (As := [.ref v196, .ref v203, .ref v210]) (rest := []) rfl rfl ⟨Nat.le_of_ble_eq_true rfl, Nat.le_of_ble_eq_true rfl⟩ (Nat.le_of_ble_eq_true rfl) (fun l D A => c_X1_putWrapped l D A e213) ?_
      exact ww_vretE 216 X hQ dX11_makeSealedKey_216 h
    · replace h := (if_neg q1).symm.trans h
      by_cases q2 : v42 = (2 : Int32)
      · replace h := (if_pos q2).symm.trans h
        refine ww_tableIn 45 191 X dX11_makeSealedKey_45 (off := 146) (by rw [q2]; decide) (by rw [q2]; decide) (by rw [q2]; decide) (by decide) ?_
        refine ww_aload_n 191 X dX11_makeSealedKey_191 0 rfl rfl ?_
        obtain ⟨v192, e192, h⟩ := bO_some h
        refine ww_getR 192 X dX11_makeSealedKey_192 fG_X11_77 e192 ?_
        refine ww_aload_n 195 X dX11_makeSealedKey_195 1 rfl rfl ?_
        obtain ⟨v196, e196, h⟩ := bO_some h
        refine ww_getR 196 X dX11_makeSealedKey_196 fG_X11_316 e196 ?_
        refine ww_aload_n 199 X dX11_makeSealedKey_199 0 rfl rfl ?_
        obtain ⟨v200, e200, h⟩ := bO_some h
        refine ww_getR 200 X dX11_makeSealedKey_200 fG_X11_109 e200 ?_
        obtain ⟨v203, e203, h⟩ := bO_some h
        refine ww_getR 203 X dX11_makeSealedKey_203 fG_X11_425 e203 ?_
        refine ww_aload_n 206 X dX11_makeSealedKey_206 0 rfl rfl ?_
        obtain ⟨v207, e207, h⟩ := bO_some h
        refine ww_getR 207 X dX11_makeSealedKey_207 fG_X11_109 e207 ?_
        obtain ⟨v210, e210, h⟩ := bO_some h
        refine ww_getR 210 X dX11_makeSealedKey_210 fG_X11_431 e210 ?_
        obtain ⟨_, f213, h⟩ := bO_some h
        obtain ⟨M213, e213, h⟩ := bO_some h
        refine ww_callVV0 213 X dX11_makeSealedKey_213 mY_X1_putWrapped mL_X11_242 (rcv_spec f213) ⟨_, _, rfl⟩ (by decide) (As := [.ref v196, .ref v203, .ref v210]) (rest := []) rfl rfl ⟨Nat.le_of_ble_eq_true rfl, Nat.le_of_ble_eq_true rfl⟩ (Nat.le_of_ble_eq_true rfl) (fun l D A => c_X1_putWrapped l D A e213) ?_
        exact ww_vretE 216 X hQ dX11_makeSealedKey_216 h
      · replace h := (if_neg q2).symm.trans h
        by_cases q3 : v42 = (3 : Int32)
        · replace h := (if_pos q3).symm.trans h
          refine ww_tableIn 45 101 X dX11_makeSealedKey_45 (off := 56) (by rw [q3]; decide) (by rw [q3]; decide) (by rw [q3]; decide) (by decide) ?_
          refine ww_aload_n 101 X dX11_makeSealedKey_101 0 rfl rfl ?_
          obtain ⟨v102, e102, h⟩ := bO_some h
          refine ww_getR 102 X dX11_makeSealedKey_102 fG_X11_95 e102 ?_
          refine ww_aload_n 105 X dX11_makeSealedKey_105 0 rfl rfl ?_
          obtain ⟨v106, e106, h⟩ := bO_some h
          refine ww_getR 106 X dX11_makeSealedKey_106 fG_X11_109 e106 ?_
          obtain ⟨v109, e109, h⟩ := bO_some h
          refine ww_getR 109 X dX11_makeSealedKey_109 fG_X11_425 e109 ?_
          refine ww_aload_n 112 X dX11_makeSealedKey_112 0 rfl rfl ?_
          obtain ⟨v113, e113, h⟩ := bO_some h
          refine ww_getR 113 X dX11_makeSealedKey_113 fG_X11_109 e113 ?_
          obtain ⟨v116, e116, h⟩ := bO_some h
          refine ww_getR 116 X dX11_makeSealedKey_116 fG_X11_550 e116 ?_
          refine ww_aload_n 119 X dX11_makeSealedKey_119 1 rfl rfl ?_
          obtain ⟨v120, e120, h⟩ := bO_some h
          refine ww_getR 120 X dX11_makeSealedKey_120 fG_X11_456 e120 ?_
          refine ww_aload_n 123 X dX11_makeSealedKey_123 1 rfl rfl ?_
          obtain ⟨v124, e124, h⟩ := bO_some h
          refine ww_getR 124 X dX11_makeSealedKey_124 fG_X11_316 e124 ?_
          refine ww_aload_n 127 X dX11_makeSealedKey_127 0 rfl rfl ?_
          obtain ⟨v128, e128, h⟩ := bO_some h
          refine ww_getR 128 X dX11_makeSealedKey_128 fG_X11_109 e128 ?_
          obtain ⟨v131, e131, h⟩ := bO_some h
          refine ww_getR 131 X dX11_makeSealedKey_131 fG_X11_431 e131 ?_
          obtain ⟨_, f134, h⟩ := bO_some h
          obtain ⟨M134, e134, h⟩ := bO_some h
          refine ww_callVV0 134 X dX11_makeSealedKey_134 mY_X8_sealOaep mL_X11_553 (rcv_spec f134) ⟨_, _, rfl⟩ (by decide) (As := [.ref v109, .ref v116, .ref v120, .ref v124, .ref v131]) (rest := []) rfl rfl ⟨Nat.le_of_ble_eq_true rfl, Nat.le_of_ble_eq_true rfl⟩ (Nat.le_of_ble_eq_true rfl) (fun l D A => c_X8_sealOaep l D A e134) ?_
          refine ww_goto 137 216 X dX11_makeSealedKey_137 (by decide) ?_
          exact ww_vretE 216 X hQ dX11_makeSealedKey_216 h
        · replace h := (if_neg q3).symm.trans h
          by_cases q4 : v42 = (4 : Int32)
          · replace h := (if_pos q4).symm.trans h
            refine ww_tableIn 45 140 X dX11_makeSealedKey_45 (off := 95) (by rw [q4]; decide) (by rw [q4]; decide) (by rw [q4]; decide) (by decide) ?_
            refine ww_aload_n 140 X dX11_makeSealedKey_140 0 rfl rfl ?_
            obtain ⟨v141, e141, h⟩ := bO_some h
            refine ww_getR 141 X dX11_makeSealedKey_141 fG_X11_109 e141 ?_
            obtain ⟨v144, e144, h⟩ := bO_some h
            refine ww_getR 144 X dX11_makeSealedKey_144 fG_X11_425 e144 ?_
            refine ww_aload_n 147 X dX11_makeSealedKey_147 0 rfl rfl ?_
            obtain ⟨v148, e148, h⟩ := bO_some h
            refine ww_getR 148 X dX11_makeSealedKey_148 fG_X11_109 e148 ?_
            obtain ⟨v151, e151, h⟩ := bO_some h
            refine ww_getR 151 X dX11_makeSealedKey_151 fG_X11_530 e151 ?_
            obtain ⟨_, f154, h⟩ := bO_some h
            obtain ⟨M154, e154, h⟩ := bO_some h
            refine ww_callVV0 154 X dX11_makeSealedKey_154 mY_X0_become mL_X11_127 (rcv_spec f154) ⟨_, _, rfl⟩ (by decide) (As := [.ref v151]) (rest := []) rfl rfl ⟨Nat.le_of_ble_eq_true rfl, Nat.le_of_ble_eq_true rfl⟩ (Nat.le_of_ble_eq_true rfl) (fun l D A => c_X0_become l D A e154) ?_
            refine ww_goto 157 216 X dX11_makeSealedKey_157 (by decide) ?_
            exact ww_vretE 216 X hQ dX11_makeSealedKey_216 h
          · replace h := (if_neg q4).symm.trans h
            by_cases q5 : v42 = (5 : Int32)
            · replace h := (if_pos q5).symm.trans h
              refine ww_tableIn 45 160 X dX11_makeSealedKey_45 (off := 115) (by rw [q5]; decide) (by rw [q5]; decide) (by rw [q5]; decide) (by decide) ?_
              refine ww_aload_n 160 X dX11_makeSealedKey_160 0 rfl rfl ?_
              obtain ⟨v161, e161, h⟩ := bO_some h
              refine ww_getR 161 X dX11_makeSealedKey_161 fG_X11_77 e161 ?_
              refine ww_aload_n 164 X dX11_makeSealedKey_164 0 rfl rfl ?_
              obtain ⟨v165, e165, h⟩ := bO_some h
              refine ww_getR 165 X dX11_makeSealedKey_165 fG_X11_109 e165 ?_
              obtain ⟨v168, e168, h⟩ := bO_some h
              refine ww_getR 168 X dX11_makeSealedKey_168 fG_X11_530 e168 ?_
              refine ww_aload_n 171 X dX11_makeSealedKey_171 0 rfl rfl ?_
              obtain ⟨v172, e172, h⟩ := bO_some h
              refine ww_getR 172 X dX11_makeSealedKey_172 fG_X11_109 e172 ?_
              obtain ⟨v175, e175, h⟩ := bO_some h
              refine ww_getR 175 X dX11_makeSealedKey_175 fG_X11_425 e175 ?_
              refine ww_aload_n 178 X dX11_makeSealedKey_178 0 rfl rfl ?_
              obtain ⟨v179, e179, h⟩ := bO_some h
              refine ww_getR 179 X dX11_makeSealedKey_179 fG_X11_109 e179 ?_
              obtain ⟨v182, e182, h⟩ := bO_some h
              refine ww_getR 182 X dX11_makeSealedKey_182 fG_X11_431 e182 ?_
              obtain ⟨_, f185, h⟩ := bO_some h
              obtain ⟨M185, e185, h⟩ := bO_some h
              refine ww_callVV0 185 X dX11_makeSealedKey_185 mY_X1_putWrapped mL_X11_242 (rcv_spec f185) ⟨_, _, rfl⟩ (by decide) (As := [.ref v168, .ref v175, .ref v182]) (rest := []) rfl rfl ⟨Nat.le_of_ble_eq_true rfl, Nat.le_of_ble_eq_true rfl⟩ (Nat.le_of_ble_eq_true rfl) (fun l D A => c_X1_putWrapped l D A e185) ?_
              refine ww_goto 188 216 X dX11_makeSealedKey_188 (by decide) ?_
              exact ww_vretE 216 X hQ dX11_makeSealedKey_216 h
            · replace h := (if_neg q5).symm.trans h
              have z0 := lv_neT q0 (show (0 : Int32).toInt = 0 by decide)
              have z1 := lv_neT q1 (show (1 : Int32).toInt = 1 by decide)
              have z2 := lv_neT q2 (show (2 : Int32).toInt = 2 by decide)
              have z3 := lv_neT q3 (show (3 : Int32).toInt = 3 by decide)
              have z4 := lv_neT q4 (show (4 : Int32).toInt = 4 by decide)
              have z5 := lv_neT q5 (show (5 : Int32).toInt = 5 by decide)
              refine ww_tableOut 45 191 X dX11_makeSealedKey_45 (by omega) (by decide) ?_
              refine ww_aload_n 191 X dX11_makeSealedKey_191 0 rfl rfl ?_
              obtain ⟨v192, e192, h⟩ := bO_some h
              refine ww_getR 192 X dX11_makeSealedKey_192 fG_X11_77 e192 ?_
              refine ww_aload_n 195 X dX11_makeSealedKey_195 1 rfl rfl ?_
              obtain ⟨v196, e196, h⟩ := bO_some h
              refine ww_getR 196 X dX11_makeSealedKey_196 fG_X11_316 e196 ?_
              refine ww_aload_n 199 X dX11_makeSealedKey_199 0 rfl rfl ?_
              obtain ⟨v200, e200, h⟩ := bO_some h
              refine ww_getR 200 X dX11_makeSealedKey_200 fG_X11_109 e200 ?_
              obtain ⟨v203, e203, h⟩ := bO_some h
              refine ww_getR 203 X dX11_makeSealedKey_203 fG_X11_425 e203 ?_
              refine ww_aload_n 206 X dX11_makeSealedKey_206 0 rfl rfl ?_
              obtain ⟨v207, e207, h⟩ := bO_some h
              refine ww_getR 207 X dX11_makeSealedKey_207 fG_X11_109 e207 ?_
              obtain ⟨v210, e210, h⟩ := bO_some h
              refine ww_getR 210 X dX11_makeSealedKey_210 fG_X11_431 e210 ?_
              obtain ⟨_, f213, h⟩ := bO_some h
              obtain ⟨M213, e213, h⟩ := bO_some h
              refine ww_callVV0 213 X dX11_makeSealedKey_213 mY_X1_putWrapped mL_X11_242 (rcv_spec f213) ⟨_, _, rfl⟩ (by decide) (As := [.ref v196, .ref v203, .ref v210]) (rest := []) rfl rfl ⟨Nat.le_of_ble_eq_true rfl, Nat.le_of_ble_eq_true rfl⟩ (Nat.le_of_ble_eq_true rfl) (fun l D A => c_X1_putWrapped l D A e213) ?_
              exact ww_vretE 216 X hQ dX11_makeSealedKey_216 h
set_option maxHeartbeats 4000000 in
set_option maxRecDepth 100000 in
theorem wP_X11_makeSealedKey {G : mG} {F : Nat} {x : mXT} {sz : Nat} {M0 : mM} (X : mCX G RX11 cX11_makeSealedKey 4 none "makeSealedKey" rmX11_makeSealedKey x) (hQ : mQV x M0 (sz, 0, 0)) {l0 : Nat} {l1 : Nat} {l2 : Nat} {l3 : Nat} {M : mM} (h : P_X11_makeSealedKey G F l0 l1 l2 l3 M = some M0) : WW x (sz, 0, 0) M 0 [(0, .ref l0), (1, .ref l1), (2, .ref l2), (3, .ref l3)] [] := by
  unfold P_X11_makeSealedKey at h
  refine ww_aload_n 0 X dX11_makeSealedKey_0 0 rfl rfl ?_
  obtain ⟨v1, e1, h⟩ := bO_some h
  refine ww_getR 1 X dX11_makeSealedKey_1 fG_X11_109 e1 ?_
  obtain ⟨v4, e4, h⟩ := bO_some h
  refine ww_getR 4 X dX11_makeSealedKey_4 fG_X11_431 e4 ?_
  obtain ⟨_, f7, h⟩ := bO_some h
  obtain ⟨M7, e7, h⟩ := bO_some h
  refine ww_callVV0 7 X dX11_makeSealedKey_7 mY_X0_clear mL_X11_131 (rcv_spec f7) ⟨_, _, rfl⟩ (by decide) (As := []) (rest := []) rfl rfl ⟨Nat.le_of_ble_eq_true rfl, Nat.le_of_ble_eq_true rfl⟩ (Nat.le_of_ble_eq_true rfl) (fun l D A => c_X0_clear l D A e7) ?_
  refine ww_aload_n 10 X dX11_makeSealedKey_10 0 rfl rfl ?_
  obtain ⟨v11, e11, h⟩ := bO_some h
  refine ww_getR 11 X dX11_makeSealedKey_11 fG_X11_109 e11 ?_
  obtain ⟨v14, e14, h⟩ := bO_some h
  refine ww_getI 14 X dX11_makeSealedKey_14 fG_X11_351 e14 ?_
  refine ww_iconst 17 X (v := (4 : Int32)) dX11_makeSealedKey_17 (by decide) ?_
  refine ww_icmp_lt 18 38 X dX11_makeSealedKey_18 (by decide) (fun q => ?_) (fun q => ?_)
  · replace h := (if_pos q).symm.trans h
    exact ww_sub [0, 1] rfl (wB_X11_makeSealedKey_38 X hQ h)
  · replace h := (if_neg q).symm.trans h
    refine ww_aload_n 21 X dX11_makeSealedKey_21 0 rfl rfl ?_
    refine ww_aload_n 22 X dX11_makeSealedKey_22 0 rfl rfl ?_
    obtain ⟨v23, e23, h⟩ := bO_some h
    refine ww_getR 23 X dX11_makeSealedKey_23 fG_X11_109 e23 ?_
    obtain ⟨v26, e26, h⟩ := bO_some h
    refine ww_getR 26 X dX11_makeSealedKey_26 fG_X11_406 e26 ?_
    refine ww_aload_n 29 X dX11_makeSealedKey_29 1 rfl rfl ?_
    obtain ⟨v30, e30, h⟩ := bO_some h
    refine ww_getR 30 X dX11_makeSealedKey_30 fG_X11_316 e30 ?_
    refine ww_aload_n 33 X dX11_makeSealedKey_33 2 rfl rfl ?_
    refine ww_aload_n 34 X dX11_makeSealedKey_34 3 rfl rfl ?_
    obtain ⟨_, f35, h⟩ := bO_some h
    obtain ⟨M35, e35, h⟩ := bO_some h
    refine ww_callVV0 35 X dX11_makeSealedKey_35 mY_X11_agree mL_X11_547 (rcv_spec f35) ⟨_, _, rfl⟩ (by decide) (As := [.ref v26, .ref v30, .ref l2, .ref l3]) (rest := []) rfl rfl ⟨Nat.le_of_ble_eq_true rfl, Nat.le_of_ble_eq_true rfl⟩ (Nat.le_of_ble_eq_true rfl) (fun l D A => c_X11_agree l D A e35) ?_
    exact ww_sub [0, 1] rfl (wB_X11_makeSealedKey_38 X hQ h)
theorem c_X11_makeSealedKey {G : mG} {F sz : Nat} {M0 : mM} (l : Launch) (D : mD) (A : Nat → Prop) {l0 : Nat} {l1 : Nat} {l2 : Nat} {l3 : Nat} {M : mM} (h : P_X11_makeSealedKey G F l0 l1 l2 l3 M = some M0) : mMetV l D G A yX11_makeSealedKey cX11_makeSealedKey 4 none 6 193 0 0 [.ref l0, .ref l1, .ref l2, .ref l3] M sz M0 sz := mMetV_of l D G A (by decide) (Nat.le_of_ble_eq_true rfl) (fun x X hQ => wP_X11_makeSealedKey X hQ h)
/-! SealedTokens.encrypt(IIIIIII)I -/
theorem dX11_encrypt_0 : decode cX11_encrypt 0 = .ok (.aload_n 0, 1) := by decide +kernel
theorem dX11_encrypt_1 : decode cX11_encrypt 1 = .ok (.iload_n 1, 1) := by decide +kernel
theorem dX11_encrypt_2 : decode cX11_encrypt 2 = .ok (.invokevirtual 311, 3) := by decide +kernel
theorem dX11_encrypt_5 : decode cX11_encrypt 5 = .ok (.ifCond .eq 40, 3) := by decide +kernel
theorem dX11_encrypt_8 : decode cX11_encrypt 8 = .ok (.iload_n 2, 1) := by decide +kernel
theorem dX11_encrypt_9 : decode cX11_encrypt 9 = .ok (.ifCond .lt 36, 3) := by decide +kernel
theorem dX11_encrypt_12 : decode cX11_encrypt 12 = .ok (.iload_n 2, 1) := by decide +kernel
theorem dX11_encrypt_13 : decode cX11_encrypt 13 = .ok (.bipush 6, 2) := by decide +kernel
theorem dX11_encrypt_15 : decode cX11_encrypt 15 = .ok (.if_icmp .ge 30, 3) := by decide +kernel
theorem dX11_encrypt_18 : decode cX11_encrypt 18 = .ok (.iload_n 3, 1) := by decide +kernel
theorem dX11_encrypt_19 : decode cX11_encrypt 19 = .ok (.ifCond .lt 26, 3) := by decide +kernel
theorem dX11_encrypt_22 : decode cX11_encrypt 22 = .ok (.iload_n 3, 1) := by decide +kernel
theorem dX11_encrypt_23 : decode cX11_encrypt 23 = .ok (.iconst 4, 1) := by decide +kernel
theorem dX11_encrypt_24 : decode cX11_encrypt 24 = .ok (.if_icmp .ge 21, 3) := by decide +kernel
theorem dX11_encrypt_27 : decode cX11_encrypt 27 = .ok (.aload_n 0, 1) := by decide +kernel
theorem dX11_encrypt_28 : decode cX11_encrypt 28 = .ok (.iload 4, 2) := by decide +kernel
theorem dX11_encrypt_30 : decode cX11_encrypt 30 = .ok (.invokevirtual 123, 3) := by decide +kernel
theorem dX11_encrypt_33 : decode cX11_encrypt 33 = .ok (.ifCond .eq 12, 3) := by decide +kernel
theorem dX11_encrypt_36 : decode cX11_encrypt 36 = .ok (.aload_n 0, 1) := by decide +kernel
theorem dX11_encrypt_37 : decode cX11_encrypt 37 = .ok (.iload 5, 2) := by decide +kernel
theorem dX11_encrypt_39 : decode cX11_encrypt 39 = .ok (.invokevirtual 123, 3) := by decide +kernel
theorem dX11_encrypt_42 : decode cX11_encrypt 42 = .ok (.ifCond .ne 6, 3) := by decide +kernel
theorem dX11_encrypt_45 : decode cX11_encrypt 45 = .ok (.bipush (-2), 2) := by decide +kernel
theorem dX11_encrypt_47 : decode cX11_encrypt 47 = .ok (.ireturn, 1) := by decide +kernel
theorem dX11_encrypt_48 : decode cX11_encrypt 48 = .ok (.iload_n 2, 1) := by decide +kernel
theorem dX11_encrypt_49 : decode cX11_encrypt 49 = .ok (.iconst 4, 1) := by decide +kernel
theorem dX11_encrypt_50 : decode cX11_encrypt 50 = .ok (.if_icmp .lt 24, 3) := by decide +kernel
theorem dX11_encrypt_53 : decode cX11_encrypt 53 = .ok (.aload_n 0, 1) := by decide +kernel
theorem dX11_encrypt_54 : decode cX11_encrypt 54 = .ok (.iload 6, 2) := by decide +kernel
theorem dX11_encrypt_56 : decode cX11_encrypt 56 = .ok (.invokevirtual 337, 3) := by decide +kernel
theorem dX11_encrypt_59 : decode cX11_encrypt 59 = .ok (.ifCond .eq 12, 3) := by decide +kernel
theorem dX11_encrypt_62 : decode cX11_encrypt 62 = .ok (.aload_n 0, 1) := by decide +kernel
theorem dX11_encrypt_63 : decode cX11_encrypt 63 = .ok (.iload 7, 2) := by decide +kernel
theorem dX11_encrypt_65 : decode cX11_encrypt 65 = .ok (.invokevirtual 337, 3) := by decide +kernel
theorem dX11_encrypt_68 : decode cX11_encrypt 68 = .ok (.ifCond .ne 6, 3) := by decide +kernel
theorem dX11_encrypt_71 : decode cX11_encrypt 71 = .ok (.bipush (-2), 2) := by decide +kernel
theorem dX11_encrypt_73 : decode cX11_encrypt 73 = .ok (.ireturn, 1) := by decide +kernel
theorem dX11_encrypt_74 : decode cX11_encrypt 74 = .ok (.aload_n 0, 1) := by decide +kernel
theorem dX11_encrypt_75 : decode cX11_encrypt 75 = .ok (.getfield 58, 3) := by decide +kernel
theorem dX11_encrypt_78 : decode cX11_encrypt 78 = .ok (.iload_n 1, 1) := by decide +kernel
theorem dX11_encrypt_79 : decode cX11_encrypt 79 = .ok (.aaload, 1) := by decide +kernel
theorem dX11_encrypt_80 : decode cX11_encrypt 80 = .ok (.astore 8, 2) := by decide +kernel
theorem dX11_encrypt_82 : decode cX11_encrypt 82 = .ok (.aload 8, 2) := by decide +kernel
theorem dX11_encrypt_84 : decode cX11_encrypt 84 = .ok (.iload_n 2, 1) := by decide +kernel
theorem dX11_encrypt_85 : decode cX11_encrypt 85 = .ok (.iload_n 3, 1) := by decide +kernel
theorem dX11_encrypt_86 : decode cX11_encrypt 86 = .ok (.iconst 0, 1) := by decide +kernel
theorem dX11_encrypt_87 : decode cX11_encrypt 87 = .ok (.invokevirtual 398, 3) := by decide +kernel
theorem dX11_encrypt_90 : decode cX11_encrypt 90 = .ok (.ifCond .ne 6, 3) := by decide +kernel
theorem dX11_encrypt_93 : decode cX11_encrypt 93 = .ok (.bipush (-26), 2) := by decide +kernel
theorem dX11_encrypt_95 : decode cX11_encrypt 95 = .ok (.ireturn, 1) := by decide +kernel
theorem dX11_encrypt_96 : decode cX11_encrypt 96 = .ok (.aload_n 0, 1) := by decide +kernel
theorem dX11_encrypt_97 : decode cX11_encrypt 97 = .ok (.getfield 109, 3) := by decide +kernel
theorem dX11_encrypt_100 : decode cX11_encrypt 100 = .ok (.iload_n 2, 1) := by decide +kernel
theorem dX11_encrypt_101 : decode cX11_encrypt 101 = .ok (.iload_n 3, 1) := by decide +kernel
theorem dX11_encrypt_102 : decode cX11_encrypt 102 = .ok (.aload_n 0, 1) := by decide +kernel
theorem dX11_encrypt_103 : decode cX11_encrypt 103 = .ok (.getfield 11, 3) := by decide +kernel
theorem dX11_encrypt_106 : decode cX11_encrypt 106 = .ok (.iload 5, 2) := by decide +kernel
theorem dX11_encrypt_108 : decode cX11_encrypt 108 = .ok (.aaload, 1) := by decide +kernel
theorem dX11_encrypt_109 : decode cX11_encrypt 109 = .ok (.invokevirtual 402, 3) := by decide +kernel
theorem dX11_encrypt_112 : decode cX11_encrypt 112 = .ok (.ifCond .eq 26, 3) := by decide +kernel
theorem dX11_encrypt_115 : decode cX11_encrypt 115 = .ok (.iload_n 2, 1) := by decide +kernel
theorem dX11_encrypt_116 : decode cX11_encrypt 116 = .ok (.iconst 4, 1) := by decide +kernel
theorem dX11_encrypt_117 : decode cX11_encrypt 117 = .ok (.if_icmp .lt 24, 3) := by decide +kernel
theorem dX11_encrypt_120 : decode cX11_encrypt 120 = .ok (.aload_n 0, 1) := by decide +kernel
theorem dX11_encrypt_121 : decode cX11_encrypt 121 = .ok (.getfield 102, 3) := by decide +kernel
theorem dX11_encrypt_124 : decode cX11_encrypt 124 = .ok (.aload_n 0, 1) := by decide +kernel
theorem dX11_encrypt_125 : decode cX11_encrypt 125 = .ok (.getfield 109, 3) := by decide +kernel
theorem dX11_encrypt_128 : decode cX11_encrypt 128 = .ok (.getfield 406, 3) := by decide +kernel
theorem dX11_encrypt_131 : decode cX11_encrypt 131 = .ok (.iconst 0, 1) := by decide +kernel
theorem dX11_encrypt_132 : decode cX11_encrypt 132 = .ok (.invokevirtual 409, 3) := by decide +kernel
theorem dX11_encrypt_135 : decode cX11_encrypt 135 = .ok (.ifCond .ne 6, 3) := by decide +kernel
theorem dX11_encrypt_138 : decode cX11_encrypt 138 = .ok (.bipush (-4), 2) := by decide +kernel
theorem dX11_encrypt_140 : decode cX11_encrypt 140 = .ok (.ireturn, 1) := by decide +kernel
theorem dX11_encrypt_141 : decode cX11_encrypt 141 = .ok (.iload_n 2, 1) := by decide +kernel
theorem dX11_encrypt_142 : decode cX11_encrypt 142 = .ok (.iconst 4, 1) := by decide +kernel
theorem dX11_encrypt_143 : decode cX11_encrypt 143 = .ok (.if_icmp .lt 50, 3) := by decide +kernel
theorem dX11_encrypt_146 : decode cX11_encrypt 146 = .ok (.aload_n 0, 1) := by decide +kernel
theorem dX11_encrypt_147 : decode cX11_encrypt 147 = .ok (.getfield 102, 3) := by decide +kernel
theorem dX11_encrypt_150 : decode cX11_encrypt 150 = .ok (.aload_n 0, 1) := by decide +kernel
theorem dX11_encrypt_151 : decode cX11_encrypt 151 = .ok (.getfield 109, 3) := by decide +kernel
theorem dX11_encrypt_154 : decode cX11_encrypt 154 = .ok (.getfield 406, 3) := by decide +kernel
theorem dX11_encrypt_157 : decode cX11_encrypt 157 = .ok (.aload_n 0, 1) := by decide +kernel
theorem dX11_encrypt_158 : decode cX11_encrypt 158 = .ok (.getfield 102, 3) := by decide +kernel
theorem dX11_encrypt_161 : decode cX11_encrypt 161 = .ok (.getfield 282, 3) := by decide +kernel
theorem dX11_encrypt_164 : decode cX11_encrypt 164 = .ok (.aload_n 0, 1) := by decide +kernel
theorem dX11_encrypt_165 : decode cX11_encrypt 165 = .ok (.getfield 25, 3) := by decide +kernel
theorem dX11_encrypt_168 : decode cX11_encrypt 168 = .ok (.aload_n 0, 1) := by decide +kernel
theorem dX11_encrypt_169 : decode cX11_encrypt 169 = .ok (.getfield 102, 3) := by decide +kernel
theorem dX11_encrypt_172 : decode cX11_encrypt 172 = .ok (.getfield 282, 3) := by decide +kernel
theorem dX11_encrypt_175 : decode cX11_encrypt 175 = .ok (.invokevirtual 289, 3) := by decide +kernel
theorem dX11_encrypt_178 : decode cX11_encrypt 178 = .ok (.aload_n 0, 1) := by decide +kernel
theorem dX11_encrypt_179 : decode cX11_encrypt 179 = .ok (.getfield 102, 3) := by decide +kernel
theorem dX11_encrypt_182 : decode cX11_encrypt 182 = .ok (.aload_n 0, 1) := by decide +kernel
theorem dX11_encrypt_183 : decode cX11_encrypt 183 = .ok (.getfield 109, 3) := by decide +kernel
theorem dX11_encrypt_186 : decode cX11_encrypt 186 = .ok (.getfield 412, 3) := by decide +kernel
theorem dX11_encrypt_189 : decode cX11_encrypt 189 = .ok (.invokevirtual 293, 3) := by decide +kernel
theorem dX11_encrypt_192 : decode cX11_encrypt 192 = .ok (.pop, 1) := by decide +kernel
theorem dX11_encrypt_193 : decode cX11_encrypt 193 = .ok (.aload_n 0, 1) := by decide +kernel
theorem dX11_encrypt_194 : decode cX11_encrypt 194 = .ok (.getfield 109, 3) := by decide +kernel
theorem dX11_encrypt_197 : decode cX11_encrypt 197 = .ok (.aload 8, 2) := by decide +kernel
theorem dX11_encrypt_199 : decode cX11_encrypt 199 = .ok (.aload_n 0, 1) := by decide +kernel
theorem dX11_encrypt_200 : decode cX11_encrypt 200 = .ok (.iload 6, 2) := by decide +kernel
theorem dX11_encrypt_202 : decode cX11_encrypt 202 = .ok (.invokevirtual 123, 3) := by decide +kernel
theorem dX11_encrypt_205 : decode cX11_encrypt 205 = .ok (.ifCond .eq 13, 3) := by decide +kernel
theorem dX11_encrypt_208 : decode cX11_encrypt 208 = .ok (.aload_n 0, 1) := by decide +kernel
theorem dX11_encrypt_209 : decode cX11_encrypt 209 = .ok (.getfield 11, 3) := by decide +kernel
theorem dX11_encrypt_212 : decode cX11_encrypt 212 = .ok (.iload 6, 2) := by decide +kernel
theorem dX11_encrypt_214 : decode cX11_encrypt 214 = .ok (.aaload, 1) := by decide +kernel
theorem dX11_encrypt_215 : decode cX11_encrypt 215 = .ok (.goto 4, 3) := by decide +kernel
theorem dX11_encrypt_218 : decode cX11_encrypt 218 = .ok (.aconst_null, 1) := by decide +kernel
theorem dX11_encrypt_219 : decode cX11_encrypt 219 = .ok (.aload_n 0, 1) := by decide +kernel
theorem dX11_encrypt_220 : decode cX11_encrypt 220 = .ok (.iload 7, 2) := by decide +kernel
theorem dX11_encrypt_222 : decode cX11_encrypt 222 = .ok (.invokevirtual 123, 3) := by decide +kernel
theorem dX11_encrypt_225 : decode cX11_encrypt 225 = .ok (.ifCond .eq 13, 3) := by decide +kernel
theorem dX11_encrypt_228 : decode cX11_encrypt 228 = .ok (.aload_n 0, 1) := by decide +kernel
theorem dX11_encrypt_229 : decode cX11_encrypt 229 = .ok (.getfield 11, 3) := by decide +kernel
theorem dX11_encrypt_232 : decode cX11_encrypt 232 = .ok (.iload 7, 2) := by decide +kernel
theorem dX11_encrypt_234 : decode cX11_encrypt 234 = .ok (.aaload, 1) := by decide +kernel
theorem dX11_encrypt_235 : decode cX11_encrypt 235 = .ok (.goto 4, 3) := by decide +kernel
theorem dX11_encrypt_238 : decode cX11_encrypt 238 = .ok (.aconst_null, 1) := by decide +kernel
theorem dX11_encrypt_239 : decode cX11_encrypt 239 = .ok (.invokevirtual 415, 3) := by decide +kernel
theorem dX11_encrypt_242 : decode cX11_encrypt 242 = .ok (.aload_n 0, 1) := by decide +kernel
theorem dX11_encrypt_243 : decode cX11_encrypt 243 = .ok (.aload 8, 2) := by decide +kernel
theorem dX11_encrypt_245 : decode cX11_encrypt 245 = .ok (.aload_n 0, 1) := by decide +kernel
theorem dX11_encrypt_246 : decode cX11_encrypt 246 = .ok (.iload 6, 2) := by decide +kernel
theorem dX11_encrypt_248 : decode cX11_encrypt 248 = .ok (.invokevirtual 123, 3) := by decide +kernel
theorem dX11_encrypt_251 : decode cX11_encrypt 251 = .ok (.ifCond .eq 13, 3) := by decide +kernel
theorem dX11_encrypt_254 : decode cX11_encrypt 254 = .ok (.aload_n 0, 1) := by decide +kernel
theorem dX11_encrypt_255 : decode cX11_encrypt 255 = .ok (.getfield 11, 3) := by decide +kernel
theorem dX11_encrypt_258 : decode cX11_encrypt 258 = .ok (.iload 6, 2) := by decide +kernel
theorem dX11_encrypt_260 : decode cX11_encrypt 260 = .ok (.aaload, 1) := by decide +kernel
theorem dX11_encrypt_261 : decode cX11_encrypt 261 = .ok (.goto 7, 3) := by decide +kernel
theorem dX11_encrypt_264 : decode cX11_encrypt 264 = .ok (.aload_n 0, 1) := by decide +kernel
theorem dX11_encrypt_265 : decode cX11_encrypt 265 = .ok (.getfield 25, 3) := by decide +kernel
theorem dX11_encrypt_268 : decode cX11_encrypt 268 = .ok (.aload_n 0, 1) := by decide +kernel
theorem dX11_encrypt_269 : decode cX11_encrypt 269 = .ok (.iload 7, 2) := by decide +kernel
theorem dX11_encrypt_271 : decode cX11_encrypt 271 = .ok (.invokevirtual 123, 3) := by decide +kernel
theorem dX11_encrypt_274 : decode cX11_encrypt 274 = .ok (.ifCond .eq 13, 3) := by decide +kernel
theorem dX11_encrypt_277 : decode cX11_encrypt 277 = .ok (.aload_n 0, 1) := by decide +kernel
theorem dX11_encrypt_278 : decode cX11_encrypt 278 = .ok (.getfield 11, 3) := by decide +kernel
theorem dX11_encrypt_281 : decode cX11_encrypt 281 = .ok (.iload 7, 2) := by decide +kernel
theorem dX11_encrypt_283 : decode cX11_encrypt 283 = .ok (.aaload, 1) := by decide +kernel
theorem dX11_encrypt_284 : decode cX11_encrypt 284 = .ok (.goto 7, 3) := by decide +kernel
theorem dX11_encrypt_287 : decode cX11_encrypt 287 = .ok (.aload_n 0, 1) := by decide +kernel
theorem dX11_encrypt_288 : decode cX11_encrypt 288 = .ok (.getfield 25, 3) := by decide +kernel
theorem dX11_encrypt_291 : decode cX11_encrypt 291 = .ok (.invokevirtual 419, 3) := by decide +kernel
theorem dX11_encrypt_294 : decode cX11_encrypt 294 = .ok (.aload_n 0, 1) := by decide +kernel
theorem dX11_encrypt_295 : decode cX11_encrypt 295 = .ok (.getfield 109, 3) := by decide +kernel
theorem dX11_encrypt_298 : decode cX11_encrypt 298 = .ok (.getfield 352, 3) := by decide +kernel
theorem dX11_encrypt_301 : decode cX11_encrypt 301 = .ok (.getfield 198, 3) := by decide +kernel
theorem dX11_encrypt_304 : decode cX11_encrypt 304 = .ok (.ifCond .ne 26, 3) := by decide +kernel
theorem dX11_encrypt_307 : decode cX11_encrypt 307 = .ok (.aload_n 0, 1) := by decide +kernel
theorem dX11_encrypt_308 : decode cX11_encrypt 308 = .ok (.getfield 109, 3) := by decide +kernel
theorem dX11_encrypt_311 : decode cX11_encrypt 311 = .ok (.aload_n 0, 1) := by decide +kernel
theorem dX11_encrypt_312 : decode cX11_encrypt 312 = .ok (.getfield 11, 3) := by decide +kernel
theorem dX11_encrypt_315 : decode cX11_encrypt 315 = .ok (.iload 4, 2) := by decide +kernel
theorem dX11_encrypt_317 : decode cX11_encrypt 317 = .ok (.aaload, 1) := by decide +kernel
theorem dX11_encrypt_318 : decode cX11_encrypt 318 = .ok (.getfield 113, 3) := by decide +kernel
theorem dX11_encrypt_321 : decode cX11_encrypt 321 = .ok (.invokevirtual 422, 3) := by decide +kernel
theorem dX11_encrypt_324 : decode cX11_encrypt 324 = .ok (.sipush 8192, 3) := by decide +kernel
theorem dX11_encrypt_327 : decode cX11_encrypt 327 = .ok (.if_icmp .le 6, 3) := by decide +kernel
theorem dX11_encrypt_330 : decode cX11_encrypt 330 = .ok (.bipush (-3), 2) := by decide +kernel
theorem dX11_encrypt_332 : decode cX11_encrypt 332 = .ok (.ireturn, 1) := by decide +kernel
theorem dX11_encrypt_333 : decode cX11_encrypt 333 = .ok (.aload_n 0, 1) := by decide +kernel
theorem dX11_encrypt_334 : decode cX11_encrypt 334 = .ok (.getfield 28, 3) := by decide +kernel
theorem dX11_encrypt_337 : decode cX11_encrypt 337 = .ok (.invokevirtual 131, 3) := by decide +kernel
theorem dX11_encrypt_340 : decode cX11_encrypt 340 = .ok (.aload_n 0, 1) := by decide +kernel
theorem dX11_encrypt_341 : decode cX11_encrypt 341 = .ok (.getfield 28, 3) := by decide +kernel
theorem dX11_encrypt_344 : decode cX11_encrypt 344 = .ok (.aload_n 0, 1) := by decide +kernel
theorem dX11_encrypt_345 : decode cX11_encrypt 345 = .ok (.getfield 109, 3) := by decide +kernel
theorem dX11_encrypt_348 : decode cX11_encrypt 348 = .ok (.getfield 352, 3) := by decide +kernel
theorem dX11_encrypt_351 : decode cX11_encrypt 351 = .ok (.iconst 0, 1) := by decide +kernel
theorem dX11_encrypt_352 : decode cX11_encrypt 352 = .ok (.aload_n 0, 1) := by decide +kernel
theorem dX11_encrypt_353 : decode cX11_encrypt 353 = .ok (.getfield 109, 3) := by decide +kernel
theorem dX11_encrypt_356 : decode cX11_encrypt 356 = .ok (.getfield 352, 3) := by decide +kernel
theorem dX11_encrypt_359 : decode cX11_encrypt 359 = .ok (.getfield 113, 3) := by decide +kernel
theorem dX11_encrypt_362 : decode cX11_encrypt 362 = .ok (.invokevirtual 205, 3) := by decide +kernel
theorem dX11_encrypt_365 : decode cX11_encrypt 365 = .ok (.aload_n 0, 1) := by decide +kernel
theorem dX11_encrypt_366 : decode cX11_encrypt 366 = .ok (.getfield 86, 3) := by decide +kernel
theorem dX11_encrypt_369 : decode cX11_encrypt 369 = .ok (.iload_n 3, 1) := by decide +kernel
theorem dX11_encrypt_370 : decode cX11_encrypt 370 = .ok (.aload_n 0, 1) := by decide +kernel
theorem dX11_encrypt_371 : decode cX11_encrypt 371 = .ok (.getfield 109, 3) := by decide +kernel
theorem dX11_encrypt_374 : decode cX11_encrypt 374 = .ok (.getfield 425, 3) := by decide +kernel
theorem dX11_encrypt_377 : decode cX11_encrypt 377 = .ok (.aload_n 0, 1) := by decide +kernel
theorem dX11_encrypt_378 : decode cX11_encrypt 378 = .ok (.getfield 109, 3) := by decide +kernel
theorem dX11_encrypt_381 : decode cX11_encrypt 381 = .ok (.getfield 428, 3) := by decide +kernel
theorem dX11_encrypt_384 : decode cX11_encrypt 384 = .ok (.aload_n 0, 1) := by decide +kernel
theorem dX11_encrypt_385 : decode cX11_encrypt 385 = .ok (.getfield 28, 3) := by decide +kernel
theorem dX11_encrypt_388 : decode cX11_encrypt 388 = .ok (.aload_n 0, 1) := by decide +kernel
theorem dX11_encrypt_389 : decode cX11_encrypt 389 = .ok (.getfield 11, 3) := by decide +kernel
theorem dX11_encrypt_392 : decode cX11_encrypt 392 = .ok (.iload 4, 2) := by decide +kernel
theorem dX11_encrypt_394 : decode cX11_encrypt 394 = .ok (.aaload, 1) := by decide +kernel
theorem dX11_encrypt_395 : decode cX11_encrypt 395 = .ok (.aload_n 0, 1) := by decide +kernel
theorem dX11_encrypt_396 : decode cX11_encrypt 396 = .ok (.getfield 31, 3) := by decide +kernel
theorem dX11_encrypt_399 : decode cX11_encrypt 399 = .ok (.invokevirtual 261, 3) := by decide +kernel
theorem dX11_encrypt_402 : decode cX11_encrypt 402 = .ok (.aload_n 0, 1) := by decide +kernel
theorem dX11_encrypt_403 : decode cX11_encrypt 403 = .ok (.getfield 28, 3) := by decide +kernel
theorem dX11_encrypt_406 : decode cX11_encrypt 406 = .ok (.aload_n 0, 1) := by decide +kernel
theorem dX11_encrypt_407 : decode cX11_encrypt 407 = .ok (.getfield 109, 3) := by decide +kernel
theorem dX11_encrypt_410 : decode cX11_encrypt 410 = .ok (.getfield 431, 3) := by decide +kernel
theorem dX11_encrypt_413 : decode cX11_encrypt 413 = .ok (.iconst 0, 1) := by decide +kernel
theorem dX11_encrypt_414 : decode cX11_encrypt 414 = .ok (.aload_n 0, 1) := by decide +kernel
theorem dX11_encrypt_415 : decode cX11_encrypt 415 = .ok (.getfield 109, 3) := by decide +kernel
theorem dX11_encrypt_418 : decode cX11_encrypt 418 = .ok (.getfield 431, 3) := by decide +kernel
theorem dX11_encrypt_421 : decode cX11_encrypt 421 = .ok (.getfield 113, 3) := by decide +kernel
theorem dX11_encrypt_424 : decode cX11_encrypt 424 = .ok (.invokevirtual 434, 3) := by decide +kernel
theorem dX11_encrypt_427 : decode cX11_encrypt 427 = .ok (.aload_n 0, 1) := by decide +kernel
theorem dX11_encrypt_428 : decode cX11_encrypt 428 = .ok (.getfield 28, 3) := by decide +kernel
theorem dX11_encrypt_431 : decode cX11_encrypt 431 = .ok (.aload_n 0, 1) := by decide +kernel
theorem dX11_encrypt_432 : decode cX11_encrypt 432 = .ok (.getfield 109, 3) := by decide +kernel
theorem dX11_encrypt_435 : decode cX11_encrypt 435 = .ok (.getfield 428, 3) := by decide +kernel
theorem dX11_encrypt_438 : decode cX11_encrypt 438 = .ok (.iconst 0, 1) := by decide +kernel
theorem dX11_encrypt_439 : decode cX11_encrypt 439 = .ok (.aload_n 0, 1) := by decide +kernel
theorem dX11_encrypt_440 : decode cX11_encrypt 440 = .ok (.getfield 109, 3) := by decide +kernel
theorem dX11_encrypt_443 : decode cX11_encrypt 443 = .ok (.getfield 428, 3) := by decide +kernel
theorem dX11_encrypt_446 : decode cX11_encrypt 446 = .ok (.getfield 113, 3) := by decide +kernel
theorem dX11_encrypt_449 : decode cX11_encrypt 449 = .ok (.invokevirtual 434, 3) := by decide +kernel
theorem dX11_encrypt_452 : decode cX11_encrypt 452 = .ok (.aload_n 0, 1) := by decide +kernel
theorem dX11_encrypt_453 : decode cX11_encrypt 453 = .ok (.getfield 28, 3) := by decide +kernel
theorem dX11_encrypt_456 : decode cX11_encrypt 456 = .ok (.aload_n 0, 1) := by decide +kernel
theorem dX11_encrypt_457 : decode cX11_encrypt 457 = .ok (.getfield 31, 3) := by decide +kernel
theorem dX11_encrypt_460 : decode cX11_encrypt 460 = .ok (.iconst 0, 1) := by decide +kernel
theorem dX11_encrypt_461 : decode cX11_encrypt 461 = .ok (.aload_n 0, 1) := by decide +kernel
theorem dX11_encrypt_462 : decode cX11_encrypt 462 = .ok (.getfield 31, 3) := by decide +kernel
theorem dX11_encrypt_465 : decode cX11_encrypt 465 = .ok (.getfield 113, 3) := by decide +kernel
theorem dX11_encrypt_468 : decode cX11_encrypt 468 = .ok (.getstatic 258, 3) := by decide +kernel
theorem dX11_encrypt_471 : decode cX11_encrypt 471 = .ok (.iload_n 3, 1) := by decide +kernel
theorem dX11_encrypt_472 : decode cX11_encrypt 472 = .ok (.iaload, 1) := by decide +kernel
theorem dX11_encrypt_473 : decode cX11_encrypt 473 = .ok (.isub, 1) := by decide +kernel
theorem dX11_encrypt_474 : decode cX11_encrypt 474 = .ok (.invokevirtual 434, 3) := by decide +kernel
theorem dX11_encrypt_477 : decode cX11_encrypt 477 = .ok (.aload_n 0, 1) := by decide +kernel
theorem dX11_encrypt_478 : decode cX11_encrypt 478 = .ok (.getfield 28, 3) := by decide +kernel
theorem dX11_encrypt_481 : decode cX11_encrypt 481 = .ok (.aload_n 0, 1) := by decide +kernel
theorem dX11_encrypt_482 : decode cX11_encrypt 482 = .ok (.getfield 31, 3) := by decide +kernel
theorem dX11_encrypt_485 : decode cX11_encrypt 485 = .ok (.aload_n 0, 1) := by decide +kernel
theorem dX11_encrypt_486 : decode cX11_encrypt 486 = .ok (.getfield 31, 3) := by decide +kernel
theorem dX11_encrypt_489 : decode cX11_encrypt 489 = .ok (.getfield 113, 3) := by decide +kernel
theorem dX11_encrypt_492 : decode cX11_encrypt 492 = .ok (.getstatic 258, 3) := by decide +kernel
theorem dX11_encrypt_495 : decode cX11_encrypt 495 = .ok (.iload_n 3, 1) := by decide +kernel
theorem dX11_encrypt_496 : decode cX11_encrypt 496 = .ok (.iaload, 1) := by decide +kernel
theorem dX11_encrypt_497 : decode cX11_encrypt 497 = .ok (.isub, 1) := by decide +kernel
theorem dX11_encrypt_498 : decode cX11_encrypt 498 = .ok (.aload_n 0, 1) := by decide +kernel
theorem dX11_encrypt_499 : decode cX11_encrypt 499 = .ok (.getfield 31, 3) := by decide +kernel
theorem dX11_encrypt_502 : decode cX11_encrypt 502 = .ok (.getfield 113, 3) := by decide +kernel
theorem dX11_encrypt_505 : decode cX11_encrypt 505 = .ok (.invokevirtual 434, 3) := by decide +kernel
theorem dX11_encrypt_508 : decode cX11_encrypt 508 = .ok (.aload_n 0, 1) := by decide +kernel
theorem dX11_encrypt_509 : decode cX11_encrypt 509 = .ok (.aload_n 0, 1) := by decide +kernel
theorem dX11_encrypt_510 : decode cX11_encrypt 510 = .ok (.getfield 28, 3) := by decide +kernel
theorem dX11_encrypt_513 : decode cX11_encrypt 513 = .ok (.iconst 0, 1) := by decide +kernel
theorem dX11_encrypt_514 : decode cX11_encrypt 514 = .ok (.aload_n 0, 1) := by decide +kernel
theorem dX11_encrypt_515 : decode cX11_encrypt 515 = .ok (.getfield 28, 3) := by decide +kernel
theorem dX11_encrypt_518 : decode cX11_encrypt 518 = .ok (.getfield 113, 3) := by decide +kernel
theorem dX11_encrypt_521 : decode cX11_encrypt 521 = .ok (.invokevirtual 176, 3) := by decide +kernel
theorem dX11_encrypt_524 : decode cX11_encrypt 524 = .ok (.ireturn, 1) := by decide +kernel
abbrev rmX11_encrypt : Room := { frames := 8, cells := 0, slots := 0, locals := 216 }
set_option maxHeartbeats 4000000 in
set_option maxRecDepth 100000 in
theorem wB_X11_encrypt_291 {G : mG} {F : Nat} {x : mXT} {sz : Nat} {r0 : Int32} {M0 : mM} (X : mCX G RX11 cX11_encrypt 9 (some .int) "encrypt" rmX11_encrypt x) (hQ : mQI x r0 M0 (sz, 0, 0)) {l0 : Nat} {l3 : Int32} {l4 : Int32} {sk0 : Nat} {sk1 : Nat} {sk2 : Nat} {sk3 : Nat} {M : mM} (h : B_X11_encrypt_291 G F l0 l3 l4 sk0 sk1 sk2 sk3 M = some (r0, M0)) : WW x (sz, 0, 0) M 291 [(0, .ref l0), (3, .int l3), (4, .int l4)] [.ref sk3, .ref sk2, .ref sk1, .ref sk0] := by
  unfold B_X11_encrypt_291 at h
  obtain ⟨_, f291, h⟩ := bO_some h
  obtain ⟨M291, e291, h⟩ := bO_some h
  refine ww_callVV0 291 X dX11_encrypt_291 mY_X11_makeSealedKey mL_X11_419 (rcv_spec f291) ⟨_, _, rfl⟩ (by decide) (As := [.ref sk1, .ref sk2, .ref sk3]) (rest := []) rfl rfl ⟨Nat.le_of_ble_eq_true rfl, Nat.le_of_ble_eq_true rfl⟩ (Nat.le_of_ble_eq_true rfl) (fun l D A => c_X11_makeSealedKey l D A e291) ?_
  refine ww_aload_n 294 X dX11_encrypt_294 0 rfl rfl ?_
  obtain ⟨v295, e295, h⟩ := bO_some h
  refine ww_getR 295 X dX11_encrypt_295 fG_X11_109 e295 ?_
  obtain ⟨v298, e298, h⟩ := bO_some h
  refine ww_getR 298 X dX11_encrypt_298 fG_X11_352 e298 ?_
  obtain ⟨v301, e301, h⟩ := bO_some h
  refine ww_getI 301 X dX11_encrypt_301 fG_X11_198 e301 ?_
  refine ww_if_ne 304 330 X dX11_encrypt_304 (by decide) (fun q => ?_) (fun q => ?_)
  · replace h := (if_neg q).symm.trans h
    refine ww_bipush 330 X (v := (-3 : Int32)) dX11_encrypt_330 (by decide) ?_
    exact ww_iretE 332 X hQ dX11_encrypt_332 h
  · replace h := (if_pos q).symm.trans h
    refine ww_aload_n 307 X dX11_encrypt_307 0 rfl rfl ?_
    obtain ⟨v308, e308, h⟩ := bO_some h
    refine ww_getR 308 X dX11_encrypt_308 fG_X11_109 e308 ?_
    refine ww_aload_n 311 X dX11_encrypt_311 0 rfl rfl ?_
    obtain ⟨v312, e312, h⟩ := bO_some h
    refine ww_getR 312 X dX11_encrypt_312 fG_X11_11 e312 ?_
    refine ww_iload 315 X dX11_encrypt_315 2 rfl ?_
    obtain ⟨v317, e317, h⟩ := bO_some h
    refine ww_aald4 317 X dX11_encrypt_317 e317 ?_
    obtain ⟨v318, e318, h⟩ := bO_some h
    refine ww_getI 318 X dX11_encrypt_318 fG_X11_113 e318 ?_
    obtain ⟨_, f321, h⟩ := bO_some h
    obtain ⟨v321, M321, e321, h⟩ := bP_some h
    refine ww_callVI0 321 X dX11_encrypt_321 mY_X10_sealedLetters mL_X11_422 (rcv_spec f321) ⟨_, _, rfl⟩ (by decide) (As := [.int v318]) (rest := []) rfl rfl ⟨Nat.le_of_ble_eq_true rfl, Nat.le_of_ble_eq_true rfl⟩ (Nat.le_of_ble_eq_true rfl) (fun l D A => c_X10_sealedLetters l D A e321) ?_
    refine ww_sipush 324 X (v := (8192 : Int32)) dX11_encrypt_324 (by decide) ?_
    refine ww_icmp_le 327 333 X dX11_encrypt_327 (by decide) (fun q => ?_) (fun q => ?_)
    · replace h := (if_pos q).symm.trans h
      refine ww_aload_n 333 X dX11_encrypt_333 0 rfl rfl ?_
      obtain ⟨v334, e334, h⟩ := bO_some h
      refine ww_getR 334 X dX11_encrypt_334 fG_X11_28 e334 ?_
      obtain ⟨_, f337, h⟩ := bO_some h
      obtain ⟨M337, e337, h⟩ := bO_some h
      refine ww_callVV0 337 X dX11_encrypt_337 mY_X0_clear mL_X11_131 (rcv_spec f337) ⟨_, _, rfl⟩ (by decide) (As := []) (rest := []) rfl rfl ⟨Nat.le_of_ble_eq_true rfl, Nat.le_of_ble_eq_true rfl⟩ (Nat.le_of_ble_eq_true rfl) (fun l D A => c_X0_clear l D A e337) ?_
      refine ww_aload_n 340 X dX11_encrypt_340 0 rfl rfl ?_
      obtain ⟨v341, e341, h⟩ := bO_some h
      refine ww_getR 341 X dX11_encrypt_341 fG_X11_28 e341 ?_
      refine ww_aload_n 344 X dX11_encrypt_344 0 rfl rfl ?_
      obtain ⟨v345, e345, h⟩ := bO_some h
      refine ww_getR 345 X dX11_encrypt_345 fG_X11_109 e345 ?_
      obtain ⟨v348, e348, h⟩ := bO_some h
      refine ww_getR 348 X dX11_encrypt_348 fG_X11_352 e348 ?_
      refine ww_iconst 351 X (v := (0 : Int32)) dX11_encrypt_351 (by decide) ?_
      refine ww_aload_n 352 X dX11_encrypt_352 0 rfl rfl ?_
      obtain ⟨v353, e353, h⟩ := bO_some h
      refine ww_getR 353 X dX11_encrypt_353 fG_X11_109 e353 ?_
      obtain ⟨v356, e356, h⟩ := bO_some h
      refine ww_getR 356 X dX11_encrypt_356 fG_X11_352 e356 ?_
      obtain ⟨v359, e359, h⟩ := bO_some h
      refine ww_getI 359 X dX11_encrypt_359 fG_X11_113 e359 ?_
      obtain ⟨_, f362, h⟩ := bO_some h
      obtain ⟨M362, e362, h⟩ := bO_some h
      refine ww_callVV0 362 X dX11_encrypt_362 mY_X0_putLetters mL_X11_205 (rcv_spec f362) ⟨_, _, rfl⟩ (by decide) (As := [.ref v348, .int (0 : Int32), .int v359]) (rest := []) rfl rfl ⟨Nat.le_of_ble_eq_true rfl, Nat.le_of_ble_eq_true rfl⟩ (Nat.le_of_ble_eq_true rfl) (fun l D A => c_X0_putLetters l D A e362) ?_
      refine ww_aload_n 365 X dX11_encrypt_365 0 rfl rfl ?_
      obtain ⟨v366, e366, h⟩ := bO_some h
      refine ww_getR 366 X dX11_encrypt_366 fG_X11_86 e366 ?_
      refine ww_iload_n 369 X dX11_encrypt_369 1 rfl rfl ?_
      refine ww_aload_n 370 X dX11_encrypt_370 0 rfl rfl ?_
      obtain ⟨v371, e371, h⟩ := bO_some h
      refine ww_getR 371 X dX11_encrypt_371 fG_X11_109 e371 ?_
      obtain ⟨v374, e374, h⟩ := bO_some h
      refine ww_getR 374 X dX11_encrypt_374 fG_X11_425 e374 ?_
      refine ww_aload_n 377 X dX11_encrypt_377 0 rfl rfl ?_
      obtain ⟨v378, e378, h⟩ := bO_some h
      refine ww_getR 378 X dX11_encrypt_378 fG_X11_109 e378 ?_
      obtain ⟨v381, e381, h⟩ := bO_some h
      refine ww_getR 381 X dX11_encrypt_381 fG_X11_428 e381 ?_
      refine ww_aload_n 384 X dX11_encrypt_384 0 rfl rfl ?_
      obtain ⟨v385, e385, h⟩ := bO_some h
      refine ww_getR 385 X dX11_encrypt_385 fG_X11_28 e385 ?_
      refine ww_aload_n 388 X dX11_encrypt_388 0 rfl rfl ?_
      obtain ⟨v389, e389, h⟩ := bO_some h
      refine ww_getR 389 X dX11_encrypt_389 fG_X11_11 e389 ?_
      refine ww_iload 392 X dX11_encrypt_392 2 rfl ?_
      obtain ⟨v394, e394, h⟩ := bO_some h
      refine ww_aald4 394 X dX11_encrypt_394 e394 ?_
      refine ww_aload_n 395 X dX11_encrypt_395 0 rfl rfl ?_
      obtain ⟨v396, e396, h⟩ := bO_some h
      refine ww_getR 396 X dX11_encrypt_396 fG_X11_31 e396 ?_
      obtain ⟨_, f399, h⟩ := bO_some h
      obtain ⟨M399, e399, h⟩ := bO_some h
      refine ww_callVV0 399 X dX11_encrypt_399 mY_X2_lock mL_X11_261 (rcv_spec f399) ⟨_, _, rfl⟩ (by decide) (As := [.int l3, .ref v374, .ref v381, .ref v385, .ref v394, .ref v396]) (rest := []) rfl rfl ⟨Nat.le_of_ble_eq_true rfl, Nat.le_of_ble_eq_true rfl⟩ (Nat.le_of_ble_eq_true rfl) (fun l D A => c_X2_lock l D A e399) ?_
      refine ww_aload_n 402 X dX11_encrypt_402 0 rfl rfl ?_
      obtain ⟨v403, e403, h⟩ := bO_some h
      refine ww_getR 403 X dX11_encrypt_403 fG_X11_28 e403 ?_
      refine ww_aload_n 406 X dX11_encrypt_406 0 rfl rfl ?_
      obtain ⟨v407, e407, h⟩ := bO_some h
      refine ww_getR 407 X dX11_encrypt_407 fG_X11_109 e407 ?_
      obtain ⟨v410, e410, h⟩ := bO_some h
      refine ww_getR 410 X dX11_encrypt_410 fG_X11_431 e410 ?_
      refine ww_iconst 413 X (v := (0 : Int32)) dX11_encrypt_413 (by decide) ?_
      refine ww_aload_n 414 X dX11_encrypt_414 0 rfl rfl ?_
      obtain ⟨v415, e415, h⟩ := bO_some h
      refine ww_getR 415 X dX11_encrypt_415 fG_X11_109 e415 ?_
      obtain ⟨v418, e418, h⟩ := bO_some h
      refine ww_getR 418 X dX11_encrypt_418 fG_X11_431 e418 ?_
      obtain ⟨v421, e421, h⟩ := bO_some h
      refine ww_getI 421 X dX11_encrypt_421 fG_X11_113 e421 ?_
      obtain ⟨_, f424, h⟩ := bO_some h
      obtain ⟨M424, e424, h⟩ := bO_some h
      refine ww_callVV0 424 X dX11_encrypt_424 mY_X0_putLetterPart mL_X11_434 (rcv_spec f424) ⟨_, _, rfl⟩ (by decide) (As := [.ref v410, .int (0 : Int32), .int v421]) (rest := []) rfl rfl ⟨Nat.le_of_ble_eq_true rfl, Nat.le_of_ble_eq_true rfl⟩ (Nat.le_of_ble_eq_true rfl) (fun l D A => c_X0_putLetterPart l D A e424) ?_
      refine ww_aload_n 427 X dX11_encrypt_427 0 rfl rfl ?_
      obtain ⟨v428, e428, h⟩ := bO_some h
      refine ww_getR 428 X dX11_encrypt_428 fG_X11_28 e428 ?_
      refine ww_aload_n 431 X dX11_encrypt_431 0 rfl rfl ?_
      obtain ⟨v432, e432, h⟩ := bO_some h
      refine ww_getR 432 X dX11_encrypt_432 fG_X11_109 e432 ?_
      obtain ⟨v435, e435, h⟩ := bO_some h
      refine ww_getR 435 X dX11_encrypt_435 fG_X11_428 e435 ?_
      refine ww_iconst 438 X (v := (0 : Int32)) dX11_encrypt_438 (by decide) ?_
      refine ww_aload_n 439 X dX11_encrypt_439 0 rfl rfl ?_
      obtain ⟨v440, e440, h⟩ := bO_some h
      refine ww_getR 440 X dX11_encrypt_440 fG_X11_109 e440 ?_
      obtain ⟨v443, e443, h⟩ := bO_some h
      refine ww_getR 443 X dX11_encrypt_443 fG_X11_428 e443 ?_
      obtain ⟨v446, e446, h⟩ := bO_some h
      refine ww_getI 446 X dX11_encrypt_446 fG_X11_113 e446 ?_
      obtain ⟨_, f449, h⟩ := bO_some h
      obtain ⟨M449, e449, h⟩ := bO_some h
      refine ww_callVV0 449 X dX11_encrypt_449 mY_X0_putLetterPart mL_X11_434 (rcv_spec f449) ⟨_, _, rfl⟩ (by decide) (As := [.ref v435, .int (0 : Int32), .int v446]) (rest := []) rfl rfl ⟨Nat.le_of_ble_eq_true rfl, Nat.le_of_ble_eq_true rfl⟩ (Nat.le_of_ble_eq_true rfl) (fun l D A => c_X0_putLetterPart l D A e449) ?_
      refine ww_aload_n 452 X dX11_encrypt_452 0 rfl rfl ?_
      obtain ⟨v453, e453, h⟩ := bO_some h
      refine ww_getR 453 X dX11_encrypt_453 fG_X11_28 e453 ?_
      refine ww_aload_n 456 X dX11_encrypt_456 0 rfl rfl ?_
      obtain ⟨v457, e457, h⟩ := bO_some h
      refine ww_getR 457 X dX11_encrypt_457 fG_X11_31 e457 ?_
      refine ww_iconst 460 X (v := (0 : Int32)) dX11_encrypt_460 (by decide) ?_
      refine ww_aload_n 461 X dX11_encrypt_461 0 rfl rfl ?_
      obtain ⟨v462, e462, h⟩ := bO_some h
      refine ww_getR 462 X dX11_encrypt_462 fG_X11_31 e462 ?_
      obtain ⟨v465, e465, h⟩ := bO_some h
      refine ww_getI 465 X dX11_encrypt_465 fG_X11_113 e465 ?_
      refine ww_gets 468 X dX11_encrypt_468 gS_X11_258 ?_
      refine ww_iload_n 471 X dX11_encrypt_471 1 rfl rfl ?_
      obtain ⟨v472, e472, h⟩ := bO_some h
      refine ww_iald 472 X dX11_encrypt_472 e472 ?_
      refine ww_isub 473 X dX11_encrypt_473 ?_
      obtain ⟨_, f474, h⟩ := bO_some h
      obtain ⟨M474, e474, h⟩ := bO_some h
      refine ww_callVV0 474 X dX11_encrypt_474 mY_X0_putLetterPart mL_X11_434 (rcv_spec f474) ⟨_, _, rfl⟩ (by decide) (As := [.ref v457, .int (0 : Int32), .int (v465 - v472)]) (rest := []) rfl rfl ⟨Nat.le_of_ble_eq_true rfl, Nat.le_of_ble_eq_true rfl⟩ (Nat.le_of_ble_eq_true rfl) (fun l D A => c_X0_putLetterPart l D A e474) ?_
      refine ww_aload_n 477 X dX11_encrypt_477 0 rfl rfl ?_
      obtain ⟨v478, e478, h⟩ := bO_some h
      refine ww_getR 478 X dX11_encrypt_478 fG_X11_28 e478 ?_
      refine ww_aload_n 481 X dX11_encrypt_481 0 rfl rfl ?_
      obtain ⟨v482, e482, h⟩ := bO_some h
      refine ww_getR 482 X dX11_encrypt_482 fG_X11_31 e482 ?_
      refine ww_aload_n 485 X dX11_encrypt_485 0 rfl rfl ?_
      obtain ⟨v486, e486, h⟩ := bO_some h
      refine ww_getR 486 X dX11_encrypt_486 fG_X11_31 e486 ?_
      obtain ⟨v489, e489, h⟩ := bO_some h
      refine ww_getI 489 X dX11_encrypt_489 fG_X11_113 e489 ?_
      refine ww_gets 492 X dX11_encrypt_492 gS_X11_258 ?_
      refine ww_iload_n 495 X dX11_encrypt_495 1 rfl rfl ?_
      obtain ⟨v496, e496, h⟩ := bO_some h
      refine ww_iald 496 X dX11_encrypt_496 e496 ?_
      refine ww_isub 497 X dX11_encrypt_497 ?_
      refine ww_aload_n 498 X dX11_encrypt_498 0 rfl rfl ?_
      obtain ⟨v499, e499, h⟩ := bO_some h
      refine ww_getR 499 X dX11_encrypt_499 fG_X11_31 e499 ?_
      obtain ⟨v502, e502, h⟩ := bO_some h
      refine ww_getI 502 X dX11_encrypt_502 fG_X11_113 e502 ?_
      obtain ⟨_, f505, h⟩ := bO_some h
      obtain ⟨M505, e505, h⟩ := bO_some h
      refine ww_callVV0 505 X dX11_encrypt_505 mY_X0_putLetterPart mL_X11_434 (rcv_spec f505) ⟨_, _, rfl⟩ (by decide) (As := [.ref v482, .int (v489 - v496), .int v502]) (rest := []) rfl rfl ⟨Nat.le_of_ble_eq_true rfl, Nat.le_of_ble_eq_true rfl⟩ (Nat.le_of_ble_eq_true rfl) (fun l D A => c_X0_putLetterPart l D A e505) ?_
      refine ww_aload_n 508 X dX11_encrypt_508 0 rfl rfl ?_
      refine ww_aload_n 509 X dX11_encrypt_509 0 rfl rfl ?_
      obtain ⟨v510, e510, h⟩ := bO_some h
      refine ww_getR 510 X dX11_encrypt_510 fG_X11_28 e510 ?_
      refine ww_iconst 513 X (v := (0 : Int32)) dX11_encrypt_513 (by decide) ?_
      refine ww_aload_n 514 X dX11_encrypt_514 0 rfl rfl ?_
      obtain ⟨v515, e515, h⟩ := bO_some h
      refine ww_getR 515 X dX11_encrypt_515 fG_X11_28 e515 ?_
      obtain ⟨v518, e518, h⟩ := bO_some h
      refine ww_getI 518 X dX11_encrypt_518 fG_X11_113 e518 ?_
      obtain ⟨_, f521, h⟩ := bO_some h
      obtain ⟨v521, M521, e521, h⟩ := bP_some h
      refine ww_callVI0 521 X dX11_encrypt_521 mY_X11_show mL_X11_176 (rcv_spec f521) ⟨_, _, rfl⟩ (by decide) (As := [.ref v510, .int (0 : Int32), .int v518]) (rest := []) rfl rfl ⟨Nat.le_of_ble_eq_true rfl, Nat.le_of_ble_eq_true rfl⟩ (Nat.le_of_ble_eq_true rfl) (fun l D A => c_X11_show l D A e521) ?_
      exact ww_iretE 524 X hQ dX11_encrypt_524 h
    · replace h := (if_neg q).symm.trans h
      refine ww_bipush 330 X (v := (-3 : Int32)) dX11_encrypt_330 (by decide) ?_
      exact ww_iretE 332 X hQ dX11_encrypt_332 h
set_option maxHeartbeats 4000000 in
set_option maxRecDepth 100000 in
theorem wB_X11_encrypt_268 {G : mG} {F : Nat} {x : mXT} {sz : Nat} {r0 : Int32} {M0 : mM} (X : mCX G RX11 cX11_encrypt 9 (some .int) "encrypt" rmX11_encrypt x) (hQ : mQI x r0 M0 (sz, 0, 0)) {l0 : Nat} {l3 : Int32} {l4 : Int32} {l7 : Int32} {sk0 : Nat} {sk1 : Nat} {sk2 : Nat} {M : mM} (h : B_X11_encrypt_268 G F l0 l3 l4 l7 sk0 sk1 sk2 M = some (r0, M0)) : WW x (sz, 0, 0) M 268 [(0, .ref l0), (3, .int l3), (4, .int l4), (7, .int l7)] [.ref sk2, .ref sk1, .ref sk0] := by
  unfold B_X11_encrypt_268 at h
  refine ww_aload_n 268 X dX11_encrypt_268 0 rfl rfl ?_
  refine ww_iload 269 X dX11_encrypt_269 3 rfl ?_
  obtain ⟨_, f271, h⟩ := bO_some h
  obtain ⟨v271, M271, e271, h⟩ := bP_some h
  refine ww_callVI0 271 X dX11_encrypt_271 mY_X11_isRow mL_X11_123 (rcv_spec f271) ⟨_, _, rfl⟩ (by decide) (As := [.int l7]) (rest := [.ref sk2, .ref sk1, .ref sk0]) rfl rfl ⟨Nat.le_of_ble_eq_true rfl, Nat.le_of_ble_eq_true rfl⟩ (Nat.le_of_ble_eq_true rfl) (fun l D A => c_X11_isRow l D A e271) ?_
  refine ww_if_eq 274 287 X dX11_encrypt_274 (by decide) (fun q => ?_) (fun q => ?_)
  · replace h := (if_pos q).symm.trans h
    refine ww_aload_n 287 X dX11_encrypt_287 0 rfl rfl ?_
    obtain ⟨v288, e288, h⟩ := bO_some h
    refine ww_getR 288 X dX11_encrypt_288 fG_X11_25 e288 ?_
    exact ww_sub [0, 1, 2] rfl (wB_X11_encrypt_291 X hQ h)
  · replace h := (if_neg q).symm.trans h
    refine ww_aload_n 277 X dX11_encrypt_277 0 rfl rfl ?_
    obtain ⟨v278, e278, h⟩ := bO_some h
    refine ww_getR 278 X dX11_encrypt_278 fG_X11_11 e278 ?_
    refine ww_iload 281 X dX11_encrypt_281 3 rfl ?_
    obtain ⟨v283, e283, h⟩ := bO_some h
    refine ww_aald4 283 X dX11_encrypt_283 e283 ?_
    refine ww_goto 284 291 X dX11_encrypt_284 (by decide) ?_
    exact ww_sub [0, 1, 2] rfl (wB_X11_encrypt_291 X hQ h)
set_option maxHeartbeats 4000000 in
set_option maxRecDepth 100000 in
theorem wB_X11_encrypt_239_s3 {G : mG} {F : Nat} {x : mXT} {sz : Nat} {r0 : Int32} {M0 : mM} (X : mCX G RX11 cX11_encrypt 9 (some .int) "encrypt" rmX11_encrypt x) (hQ : mQI x r0 M0 (sz, 0, 0)) {l0 : Nat} {l3 : Int32} {l4 : Int32} {l6 : Int32} {l7 : Int32} {l8 : Nat} {sk0 : Nat} {sk1 : Nat} {sk2 : Nat} {M : mM} (h : B_X11_encrypt_239_s3 G F l0 l3 l4 l6 l7 l8 sk0 sk1 sk2 M = some (r0, M0)) : WW x (sz, 0, 0) M 239 [(0, .ref l0), (3, .int l3), (4, .int l4), (6, .int l6), (7, .int l7), (8, .ref l8)] [.null, .ref sk2, .ref sk1, .ref sk0] := by
  unfold B_X11_encrypt_239_s3 at h
  obtain ⟨_, f239, h⟩ := bO_some h
  obtain ⟨M239, e239, h⟩ := bO_some h
  refine ww_callVV0 239 X dX11_encrypt_239 mY_X10_makeSealedHead mL_X11_415 (rcv_spec f239) ⟨_, _, rfl⟩ (by decide) (As := [.ref sk1, .ref sk2, .null]) (rest := []) rfl rfl ⟨Nat.le_of_ble_eq_true rfl, Nat.le_of_ble_eq_true rfl⟩ (Nat.le_of_ble_eq_true rfl) (fun l D A => c_X10_makeSealedHead_n3 l D A e239) ?_
  refine ww_aload_n 242 X dX11_encrypt_242 0 rfl rfl ?_
  refine ww_aload 243 X dX11_encrypt_243 5 rfl ?_
  refine ww_aload_n 245 X dX11_encrypt_245 0 rfl rfl ?_
  refine ww_iload 246 X dX11_encrypt_246 3 rfl ?_
  obtain ⟨_, f248, h⟩ := bO_some h
  obtain ⟨v248, M248, e248, h⟩ := bP_some h
  refine ww_callVI0 248 X dX11_encrypt_248 mY_X11_isRow mL_X11_123 (rcv_spec f248) ⟨_, _, rfl⟩ (by decide) (As := [.int l6]) (rest := [.ref l8, .ref l0]) rfl rfl ⟨Nat.le_of_ble_eq_true rfl, Nat.le_of_ble_eq_true rfl⟩ (Nat.le_of_ble_eq_true rfl) (fun l D A => c_X11_isRow l D A e248) ?_
  refine ww_if_eq 251 264 X dX11_encrypt_251 (by decide) (fun q => ?_) (fun q => ?_)
  · replace h := (if_pos q).symm.trans h
    refine ww_aload_n 264 X dX11_encrypt_264 0 rfl rfl ?_
    obtain ⟨v265, e265, h⟩ := bO_some h
    refine ww_getR 265 X dX11_encrypt_265 fG_X11_25 e265 ?_
    exact ww_sub [0, 1, 2, 4] rfl (wB_X11_encrypt_268 X hQ h)
  · replace h := (if_neg q).symm.trans h
    refine ww_aload_n 254 X dX11_encrypt_254 0 rfl rfl ?_
    obtain ⟨v255, e255, h⟩ := bO_some h
    refine ww_getR 255 X dX11_encrypt_255 fG_X11_11 e255 ?_
    refine ww_iload 258 X dX11_encrypt_258 3 rfl ?_
    obtain ⟨v260, e260, h⟩ := bO_some h
    refine ww_aald4 260 X dX11_encrypt_260 e260 ?_
    refine ww_goto 261 268 X dX11_encrypt_261 (by decide) ?_
    exact ww_sub [0, 1, 2, 4] rfl (wB_X11_encrypt_268 X hQ h)
set_option maxHeartbeats 4000000 in
set_option maxRecDepth 100000 in
theorem wB_X11_encrypt_239_s2_s3 {G : mG} {F : Nat} {x : mXT} {sz : Nat} {r0 : Int32} {M0 : mM} (X : mCX G RX11 cX11_encrypt 9 (some .int) "encrypt" rmX11_encrypt x) (hQ : mQI x r0 M0 (sz, 0, 0)) {l0 : Nat} {l3 : Int32} {l4 : Int32} {l6 : Int32} {l7 : Int32} {l8 : Nat} {sk0 : Nat} {sk1 : Nat} {M : mM} (h : B_X11_encrypt_239_s2_s3 G F l0 l3 l4 l6 l7 l8 sk0 sk1 M = some (r0, M0)) : WW x (sz, 0, 0) M 239 [(0, .ref l0), (3, .int l3), (4, .int l4), (6, .int l6), (7, .int l7), (8, .ref l8)] [.null, .null, .ref sk1, .ref sk0] := by
  unfold B_X11_encrypt_239_s2_s3 at h
  obtain ⟨_, f239, h⟩ := bO_some h
  obtain ⟨M239, e239, h⟩ := bO_some h
  refine ww_callVV0 239 X dX11_encrypt_239 mY_X10_makeSealedHead mL_X11_415 (rcv_spec f239) ⟨_, _, rfl⟩ (by decide) (As := [.ref sk1, .null, .null]) (rest := []) rfl rfl ⟨Nat.le_of_ble_eq_true rfl, Nat.le_of_ble_eq_true rfl⟩ (Nat.le_of_ble_eq_true rfl) (fun l D A => c_X10_makeSealedHead_n2_n3 l D A e239) ?_
  refine ww_aload_n 242 X dX11_encrypt_242 0 rfl rfl ?_
  refine ww_aload 243 X dX11_encrypt_243 5 rfl ?_
  refine ww_aload_n 245 X dX11_encrypt_245 0 rfl rfl ?_
  refine ww_iload 246 X dX11_encrypt_246 3 rfl ?_
  obtain ⟨_, f248, h⟩ := bO_some h
  obtain ⟨v248, M248, e248, h⟩ := bP_some h
  refine ww_callVI0 248 X dX11_encrypt_248 mY_X11_isRow mL_X11_123 (rcv_spec f248) ⟨_, _, rfl⟩ (by decide) (As := [.int l6]) (rest := [.ref l8, .ref l0]) rfl rfl ⟨Nat.le_of_ble_eq_true rfl, Nat.le_of_ble_eq_true rfl⟩ (Nat.le_of_ble_eq_true rfl) (fun l D A => c_X11_isRow l D A e248) ?_
  refine ww_if_eq 251 264 X dX11_encrypt_251 (by decide) (fun q => ?_) (fun q => ?_)
  · replace h := (if_pos q).symm.trans h
    refine ww_aload_n 264 X dX11_encrypt_264 0 rfl rfl ?_
    obtain ⟨v265, e265, h⟩ := bO_some h
    refine ww_getR 265 X dX11_encrypt_265 fG_X11_25 e265 ?_
    exact ww_sub [0, 1, 2, 4] rfl (wB_X11_encrypt_268 X hQ h)
  · replace h := (if_neg q).symm.trans h
    refine ww_aload_n 254 X dX11_encrypt_254 0 rfl rfl ?_
    obtain ⟨v255, e255, h⟩ := bO_some h
    refine ww_getR 255 X dX11_encrypt_255 fG_X11_11 e255 ?_
    refine ww_iload 258 X dX11_encrypt_258 3 rfl ?_
    obtain ⟨v260, e260, h⟩ := bO_some h
    refine ww_aald4 260 X dX11_encrypt_260 e260 ?_
    refine ww_goto 261 268 X dX11_encrypt_261 (by decide) ?_
    exact ww_sub [0, 1, 2, 4] rfl (wB_X11_encrypt_268 X hQ h)
set_option maxHeartbeats 4000000 in
set_option maxRecDepth 100000 in
theorem wB_X11_encrypt_239_s2 {G : mG} {F : Nat} {x : mXT} {sz : Nat} {r0 : Int32} {M0 : mM} (X : mCX G RX11 cX11_encrypt 9 (some .int) "encrypt" rmX11_encrypt x) (hQ : mQI x r0 M0 (sz, 0, 0)) {l0 : Nat} {l3 : Int32} {l4 : Int32} {l6 : Int32} {l7 : Int32} {l8 : Nat} {sk0 : Nat} {sk1 : Nat} {sk3 : Nat} {M : mM} (h : B_X11_encrypt_239_s2 G F l0 l3 l4 l6 l7 l8 sk0 sk1 sk3 M = some (r0, M0)) : WW x (sz, 0, 0) M 239 [(0, .ref l0), (3, .int l3), (4, .int l4), (6, .int l6), (7, .int l7), (8, .ref l8)] [.ref sk3, .null, .ref sk1, .ref sk0] := by
  unfold B_X11_encrypt_239_s2 at h
  obtain ⟨_, f239, h⟩ := bO_some h
  obtain ⟨M239, e239, h⟩ := bO_some h
  refine ww_callVV0 239 X dX11_encrypt_239 mY_X10_makeSealedHead mL_X11_415 (rcv_spec f239) ⟨_, _, rfl⟩ (by decide) (As := [.ref sk1, .null, .ref sk3]) (rest := []) rfl rfl ⟨Nat.le_of_ble_eq_true rfl, Nat.le_of_ble_eq_true rfl⟩ (Nat.le_of_ble_eq_true rfl) (fun l D A => c_X10_makeSealedHead_n2 l D A e239) ?_
  refine ww_aload_n 242 X dX11_encrypt_242 0 rfl rfl ?_
  refine ww_aload 243 X dX11_encrypt_243 5 rfl ?_
  refine ww_aload_n 245 X dX11_encrypt_245 0 rfl rfl ?_
  refine ww_iload 246 X dX11_encrypt_246 3 rfl ?_
  obtain ⟨_, f248, h⟩ := bO_some h
  obtain ⟨v248, M248, e248, h⟩ := bP_some h
  refine ww_callVI0 248 X dX11_encrypt_248 mY_X11_isRow mL_X11_123 (rcv_spec f248) ⟨_, _, rfl⟩ (by decide) (As := [.int l6]) (rest := [.ref l8, .ref l0]) rfl rfl ⟨Nat.le_of_ble_eq_true rfl, Nat.le_of_ble_eq_true rfl⟩ (Nat.le_of_ble_eq_true rfl) (fun l D A => c_X11_isRow l D A e248) ?_
  refine ww_if_eq 251 264 X dX11_encrypt_251 (by decide) (fun q => ?_) (fun q => ?_)
  · replace h := (if_pos q).symm.trans h
    refine ww_aload_n 264 X dX11_encrypt_264 0 rfl rfl ?_
    obtain ⟨v265, e265, h⟩ := bO_some h
    refine ww_getR 265 X dX11_encrypt_265 fG_X11_25 e265 ?_
    exact ww_sub [0, 1, 2, 4] rfl (wB_X11_encrypt_268 X hQ h)
  · replace h := (if_neg q).symm.trans h
    refine ww_aload_n 254 X dX11_encrypt_254 0 rfl rfl ?_
    obtain ⟨v255, e255, h⟩ := bO_some h
    refine ww_getR 255 X dX11_encrypt_255 fG_X11_11 e255 ?_
    refine ww_iload 258 X dX11_encrypt_258 3 rfl ?_
    obtain ⟨v260, e260, h⟩ := bO_some h
    refine ww_aald4 260 X dX11_encrypt_260 e260 ?_
    refine ww_goto 261 268 X dX11_encrypt_261 (by decide) ?_
    exact ww_sub [0, 1, 2, 4] rfl (wB_X11_encrypt_268 X hQ h)
set_option maxHeartbeats 4000000 in
set_option maxRecDepth 100000 in
theorem wB_X11_encrypt_239 {G : mG} {F : Nat} {x : mXT} {sz : Nat} {r0 : Int32} {M0 : mM} (X : mCX G RX11 cX11_encrypt 9 (some .int) "encrypt" rmX11_encrypt x) (hQ : mQI x r0 M0 (sz, 0, 0)) {l0 : Nat} {l3 : Int32} {l4 : Int32} {l6 : Int32} {l7 : Int32} {l8 : Nat} {sk0 : Nat} {sk1 : Nat} {sk2 : Nat} {sk3 : Nat} {M : mM} (h : B_X11_encrypt_239 G F l0 l3 l4 l6 l7 l8 sk0 sk1 sk2 sk3 M = some (r0, M0)) : WW x (sz, 0, 0) M 239 [(0, .ref l0), (3, .int l3), (4, .int l4), (6, .int l6), (7, .int l7), (8, .ref l8)] [.ref sk3, .ref sk2, .ref sk1, .ref sk0] := by
  unfold B_X11_encrypt_239 at h
  obtain ⟨_, f239, h⟩ := bO_some h
  obtain ⟨M239, e239, h⟩ := bO_some h
  refine ww_callVV0 239 X dX11_encrypt_239 mY_X10_makeSealedHead mL_X11_415 (rcv_spec f239) ⟨_, _, rfl⟩ (by decide) (As := [.ref sk1, .ref sk2, .ref sk3]) (rest := []) rfl rfl ⟨Nat.le_of_ble_eq_true rfl, Nat.le_of_ble_eq_true rfl⟩ (Nat.le_of_ble_eq_true rfl) (fun l D A => c_X10_makeSealedHead l D A e239) ?_
  refine ww_aload_n 242 X dX11_encrypt_242 0 rfl rfl ?_
  refine ww_aload 243 X dX11_encrypt_243 5 rfl ?_
  refine ww_aload_n 245 X dX11_encrypt_245 0 rfl rfl ?_
  refine ww_iload 246 X dX11_encrypt_246 3 rfl ?_
  obtain ⟨_, f248, h⟩ := bO_some h
  obtain ⟨v248, M248, e248, h⟩ := bP_some h
  refine ww_callVI0 248 X dX11_encrypt_248 mY_X11_isRow mL_X11_123 (rcv_spec f248) ⟨_, _, rfl⟩ (by decide) (As := [.int l6]) (rest := [.ref l8, .ref l0]) rfl rfl ⟨Nat.le_of_ble_eq_true rfl, Nat.le_of_ble_eq_true rfl⟩ (Nat.le_of_ble_eq_true rfl) (fun l D A => c_X11_isRow l D A e248) ?_
  refine ww_if_eq 251 264 X dX11_encrypt_251 (by decide) (fun q => ?_) (fun q => ?_)
  · replace h := (if_pos q).symm.trans h
    refine ww_aload_n 264 X dX11_encrypt_264 0 rfl rfl ?_
    obtain ⟨v265, e265, h⟩ := bO_some h
    refine ww_getR 265 X dX11_encrypt_265 fG_X11_25 e265 ?_
    exact ww_sub [0, 1, 2, 4] rfl (wB_X11_encrypt_268 X hQ h)
  · replace h := (if_neg q).symm.trans h
    refine ww_aload_n 254 X dX11_encrypt_254 0 rfl rfl ?_
    obtain ⟨v255, e255, h⟩ := bO_some h
    refine ww_getR 255 X dX11_encrypt_255 fG_X11_11 e255 ?_
    refine ww_iload 258 X dX11_encrypt_258 3 rfl ?_
    obtain ⟨v260, e260, h⟩ := bO_some h
    refine ww_aald4 260 X dX11_encrypt_260 e260 ?_
    refine ww_goto 261 268 X dX11_encrypt_261 (by decide) ?_
    exact ww_sub [0, 1, 2, 4] rfl (wB_X11_encrypt_268 X hQ h)
set_option maxHeartbeats 4000000 in
set_option maxRecDepth 100000 in
theorem wB_X11_encrypt_193 {G : mG} {F : Nat} {x : mXT} {sz : Nat} {r0 : Int32} {M0 : mM} (X : mCX G RX11 cX11_encrypt 9 (some .int) "encrypt" rmX11_encrypt x) (hQ : mQI x r0 M0 (sz, 0, 0)) {l0 : Nat} {l3 : Int32} {l4 : Int32} {l6 : Int32} {l7 : Int32} {l8 : Nat} {M : mM} (h : B_X11_encrypt_193 G F l0 l3 l4 l6 l7 l8 M = some (r0, M0)) : WW x (sz, 0, 0) M 193 [(0, .ref l0), (3, .int l3), (4, .int l4), (6, .int l6), (7, .int l7), (8, .ref l8)] [] := by
  unfold B_X11_encrypt_193 at h
  refine ww_aload_n 193 X dX11_encrypt_193 0 rfl rfl ?_
  obtain ⟨v194, e194, h⟩ := bO_some h
  refine ww_getR 194 X dX11_encrypt_194 fG_X11_109 e194 ?_
  refine ww_aload 197 X dX11_encrypt_197 5 rfl ?_
  refine ww_aload_n 199 X dX11_encrypt_199 0 rfl rfl ?_
  refine ww_iload 200 X dX11_encrypt_200 3 rfl ?_
  obtain ⟨_, f202, h⟩ := bO_some h
  obtain ⟨v202, M202, e202, h⟩ := bP_some h
  refine ww_callVI0 202 X dX11_encrypt_202 mY_X11_isRow mL_X11_123 (rcv_spec f202) ⟨_, _, rfl⟩ (by decide) (As := [.int l6]) (rest := [.ref l8, .ref v194]) rfl rfl ⟨Nat.le_of_ble_eq_true rfl, Nat.le_of_ble_eq_true rfl⟩ (Nat.le_of_ble_eq_true rfl) (fun l D A => c_X11_isRow l D A e202) ?_
  refine ww_if_eq 205 218 X dX11_encrypt_205 (by decide) (fun q => ?_) (fun q => ?_)
  · replace h := (if_pos q).symm.trans h
    refine ww_null 218 X dX11_encrypt_218 ?_
    refine ww_aload_n 219 X dX11_encrypt_219 0 rfl rfl ?_
    refine ww_iload 220 X dX11_encrypt_220 4 rfl ?_
    obtain ⟨_, f222, h⟩ := bO_some h
    obtain ⟨v222, M222, e222, h⟩ := bP_some h
    refine ww_callVI0 222 X dX11_encrypt_222 mY_X11_isRow mL_X11_123 (rcv_spec f222) ⟨_, _, rfl⟩ (by decide) (As := [.int l7]) (rest := [.null, .ref l8, .ref v194]) rfl rfl ⟨Nat.le_of_ble_eq_true rfl, Nat.le_of_ble_eq_true rfl⟩ (Nat.le_of_ble_eq_true rfl) (fun l D A => c_X11_isRow l D A e222) ?_
    refine ww_if_eq 225 238 X dX11_encrypt_225 (by decide) (fun q => ?_) (fun q => ?_)
    · replace h := (if_pos q).symm.trans h
      refine ww_null 238 X dX11_encrypt_238 ?_
      exact (wB_X11_encrypt_239_s2_s3 X hQ h)
    · replace h := (if_neg q).symm.trans h
      refine ww_aload_n 228 X dX11_encrypt_228 0 rfl rfl ?_
      obtain ⟨v229, e229, h⟩ := bO_some h
      refine ww_getR 229 X dX11_encrypt_229 fG_X11_11 e229 ?_
      refine ww_iload 232 X dX11_encrypt_232 4 rfl ?_
      obtain ⟨v234, e234, h⟩ := bO_some h
      refine ww_aald4 234 X dX11_encrypt_234 e234 ?_
      refine ww_goto 235 239 X dX11_encrypt_235 (by decide) ?_
      exact (wB_X11_encrypt_239_s2 X hQ h)
  · replace h := (if_neg q).symm.trans h
    refine ww_aload_n 208 X dX11_encrypt_208 0 rfl rfl ?_
    obtain ⟨v209, e209, h⟩ := bO_some h
    refine ww_getR 209 X dX11_encrypt_209 fG_X11_11 e209 ?_
    refine ww_iload 212 X dX11_encrypt_212 3 rfl ?_
    obtain ⟨v214, e214, h⟩ := bO_some h
    refine ww_aald4 214 X dX11_encrypt_214 e214 ?_
    refine ww_goto 215 219 X dX11_encrypt_215 (by decide) ?_
    refine ww_aload_n 219 X dX11_encrypt_219 0 rfl rfl ?_
    refine ww_iload 220 X dX11_encrypt_220 4 rfl ?_
    obtain ⟨_, f222, h⟩ := bO_some h
    obtain ⟨v222, M222, e222, h⟩ := bP_some h
    refine ww_callVI0 222 X dX11_encrypt_222 mY_X11_isRow mL_X11_123 (rcv_spec f222) ⟨_, _, rfl⟩ (by decide) (As := [.int l7]) (rest := [.ref v214, .ref l8, .ref v194]) rfl rfl ⟨Nat.le_of_ble_eq_true rfl, Nat.le_of_ble_eq_true rfl⟩ (Nat.le_of_ble_eq_true rfl) (fun l D A => c_X11_isRow l D A e222) ?_
    refine ww_if_eq 225 238 X dX11_encrypt_225 (by decide) (fun q => ?_) (fun q => ?_)
    · replace h := (if_pos q).symm.trans h
      refine ww_null 238 X dX11_encrypt_238 ?_
      exact (wB_X11_encrypt_239_s3 X hQ h)
    · replace h := (if_neg q).symm.trans h
      refine ww_aload_n 228 X dX11_encrypt_228 0 rfl rfl ?_
      obtain ⟨v229, e229, h⟩ := bO_some h
      refine ww_getR 229 X dX11_encrypt_229 fG_X11_11 e229 ?_
      refine ww_iload 232 X dX11_encrypt_232 4 rfl ?_
      obtain ⟨v234, e234, h⟩ := bO_some h
      refine ww_aald4 234 X dX11_encrypt_234 e234 ?_
      refine ww_goto 235 239 X dX11_encrypt_235 (by decide) ?_
      exact (wB_X11_encrypt_239 X hQ h)
set_option maxHeartbeats 4000000 in
set_option maxRecDepth 100000 in
theorem wB_X11_encrypt_141 {G : mG} {F : Nat} {x : mXT} {sz : Nat} {r0 : Int32} {M0 : mM} (X : mCX G RX11 cX11_encrypt 9 (some .int) "encrypt" rmX11_encrypt x) (hQ : mQI x r0 M0 (sz, 0, 0)) {l0 : Nat} {l2 : Int32} {l3 : Int32} {l4 : Int32} {l6 : Int32} {l7 : Int32} {l8 : Nat} {M : mM} (h : B_X11_encrypt_141 G F l0 l2 l3 l4 l6 l7 l8 M = some (r0, M0)) : WW x (sz, 0, 0) M 141 [(0, .ref l0), (2, .int l2), (3, .int l3), (4, .int l4), (6, .int l6), (7, .int l7), (8, .ref l8)] [] := by
  unfold B_X11_encrypt_141 at h
  refine ww_iload_n 141 X dX11_encrypt_141 1 rfl rfl ?_
  refine ww_iconst 142 X (v := (4 : Int32)) dX11_encrypt_142 (by decide) ?_
  refine ww_icmp_lt 143 193 X dX11_encrypt_143 (by decide) (fun q => ?_) (fun q => ?_)
  · replace h := (if_pos q).symm.trans h
    exact ww_sub [0, 2, 3, 4, 5, 6] rfl (wB_X11_encrypt_193 X hQ h)
  · replace h := (if_neg q).symm.trans h
    refine ww_aload_n 146 X dX11_encrypt_146 0 rfl rfl ?_
    obtain ⟨v147, e147, h⟩ := bO_some h
    refine ww_getR 147 X dX11_encrypt_147 fG_X11_102 e147 ?_
    refine ww_aload_n 150 X dX11_encrypt_150 0 rfl rfl ?_
    obtain ⟨v151, e151, h⟩ := bO_some h
    refine ww_getR 151 X dX11_encrypt_151 fG_X11_109 e151 ?_
    obtain ⟨v154, e154, h⟩ := bO_some h
    refine ww_getR 154 X dX11_encrypt_154 fG_X11_406 e154 ?_
    refine ww_aload_n 157 X dX11_encrypt_157 0 rfl rfl ?_
    obtain ⟨v158, e158, h⟩ := bO_some h
    refine ww_getR 158 X dX11_encrypt_158 fG_X11_102 e158 ?_
    obtain ⟨v161, e161, h⟩ := bO_some h
    refine ww_getR 161 X dX11_encrypt_161 fG_X11_282 e161 ?_
    refine ww_aload_n 164 X dX11_encrypt_164 0 rfl rfl ?_
    obtain ⟨v165, e165, h⟩ := bO_some h
    refine ww_getR 165 X dX11_encrypt_165 fG_X11_25 e165 ?_
    refine ww_aload_n 168 X dX11_encrypt_168 0 rfl rfl ?_
    obtain ⟨v169, e169, h⟩ := bO_some h
    refine ww_getR 169 X dX11_encrypt_169 fG_X11_102 e169 ?_
    obtain ⟨v172, e172, h⟩ := bO_some h
    refine ww_getR 172 X dX11_encrypt_172 fG_X11_282 e172 ?_
    obtain ⟨_, f175, h⟩ := bO_some h
    obtain ⟨M175, e175, h⟩ := bO_some h
    refine ww_callVV0 175 X dX11_encrypt_175 mY_X3_sumUp mL_X11_289 (rcv_spec f175) ⟨_, _, rfl⟩ (by decide) (As := [.ref v154, .ref v161, .ref v165, .ref v172]) (rest := []) rfl rfl ⟨Nat.le_of_ble_eq_true rfl, Nat.le_of_ble_eq_true rfl⟩ (Nat.le_of_ble_eq_true rfl) (fun l D A => c_X3_sumUp l D A e175) ?_
    refine ww_aload_n 178 X dX11_encrypt_178 0 rfl rfl ?_
    obtain ⟨v179, e179, h⟩ := bO_some h
    refine ww_getR 179 X dX11_encrypt_179 fG_X11_102 e179 ?_
    refine ww_aload_n 182 X dX11_encrypt_182 0 rfl rfl ?_
    obtain ⟨v183, e183, h⟩ := bO_some h
    refine ww_getR 183 X dX11_encrypt_183 fG_X11_109 e183 ?_
    obtain ⟨v186, e186, h⟩ := bO_some h
    refine ww_getR 186 X dX11_encrypt_186 fG_X11_412 e186 ?_
    obtain ⟨_, f189, h⟩ := bO_some h
    obtain ⟨v189, M189, e189, h⟩ := bP_some h
    refine ww_callVI0 189 X dX11_encrypt_189 mY_X3_putSum mL_X11_293 (rcv_spec f189) ⟨_, _, rfl⟩ (by decide) (As := [.ref v186]) (rest := []) rfl rfl ⟨Nat.le_of_ble_eq_true rfl, Nat.le_of_ble_eq_true rfl⟩ (Nat.le_of_ble_eq_true rfl) (fun l D A => c_X3_putSum l D A e189) ?_
    refine ww_pop 192 X dX11_encrypt_192 rfl ?_
    exact ww_sub [0, 2, 3, 4, 5, 6] rfl (wB_X11_encrypt_193 X hQ h)
set_option maxHeartbeats 4000000 in
set_option maxRecDepth 100000 in
theorem wB_X11_encrypt_74 {G : mG} {F : Nat} {x : mXT} {sz : Nat} {r0 : Int32} {M0 : mM} (X : mCX G RX11 cX11_encrypt 9 (some .int) "encrypt" rmX11_encrypt x) (hQ : mQI x r0 M0 (sz, 0, 0)) {l0 : Nat} {l1 : Int32} {l2 : Int32} {l3 : Int32} {l4 : Int32} {l5 : Int32} {l6 : Int32} {l7 : Int32} {M : mM} (h : B_X11_encrypt_74 G F l0 l1 l2 l3 l4 l5 l6 l7 M = some (r0, M0)) : WW x (sz, 0, 0) M 74 [(0, .ref l0), (1, .int l1), (2, .int l2), (3, .int l3), (4, .int l4), (5, .int l5), (6, .int l6), (7, .int l7)] [] := by
  unfold B_X11_encrypt_74 at h
  refine ww_aload_n 74 X dX11_encrypt_74 0 rfl rfl ?_
  obtain ⟨v75, e75, h⟩ := bO_some h
  refine ww_getR 75 X dX11_encrypt_75 fG_X11_58 e75 ?_
  refine ww_iload_n 78 X dX11_encrypt_78 1 rfl rfl ?_
  obtain ⟨v79, e79, h⟩ := bO_some h
  refine ww_aald5 79 X dX11_encrypt_79 e79 ?_
  refine ww_astore 80 X dX11_encrypt_80 (lv' := [(0, .ref l0), (1, .int l1), (2, .int l2), (3, .int l3), (4, .int l4), (5, .int l5), (6, .int l6), (7, .int l7), (8, .ref v79)]) (by decide) [1, 2, 3, 4, 5, 6, 7, 8, 0] rfl ?_
  refine ww_aload 82 X dX11_encrypt_82 8 rfl ?_
  refine ww_iload_n 84 X dX11_encrypt_84 2 rfl rfl ?_
  refine ww_iload_n 85 X dX11_encrypt_85 3 rfl rfl ?_
  refine ww_iconst 86 X (v := (0 : Int32)) dX11_encrypt_86 (by decide) ?_
  obtain ⟨_, f87, h⟩ := bO_some h
  obtain ⟨v87, M87, e87, h⟩ := bP_some h
  refine ww_callVI0 87 X dX11_encrypt_87 mY_X5_maySeal mL_X11_398 (rcv_spec f87) ⟨_, _, rfl⟩ (by decide) (As := [.int l2, .int l3, .int (0 : Int32)]) (rest := []) rfl rfl ⟨Nat.le_of_ble_eq_true rfl, Nat.le_of_ble_eq_true rfl⟩ (Nat.le_of_ble_eq_true rfl) (fun l D A => c_X5_maySeal l D A e87) ?_
  refine ww_if_ne 90 96 X dX11_encrypt_90 (by decide) (fun q => ?_) (fun q => ?_)
  · replace h := (if_neg q).symm.trans h
    refine ww_aload_n 96 X dX11_encrypt_96 0 rfl rfl ?_
    obtain ⟨v97, e97, h⟩ := bO_some h
    refine ww_getR 97 X dX11_encrypt_97 fG_X11_109 e97 ?_
    refine ww_iload_n 100 X dX11_encrypt_100 2 rfl rfl ?_
    refine ww_iload_n 101 X dX11_encrypt_101 3 rfl rfl ?_
    refine ww_aload_n 102 X dX11_encrypt_102 0 rfl rfl ?_
    obtain ⟨v103, e103, h⟩ := bO_some h
    refine ww_getR 103 X dX11_encrypt_103 fG_X11_11 e103 ?_
    refine ww_iload 106 X dX11_encrypt_106 5 rfl ?_
    obtain ⟨v108, e108, h⟩ := bO_some h
    refine ww_aald4 108 X dX11_encrypt_108 e108 ?_
    obtain ⟨_, f109, h⟩ := bO_some h
    obtain ⟨v109, M109, e109, h⟩ := bP_some h
    refine ww_callVI0 109 X dX11_encrypt_109 mY_X10_draw mL_X11_402 (rcv_spec f109) ⟨_, _, rfl⟩ (by decide) (As := [.int l2, .int l3, .ref v108]) (rest := []) rfl rfl ⟨Nat.le_of_ble_eq_true rfl, Nat.le_of_ble_eq_true rfl⟩ (Nat.le_of_ble_eq_true rfl) (fun l D A => c_X10_draw l D A e109) ?_
    refine ww_if_eq 112 138 X dX11_encrypt_112 (by decide) (fun q => ?_) (fun q => ?_)
    · replace h := (if_pos q).symm.trans h
      refine ww_bipush 138 X (v := (-4 : Int32)) dX11_encrypt_138 (by decide) ?_
      exact ww_iretE 140 X hQ dX11_encrypt_140 h
    · replace h := (if_neg q).symm.trans h
      refine ww_iload_n 115 X dX11_encrypt_115 2 rfl rfl ?_
      refine ww_iconst 116 X (v := (4 : Int32)) dX11_encrypt_116 (by decide) ?_
      refine ww_icmp_lt 117 141 X dX11_encrypt_117 (by decide) (fun q => ?_) (fun q => ?_)
      · replace h := (if_pos q).symm.trans h
        exact ww_sub [0, 2, 3, 4, 6, 7, 8] rfl (wB_X11_encrypt_141 X hQ h)
      · replace h := (if_neg q).symm.trans h
        refine ww_aload_n 120 X dX11_encrypt_120 0 rfl rfl ?_
        obtain ⟨v121, e121, h⟩ := bO_some h
        refine ww_getR 121 X dX11_encrypt_121 fG_X11_102 e121 ?_
        refine ww_aload_n 124 X dX11_encrypt_124 0 rfl rfl ?_
        obtain ⟨v125, e125, h⟩ := bO_some h
        refine ww_getR 125 X dX11_encrypt_125 fG_X11_109 e125 ?_
        obtain ⟨v128, e128, h⟩ := bO_some h
        refine ww_getR 128 X dX11_encrypt_128 fG_X11_406 e128 ?_
        refine ww_iconst 131 X (v := (0 : Int32)) dX11_encrypt_131 (by decide) ?_
        obtain ⟨_, f132, h⟩ := bO_some h
        obtain ⟨v132, M132, e132, h⟩ := bP_some h
        refine ww_callVI0 132 X dX11_encrypt_132 mY_X3_isSecret mL_X11_409 (rcv_spec f132) ⟨_, _, rfl⟩ (by decide) (As := [.ref v128, .int (0 : Int32)]) (rest := []) rfl rfl ⟨Nat.le_of_ble_eq_true rfl, Nat.le_of_ble_eq_true rfl⟩ (Nat.le_of_ble_eq_true rfl) (fun l D A => c_X3_isSecret l D A e132) ?_
        refine ww_if_ne 135 141 X dX11_encrypt_135 (by decide) (fun q => ?_) (fun q => ?_)
        · replace h := (if_neg q).symm.trans h
          exact ww_sub [0, 2, 3, 4, 6, 7, 8] rfl (wB_X11_encrypt_141 X hQ h)
        · replace h := (if_pos q).symm.trans h
          refine ww_bipush 138 X (v := (-4 : Int32)) dX11_encrypt_138 (by decide) ?_
          exact ww_iretE 140 X hQ dX11_encrypt_140 h
  · replace h := (if_pos q).symm.trans h
    refine ww_bipush 93 X (v := (-26 : Int32)) dX11_encrypt_93 (by decide) ?_
    exact ww_iretE 95 X hQ dX11_encrypt_95 h
set_option maxHeartbeats 4000000 in
set_option maxRecDepth 100000 in
theorem wP_X11_encrypt {G : mG} {F : Nat} {x : mXT} {sz : Nat} {r0 : Int32} {M0 : mM} (X : mCX G RX11 cX11_encrypt 9 (some .int) "encrypt" rmX11_encrypt x) (hQ : mQI x r0 M0 (sz, 0, 0)) {l0 : Nat} {l1 : Int32} {l2 : Int32} {l3 : Int32} {l4 : Int32} {l5 : Int32} {l6 : Int32} {l7 : Int32} {M : mM} (h : P_X11_encrypt G F l0 l1 l2 l3 l4 l5 l6 l7 M = some (r0, M0)) : WW x (sz, 0, 0) M 0 [(0, .ref l0), (1, .int l1), (2, .int l2), (3, .int l3), (4, .int l4), (5, .int l5), (6, .int l6), (7, .int l7)] [] := by
  unfold P_X11_encrypt at h
  refine ww_aload_n 0 X dX11_encrypt_0 0 rfl rfl ?_
  refine ww_iload_n 1 X dX11_encrypt_1 1 rfl rfl ?_
  obtain ⟨_, f2, h⟩ := bO_some h
  obtain ⟨v2, M2, e2, h⟩ := bP_some h
  refine ww_callVI0 2 X dX11_encrypt_2 mY_X11_isKey mL_X11_311 (rcv_spec f2) ⟨_, _, rfl⟩ (by decide) (As := [.int l1]) (rest := []) rfl rfl ⟨Nat.le_of_ble_eq_true rfl, Nat.le_of_ble_eq_true rfl⟩ (Nat.le_of_ble_eq_true rfl) (fun l D A => c_X11_isKey l D A e2) ?_
  refine ww_if_eq 5 45 X dX11_encrypt_5 (by decide) (fun q => ?_) (fun q => ?_)
  · replace h := (if_pos q).symm.trans h
    refine ww_bipush 45 X (v := (-2 : Int32)) dX11_encrypt_45 (by decide) ?_
    exact ww_iretE 47 X hQ dX11_encrypt_47 h
  · replace h := (if_neg q).symm.trans h
    refine ww_iload_n 8 X dX11_encrypt_8 2 rfl rfl ?_
    refine ww_if_lt 9 45 X dX11_encrypt_9 (by decide) (fun q => ?_) (fun q => ?_)
    · replace h := (if_pos q).symm.trans h
      refine ww_bipush 45 X (v := (-2 : Int32)) dX11_encrypt_45 (by decide) ?_
      exact ww_iretE 47 X hQ dX11_encrypt_47 h
    · replace h := (if_neg q).symm.trans h
      refine ww_iload_n 12 X dX11_encrypt_12 2 rfl rfl ?_
      refine ww_bipush 13 X (v := (6 : Int32)) dX11_encrypt_13 (by decide) ?_
      refine ww_icmp_ge 15 45 X dX11_encrypt_15 (by decide) (fun q => ?_) (fun q => ?_)
      · replace h := (if_pos q).symm.trans h
        refine ww_bipush 45 X (v := (-2 : Int32)) dX11_encrypt_45 (by decide) ?_
        exact ww_iretE 47 X hQ dX11_encrypt_47 h
      · replace h := (if_neg q).symm.trans h
        refine ww_iload_n 18 X dX11_encrypt_18 3 rfl rfl ?_
        refine ww_if_lt 19 45 X dX11_encrypt_19 (by decide) (fun q => ?_) (fun q => ?_)
        · replace h := (if_pos q).symm.trans h
          refine ww_bipush 45 X (v := (-2 : Int32)) dX11_encrypt_45 (by decide) ?_
          exact ww_iretE 47 X hQ dX11_encrypt_47 h
        · replace h := (if_neg q).symm.trans h
          refine ww_iload_n 22 X dX11_encrypt_22 3 rfl rfl ?_
          refine ww_iconst 23 X (v := (4 : Int32)) dX11_encrypt_23 (by decide) ?_
          refine ww_icmp_ge 24 45 X dX11_encrypt_24 (by decide) (fun q => ?_) (fun q => ?_)
          · replace h := (if_pos q).symm.trans h
            refine ww_bipush 45 X (v := (-2 : Int32)) dX11_encrypt_45 (by decide) ?_
            exact ww_iretE 47 X hQ dX11_encrypt_47 h
          · replace h := (if_neg q).symm.trans h
            refine ww_aload_n 27 X dX11_encrypt_27 0 rfl rfl ?_
            refine ww_iload 28 X dX11_encrypt_28 4 rfl ?_
            obtain ⟨_, f30, h⟩ := bO_some h
            obtain ⟨v30, M30, e30, h⟩ := bP_some h
            refine ww_callVI0 30 X dX11_encrypt_30 mY_X11_isRow mL_X11_123 (rcv_spec f30) ⟨_, _, rfl⟩ (by decide) (As := [.int l4]) (rest := []) rfl rfl ⟨Nat.le_of_ble_eq_true rfl, Nat.le_of_ble_eq_true rfl⟩ (Nat.le_of_ble_eq_true rfl) (fun l D A => c_X11_isRow l D A e30) ?_
            refine ww_if_eq 33 45 X dX11_encrypt_33 (by decide) (fun q => ?_) (fun q => ?_)
            · replace h := (if_pos q).symm.trans h
              refine ww_bipush 45 X (v := (-2 : Int32)) dX11_encrypt_45 (by decide) ?_
              exact ww_iretE 47 X hQ dX11_encrypt_47 h
            · replace h := (if_neg q).symm.trans h
              refine ww_aload_n 36 X dX11_encrypt_36 0 rfl rfl ?_
              refine ww_iload 37 X dX11_encrypt_37 5 rfl ?_
              obtain ⟨_, f39, h⟩ := bO_some h
              obtain ⟨v39, M39, e39, h⟩ := bP_some h
              refine ww_callVI0 39 X dX11_encrypt_39 mY_X11_isRow mL_X11_123 (rcv_spec f39) ⟨_, _, rfl⟩ (by decide) (As := [.int l5]) (rest := []) rfl rfl ⟨Nat.le_of_ble_eq_true rfl, Nat.le_of_ble_eq_true rfl⟩ (Nat.le_of_ble_eq_true rfl) (fun l D A => c_X11_isRow l D A e39) ?_
              refine ww_if_ne 42 48 X dX11_encrypt_42 (by decide) (fun q => ?_) (fun q => ?_)
              · replace h := (if_neg q).symm.trans h
                refine ww_iload_n 48 X dX11_encrypt_48 2 rfl rfl ?_
                refine ww_iconst 49 X (v := (4 : Int32)) dX11_encrypt_49 (by decide) ?_
                refine ww_icmp_lt 50 74 X dX11_encrypt_50 (by decide) (fun q => ?_) (fun q => ?_)
                · replace h := (if_pos q).symm.trans h
                  exact (wB_X11_encrypt_74 X hQ h)
                · replace h := (if_neg q).symm.trans h
                  refine ww_aload_n 53 X dX11_encrypt_53 0 rfl rfl ?_
                  refine ww_iload 54 X dX11_encrypt_54 6 rfl ?_
                  obtain ⟨_, f56, h⟩ := bO_some h
                  obtain ⟨v56, M56, e56, h⟩ := bP_some h
                  refine ww_callVI0 56 X dX11_encrypt_56 mY_X11_isRowOrNone mL_X11_337 (rcv_spec f56) ⟨_, _, rfl⟩ (by decide) (As := [.int l6]) (rest := []) rfl rfl ⟨Nat.le_of_ble_eq_true rfl, Nat.le_of_ble_eq_true rfl⟩ (Nat.le_of_ble_eq_true rfl) (fun l D A => c_X11_isRowOrNone l D A e56) ?_
                  refine ww_if_eq 59 71 X dX11_encrypt_59 (by decide) (fun q => ?_) (fun q => ?_)
                  · replace h := (if_pos q).symm.trans h
                    refine ww_bipush 71 X (v := (-2 : Int32)) dX11_encrypt_71 (by decide) ?_
                    exact ww_iretE 73 X hQ dX11_encrypt_73 h
                  · replace h := (if_neg q).symm.trans h
                    refine ww_aload_n 62 X dX11_encrypt_62 0 rfl rfl ?_
                    refine ww_iload 63 X dX11_encrypt_63 7 rfl ?_
                    obtain ⟨_, f65, h⟩ := bO_some h
                    obtain ⟨v65, M65, e65, h⟩ := bP_some h
                    refine ww_callVI0 65 X dX11_encrypt_65 mY_X11_isRowOrNone mL_X11_337 (rcv_spec f65) ⟨_, _, rfl⟩ (by decide) (As := [.int l7]) (rest := []) rfl rfl ⟨Nat.le_of_ble_eq_true rfl, Nat.le_of_ble_eq_true rfl⟩ (Nat.le_of_ble_eq_true rfl) (fun l D A => c_X11_isRowOrNone l D A e65) ?_
                    refine ww_if_ne 68 74 X dX11_encrypt_68 (by decide) (fun q => ?_) (fun q => ?_)
                    · replace h := (if_neg q).symm.trans h
                      exact (wB_X11_encrypt_74 X hQ h)
                    · replace h := (if_pos q).symm.trans h
                      refine ww_bipush 71 X (v := (-2 : Int32)) dX11_encrypt_71 (by decide) ?_
                      exact ww_iretE 73 X hQ dX11_encrypt_73 h
              · replace h := (if_pos q).symm.trans h
                refine ww_bipush 45 X (v := (-2 : Int32)) dX11_encrypt_45 (by decide) ?_
                exact ww_iretE 47 X hQ dX11_encrypt_47 h
theorem c_X11_encrypt {G : mG} {F sz : Nat} {r0 : Int32} {M0 : mM} (l : Launch) (D : mD) (A : Nat → Prop) {l0 : Nat} {l1 : Int32} {l2 : Int32} {l3 : Int32} {l4 : Int32} {l5 : Int32} {l6 : Int32} {l7 : Int32} {M : mM} (h : P_X11_encrypt G F l0 l1 l2 l3 l4 l5 l6 l7 M = some (r0, M0)) : mMetI l D G A yX11_encrypt cX11_encrypt 9 (some .int) 8 216 0 0 [.ref l0, .int l1, .int l2, .int l3, .int l4, .int l5, .int l6, .int l7] M sz r0 M0 sz := mMetI_of l D G A (by decide) (Nat.le_of_ble_eq_true rfl) (fun x X hQ => wP_X11_encrypt X hQ h)
/-! SealedTokens.contentKeyComes(LSealedTokens$Key;)Z -/
theorem dX11_contentKeyComes_0 : decode cX11_contentKeyComes 0 = .ok (.aload_n 0, 1) := by decide +kernel
theorem dX11_contentKeyComes_1 : decode cX11_contentKeyComes 1 = .ok (.getfield 109, 3) := by decide +kernel
theorem dX11_contentKeyComes_4 : decode cX11_contentKeyComes 4 = .ok (.getfield 351, 3) := by decide +kernel
theorem dX11_contentKeyComes_7 : decode cX11_contentKeyComes 7 = .ok (.iconst 4, 1) := by decide +kernel
theorem dX11_contentKeyComes_8 : decode cX11_contentKeyComes 8 = .ok (.if_icmp .lt 32, 3) := by decide +kernel
theorem dX11_contentKeyComes_11 : decode cX11_contentKeyComes 11 = .ok (.aload_n 0, 1) := by decide +kernel
theorem dX11_contentKeyComes_12 : decode cX11_contentKeyComes 12 = .ok (.aload_n 1, 1) := by decide +kernel
theorem dX11_contentKeyComes_13 : decode cX11_contentKeyComes 13 = .ok (.getfield 459, 3) := by decide +kernel
theorem dX11_contentKeyComes_16 : decode cX11_contentKeyComes 16 = .ok (.aload_n 0, 1) := by decide +kernel
theorem dX11_contentKeyComes_17 : decode cX11_contentKeyComes 17 = .ok (.getfield 109, 3) := by decide +kernel
theorem dX11_contentKeyComes_20 : decode cX11_contentKeyComes 20 = .ok (.getfield 412, 3) := by decide +kernel
theorem dX11_contentKeyComes_23 : decode cX11_contentKeyComes 23 = .ok (.aload_n 0, 1) := by decide +kernel
theorem dX11_contentKeyComes_24 : decode cX11_contentKeyComes 24 = .ok (.getfield 109, 3) := by decide +kernel
theorem dX11_contentKeyComes_27 : decode cX11_contentKeyComes 27 = .ok (.getfield 557, 3) := by decide +kernel
theorem dX11_contentKeyComes_30 : decode cX11_contentKeyComes 30 = .ok (.aload_n 0, 1) := by decide +kernel
theorem dX11_contentKeyComes_31 : decode cX11_contentKeyComes 31 = .ok (.getfield 109, 3) := by decide +kernel
theorem dX11_contentKeyComes_34 : decode cX11_contentKeyComes 34 = .ok (.getfield 560, 3) := by decide +kernel
theorem dX11_contentKeyComes_37 : decode cX11_contentKeyComes 37 = .ok (.invokevirtual 547, 3) := by decide +kernel
theorem dX11_contentKeyComes_40 : decode cX11_contentKeyComes 40 = .ok (.aload_n 0, 1) := by decide +kernel
theorem dX11_contentKeyComes_41 : decode cX11_contentKeyComes 41 = .ok (.getfield 109, 3) := by decide +kernel
theorem dX11_contentKeyComes_44 : decode cX11_contentKeyComes 44 = .ok (.getfield 351, 3) := by decide +kernel
theorem dX11_contentKeyComes_47 : decode cX11_contentKeyComes 47 = .ok (.tableswitch 165 0 5 #[37, 165, 165, 70, 100, 136], 37) := by decide +kernel
theorem dX11_contentKeyComes_84 : decode cX11_contentKeyComes 84 = .ok (.aload_n 0, 1) := by decide +kernel
theorem dX11_contentKeyComes_85 : decode cX11_contentKeyComes 85 = .ok (.getfield 109, 3) := by decide +kernel
theorem dX11_contentKeyComes_88 : decode cX11_contentKeyComes 88 = .ok (.getfield 425, 3) := by decide +kernel
theorem dX11_contentKeyComes_91 : decode cX11_contentKeyComes 91 = .ok (.aload_n 1, 1) := by decide +kernel
theorem dX11_contentKeyComes_92 : decode cX11_contentKeyComes 92 = .ok (.getfield 316, 3) := by decide +kernel
theorem dX11_contentKeyComes_95 : decode cX11_contentKeyComes 95 = .ok (.invokevirtual 127, 3) := by decide +kernel
theorem dX11_contentKeyComes_98 : decode cX11_contentKeyComes 98 = .ok (.aload_n 0, 1) := by decide +kernel
theorem dX11_contentKeyComes_99 : decode cX11_contentKeyComes 99 = .ok (.getfield 109, 3) := by decide +kernel
theorem dX11_contentKeyComes_102 : decode cX11_contentKeyComes 102 = .ok (.getfield 431, 3) := by decide +kernel
theorem dX11_contentKeyComes_105 : decode cX11_contentKeyComes 105 = .ok (.getfield 113, 3) := by decide +kernel
theorem dX11_contentKeyComes_108 : decode cX11_contentKeyComes 108 = .ok (.ifCond .ne 7, 3) := by decide +kernel
theorem dX11_contentKeyComes_111 : decode cX11_contentKeyComes 111 = .ok (.iconst 1, 1) := by decide +kernel
theorem dX11_contentKeyComes_112 : decode cX11_contentKeyComes 112 = .ok (.goto 4, 3) := by decide +kernel
theorem dX11_contentKeyComes_115 : decode cX11_contentKeyComes 115 = .ok (.iconst 0, 1) := by decide +kernel
theorem dX11_contentKeyComes_116 : decode cX11_contentKeyComes 116 = .ok (.ireturn, 1) := by decide +kernel
theorem dX11_contentKeyComes_117 : decode cX11_contentKeyComes 117 = .ok (.aload_n 0, 1) := by decide +kernel
theorem dX11_contentKeyComes_118 : decode cX11_contentKeyComes 118 = .ok (.getfield 95, 3) := by decide +kernel
theorem dX11_contentKeyComes_121 : decode cX11_contentKeyComes 121 = .ok (.aload_n 0, 1) := by decide +kernel
theorem dX11_contentKeyComes_122 : decode cX11_contentKeyComes 122 = .ok (.getfield 109, 3) := by decide +kernel
theorem dX11_contentKeyComes_125 : decode cX11_contentKeyComes 125 = .ok (.getfield 431, 3) := by decide +kernel
theorem dX11_contentKeyComes_128 : decode cX11_contentKeyComes 128 = .ok (.aload_n 1, 1) := by decide +kernel
theorem dX11_contentKeyComes_129 : decode cX11_contentKeyComes 129 = .ok (.getfield 459, 3) := by decide +kernel
theorem dX11_contentKeyComes_132 : decode cX11_contentKeyComes 132 = .ok (.aload_n 1, 1) := by decide +kernel
theorem dX11_contentKeyComes_133 : decode cX11_contentKeyComes 133 = .ok (.getfield 316, 3) := by decide +kernel
theorem dX11_contentKeyComes_136 : decode cX11_contentKeyComes 136 = .ok (.aload_n 0, 1) := by decide +kernel
theorem dX11_contentKeyComes_137 : decode cX11_contentKeyComes 137 = .ok (.getfield 109, 3) := by decide +kernel
theorem dX11_contentKeyComes_140 : decode cX11_contentKeyComes 140 = .ok (.getfield 425, 3) := by decide +kernel
theorem dX11_contentKeyComes_143 : decode cX11_contentKeyComes 143 = .ok (.invokevirtual 563, 3) := by decide +kernel
theorem dX11_contentKeyComes_146 : decode cX11_contentKeyComes 146 = .ok (.ireturn, 1) := by decide +kernel
theorem dX11_contentKeyComes_147 : decode cX11_contentKeyComes 147 = .ok (.aload_n 0, 1) := by decide +kernel
theorem dX11_contentKeyComes_148 : decode cX11_contentKeyComes 148 = .ok (.getfield 109, 3) := by decide +kernel
theorem dX11_contentKeyComes_151 : decode cX11_contentKeyComes 151 = .ok (.getfield 425, 3) := by decide +kernel
theorem dX11_contentKeyComes_154 : decode cX11_contentKeyComes 154 = .ok (.aload_n 0, 1) := by decide +kernel
theorem dX11_contentKeyComes_155 : decode cX11_contentKeyComes 155 = .ok (.getfield 109, 3) := by decide +kernel
theorem dX11_contentKeyComes_158 : decode cX11_contentKeyComes 158 = .ok (.getfield 530, 3) := by decide +kernel
theorem dX11_contentKeyComes_161 : decode cX11_contentKeyComes 161 = .ok (.invokevirtual 127, 3) := by decide +kernel
theorem dX11_contentKeyComes_164 : decode cX11_contentKeyComes 164 = .ok (.aload_n 0, 1) := by decide +kernel
theorem dX11_contentKeyComes_165 : decode cX11_contentKeyComes 165 = .ok (.getfield 109, 3) := by decide +kernel
theorem dX11_contentKeyComes_168 : decode cX11_contentKeyComes 168 = .ok (.getfield 431, 3) := by decide +kernel
theorem dX11_contentKeyComes_171 : decode cX11_contentKeyComes 171 = .ok (.getfield 113, 3) := by decide +kernel
theorem dX11_contentKeyComes_174 : decode cX11_contentKeyComes 174 = .ok (.ifCond .ne 7, 3) := by decide +kernel
theorem dX11_contentKeyComes_177 : decode cX11_contentKeyComes 177 = .ok (.iconst 1, 1) := by decide +kernel
theorem dX11_contentKeyComes_178 : decode cX11_contentKeyComes 178 = .ok (.goto 4, 3) := by decide +kernel
theorem dX11_contentKeyComes_181 : decode cX11_contentKeyComes 181 = .ok (.iconst 0, 1) := by decide +kernel
theorem dX11_contentKeyComes_182 : decode cX11_contentKeyComes 182 = .ok (.ireturn, 1) := by decide +kernel
theorem dX11_contentKeyComes_183 : decode cX11_contentKeyComes 183 = .ok (.aload_n 0, 1) := by decide +kernel
theorem dX11_contentKeyComes_184 : decode cX11_contentKeyComes 184 = .ok (.getfield 77, 3) := by decide +kernel
theorem dX11_contentKeyComes_187 : decode cX11_contentKeyComes 187 = .ok (.aload_n 0, 1) := by decide +kernel
theorem dX11_contentKeyComes_188 : decode cX11_contentKeyComes 188 = .ok (.getfield 109, 3) := by decide +kernel
theorem dX11_contentKeyComes_191 : decode cX11_contentKeyComes 191 = .ok (.getfield 530, 3) := by decide +kernel
theorem dX11_contentKeyComes_194 : decode cX11_contentKeyComes 194 = .ok (.aload_n 0, 1) := by decide +kernel
theorem dX11_contentKeyComes_195 : decode cX11_contentKeyComes 195 = .ok (.getfield 109, 3) := by decide +kernel
theorem dX11_contentKeyComes_198 : decode cX11_contentKeyComes 198 = .ok (.getfield 431, 3) := by decide +kernel
theorem dX11_contentKeyComes_201 : decode cX11_contentKeyComes 201 = .ok (.aload_n 0, 1) := by decide +kernel
theorem dX11_contentKeyComes_202 : decode cX11_contentKeyComes 202 = .ok (.getfield 109, 3) := by decide +kernel
theorem dX11_contentKeyComes_205 : decode cX11_contentKeyComes 205 = .ok (.getfield 425, 3) := by decide +kernel
theorem dX11_contentKeyComes_208 : decode cX11_contentKeyComes 208 = .ok (.invokevirtual 246, 3) := by decide +kernel
theorem dX11_contentKeyComes_211 : decode cX11_contentKeyComes 211 = .ok (.ireturn, 1) := by decide +kernel
theorem dX11_contentKeyComes_212 : decode cX11_contentKeyComes 212 = .ok (.aload_n 0, 1) := by decide +kernel
theorem dX11_contentKeyComes_213 : decode cX11_contentKeyComes 213 = .ok (.getfield 77, 3) := by decide +kernel
theorem dX11_contentKeyComes_216 : decode cX11_contentKeyComes 216 = .ok (.aload_n 1, 1) := by decide +kernel
theorem dX11_contentKeyComes_217 : decode cX11_contentKeyComes 217 = .ok (.getfield 316, 3) := by decide +kernel
theorem dX11_contentKeyComes_220 : decode cX11_contentKeyComes 220 = .ok (.aload_n 0, 1) := by decide +kernel
theorem dX11_contentKeyComes_221 : decode cX11_contentKeyComes 221 = .ok (.getfield 109, 3) := by decide +kernel
theorem dX11_contentKeyComes_224 : decode cX11_contentKeyComes 224 = .ok (.getfield 431, 3) := by decide +kernel
theorem dX11_contentKeyComes_227 : decode cX11_contentKeyComes 227 = .ok (.aload_n 0, 1) := by decide +kernel
theorem dX11_contentKeyComes_228 : decode cX11_contentKeyComes 228 = .ok (.getfield 109, 3) := by decide +kernel
theorem dX11_contentKeyComes_231 : decode cX11_contentKeyComes 231 = .ok (.getfield 425, 3) := by decide +kernel
theorem dX11_contentKeyComes_234 : decode cX11_contentKeyComes 234 = .ok (.invokevirtual 246, 3) := by decide +kernel
theorem dX11_contentKeyComes_237 : decode cX11_contentKeyComes 237 = .ok (.ireturn, 1) := by decide +kernel
abbrev rmX11_contentKeyComes : Room := { frames := 6, cells := 0, slots := 0, locals := 194 }
set_option maxHeartbeats 4000000 in
set_option maxRecDepth 100000 in
theorem wB_X11_contentKeyComes_40 {G : mG} {F : Nat} {x : mXT} {sz : Nat} {r0 : Int32} {M0 : mM} (X : mCX G RX11 cX11_contentKeyComes 2 (some .boolean) "contentKeyComes" rmX11_contentKeyComes x) (hQ : mQI x r0 M0 (sz, 0, 0)) {l0 : Nat} {l1 : Nat} {M : mM} (h : B_X11_contentKeyComes_40 G F l0 l1 M = some (r0, M0)) : WW x (sz, 0, 0) M 40 [(0, .ref l0), (1, .ref l1)] [] := by
  unfold B_X11_contentKeyComes_40 at h
  refine ww_aload_n 40 X dX11_contentKeyComes_40 0 rfl rfl ?_
  obtain ⟨v41, e41, h⟩ := bO_some h
  refine ww_getR 41 X dX11_contentKeyComes_41 fG_X11_109 e41 ?_
  obtain ⟨v44, e44, h⟩ := bO_some h
  refine ww_getI 44 X dX11_contentKeyComes_44 fG_X11_351 e44 ?_
  by_cases q0 : v44 = (0 : Int32)
  · replace h := (if_pos q0).symm.trans h
    refine ww_tableIn 47 84 X dX11_contentKeyComes_47 (off := 37) (by rw [q0]; decide) (by rw [q0]; decide) (by rw [q0]; decide) (by decide) ?_
    refine ww_aload_n 84 X dX11_contentKeyComes_84 0 rfl rfl ?_
    obtain ⟨v85, e85, h⟩ := bO_some h
    refine ww_getR 85 X dX11_contentKeyComes_85 fG_X11_109 e85 ?_
    obtain ⟨v88, e88, h⟩ := bO_some h
    refine ww_getR 88 X dX11_contentKeyComes_88 fG_X11_425 e88 ?_
    refine ww_aload_n 91 X dX11_contentKeyComes_91 1 rfl rfl ?_
    obtain ⟨v92, e92, h⟩ := bO_some h
    refine ww_getR 92 X dX11_contentKeyComes_92 fG_X11_316 e92 ?_
    obtain ⟨_, f95, h⟩ := bO_some h
    obtain ⟨M95, e95, h⟩ := bO_some h
    refine ww_callVV0 95 X dX11_contentKeyComes_95 mY_X0_become mL_X11_127 (rcv_spec f95) ⟨_, _, rfl⟩ (by decide) (As := [.ref v92]) (rest := []) rfl rfl ⟨Nat.le_of_ble_eq_true rfl, Nat.le_of_ble_eq_true rfl⟩ (Nat.le_of_ble_eq_true rfl) (fun l D A => c_X0_become l D A e95) ?_
    refine ww_aload_n 98 X dX11_contentKeyComes_98 0 rfl rfl ?_
    obtain ⟨v99, e99, h⟩ := bO_some h
    refine ww_getR 99 X dX11_contentKeyComes_99 fG_X11_109 e99 ?_
    obtain ⟨v102, e102, h⟩ := bO_some h
    refine ww_getR 102 X dX11_contentKeyComes_102 fG_X11_431 e102 ?_
    obtain ⟨v105, e105, h⟩ := bO_some h
    refine ww_getI 105 X dX11_contentKeyComes_105 fG_X11_113 e105 ?_
    refine ww_if_ne 108 115 X dX11_contentKeyComes_108 (by decide) (fun q => ?_) (fun q => ?_)
    · replace h := (if_neg q).symm.trans h
      refine ww_iconst 115 X (v := (0 : Int32)) dX11_contentKeyComes_115 (by decide) ?_
      exact ww_zretE 116 X hQ dX11_contentKeyComes_116 h
    · replace h := (if_pos q).symm.trans h
      refine ww_iconst 111 X (v := (1 : Int32)) dX11_contentKeyComes_111 (by decide) ?_
      refine ww_goto 112 116 X dX11_contentKeyComes_112 (by decide) ?_
      exact ww_zretE 116 X hQ dX11_contentKeyComes_116 h
  · replace h := (if_neg q0).symm.trans h
    by_cases q1 : v44 = (1 : Int32)
    · replace h := (if_pos q1).symm.trans h
      refine ww_tableIn 47 212 X dX11_contentKeyComes_47 (off := 165) (by rw [q1]; decide) (by rw [q1]; decide) (by rw [q1]; decide) (by decide) ?_
      refine ww_aload_n 212 X dX11_contentKeyComes_212 0 rfl rfl ?_
      obtain ⟨v213, e213, h⟩ := bO_some h
      refine ww_getR 213 X dX11_contentKeyComes_213 fG_X11_77 e213 ?_
      refine ww_aload_n 216 X dX11_contentKeyComes_216 1 rfl rfl ?_
      obtain ⟨v217, e217, h⟩ := bO_some h
      refine ww_getR 217 X dX11_contentKeyComes_217 fG_X11_316 e217 ?_
      refine ww_aload_n 220 X dX11_contentKeyComes_220 0 rfl rfl ?_
      obtain ⟨v221, e221, h⟩ := bO_some h
      refine ww_getR 221 X dX11_contentKeyComes_221 fG_X11_109 e221 ?_
      obtain ⟨v224, e224, h⟩ := bO_some h
      refine ww_getR 224 X dX11_contentKeyComes_224 fG_X11_431 e224 ?_
      refine ww_aload_n 227 X dX11_contentKeyComes_227 0 rfl rfl ?_
      obtain ⟨v228, e228, h⟩ := bO_some h
      refine ww_getR 228 X dX11_contentKeyComes_228 fG_X11_109 e228 ?_
      obtain ⟨v231, e231, h⟩ := bO_some h
      refine ww_getR 231 X dX11_contentKeyComes_231 fG_X11_425 e231 ?_
      obtain ⟨_, f234, h⟩ := bO_some h
      obtain ⟨v234, M234, e234, h⟩ := bP_some h
      refine ww_callVI0 234 X dX11_contentKeyComes_234 mY_X1_putUnwrapped mL_X11_246 (rcv_spec f234) ⟨_, _, rfl⟩ (by decide) (As := [.ref v217, .ref v224, .ref v231]) (rest := []) rfl rfl ⟨Nat.le_of_ble_eq_true rfl, Nat.le_of_ble_eq_true rfl⟩ (Nat.le_of_ble_eq_true rfl) (fun l D A => c_X1_putUnwrapped l D A e234) ?_
      exact ww_zretE 237 X hQ dX11_contentKeyComes_237 h
    · replace h := (if_neg q1).symm.trans h
      by_cases q2 : v44 = (2 : Int32)
      · replace h := (if_pos q2).symm.trans h
        refine ww_tableIn 47 212 X dX11_contentKeyComes_47 (off := 165) (by rw [q2]; decide) (by rw [q2]; decide) (by rw [q2]; decide) (by decide) ?_
        refine ww_aload_n 212 X dX11_contentKeyComes_212 0 rfl rfl ?_
        obtain ⟨v213, e213, h⟩ := bO_some h
        refine ww_getR 213 X dX11_contentKeyComes_213 fG_X11_77 e213 ?_
        refine ww_aload_n 216 X dX11_contentKeyComes_216 1 rfl rfl ?_
        obtain ⟨v217, e217, h⟩ := bO_some h
        refine ww_getR 217 X dX11_contentKeyComes_217 fG_X11_316 e217 ?_
        refine ww_aload_n 220 X dX11_contentKeyComes_220 0 rfl rfl ?_
        obtain ⟨v221, e221, h⟩ := bO_some h
        refine ww_getR 221 X dX11_contentKeyComes_221 fG_X11_109 e221 ?_
        obtain ⟨v224, e224, h⟩ := bO_some h
        refine ww_getR 224 X dX11_contentKeyComes_224 fG_X11_431 e224 ?_
        refine ww_aload_n 227 X dX11_contentKeyComes_227 0 rfl rfl ?_
        obtain ⟨v228, e228, h⟩ := bO_some h
        refine ww_getR 228 X dX11_contentKeyComes_228 fG_X11_109 e228 ?_
        obtain ⟨v231, e231, h⟩ := bO_some h
        refine ww_getR 231 X dX11_contentKeyComes_231 fG_X11_425 e231 ?_
        obtain ⟨_, f234, h⟩ := bO_some h
        obtain ⟨v234, M234, e234, h⟩ := bP_some h
        refine ww_callVI0 234 X dX11_contentKeyComes_234 mY_X1_putUnwrapped mL_X11_246 (rcv_spec f234) ⟨_, _, rfl⟩ (by decide) (As := [.ref v217, .ref v224, .ref v231]) (rest := []) rfl rfl ⟨Nat.le_of_ble_eq_true rfl, Nat.le_of_ble_eq_true rfl⟩ (Nat.le_of_ble_eq_true rfl) (fun l D A => c_X1_putUnwrapped l D A e234) ?_
        exact ww_zretE 237 X hQ dX11_contentKeyComes_237 h
      · replace h := (if_neg q2).symm.trans h
        by_cases q3 : v44 = (3 : Int32)
        · replace h := (if_pos q3).symm.trans h
          refine ww_tableIn 47 117 X dX11_contentKeyComes_47 (off := 70) (by rw [q3]; decide) (by rw [q3]; decide) (by rw [q3]; decide) (by decide) ?_
          refine ww_aload_n 117 X dX11_contentKeyComes_117 0 rfl rfl ?_
          obtain ⟨v118, e118, h⟩ := bO_some h
          refine ww_getR 118 X dX11_contentKeyComes_118 fG_X11_95 e118 ?_
          refine ww_aload_n 121 X dX11_contentKeyComes_121 0 rfl rfl ?_
          obtain ⟨v122, e122, h⟩ := bO_some h
          refine ww_getR 122 X dX11_contentKeyComes_122 fG_X11_109 e122 ?_
          obtain ⟨v125, e125, h⟩ := bO_some h
          refine ww_getR 125 X dX11_contentKeyComes_125 fG_X11_431 e125 ?_
          refine ww_aload_n 128 X dX11_contentKeyComes_128 1 rfl rfl ?_
          obtain ⟨v129, e129, h⟩ := bO_some h
          refine ww_getR 129 X dX11_contentKeyComes_129 fG_X11_459 e129 ?_
          refine ww_aload_n 132 X dX11_contentKeyComes_132 1 rfl rfl ?_
          obtain ⟨v133, e133, h⟩ := bO_some h
          refine ww_getR 133 X dX11_contentKeyComes_133 fG_X11_316 e133 ?_
          refine ww_aload_n 136 X dX11_contentKeyComes_136 0 rfl rfl ?_
          obtain ⟨v137, e137, h⟩ := bO_some h
          refine ww_getR 137 X dX11_contentKeyComes_137 fG_X11_109 e137 ?_
          obtain ⟨v140, e140, h⟩ := bO_some h
          refine ww_getR 140 X dX11_contentKeyComes_140 fG_X11_425 e140 ?_
          obtain ⟨_, f143, h⟩ := bO_some h
          obtain ⟨v143, M143, e143, h⟩ := bP_some h
          refine ww_callVI0 143 X dX11_contentKeyComes_143 mY_X8_openOaep mL_X11_563 (rcv_spec f143) ⟨_, _, rfl⟩ (by decide) (As := [.ref v125, .ref v129, .ref v133, .ref v140]) (rest := []) rfl rfl ⟨Nat.le_of_ble_eq_true rfl, Nat.le_of_ble_eq_true rfl⟩ (Nat.le_of_ble_eq_true rfl) (fun l D A => c_X8_openOaep l D A e143) ?_
          exact ww_zretE 146 X hQ dX11_contentKeyComes_146 h
        · replace h := (if_neg q3).symm.trans h
          by_cases q4 : v44 = (4 : Int32)
          · replace h := (if_pos q4).symm.trans h
            refine ww_tableIn 47 147 X dX11_contentKeyComes_47 (off := 100) (by rw [q4]; decide) (by rw [q4]; decide) (by rw [q4]; decide) (by decide) ?_
            refine ww_aload_n 147 X dX11_contentKeyComes_147 0 rfl rfl ?_
            obtain ⟨v148, e148, h⟩ := bO_some h
            refine ww_getR 148 X dX11_contentKeyComes_148 fG_X11_109 e148 ?_
            obtain ⟨v151, e151, h⟩ := bO_some h
            refine ww_getR 151 X dX11_contentKeyComes_151 fG_X11_425 e151 ?_
            refine ww_aload_n 154 X dX11_contentKeyComes_154 0 rfl rfl ?_
            obtain ⟨v155, e155, h⟩ := bO_some h
            refine ww_getR 155 X dX11_contentKeyComes_155 fG_X11_109 e155 ?_
            obtain ⟨v158, e158, h⟩ := bO_some h
            refine ww_getR 158 X dX11_contentKeyComes_158 fG_X11_530 e158 ?_
            obtain ⟨_, f161, h⟩ := bO_some h
            obtain ⟨M161, e161, h⟩ := bO_some h
            refine ww_callVV0 161 X dX11_contentKeyComes_161 mY_X0_become mL_X11_127 (rcv_spec f161) ⟨_, _, rfl⟩ (by decide) (As := [.ref v158]) (rest := []) rfl rfl ⟨Nat.le_of_ble_eq_true rfl, Nat.le_of_ble_eq_true rfl⟩ (Nat.le_of_ble_eq_true rfl) (fun l D A => c_X0_become l D A e161) ?_
            refine ww_aload_n 164 X dX11_contentKeyComes_164 0 rfl rfl ?_
            obtain ⟨v165, e165, h⟩ := bO_some h
            refine ww_getR 165 X dX11_contentKeyComes_165 fG_X11_109 e165 ?_
            obtain ⟨v168, e168, h⟩ := bO_some h
            refine ww_getR 168 X dX11_contentKeyComes_168 fG_X11_431 e168 ?_
            obtain ⟨v171, e171, h⟩ := bO_some h
            refine ww_getI 171 X dX11_contentKeyComes_171 fG_X11_113 e171 ?_
            refine ww_if_ne 174 181 X dX11_contentKeyComes_174 (by decide) (fun q => ?_) (fun q => ?_)
            · replace h := (if_neg q).symm.trans h
              refine ww_iconst 181 X (v := (0 : Int32)) dX11_contentKeyComes_181 (by decide) ?_
              exact ww_zretE 182 X hQ dX11_contentKeyComes_182 h
            · replace h := (if_pos q).symm.trans h
              refine ww_iconst 177 X (v := (1 : Int32)) dX11_contentKeyComes_177 (by decide) ?_
              refine ww_goto 178 182 X dX11_contentKeyComes_178 (by decide) ?_
              exact ww_zretE 182 X hQ dX11_contentKeyComes_182 h
          · replace h := (if_neg q4).symm.trans h
            by_cases q5 : v44 = (5 : Int32)
            · replace h := (if_pos q5).symm.trans h
              refine ww_tableIn 47 183 X dX11_contentKeyComes_47 (off := 136) (by rw [q5]; decide) (by rw [q5]; decide) (by rw [q5]; decide) (by decide) ?_
              refine ww_aload_n 183 X dX11_contentKeyComes_183 0 rfl rfl ?_
              obtain ⟨v184, e184, h⟩ := bO_some h
              refine ww_getR 184 X dX11_contentKeyComes_184 fG_X11_77 e184 ?_
              refine ww_aload_n 187 X dX11_contentKeyComes_187 0 rfl rfl ?_
              obtain ⟨v188, e188, h⟩ := bO_some h
              refine ww_getR 188 X dX11_contentKeyComes_188 fG_X11_109 e188 ?_
              obtain ⟨v191, e191, h⟩ := bO_some h
              refine ww_getR 191 X dX11_contentKeyComes_191 fG_X11_530 e191 ?_
              refine ww_aload_n 194 X dX11_contentKeyComes_194 0 rfl rfl ?_
              obtain ⟨v195, e195, h⟩ := bO_some h
              refine ww_getR 195 X dX11_contentKeyComes_195 fG_X11_109 e195 ?_
              obtain ⟨v198, e198, h⟩ := bO_some h
              refine ww_getR 198 X dX11_contentKeyComes_198 fG_X11_431 e198 ?_
              refine ww_aload_n 201 X dX11_contentKeyComes_201 0 rfl rfl ?_
              obtain ⟨v202, e202, h⟩ := bO_some h
              refine ww_getR 202 X dX11_contentKeyComes_202 fG_X11_109 e202 ?_
              obtain ⟨v205, e205, h⟩ := bO_some h
              refine ww_getR 205 X dX11_contentKeyComes_205 fG_X11_425 e205 ?_
              obtain ⟨_, f208, h⟩ := bO_some h
              obtain ⟨v208, M208, e208, h⟩ := bP_some h
              refine ww_callVI0 208 X dX11_contentKeyComes_208 mY_X1_putUnwrapped mL_X11_246 (rcv_spec f208) ⟨_, _, rfl⟩ (by decide) (As := [.ref v191, .ref v198, .ref v205]) (rest := []) rfl rfl ⟨Nat.le_of_ble_eq_true rfl, Nat.le_of_ble_eq_true rfl⟩ (Nat.le_of_ble_eq_true rfl) (fun l D A => c_X1_putUnwrapped l D A e208) ?_
              exact ww_zretE 211 X hQ dX11_contentKeyComes_211 h
            · replace h := (if_neg q5).symm.trans h
              have z0 := lv_neT q0 (show (0 : Int32).toInt = 0 by decide)
              have z1 := lv_neT q1 (show (1 : Int32).toInt = 1 by decide)
              have z2 := lv_neT q2 (show (2 : Int32).toInt = 2 by decide)
              have z3 := lv_neT q3 (show (3 : Int32).toInt = 3 by decide)
              have z4 := lv_neT q4 (show (4 : Int32).toInt = 4 by decide)
              have z5 := lv_neT q5 (show (5 : Int32).toInt = 5 by decide)
              refine ww_tableOut 47 212 X dX11_contentKeyComes_47 (by omega) (by decide) ?_
              refine ww_aload_n 212 X dX11_contentKeyComes_212 0 rfl rfl ?_
              obtain ⟨v213, e213, h⟩ := bO_some h
              refine ww_getR 213 X dX11_contentKeyComes_213 fG_X11_77 e213 ?_
              refine ww_aload_n 216 X dX11_contentKeyComes_216 1 rfl rfl ?_
              obtain ⟨v217, e217, h⟩ := bO_some h
              refine ww_getR 217 X dX11_contentKeyComes_217 fG_X11_316 e217 ?_
              refine ww_aload_n 220 X dX11_contentKeyComes_220 0 rfl rfl ?_
              obtain ⟨v221, e221, h⟩ := bO_some h
              refine ww_getR 221 X dX11_contentKeyComes_221 fG_X11_109 e221 ?_
              obtain ⟨v224, e224, h⟩ := bO_some h
              refine ww_getR 224 X dX11_contentKeyComes_224 fG_X11_431 e224 ?_
              refine ww_aload_n 227 X dX11_contentKeyComes_227 0 rfl rfl ?_
              obtain ⟨v228, e228, h⟩ := bO_some h
              refine ww_getR 228 X dX11_contentKeyComes_228 fG_X11_109 e228 ?_
              obtain ⟨v231, e231, h⟩ := bO_some h
              refine ww_getR 231 X dX11_contentKeyComes_231 fG_X11_425 e231 ?_
              obtain ⟨_, f234, h⟩ := bO_some h
              obtain ⟨v234, M234, e234, h⟩ := bP_some h
              refine ww_callVI0 234 X dX11_contentKeyComes_234 mY_X1_putUnwrapped mL_X11_246 (rcv_spec f234) ⟨_, _, rfl⟩ (by decide) (As := [.ref v217, .ref v224, .ref v231]) (rest := []) rfl rfl ⟨Nat.le_of_ble_eq_true rfl, Nat.le_of_ble_eq_true rfl⟩ (Nat.le_of_ble_eq_true rfl) (fun l D A => c_X1_putUnwrapped l D A e234) ?_
              exact ww_zretE 237 X hQ dX11_contentKeyComes_237 h
set_option maxHeartbeats 4000000 in
set_option maxRecDepth 100000 in
theorem wP_X11_contentKeyComes {G : mG} {F : Nat} {x : mXT} {sz : Nat} {r0 : Int32} {M0 : mM} (X : mCX G RX11 cX11_contentKeyComes 2 (some .boolean) "contentKeyComes" rmX11_contentKeyComes x) (hQ : mQI x r0 M0 (sz, 0, 0)) {l0 : Nat} {l1 : Nat} {M : mM} (h : P_X11_contentKeyComes G F l0 l1 M = some (r0, M0)) : WW x (sz, 0, 0) M 0 [(0, .ref l0), (1, .ref l1)] [] := by
  unfold P_X11_contentKeyComes at h
  refine ww_aload_n 0 X dX11_contentKeyComes_0 0 rfl rfl ?_
  obtain ⟨v1, e1, h⟩ := bO_some h
  refine ww_getR 1 X dX11_contentKeyComes_1 fG_X11_109 e1 ?_
  obtain ⟨v4, e4, h⟩ := bO_some h
  refine ww_getI 4 X dX11_contentKeyComes_4 fG_X11_351 e4 ?_
  refine ww_iconst 7 X (v := (4 : Int32)) dX11_contentKeyComes_7 (by decide) ?_
  refine ww_icmp_lt 8 40 X dX11_contentKeyComes_8 (by decide) (fun q => ?_) (fun q => ?_)
  · replace h := (if_pos q).symm.trans h
    exact (wB_X11_contentKeyComes_40 X hQ h)
  · replace h := (if_neg q).symm.trans h
    refine ww_aload_n 11 X dX11_contentKeyComes_11 0 rfl rfl ?_
    refine ww_aload_n 12 X dX11_contentKeyComes_12 1 rfl rfl ?_
    obtain ⟨v13, e13, h⟩ := bO_some h
    refine ww_getR 13 X dX11_contentKeyComes_13 fG_X11_459 e13 ?_
    refine ww_aload_n 16 X dX11_contentKeyComes_16 0 rfl rfl ?_
    obtain ⟨v17, e17, h⟩ := bO_some h
    refine ww_getR 17 X dX11_contentKeyComes_17 fG_X11_109 e17 ?_
    obtain ⟨v20, e20, h⟩ := bO_some h
    refine ww_getR 20 X dX11_contentKeyComes_20 fG_X11_412 e20 ?_
    refine ww_aload_n 23 X dX11_contentKeyComes_23 0 rfl rfl ?_
    obtain ⟨v24, e24, h⟩ := bO_some h
    refine ww_getR 24 X dX11_contentKeyComes_24 fG_X11_109 e24 ?_
    obtain ⟨v27, e27, h⟩ := bO_some h
    refine ww_getR 27 X dX11_contentKeyComes_27 fG_X11_557 e27 ?_
    refine ww_aload_n 30 X dX11_contentKeyComes_30 0 rfl rfl ?_
    obtain ⟨v31, e31, h⟩ := bO_some h
    refine ww_getR 31 X dX11_contentKeyComes_31 fG_X11_109 e31 ?_
    obtain ⟨v34, e34, h⟩ := bO_some h
    refine ww_getR 34 X dX11_contentKeyComes_34 fG_X11_560 e34 ?_
    obtain ⟨_, f37, h⟩ := bO_some h
    obtain ⟨M37, e37, h⟩ := bO_some h
    refine ww_callVV0 37 X dX11_contentKeyComes_37 mY_X11_agree mL_X11_547 (rcv_spec f37) ⟨_, _, rfl⟩ (by decide) (As := [.ref v13, .ref v20, .ref v27, .ref v34]) (rest := []) rfl rfl ⟨Nat.le_of_ble_eq_true rfl, Nat.le_of_ble_eq_true rfl⟩ (Nat.le_of_ble_eq_true rfl) (fun l D A => c_X11_agree l D A e37) ?_
    exact (wB_X11_contentKeyComes_40 X hQ h)
theorem c_X11_contentKeyComes {G : mG} {F sz : Nat} {r0 : Int32} {M0 : mM} (l : Launch) (D : mD) (A : Nat → Prop) {l0 : Nat} {l1 : Nat} {M : mM} (h : P_X11_contentKeyComes G F l0 l1 M = some (r0, M0)) : mMetI l D G A yX11_contentKeyComes cX11_contentKeyComes 2 (some .boolean) 6 194 0 0 [.ref l0, .ref l1] M sz r0 M0 sz := mMetI_of l D G A (by decide) (Nat.le_of_ble_eq_true rfl) (fun x X hQ => wP_X11_contentKeyComes X hQ h)
/-! SealedTokens.decrypt(I)I -/
theorem dX11_decrypt_0 : decode cX11_decrypt 0 = .ok (.aload_n 0, 1) := by decide +kernel
theorem dX11_decrypt_1 : decode cX11_decrypt 1 = .ok (.iload_n 1, 1) := by decide +kernel
theorem dX11_decrypt_2 : decode cX11_decrypt 2 = .ok (.invokevirtual 123, 3) := by decide +kernel
theorem dX11_decrypt_5 : decode cX11_decrypt 5 = .ok (.ifCond .ne 6, 3) := by decide +kernel
theorem dX11_decrypt_8 : decode cX11_decrypt 8 = .ok (.bipush (-2), 2) := by decide +kernel
theorem dX11_decrypt_10 : decode cX11_decrypt 10 = .ok (.ireturn, 1) := by decide +kernel
theorem dX11_decrypt_11 : decode cX11_decrypt 11 = .ok (.aload_n 0, 1) := by decide +kernel
theorem dX11_decrypt_12 : decode cX11_decrypt 12 = .ok (.getfield 11, 3) := by decide +kernel
theorem dX11_decrypt_15 : decode cX11_decrypt 15 = .ok (.iload_n 1, 1) := by decide +kernel
theorem dX11_decrypt_16 : decode cX11_decrypt 16 = .ok (.aaload, 1) := by decide +kernel
theorem dX11_decrypt_17 : decode cX11_decrypt 17 = .ok (.astore_n 2, 1) := by decide +kernel
theorem dX11_decrypt_18 : decode cX11_decrypt 18 = .ok (.aload_n 0, 1) := by decide +kernel
theorem dX11_decrypt_19 : decode cX11_decrypt 19 = .ok (.getfield 109, 3) := by decide +kernel
theorem dX11_decrypt_22 : decode cX11_decrypt 22 = .ok (.aload_n 2, 1) := by decide +kernel
theorem dX11_decrypt_23 : decode cX11_decrypt 23 = .ok (.iconst 5, 1) := by decide +kernel
theorem dX11_decrypt_24 : decode cX11_decrypt 24 = .ok (.invokevirtual 371, 3) := by decide +kernel
theorem dX11_decrypt_27 : decode cX11_decrypt 27 = .ok (.ifCond .ne 6, 3) := by decide +kernel
theorem dX11_decrypt_30 : decode cX11_decrypt 30 = .ok (.bipush (-20), 2) := by decide +kernel
theorem dX11_decrypt_32 : decode cX11_decrypt 32 = .ok (.ireturn, 1) := by decide +kernel
theorem dX11_decrypt_33 : decode cX11_decrypt 33 = .ok (.iconst 0, 1) := by decide +kernel
theorem dX11_decrypt_34 : decode cX11_decrypt 34 = .ok (.istore_n 3, 1) := by decide +kernel
theorem dX11_decrypt_35 : decode cX11_decrypt 35 = .ok (.iload_n 3, 1) := by decide +kernel
theorem dX11_decrypt_36 : decode cX11_decrypt 36 = .ok (.iconst 5, 1) := by decide +kernel
theorem dX11_decrypt_37 : decode cX11_decrypt 37 = .ok (.if_icmp .ge 24, 3) := by decide +kernel
theorem dX11_decrypt_40 : decode cX11_decrypt 40 = .ok (.aload_n 0, 1) := by decide +kernel
theorem dX11_decrypt_41 : decode cX11_decrypt 41 = .ok (.getfield 109, 3) := by decide +kernel
theorem dX11_decrypt_44 : decode cX11_decrypt 44 = .ok (.aload_n 2, 1) := by decide +kernel
theorem dX11_decrypt_45 : decode cX11_decrypt 45 = .ok (.iload_n 3, 1) := by decide +kernel
theorem dX11_decrypt_46 : decode cX11_decrypt 46 = .ok (.invokevirtual 375, 3) := by decide +kernel
theorem dX11_decrypt_49 : decode cX11_decrypt 49 = .ok (.ifCond .eq 6, 3) := by decide +kernel
theorem dX11_decrypt_52 : decode cX11_decrypt 52 = .ok (.bipush (-21), 2) := by decide +kernel
theorem dX11_decrypt_54 : decode cX11_decrypt 54 = .ok (.ireturn, 1) := by decide +kernel
theorem dX11_decrypt_55 : decode cX11_decrypt 55 = .ok (.iinc 3 1, 3) := by decide +kernel
theorem dX11_decrypt_58 : decode cX11_decrypt 58 = .ok (.goto (-23), 3) := by decide +kernel
theorem dX11_decrypt_61 : decode cX11_decrypt 61 = .ok (.aload_n 0, 1) := by decide +kernel
theorem dX11_decrypt_62 : decode cX11_decrypt 62 = .ok (.getfield 109, 3) := by decide +kernel
theorem dX11_decrypt_65 : decode cX11_decrypt 65 = .ok (.aload_n 2, 1) := by decide +kernel
theorem dX11_decrypt_66 : decode cX11_decrypt 66 = .ok (.iconst 0, 1) := by decide +kernel
theorem dX11_decrypt_67 : decode cX11_decrypt 67 = .ok (.aload_n 0, 1) := by decide +kernel
theorem dX11_decrypt_68 : decode cX11_decrypt 68 = .ok (.getfield 109, 3) := by decide +kernel
theorem dX11_decrypt_71 : decode cX11_decrypt 71 = .ok (.getfield 352, 3) := by decide +kernel
theorem dX11_decrypt_74 : decode cX11_decrypt 74 = .ok (.invokevirtual 378, 3) := by decide +kernel
theorem dX11_decrypt_77 : decode cX11_decrypt 77 = .ok (.aload_n 0, 1) := by decide +kernel
theorem dX11_decrypt_78 : decode cX11_decrypt 78 = .ok (.getfield 52, 3) := by decide +kernel
theorem dX11_decrypt_81 : decode cX11_decrypt 81 = .ok (.aload_n 0, 1) := by decide +kernel
theorem dX11_decrypt_82 : decode cX11_decrypt 82 = .ok (.getfield 109, 3) := by decide +kernel
theorem dX11_decrypt_85 : decode cX11_decrypt 85 = .ok (.getfield 352, 3) := by decide +kernel
theorem dX11_decrypt_88 : decode cX11_decrypt 88 = .ok (.aload_n 0, 1) := by decide +kernel
theorem dX11_decrypt_89 : decode cX11_decrypt 89 = .ok (.getfield 44, 3) := by decide +kernel
theorem dX11_decrypt_92 : decode cX11_decrypt 92 = .ok (.invokevirtual 142, 3) := by decide +kernel
theorem dX11_decrypt_95 : decode cX11_decrypt 95 = .ok (.iconst (-1), 1) := by decide +kernel
theorem dX11_decrypt_96 : decode cX11_decrypt 96 = .ok (.if_icmp .eq 6, 3) := by decide +kernel
theorem dX11_decrypt_99 : decode cX11_decrypt 99 = .ok (.bipush (-22), 2) := by decide +kernel
theorem dX11_decrypt_101 : decode cX11_decrypt 101 = .ok (.ireturn, 1) := by decide +kernel
theorem dX11_decrypt_102 : decode cX11_decrypt 102 = .ok (.aload_n 0, 1) := by decide +kernel
theorem dX11_decrypt_103 : decode cX11_decrypt 103 = .ok (.getfield 109, 3) := by decide +kernel
theorem dX11_decrypt_106 : decode cX11_decrypt 106 = .ok (.aload_n 0, 1) := by decide +kernel
theorem dX11_decrypt_107 : decode cX11_decrypt 107 = .ok (.getfield 44, 3) := by decide +kernel
theorem dX11_decrypt_110 : decode cX11_decrypt 110 = .ok (.invokevirtual 437, 3) := by decide +kernel
theorem dX11_decrypt_113 : decode cX11_decrypt 113 = .ok (.istore_n 3, 1) := by decide +kernel
theorem dX11_decrypt_114 : decode cX11_decrypt 114 = .ok (.iload_n 3, 1) := by decide +kernel
theorem dX11_decrypt_115 : decode cX11_decrypt 115 = .ok (.ifCond .eq 5, 3) := by decide +kernel
theorem dX11_decrypt_118 : decode cX11_decrypt 118 = .ok (.iload_n 3, 1) := by decide +kernel
theorem dX11_decrypt_119 : decode cX11_decrypt 119 = .ok (.ireturn, 1) := by decide +kernel
theorem dX11_decrypt_120 : decode cX11_decrypt 120 = .ok (.aload_n 0, 1) := by decide +kernel
theorem dX11_decrypt_121 : decode cX11_decrypt 121 = .ok (.getfield 109, 3) := by decide +kernel
theorem dX11_decrypt_124 : decode cX11_decrypt 124 = .ok (.getfield 351, 3) := by decide +kernel
theorem dX11_decrypt_127 : decode cX11_decrypt 127 = .ok (.iconst 4, 1) := by decide +kernel
theorem dX11_decrypt_128 : decode cX11_decrypt 128 = .ok (.if_icmp .lt 23, 3) := by decide +kernel
theorem dX11_decrypt_131 : decode cX11_decrypt 131 = .ok (.aload_n 0, 1) := by decide +kernel
theorem dX11_decrypt_132 : decode cX11_decrypt 132 = .ok (.getfield 102, 3) := by decide +kernel
theorem dX11_decrypt_135 : decode cX11_decrypt 135 = .ok (.aload_n 0, 1) := by decide +kernel
theorem dX11_decrypt_136 : decode cX11_decrypt 136 = .ok (.getfield 109, 3) := by decide +kernel
theorem dX11_decrypt_139 : decode cX11_decrypt 139 = .ok (.getfield 412, 3) := by decide +kernel
theorem dX11_decrypt_142 : decode cX11_decrypt 142 = .ok (.invokevirtual 279, 3) := by decide +kernel
theorem dX11_decrypt_145 : decode cX11_decrypt 145 = .ok (.ifCond .ne 6, 3) := by decide +kernel
theorem dX11_decrypt_148 : decode cX11_decrypt 148 = .ok (.bipush (-23), 2) := by decide +kernel
theorem dX11_decrypt_150 : decode cX11_decrypt 150 = .ok (.ireturn, 1) := by decide +kernel
theorem dX11_decrypt_151 : decode cX11_decrypt 151 = .ok (.aload_n 0, 1) := by decide +kernel
theorem dX11_decrypt_152 : decode cX11_decrypt 152 = .ok (.getfield 28, 3) := by decide +kernel
theorem dX11_decrypt_155 : decode cX11_decrypt 155 = .ok (.invokevirtual 131, 3) := by decide +kernel
theorem dX11_decrypt_158 : decode cX11_decrypt 158 = .ok (.aload_n 0, 1) := by decide +kernel
theorem dX11_decrypt_159 : decode cX11_decrypt 159 = .ok (.getfield 28, 3) := by decide +kernel
theorem dX11_decrypt_162 : decode cX11_decrypt 162 = .ok (.aload_n 2, 1) := by decide +kernel
theorem dX11_decrypt_163 : decode cX11_decrypt 163 = .ok (.iconst 0, 1) := by decide +kernel
theorem dX11_decrypt_164 : decode cX11_decrypt 164 = .ok (.aload_n 0, 1) := by decide +kernel
theorem dX11_decrypt_165 : decode cX11_decrypt 165 = .ok (.getfield 109, 3) := by decide +kernel
theorem dX11_decrypt_168 : decode cX11_decrypt 168 = .ok (.iconst 0, 1) := by decide +kernel
theorem dX11_decrypt_169 : decode cX11_decrypt 169 = .ok (.invokevirtual 382, 3) := by decide +kernel
theorem dX11_decrypt_172 : decode cX11_decrypt 172 = .ok (.invokevirtual 385, 3) := by decide +kernel
theorem dX11_decrypt_175 : decode cX11_decrypt 175 = .ok (.aload_n 0, 1) := by decide +kernel
theorem dX11_decrypt_176 : decode cX11_decrypt 176 = .ok (.getfield 109, 3) := by decide +kernel
theorem dX11_decrypt_179 : decode cX11_decrypt 179 = .ok (.aload_n 2, 1) := by decide +kernel
theorem dX11_decrypt_180 : decode cX11_decrypt 180 = .ok (.aload_n 0, 1) := by decide +kernel
theorem dX11_decrypt_181 : decode cX11_decrypt 181 = .ok (.getfield 31, 3) := by decide +kernel
theorem dX11_decrypt_184 : decode cX11_decrypt 184 = .ok (.invokevirtual 440, 3) := by decide +kernel
theorem dX11_decrypt_187 : decode cX11_decrypt 187 = .ok (.istore 4, 2) := by decide +kernel
theorem dX11_decrypt_189 : decode cX11_decrypt 189 = .ok (.iconst 0, 1) := by decide +kernel
theorem dX11_decrypt_190 : decode cX11_decrypt 190 = .ok (.istore 5, 2) := by decide +kernel
theorem dX11_decrypt_192 : decode cX11_decrypt 192 = .ok (.iconst 0, 1) := by decide +kernel
theorem dX11_decrypt_193 : decode cX11_decrypt 193 = .ok (.istore 6, 2) := by decide +kernel
theorem dX11_decrypt_195 : decode cX11_decrypt 195 = .ok (.iload 6, 2) := by decide +kernel
theorem dX11_decrypt_197 : decode cX11_decrypt 197 = .ok (.bipush 16, 2) := by decide +kernel
theorem dX11_decrypt_199 : decode cX11_decrypt 199 = .ok (.if_icmp .ge 156, 3) := by decide +kernel
theorem dX11_decrypt_202 : decode cX11_decrypt 202 = .ok (.aload_n 0, 1) := by decide +kernel
theorem dX11_decrypt_203 : decode cX11_decrypt 203 = .ok (.getfield 58, 3) := by decide +kernel
theorem dX11_decrypt_206 : decode cX11_decrypt 206 = .ok (.iload 6, 2) := by decide +kernel
theorem dX11_decrypt_208 : decode cX11_decrypt 208 = .ok (.aaload, 1) := by decide +kernel
theorem dX11_decrypt_209 : decode cX11_decrypt 209 = .ok (.getfield 308, 3) := by decide +kernel
theorem dX11_decrypt_212 : decode cX11_decrypt 212 = .ok (.ifCond .eq 137, 3) := by decide +kernel
theorem dX11_decrypt_215 : decode cX11_decrypt 215 = .ok (.aload_n 0, 1) := by decide +kernel
theorem dX11_decrypt_216 : decode cX11_decrypt 216 = .ok (.getfield 109, 3) := by decide +kernel
theorem dX11_decrypt_219 : decode cX11_decrypt 219 = .ok (.aload_n 0, 1) := by decide +kernel
theorem dX11_decrypt_220 : decode cX11_decrypt 220 = .ok (.getfield 44, 3) := by decide +kernel
theorem dX11_decrypt_223 : decode cX11_decrypt 223 = .ok (.aload_n 0, 1) := by decide +kernel
theorem dX11_decrypt_224 : decode cX11_decrypt 224 = .ok (.getfield 58, 3) := by decide +kernel
theorem dX11_decrypt_227 : decode cX11_decrypt 227 = .ok (.iload 6, 2) := by decide +kernel
theorem dX11_decrypt_229 : decode cX11_decrypt 229 = .ok (.aaload, 1) := by decide +kernel
theorem dX11_decrypt_230 : decode cX11_decrypt 230 = .ok (.invokevirtual 388, 3) := by decide +kernel
theorem dX11_decrypt_233 : decode cX11_decrypt 233 = .ok (.ifCond .eq 116, 3) := by decide +kernel
theorem dX11_decrypt_236 : decode cX11_decrypt 236 = .ok (.aload_n 0, 1) := by decide +kernel
theorem dX11_decrypt_237 : decode cX11_decrypt 237 = .ok (.getfield 58, 3) := by decide +kernel
theorem dX11_decrypt_240 : decode cX11_decrypt 240 = .ok (.iload 6, 2) := by decide +kernel
theorem dX11_decrypt_242 : decode cX11_decrypt 242 = .ok (.aaload, 1) := by decide +kernel
theorem dX11_decrypt_243 : decode cX11_decrypt 243 = .ok (.aload_n 0, 1) := by decide +kernel
theorem dX11_decrypt_244 : decode cX11_decrypt 244 = .ok (.getfield 109, 3) := by decide +kernel
theorem dX11_decrypt_247 : decode cX11_decrypt 247 = .ok (.getfield 351, 3) := by decide +kernel
theorem dX11_decrypt_250 : decode cX11_decrypt 250 = .ok (.aload_n 0, 1) := by decide +kernel
theorem dX11_decrypt_251 : decode cX11_decrypt 251 = .ok (.getfield 109, 3) := by decide +kernel
theorem dX11_decrypt_254 : decode cX11_decrypt 254 = .ok (.getfield 444, 3) := by decide +kernel
theorem dX11_decrypt_257 : decode cX11_decrypt 257 = .ok (.iconst 1, 1) := by decide +kernel
theorem dX11_decrypt_258 : decode cX11_decrypt 258 = .ok (.invokevirtual 398, 3) := by decide +kernel
theorem dX11_decrypt_261 : decode cX11_decrypt 261 = .ok (.ifCond .eq 88, 3) := by decide +kernel
theorem dX11_decrypt_264 : decode cX11_decrypt 264 = .ok (.iconst 1, 1) := by decide +kernel
theorem dX11_decrypt_265 : decode cX11_decrypt 265 = .ok (.istore 5, 2) := by decide +kernel
theorem dX11_decrypt_267 : decode cX11_decrypt 267 = .ok (.iload 4, 2) := by decide +kernel
theorem dX11_decrypt_269 : decode cX11_decrypt 269 = .ok (.ifCond .eq 80, 3) := by decide +kernel
theorem dX11_decrypt_272 : decode cX11_decrypt 272 = .ok (.aload_n 0, 1) := by decide +kernel
theorem dX11_decrypt_273 : decode cX11_decrypt 273 = .ok (.aload_n 0, 1) := by decide +kernel
theorem dX11_decrypt_274 : decode cX11_decrypt 274 = .ok (.getfield 58, 3) := by decide +kernel
theorem dX11_decrypt_277 : decode cX11_decrypt 277 = .ok (.iload 6, 2) := by decide +kernel
theorem dX11_decrypt_279 : decode cX11_decrypt 279 = .ok (.aaload, 1) := by decide +kernel
theorem dX11_decrypt_280 : decode cX11_decrypt 280 = .ok (.invokevirtual 447, 3) := by decide +kernel
theorem dX11_decrypt_283 : decode cX11_decrypt 283 = .ok (.ifCond .eq 66, 3) := by decide +kernel
theorem dX11_decrypt_286 : decode cX11_decrypt 286 = .ok (.aload_n 0, 1) := by decide +kernel
theorem dX11_decrypt_287 : decode cX11_decrypt 287 = .ok (.getfield 86, 3) := by decide +kernel
theorem dX11_decrypt_290 : decode cX11_decrypt 290 = .ok (.aload_n 0, 1) := by decide +kernel
theorem dX11_decrypt_291 : decode cX11_decrypt 291 = .ok (.getfield 109, 3) := by decide +kernel
theorem dX11_decrypt_294 : decode cX11_decrypt 294 = .ok (.getfield 444, 3) := by decide +kernel
theorem dX11_decrypt_297 : decode cX11_decrypt 297 = .ok (.aload_n 0, 1) := by decide +kernel
theorem dX11_decrypt_298 : decode cX11_decrypt 298 = .ok (.getfield 109, 3) := by decide +kernel
theorem dX11_decrypt_301 : decode cX11_decrypt 301 = .ok (.getfield 425, 3) := by decide +kernel
theorem dX11_decrypt_304 : decode cX11_decrypt 304 = .ok (.aload_n 0, 1) := by decide +kernel
theorem dX11_decrypt_305 : decode cX11_decrypt 305 = .ok (.getfield 109, 3) := by decide +kernel
theorem dX11_decrypt_308 : decode cX11_decrypt 308 = .ok (.getfield 428, 3) := by decide +kernel
theorem dX11_decrypt_311 : decode cX11_decrypt 311 = .ok (.aload_n 0, 1) := by decide +kernel
theorem dX11_decrypt_312 : decode cX11_decrypt 312 = .ok (.getfield 28, 3) := by decide +kernel
theorem dX11_decrypt_315 : decode cX11_decrypt 315 = .ok (.aload_n 0, 1) := by decide +kernel
theorem dX11_decrypt_316 : decode cX11_decrypt 316 = .ok (.getfield 31, 3) := by decide +kernel
theorem dX11_decrypt_319 : decode cX11_decrypt 319 = .ok (.aload_n 0, 1) := by decide +kernel
theorem dX11_decrypt_320 : decode cX11_decrypt 320 = .ok (.getfield 34, 3) := by decide +kernel
theorem dX11_decrypt_323 : decode cX11_decrypt 323 = .ok (.invokevirtual 265, 3) := by decide +kernel
theorem dX11_decrypt_326 : decode cX11_decrypt 326 = .ok (.ifCond .eq 23, 3) := by decide +kernel
theorem dX11_decrypt_329 : decode cX11_decrypt 329 = .ok (.aload_n 0, 1) := by decide +kernel
theorem dX11_decrypt_330 : decode cX11_decrypt 330 = .ok (.aload_n 0, 1) := by decide +kernel
theorem dX11_decrypt_331 : decode cX11_decrypt 331 = .ok (.getfield 34, 3) := by decide +kernel
theorem dX11_decrypt_334 : decode cX11_decrypt 334 = .ok (.iconst 0, 1) := by decide +kernel
theorem dX11_decrypt_335 : decode cX11_decrypt 335 = .ok (.aload_n 0, 1) := by decide +kernel
theorem dX11_decrypt_336 : decode cX11_decrypt 336 = .ok (.getfield 34, 3) := by decide +kernel
theorem dX11_decrypt_339 : decode cX11_decrypt 339 = .ok (.getfield 113, 3) := by decide +kernel
theorem dX11_decrypt_342 : decode cX11_decrypt 342 = .ok (.invokevirtual 176, 3) := by decide +kernel
theorem dX11_decrypt_345 : decode cX11_decrypt 345 = .ok (.pop, 1) := by decide +kernel
theorem dX11_decrypt_346 : decode cX11_decrypt 346 = .ok (.iload 6, 2) := by decide +kernel
theorem dX11_decrypt_348 : decode cX11_decrypt 348 = .ok (.ireturn, 1) := by decide +kernel
theorem dX11_decrypt_349 : decode cX11_decrypt 349 = .ok (.iinc 6 1, 3) := by decide +kernel
theorem dX11_decrypt_352 : decode cX11_decrypt 352 = .ok (.goto (-157), 3) := by decide +kernel
theorem dX11_decrypt_355 : decode cX11_decrypt 355 = .ok (.iload 5, 2) := by decide +kernel
theorem dX11_decrypt_357 : decode cX11_decrypt 357 = .ok (.ifCond .eq 8, 3) := by decide +kernel
theorem dX11_decrypt_360 : decode cX11_decrypt 360 = .ok (.bipush (-27), 2) := by decide +kernel
theorem dX11_decrypt_362 : decode cX11_decrypt 362 = .ok (.goto 5, 3) := by decide +kernel
theorem dX11_decrypt_365 : decode cX11_decrypt 365 = .ok (.bipush (-26), 2) := by decide +kernel
theorem dX11_decrypt_367 : decode cX11_decrypt 367 = .ok (.ireturn, 1) := by decide +kernel
abbrev rmX11_decrypt : Room := { frames := 9, cells := 0, slots := 0, locals := 215 }
set_option maxHeartbeats 4000000 in
set_option maxRecDepth 100000 in
theorem wB_X11_decrypt_195 {G : mG} {F : Nat} {x : mXT} {sz : Nat} {r0 : Int32} {M0 : mM} (X : mCX G RX11 cX11_decrypt 7 (some .int) "decrypt" rmX11_decrypt x) (hQ : mQI x r0 M0 (sz, 0, 0)) : ∀ (n : Nat) (l0 : Nat) (l4 : Int32) (l5 : Int32) (l6 : Int32) (M : mM), B_X11_decrypt_195 G F n l0 l4 l5 l6 M = some (r0, M0) → WW x (sz, 0, 0) M 195 [(0, .ref l0), (4, .int l4), (5, .int l5), (6, .int l6)] [] := by
  intro n
  induction n with
  | zero =>
    intro l0 l4 l5 l6 M h
    exact nomatch (show (none : Option (Int32 × mM)) = some (r0, M0) from h)
  | succ n ih =>
    intro l0 l4 l5 l6 M h
    rw [B_X11_decrypt_195] at h
    refine ww_iload 195 X dX11_decrypt_195 3 rfl ?_
    refine ww_bipush 197 X (v := (16 : Int32)) dX11_decrypt_197 (by decide) ?_
    refine ww_icmp_ge 199 355 X dX11_decrypt_199 (by decide) (fun q => ?_) (fun q => ?_)
    · replace h := (if_pos q).symm.trans h
      refine ww_iload 355 X dX11_decrypt_355 2 rfl ?_
      refine ww_if_eq 357 365 X dX11_decrypt_357 (by decide) (fun q => ?_) (fun q => ?_)
      · replace h := (if_pos q).symm.trans h
        refine ww_bipush 365 X (v := (-26 : Int32)) dX11_decrypt_365 (by decide) ?_
        exact ww_iretE 367 X hQ dX11_decrypt_367 h
      · replace h := (if_neg q).symm.trans h
        refine ww_bipush 360 X (v := (-27 : Int32)) dX11_decrypt_360 (by decide) ?_
        refine ww_goto 362 367 X dX11_decrypt_362 (by decide) ?_
        exact ww_iretE 367 X hQ dX11_decrypt_367 h
    · replace h := (if_neg q).symm.trans h
      refine ww_aload_n 202 X dX11_decrypt_202 0 rfl rfl ?_
      obtain ⟨v203, e203, h⟩ := bO_some h
      refine ww_getR 203 X dX11_decrypt_203 fG_X11_58 e203 ?_
      refine ww_iload 206 X dX11_decrypt_206 3 rfl ?_
      obtain ⟨v208, e208, h⟩ := bO_some h
      refine ww_aald5 208 X dX11_decrypt_208 e208 ?_
      obtain ⟨v209, e209, h⟩ := bO_some h
      refine ww_getI 209 X dX11_decrypt_209 fG_X11_308 e209 ?_
      refine ww_if_eq 212 349 X dX11_decrypt_212 (by decide) (fun q => ?_) (fun q => ?_)
      · replace h := (if_pos q).symm.trans h
        refine ww_iinc 349 X dX11_decrypt_349 (lv' := [(0, .ref l0), (4, .int l4), (5, .int l5), (6, .int (l6 + 1))]) 3 rfl rfl (by decide) [1, 2, 3, 0] rfl ?_
        refine ww_goto 352 195 X dX11_decrypt_352 (by decide) ?_
        exact (ih _ _ _ _ _ h)
      · replace h := (if_neg q).symm.trans h
        refine ww_aload_n 215 X dX11_decrypt_215 0 rfl rfl ?_
        obtain ⟨v216, e216, h⟩ := bO_some h
        refine ww_getR 216 X dX11_decrypt_216 fG_X11_109 e216 ?_
        refine ww_aload_n 219 X dX11_decrypt_219 0 rfl rfl ?_
        obtain ⟨v220, e220, h⟩ := bO_some h
        refine ww_getR 220 X dX11_decrypt_220 fG_X11_44 e220 ?_
        refine ww_aload_n 223 X dX11_decrypt_223 0 rfl rfl ?_
        obtain ⟨v224, e224, h⟩ := bO_some h
        refine ww_getR 224 X dX11_decrypt_224 fG_X11_58 e224 ?_
        refine ww_iload 227 X dX11_decrypt_227 3 rfl ?_
        obtain ⟨v229, e229, h⟩ := bO_some h
        refine ww_aald5 229 X dX11_decrypt_229 e229 ?_
        obtain ⟨_, f230, h⟩ := bO_some h
        obtain ⟨v230, M230, e230, h⟩ := bP_some h
        refine ww_callVI0 230 X dX11_decrypt_230 mY_X10_kidSuits mL_X11_388 (rcv_spec f230) ⟨_, _, rfl⟩ (by decide) (As := [.ref v220, .ref v229]) (rest := []) rfl rfl ⟨Nat.le_of_ble_eq_true rfl, Nat.le_of_ble_eq_true rfl⟩ (Nat.le_of_ble_eq_true rfl) (fun l D A => c_X10_kidSuits l D A e230) ?_
        refine ww_if_eq 233 349 X dX11_decrypt_233 (by decide) (fun q => ?_) (fun q => ?_)
        · replace h := (if_pos q).symm.trans h
          refine ww_iinc 349 X dX11_decrypt_349 (lv' := [(0, .ref l0), (4, .int l4), (5, .int l5), (6, .int (l6 + 1))]) 3 rfl rfl (by decide) [1, 2, 3, 0] rfl ?_
          refine ww_goto 352 195 X dX11_decrypt_352 (by decide) ?_
          exact (ih _ _ _ _ _ h)
        · replace h := (if_neg q).symm.trans h
          refine ww_aload_n 236 X dX11_decrypt_236 0 rfl rfl ?_
          obtain ⟨v237, e237, h⟩ := bO_some h
          refine ww_getR 237 X dX11_decrypt_237 fG_X11_58 e237 ?_
          refine ww_iload 240 X dX11_decrypt_240 3 rfl ?_
          obtain ⟨v242, e242, h⟩ := bO_some h
          refine ww_aald5 242 X dX11_decrypt_242 e242 ?_
          refine ww_aload_n 243 X dX11_decrypt_243 0 rfl rfl ?_
          obtain ⟨v244, e244, h⟩ := bO_some h
          refine ww_getR 244 X dX11_decrypt_244 fG_X11_109 e244 ?_
          obtain ⟨v247, e247, h⟩ := bO_some h
          refine ww_getI 247 X dX11_decrypt_247 fG_X11_351 e247 ?_
          refine ww_aload_n 250 X dX11_decrypt_250 0 rfl rfl ?_
          obtain ⟨v251, e251, h⟩ := bO_some h
          refine ww_getR 251 X dX11_decrypt_251 fG_X11_109 e251 ?_
          obtain ⟨v254, e254, h⟩ := bO_some h
          refine ww_getI 254 X dX11_decrypt_254 fG_X11_444 e254 ?_
          refine ww_iconst 257 X (v := (1 : Int32)) dX11_decrypt_257 (by decide) ?_
          obtain ⟨_, f258, h⟩ := bO_some h
          obtain ⟨v258, M258, e258, h⟩ := bP_some h
          refine ww_callVI0 258 X dX11_decrypt_258 mY_X5_maySeal mL_X11_398 (rcv_spec f258) ⟨_, _, rfl⟩ (by decide) (As := [.int v247, .int v254, .int (1 : Int32)]) (rest := []) rfl rfl ⟨Nat.le_of_ble_eq_true rfl, Nat.le_of_ble_eq_true rfl⟩ (Nat.le_of_ble_eq_true rfl) (fun l D A => c_X5_maySeal l D A e258) ?_
          refine ww_if_eq 261 349 X dX11_decrypt_261 (by decide) (fun q => ?_) (fun q => ?_)
          · replace h := (if_pos q).symm.trans h
            refine ww_iinc 349 X dX11_decrypt_349 (lv' := [(0, .ref l0), (4, .int l4), (5, .int l5), (6, .int (l6 + 1))]) 3 rfl rfl (by decide) [1, 2, 3, 0] rfl ?_
            refine ww_goto 352 195 X dX11_decrypt_352 (by decide) ?_
            exact (ih _ _ _ _ _ h)
          · replace h := (if_neg q).symm.trans h
            refine ww_iconst 264 X (v := (1 : Int32)) dX11_decrypt_264 (by decide) ?_
            refine ww_istore 265 X dX11_decrypt_265 (lv' := [(0, .ref l0), (4, .int l4), (5, .int (1 : Int32)), (6, .int l6)]) (by decide) [1, 2, 0, 3] rfl ?_
            refine ww_iload 267 X dX11_decrypt_267 1 rfl ?_
            refine ww_if_eq 269 349 X dX11_decrypt_269 (by decide) (fun q => ?_) (fun q => ?_)
            · replace h := (if_pos q).symm.trans h
              refine ww_iinc 349 X dX11_decrypt_349 (lv' := [(0, .ref l0), (4, .int l4), (5, .int (1 : Int32)), (6, .int (l6 + 1))]) 3 rfl rfl (by decide) [1, 2, 3, 0] rfl ?_
              refine ww_goto 352 195 X dX11_decrypt_352 (by decide) ?_
              exact (ih _ _ _ _ _ h)
            · replace h := (if_neg q).symm.trans h
              refine ww_aload_n 272 X dX11_decrypt_272 0 rfl rfl ?_
              refine ww_aload_n 273 X dX11_decrypt_273 0 rfl rfl ?_
              obtain ⟨v274, e274, h⟩ := bO_some h
              refine ww_getR 274 X dX11_decrypt_274 fG_X11_58 e274 ?_
              refine ww_iload 277 X dX11_decrypt_277 3 rfl ?_
              obtain ⟨v279, e279, h⟩ := bO_some h
              refine ww_aald5 279 X dX11_decrypt_279 e279 ?_
              obtain ⟨_, f280, h⟩ := bO_some h
              obtain ⟨v280, M280, e280, h⟩ := bP_some h
              refine ww_callVI0 280 X dX11_decrypt_280 mY_X11_contentKeyComes mL_X11_447 (rcv_spec f280) ⟨_, _, rfl⟩ (by decide) (As := [.ref v279]) (rest := []) rfl rfl ⟨Nat.le_of_ble_eq_true rfl, Nat.le_of_ble_eq_true rfl⟩ (Nat.le_of_ble_eq_true rfl) (fun l D A => c_X11_contentKeyComes l D A e280) ?_
              refine ww_if_eq 283 349 X dX11_decrypt_283 (by decide) (fun q => ?_) (fun q => ?_)
              · replace h := (if_pos q).symm.trans h
                refine ww_iinc 349 X dX11_decrypt_349 (lv' := [(0, .ref l0), (4, .int l4), (5, .int (1 : Int32)), (6, .int (l6 + 1))]) 3 rfl rfl (by decide) [1, 2, 3, 0] rfl ?_
                refine ww_goto 352 195 X dX11_decrypt_352 (by decide) ?_
                exact (ih _ _ _ _ _ h)
              · replace h := (if_neg q).symm.trans h
                refine ww_aload_n 286 X dX11_decrypt_286 0 rfl rfl ?_
                obtain ⟨v287, e287, h⟩ := bO_some h
                refine ww_getR 287 X dX11_decrypt_287 fG_X11_86 e287 ?_
                refine ww_aload_n 290 X dX11_decrypt_290 0 rfl rfl ?_
                obtain ⟨v291, e291, h⟩ := bO_some h
                refine ww_getR 291 X dX11_decrypt_291 fG_X11_109 e291 ?_
                obtain ⟨v294, e294, h⟩ := bO_some h
                refine ww_getI 294 X dX11_decrypt_294 fG_X11_444 e294 ?_
                refine ww_aload_n 297 X dX11_decrypt_297 0 rfl rfl ?_
                obtain ⟨v298, e298, h⟩ := bO_some h
                refine ww_getR 298 X dX11_decrypt_298 fG_X11_109 e298 ?_
                obtain ⟨v301, e301, h⟩ := bO_some h
                refine ww_getR 301 X dX11_decrypt_301 fG_X11_425 e301 ?_
                refine ww_aload_n 304 X dX11_decrypt_304 0 rfl rfl ?_
                obtain ⟨v305, e305, h⟩ := bO_some h
                refine ww_getR 305 X dX11_decrypt_305 fG_X11_109 e305 ?_
                obtain ⟨v308, e308, h⟩ := bO_some h
                refine ww_getR 308 X dX11_decrypt_308 fG_X11_428 e308 ?_
                refine ww_aload_n 311 X dX11_decrypt_311 0 rfl rfl ?_
                obtain ⟨v312, e312, h⟩ := bO_some h
                refine ww_getR 312 X dX11_decrypt_312 fG_X11_28 e312 ?_
                refine ww_aload_n 315 X dX11_decrypt_315 0 rfl rfl ?_
                obtain ⟨v316, e316, h⟩ := bO_some h
                refine ww_getR 316 X dX11_decrypt_316 fG_X11_31 e316 ?_
                refine ww_aload_n 319 X dX11_decrypt_319 0 rfl rfl ?_
                obtain ⟨v320, e320, h⟩ := bO_some h
                refine ww_getR 320 X dX11_decrypt_320 fG_X11_34 e320 ?_
                obtain ⟨_, f323, h⟩ := bO_some h
                obtain ⟨v323, M323, e323, h⟩ := bP_some h
                refine ww_callVI0 323 X dX11_decrypt_323 mY_X2_unlock mL_X11_265 (rcv_spec f323) ⟨_, _, rfl⟩ (by decide) (As := [.int v294, .ref v301, .ref v308, .ref v312, .ref v316, .ref v320]) (rest := []) rfl rfl ⟨Nat.le_of_ble_eq_true rfl, Nat.le_of_ble_eq_true rfl⟩ (Nat.le_of_ble_eq_true rfl) (fun l D A => c_X2_unlock l D A e323) ?_
                refine ww_if_eq 326 349 X dX11_decrypt_326 (by decide) (fun q => ?_) (fun q => ?_)
                · replace h := (if_pos q).symm.trans h
                  refine ww_iinc 349 X dX11_decrypt_349 (lv' := [(0, .ref l0), (4, .int l4), (5, .int (1 : Int32)), (6, .int (l6 + 1))]) 3 rfl rfl (by decide) [1, 2, 3, 0] rfl ?_
                  refine ww_goto 352 195 X dX11_decrypt_352 (by decide) ?_
                  exact (ih _ _ _ _ _ h)
                · replace h := (if_neg q).symm.trans h
                  refine ww_aload_n 329 X dX11_decrypt_329 0 rfl rfl ?_
                  refine ww_aload_n 330 X dX11_decrypt_330 0 rfl rfl ?_
                  obtain ⟨v331, e331, h⟩ := bO_some h
                  refine ww_getR 331 X dX11_decrypt_331 fG_X11_34 e331 ?_
                  refine ww_iconst 334 X (v := (0 : Int32)) dX11_decrypt_334 (by decide) ?_
                  refine ww_aload_n 335 X dX11_decrypt_335 0 rfl rfl ?_
                  obtain ⟨v336, e336, h⟩ := bO_some h
                  refine ww_getR 336 X dX11_decrypt_336 fG_X11_34 e336 ?_
                  obtain ⟨v339, e339, h⟩ := bO_some h
                  refine ww_getI 339 X dX11_decrypt_339 fG_X11_113 e339 ?_
                  obtain ⟨_, f342, h⟩ := bO_some h
                  obtain ⟨v342, M342, e342, h⟩ := bP_some h
                  refine ww_callVI0 342 X dX11_decrypt_342 mY_X11_show mL_X11_176 (rcv_spec f342) ⟨_, _, rfl⟩ (by decide) (As := [.ref v331, .int (0 : Int32), .int v339]) (rest := []) rfl rfl ⟨Nat.le_of_ble_eq_true rfl, Nat.le_of_ble_eq_true rfl⟩ (Nat.le_of_ble_eq_true rfl) (fun l D A => c_X11_show l D A e342) ?_
                  refine ww_pop 345 X dX11_decrypt_345 rfl ?_
                  refine ww_iload 346 X dX11_decrypt_346 3 rfl ?_
                  exact ww_iretE 348 X hQ dX11_decrypt_348 h
set_option maxHeartbeats 4000000 in
set_option maxRecDepth 100000 in
theorem wB_X11_decrypt_151 {G : mG} {F : Nat} {x : mXT} {sz : Nat} {r0 : Int32} {M0 : mM} (X : mCX G RX11 cX11_decrypt 7 (some .int) "decrypt" rmX11_decrypt x) (hQ : mQI x r0 M0 (sz, 0, 0)) {l0 : Nat} {l2 : Nat} {M : mM} (h : B_X11_decrypt_151 G F l0 l2 M = some (r0, M0)) : WW x (sz, 0, 0) M 151 [(0, .ref l0), (2, .ref l2)] [] := by
  unfold B_X11_decrypt_151 at h
  refine ww_aload_n 151 X dX11_decrypt_151 0 rfl rfl ?_
  obtain ⟨v152, e152, h⟩ := bO_some h
  refine ww_getR 152 X dX11_decrypt_152 fG_X11_28 e152 ?_
  obtain ⟨_, f155, h⟩ := bO_some h
  obtain ⟨M155, e155, h⟩ := bO_some h
  refine ww_callVV0 155 X dX11_decrypt_155 mY_X0_clear mL_X11_131 (rcv_spec f155) ⟨_, _, rfl⟩ (by decide) (As := []) (rest := []) rfl rfl ⟨Nat.le_of_ble_eq_true rfl, Nat.le_of_ble_eq_true rfl⟩ (Nat.le_of_ble_eq_true rfl) (fun l D A => c_X0_clear l D A e155) ?_
  refine ww_aload_n 158 X dX11_decrypt_158 0 rfl rfl ?_
  obtain ⟨v159, e159, h⟩ := bO_some h
  refine ww_getR 159 X dX11_decrypt_159 fG_X11_28 e159 ?_
  refine ww_aload_n 162 X dX11_decrypt_162 1 rfl rfl ?_
  refine ww_iconst 163 X (v := (0 : Int32)) dX11_decrypt_163 (by decide) ?_
  refine ww_aload_n 164 X dX11_decrypt_164 0 rfl rfl ?_
  obtain ⟨v165, e165, h⟩ := bO_some h
  refine ww_getR 165 X dX11_decrypt_165 fG_X11_109 e165 ?_
  refine ww_iconst 168 X (v := (0 : Int32)) dX11_decrypt_168 (by decide) ?_
  obtain ⟨_, f169, h⟩ := bO_some h
  obtain ⟨v169, M169, e169, h⟩ := bP_some h
  refine ww_callVI0 169 X dX11_decrypt_169 mY_X10_partEnd mL_X11_382 (rcv_spec f169) ⟨_, _, rfl⟩ (by decide) (As := [.int (0 : Int32)]) (rest := [.int (0 : Int32), .ref l2, .ref v159]) rfl rfl ⟨Nat.le_of_ble_eq_true rfl, Nat.le_of_ble_eq_true rfl⟩ (Nat.le_of_ble_eq_true rfl) (fun l D A => c_X10_partEnd l D A e169) ?_
  obtain ⟨_, f172, h⟩ := bO_some h
  obtain ⟨M172, e172, h⟩ := bO_some h
  refine ww_callVV0 172 X dX11_decrypt_172 mY_X0_putPart mL_X11_385 (rcv_spec f172) ⟨_, _, rfl⟩ (by decide) (As := [.ref l2, .int (0 : Int32), .int v169]) (rest := []) rfl rfl ⟨Nat.le_of_ble_eq_true rfl, Nat.le_of_ble_eq_true rfl⟩ (Nat.le_of_ble_eq_true rfl) (fun l D A => c_X0_putPart l D A e172) ?_
  refine ww_aload_n 175 X dX11_decrypt_175 0 rfl rfl ?_
  obtain ⟨v176, e176, h⟩ := bO_some h
  refine ww_getR 176 X dX11_decrypt_176 fG_X11_109 e176 ?_
  refine ww_aload_n 179 X dX11_decrypt_179 1 rfl rfl ?_
  refine ww_aload_n 180 X dX11_decrypt_180 0 rfl rfl ?_
  obtain ⟨v181, e181, h⟩ := bO_some h
  refine ww_getR 181 X dX11_decrypt_181 fG_X11_31 e181 ?_
  obtain ⟨_, f184, h⟩ := bO_some h
  obtain ⟨v184, M184, e184, h⟩ := bP_some h
  refine ww_callVI0 184 X dX11_decrypt_184 mY_X10_readSealedParts mL_X11_440 (rcv_spec f184) ⟨_, _, rfl⟩ (by decide) (As := [.ref l2, .ref v181]) (rest := []) rfl rfl ⟨Nat.le_of_ble_eq_true rfl, Nat.le_of_ble_eq_true rfl⟩ (Nat.le_of_ble_eq_true rfl) (fun l D A => c_X10_readSealedParts l D A e184) ?_
  refine ww_istore 187 X dX11_decrypt_187 (lv' := [(0, .ref l0), (2, .ref l2), (4, .int v184)]) (by decide) [1, 2, 0] rfl ?_
  refine ww_iconst 189 X (v := (0 : Int32)) dX11_decrypt_189 (by decide) ?_
  refine ww_istore 190 X dX11_decrypt_190 (lv' := [(0, .ref l0), (2, .ref l2), (4, .int v184), (5, .int (0 : Int32))]) (by decide) [1, 2, 3, 0] rfl ?_
  refine ww_iconst 192 X (v := (0 : Int32)) dX11_decrypt_192 (by decide) ?_
  refine ww_istore 193 X dX11_decrypt_193 (lv' := [(0, .ref l0), (2, .ref l2), (4, .int v184), (5, .int (0 : Int32)), (6, .int (0 : Int32))]) (by decide) [1, 2, 3, 4, 0] rfl ?_
  exact ww_sub [0, 2, 3, 4] rfl (wB_X11_decrypt_195 X hQ F _ _ _ _ _ h)
set_option maxHeartbeats 4000000 in
set_option maxRecDepth 100000 in
theorem wB_X11_decrypt_35 {G : mG} {F : Nat} {x : mXT} {sz : Nat} {r0 : Int32} {M0 : mM} (X : mCX G RX11 cX11_decrypt 7 (some .int) "decrypt" rmX11_decrypt x) (hQ : mQI x r0 M0 (sz, 0, 0)) : ∀ (n : Nat) (l0 : Nat) (l2 : Nat) (l3 : Int32) (M : mM), B_X11_decrypt_35 G F n l0 l2 l3 M = some (r0, M0) → WW x (sz, 0, 0) M 35 [(0, .ref l0), (2, .ref l2), (3, .int l3)] [] := by
  intro n
  induction n with
  | zero =>
    intro l0 l2 l3 M h
    exact nomatch (show (none : Option (Int32 × mM)) = some (r0, M0) from h)
  | succ n ih =>
    intro l0 l2 l3 M h
    rw [B_X11_decrypt_35] at h
    refine ww_iload_n 35 X dX11_decrypt_35 2 rfl rfl ?_
    refine ww_iconst 36 X (v := (5 : Int32)) dX11_decrypt_36 (by decide) ?_
    refine ww_icmp_ge 37 61 X dX11_decrypt_37 (by decide) (fun q => ?_) (fun q => ?_)
    · replace h := (if_pos q).symm.trans h
      refine ww_aload_n 61 X dX11_decrypt_61 0 rfl rfl ?_
      obtain ⟨v62, e62, h⟩ := bO_some h
      refine ww_getR 62 X dX11_decrypt_62 fG_X11_109 e62 ?_
      refine ww_aload_n 65 X dX11_decrypt_65 1 rfl rfl ?_
      refine ww_iconst 66 X (v := (0 : Int32)) dX11_decrypt_66 (by decide) ?_
      refine ww_aload_n 67 X dX11_decrypt_67 0 rfl rfl ?_
      obtain ⟨v68, e68, h⟩ := bO_some h
      refine ww_getR 68 X dX11_decrypt_68 fG_X11_109 e68 ?_
      obtain ⟨v71, e71, h⟩ := bO_some h
      refine ww_getR 71 X dX11_decrypt_71 fG_X11_352 e71 ?_
      obtain ⟨_, f74, h⟩ := bO_some h
      obtain ⟨M74, e74, h⟩ := bO_some h
      refine ww_callVV0 74 X dX11_decrypt_74 mY_X10_readPart mL_X11_378 (rcv_spec f74) ⟨_, _, rfl⟩ (by decide) (As := [.ref l2, .int (0 : Int32), .ref v71]) (rest := []) rfl rfl ⟨Nat.le_of_ble_eq_true rfl, Nat.le_of_ble_eq_true rfl⟩ (Nat.le_of_ble_eq_true rfl) (fun l D A => c_X10_readPart l D A e74) ?_
      refine ww_aload_n 77 X dX11_decrypt_77 0 rfl rfl ?_
      obtain ⟨v78, e78, h⟩ := bO_some h
      refine ww_getR 78 X dX11_decrypt_78 fG_X11_52 e78 ?_
      refine ww_aload_n 81 X dX11_decrypt_81 0 rfl rfl ?_
      obtain ⟨v82, e82, h⟩ := bO_some h
      refine ww_getR 82 X dX11_decrypt_82 fG_X11_109 e82 ?_
      obtain ⟨v85, e85, h⟩ := bO_some h
      refine ww_getR 85 X dX11_decrypt_85 fG_X11_352 e85 ?_
      refine ww_aload_n 88 X dX11_decrypt_88 0 rfl rfl ?_
      obtain ⟨v89, e89, h⟩ := bO_some h
      refine ww_getR 89 X dX11_decrypt_89 fG_X11_44 e89 ?_
      obtain ⟨_, f92, h⟩ := bO_some h
      obtain ⟨v92, M92, e92, h⟩ := bP_some h
      refine ww_callVI0 92 X dX11_decrypt_92 mY_X7_read mL_X11_142 (rcv_spec f92) ⟨_, _, rfl⟩ (by decide) (As := [.ref v85, .ref v89]) (rest := []) rfl rfl ⟨Nat.le_of_ble_eq_true rfl, Nat.le_of_ble_eq_true rfl⟩ (Nat.le_of_ble_eq_true rfl) (fun l D A => c_X7_read l D A e92) ?_
      refine ww_iconst 95 X (v := (-1 : Int32)) dX11_decrypt_95 (by decide) ?_
      refine ww_icmp_eq 96 102 X dX11_decrypt_96 (by decide) (fun q => ?_) (fun q => ?_)
      · replace h := (if_pos q).symm.trans h
        refine ww_aload_n 102 X dX11_decrypt_102 0 rfl rfl ?_
        obtain ⟨v103, e103, h⟩ := bO_some h
        refine ww_getR 103 X dX11_decrypt_103 fG_X11_109 e103 ?_
        refine ww_aload_n 106 X dX11_decrypt_106 0 rfl rfl ?_
        obtain ⟨v107, e107, h⟩ := bO_some h
        refine ww_getR 107 X dX11_decrypt_107 fG_X11_44 e107 ?_
        obtain ⟨_, f110, h⟩ := bO_some h
        obtain ⟨v110, M110, e110, h⟩ := bP_some h
        refine ww_callVI0 110 X dX11_decrypt_110 mY_X10_sealedHeadReason mL_X11_437 (rcv_spec f110) ⟨_, _, rfl⟩ (by decide) (As := [.ref v107]) (rest := []) rfl rfl ⟨Nat.le_of_ble_eq_true rfl, Nat.le_of_ble_eq_true rfl⟩ (Nat.le_of_ble_eq_true rfl) (fun l D A => c_X10_sealedHeadReason l D A e110) ?_
        refine ww_istore_n 113 X dX11_decrypt_113 (lv' := [(0, .ref l0), (2, .ref l2), (3, .int v110)]) rfl (by decide) [1, 2, 0] rfl ?_
        refine ww_iload_n 114 X dX11_decrypt_114 2 rfl rfl ?_
        refine ww_if_eq 115 120 X dX11_decrypt_115 (by decide) (fun q => ?_) (fun q => ?_)
        · replace h := (if_pos q).symm.trans h
          refine ww_aload_n 120 X dX11_decrypt_120 0 rfl rfl ?_
          obtain ⟨v121, e121, h⟩ := bO_some h
          refine ww_getR 121 X dX11_decrypt_121 fG_X11_109 e121 ?_
          obtain ⟨v124, e124, h⟩ := bO_some h
          refine ww_getI 124 X dX11_decrypt_124 fG_X11_351 e124 ?_
          refine ww_iconst 127 X (v := (4 : Int32)) dX11_decrypt_127 (by decide) ?_
          refine ww_icmp_lt 128 151 X dX11_decrypt_128 (by decide) (fun q => ?_) (fun q => ?_)
          · replace h := (if_pos q).symm.trans h
            exact ww_sub [0, 1] rfl (wB_X11_decrypt_151 X hQ h)
          · replace h := (if_neg q).symm.trans h
            refine ww_aload_n 131 X dX11_decrypt_131 0 rfl rfl ?_
            obtain ⟨v132, e132, h⟩ := bO_some h
            refine ww_getR 132 X dX11_decrypt_132 fG_X11_102 e132 ?_
            refine ww_aload_n 135 X dX11_decrypt_135 0 rfl rfl ?_
            obtain ⟨v136, e136, h⟩ := bO_some h
            refine ww_getR 136 X dX11_decrypt_136 fG_X11_109 e136 ?_
            obtain ⟨v139, e139, h⟩ := bO_some h
            refine ww_getR 139 X dX11_decrypt_139 fG_X11_412 e139 ?_
            obtain ⟨_, f142, h⟩ := bO_some h
            obtain ⟨v142, M142, e142, h⟩ := bP_some h
            refine ww_callVI0 142 X dX11_decrypt_142 mY_X3_load mL_X11_279 (rcv_spec f142) ⟨_, _, rfl⟩ (by decide) (As := [.ref v139]) (rest := []) rfl rfl ⟨Nat.le_of_ble_eq_true rfl, Nat.le_of_ble_eq_true rfl⟩ (Nat.le_of_ble_eq_true rfl) (fun l D A => c_X3_load l D A e142) ?_
            refine ww_if_ne 145 151 X dX11_decrypt_145 (by decide) (fun q => ?_) (fun q => ?_)
            · replace h := (if_neg q).symm.trans h
              exact ww_sub [0, 1] rfl (wB_X11_decrypt_151 X hQ h)
            · replace h := (if_pos q).symm.trans h
              refine ww_bipush 148 X (v := (-23 : Int32)) dX11_decrypt_148 (by decide) ?_
              exact ww_iretE 150 X hQ dX11_decrypt_150 h
        · replace h := (if_neg q).symm.trans h
          refine ww_iload_n 118 X dX11_decrypt_118 2 rfl rfl ?_
          exact ww_iretE 119 X hQ dX11_decrypt_119 h
      · replace h := (if_neg q).symm.trans h
        refine ww_bipush 99 X (v := (-22 : Int32)) dX11_decrypt_99 (by decide) ?_
        exact ww_iretE 101 X hQ dX11_decrypt_101 h
    · replace h := (if_neg q).symm.trans h
      refine ww_aload_n 40 X dX11_decrypt_40 0 rfl rfl ?_
      obtain ⟨v41, e41, h⟩ := bO_some h
      refine ww_getR 41 X dX11_decrypt_41 fG_X11_109 e41 ?_
      refine ww_aload_n 44 X dX11_decrypt_44 1 rfl rfl ?_
      refine ww_iload_n 45 X dX11_decrypt_45 2 rfl rfl ?_
      obtain ⟨_, f46, h⟩ := bO_some h
      obtain ⟨v46, M46, e46, h⟩ := bP_some h
      refine ww_callVI0 46 X dX11_decrypt_46 mY_X10_isFaulty mL_X11_375 (rcv_spec f46) ⟨_, _, rfl⟩ (by decide) (As := [.ref l2, .int l3]) (rest := []) rfl rfl ⟨Nat.le_of_ble_eq_true rfl, Nat.le_of_ble_eq_true rfl⟩ (Nat.le_of_ble_eq_true rfl) (fun l D A => c_X10_isFaulty l D A e46) ?_
      refine ww_if_eq 49 55 X dX11_decrypt_49 (by decide) (fun q => ?_) (fun q => ?_)
      · replace h := (if_pos q).symm.trans h
        refine ww_iinc 55 X dX11_decrypt_55 (lv' := [(0, .ref l0), (2, .ref l2), (3, .int (l3 + 1))]) 2 rfl rfl (by decide) [1, 2, 0] rfl ?_
        refine ww_goto 58 35 X dX11_decrypt_58 (by decide) ?_
        exact (ih _ _ _ _ h)
      · replace h := (if_neg q).symm.trans h
        refine ww_bipush 52 X (v := (-21 : Int32)) dX11_decrypt_52 (by decide) ?_
        exact ww_iretE 54 X hQ dX11_decrypt_54 h
set_option maxHeartbeats 4000000 in
set_option maxRecDepth 100000 in
theorem wP_X11_decrypt {G : mG} {F : Nat} {x : mXT} {sz : Nat} {r0 : Int32} {M0 : mM} (X : mCX G RX11 cX11_decrypt 7 (some .int) "decrypt" rmX11_decrypt x) (hQ : mQI x r0 M0 (sz, 0, 0)) {l0 : Nat} {l1 : Int32} {M : mM} (h : P_X11_decrypt G F l0 l1 M = some (r0, M0)) : WW x (sz, 0, 0) M 0 [(0, .ref l0), (1, .int l1)] [] := by
  unfold P_X11_decrypt at h
  refine ww_aload_n 0 X dX11_decrypt_0 0 rfl rfl ?_
  refine ww_iload_n 1 X dX11_decrypt_1 1 rfl rfl ?_
  obtain ⟨_, f2, h⟩ := bO_some h
  obtain ⟨v2, M2, e2, h⟩ := bP_some h
  refine ww_callVI0 2 X dX11_decrypt_2 mY_X11_isRow mL_X11_123 (rcv_spec f2) ⟨_, _, rfl⟩ (by decide) (As := [.int l1]) (rest := []) rfl rfl ⟨Nat.le_of_ble_eq_true rfl, Nat.le_of_ble_eq_true rfl⟩ (Nat.le_of_ble_eq_true rfl) (fun l D A => c_X11_isRow l D A e2) ?_
  refine ww_if_ne 5 11 X dX11_decrypt_5 (by decide) (fun q => ?_) (fun q => ?_)
  · replace h := (if_neg q).symm.trans h
    refine ww_aload_n 11 X dX11_decrypt_11 0 rfl rfl ?_
    obtain ⟨v12, e12, h⟩ := bO_some h
    refine ww_getR 12 X dX11_decrypt_12 fG_X11_11 e12 ?_
    refine ww_iload_n 15 X dX11_decrypt_15 1 rfl rfl ?_
    obtain ⟨v16, e16, h⟩ := bO_some h
    refine ww_aald4 16 X dX11_decrypt_16 e16 ?_
    refine ww_astore_n 17 X dX11_decrypt_17 (lv' := [(0, .ref l0), (1, .int l1), (2, .ref v16)]) rfl (by decide) [1, 2, 0] rfl ?_
    refine ww_aload_n 18 X dX11_decrypt_18 0 rfl rfl ?_
    obtain ⟨v19, e19, h⟩ := bO_some h
    refine ww_getR 19 X dX11_decrypt_19 fG_X11_109 e19 ?_
    refine ww_aload_n 22 X dX11_decrypt_22 2 rfl rfl ?_
    refine ww_iconst 23 X (v := (5 : Int32)) dX11_decrypt_23 (by decide) ?_
    obtain ⟨_, f24, h⟩ := bO_some h
    obtain ⟨v24, M24, e24, h⟩ := bP_some h
    refine ww_callVI0 24 X dX11_decrypt_24 mY_X10_split mL_X11_371 (rcv_spec f24) ⟨_, _, rfl⟩ (by decide) (As := [.ref v16, .int (5 : Int32)]) (rest := []) rfl rfl ⟨Nat.le_of_ble_eq_true rfl, Nat.le_of_ble_eq_true rfl⟩ (Nat.le_of_ble_eq_true rfl) (fun l D A => c_X10_split l D A e24) ?_
    refine ww_if_ne 27 33 X dX11_decrypt_27 (by decide) (fun q => ?_) (fun q => ?_)
    · replace h := (if_neg q).symm.trans h
      refine ww_iconst 33 X (v := (0 : Int32)) dX11_decrypt_33 (by decide) ?_
      refine ww_istore_n 34 X dX11_decrypt_34 (lv' := [(0, .ref l0), (1, .int l1), (2, .ref v16), (3, .int (0 : Int32))]) rfl (by decide) [1, 2, 3, 0] rfl ?_
      exact ww_sub [0, 2, 3] rfl (wB_X11_decrypt_35 X hQ F _ _ _ _ h)
    · replace h := (if_pos q).symm.trans h
      refine ww_bipush 30 X (v := (-20 : Int32)) dX11_decrypt_30 (by decide) ?_
      exact ww_iretE 32 X hQ dX11_decrypt_32 h
  · replace h := (if_pos q).symm.trans h
    refine ww_bipush 8 X (v := (-2 : Int32)) dX11_decrypt_8 (by decide) ?_
    exact ww_iretE 10 X hQ dX11_decrypt_10 h
theorem c_X11_decrypt {G : mG} {F sz : Nat} {r0 : Int32} {M0 : mM} (l : Launch) (D : mD) (A : Nat → Prop) {l0 : Nat} {l1 : Int32} {M : mM} (h : P_X11_decrypt G F l0 l1 M = some (r0, M0)) : mMetI l D G A yX11_decrypt cX11_decrypt 7 (some .int) 9 215 0 0 [.ref l0, .int l1] M sz r0 M0 sz := mMetI_of l D G A (by decide) (Nat.le_of_ble_eq_true rfl) (fun x X hQ => wP_X11_decrypt X hQ h)
/-! SealedTokensModel$Mod.<init>()V -/
theorem dX12_init_0 : decode cX12_init 0 = .ok (.aload_n 0, 1) := by decide +kernel
theorem dX12_init_1 : decode cX12_init 1 = .ok (.invokespecial 1, 3) := by decide +kernel
theorem dX12_init_4 : decode cX12_init 4 = .ok (.aload_n 0, 1) := by decide +kernel
theorem dX12_init_5 : decode cX12_init 5 = .ok (.bipush 34, 2) := by decide +kernel
theorem dX12_init_7 : decode cX12_init 7 = .ok (.newarray .int, 2) := by decide +kernel
theorem dX12_init_9 : decode cX12_init 9 = .ok (.putfield 7, 3) := by decide +kernel
theorem dX12_init_12 : decode cX12_init 12 = .ok (.aload_n 0, 1) := by decide +kernel
theorem dX12_init_13 : decode cX12_init 13 = .ok (.bipush 34, 2) := by decide +kernel
theorem dX12_init_15 : decode cX12_init 15 = .ok (.newarray .int, 2) := by decide +kernel
theorem dX12_init_17 : decode cX12_init 17 = .ok (.putfield 13, 3) := by decide +kernel
theorem dX12_init_20 : decode cX12_init 20 = .ok (.aload_n 0, 1) := by decide +kernel
theorem dX12_init_21 : decode cX12_init 21 = .ok (.bipush 34, 2) := by decide +kernel
theorem dX12_init_23 : decode cX12_init 23 = .ok (.newarray .int, 2) := by decide +kernel
theorem dX12_init_25 : decode cX12_init 25 = .ok (.putfield 16, 3) := by decide +kernel
theorem dX12_init_28 : decode cX12_init 28 = .ok (.aload_n 0, 1) := by decide +kernel
theorem dX12_init_29 : decode cX12_init 29 = .ok (.bipush 70, 2) := by decide +kernel
theorem dX12_init_31 : decode cX12_init 31 = .ok (.newarray .int, 2) := by decide +kernel
theorem dX12_init_33 : decode cX12_init 33 = .ok (.putfield 19, 3) := by decide +kernel
theorem dX12_init_36 : decode cX12_init 36 = .ok (.aload_n 0, 1) := by decide +kernel
theorem dX12_init_37 : decode cX12_init 37 = .ok (.bipush 34, 2) := by decide +kernel
theorem dX12_init_39 : decode cX12_init 39 = .ok (.newarray .int, 2) := by decide +kernel
theorem dX12_init_41 : decode cX12_init 41 = .ok (.putfield 22, 3) := by decide +kernel
theorem dX12_init_44 : decode cX12_init 44 = .ok (.aload_n 0, 1) := by decide +kernel
theorem dX12_init_45 : decode cX12_init 45 = .ok (.bipush 34, 2) := by decide +kernel
theorem dX12_init_47 : decode cX12_init 47 = .ok (.newarray .int, 2) := by decide +kernel
theorem dX12_init_49 : decode cX12_init 49 = .ok (.putfield 25, 3) := by decide +kernel
theorem dX12_init_52 : decode cX12_init 52 = .ok (.aload_n 0, 1) := by decide +kernel
theorem dX12_init_53 : decode cX12_init 53 = .ok (.bipush 34, 2) := by decide +kernel
theorem dX12_init_55 : decode cX12_init 55 = .ok (.newarray .int, 2) := by decide +kernel
theorem dX12_init_57 : decode cX12_init 57 = .ok (.putfield 28, 3) := by decide +kernel
theorem dX12_init_60 : decode cX12_init 60 = .ok (.return_, 1) := by decide +kernel
theorem mP_X12_init {G : mG} {F : Nat} {M0 : mM} {Z0 S0 : Nat} {l0 : Nat} {M : mM} {sz : Nat} {sl : Nat} (h : P_X12_init G F l0 M sz sl = some (M0, Z0, S0)) : sz ≤ Z0 ∧ sl ≤ S0 := by
  unfold P_X12_init at h
  obtain ⟨M7, e7, h⟩ := bO_some h
  obtain ⟨M9, e9, h⟩ := bO_some h
  obtain ⟨M15, e15, h⟩ := bO_some h
  obtain ⟨M17, e17, h⟩ := bO_some h
  obtain ⟨M23, e23, h⟩ := bO_some h
  obtain ⟨M25, e25, h⟩ := bO_some h
  obtain ⟨M31, e31, h⟩ := bO_some h
  obtain ⟨M33, e33, h⟩ := bO_some h
  obtain ⟨M39, e39, h⟩ := bO_some h
  obtain ⟨M41, e41, h⟩ := bO_some h
  obtain ⟨M47, e47, h⟩ := bO_some h
  obtain ⟨M49, e49, h⟩ := bO_some h
  obtain ⟨M55, e55, h⟩ := bO_some h
  obtain ⟨M57, e57, h⟩ := bO_some h
  have q := retA_v h
  omega
set_option maxHeartbeats 4000000 in
set_option maxRecDepth 100000 in
theorem wP_X12_init {G : mG} {F : Nat} {x : mXT} {z0 s0 : Nat} {M0 : mM} {Z0 S0 : Nat} (X : mCX G RX12 cX12_init 1 none "<init>" { frames := 1, cells := Z0 - z0, slots := S0 - s0, locals := 20 } x) (hQ : mQV x M0 (Z0, Z0 - z0, S0 - s0)) {l0 : Nat} {M : mM} {sz : Nat} {sl : Nat} (hz0 : z0 ≤ sz) (hs0 : s0 ≤ sl) (h : P_X12_init G F l0 M sz sl = some (M0, Z0, S0)) : WW x (sz, sz - z0, sl - s0) M 0 [(0, .ref l0)] [] := by
  unfold P_X12_init at h
  obtain ⟨M7, e7, h⟩ := bO_some h
  obtain ⟨M9, e9, h⟩ := bO_some h
  obtain ⟨M15, e15, h⟩ := bO_some h
  obtain ⟨M17, e17, h⟩ := bO_some h
  obtain ⟨M23, e23, h⟩ := bO_some h
  obtain ⟨M25, e25, h⟩ := bO_some h
  obtain ⟨M31, e31, h⟩ := bO_some h
  obtain ⟨M33, e33, h⟩ := bO_some h
  obtain ⟨M39, e39, h⟩ := bO_some h
  obtain ⟨M41, e41, h⟩ := bO_some h
  obtain ⟨M47, e47, h⟩ := bO_some h
  obtain ⟨M49, e49, h⟩ := bO_some h
  obtain ⟨M55, e55, h⟩ := bO_some h
  obtain ⟨M57, e57, h⟩ := bO_some h
  have q := retA_v h
  refine ww_aload_n 0 X dX12_init_0 0 rfl rfl ?_
  refine ww_objI 1 X (st := []) dX12_init_1 oL_X12_1 oI_i oI_c (Nat.le_of_ble_eq_true rfl) (Nat.le_of_ble_eq_true rfl) (Nat.le_of_ble_eq_true rfl) ?_
  refine ww_aload_n 4 X dX12_init_4 0 rfl rfl ?_
  refine ww_bipush 5 X (v := (34 : Int32)) dX12_init_5 (by decide) ?_
  refine ww_newA 7 X (sz := sz) (sl := sl) (z0 := z0) (s0 := s0) dX12_init_7 (k := 0) (by decide) rfl aC_0 e7 (by omega) (by omega) (by show _ ≤ Z0 - z0; omega) (by show _ ≤ S0 - s0; omega) ?_
  refine ww_putR 9 X dX12_init_9 (fP_X12_7 _ (Or.inr rfl)) e9 rfl rfl ?_
  refine ww_aload_n 12 X dX12_init_12 0 rfl rfl ?_
  refine ww_bipush 13 X (v := (34 : Int32)) dX12_init_13 (by decide) ?_
  refine ww_newA 15 X (sz := (sz + 1)) (sl := (sl + ((34 : Int32)).toNatClampNeg)) (z0 := z0) (s0 := s0) dX12_init_15 (k := 0) (by decide) rfl aC_0 e15 (by omega) (by omega) (by show _ ≤ Z0 - z0; omega) (by show _ ≤ S0 - s0; omega) ?_
  refine ww_putR 17 X dX12_init_17 (fP_X12_13 _ (Or.inr rfl)) e17 rfl rfl ?_
  refine ww_aload_n 20 X dX12_init_20 0 rfl rfl ?_
  refine ww_bipush 21 X (v := (34 : Int32)) dX12_init_21 (by decide) ?_
  refine ww_newA 23 X (sz := ((sz + 1) + 1)) (sl := ((sl + ((34 : Int32)).toNatClampNeg) + ((34 : Int32)).toNatClampNeg)) (z0 := z0) (s0 := s0) dX12_init_23 (k := 0) (by decide) rfl aC_0 e23 (by omega) (by omega) (by show _ ≤ Z0 - z0; omega) (by show _ ≤ S0 - s0; omega) ?_
  refine ww_putR 25 X dX12_init_25 (fP_X12_16 _ (Or.inr rfl)) e25 rfl rfl ?_
  refine ww_aload_n 28 X dX12_init_28 0 rfl rfl ?_
  refine ww_bipush 29 X (v := (70 : Int32)) dX12_init_29 (by decide) ?_
  refine ww_newA 31 X (sz := (((sz + 1) + 1) + 1)) (sl := (((sl + ((34 : Int32)).toNatClampNeg) + ((34 : Int32)).toNatClampNeg) + ((34 : Int32)).toNatClampNeg)) (z0 := z0) (s0 := s0) dX12_init_31 (k := 0) (by decide) rfl aC_0 e31 (by omega) (by omega) (by show _ ≤ Z0 - z0; omega) (by show _ ≤ S0 - s0; omega) ?_
  refine ww_putR 33 X dX12_init_33 (fP_X12_19 _ (Or.inr rfl)) e33 rfl rfl ?_
  refine ww_aload_n 36 X dX12_init_36 0 rfl rfl ?_
  refine ww_bipush 37 X (v := (34 : Int32)) dX12_init_37 (by decide) ?_
  refine ww_newA 39 X (sz := ((((sz + 1) + 1) + 1) + 1)) (sl := ((((sl + ((34 : Int32)).toNatClampNeg) + ((34 : Int32)).toNatClampNeg) + ((34 : Int32)).toNatClampNeg) + ((70 : Int32)).toNatClampNeg)) (z0 := z0) (s0 := s0) dX12_init_39 (k := 0) (by decide) rfl aC_0 e39 (by omega) (by omega) (by show _ ≤ Z0 - z0; omega) (by show _ ≤ S0 - s0; omega) ?_
  refine ww_putR 41 X dX12_init_41 (fP_X12_22 _ (Or.inr rfl)) e41 rfl rfl ?_
  refine ww_aload_n 44 X dX12_init_44 0 rfl rfl ?_
  refine ww_bipush 45 X (v := (34 : Int32)) dX12_init_45 (by decide) ?_
  refine ww_newA 47 X (sz := (((((sz + 1) + 1) + 1) + 1) + 1)) (sl := (((((sl + ((34 : Int32)).toNatClampNeg) + ((34 : Int32)).toNatClampNeg) + ((34 : Int32)).toNatClampNeg) + ((70 : Int32)).toNatClampNeg) + ((34 : Int32)).toNatClampNeg)) (z0 := z0) (s0 := s0) dX12_init_47 (k := 0) (by decide) rfl aC_0 e47 (by omega) (by omega) (by show _ ≤ Z0 - z0; omega) (by show _ ≤ S0 - s0; omega) ?_
  refine ww_putR 49 X dX12_init_49 (fP_X12_25 _ (Or.inr rfl)) e49 rfl rfl ?_
  refine ww_aload_n 52 X dX12_init_52 0 rfl rfl ?_
  refine ww_bipush 53 X (v := (34 : Int32)) dX12_init_53 (by decide) ?_
  refine ww_newA 55 X (sz := ((((((sz + 1) + 1) + 1) + 1) + 1) + 1)) (sl := ((((((sl + ((34 : Int32)).toNatClampNeg) + ((34 : Int32)).toNatClampNeg) + ((34 : Int32)).toNatClampNeg) + ((70 : Int32)).toNatClampNeg) + ((34 : Int32)).toNatClampNeg) + ((34 : Int32)).toNatClampNeg)) (z0 := z0) (s0 := s0) dX12_init_55 (k := 0) (by decide) rfl aC_0 e55 (by omega) (by omega) (by show _ ≤ Z0 - z0; omega) (by show _ ≤ S0 - s0; omega) ?_
  refine ww_putR 57 X dX12_init_57 (fP_X12_28 _ (Or.inr rfl)) e57 rfl rfl ?_
  exact ww_vretA 60 X hQ dX12_init_60 h
theorem c_X12_init {G : mG} {F : Nat} {M0 : mM} {Z0 S0 : Nat} (l : Launch) (D : mD) (A : Nat → Prop) {l0 : Nat} {M : mM} {sz : Nat} {sl : Nat} (h : P_X12_init G F l0 M sz sl = some (M0, Z0, S0)) : mMetV l D G A yX12_init cX12_init 1 none 1 20 (Z0 - sz) (S0 - sl) [.ref l0] M sz M0 Z0 := mMetV_of l D G A (by decide) (Nat.le_of_ble_eq_true rfl) (fun x X hQ => by have K := wP_X12_init X hQ (Nat.le_refl sz) (Nat.le_refl sl) h; rw [Nat.sub_self, Nat.sub_self] at K; exact K)
/-! SealedTokensModel$Mod.load([BII[I)V -/
theorem dX12_load_0 : decode cX12_load 0 = .ok (.iconst 0, 1) := by decide +kernel
theorem dX12_load_1 : decode cX12_load 1 = .ok (.istore 5, 2) := by decide +kernel
theorem dX12_load_3 : decode cX12_load 3 = .ok (.iload 5, 2) := by decide +kernel
theorem dX12_load_5 : decode cX12_load 5 = .ok (.aload_n 0, 1) := by decide +kernel
theorem dX12_load_6 : decode cX12_load 6 = .ok (.getfield 31, 3) := by decide +kernel
theorem dX12_load_9 : decode cX12_load 9 = .ok (.if_icmp .ge 15, 3) := by decide +kernel
theorem dX12_load_12 : decode cX12_load 12 = .ok (.aload 4, 2) := by decide +kernel
theorem dX12_load_14 : decode cX12_load 14 = .ok (.iload 5, 2) := by decide +kernel
theorem dX12_load_16 : decode cX12_load 16 = .ok (.iconst 0, 1) := by decide +kernel
theorem dX12_load_17 : decode cX12_load 17 = .ok (.iastore, 1) := by decide +kernel
theorem dX12_load_18 : decode cX12_load 18 = .ok (.iinc 5 1, 3) := by decide +kernel
theorem dX12_load_21 : decode cX12_load 21 = .ok (.goto (-18), 3) := by decide +kernel
theorem dX12_load_24 : decode cX12_load 24 = .ok (.iconst 0, 1) := by decide +kernel
theorem dX12_load_25 : decode cX12_load 25 = .ok (.istore 5, 2) := by decide +kernel
theorem dX12_load_27 : decode cX12_load 27 = .ok (.iload 5, 2) := by decide +kernel
theorem dX12_load_29 : decode cX12_load 29 = .ok (.iload_n 3, 1) := by decide +kernel
theorem dX12_load_30 : decode cX12_load 30 = .ok (.if_icmp .ge 41, 3) := by decide +kernel
theorem dX12_load_33 : decode cX12_load 33 = .ok (.aload 4, 2) := by decide +kernel
theorem dX12_load_35 : decode cX12_load 35 = .ok (.iload 5, 2) := by decide +kernel
theorem dX12_load_37 : decode cX12_load 37 = .ok (.iconst 4, 1) := by decide +kernel
theorem dX12_load_38 : decode cX12_load 38 = .ok (.idiv, 1) := by decide +kernel
theorem dX12_load_39 : decode cX12_load 39 = .ok (.dup2, 1) := by decide +kernel
theorem dX12_load_40 : decode cX12_load 40 = .ok (.iaload, 1) := by decide +kernel
theorem dX12_load_41 : decode cX12_load 41 = .ok (.aload_n 1, 1) := by decide +kernel
theorem dX12_load_42 : decode cX12_load 42 = .ok (.iload_n 2, 1) := by decide +kernel
theorem dX12_load_43 : decode cX12_load 43 = .ok (.iload_n 3, 1) := by decide +kernel
theorem dX12_load_44 : decode cX12_load 44 = .ok (.iadd, 1) := by decide +kernel
theorem dX12_load_45 : decode cX12_load 45 = .ok (.iconst 1, 1) := by decide +kernel
theorem dX12_load_46 : decode cX12_load 46 = .ok (.isub, 1) := by decide +kernel
theorem dX12_load_47 : decode cX12_load 47 = .ok (.iload 5, 2) := by decide +kernel
theorem dX12_load_49 : decode cX12_load 49 = .ok (.isub, 1) := by decide +kernel
theorem dX12_load_50 : decode cX12_load 50 = .ok (.baload, 1) := by decide +kernel
theorem dX12_load_51 : decode cX12_load 51 = .ok (.sipush 255, 3) := by decide +kernel
theorem dX12_load_54 : decode cX12_load 54 = .ok (.iand, 1) := by decide +kernel
theorem dX12_load_55 : decode cX12_load 55 = .ok (.bipush 8, 2) := by decide +kernel
theorem dX12_load_57 : decode cX12_load 57 = .ok (.iload 5, 2) := by decide +kernel
theorem dX12_load_59 : decode cX12_load 59 = .ok (.iconst 4, 1) := by decide +kernel
theorem dX12_load_60 : decode cX12_load 60 = .ok (.irem, 1) := by decide +kernel
theorem dX12_load_61 : decode cX12_load 61 = .ok (.imul, 1) := by decide +kernel
theorem dX12_load_62 : decode cX12_load 62 = .ok (.ishl, 1) := by decide +kernel
theorem dX12_load_63 : decode cX12_load 63 = .ok (.ior, 1) := by decide +kernel
theorem dX12_load_64 : decode cX12_load 64 = .ok (.iastore, 1) := by decide +kernel
theorem dX12_load_65 : decode cX12_load 65 = .ok (.iinc 5 1, 3) := by decide +kernel
theorem dX12_load_68 : decode cX12_load 68 = .ok (.goto (-41), 3) := by decide +kernel
theorem dX12_load_71 : decode cX12_load 71 = .ok (.return_, 1) := by decide +kernel
abbrev rmX12_load : Room := { frames := 0, cells := 0, slots := 0, locals := 0 }
set_option maxHeartbeats 4000000 in
set_option maxRecDepth 100000 in
theorem wB_X12_load_27 {G : mG} {F : Nat} {x : mXT} {sz : Nat} {M0 : mM} (X : mCX G RX12 cX12_load 6 none "load" rmX12_load x) (hQ : mQV x M0 (sz, 0, 0)) : ∀ (n : Nat) (l1 : Nat) (l2 : Int32) (l3 : Int32) (l4 : Nat) (l5 : Int32) (M : mM), B_X12_load_27 G F n l1 l2 l3 l4 l5 M = some M0 → WW x (sz, 0, 0) M 27 [(1, .ref l1), (2, .int l2), (3, .int l3), (4, .ref l4), (5, .int l5)] [] := by
  intro n
  induction n with
  | zero =>
    intro l1 l2 l3 l4 l5 M h
    exact nomatch (show (none : Option mM) = some M0 from h)
  | succ n ih =>
    intro l1 l2 l3 l4 l5 M h
    rw [B_X12_load_27] at h
    refine ww_iload 27 X dX12_load_27 4 rfl ?_
    refine ww_iload_n 29 X dX12_load_29 2 rfl rfl ?_
    refine ww_icmp_ge 30 71 X dX12_load_30 (by decide) (fun q => ?_) (fun q => ?_)
    · replace h := (if_pos q).symm.trans h
      exact ww_vretE 71 X hQ dX12_load_71 h
    · replace h := (if_neg q).symm.trans h
      refine ww_aload 33 X dX12_load_33 3 rfl ?_
      refine ww_iload 35 X dX12_load_35 4 rfl ?_
      refine ww_iconst 37 X (v := (4 : Int32)) dX12_load_37 (by decide) ?_
      refine ww_idiv 38 X (v := (l5 / (4 : Int32))) dX12_load_38 rfl ?_
      refine ww_dup2_11 39 X dX12_load_39 rfl rfl ?_
      obtain ⟨v40, e40, h⟩ := bO_some h
      refine ww_iald 40 X dX12_load_40 e40 ?_
      refine ww_aload_n 41 X dX12_load_41 0 rfl rfl ?_
      refine ww_iload_n 42 X dX12_load_42 1 rfl rfl ?_
      refine ww_iload_n 43 X dX12_load_43 2 rfl rfl ?_
      refine ww_iadd 44 X dX12_load_44 ?_
      refine ww_iconst 45 X (v := (1 : Int32)) dX12_load_45 (by decide) ?_
      refine ww_isub 46 X dX12_load_46 ?_
      refine ww_iload 47 X dX12_load_47 4 rfl ?_
      refine ww_isub 49 X dX12_load_49 ?_
      obtain ⟨v50, e50, h⟩ := bO_some h
      refine ww_bald 50 X dX12_load_50 e50 ?_
      refine ww_sipush 51 X (v := (255 : Int32)) dX12_load_51 (by decide) ?_
      refine ww_iand 54 X dX12_load_54 ?_
      refine ww_bipush 55 X (v := (8 : Int32)) dX12_load_55 (by decide) ?_
      refine ww_iload 57 X dX12_load_57 4 rfl ?_
      refine ww_iconst 59 X (v := (4 : Int32)) dX12_load_59 (by decide) ?_
      refine ww_irem 60 X (v := (l5 - l5 / (4 : Int32) * (4 : Int32))) dX12_load_60 rfl ?_
      refine ww_imul 61 X dX12_load_61 ?_
      refine ww_ishl 62 X dX12_load_62 ?_
      refine ww_ior 63 X dX12_load_63 ?_
      obtain ⟨M64, e64, h⟩ := bO_some h
      refine ww_iast 64 X dX12_load_64 e64 ?_
      refine ww_iinc 65 X dX12_load_65 (lv' := [(1, .ref l1), (2, .int l2), (3, .int l3), (4, .ref l4), (5, .int (l5 + 1))]) 4 rfl rfl (by decide) [1, 2, 3, 4, 0] rfl ?_
      refine ww_goto 68 27 X dX12_load_68 (by decide) ?_
      exact (ih _ _ _ _ _ _ h)
set_option maxHeartbeats 4000000 in
set_option maxRecDepth 100000 in
theorem wB_X12_load_3 {G : mG} {F : Nat} {x : mXT} {sz : Nat} {M0 : mM} (X : mCX G RX12 cX12_load 6 none "load" rmX12_load x) (hQ : mQV x M0 (sz, 0, 0)) : ∀ (n : Nat) (l0 : Nat) (l1 : Nat) (l2 : Int32) (l3 : Int32) (l4 : Nat) (l5 : Int32) (M : mM), B_X12_load_3 G F n l0 l1 l2 l3 l4 l5 M = some M0 → WW x (sz, 0, 0) M 3 [(0, .ref l0), (1, .ref l1), (2, .int l2), (3, .int l3), (4, .ref l4), (5, .int l5)] [] := by
  intro n
  induction n with
  | zero =>
    intro l0 l1 l2 l3 l4 l5 M h
    exact nomatch (show (none : Option mM) = some M0 from h)
  | succ n ih =>
    intro l0 l1 l2 l3 l4 l5 M h
    rw [B_X12_load_3] at h
    refine ww_iload 3 X dX12_load_3 5 rfl ?_
    refine ww_aload_n 5 X dX12_load_5 0 rfl rfl ?_
    obtain ⟨v6, e6, h⟩ := bO_some h
    refine ww_getI 6 X dX12_load_6 fG_X12_31 e6 ?_
    refine ww_icmp_ge 9 24 X dX12_load_9 (by decide) (fun q => ?_) (fun q => ?_)
    · replace h := (if_pos q).symm.trans h
      refine ww_iconst 24 X (v := (0 : Int32)) dX12_load_24 (by decide) ?_
      refine ww_istore 25 X dX12_load_25 (lv' := [(0, .ref l0), (1, .ref l1), (2, .int l2), (3, .int l3), (4, .ref l4), (5, .int (0 : Int32))]) (by decide) [1, 2, 3, 4, 5, 0] rfl ?_
      exact ww_sub [1, 2, 3, 4, 5] rfl (wB_X12_load_27 X hQ F _ _ _ _ _ _ h)
    · replace h := (if_neg q).symm.trans h
      refine ww_aload 12 X dX12_load_12 4 rfl ?_
      refine ww_iload 14 X dX12_load_14 5 rfl ?_
      refine ww_iconst 16 X (v := (0 : Int32)) dX12_load_16 (by decide) ?_
      obtain ⟨M17, e17, h⟩ := bO_some h
      refine ww_iast 17 X dX12_load_17 e17 ?_
      refine ww_iinc 18 X dX12_load_18 (lv' := [(0, .ref l0), (1, .ref l1), (2, .int l2), (3, .int l3), (4, .ref l4), (5, .int (l5 + 1))]) 5 rfl rfl (by decide) [1, 2, 3, 4, 5, 0] rfl ?_
      refine ww_goto 21 3 X dX12_load_21 (by decide) ?_
      exact (ih _ _ _ _ _ _ _ h)
set_option maxHeartbeats 4000000 in
set_option maxRecDepth 100000 in
theorem wP_X12_load {G : mG} {F : Nat} {x : mXT} {sz : Nat} {M0 : mM} (X : mCX G RX12 cX12_load 6 none "load" rmX12_load x) (hQ : mQV x M0 (sz, 0, 0)) {l0 : Nat} {l1 : Nat} {l2 : Int32} {l3 : Int32} {l4 : Nat} {M : mM} (h : P_X12_load G F l0 l1 l2 l3 l4 M = some M0) : WW x (sz, 0, 0) M 0 [(0, .ref l0), (1, .ref l1), (2, .int l2), (3, .int l3), (4, .ref l4)] [] := by
  unfold P_X12_load at h
  refine ww_iconst 0 X (v := (0 : Int32)) dX12_load_0 (by decide) ?_
  refine ww_istore 1 X dX12_load_1 (lv' := [(0, .ref l0), (1, .ref l1), (2, .int l2), (3, .int l3), (4, .ref l4), (5, .int (0 : Int32))]) (by decide) [1, 2, 3, 4, 5, 0] rfl ?_
  exact (wB_X12_load_3 X hQ F _ _ _ _ _ _ _ h)
theorem c_X12_load {G : mG} {F sz : Nat} {M0 : mM} (l : Launch) (D : mD) (A : Nat → Prop) {l0 : Nat} {l1 : Nat} {l2 : Int32} {l3 : Int32} {l4 : Nat} {M : mM} (h : P_X12_load G F l0 l1 l2 l3 l4 M = some M0) : mMetV l D G A yX12_load cX12_load 6 none 0 0 0 0 [.ref l0, .ref l1, .int l2, .int l3, .ref l4] M sz M0 sz := mMetV_of l D G A (by decide) (Nat.le_of_ble_eq_true rfl) (fun x X hQ => wP_X12_load X hQ h)
/-! SealedTokensModel$Mod.order([I[I)I -/
theorem dX12_order_0 : decode cX12_order 0 = .ok (.aload_n 0, 1) := by decide +kernel
theorem dX12_order_1 : decode cX12_order 1 = .ok (.getfield 31, 3) := by decide +kernel
theorem dX12_order_4 : decode cX12_order 4 = .ok (.iconst 1, 1) := by decide +kernel
theorem dX12_order_5 : decode cX12_order 5 = .ok (.isub, 1) := by decide +kernel
theorem dX12_order_6 : decode cX12_order 6 = .ok (.istore_n 3, 1) := by decide +kernel
theorem dX12_order_7 : decode cX12_order 7 = .ok (.iload_n 3, 1) := by decide +kernel
theorem dX12_order_8 : decode cX12_order 8 = .ok (.ifCond .lt 39, 3) := by decide +kernel
theorem dX12_order_11 : decode cX12_order 11 = .ok (.aload_n 1, 1) := by decide +kernel
theorem dX12_order_12 : decode cX12_order 12 = .ok (.iload_n 3, 1) := by decide +kernel
theorem dX12_order_13 : decode cX12_order 13 = .ok (.iaload, 1) := by decide +kernel
theorem dX12_order_14 : decode cX12_order 14 = .ok (.aload_n 2, 1) := by decide +kernel
theorem dX12_order_15 : decode cX12_order 15 = .ok (.iload_n 3, 1) := by decide +kernel
theorem dX12_order_16 : decode cX12_order 16 = .ok (.iaload, 1) := by decide +kernel
theorem dX12_order_17 : decode cX12_order 17 = .ok (.if_icmp .eq 24, 3) := by decide +kernel
theorem dX12_order_20 : decode cX12_order 20 = .ok (.aload_n 1, 1) := by decide +kernel
theorem dX12_order_21 : decode cX12_order 21 = .ok (.iload_n 3, 1) := by decide +kernel
theorem dX12_order_22 : decode cX12_order 22 = .ok (.iaload, 1) := by decide +kernel
theorem dX12_order_23 : decode cX12_order 23 = .ok (.ldc 46, 2) := by decide +kernel
theorem dX12_order_25 : decode cX12_order 25 = .ok (.ixor, 1) := by decide +kernel
theorem dX12_order_26 : decode cX12_order 26 = .ok (.aload_n 2, 1) := by decide +kernel
theorem dX12_order_27 : decode cX12_order 27 = .ok (.iload_n 3, 1) := by decide +kernel
theorem dX12_order_28 : decode cX12_order 28 = .ok (.iaload, 1) := by decide +kernel
theorem dX12_order_29 : decode cX12_order 29 = .ok (.ldc 46, 2) := by decide +kernel
theorem dX12_order_31 : decode cX12_order 31 = .ok (.ixor, 1) := by decide +kernel
theorem dX12_order_32 : decode cX12_order 32 = .ok (.if_icmp .ge 7, 3) := by decide +kernel
theorem dX12_order_35 : decode cX12_order 35 = .ok (.iconst (-1), 1) := by decide +kernel
theorem dX12_order_36 : decode cX12_order 36 = .ok (.goto 4, 3) := by decide +kernel
theorem dX12_order_39 : decode cX12_order 39 = .ok (.iconst 1, 1) := by decide +kernel
theorem dX12_order_40 : decode cX12_order 40 = .ok (.ireturn, 1) := by decide +kernel
theorem dX12_order_41 : decode cX12_order 41 = .ok (.iinc 3 (-1), 3) := by decide +kernel
theorem dX12_order_44 : decode cX12_order 44 = .ok (.goto (-37), 3) := by decide +kernel
theorem dX12_order_47 : decode cX12_order 47 = .ok (.iconst 0, 1) := by decide +kernel
theorem dX12_order_48 : decode cX12_order 48 = .ok (.ireturn, 1) := by decide +kernel
abbrev rmX12_order : Room := { frames := 0, cells := 0, slots := 0, locals := 0 }
set_option maxHeartbeats 4000000 in
set_option maxRecDepth 100000 in
theorem wB_X12_order_7 {G : mG} {F : Nat} {x : mXT} {sz : Nat} {r0 : Int32} {M0 : mM} (X : mCX G RX12 cX12_order 4 (some .int) "order" rmX12_order x) (hQ : mQI x r0 M0 (sz, 0, 0)) : ∀ (n : Nat) (l1 : Nat) (l2 : Nat) (l3 : Int32) (M : mM), B_X12_order_7 G F n l1 l2 l3 M = some (r0, M0) → WW x (sz, 0, 0) M 7 [(1, .ref l1), (2, .ref l2), (3, .int l3)] [] := by
  intro n
  induction n with
  | zero =>
    intro l1 l2 l3 M h
    exact nomatch (show (none : Option (Int32 × mM)) = some (r0, M0) from h)
  | succ n ih =>
    intro l1 l2 l3 M h
    rw [B_X12_order_7] at h
    refine ww_iload_n 7 X dX12_order_7 2 rfl rfl ?_
    refine ww_if_lt 8 47 X dX12_order_8 (by decide) (fun q => ?_) (fun q => ?_)
    · replace h := (if_pos q).symm.trans h
      refine ww_iconst 47 X (v := (0 : Int32)) dX12_order_47 (by decide) ?_
      exact ww_iretE 48 X hQ dX12_order_48 h
    · replace h := (if_neg q).symm.trans h
      refine ww_aload_n 11 X dX12_order_11 0 rfl rfl ?_
      refine ww_iload_n 12 X dX12_order_12 2 rfl rfl ?_
      obtain ⟨v13, e13, h⟩ := bO_some h
      refine ww_iald 13 X dX12_order_13 e13 ?_
      refine ww_aload_n 14 X dX12_order_14 1 rfl rfl ?_
      refine ww_iload_n 15 X dX12_order_15 2 rfl rfl ?_
      obtain ⟨v16, e16, h⟩ := bO_some h
      refine ww_iald 16 X dX12_order_16 e16 ?_
      refine ww_icmp_eq 17 41 X dX12_order_17 (by decide) (fun q => ?_) (fun q => ?_)
      · replace h := (if_pos q).symm.trans h
        refine ww_iinc 41 X dX12_order_41 (lv' := [(1, .ref l1), (2, .ref l2), (3, .int (l3 + (-1)))]) 2 rfl rfl (by decide) [1, 2, 0] rfl ?_
        refine ww_goto 44 7 X dX12_order_44 (by decide) ?_
        exact (ih _ _ _ _ h)
      · replace h := (if_neg q).symm.trans h
        refine ww_aload_n 20 X dX12_order_20 0 rfl rfl ?_
        refine ww_iload_n 21 X dX12_order_21 2 rfl rfl ?_
        obtain ⟨v22, e22, h⟩ := bO_some h
        refine ww_iald 22 X dX12_order_22 e22 ?_
        refine ww_ldc 23 X (v := (-2147483648 : Int32)) dX12_order_23 kI_X12_46 ?_
        refine ww_ixor 25 X dX12_order_25 ?_
        refine ww_aload_n 26 X dX12_order_26 1 rfl rfl ?_
        refine ww_iload_n 27 X dX12_order_27 2 rfl rfl ?_
        obtain ⟨v28, e28, h⟩ := bO_some h
        refine ww_iald 28 X dX12_order_28 e28 ?_
        refine ww_ldc 29 X (v := (-2147483648 : Int32)) dX12_order_29 kI_X12_46 ?_
        refine ww_ixor 31 X dX12_order_31 ?_
        refine ww_icmp_ge 32 39 X dX12_order_32 (by decide) (fun q => ?_) (fun q => ?_)
        · replace h := (if_pos q).symm.trans h
          refine ww_iconst 39 X (v := (1 : Int32)) dX12_order_39 (by decide) ?_
          exact ww_iretE 40 X hQ dX12_order_40 h
        · replace h := (if_neg q).symm.trans h
          refine ww_iconst 35 X (v := (-1 : Int32)) dX12_order_35 (by decide) ?_
          refine ww_goto 36 40 X dX12_order_36 (by decide) ?_
          exact ww_iretE 40 X hQ dX12_order_40 h
set_option maxHeartbeats 4000000 in
set_option maxRecDepth 100000 in
theorem wP_X12_order {G : mG} {F : Nat} {x : mXT} {sz : Nat} {r0 : Int32} {M0 : mM} (X : mCX G RX12 cX12_order 4 (some .int) "order" rmX12_order x) (hQ : mQI x r0 M0 (sz, 0, 0)) {l0 : Nat} {l1 : Nat} {l2 : Nat} {M : mM} (h : P_X12_order G F l0 l1 l2 M = some (r0, M0)) : WW x (sz, 0, 0) M 0 [(0, .ref l0), (1, .ref l1), (2, .ref l2)] [] := by
  unfold P_X12_order at h
  refine ww_aload_n 0 X dX12_order_0 0 rfl rfl ?_
  obtain ⟨v1, e1, h⟩ := bO_some h
  refine ww_getI 1 X dX12_order_1 fG_X12_31 e1 ?_
  refine ww_iconst 4 X (v := (1 : Int32)) dX12_order_4 (by decide) ?_
  refine ww_isub 5 X dX12_order_5 ?_
  refine ww_istore_n 6 X dX12_order_6 (lv' := [(0, .ref l0), (1, .ref l1), (2, .ref l2), (3, .int (v1 - (1 : Int32)))]) rfl (by decide) [1, 2, 3, 0] rfl ?_
  exact ww_sub [1, 2, 3] rfl (wB_X12_order_7 X hQ F _ _ _ _ h)
theorem c_X12_order {G : mG} {F sz : Nat} {r0 : Int32} {M0 : mM} (l : Launch) (D : mD) (A : Nat → Prop) {l0 : Nat} {l1 : Nat} {l2 : Nat} {M : mM} (h : P_X12_order G F l0 l1 l2 M = some (r0, M0)) : mMetI l D G A yX12_order cX12_order 4 (some .int) 0 0 0 0 [.ref l0, .ref l1, .ref l2] M sz r0 M0 sz := mMetI_of l D G A (by decide) (Nat.le_of_ble_eq_true rfl) (fun x X hQ => wP_X12_order X hQ h)
/-! SealedTokensModel$Mod.less([I)V -/
theorem dX12_less_0 : decode cX12_less 0 = .ok (.lconst 0, 1) := by decide +kernel
theorem dX12_less_1 : decode cX12_less 1 = .ok (.lstore_n 2, 1) := by decide +kernel
theorem dX12_less_2 : decode cX12_less 2 = .ok (.iconst 0, 1) := by decide +kernel
theorem dX12_less_3 : decode cX12_less 3 = .ok (.istore 4, 2) := by decide +kernel
theorem dX12_less_5 : decode cX12_less 5 = .ok (.iload 4, 2) := by decide +kernel
theorem dX12_less_7 : decode cX12_less 7 = .ok (.aload_n 0, 1) := by decide +kernel
theorem dX12_less_8 : decode cX12_less 8 = .ok (.getfield 31, 3) := by decide +kernel
theorem dX12_less_11 : decode cX12_less 11 = .ok (.if_icmp .ge 55, 3) := by decide +kernel
theorem dX12_less_14 : decode cX12_less 14 = .ok (.aload_n 1, 1) := by decide +kernel
theorem dX12_less_15 : decode cX12_less 15 = .ok (.iload 4, 2) := by decide +kernel
theorem dX12_less_17 : decode cX12_less 17 = .ok (.iaload, 1) := by decide +kernel
theorem dX12_less_18 : decode cX12_less 18 = .ok (.i2l, 1) := by decide +kernel
theorem dX12_less_19 : decode cX12_less 19 = .ok (.ldc2_w 47, 3) := by decide +kernel
theorem dX12_less_22 : decode cX12_less 22 = .ok (.land, 1) := by decide +kernel
theorem dX12_less_23 : decode cX12_less 23 = .ok (.aload_n 0, 1) := by decide +kernel
theorem dX12_less_24 : decode cX12_less 24 = .ok (.getfield 7, 3) := by decide +kernel
theorem dX12_less_27 : decode cX12_less 27 = .ok (.iload 4, 2) := by decide +kernel
theorem dX12_less_29 : decode cX12_less 29 = .ok (.iaload, 1) := by decide +kernel
theorem dX12_less_30 : decode cX12_less 30 = .ok (.i2l, 1) := by decide +kernel
theorem dX12_less_31 : decode cX12_less 31 = .ok (.ldc2_w 47, 3) := by decide +kernel
theorem dX12_less_34 : decode cX12_less 34 = .ok (.land, 1) := by decide +kernel
theorem dX12_less_35 : decode cX12_less 35 = .ok (.lsub, 1) := by decide +kernel
theorem dX12_less_36 : decode cX12_less 36 = .ok (.lload_n 2, 1) := by decide +kernel
theorem dX12_less_37 : decode cX12_less 37 = .ok (.lsub, 1) := by decide +kernel
theorem dX12_less_38 : decode cX12_less 38 = .ok (.lstore 5, 2) := by decide +kernel
theorem dX12_less_40 : decode cX12_less 40 = .ok (.aload_n 1, 1) := by decide +kernel
theorem dX12_less_41 : decode cX12_less 41 = .ok (.iload 4, 2) := by decide +kernel
theorem dX12_less_43 : decode cX12_less 43 = .ok (.lload 5, 2) := by decide +kernel
theorem dX12_less_45 : decode cX12_less 45 = .ok (.l2i, 1) := by decide +kernel
theorem dX12_less_46 : decode cX12_less 46 = .ok (.iastore, 1) := by decide +kernel
theorem dX12_less_47 : decode cX12_less 47 = .ok (.lload 5, 2) := by decide +kernel
theorem dX12_less_49 : decode cX12_less 49 = .ok (.lconst 0, 1) := by decide +kernel
theorem dX12_less_50 : decode cX12_less 50 = .ok (.lcmp, 1) := by decide +kernel
theorem dX12_less_51 : decode cX12_less 51 = .ok (.ifCond .ge 7, 3) := by decide +kernel
theorem dX12_less_54 : decode cX12_less 54 = .ok (.lconst 1, 1) := by decide +kernel
theorem dX12_less_55 : decode cX12_less 55 = .ok (.goto 4, 3) := by decide +kernel
theorem dX12_less_58 : decode cX12_less 58 = .ok (.lconst 0, 1) := by decide +kernel
theorem dX12_less_59 : decode cX12_less 59 = .ok (.lstore_n 2, 1) := by decide +kernel
theorem dX12_less_60 : decode cX12_less 60 = .ok (.iinc 4 1, 3) := by decide +kernel
theorem dX12_less_63 : decode cX12_less 63 = .ok (.goto (-58), 3) := by decide +kernel
theorem dX12_less_66 : decode cX12_less 66 = .ok (.return_, 1) := by decide +kernel
abbrev rmX12_less : Room := { frames := 0, cells := 0, slots := 0, locals := 0 }
set_option maxHeartbeats 4000000 in
set_option maxRecDepth 100000 in
theorem wB_X12_less_5 {G : mG} {F : Nat} {x : mXT} {sz : Nat} {M0 : mM} (X : mCX G RX12 cX12_less 7 none "less" rmX12_less x) (hQ : mQV x M0 (sz, 0, 0)) : ∀ (n : Nat) (l0 : Nat) (l1 : Nat) (l2 : Int64) (l4 : Int32) (M : mM), B_X12_less_5 G F n l0 l1 l2 l4 M = some M0 → WW x (sz, 0, 0) M 5 [(0, .ref l0), (1, .ref l1), (2, .long l2), (4, .int l4)] [] := by
  intro n
  induction n with
  | zero =>
    intro l0 l1 l2 l4 M h
    exact nomatch (show (none : Option mM) = some M0 from h)
  | succ n ih =>
    intro l0 l1 l2 l4 M h
    rw [B_X12_less_5] at h
    refine ww_iload 5 X dX12_less_5 3 rfl ?_
    refine ww_aload_n 7 X dX12_less_7 0 rfl rfl ?_
    obtain ⟨v8, e8, h⟩ := bO_some h
    refine ww_getI 8 X dX12_less_8 fG_X12_31 e8 ?_
    refine ww_icmp_ge 11 66 X dX12_less_11 (by decide) (fun q => ?_) (fun q => ?_)
    · replace h := (if_pos q).symm.trans h
      exact ww_vretE 66 X hQ dX12_less_66 h
    · replace h := (if_neg q).symm.trans h
      refine ww_aload_n 14 X dX12_less_14 1 rfl rfl ?_
      refine ww_iload 15 X dX12_less_15 3 rfl ?_
      obtain ⟨v17, e17, h⟩ := bO_some h
      refine ww_iald 17 X dX12_less_17 e17 ?_
      refine ww_i2l 18 X dX12_less_18 ?_
      refine ww_ldc2 19 X (v := (4294967295 : Int64)) dX12_less_19 kL_X12_47 ?_
      refine ww_land 22 X dX12_less_22 ?_
      refine ww_aload_n 23 X dX12_less_23 0 rfl rfl ?_
      obtain ⟨v24, e24, h⟩ := bO_some h
      refine ww_getR 24 X dX12_less_24 fG_X12_7 e24 ?_
      refine ww_iload 27 X dX12_less_27 3 rfl ?_
      obtain ⟨v29, e29, h⟩ := bO_some h
      refine ww_iald 29 X dX12_less_29 e29 ?_
      refine ww_i2l 30 X dX12_less_30 ?_
      refine ww_ldc2 31 X (v := (4294967295 : Int64)) dX12_less_31 kL_X12_47 ?_
      refine ww_land 34 X dX12_less_34 ?_
      refine ww_lsub 35 X dX12_less_35 ?_
      refine ww_lload_n 36 X dX12_less_36 2 rfl rfl ?_
      refine ww_lsub 37 X dX12_less_37 ?_
      refine ww_lstore 38 X dX12_less_38 (lv' := [(0, .ref l0), (1, .ref l1), (2, .long l2), (4, .int l4), (5, .long ((((v17.toInt64) &&& (4294967295 : Int64)) - ((v29.toInt64) &&& (4294967295 : Int64))) - l2))]) (by decide) [1, 2, 3, 4, 0] rfl ?_
      refine ww_aload_n 40 X dX12_less_40 1 rfl rfl ?_
      refine ww_iload 41 X dX12_less_41 3 rfl ?_
      refine ww_lload 43 X dX12_less_43 4 rfl ?_
      refine ww_l2i 45 X dX12_less_45 ?_
      obtain ⟨M46, e46, h⟩ := bO_some h
      refine ww_iast 46 X dX12_less_46 e46 ?_
      refine ww_lload 47 X dX12_less_47 4 rfl ?_
      refine ww_lconst 49 X (v := (0 : Int64)) dX12_less_49 (by decide) ?_
      refine ww_lcmp 50 X dX12_less_50 ?_
      refine ww_if_ge 51 58 X dX12_less_51 (by decide) (fun q => ?_) (fun q => ?_)
      · replace h := (if_pos q).symm.trans h
        refine ww_lconst 58 X (v := (0 : Int64)) dX12_less_58 (by decide) ?_
        refine ww_lstore_n 59 X dX12_less_59 (lv' := [(0, .ref l0), (1, .ref l1), (2, .long (0 : Int64)), (4, .int l4), (5, .long ((((v17.toInt64) &&& (4294967295 : Int64)) - ((v29.toInt64) &&& (4294967295 : Int64))) - l2))]) rfl (by decide) [1, 2, 0, 3, 4] rfl ?_
        refine ww_iinc 60 X dX12_less_60 (lv' := [(0, .ref l0), (1, .ref l1), (2, .long (0 : Int64)), (4, .int (l4 + 1)), (5, .long ((((v17.toInt64) &&& (4294967295 : Int64)) - ((v29.toInt64) &&& (4294967295 : Int64))) - l2))]) 3 rfl rfl (by decide) [1, 2, 3, 0, 4] rfl ?_
        refine ww_goto 63 5 X dX12_less_63 (by decide) ?_
        exact ww_sub [0, 1, 2, 3] rfl (ih _ _ _ _ _ h)
      · replace h := (if_neg q).symm.trans h
        refine ww_lconst 54 X (v := (1 : Int64)) dX12_less_54 (by decide) ?_
        refine ww_goto 55 59 X dX12_less_55 (by decide) ?_
        refine ww_lstore_n 59 X dX12_less_59 (lv' := [(0, .ref l0), (1, .ref l1), (2, .long (1 : Int64)), (4, .int l4), (5, .long ((((v17.toInt64) &&& (4294967295 : Int64)) - ((v29.toInt64) &&& (4294967295 : Int64))) - l2))]) rfl (by decide) [1, 2, 0, 3, 4] rfl ?_
        refine ww_iinc 60 X dX12_less_60 (lv' := [(0, .ref l0), (1, .ref l1), (2, .long (1 : Int64)), (4, .int (l4 + 1)), (5, .long ((((v17.toInt64) &&& (4294967295 : Int64)) - ((v29.toInt64) &&& (4294967295 : Int64))) - l2))]) 3 rfl rfl (by decide) [1, 2, 3, 0, 4] rfl ?_
        refine ww_goto 63 5 X dX12_less_63 (by decide) ?_
        exact ww_sub [0, 1, 2, 3] rfl (ih _ _ _ _ _ h)
set_option maxHeartbeats 4000000 in
set_option maxRecDepth 100000 in
theorem wP_X12_less {G : mG} {F : Nat} {x : mXT} {sz : Nat} {M0 : mM} (X : mCX G RX12 cX12_less 7 none "less" rmX12_less x) (hQ : mQV x M0 (sz, 0, 0)) {l0 : Nat} {l1 : Nat} {M : mM} (h : P_X12_less G F l0 l1 M = some M0) : WW x (sz, 0, 0) M 0 [(0, .ref l0), (1, .ref l1)] [] := by
  unfold P_X12_less at h
  refine ww_lconst 0 X (v := (0 : Int64)) dX12_less_0 (by decide) ?_
  refine ww_lstore_n 1 X dX12_less_1 (lv' := [(0, .ref l0), (1, .ref l1), (2, .long (0 : Int64))]) rfl (by decide) [1, 2, 0] rfl ?_
  refine ww_iconst 2 X (v := (0 : Int32)) dX12_less_2 (by decide) ?_
  refine ww_istore 3 X dX12_less_3 (lv' := [(0, .ref l0), (1, .ref l1), (2, .long (0 : Int64)), (4, .int (0 : Int32))]) (by decide) [1, 2, 3, 0] rfl ?_
  exact (wB_X12_less_5 X hQ F _ _ _ _ _ h)
theorem c_X12_less {G : mG} {F sz : Nat} {M0 : mM} (l : Launch) (D : mD) (A : Nat → Prop) {l0 : Nat} {l1 : Nat} {M : mM} (h : P_X12_less G F l0 l1 M = some M0) : mMetV l D G A yX12_less cX12_less 7 none 0 0 0 0 [.ref l0, .ref l1] M sz M0 sz := mMetV_of l D G A (by decide) (Nat.le_of_ble_eq_true rfl) (fun x X hQ => wP_X12_less X hQ h)
/-! SealedTokensModel$Mod.twice([I)V -/
theorem dX12_twice_0 : decode cX12_twice 0 = .ok (.iconst 0, 1) := by decide +kernel
theorem dX12_twice_1 : decode cX12_twice 1 = .ok (.istore_n 2, 1) := by decide +kernel
theorem dX12_twice_2 : decode cX12_twice 2 = .ok (.iconst 0, 1) := by decide +kernel
theorem dX12_twice_3 : decode cX12_twice 3 = .ok (.istore_n 3, 1) := by decide +kernel
theorem dX12_twice_4 : decode cX12_twice 4 = .ok (.iload_n 3, 1) := by decide +kernel
theorem dX12_twice_5 : decode cX12_twice 5 = .ok (.aload_n 0, 1) := by decide +kernel
theorem dX12_twice_6 : decode cX12_twice 6 = .ok (.getfield 31, 3) := by decide +kernel
theorem dX12_twice_9 : decode cX12_twice 9 = .ok (.if_icmp .ge 30, 3) := by decide +kernel
theorem dX12_twice_12 : decode cX12_twice 12 = .ok (.aload_n 1, 1) := by decide +kernel
theorem dX12_twice_13 : decode cX12_twice 13 = .ok (.iload_n 3, 1) := by decide +kernel
theorem dX12_twice_14 : decode cX12_twice 14 = .ok (.iaload, 1) := by decide +kernel
theorem dX12_twice_15 : decode cX12_twice 15 = .ok (.bipush 31, 2) := by decide +kernel
theorem dX12_twice_17 : decode cX12_twice 17 = .ok (.iushr, 1) := by decide +kernel
theorem dX12_twice_18 : decode cX12_twice 18 = .ok (.istore 4, 2) := by decide +kernel
theorem dX12_twice_20 : decode cX12_twice 20 = .ok (.aload_n 1, 1) := by decide +kernel
theorem dX12_twice_21 : decode cX12_twice 21 = .ok (.iload_n 3, 1) := by decide +kernel
theorem dX12_twice_22 : decode cX12_twice 22 = .ok (.aload_n 1, 1) := by decide +kernel
theorem dX12_twice_23 : decode cX12_twice 23 = .ok (.iload_n 3, 1) := by decide +kernel
theorem dX12_twice_24 : decode cX12_twice 24 = .ok (.iaload, 1) := by decide +kernel
theorem dX12_twice_25 : decode cX12_twice 25 = .ok (.iconst 1, 1) := by decide +kernel
theorem dX12_twice_26 : decode cX12_twice 26 = .ok (.ishl, 1) := by decide +kernel
theorem dX12_twice_27 : decode cX12_twice 27 = .ok (.iload_n 2, 1) := by decide +kernel
theorem dX12_twice_28 : decode cX12_twice 28 = .ok (.ior, 1) := by decide +kernel
theorem dX12_twice_29 : decode cX12_twice 29 = .ok (.iastore, 1) := by decide +kernel
theorem dX12_twice_30 : decode cX12_twice 30 = .ok (.iload 4, 2) := by decide +kernel
theorem dX12_twice_32 : decode cX12_twice 32 = .ok (.istore_n 2, 1) := by decide +kernel
theorem dX12_twice_33 : decode cX12_twice 33 = .ok (.iinc 3 1, 3) := by decide +kernel
theorem dX12_twice_36 : decode cX12_twice 36 = .ok (.goto (-32), 3) := by decide +kernel
theorem dX12_twice_39 : decode cX12_twice 39 = .ok (.iload_n 2, 1) := by decide +kernel
theorem dX12_twice_40 : decode cX12_twice 40 = .ok (.iconst 1, 1) := by decide +kernel
theorem dX12_twice_41 : decode cX12_twice 41 = .ok (.if_icmp .eq 15, 3) := by decide +kernel
theorem dX12_twice_44 : decode cX12_twice 44 = .ok (.aload_n 0, 1) := by decide +kernel
theorem dX12_twice_45 : decode cX12_twice 45 = .ok (.aload_n 1, 1) := by decide +kernel
theorem dX12_twice_46 : decode cX12_twice 46 = .ok (.aload_n 0, 1) := by decide +kernel
theorem dX12_twice_47 : decode cX12_twice 47 = .ok (.getfield 7, 3) := by decide +kernel
theorem dX12_twice_50 : decode cX12_twice 50 = .ok (.invokevirtual 49, 3) := by decide +kernel
theorem dX12_twice_53 : decode cX12_twice 53 = .ok (.ifCond .lt 8, 3) := by decide +kernel
theorem dX12_twice_56 : decode cX12_twice 56 = .ok (.aload_n 0, 1) := by decide +kernel
theorem dX12_twice_57 : decode cX12_twice 57 = .ok (.aload_n 1, 1) := by decide +kernel
theorem dX12_twice_58 : decode cX12_twice 58 = .ok (.invokevirtual 53, 3) := by decide +kernel
theorem dX12_twice_61 : decode cX12_twice 61 = .ok (.return_, 1) := by decide +kernel
abbrev rmX12_twice : Room := { frames := 1, cells := 0, slots := 0, locals := 26 }
set_option maxHeartbeats 4000000 in
set_option maxRecDepth 100000 in
theorem wB_X12_twice_4 {G : mG} {F : Nat} {x : mXT} {sz : Nat} {M0 : mM} (X : mCX G RX12 cX12_twice 5 none "twice" rmX12_twice x) (hQ : mQV x M0 (sz, 0, 0)) : ∀ (n : Nat) (l0 : Nat) (l1 : Nat) (l2 : Int32) (l3 : Int32) (M : mM), B_X12_twice_4 G F n l0 l1 l2 l3 M = some M0 → WW x (sz, 0, 0) M 4 [(0, .ref l0), (1, .ref l1), (2, .int l2), (3, .int l3)] [] := by
  intro n
  induction n with
  | zero =>
    intro l0 l1 l2 l3 M h
    exact nomatch (show (none : Option mM) = some M0 from h)
  | succ n ih =>
    intro l0 l1 l2 l3 M h
    rw [B_X12_twice_4] at h
    refine ww_iload_n 4 X dX12_twice_4 3 rfl rfl ?_
    refine ww_aload_n 5 X dX12_twice_5 0 rfl rfl ?_
    obtain ⟨v6, e6, h⟩ := bO_some h
    refine ww_getI 6 X dX12_twice_6 fG_X12_31 e6 ?_
    refine ww_icmp_ge 9 39 X dX12_twice_9 (by decide) (fun q => ?_) (fun q => ?_)
    · replace h := (if_pos q).symm.trans h
      refine ww_iload_n 39 X dX12_twice_39 2 rfl rfl ?_
      refine ww_iconst 40 X (v := (1 : Int32)) dX12_twice_40 (by decide) ?_
      refine ww_icmp_eq 41 56 X dX12_twice_41 (by decide) (fun q => ?_) (fun q => ?_)
      · replace h := (if_pos q).symm.trans h
        refine ww_aload_n 56 X dX12_twice_56 0 rfl rfl ?_
        refine ww_aload_n 57 X dX12_twice_57 1 rfl rfl ?_
        obtain ⟨_, f58, h⟩ := bO_some h
        obtain ⟨M58, e58, h⟩ := bO_some h
        refine ww_callVV0 58 X dX12_twice_58 mY_X12_less mL_X12_53 (rcv_spec f58) ⟨_, _, rfl⟩ (by decide) (As := [.ref l1]) (rest := []) rfl rfl ⟨Nat.le_of_ble_eq_true rfl, Nat.le_of_ble_eq_true rfl⟩ (Nat.le_of_ble_eq_true rfl) (fun l D A => c_X12_less l D A e58) ?_
        exact ww_vretE 61 X hQ dX12_twice_61 h
      · replace h := (if_neg q).symm.trans h
        refine ww_aload_n 44 X dX12_twice_44 0 rfl rfl ?_
        refine ww_aload_n 45 X dX12_twice_45 1 rfl rfl ?_
        refine ww_aload_n 46 X dX12_twice_46 0 rfl rfl ?_
        obtain ⟨v47, e47, h⟩ := bO_some h
        refine ww_getR 47 X dX12_twice_47 fG_X12_7 e47 ?_
        obtain ⟨_, f50, h⟩ := bO_some h
        obtain ⟨v50, M50, e50, h⟩ := bP_some h
        refine ww_callVI0 50 X dX12_twice_50 mY_X12_order mL_X12_49 (rcv_spec f50) ⟨_, _, rfl⟩ (by decide) (As := [.ref l1, .ref v47]) (rest := []) rfl rfl ⟨Nat.le_of_ble_eq_true rfl, Nat.le_of_ble_eq_true rfl⟩ (Nat.le_of_ble_eq_true rfl) (fun l D A => c_X12_order l D A e50) ?_
        refine ww_if_lt 53 61 X dX12_twice_53 (by decide) (fun q => ?_) (fun q => ?_)
        · replace h := (if_pos q).symm.trans h
          exact ww_vretE 61 X hQ dX12_twice_61 h
        · replace h := (if_neg q).symm.trans h
          refine ww_aload_n 56 X dX12_twice_56 0 rfl rfl ?_
          refine ww_aload_n 57 X dX12_twice_57 1 rfl rfl ?_
          obtain ⟨_, f58, h⟩ := bO_some h
          obtain ⟨M58, e58, h⟩ := bO_some h
          refine ww_callVV0 58 X dX12_twice_58 mY_X12_less mL_X12_53 (rcv_spec f58) ⟨_, _, rfl⟩ (by decide) (As := [.ref l1]) (rest := []) rfl rfl ⟨Nat.le_of_ble_eq_true rfl, Nat.le_of_ble_eq_true rfl⟩ (Nat.le_of_ble_eq_true rfl) (fun l D A => c_X12_less l D A e58) ?_
          exact ww_vretE 61 X hQ dX12_twice_61 h
    · replace h := (if_neg q).symm.trans h
      refine ww_aload_n 12 X dX12_twice_12 1 rfl rfl ?_
      refine ww_iload_n 13 X dX12_twice_13 3 rfl rfl ?_
      obtain ⟨v14, e14, h⟩ := bO_some h
      refine ww_iald 14 X dX12_twice_14 e14 ?_
      refine ww_bipush 15 X (v := (31 : Int32)) dX12_twice_15 (by decide) ?_
      refine ww_iushr 17 X dX12_twice_17 ?_
      refine ww_istore 18 X dX12_twice_18 (lv' := [(0, .ref l0), (1, .ref l1), (2, .int l2), (3, .int l3), (4, .int (ushI v14 (31 : Int32)))]) (by decide) [1, 2, 3, 4, 0] rfl ?_
      refine ww_aload_n 20 X dX12_twice_20 1 rfl rfl ?_
      refine ww_iload_n 21 X dX12_twice_21 3 rfl rfl ?_
      refine ww_aload_n 22 X dX12_twice_22 1 rfl rfl ?_
      refine ww_iload_n 23 X dX12_twice_23 3 rfl rfl ?_
      obtain ⟨v24, e24, h⟩ := bO_some h
      refine ww_iald 24 X dX12_twice_24 e24 ?_
      refine ww_iconst 25 X (v := (1 : Int32)) dX12_twice_25 (by decide) ?_
      refine ww_ishl 26 X dX12_twice_26 ?_
      refine ww_iload_n 27 X dX12_twice_27 2 rfl rfl ?_
      refine ww_ior 28 X dX12_twice_28 ?_
      obtain ⟨M29, e29, h⟩ := bO_some h
      refine ww_iast 29 X dX12_twice_29 e29 ?_
      refine ww_iload 30 X dX12_twice_30 4 rfl ?_
      refine ww_istore_n 32 X dX12_twice_32 (lv' := [(0, .ref l0), (1, .ref l1), (2, .int (ushI v14 (31 : Int32))), (3, .int l3), (4, .int (ushI v14 (31 : Int32)))]) rfl (by decide) [1, 2, 0, 3, 4] rfl ?_
      refine ww_iinc 33 X dX12_twice_33 (lv' := [(0, .ref l0), (1, .ref l1), (2, .int (ushI v14 (31 : Int32))), (3, .int (l3 + 1)), (4, .int (ushI v14 (31 : Int32)))]) 3 rfl rfl (by decide) [1, 2, 3, 0, 4] rfl ?_
      refine ww_goto 36 4 X dX12_twice_36 (by decide) ?_
      exact ww_sub [0, 1, 2, 3] rfl (ih _ _ _ _ _ h)
set_option maxHeartbeats 4000000 in
set_option maxRecDepth 100000 in
theorem wP_X12_twice {G : mG} {F : Nat} {x : mXT} {sz : Nat} {M0 : mM} (X : mCX G RX12 cX12_twice 5 none "twice" rmX12_twice x) (hQ : mQV x M0 (sz, 0, 0)) {l0 : Nat} {l1 : Nat} {M : mM} (h : P_X12_twice G F l0 l1 M = some M0) : WW x (sz, 0, 0) M 0 [(0, .ref l0), (1, .ref l1)] [] := by
  unfold P_X12_twice at h
  refine ww_iconst 0 X (v := (0 : Int32)) dX12_twice_0 (by decide) ?_
  refine ww_istore_n 1 X dX12_twice_1 (lv' := [(0, .ref l0), (1, .ref l1), (2, .int (0 : Int32))]) rfl (by decide) [1, 2, 0] rfl ?_
  refine ww_iconst 2 X (v := (0 : Int32)) dX12_twice_2 (by decide) ?_
  refine ww_istore_n 3 X dX12_twice_3 (lv' := [(0, .ref l0), (1, .ref l1), (2, .int (0 : Int32)), (3, .int (0 : Int32))]) rfl (by decide) [1, 2, 3, 0] rfl ?_
  exact (wB_X12_twice_4 X hQ F _ _ _ _ _ h)
theorem c_X12_twice {G : mG} {F sz : Nat} {M0 : mM} (l : Launch) (D : mD) (A : Nat → Prop) {l0 : Nat} {l1 : Nat} {M : mM} (h : P_X12_twice G F l0 l1 M = some M0) : mMetV l D G A yX12_twice cX12_twice 5 none 1 26 0 0 [.ref l0, .ref l1] M sz M0 sz := mMetV_of l D G A (by decide) (Nat.le_of_ble_eq_true rfl) (fun x X hQ => wP_X12_twice X hQ h)
/-! SealedTokensModel$Mod.set([BII)V -/
theorem dX12_set_0 : decode cX12_set 0 = .ok (.aload_n 0, 1) := by decide +kernel
theorem dX12_set_1 : decode cX12_set 1 = .ok (.iload_n 3, 1) := by decide +kernel
theorem dX12_set_2 : decode cX12_set 2 = .ok (.iconst 3, 1) := by decide +kernel
theorem dX12_set_3 : decode cX12_set 3 = .ok (.iadd, 1) := by decide +kernel
theorem dX12_set_4 : decode cX12_set 4 = .ok (.iconst 4, 1) := by decide +kernel
theorem dX12_set_5 : decode cX12_set 5 = .ok (.idiv, 1) := by decide +kernel
theorem dX12_set_6 : decode cX12_set 6 = .ok (.putfield 31, 3) := by decide +kernel
theorem dX12_set_9 : decode cX12_set 9 = .ok (.aload_n 0, 1) := by decide +kernel
theorem dX12_set_10 : decode cX12_set 10 = .ok (.aload_n 1, 1) := by decide +kernel
theorem dX12_set_11 : decode cX12_set 11 = .ok (.iload_n 2, 1) := by decide +kernel
theorem dX12_set_12 : decode cX12_set 12 = .ok (.iload_n 3, 1) := by decide +kernel
theorem dX12_set_13 : decode cX12_set 13 = .ok (.aload_n 0, 1) := by decide +kernel
theorem dX12_set_14 : decode cX12_set 14 = .ok (.getfield 7, 3) := by decide +kernel
theorem dX12_set_17 : decode cX12_set 17 = .ok (.invokevirtual 35, 3) := by decide +kernel
theorem dX12_set_20 : decode cX12_set 20 = .ok (.iconst 1, 1) := by decide +kernel
theorem dX12_set_21 : decode cX12_set 21 = .ok (.istore 4, 2) := by decide +kernel
theorem dX12_set_23 : decode cX12_set 23 = .ok (.iconst 0, 1) := by decide +kernel
theorem dX12_set_24 : decode cX12_set 24 = .ok (.istore 5, 2) := by decide +kernel
theorem dX12_set_26 : decode cX12_set 26 = .ok (.iload 5, 2) := by decide +kernel
theorem dX12_set_28 : decode cX12_set 28 = .ok (.iconst 5, 1) := by decide +kernel
theorem dX12_set_29 : decode cX12_set 29 = .ok (.if_icmp .ge 25, 3) := by decide +kernel
theorem dX12_set_32 : decode cX12_set 32 = .ok (.iload 4, 2) := by decide +kernel
theorem dX12_set_34 : decode cX12_set 34 = .ok (.iconst 2, 1) := by decide +kernel
theorem dX12_set_35 : decode cX12_set 35 = .ok (.aload_n 0, 1) := by decide +kernel
theorem dX12_set_36 : decode cX12_set 36 = .ok (.getfield 7, 3) := by decide +kernel
theorem dX12_set_39 : decode cX12_set 39 = .ok (.iconst 0, 1) := by decide +kernel
theorem dX12_set_40 : decode cX12_set 40 = .ok (.iaload, 1) := by decide +kernel
theorem dX12_set_41 : decode cX12_set 41 = .ok (.iload 4, 2) := by decide +kernel
theorem dX12_set_43 : decode cX12_set 43 = .ok (.imul, 1) := by decide +kernel
theorem dX12_set_44 : decode cX12_set 44 = .ok (.isub, 1) := by decide +kernel
theorem dX12_set_45 : decode cX12_set 45 = .ok (.imul, 1) := by decide +kernel
theorem dX12_set_46 : decode cX12_set 46 = .ok (.istore 4, 2) := by decide +kernel
theorem dX12_set_48 : decode cX12_set 48 = .ok (.iinc 5 1, 3) := by decide +kernel
theorem dX12_set_51 : decode cX12_set 51 = .ok (.goto (-25), 3) := by decide +kernel
theorem dX12_set_54 : decode cX12_set 54 = .ok (.aload_n 0, 1) := by decide +kernel
theorem dX12_set_55 : decode cX12_set 55 = .ok (.iload 4, 2) := by decide +kernel
theorem dX12_set_57 : decode cX12_set 57 = .ok (.ineg, 1) := by decide +kernel
theorem dX12_set_58 : decode cX12_set 58 = .ok (.putfield 39, 3) := by decide +kernel
theorem dX12_set_61 : decode cX12_set 61 = .ok (.iconst 0, 1) := by decide +kernel
theorem dX12_set_62 : decode cX12_set 62 = .ok (.istore 5, 2) := by decide +kernel
theorem dX12_set_64 : decode cX12_set 64 = .ok (.iload 5, 2) := by decide +kernel
theorem dX12_set_66 : decode cX12_set 66 = .ok (.aload_n 0, 1) := by decide +kernel
theorem dX12_set_67 : decode cX12_set 67 = .ok (.getfield 31, 3) := by decide +kernel
theorem dX12_set_70 : decode cX12_set 70 = .ok (.if_icmp .ge 17, 3) := by decide +kernel
theorem dX12_set_73 : decode cX12_set 73 = .ok (.aload_n 0, 1) := by decide +kernel
theorem dX12_set_74 : decode cX12_set 74 = .ok (.getfield 13, 3) := by decide +kernel
theorem dX12_set_77 : decode cX12_set 77 = .ok (.iload 5, 2) := by decide +kernel
theorem dX12_set_79 : decode cX12_set 79 = .ok (.iconst 0, 1) := by decide +kernel
theorem dX12_set_80 : decode cX12_set 80 = .ok (.iastore, 1) := by decide +kernel
theorem dX12_set_81 : decode cX12_set 81 = .ok (.iinc 5 1, 3) := by decide +kernel
theorem dX12_set_84 : decode cX12_set 84 = .ok (.goto (-20), 3) := by decide +kernel
theorem dX12_set_87 : decode cX12_set 87 = .ok (.aload_n 0, 1) := by decide +kernel
theorem dX12_set_88 : decode cX12_set 88 = .ok (.getfield 13, 3) := by decide +kernel
theorem dX12_set_91 : decode cX12_set 91 = .ok (.iconst 0, 1) := by decide +kernel
theorem dX12_set_92 : decode cX12_set 92 = .ok (.iconst 1, 1) := by decide +kernel
theorem dX12_set_93 : decode cX12_set 93 = .ok (.iastore, 1) := by decide +kernel
theorem dX12_set_94 : decode cX12_set 94 = .ok (.iconst 0, 1) := by decide +kernel
theorem dX12_set_95 : decode cX12_set 95 = .ok (.istore 5, 2) := by decide +kernel
theorem dX12_set_97 : decode cX12_set 97 = .ok (.iload 5, 2) := by decide +kernel
theorem dX12_set_99 : decode cX12_set 99 = .ok (.bipush 32, 2) := by decide +kernel
theorem dX12_set_101 : decode cX12_set 101 = .ok (.aload_n 0, 1) := by decide +kernel
theorem dX12_set_102 : decode cX12_set 102 = .ok (.getfield 31, 3) := by decide +kernel
theorem dX12_set_105 : decode cX12_set 105 = .ok (.imul, 1) := by decide +kernel
theorem dX12_set_106 : decode cX12_set 106 = .ok (.if_icmp .ge 17, 3) := by decide +kernel
theorem dX12_set_109 : decode cX12_set 109 = .ok (.aload_n 0, 1) := by decide +kernel
theorem dX12_set_110 : decode cX12_set 110 = .ok (.aload_n 0, 1) := by decide +kernel
theorem dX12_set_111 : decode cX12_set 111 = .ok (.getfield 13, 3) := by decide +kernel
theorem dX12_set_114 : decode cX12_set 114 = .ok (.invokevirtual 42, 3) := by decide +kernel
theorem dX12_set_117 : decode cX12_set 117 = .ok (.iinc 5 1, 3) := by decide +kernel
theorem dX12_set_120 : decode cX12_set 120 = .ok (.goto (-23), 3) := by decide +kernel
theorem dX12_set_123 : decode cX12_set 123 = .ok (.iconst 0, 1) := by decide +kernel
theorem dX12_set_124 : decode cX12_set 124 = .ok (.istore 5, 2) := by decide +kernel
theorem dX12_set_126 : decode cX12_set 126 = .ok (.iload 5, 2) := by decide +kernel
theorem dX12_set_128 : decode cX12_set 128 = .ok (.aload_n 0, 1) := by decide +kernel
theorem dX12_set_129 : decode cX12_set 129 = .ok (.getfield 31, 3) := by decide +kernel
theorem dX12_set_132 : decode cX12_set 132 = .ok (.if_icmp .ge 23, 3) := by decide +kernel
theorem dX12_set_135 : decode cX12_set 135 = .ok (.aload_n 0, 1) := by decide +kernel
theorem dX12_set_136 : decode cX12_set 136 = .ok (.getfield 16, 3) := by decide +kernel
theorem dX12_set_139 : decode cX12_set 139 = .ok (.iload 5, 2) := by decide +kernel
theorem dX12_set_141 : decode cX12_set 141 = .ok (.aload_n 0, 1) := by decide +kernel
theorem dX12_set_142 : decode cX12_set 142 = .ok (.getfield 13, 3) := by decide +kernel
theorem dX12_set_145 : decode cX12_set 145 = .ok (.iload 5, 2) := by decide +kernel
theorem dX12_set_147 : decode cX12_set 147 = .ok (.iaload, 1) := by decide +kernel
theorem dX12_set_148 : decode cX12_set 148 = .ok (.iastore, 1) := by decide +kernel
theorem dX12_set_149 : decode cX12_set 149 = .ok (.iinc 5 1, 3) := by decide +kernel
theorem dX12_set_152 : decode cX12_set 152 = .ok (.goto (-26), 3) := by decide +kernel
theorem dX12_set_155 : decode cX12_set 155 = .ok (.iconst 0, 1) := by decide +kernel
theorem dX12_set_156 : decode cX12_set 156 = .ok (.istore 5, 2) := by decide +kernel
theorem dX12_set_158 : decode cX12_set 158 = .ok (.iload 5, 2) := by decide +kernel
theorem dX12_set_160 : decode cX12_set 160 = .ok (.bipush 32, 2) := by decide +kernel
theorem dX12_set_162 : decode cX12_set 162 = .ok (.aload_n 0, 1) := by decide +kernel
theorem dX12_set_163 : decode cX12_set 163 = .ok (.getfield 31, 3) := by decide +kernel
theorem dX12_set_166 : decode cX12_set 166 = .ok (.imul, 1) := by decide +kernel
theorem dX12_set_167 : decode cX12_set 167 = .ok (.if_icmp .ge 17, 3) := by decide +kernel
theorem dX12_set_170 : decode cX12_set 170 = .ok (.aload_n 0, 1) := by decide +kernel
theorem dX12_set_171 : decode cX12_set 171 = .ok (.aload_n 0, 1) := by decide +kernel
theorem dX12_set_172 : decode cX12_set 172 = .ok (.getfield 16, 3) := by decide +kernel
theorem dX12_set_175 : decode cX12_set 175 = .ok (.invokevirtual 42, 3) := by decide +kernel
theorem dX12_set_178 : decode cX12_set 178 = .ok (.iinc 5 1, 3) := by decide +kernel
theorem dX12_set_181 : decode cX12_set 181 = .ok (.goto (-23), 3) := by decide +kernel
theorem dX12_set_184 : decode cX12_set 184 = .ok (.return_, 1) := by decide +kernel
abbrev rmX12_set : Room := { frames := 2, cells := 0, slots := 0, locals := 50 }
set_option maxHeartbeats 4000000 in
set_option maxRecDepth 100000 in
theorem wB_X12_set_158 {G : mG} {F : Nat} {x : mXT} {sz : Nat} {M0 : mM} (X : mCX G RX12 cX12_set 6 none "set" rmX12_set x) (hQ : mQV x M0 (sz, 0, 0)) : ∀ (n : Nat) (l0 : Nat) (l5 : Int32) (M : mM), B_X12_set_158 G F n l0 l5 M = some M0 → WW x (sz, 0, 0) M 158 [(0, .ref l0), (5, .int l5)] [] := by
  intro n
  induction n with
  | zero =>
    intro l0 l5 M h
    exact nomatch (show (none : Option mM) = some M0 from h)
  | succ n ih =>
    intro l0 l5 M h
    rw [B_X12_set_158] at h
    refine ww_iload 158 X dX12_set_158 1 rfl ?_
    refine ww_bipush 160 X (v := (32 : Int32)) dX12_set_160 (by decide) ?_
    refine ww_aload_n 162 X dX12_set_162 0 rfl rfl ?_
    obtain ⟨v163, e163, h⟩ := bO_some h
    refine ww_getI 163 X dX12_set_163 fG_X12_31 e163 ?_
    refine ww_imul 166 X dX12_set_166 ?_
    refine ww_icmp_ge 167 184 X dX12_set_167 (by decide) (fun q => ?_) (fun q => ?_)
    · replace h := (if_pos q).symm.trans h
      exact ww_vretE 184 X hQ dX12_set_184 h
    · replace h := (if_neg q).symm.trans h
      refine ww_aload_n 170 X dX12_set_170 0 rfl rfl ?_
      refine ww_aload_n 171 X dX12_set_171 0 rfl rfl ?_
      obtain ⟨v172, e172, h⟩ := bO_some h
      refine ww_getR 172 X dX12_set_172 fG_X12_16 e172 ?_
      obtain ⟨_, f175, h⟩ := bO_some h
      obtain ⟨M175, e175, h⟩ := bO_some h
      refine ww_callVV0 175 X dX12_set_175 mY_X12_twice mL_X12_42 (rcv_spec f175) ⟨_, _, rfl⟩ (by decide) (As := [.ref v172]) (rest := []) rfl rfl ⟨Nat.le_of_ble_eq_true rfl, Nat.le_of_ble_eq_true rfl⟩ (Nat.le_of_ble_eq_true rfl) (fun l D A => c_X12_twice l D A e175) ?_
      refine ww_iinc 178 X dX12_set_178 (lv' := [(0, .ref l0), (5, .int (l5 + 1))]) 1 rfl rfl (by decide) [1, 0] rfl ?_
      refine ww_goto 181 158 X dX12_set_181 (by decide) ?_
      exact (ih _ _ _ h)
set_option maxHeartbeats 4000000 in
set_option maxRecDepth 100000 in
theorem wB_X12_set_126 {G : mG} {F : Nat} {x : mXT} {sz : Nat} {M0 : mM} (X : mCX G RX12 cX12_set 6 none "set" rmX12_set x) (hQ : mQV x M0 (sz, 0, 0)) : ∀ (n : Nat) (l0 : Nat) (l5 : Int32) (M : mM), B_X12_set_126 G F n l0 l5 M = some M0 → WW x (sz, 0, 0) M 126 [(0, .ref l0), (5, .int l5)] [] := by
  intro n
  induction n with
  | zero =>
    intro l0 l5 M h
    exact nomatch (show (none : Option mM) = some M0 from h)
  | succ n ih =>
    intro l0 l5 M h
    rw [B_X12_set_126] at h
    refine ww_iload 126 X dX12_set_126 1 rfl ?_
    refine ww_aload_n 128 X dX12_set_128 0 rfl rfl ?_
    obtain ⟨v129, e129, h⟩ := bO_some h
    refine ww_getI 129 X dX12_set_129 fG_X12_31 e129 ?_
    refine ww_icmp_ge 132 155 X dX12_set_132 (by decide) (fun q => ?_) (fun q => ?_)
    · replace h := (if_pos q).symm.trans h
      refine ww_iconst 155 X (v := (0 : Int32)) dX12_set_155 (by decide) ?_
      refine ww_istore 156 X dX12_set_156 (lv' := [(0, .ref l0), (5, .int (0 : Int32))]) (by decide) [1, 0] rfl ?_
      exact (wB_X12_set_158 X hQ F _ _ _ h)
    · replace h := (if_neg q).symm.trans h
      refine ww_aload_n 135 X dX12_set_135 0 rfl rfl ?_
      obtain ⟨v136, e136, h⟩ := bO_some h
      refine ww_getR 136 X dX12_set_136 fG_X12_16 e136 ?_
      refine ww_iload 139 X dX12_set_139 1 rfl ?_
      refine ww_aload_n 141 X dX12_set_141 0 rfl rfl ?_
      obtain ⟨v142, e142, h⟩ := bO_some h
      refine ww_getR 142 X dX12_set_142 fG_X12_13 e142 ?_
      refine ww_iload 145 X dX12_set_145 1 rfl ?_
      obtain ⟨v147, e147, h⟩ := bO_some h
      refine ww_iald 147 X dX12_set_147 e147 ?_
      obtain ⟨M148, e148, h⟩ := bO_some h
      refine ww_iast 148 X dX12_set_148 e148 ?_
      refine ww_iinc 149 X dX12_set_149 (lv' := [(0, .ref l0), (5, .int (l5 + 1))]) 1 rfl rfl (by decide) [1, 0] rfl ?_
      refine ww_goto 152 126 X dX12_set_152 (by decide) ?_
      exact (ih _ _ _ h)
set_option maxHeartbeats 4000000 in
set_option maxRecDepth 100000 in
theorem wB_X12_set_97 {G : mG} {F : Nat} {x : mXT} {sz : Nat} {M0 : mM} (X : mCX G RX12 cX12_set 6 none "set" rmX12_set x) (hQ : mQV x M0 (sz, 0, 0)) : ∀ (n : Nat) (l0 : Nat) (l5 : Int32) (M : mM), B_X12_set_97 G F n l0 l5 M = some M0 → WW x (sz, 0, 0) M 97 [(0, .ref l0), (5, .int l5)] [] := by
  intro n
  induction n with
  | zero =>
    intro l0 l5 M h
    exact nomatch (show (none : Option mM) = some M0 from h)
  | succ n ih =>
    intro l0 l5 M h
    rw [B_X12_set_97] at h
    refine ww_iload 97 X dX12_set_97 1 rfl ?_
    refine ww_bipush 99 X (v := (32 : Int32)) dX12_set_99 (by decide) ?_
    refine ww_aload_n 101 X dX12_set_101 0 rfl rfl ?_
    obtain ⟨v102, e102, h⟩ := bO_some h
    refine ww_getI 102 X dX12_set_102 fG_X12_31 e102 ?_
    refine ww_imul 105 X dX12_set_105 ?_
    refine ww_icmp_ge 106 123 X dX12_set_106 (by decide) (fun q => ?_) (fun q => ?_)
    · replace h := (if_pos q).symm.trans h
      refine ww_iconst 123 X (v := (0 : Int32)) dX12_set_123 (by decide) ?_
      refine ww_istore 124 X dX12_set_124 (lv' := [(0, .ref l0), (5, .int (0 : Int32))]) (by decide) [1, 0] rfl ?_
      exact (wB_X12_set_126 X hQ F _ _ _ h)
    · replace h := (if_neg q).symm.trans h
      refine ww_aload_n 109 X dX12_set_109 0 rfl rfl ?_
      refine ww_aload_n 110 X dX12_set_110 0 rfl rfl ?_
      obtain ⟨v111, e111, h⟩ := bO_some h
      refine ww_getR 111 X dX12_set_111 fG_X12_13 e111 ?_
      obtain ⟨_, f114, h⟩ := bO_some h
      obtain ⟨M114, e114, h⟩ := bO_some h
      refine ww_callVV0 114 X dX12_set_114 mY_X12_twice mL_X12_42 (rcv_spec f114) ⟨_, _, rfl⟩ (by decide) (As := [.ref v111]) (rest := []) rfl rfl ⟨Nat.le_of_ble_eq_true rfl, Nat.le_of_ble_eq_true rfl⟩ (Nat.le_of_ble_eq_true rfl) (fun l D A => c_X12_twice l D A e114) ?_
      refine ww_iinc 117 X dX12_set_117 (lv' := [(0, .ref l0), (5, .int (l5 + 1))]) 1 rfl rfl (by decide) [1, 0] rfl ?_
      refine ww_goto 120 97 X dX12_set_120 (by decide) ?_
      exact (ih _ _ _ h)
set_option maxHeartbeats 4000000 in
set_option maxRecDepth 100000 in
theorem wB_X12_set_64 {G : mG} {F : Nat} {x : mXT} {sz : Nat} {M0 : mM} (X : mCX G RX12 cX12_set 6 none "set" rmX12_set x) (hQ : mQV x M0 (sz, 0, 0)) : ∀ (n : Nat) (l0 : Nat) (l5 : Int32) (M : mM), B_X12_set_64 G F n l0 l5 M = some M0 → WW x (sz, 0, 0) M 64 [(0, .ref l0), (5, .int l5)] [] := by
  intro n
  induction n with
  | zero =>
    intro l0 l5 M h
    exact nomatch (show (none : Option mM) = some M0 from h)
  | succ n ih =>
    intro l0 l5 M h
    rw [B_X12_set_64] at h
    refine ww_iload 64 X dX12_set_64 1 rfl ?_
    refine ww_aload_n 66 X dX12_set_66 0 rfl rfl ?_
    obtain ⟨v67, e67, h⟩ := bO_some h
    refine ww_getI 67 X dX12_set_67 fG_X12_31 e67 ?_
    refine ww_icmp_ge 70 87 X dX12_set_70 (by decide) (fun q => ?_) (fun q => ?_)
    · replace h := (if_pos q).symm.trans h
      refine ww_aload_n 87 X dX12_set_87 0 rfl rfl ?_
      obtain ⟨v88, e88, h⟩ := bO_some h
      refine ww_getR 88 X dX12_set_88 fG_X12_13 e88 ?_
      refine ww_iconst 91 X (v := (0 : Int32)) dX12_set_91 (by decide) ?_
      refine ww_iconst 92 X (v := (1 : Int32)) dX12_set_92 (by decide) ?_
      obtain ⟨M93, e93, h⟩ := bO_some h
      refine ww_iast 93 X dX12_set_93 e93 ?_
      refine ww_iconst 94 X (v := (0 : Int32)) dX12_set_94 (by decide) ?_
      refine ww_istore 95 X dX12_set_95 (lv' := [(0, .ref l0), (5, .int (0 : Int32))]) (by decide) [1, 0] rfl ?_
      exact (wB_X12_set_97 X hQ F _ _ _ h)
    · replace h := (if_neg q).symm.trans h
      refine ww_aload_n 73 X dX12_set_73 0 rfl rfl ?_
      obtain ⟨v74, e74, h⟩ := bO_some h
      refine ww_getR 74 X dX12_set_74 fG_X12_13 e74 ?_
      refine ww_iload 77 X dX12_set_77 1 rfl ?_
      refine ww_iconst 79 X (v := (0 : Int32)) dX12_set_79 (by decide) ?_
      obtain ⟨M80, e80, h⟩ := bO_some h
      refine ww_iast 80 X dX12_set_80 e80 ?_
      refine ww_iinc 81 X dX12_set_81 (lv' := [(0, .ref l0), (5, .int (l5 + 1))]) 1 rfl rfl (by decide) [1, 0] rfl ?_
      refine ww_goto 84 64 X dX12_set_84 (by decide) ?_
      exact (ih _ _ _ h)
set_option maxHeartbeats 4000000 in
set_option maxRecDepth 100000 in
theorem wB_X12_set_26 {G : mG} {F : Nat} {x : mXT} {sz : Nat} {M0 : mM} (X : mCX G RX12 cX12_set 6 none "set" rmX12_set x) (hQ : mQV x M0 (sz, 0, 0)) : ∀ (n : Nat) (l0 : Nat) (l4 : Int32) (l5 : Int32) (M : mM), B_X12_set_26 G F n l0 l4 l5 M = some M0 → WW x (sz, 0, 0) M 26 [(0, .ref l0), (4, .int l4), (5, .int l5)] [] := by
  intro n
  induction n with
  | zero =>
    intro l0 l4 l5 M h
    exact nomatch (show (none : Option mM) = some M0 from h)
  | succ n ih =>
    intro l0 l4 l5 M h
    rw [B_X12_set_26] at h
    refine ww_iload 26 X dX12_set_26 2 rfl ?_
    refine ww_iconst 28 X (v := (5 : Int32)) dX12_set_28 (by decide) ?_
    refine ww_icmp_ge 29 54 X dX12_set_29 (by decide) (fun q => ?_) (fun q => ?_)
    · replace h := (if_pos q).symm.trans h
      refine ww_aload_n 54 X dX12_set_54 0 rfl rfl ?_
      refine ww_iload 55 X dX12_set_55 1 rfl ?_
      refine ww_ineg 57 X dX12_set_57 ?_
      obtain ⟨M58, e58, h⟩ := bO_some h
      refine ww_putI 58 X dX12_set_58 (fP_X12_39 _) e58 ?_
      refine ww_iconst 61 X (v := (0 : Int32)) dX12_set_61 (by decide) ?_
      refine ww_istore 62 X dX12_set_62 (lv' := [(0, .ref l0), (4, .int l4), (5, .int (0 : Int32))]) (by decide) [1, 2, 0] rfl ?_
      exact ww_sub [0, 2] rfl (wB_X12_set_64 X hQ F _ _ _ h)
    · replace h := (if_neg q).symm.trans h
      refine ww_iload 32 X dX12_set_32 1 rfl ?_
      refine ww_iconst 34 X (v := (2 : Int32)) dX12_set_34 (by decide) ?_
      refine ww_aload_n 35 X dX12_set_35 0 rfl rfl ?_
      obtain ⟨v36, e36, h⟩ := bO_some h
      refine ww_getR 36 X dX12_set_36 fG_X12_7 e36 ?_
      refine ww_iconst 39 X (v := (0 : Int32)) dX12_set_39 (by decide) ?_
      obtain ⟨v40, e40, h⟩ := bO_some h
      refine ww_iald 40 X dX12_set_40 e40 ?_
      refine ww_iload 41 X dX12_set_41 1 rfl ?_
      refine ww_imul 43 X dX12_set_43 ?_
      refine ww_isub 44 X dX12_set_44 ?_
      refine ww_imul 45 X dX12_set_45 ?_
      refine ww_istore 46 X dX12_set_46 (lv' := [(0, .ref l0), (4, .int (l4 * ((2 : Int32) - (v40 * l4)))), (5, .int l5)]) (by decide) [1, 0, 2] rfl ?_
      refine ww_iinc 48 X dX12_set_48 (lv' := [(0, .ref l0), (4, .int (l4 * ((2 : Int32) - (v40 * l4)))), (5, .int (l5 + 1))]) 2 rfl rfl (by decide) [1, 2, 0] rfl ?_
      refine ww_goto 51 26 X dX12_set_51 (by decide) ?_
      exact (ih _ _ _ _ h)
set_option maxHeartbeats 4000000 in
set_option maxRecDepth 100000 in
theorem wP_X12_set {G : mG} {F : Nat} {x : mXT} {sz : Nat} {M0 : mM} (X : mCX G RX12 cX12_set 6 none "set" rmX12_set x) (hQ : mQV x M0 (sz, 0, 0)) {l0 : Nat} {l1 : Nat} {l2 : Int32} {l3 : Int32} {M : mM} (h : P_X12_set G F l0 l1 l2 l3 M = some M0) : WW x (sz, 0, 0) M 0 [(0, .ref l0), (1, .ref l1), (2, .int l2), (3, .int l3)] [] := by
  unfold P_X12_set at h
  refine ww_aload_n 0 X dX12_set_0 0 rfl rfl ?_
  refine ww_iload_n 1 X dX12_set_1 3 rfl rfl ?_
  refine ww_iconst 2 X (v := (3 : Int32)) dX12_set_2 (by decide) ?_
  refine ww_iadd 3 X dX12_set_3 ?_
  refine ww_iconst 4 X (v := (4 : Int32)) dX12_set_4 (by decide) ?_
  refine ww_idiv 5 X (v := ((l3 + (3 : Int32)) / (4 : Int32))) dX12_set_5 rfl ?_
  obtain ⟨M6, e6, h⟩ := bO_some h
  refine ww_putI 6 X dX12_set_6 (fP_X12_31 _) e6 ?_
  refine ww_aload_n 9 X dX12_set_9 0 rfl rfl ?_
  refine ww_aload_n 10 X dX12_set_10 1 rfl rfl ?_
  refine ww_iload_n 11 X dX12_set_11 2 rfl rfl ?_
  refine ww_iload_n 12 X dX12_set_12 3 rfl rfl ?_
  refine ww_aload_n 13 X dX12_set_13 0 rfl rfl ?_
  obtain ⟨v14, e14, h⟩ := bO_some h
  refine ww_getR 14 X dX12_set_14 fG_X12_7 e14 ?_
  obtain ⟨_, f17, h⟩ := bO_some h
  obtain ⟨M17, e17, h⟩ := bO_some h
  refine ww_callVV0 17 X dX12_set_17 mY_X12_load mL_X12_35 (rcv_spec f17) ⟨_, _, rfl⟩ (by decide) (As := [.ref l1, .int l2, .int l3, .ref v14]) (rest := []) rfl rfl ⟨Nat.le_of_ble_eq_true rfl, Nat.le_of_ble_eq_true rfl⟩ (Nat.le_of_ble_eq_true rfl) (fun l D A => c_X12_load l D A e17) ?_
  refine ww_iconst 20 X (v := (1 : Int32)) dX12_set_20 (by decide) ?_
  refine ww_istore 21 X dX12_set_21 (lv' := [(0, .ref l0), (1, .ref l1), (2, .int l2), (3, .int l3), (4, .int (1 : Int32))]) (by decide) [1, 2, 3, 4, 0] rfl ?_
  refine ww_iconst 23 X (v := (0 : Int32)) dX12_set_23 (by decide) ?_
  refine ww_istore 24 X dX12_set_24 (lv' := [(0, .ref l0), (1, .ref l1), (2, .int l2), (3, .int l3), (4, .int (1 : Int32)), (5, .int (0 : Int32))]) (by decide) [1, 2, 3, 4, 5, 0] rfl ?_
  exact ww_sub [0, 4, 5] rfl (wB_X12_set_26 X hQ F _ _ _ _ h)
theorem c_X12_set {G : mG} {F sz : Nat} {M0 : mM} (l : Launch) (D : mD) (A : Nat → Prop) {l0 : Nat} {l1 : Nat} {l2 : Int32} {l3 : Int32} {M : mM} (h : P_X12_set G F l0 l1 l2 l3 M = some M0) : mMetV l D G A yX12_set cX12_set 6 none 2 50 0 0 [.ref l0, .ref l1, .int l2, .int l3] M sz M0 sz := mMetV_of l D G A (by decide) (Nat.le_of_ble_eq_true rfl) (fun x X hQ => wP_X12_set X hQ h)
/-! SealedTokensModel$Mod.store([I[BII)V -/
theorem dX12_store_0 : decode cX12_store 0 = .ok (.iconst 0, 1) := by decide +kernel
theorem dX12_store_1 : decode cX12_store 1 = .ok (.istore 5, 2) := by decide +kernel
theorem dX12_store_3 : decode cX12_store 3 = .ok (.iload 5, 2) := by decide +kernel
theorem dX12_store_5 : decode cX12_store 5 = .ok (.iload 4, 2) := by decide +kernel
theorem dX12_store_7 : decode cX12_store 7 = .ok (.if_icmp .ge 35, 3) := by decide +kernel
theorem dX12_store_10 : decode cX12_store 10 = .ok (.aload_n 2, 1) := by decide +kernel
theorem dX12_store_11 : decode cX12_store 11 = .ok (.iload_n 3, 1) := by decide +kernel
theorem dX12_store_12 : decode cX12_store 12 = .ok (.iload 4, 2) := by decide +kernel
theorem dX12_store_14 : decode cX12_store 14 = .ok (.iadd, 1) := by decide +kernel
theorem dX12_store_15 : decode cX12_store 15 = .ok (.iconst 1, 1) := by decide +kernel
theorem dX12_store_16 : decode cX12_store 16 = .ok (.isub, 1) := by decide +kernel
theorem dX12_store_17 : decode cX12_store 17 = .ok (.iload 5, 2) := by decide +kernel
theorem dX12_store_19 : decode cX12_store 19 = .ok (.isub, 1) := by decide +kernel
theorem dX12_store_20 : decode cX12_store 20 = .ok (.aload_n 1, 1) := by decide +kernel
theorem dX12_store_21 : decode cX12_store 21 = .ok (.iload 5, 2) := by decide +kernel
theorem dX12_store_23 : decode cX12_store 23 = .ok (.iconst 4, 1) := by decide +kernel
theorem dX12_store_24 : decode cX12_store 24 = .ok (.idiv, 1) := by decide +kernel
theorem dX12_store_25 : decode cX12_store 25 = .ok (.iaload, 1) := by decide +kernel
theorem dX12_store_26 : decode cX12_store 26 = .ok (.bipush 8, 2) := by decide +kernel
theorem dX12_store_28 : decode cX12_store 28 = .ok (.iload 5, 2) := by decide +kernel
theorem dX12_store_30 : decode cX12_store 30 = .ok (.iconst 4, 1) := by decide +kernel
theorem dX12_store_31 : decode cX12_store 31 = .ok (.irem, 1) := by decide +kernel
theorem dX12_store_32 : decode cX12_store 32 = .ok (.imul, 1) := by decide +kernel
theorem dX12_store_33 : decode cX12_store 33 = .ok (.iushr, 1) := by decide +kernel
theorem dX12_store_34 : decode cX12_store 34 = .ok (.i2b, 1) := by decide +kernel
theorem dX12_store_35 : decode cX12_store 35 = .ok (.bastore, 1) := by decide +kernel
theorem dX12_store_36 : decode cX12_store 36 = .ok (.iinc 5 1, 3) := by decide +kernel
theorem dX12_store_39 : decode cX12_store 39 = .ok (.goto (-36), 3) := by decide +kernel
theorem dX12_store_42 : decode cX12_store 42 = .ok (.return_, 1) := by decide +kernel
abbrev rmX12_store : Room := { frames := 0, cells := 0, slots := 0, locals := 0 }
set_option maxHeartbeats 4000000 in
set_option maxRecDepth 100000 in
theorem wB_X12_store_3 {G : mG} {F : Nat} {x : mXT} {sz : Nat} {M0 : mM} (X : mCX G RX12 cX12_store 6 none "store" rmX12_store x) (hQ : mQV x M0 (sz, 0, 0)) : ∀ (n : Nat) (l1 : Nat) (l2 : Nat) (l3 : Int32) (l4 : Int32) (l5 : Int32) (M : mM), B_X12_store_3 G F n l1 l2 l3 l4 l5 M = some M0 → WW x (sz, 0, 0) M 3 [(1, .ref l1), (2, .ref l2), (3, .int l3), (4, .int l4), (5, .int l5)] [] := by
  intro n
  induction n with
  | zero =>
    intro l1 l2 l3 l4 l5 M h
    exact nomatch (show (none : Option mM) = some M0 from h)
  | succ n ih =>
    intro l1 l2 l3 l4 l5 M h
    rw [B_X12_store_3] at h
    refine ww_iload 3 X dX12_store_3 4 rfl ?_
    refine ww_iload 5 X dX12_store_5 3 rfl ?_
    refine ww_icmp_ge 7 42 X dX12_store_7 (by decide) (fun q => ?_) (fun q => ?_)
    · replace h := (if_pos q).symm.trans h
      exact ww_vretE 42 X hQ dX12_store_42 h
    · replace h := (if_neg q).symm.trans h
      refine ww_aload_n 10 X dX12_store_10 1 rfl rfl ?_
      refine ww_iload_n 11 X dX12_store_11 2 rfl rfl ?_
      refine ww_iload 12 X dX12_store_12 3 rfl ?_
      refine ww_iadd 14 X dX12_store_14 ?_
      refine ww_iconst 15 X (v := (1 : Int32)) dX12_store_15 (by decide) ?_
      refine ww_isub 16 X dX12_store_16 ?_
      refine ww_iload 17 X dX12_store_17 4 rfl ?_
      refine ww_isub 19 X dX12_store_19 ?_
      refine ww_aload_n 20 X dX12_store_20 0 rfl rfl ?_
      refine ww_iload 21 X dX12_store_21 4 rfl ?_
      refine ww_iconst 23 X (v := (4 : Int32)) dX12_store_23 (by decide) ?_
      refine ww_idiv 24 X (v := (l5 / (4 : Int32))) dX12_store_24 rfl ?_
      obtain ⟨v25, e25, h⟩ := bO_some h
      refine ww_iald 25 X dX12_store_25 e25 ?_
      refine ww_bipush 26 X (v := (8 : Int32)) dX12_store_26 (by decide) ?_
      refine ww_iload 28 X dX12_store_28 4 rfl ?_
      refine ww_iconst 30 X (v := (4 : Int32)) dX12_store_30 (by decide) ?_
      refine ww_irem 31 X (v := (l5 - l5 / (4 : Int32) * (4 : Int32))) dX12_store_31 rfl ?_
      refine ww_imul 32 X dX12_store_32 ?_
      refine ww_iushr 33 X dX12_store_33 ?_
      refine ww_i2b 34 X dX12_store_34 ?_
      obtain ⟨M35, e35, h⟩ := bO_some h
      refine ww_bast 35 X dX12_store_35 e35 ?_
      refine ww_iinc 36 X dX12_store_36 (lv' := [(1, .ref l1), (2, .ref l2), (3, .int l3), (4, .int l4), (5, .int (l5 + 1))]) 4 rfl rfl (by decide) [1, 2, 3, 4, 0] rfl ?_
      refine ww_goto 39 3 X dX12_store_39 (by decide) ?_
      exact (ih _ _ _ _ _ _ h)
set_option maxHeartbeats 4000000 in
set_option maxRecDepth 100000 in
theorem wP_X12_store {G : mG} {F : Nat} {x : mXT} {sz : Nat} {M0 : mM} (X : mCX G RX12 cX12_store 6 none "store" rmX12_store x) (hQ : mQV x M0 (sz, 0, 0)) {l0 : Nat} {l1 : Nat} {l2 : Nat} {l3 : Int32} {l4 : Int32} {M : mM} (h : P_X12_store G F l0 l1 l2 l3 l4 M = some M0) : WW x (sz, 0, 0) M 0 [(0, .ref l0), (1, .ref l1), (2, .ref l2), (3, .int l3), (4, .int l4)] [] := by
  unfold P_X12_store at h
  refine ww_iconst 0 X (v := (0 : Int32)) dX12_store_0 (by decide) ?_
  refine ww_istore 1 X dX12_store_1 (lv' := [(0, .ref l0), (1, .ref l1), (2, .ref l2), (3, .int l3), (4, .int l4), (5, .int (0 : Int32))]) (by decide) [1, 2, 3, 4, 5, 0] rfl ?_
  exact ww_sub [1, 2, 3, 4, 5] rfl (wB_X12_store_3 X hQ F _ _ _ _ _ _ h)
theorem c_X12_store {G : mG} {F sz : Nat} {M0 : mM} (l : Launch) (D : mD) (A : Nat → Prop) {l0 : Nat} {l1 : Nat} {l2 : Nat} {l3 : Int32} {l4 : Int32} {M : mM} (h : P_X12_store G F l0 l1 l2 l3 l4 M = some M0) : mMetV l D G A yX12_store cX12_store 6 none 0 0 0 0 [.ref l0, .ref l1, .ref l2, .int l3, .int l4] M sz M0 sz := mMetV_of l D G A (by decide) (Nat.le_of_ble_eq_true rfl) (fun x X hQ => wP_X12_store X hQ h)
/-! SealedTokensModel$Mod.isZero([I)Z -/
theorem dX12_isZero_0 : decode cX12_isZero 0 = .ok (.iconst 1, 1) := by decide +kernel
theorem dX12_isZero_1 : decode cX12_isZero 1 = .ok (.istore_n 2, 1) := by decide +kernel
theorem dX12_isZero_2 : decode cX12_isZero 2 = .ok (.iconst 0, 1) := by decide +kernel
theorem dX12_isZero_3 : decode cX12_isZero 3 = .ok (.istore_n 3, 1) := by decide +kernel
theorem dX12_isZero_4 : decode cX12_isZero 4 = .ok (.iload_n 3, 1) := by decide +kernel
theorem dX12_isZero_5 : decode cX12_isZero 5 = .ok (.aload_n 0, 1) := by decide +kernel
theorem dX12_isZero_6 : decode cX12_isZero 6 = .ok (.getfield 31, 3) := by decide +kernel
theorem dX12_isZero_9 : decode cX12_isZero 9 = .ok (.if_icmp .ge 25, 3) := by decide +kernel
theorem dX12_isZero_12 : decode cX12_isZero 12 = .ok (.iload_n 2, 1) := by decide +kernel
theorem dX12_isZero_13 : decode cX12_isZero 13 = .ok (.ifCond .eq 13, 3) := by decide +kernel
theorem dX12_isZero_16 : decode cX12_isZero 16 = .ok (.aload_n 1, 1) := by decide +kernel
theorem dX12_isZero_17 : decode cX12_isZero 17 = .ok (.iload_n 3, 1) := by decide +kernel
theorem dX12_isZero_18 : decode cX12_isZero 18 = .ok (.iaload, 1) := by decide +kernel
theorem dX12_isZero_19 : decode cX12_isZero 19 = .ok (.ifCond .ne 7, 3) := by decide +kernel
theorem dX12_isZero_22 : decode cX12_isZero 22 = .ok (.iconst 1, 1) := by decide +kernel
theorem dX12_isZero_23 : decode cX12_isZero 23 = .ok (.goto 4, 3) := by decide +kernel
theorem dX12_isZero_26 : decode cX12_isZero 26 = .ok (.iconst 0, 1) := by decide +kernel
theorem dX12_isZero_27 : decode cX12_isZero 27 = .ok (.istore_n 2, 1) := by decide +kernel
theorem dX12_isZero_28 : decode cX12_isZero 28 = .ok (.iinc 3 1, 3) := by decide +kernel
theorem dX12_isZero_31 : decode cX12_isZero 31 = .ok (.goto (-27), 3) := by decide +kernel
theorem dX12_isZero_34 : decode cX12_isZero 34 = .ok (.iload_n 2, 1) := by decide +kernel
theorem dX12_isZero_35 : decode cX12_isZero 35 = .ok (.ireturn, 1) := by decide +kernel
abbrev rmX12_isZero : Room := { frames := 0, cells := 0, slots := 0, locals := 0 }
set_option maxHeartbeats 4000000 in
set_option maxRecDepth 100000 in
theorem wB_X12_isZero_4 {G : mG} {F : Nat} {x : mXT} {sz : Nat} {r0 : Int32} {M0 : mM} (X : mCX G RX12 cX12_isZero 4 (some .boolean) "isZero" rmX12_isZero x) (hQ : mQI x r0 M0 (sz, 0, 0)) : ∀ (n : Nat) (l0 : Nat) (l1 : Nat) (l2 : Int32) (l3 : Int32) (M : mM), B_X12_isZero_4 G F n l0 l1 l2 l3 M = some (r0, M0) → WW x (sz, 0, 0) M 4 [(0, .ref l0), (1, .ref l1), (2, .int l2), (3, .int l3)] [] := by
  intro n
  induction n with
  | zero =>
    intro l0 l1 l2 l3 M h
    exact nomatch (show (none : Option (Int32 × mM)) = some (r0, M0) from h)
  | succ n ih =>
    intro l0 l1 l2 l3 M h
    rw [B_X12_isZero_4] at h
    refine ww_iload_n 4 X dX12_isZero_4 3 rfl rfl ?_
    refine ww_aload_n 5 X dX12_isZero_5 0 rfl rfl ?_
    obtain ⟨v6, e6, h⟩ := bO_some h
    refine ww_getI 6 X dX12_isZero_6 fG_X12_31 e6 ?_
    refine ww_icmp_ge 9 34 X dX12_isZero_9 (by decide) (fun q => ?_) (fun q => ?_)
    · replace h := (if_pos q).symm.trans h
      refine ww_iload_n 34 X dX12_isZero_34 2 rfl rfl ?_
      exact ww_zretE 35 X hQ dX12_isZero_35 h
    · replace h := (if_neg q).symm.trans h
      refine ww_iload_n 12 X dX12_isZero_12 2 rfl rfl ?_
      refine ww_if_eq 13 26 X dX12_isZero_13 (by decide) (fun q => ?_) (fun q => ?_)
      · replace h := (if_pos q).symm.trans h
        refine ww_iconst 26 X (v := (0 : Int32)) dX12_isZero_26 (by decide) ?_
        refine ww_istore_n 27 X dX12_isZero_27 (lv' := [(0, .ref l0), (1, .ref l1), (2, .int (0 : Int32)), (3, .int l3)]) rfl (by decide) [1, 2, 0, 3] rfl ?_
        refine ww_iinc 28 X dX12_isZero_28 (lv' := [(0, .ref l0), (1, .ref l1), (2, .int (0 : Int32)), (3, .int (l3 + 1))]) 3 rfl rfl (by decide) [1, 2, 3, 0] rfl ?_
        refine ww_goto 31 4 X dX12_isZero_31 (by decide) ?_
        exact (ih _ _ _ _ _ h)
      · replace h := (if_neg q).symm.trans h
        refine ww_aload_n 16 X dX12_isZero_16 1 rfl rfl ?_
        refine ww_iload_n 17 X dX12_isZero_17 3 rfl rfl ?_
        obtain ⟨v18, e18, h⟩ := bO_some h
        refine ww_iald 18 X dX12_isZero_18 e18 ?_
        refine ww_if_ne 19 26 X dX12_isZero_19 (by decide) (fun q => ?_) (fun q => ?_)
        · replace h := (if_neg q).symm.trans h
          refine ww_iconst 26 X (v := (0 : Int32)) dX12_isZero_26 (by decide) ?_
          refine ww_istore_n 27 X dX12_isZero_27 (lv' := [(0, .ref l0), (1, .ref l1), (2, .int (0 : Int32)), (3, .int l3)]) rfl (by decide) [1, 2, 0, 3] rfl ?_
          refine ww_iinc 28 X dX12_isZero_28 (lv' := [(0, .ref l0), (1, .ref l1), (2, .int (0 : Int32)), (3, .int (l3 + 1))]) 3 rfl rfl (by decide) [1, 2, 3, 0] rfl ?_
          refine ww_goto 31 4 X dX12_isZero_31 (by decide) ?_
          exact (ih _ _ _ _ _ h)
        · replace h := (if_pos q).symm.trans h
          refine ww_iconst 22 X (v := (1 : Int32)) dX12_isZero_22 (by decide) ?_
          refine ww_goto 23 27 X dX12_isZero_23 (by decide) ?_
          refine ww_istore_n 27 X dX12_isZero_27 (lv' := [(0, .ref l0), (1, .ref l1), (2, .int (1 : Int32)), (3, .int l3)]) rfl (by decide) [1, 2, 0, 3] rfl ?_
          refine ww_iinc 28 X dX12_isZero_28 (lv' := [(0, .ref l0), (1, .ref l1), (2, .int (1 : Int32)), (3, .int (l3 + 1))]) 3 rfl rfl (by decide) [1, 2, 3, 0] rfl ?_
          refine ww_goto 31 4 X dX12_isZero_31 (by decide) ?_
          exact (ih _ _ _ _ _ h)
set_option maxHeartbeats 4000000 in
set_option maxRecDepth 100000 in
theorem wP_X12_isZero {G : mG} {F : Nat} {x : mXT} {sz : Nat} {r0 : Int32} {M0 : mM} (X : mCX G RX12 cX12_isZero 4 (some .boolean) "isZero" rmX12_isZero x) (hQ : mQI x r0 M0 (sz, 0, 0)) {l0 : Nat} {l1 : Nat} {M : mM} (h : P_X12_isZero G F l0 l1 M = some (r0, M0)) : WW x (sz, 0, 0) M 0 [(0, .ref l0), (1, .ref l1)] [] := by
  unfold P_X12_isZero at h
  refine ww_iconst 0 X (v := (1 : Int32)) dX12_isZero_0 (by decide) ?_
  refine ww_istore_n 1 X dX12_isZero_1 (lv' := [(0, .ref l0), (1, .ref l1), (2, .int (1 : Int32))]) rfl (by decide) [1, 2, 0] rfl ?_
  refine ww_iconst 2 X (v := (0 : Int32)) dX12_isZero_2 (by decide) ?_
  refine ww_istore_n 3 X dX12_isZero_3 (lv' := [(0, .ref l0), (1, .ref l1), (2, .int (1 : Int32)), (3, .int (0 : Int32))]) rfl (by decide) [1, 2, 3, 0] rfl ?_
  exact (wB_X12_isZero_4 X hQ F _ _ _ _ _ h)
theorem c_X12_isZero {G : mG} {F sz : Nat} {r0 : Int32} {M0 : mM} (l : Launch) (D : mD) (A : Nat → Prop) {l0 : Nat} {l1 : Nat} {M : mM} (h : P_X12_isZero G F l0 l1 M = some (r0, M0)) : mMetI l D G A yX12_isZero cX12_isZero 4 (some .boolean) 0 0 0 0 [.ref l0, .ref l1] M sz r0 M0 sz := mMetI_of l D G A (by decide) (Nat.le_of_ble_eq_true rfl) (fun x X hQ => wP_X12_isZero X hQ h)
/-! SealedTokensModel$Mod.addOne([I)V -/
theorem dX12_addOne_0 : decode cX12_addOne 0 = .ok (.iconst 0, 1) := by decide +kernel
theorem dX12_addOne_1 : decode cX12_addOne 1 = .ok (.istore_n 2, 1) := by decide +kernel
theorem dX12_addOne_2 : decode cX12_addOne 2 = .ok (.iconst 1, 1) := by decide +kernel
theorem dX12_addOne_3 : decode cX12_addOne 3 = .ok (.istore_n 3, 1) := by decide +kernel
theorem dX12_addOne_4 : decode cX12_addOne 4 = .ok (.iload_n 3, 1) := by decide +kernel
theorem dX12_addOne_5 : decode cX12_addOne 5 = .ok (.ifCond .eq 36, 3) := by decide +kernel
theorem dX12_addOne_8 : decode cX12_addOne 8 = .ok (.iload_n 2, 1) := by decide +kernel
theorem dX12_addOne_9 : decode cX12_addOne 9 = .ok (.aload_n 0, 1) := by decide +kernel
theorem dX12_addOne_10 : decode cX12_addOne 10 = .ok (.getfield 31, 3) := by decide +kernel
theorem dX12_addOne_13 : decode cX12_addOne 13 = .ok (.if_icmp .ge 28, 3) := by decide +kernel
theorem dX12_addOne_16 : decode cX12_addOne 16 = .ok (.aload_n 1, 1) := by decide +kernel
theorem dX12_addOne_17 : decode cX12_addOne 17 = .ok (.iload_n 2, 1) := by decide +kernel
theorem dX12_addOne_18 : decode cX12_addOne 18 = .ok (.dup2, 1) := by decide +kernel
theorem dX12_addOne_19 : decode cX12_addOne 19 = .ok (.iaload, 1) := by decide +kernel
theorem dX12_addOne_20 : decode cX12_addOne 20 = .ok (.iconst 1, 1) := by decide +kernel
theorem dX12_addOne_21 : decode cX12_addOne 21 = .ok (.iadd, 1) := by decide +kernel
theorem dX12_addOne_22 : decode cX12_addOne 22 = .ok (.iastore, 1) := by decide +kernel
theorem dX12_addOne_23 : decode cX12_addOne 23 = .ok (.aload_n 1, 1) := by decide +kernel
theorem dX12_addOne_24 : decode cX12_addOne 24 = .ok (.iload_n 2, 1) := by decide +kernel
theorem dX12_addOne_25 : decode cX12_addOne 25 = .ok (.iaload, 1) := by decide +kernel
theorem dX12_addOne_26 : decode cX12_addOne 26 = .ok (.ifCond .ne 7, 3) := by decide +kernel
theorem dX12_addOne_29 : decode cX12_addOne 29 = .ok (.iconst 1, 1) := by decide +kernel
theorem dX12_addOne_30 : decode cX12_addOne 30 = .ok (.goto 4, 3) := by decide +kernel
theorem dX12_addOne_33 : decode cX12_addOne 33 = .ok (.iconst 0, 1) := by decide +kernel
theorem dX12_addOne_34 : decode cX12_addOne 34 = .ok (.istore_n 3, 1) := by decide +kernel
theorem dX12_addOne_35 : decode cX12_addOne 35 = .ok (.iinc 2 1, 3) := by decide +kernel
theorem dX12_addOne_38 : decode cX12_addOne 38 = .ok (.goto (-34), 3) := by decide +kernel
theorem dX12_addOne_41 : decode cX12_addOne 41 = .ok (.aload_n 0, 1) := by decide +kernel
theorem dX12_addOne_42 : decode cX12_addOne 42 = .ok (.aload_n 1, 1) := by decide +kernel
theorem dX12_addOne_43 : decode cX12_addOne 43 = .ok (.aload_n 0, 1) := by decide +kernel
theorem dX12_addOne_44 : decode cX12_addOne 44 = .ok (.getfield 7, 3) := by decide +kernel
theorem dX12_addOne_47 : decode cX12_addOne 47 = .ok (.invokevirtual 49, 3) := by decide +kernel
theorem dX12_addOne_50 : decode cX12_addOne 50 = .ok (.ifCond .lt 8, 3) := by decide +kernel
theorem dX12_addOne_53 : decode cX12_addOne 53 = .ok (.aload_n 0, 1) := by decide +kernel
theorem dX12_addOne_54 : decode cX12_addOne 54 = .ok (.aload_n 1, 1) := by decide +kernel
theorem dX12_addOne_55 : decode cX12_addOne 55 = .ok (.invokevirtual 53, 3) := by decide +kernel
theorem dX12_addOne_58 : decode cX12_addOne 58 = .ok (.return_, 1) := by decide +kernel
abbrev rmX12_addOne : Room := { frames := 1, cells := 0, slots := 0, locals := 26 }
set_option maxHeartbeats 4000000 in
set_option maxRecDepth 100000 in
theorem wB_X12_addOne_4 {G : mG} {F : Nat} {x : mXT} {sz : Nat} {M0 : mM} (X : mCX G RX12 cX12_addOne 4 none "addOne" rmX12_addOne x) (hQ : mQV x M0 (sz, 0, 0)) : ∀ (n : Nat) (l0 : Nat) (l1 : Nat) (l2 : Int32) (l3 : Int32) (M : mM), B_X12_addOne_4 G F n l0 l1 l2 l3 M = some M0 → WW x (sz, 0, 0) M 4 [(0, .ref l0), (1, .ref l1), (2, .int l2), (3, .int l3)] [] := by
  intro n
  induction n with
  | zero =>
    intro l0 l1 l2 l3 M h
    exact nomatch (show (none : Option mM) = some M0 from h)
  | succ n ih =>
    intro l0 l1 l2 l3 M h
    rw [B_X12_addOne_4] at h
    refine ww_iload_n 4 X dX12_addOne_4 3 rfl rfl ?_
    refine ww_if_eq 5 41 X dX12_addOne_5 (by decide) (fun q => ?_) (fun q => ?_)
    · replace h := (if_pos q).symm.trans h
      refine ww_aload_n 41 X dX12_addOne_41 0 rfl rfl ?_
      refine ww_aload_n 42 X dX12_addOne_42 1 rfl rfl ?_
      refine ww_aload_n 43 X dX12_addOne_43 0 rfl rfl ?_
      obtain ⟨v44, e44, h⟩ := bO_some h
      refine ww_getR 44 X dX12_addOne_44 fG_X12_7 e44 ?_
      obtain ⟨_, f47, h⟩ := bO_some h
      obtain ⟨v47, M47, e47, h⟩ := bP_some h
      refine ww_callVI0 47 X dX12_addOne_47 mY_X12_order mL_X12_49 (rcv_spec f47) ⟨_, _, rfl⟩ (by decide) (As := [.ref l1, .ref v44]) (rest := []) rfl rfl ⟨Nat.le_of_ble_eq_true rfl, Nat.le_of_ble_eq_true rfl⟩ (Nat.le_of_ble_eq_true rfl) (fun l D A => c_X12_order l D A e47) ?_
      refine ww_if_lt 50 58 X dX12_addOne_50 (by decide) (fun q => ?_) (fun q => ?_)
      · replace h := (if_pos q).symm.trans h
        exact ww_vretE 58 X hQ dX12_addOne_58 h
      · replace h := (if_neg q).symm.trans h
        refine ww_aload_n 53 X dX12_addOne_53 0 rfl rfl ?_
        refine ww_aload_n 54 X dX12_addOne_54 1 rfl rfl ?_
        obtain ⟨_, f55, h⟩ := bO_some h
        obtain ⟨M55, e55, h⟩ := bO_some h
        refine ww_callVV0 55 X dX12_addOne_55 mY_X12_less mL_X12_53 (rcv_spec f55) ⟨_, _, rfl⟩ (by decide) (As := [.ref l1]) (rest := []) rfl rfl ⟨Nat.le_of_ble_eq_true rfl, Nat.le_of_ble_eq_true rfl⟩ (Nat.le_of_ble_eq_true rfl) (fun l D A => c_X12_less l D A e55) ?_
        exact ww_vretE 58 X hQ dX12_addOne_58 h
    · replace h := (if_neg q).symm.trans h
      refine ww_iload_n 8 X dX12_addOne_8 2 rfl rfl ?_
      refine ww_aload_n 9 X dX12_addOne_9 0 rfl rfl ?_
      obtain ⟨v10, e10, h⟩ := bO_some h
      refine ww_getI 10 X dX12_addOne_10 fG_X12_31 e10 ?_
      refine ww_icmp_ge 13 41 X dX12_addOne_13 (by decide) (fun q => ?_) (fun q => ?_)
      · replace h := (if_pos q).symm.trans h
        refine ww_aload_n 41 X dX12_addOne_41 0 rfl rfl ?_
        refine ww_aload_n 42 X dX12_addOne_42 1 rfl rfl ?_
        refine ww_aload_n 43 X dX12_addOne_43 0 rfl rfl ?_
        obtain ⟨v44, e44, h⟩ := bO_some h
        refine ww_getR 44 X dX12_addOne_44 fG_X12_7 e44 ?_
        obtain ⟨_, f47, h⟩ := bO_some h
        obtain ⟨v47, M47, e47, h⟩ := bP_some h
        refine ww_callVI0 47 X dX12_addOne_47 mY_X12_order mL_X12_49 (rcv_spec f47) ⟨_, _, rfl⟩ (by decide) (As := [.ref l1, .ref v44]) (rest := []) rfl rfl ⟨Nat.le_of_ble_eq_true rfl, Nat.le_of_ble_eq_true rfl⟩ (Nat.le_of_ble_eq_true rfl) (fun l D A => c_X12_order l D A e47) ?_
        refine ww_if_lt 50 58 X dX12_addOne_50 (by decide) (fun q => ?_) (fun q => ?_)
        · replace h := (if_pos q).symm.trans h
          exact ww_vretE 58 X hQ dX12_addOne_58 h
        · replace h := (if_neg q).symm.trans h
          refine ww_aload_n 53 X dX12_addOne_53 0 rfl rfl ?_
          refine ww_aload_n 54 X dX12_addOne_54 1 rfl rfl ?_
          obtain ⟨_, f55, h⟩ := bO_some h
          obtain ⟨M55, e55, h⟩ := bO_some h
          refine ww_callVV0 55 X dX12_addOne_55 mY_X12_less mL_X12_53 (rcv_spec f55) ⟨_, _, rfl⟩ (by decide) (As := [.ref l1]) (rest := []) rfl rfl ⟨Nat.le_of_ble_eq_true rfl, Nat.le_of_ble_eq_true rfl⟩ (Nat.le_of_ble_eq_true rfl) (fun l D A => c_X12_less l D A e55) ?_
          exact ww_vretE 58 X hQ dX12_addOne_58 h
      · replace h := (if_neg q).symm.trans h
        refine ww_aload_n 16 X dX12_addOne_16 1 rfl rfl ?_
        refine ww_iload_n 17 X dX12_addOne_17 2 rfl rfl ?_
        refine ww_dup2_11 18 X dX12_addOne_18 rfl rfl ?_
        obtain ⟨v19, e19, h⟩ := bO_some h
        refine ww_iald 19 X dX12_addOne_19 e19 ?_
        refine ww_iconst 20 X (v := (1 : Int32)) dX12_addOne_20 (by decide) ?_
        refine ww_iadd 21 X dX12_addOne_21 ?_
        obtain ⟨M22, e22, h⟩ := bO_some h
        refine ww_iast 22 X dX12_addOne_22 e22 ?_
        refine ww_aload_n 23 X dX12_addOne_23 1 rfl rfl ?_
        refine ww_iload_n 24 X dX12_addOne_24 2 rfl rfl ?_
        obtain ⟨v25, e25, h⟩ := bO_some h
        refine ww_iald 25 X dX12_addOne_25 e25 ?_
        refine ww_if_ne 26 33 X dX12_addOne_26 (by decide) (fun q => ?_) (fun q => ?_)
        · replace h := (if_neg q).symm.trans h
          refine ww_iconst 33 X (v := (0 : Int32)) dX12_addOne_33 (by decide) ?_
          refine ww_istore_n 34 X dX12_addOne_34 (lv' := [(0, .ref l0), (1, .ref l1), (2, .int l2), (3, .int (0 : Int32))]) rfl (by decide) [1, 2, 3, 0] rfl ?_
          refine ww_iinc 35 X dX12_addOne_35 (lv' := [(0, .ref l0), (1, .ref l1), (2, .int (l2 + 1)), (3, .int (0 : Int32))]) 2 rfl rfl (by decide) [1, 2, 0, 3] rfl ?_
          refine ww_goto 38 4 X dX12_addOne_38 (by decide) ?_
          exact (ih _ _ _ _ _ h)
        · replace h := (if_pos q).symm.trans h
          refine ww_iconst 29 X (v := (1 : Int32)) dX12_addOne_29 (by decide) ?_
          refine ww_goto 30 34 X dX12_addOne_30 (by decide) ?_
          refine ww_istore_n 34 X dX12_addOne_34 (lv' := [(0, .ref l0), (1, .ref l1), (2, .int l2), (3, .int (1 : Int32))]) rfl (by decide) [1, 2, 3, 0] rfl ?_
          refine ww_iinc 35 X dX12_addOne_35 (lv' := [(0, .ref l0), (1, .ref l1), (2, .int (l2 + 1)), (3, .int (1 : Int32))]) 2 rfl rfl (by decide) [1, 2, 0, 3] rfl ?_
          refine ww_goto 38 4 X dX12_addOne_38 (by decide) ?_
          exact (ih _ _ _ _ _ h)
set_option maxHeartbeats 4000000 in
set_option maxRecDepth 100000 in
theorem wP_X12_addOne {G : mG} {F : Nat} {x : mXT} {sz : Nat} {M0 : mM} (X : mCX G RX12 cX12_addOne 4 none "addOne" rmX12_addOne x) (hQ : mQV x M0 (sz, 0, 0)) {l0 : Nat} {l1 : Nat} {M : mM} (h : P_X12_addOne G F l0 l1 M = some M0) : WW x (sz, 0, 0) M 0 [(0, .ref l0), (1, .ref l1)] [] := by
  unfold P_X12_addOne at h
  refine ww_iconst 0 X (v := (0 : Int32)) dX12_addOne_0 (by decide) ?_
  refine ww_istore_n 1 X dX12_addOne_1 (lv' := [(0, .ref l0), (1, .ref l1), (2, .int (0 : Int32))]) rfl (by decide) [1, 2, 0] rfl ?_
  refine ww_iconst 2 X (v := (1 : Int32)) dX12_addOne_2 (by decide) ?_
  refine ww_istore_n 3 X dX12_addOne_3 (lv' := [(0, .ref l0), (1, .ref l1), (2, .int (0 : Int32)), (3, .int (1 : Int32))]) rfl (by decide) [1, 2, 3, 0] rfl ?_
  exact (wB_X12_addOne_4 X hQ F _ _ _ _ _ h)
theorem c_X12_addOne {G : mG} {F sz : Nat} {M0 : mM} (l : Launch) (D : mD) (A : Nat → Prop) {l0 : Nat} {l1 : Nat} {M : mM} (h : P_X12_addOne G F l0 l1 M = some M0) : mMetV l D G A yX12_addOne cX12_addOne 4 none 1 26 0 0 [.ref l0, .ref l1] M sz M0 sz := mMetV_of l D G A (by decide) (Nat.le_of_ble_eq_true rfl) (fun x X hQ => wP_X12_addOne X hQ h)
/-! SealedTokensModel$Mod.reduce([BII[I)V -/
theorem dX12_reduce_0 : decode cX12_reduce 0 = .ok (.iconst 0, 1) := by decide +kernel
theorem dX12_reduce_1 : decode cX12_reduce 1 = .ok (.istore 5, 2) := by decide +kernel
theorem dX12_reduce_3 : decode cX12_reduce 3 = .ok (.iload 5, 2) := by decide +kernel
theorem dX12_reduce_5 : decode cX12_reduce 5 = .ok (.aload_n 0, 1) := by decide +kernel
theorem dX12_reduce_6 : decode cX12_reduce 6 = .ok (.getfield 31, 3) := by decide +kernel
theorem dX12_reduce_9 : decode cX12_reduce 9 = .ok (.if_icmp .ge 15, 3) := by decide +kernel
theorem dX12_reduce_12 : decode cX12_reduce 12 = .ok (.aload 4, 2) := by decide +kernel
theorem dX12_reduce_14 : decode cX12_reduce 14 = .ok (.iload 5, 2) := by decide +kernel
theorem dX12_reduce_16 : decode cX12_reduce 16 = .ok (.iconst 0, 1) := by decide +kernel
theorem dX12_reduce_17 : decode cX12_reduce 17 = .ok (.iastore, 1) := by decide +kernel
theorem dX12_reduce_18 : decode cX12_reduce 18 = .ok (.iinc 5 1, 3) := by decide +kernel
theorem dX12_reduce_21 : decode cX12_reduce 21 = .ok (.goto (-18), 3) := by decide +kernel
theorem dX12_reduce_24 : decode cX12_reduce 24 = .ok (.iconst 0, 1) := by decide +kernel
theorem dX12_reduce_25 : decode cX12_reduce 25 = .ok (.istore 5, 2) := by decide +kernel
theorem dX12_reduce_27 : decode cX12_reduce 27 = .ok (.iload 5, 2) := by decide +kernel
theorem dX12_reduce_29 : decode cX12_reduce 29 = .ok (.bipush 8, 2) := by decide +kernel
theorem dX12_reduce_31 : decode cX12_reduce 31 = .ok (.iload_n 3, 1) := by decide +kernel
theorem dX12_reduce_32 : decode cX12_reduce 32 = .ok (.imul, 1) := by decide +kernel
theorem dX12_reduce_33 : decode cX12_reduce 33 = .ok (.if_icmp .ge 45, 3) := by decide +kernel
theorem dX12_reduce_36 : decode cX12_reduce 36 = .ok (.aload_n 0, 1) := by decide +kernel
theorem dX12_reduce_37 : decode cX12_reduce 37 = .ok (.aload 4, 2) := by decide +kernel
theorem dX12_reduce_39 : decode cX12_reduce 39 = .ok (.invokevirtual 42, 3) := by decide +kernel
theorem dX12_reduce_42 : decode cX12_reduce 42 = .ok (.aload_n 1, 1) := by decide +kernel
theorem dX12_reduce_43 : decode cX12_reduce 43 = .ok (.iload_n 2, 1) := by decide +kernel
theorem dX12_reduce_44 : decode cX12_reduce 44 = .ok (.iload 5, 2) := by decide +kernel
theorem dX12_reduce_46 : decode cX12_reduce 46 = .ok (.bipush 8, 2) := by decide +kernel
theorem dX12_reduce_48 : decode cX12_reduce 48 = .ok (.idiv, 1) := by decide +kernel
theorem dX12_reduce_49 : decode cX12_reduce 49 = .ok (.iadd, 1) := by decide +kernel
theorem dX12_reduce_50 : decode cX12_reduce 50 = .ok (.baload, 1) := by decide +kernel
theorem dX12_reduce_51 : decode cX12_reduce 51 = .ok (.bipush 7, 2) := by decide +kernel
theorem dX12_reduce_53 : decode cX12_reduce 53 = .ok (.iload 5, 2) := by decide +kernel
theorem dX12_reduce_55 : decode cX12_reduce 55 = .ok (.bipush 8, 2) := by decide +kernel
theorem dX12_reduce_57 : decode cX12_reduce 57 = .ok (.irem, 1) := by decide +kernel
theorem dX12_reduce_58 : decode cX12_reduce 58 = .ok (.isub, 1) := by decide +kernel
theorem dX12_reduce_59 : decode cX12_reduce 59 = .ok (.ishr, 1) := by decide +kernel
theorem dX12_reduce_60 : decode cX12_reduce 60 = .ok (.iconst 1, 1) := by decide +kernel
theorem dX12_reduce_61 : decode cX12_reduce 61 = .ok (.iand, 1) := by decide +kernel
theorem dX12_reduce_62 : decode cX12_reduce 62 = .ok (.iconst 1, 1) := by decide +kernel
theorem dX12_reduce_63 : decode cX12_reduce 63 = .ok (.if_icmp .ne 9, 3) := by decide +kernel
theorem dX12_reduce_66 : decode cX12_reduce 66 = .ok (.aload_n 0, 1) := by decide +kernel
theorem dX12_reduce_67 : decode cX12_reduce 67 = .ok (.aload 4, 2) := by decide +kernel
theorem dX12_reduce_69 : decode cX12_reduce 69 = .ok (.invokevirtual 56, 3) := by decide +kernel
theorem dX12_reduce_72 : decode cX12_reduce 72 = .ok (.iinc 5 1, 3) := by decide +kernel
theorem dX12_reduce_75 : decode cX12_reduce 75 = .ok (.goto (-48), 3) := by decide +kernel
theorem dX12_reduce_78 : decode cX12_reduce 78 = .ok (.return_, 1) := by decide +kernel
abbrev rmX12_reduce : Room := { frames := 2, cells := 0, slots := 0, locals := 50 }
set_option maxHeartbeats 4000000 in
set_option maxRecDepth 100000 in
theorem wB_X12_reduce_27 {G : mG} {F : Nat} {x : mXT} {sz : Nat} {M0 : mM} (X : mCX G RX12 cX12_reduce 6 none "reduce" rmX12_reduce x) (hQ : mQV x M0 (sz, 0, 0)) : ∀ (n : Nat) (l0 : Nat) (l1 : Nat) (l2 : Int32) (l3 : Int32) (l4 : Nat) (l5 : Int32) (M : mM), B_X12_reduce_27 G F n l0 l1 l2 l3 l4 l5 M = some M0 → WW x (sz, 0, 0) M 27 [(0, .ref l0), (1, .ref l1), (2, .int l2), (3, .int l3), (4, .ref l4), (5, .int l5)] [] := by
  intro n
  induction n with
  | zero =>
    intro l0 l1 l2 l3 l4 l5 M h
    exact nomatch (show (none : Option mM) = some M0 from h)
  | succ n ih =>
    intro l0 l1 l2 l3 l4 l5 M h
    rw [B_X12_reduce_27] at h
    refine ww_iload 27 X dX12_reduce_27 5 rfl ?_
    refine ww_bipush 29 X (v := (8 : Int32)) dX12_reduce_29 (by decide) ?_
    refine ww_iload_n 31 X dX12_reduce_31 3 rfl rfl ?_
    refine ww_imul 32 X dX12_reduce_32 ?_
    refine ww_icmp_ge 33 78 X dX12_reduce_33 (by decide) (fun q => ?_) (fun q => ?_)
    · replace h := (if_pos q).symm.trans h
      exact ww_vretE 78 X hQ dX12_reduce_78 h
    · replace h := (if_neg q).symm.trans h
      refine ww_aload_n 36 X dX12_reduce_36 0 rfl rfl ?_
      refine ww_aload 37 X dX12_reduce_37 4 rfl ?_
      obtain ⟨_, f39, h⟩ := bO_some h
      obtain ⟨M39, e39, h⟩ := bO_some h
      refine ww_callVV0 39 X dX12_reduce_39 mY_X12_twice mL_X12_42 (rcv_spec f39) ⟨_, _, rfl⟩ (by decide) (As := [.ref l4]) (rest := []) rfl rfl ⟨Nat.le_of_ble_eq_true rfl, Nat.le_of_ble_eq_true rfl⟩ (Nat.le_of_ble_eq_true rfl) (fun l D A => c_X12_twice l D A e39) ?_
      refine ww_aload_n 42 X dX12_reduce_42 1 rfl rfl ?_
      refine ww_iload_n 43 X dX12_reduce_43 2 rfl rfl ?_
      refine ww_iload 44 X dX12_reduce_44 5 rfl ?_
      refine ww_bipush 46 X (v := (8 : Int32)) dX12_reduce_46 (by decide) ?_
      refine ww_idiv 48 X (v := (l5 / (8 : Int32))) dX12_reduce_48 rfl ?_
      refine ww_iadd 49 X dX12_reduce_49 ?_
      obtain ⟨v50, e50, h⟩ := bO_some h
      refine ww_bald 50 X dX12_reduce_50 e50 ?_
      refine ww_bipush 51 X (v := (7 : Int32)) dX12_reduce_51 (by decide) ?_
      refine ww_iload 53 X dX12_reduce_53 5 rfl ?_
      refine ww_bipush 55 X (v := (8 : Int32)) dX12_reduce_55 (by decide) ?_
      refine ww_irem 57 X (v := (l5 - l5 / (8 : Int32) * (8 : Int32))) dX12_reduce_57 rfl ?_
      refine ww_isub 58 X dX12_reduce_58 ?_
      refine ww_ishr 59 X dX12_reduce_59 ?_
      refine ww_iconst 60 X (v := (1 : Int32)) dX12_reduce_60 (by decide) ?_
      refine ww_iand 61 X dX12_reduce_61 ?_
      refine ww_iconst 62 X (v := (1 : Int32)) dX12_reduce_62 (by decide) ?_
      refine ww_icmp_ne 63 72 X dX12_reduce_63 (by decide) (fun q => ?_) (fun q => ?_)
      · replace h := (if_neg q).symm.trans h
        refine ww_iinc 72 X dX12_reduce_72 (lv' := [(0, .ref l0), (1, .ref l1), (2, .int l2), (3, .int l3), (4, .ref l4), (5, .int (l5 + 1))]) 5 rfl rfl (by decide) [1, 2, 3, 4, 5, 0] rfl ?_
        refine ww_goto 75 27 X dX12_reduce_75 (by decide) ?_
        exact (ih _ _ _ _ _ _ _ h)
      · replace h := (if_pos q).symm.trans h
        refine ww_aload_n 66 X dX12_reduce_66 0 rfl rfl ?_
        refine ww_aload 67 X dX12_reduce_67 4 rfl ?_
        obtain ⟨_, f69, h⟩ := bO_some h
        obtain ⟨M69, e69, h⟩ := bO_some h
        refine ww_callVV0 69 X dX12_reduce_69 mY_X12_addOne mL_X12_56 (rcv_spec f69) ⟨_, _, rfl⟩ (by decide) (As := [.ref l4]) (rest := []) rfl rfl ⟨Nat.le_of_ble_eq_true rfl, Nat.le_of_ble_eq_true rfl⟩ (Nat.le_of_ble_eq_true rfl) (fun l D A => c_X12_addOne l D A e69) ?_
        refine ww_iinc 72 X dX12_reduce_72 (lv' := [(0, .ref l0), (1, .ref l1), (2, .int l2), (3, .int l3), (4, .ref l4), (5, .int (l5 + 1))]) 5 rfl rfl (by decide) [1, 2, 3, 4, 5, 0] rfl ?_
        refine ww_goto 75 27 X dX12_reduce_75 (by decide) ?_
        exact (ih _ _ _ _ _ _ _ h)
set_option maxHeartbeats 4000000 in
set_option maxRecDepth 100000 in
theorem wB_X12_reduce_3 {G : mG} {F : Nat} {x : mXT} {sz : Nat} {M0 : mM} (X : mCX G RX12 cX12_reduce 6 none "reduce" rmX12_reduce x) (hQ : mQV x M0 (sz, 0, 0)) : ∀ (n : Nat) (l0 : Nat) (l1 : Nat) (l2 : Int32) (l3 : Int32) (l4 : Nat) (l5 : Int32) (M : mM), B_X12_reduce_3 G F n l0 l1 l2 l3 l4 l5 M = some M0 → WW x (sz, 0, 0) M 3 [(0, .ref l0), (1, .ref l1), (2, .int l2), (3, .int l3), (4, .ref l4), (5, .int l5)] [] := by
  intro n
  induction n with
  | zero =>
    intro l0 l1 l2 l3 l4 l5 M h
    exact nomatch (show (none : Option mM) = some M0 from h)
  | succ n ih =>
    intro l0 l1 l2 l3 l4 l5 M h
    rw [B_X12_reduce_3] at h
    refine ww_iload 3 X dX12_reduce_3 5 rfl ?_
    refine ww_aload_n 5 X dX12_reduce_5 0 rfl rfl ?_
    obtain ⟨v6, e6, h⟩ := bO_some h
    refine ww_getI 6 X dX12_reduce_6 fG_X12_31 e6 ?_
    refine ww_icmp_ge 9 24 X dX12_reduce_9 (by decide) (fun q => ?_) (fun q => ?_)
    · replace h := (if_pos q).symm.trans h
      refine ww_iconst 24 X (v := (0 : Int32)) dX12_reduce_24 (by decide) ?_
      refine ww_istore 25 X dX12_reduce_25 (lv' := [(0, .ref l0), (1, .ref l1), (2, .int l2), (3, .int l3), (4, .ref l4), (5, .int (0 : Int32))]) (by decide) [1, 2, 3, 4, 5, 0] rfl ?_
      exact (wB_X12_reduce_27 X hQ F _ _ _ _ _ _ _ h)
    · replace h := (if_neg q).symm.trans h
      refine ww_aload 12 X dX12_reduce_12 4 rfl ?_
      refine ww_iload 14 X dX12_reduce_14 5 rfl ?_
      refine ww_iconst 16 X (v := (0 : Int32)) dX12_reduce_16 (by decide) ?_
      obtain ⟨M17, e17, h⟩ := bO_some h
      refine ww_iast 17 X dX12_reduce_17 e17 ?_
      refine ww_iinc 18 X dX12_reduce_18 (lv' := [(0, .ref l0), (1, .ref l1), (2, .int l2), (3, .int l3), (4, .ref l4), (5, .int (l5 + 1))]) 5 rfl rfl (by decide) [1, 2, 3, 4, 5, 0] rfl ?_
      refine ww_goto 21 3 X dX12_reduce_21 (by decide) ?_
      exact (ih _ _ _ _ _ _ _ h)
set_option maxHeartbeats 4000000 in
set_option maxRecDepth 100000 in
theorem wP_X12_reduce {G : mG} {F : Nat} {x : mXT} {sz : Nat} {M0 : mM} (X : mCX G RX12 cX12_reduce 6 none "reduce" rmX12_reduce x) (hQ : mQV x M0 (sz, 0, 0)) {l0 : Nat} {l1 : Nat} {l2 : Int32} {l3 : Int32} {l4 : Nat} {M : mM} (h : P_X12_reduce G F l0 l1 l2 l3 l4 M = some M0) : WW x (sz, 0, 0) M 0 [(0, .ref l0), (1, .ref l1), (2, .int l2), (3, .int l3), (4, .ref l4)] [] := by
  unfold P_X12_reduce at h
  refine ww_iconst 0 X (v := (0 : Int32)) dX12_reduce_0 (by decide) ?_
  refine ww_istore 1 X dX12_reduce_1 (lv' := [(0, .ref l0), (1, .ref l1), (2, .int l2), (3, .int l3), (4, .ref l4), (5, .int (0 : Int32))]) (by decide) [1, 2, 3, 4, 5, 0] rfl ?_
  exact (wB_X12_reduce_3 X hQ F _ _ _ _ _ _ _ h)
theorem c_X12_reduce {G : mG} {F sz : Nat} {M0 : mM} (l : Launch) (D : mD) (A : Nat → Prop) {l0 : Nat} {l1 : Nat} {l2 : Int32} {l3 : Int32} {l4 : Nat} {M : mM} (h : P_X12_reduce G F l0 l1 l2 l3 l4 M = some M0) : mMetV l D G A yX12_reduce cX12_reduce 6 none 2 50 0 0 [.ref l0, .ref l1, .int l2, .int l3, .ref l4] M sz M0 sz := mMetV_of l D G A (by decide) (Nat.le_of_ble_eq_true rfl) (fun x X hQ => wP_X12_reduce X hQ h)
/-! SealedTokensModel$Mod.add([I[I[I)V -/
theorem dX12_add_0 : decode cX12_add 0 = .ok (.lconst 0, 1) := by decide +kernel
theorem dX12_add_1 : decode cX12_add 1 = .ok (.lstore 4, 2) := by decide +kernel
theorem dX12_add_3 : decode cX12_add 3 = .ok (.iconst 0, 1) := by decide +kernel
theorem dX12_add_4 : decode cX12_add 4 = .ok (.istore 6, 2) := by decide +kernel
theorem dX12_add_6 : decode cX12_add 6 = .ok (.iload 6, 2) := by decide +kernel
theorem dX12_add_8 : decode cX12_add 8 = .ok (.aload_n 0, 1) := by decide +kernel
theorem dX12_add_9 : decode cX12_add 9 = .ok (.getfield 31, 3) := by decide +kernel
theorem dX12_add_12 : decode cX12_add 12 = .ok (.if_icmp .ge 47, 3) := by decide +kernel
theorem dX12_add_15 : decode cX12_add 15 = .ok (.aload_n 1, 1) := by decide +kernel
theorem dX12_add_16 : decode cX12_add 16 = .ok (.iload 6, 2) := by decide +kernel
theorem dX12_add_18 : decode cX12_add 18 = .ok (.iaload, 1) := by decide +kernel
theorem dX12_add_19 : decode cX12_add 19 = .ok (.i2l, 1) := by decide +kernel
theorem dX12_add_20 : decode cX12_add 20 = .ok (.ldc2_w 47, 3) := by decide +kernel
theorem dX12_add_23 : decode cX12_add 23 = .ok (.land, 1) := by decide +kernel
theorem dX12_add_24 : decode cX12_add 24 = .ok (.aload_n 2, 1) := by decide +kernel
theorem dX12_add_25 : decode cX12_add 25 = .ok (.iload 6, 2) := by decide +kernel
theorem dX12_add_27 : decode cX12_add 27 = .ok (.iaload, 1) := by decide +kernel
theorem dX12_add_28 : decode cX12_add 28 = .ok (.i2l, 1) := by decide +kernel
theorem dX12_add_29 : decode cX12_add 29 = .ok (.ldc2_w 47, 3) := by decide +kernel
theorem dX12_add_32 : decode cX12_add 32 = .ok (.land, 1) := by decide +kernel
theorem dX12_add_33 : decode cX12_add 33 = .ok (.ladd, 1) := by decide +kernel
theorem dX12_add_34 : decode cX12_add 34 = .ok (.lload 4, 2) := by decide +kernel
theorem dX12_add_36 : decode cX12_add 36 = .ok (.ladd, 1) := by decide +kernel
theorem dX12_add_37 : decode cX12_add 37 = .ok (.lstore 7, 2) := by decide +kernel
theorem dX12_add_39 : decode cX12_add 39 = .ok (.aload_n 3, 1) := by decide +kernel
theorem dX12_add_40 : decode cX12_add 40 = .ok (.iload 6, 2) := by decide +kernel
theorem dX12_add_42 : decode cX12_add 42 = .ok (.lload 7, 2) := by decide +kernel
theorem dX12_add_44 : decode cX12_add 44 = .ok (.l2i, 1) := by decide +kernel
theorem dX12_add_45 : decode cX12_add 45 = .ok (.iastore, 1) := by decide +kernel
theorem dX12_add_46 : decode cX12_add 46 = .ok (.lload 7, 2) := by decide +kernel
theorem dX12_add_48 : decode cX12_add 48 = .ok (.bipush 32, 2) := by decide +kernel
theorem dX12_add_50 : decode cX12_add 50 = .ok (.lushr, 1) := by decide +kernel
theorem dX12_add_51 : decode cX12_add 51 = .ok (.lstore 4, 2) := by decide +kernel
theorem dX12_add_53 : decode cX12_add 53 = .ok (.iinc 6 1, 3) := by decide +kernel
theorem dX12_add_56 : decode cX12_add 56 = .ok (.goto (-50), 3) := by decide +kernel
theorem dX12_add_59 : decode cX12_add 59 = .ok (.lload 4, 2) := by decide +kernel
theorem dX12_add_61 : decode cX12_add 61 = .ok (.lconst 1, 1) := by decide +kernel
theorem dX12_add_62 : decode cX12_add 62 = .ok (.lcmp, 1) := by decide +kernel
theorem dX12_add_63 : decode cX12_add 63 = .ok (.ifCond .eq 15, 3) := by decide +kernel
theorem dX12_add_66 : decode cX12_add 66 = .ok (.aload_n 0, 1) := by decide +kernel
theorem dX12_add_67 : decode cX12_add 67 = .ok (.aload_n 3, 1) := by decide +kernel
theorem dX12_add_68 : decode cX12_add 68 = .ok (.aload_n 0, 1) := by decide +kernel
theorem dX12_add_69 : decode cX12_add 69 = .ok (.getfield 7, 3) := by decide +kernel
theorem dX12_add_72 : decode cX12_add 72 = .ok (.invokevirtual 49, 3) := by decide +kernel
theorem dX12_add_75 : decode cX12_add 75 = .ok (.ifCond .lt 8, 3) := by decide +kernel
theorem dX12_add_78 : decode cX12_add 78 = .ok (.aload_n 0, 1) := by decide +kernel
theorem dX12_add_79 : decode cX12_add 79 = .ok (.aload_n 3, 1) := by decide +kernel
theorem dX12_add_80 : decode cX12_add 80 = .ok (.invokevirtual 53, 3) := by decide +kernel
theorem dX12_add_83 : decode cX12_add 83 = .ok (.return_, 1) := by decide +kernel
abbrev rmX12_add : Room := { frames := 1, cells := 0, slots := 0, locals := 26 }
set_option maxHeartbeats 4000000 in
set_option maxRecDepth 100000 in
theorem wB_X12_add_6 {G : mG} {F : Nat} {x : mXT} {sz : Nat} {M0 : mM} (X : mCX G RX12 cX12_add 9 none "add" rmX12_add x) (hQ : mQV x M0 (sz, 0, 0)) : ∀ (n : Nat) (l0 : Nat) (l1 : Nat) (l2 : Nat) (l3 : Nat) (l4 : Int64) (l6 : Int32) (M : mM), B_X12_add_6 G F n l0 l1 l2 l3 l4 l6 M = some M0 → WW x (sz, 0, 0) M 6 [(0, .ref l0), (1, .ref l1), (2, .ref l2), (3, .ref l3), (4, .long l4), (6, .int l6)] [] := by
  intro n
  induction n with
  | zero =>
    intro l0 l1 l2 l3 l4 l6 M h
    exact nomatch (show (none : Option mM) = some M0 from h)
  | succ n ih =>
    intro l0 l1 l2 l3 l4 l6 M h
    rw [B_X12_add_6] at h
    refine ww_iload 6 X dX12_add_6 5 rfl ?_
    refine ww_aload_n 8 X dX12_add_8 0 rfl rfl ?_
    obtain ⟨v9, e9, h⟩ := bO_some h
    refine ww_getI 9 X dX12_add_9 fG_X12_31 e9 ?_
    refine ww_icmp_ge 12 59 X dX12_add_12 (by decide) (fun q => ?_) (fun q => ?_)
    · replace h := (if_pos q).symm.trans h
      refine ww_lload 59 X dX12_add_59 4 rfl ?_
      refine ww_lconst 61 X (v := (1 : Int64)) dX12_add_61 (by decide) ?_
      refine ww_lcmp 62 X dX12_add_62 ?_
      refine ww_if_eq 63 78 X dX12_add_63 (by decide) (fun q => ?_) (fun q => ?_)
      · replace h := (if_pos q).symm.trans h
        refine ww_aload_n 78 X dX12_add_78 0 rfl rfl ?_
        refine ww_aload_n 79 X dX12_add_79 3 rfl rfl ?_
        obtain ⟨_, f80, h⟩ := bO_some h
        obtain ⟨M80, e80, h⟩ := bO_some h
        refine ww_callVV0 80 X dX12_add_80 mY_X12_less mL_X12_53 (rcv_spec f80) ⟨_, _, rfl⟩ (by decide) (As := [.ref l3]) (rest := []) rfl rfl ⟨Nat.le_of_ble_eq_true rfl, Nat.le_of_ble_eq_true rfl⟩ (Nat.le_of_ble_eq_true rfl) (fun l D A => c_X12_less l D A e80) ?_
        exact ww_vretE 83 X hQ dX12_add_83 h
      · replace h := (if_neg q).symm.trans h
        refine ww_aload_n 66 X dX12_add_66 0 rfl rfl ?_
        refine ww_aload_n 67 X dX12_add_67 3 rfl rfl ?_
        refine ww_aload_n 68 X dX12_add_68 0 rfl rfl ?_
        obtain ⟨v69, e69, h⟩ := bO_some h
        refine ww_getR 69 X dX12_add_69 fG_X12_7 e69 ?_
        obtain ⟨_, f72, h⟩ := bO_some h
        obtain ⟨v72, M72, e72, h⟩ := bP_some h
        refine ww_callVI0 72 X dX12_add_72 mY_X12_order mL_X12_49 (rcv_spec f72) ⟨_, _, rfl⟩ (by decide) (As := [.ref l3, .ref v69]) (rest := []) rfl rfl ⟨Nat.le_of_ble_eq_true rfl, Nat.le_of_ble_eq_true rfl⟩ (Nat.le_of_ble_eq_true rfl) (fun l D A => c_X12_order l D A e72) ?_
        refine ww_if_lt 75 83 X dX12_add_75 (by decide) (fun q => ?_) (fun q => ?_)
        · replace h := (if_pos q).symm.trans h
          exact ww_vretE 83 X hQ dX12_add_83 h
        · replace h := (if_neg q).symm.trans h
          refine ww_aload_n 78 X dX12_add_78 0 rfl rfl ?_
          refine ww_aload_n 79 X dX12_add_79 3 rfl rfl ?_
          obtain ⟨_, f80, h⟩ := bO_some h
          obtain ⟨M80, e80, h⟩ := bO_some h
          refine ww_callVV0 80 X dX12_add_80 mY_X12_less mL_X12_53 (rcv_spec f80) ⟨_, _, rfl⟩ (by decide) (As := [.ref l3]) (rest := []) rfl rfl ⟨Nat.le_of_ble_eq_true rfl, Nat.le_of_ble_eq_true rfl⟩ (Nat.le_of_ble_eq_true rfl) (fun l D A => c_X12_less l D A e80) ?_
          exact ww_vretE 83 X hQ dX12_add_83 h
    · replace h := (if_neg q).symm.trans h
      refine ww_aload_n 15 X dX12_add_15 1 rfl rfl ?_
      refine ww_iload 16 X dX12_add_16 5 rfl ?_
      obtain ⟨v18, e18, h⟩ := bO_some h
      refine ww_iald 18 X dX12_add_18 e18 ?_
      refine ww_i2l 19 X dX12_add_19 ?_
      refine ww_ldc2 20 X (v := (4294967295 : Int64)) dX12_add_20 kL_X12_47 ?_
      refine ww_land 23 X dX12_add_23 ?_
      refine ww_aload_n 24 X dX12_add_24 2 rfl rfl ?_
      refine ww_iload 25 X dX12_add_25 5 rfl ?_
      obtain ⟨v27, e27, h⟩ := bO_some h
      refine ww_iald 27 X dX12_add_27 e27 ?_
      refine ww_i2l 28 X dX12_add_28 ?_
      refine ww_ldc2 29 X (v := (4294967295 : Int64)) dX12_add_29 kL_X12_47 ?_
      refine ww_land 32 X dX12_add_32 ?_
      refine ww_ladd 33 X dX12_add_33 ?_
      refine ww_lload 34 X dX12_add_34 4 rfl ?_
      refine ww_ladd 36 X dX12_add_36 ?_
      refine ww_lstore 37 X dX12_add_37 (lv' := [(0, .ref l0), (1, .ref l1), (2, .ref l2), (3, .ref l3), (4, .long l4), (6, .int l6), (7, .long ((((v18.toInt64) &&& (4294967295 : Int64)) + ((v27.toInt64) &&& (4294967295 : Int64))) + l4))]) (by decide) [1, 2, 3, 4, 5, 6, 0] rfl ?_
      refine ww_aload_n 39 X dX12_add_39 3 rfl rfl ?_
      refine ww_iload 40 X dX12_add_40 5 rfl ?_
      refine ww_lload 42 X dX12_add_42 6 rfl ?_
      refine ww_l2i 44 X dX12_add_44 ?_
      obtain ⟨M45, e45, h⟩ := bO_some h
      refine ww_iast 45 X dX12_add_45 e45 ?_
      refine ww_lload 46 X dX12_add_46 6 rfl ?_
      refine ww_bipush 48 X (v := (32 : Int32)) dX12_add_48 (by decide) ?_
      refine ww_lushr 50 X dX12_add_50 ?_
      refine ww_lstore 51 X dX12_add_51 (lv' := [(0, .ref l0), (1, .ref l1), (2, .ref l2), (3, .ref l3), (4, .long (ushL ((((v18.toInt64) &&& (4294967295 : Int64)) + ((v27.toInt64) &&& (4294967295 : Int64))) + l4) (32 : Int32))), (6, .int l6), (7, .long ((((v18.toInt64) &&& (4294967295 : Int64)) + ((v27.toInt64) &&& (4294967295 : Int64))) + l4))]) (by decide) [1, 2, 3, 4, 0, 5, 6] rfl ?_
      refine ww_iinc 53 X dX12_add_53 (lv' := [(0, .ref l0), (1, .ref l1), (2, .ref l2), (3, .ref l3), (4, .long (ushL ((((v18.toInt64) &&& (4294967295 : Int64)) + ((v27.toInt64) &&& (4294967295 : Int64))) + l4) (32 : Int32))), (6, .int (l6 + 1)), (7, .long ((((v18.toInt64) &&& (4294967295 : Int64)) + ((v27.toInt64) &&& (4294967295 : Int64))) + l4))]) 5 rfl rfl (by decide) [1, 2, 3, 4, 5, 0, 6] rfl ?_
      refine ww_goto 56 6 X dX12_add_56 (by decide) ?_
      exact ww_sub [0, 1, 2, 3, 4, 5] rfl (ih _ _ _ _ _ _ _ h)
set_option maxHeartbeats 4000000 in
set_option maxRecDepth 100000 in
theorem wP_X12_add {G : mG} {F : Nat} {x : mXT} {sz : Nat} {M0 : mM} (X : mCX G RX12 cX12_add 9 none "add" rmX12_add x) (hQ : mQV x M0 (sz, 0, 0)) {l0 : Nat} {l1 : Nat} {l2 : Nat} {l3 : Nat} {M : mM} (h : P_X12_add G F l0 l1 l2 l3 M = some M0) : WW x (sz, 0, 0) M 0 [(0, .ref l0), (1, .ref l1), (2, .ref l2), (3, .ref l3)] [] := by
  unfold P_X12_add at h
  refine ww_lconst 0 X (v := (0 : Int64)) dX12_add_0 (by decide) ?_
  refine ww_lstore 1 X dX12_add_1 (lv' := [(0, .ref l0), (1, .ref l1), (2, .ref l2), (3, .ref l3), (4, .long (0 : Int64))]) (by decide) [1, 2, 3, 4, 0] rfl ?_
  refine ww_iconst 3 X (v := (0 : Int32)) dX12_add_3 (by decide) ?_
  refine ww_istore 4 X dX12_add_4 (lv' := [(0, .ref l0), (1, .ref l1), (2, .ref l2), (3, .ref l3), (4, .long (0 : Int64)), (6, .int (0 : Int32))]) (by decide) [1, 2, 3, 4, 5, 0] rfl ?_
  exact (wB_X12_add_6 X hQ F _ _ _ _ _ _ _ h)
theorem c_X12_add {G : mG} {F sz : Nat} {M0 : mM} (l : Launch) (D : mD) (A : Nat → Prop) {l0 : Nat} {l1 : Nat} {l2 : Nat} {l3 : Nat} {M : mM} (h : P_X12_add G F l0 l1 l2 l3 M = some M0) : mMetV l D G A yX12_add cX12_add 9 none 1 26 0 0 [.ref l0, .ref l1, .ref l2, .ref l3] M sz M0 sz := mMetV_of l D G A (by decide) (Nat.le_of_ble_eq_true rfl) (fun x X hQ => wP_X12_add X hQ h)
