/-! SealedTokens$Token.draw(IILSealedTokens$Bytes;)Z -/
theorem dX10_draw_0 : decode cX10_draw 0 = .ok (.aload_n 0, 1) := by decide +kernel
theorem dX10_draw_1 : decode cX10_draw 1 = .ok (.iload_n 1, 1) := by decide +kernel
theorem dX10_draw_2 : decode cX10_draw 2 = .ok (.putfield 190, 3) := by decide +kernel
theorem dX10_draw_5 : decode cX10_draw 5 = .ok (.aload_n 0, 1) := by decide +kernel
theorem dX10_draw_6 : decode cX10_draw 6 = .ok (.iload_n 2, 1) := by decide +kernel
theorem dX10_draw_7 : decode cX10_draw 7 = .ok (.putfield 97, 3) := by decide +kernel
theorem dX10_draw_10 : decode cX10_draw 10 = .ok (.aload_n 0, 1) := by decide +kernel
theorem dX10_draw_11 : decode cX10_draw 11 = .ok (.getfield 190, 3) := by decide +kernel
theorem dX10_draw_14 : decode cX10_draw 14 = .ok (.iconst 4, 1) := by decide +kernel
theorem dX10_draw_15 : decode cX10_draw 15 = .ok (.if_icmp .lt 8, 3) := by decide +kernel
theorem dX10_draw_18 : decode cX10_draw 18 = .ok (.bipush 32, 2) := by decide +kernel
theorem dX10_draw_20 : decode cX10_draw 20 = .ok (.goto 4, 3) := by decide +kernel
theorem dX10_draw_23 : decode cX10_draw 23 = .ok (.iconst 0, 1) := by decide +kernel
theorem dX10_draw_24 : decode cX10_draw 24 = .ok (.istore 4, 2) := by decide +kernel
theorem dX10_draw_26 : decode cX10_draw 26 = .ok (.aload_n 0, 1) := by decide +kernel
theorem dX10_draw_27 : decode cX10_draw 27 = .ok (.getfield 190, 3) := by decide +kernel
theorem dX10_draw_30 : decode cX10_draw 30 = .ok (.ifCond .eq 11, 3) := by decide +kernel
theorem dX10_draw_33 : decode cX10_draw 33 = .ok (.aload_n 0, 1) := by decide +kernel
theorem dX10_draw_34 : decode cX10_draw 34 = .ok (.getfield 190, 3) := by decide +kernel
theorem dX10_draw_37 : decode cX10_draw 37 = .ok (.iconst 4, 1) := by decide +kernel
theorem dX10_draw_38 : decode cX10_draw 38 = .ok (.if_icmp .ne 7, 3) := by decide +kernel
theorem dX10_draw_41 : decode cX10_draw 41 = .ok (.iconst 0, 1) := by decide +kernel
theorem dX10_draw_42 : decode cX10_draw 42 = .ok (.goto 11, 3) := by decide +kernel
theorem dX10_draw_45 : decode cX10_draw 45 = .ok (.getstatic 279, 3) := by decide +kernel
theorem dX10_draw_48 : decode cX10_draw 48 = .ok (.aload_n 0, 1) := by decide +kernel
theorem dX10_draw_49 : decode cX10_draw 49 = .ok (.getfield 97, 3) := by decide +kernel
theorem dX10_draw_52 : decode cX10_draw 52 = .ok (.iaload, 1) := by decide +kernel
theorem dX10_draw_53 : decode cX10_draw 53 = .ok (.istore 5, 2) := by decide +kernel
theorem dX10_draw_55 : decode cX10_draw 55 = .ok (.aload_n 0, 1) := by decide +kernel
theorem dX10_draw_56 : decode cX10_draw 56 = .ok (.getfield 190, 3) := by decide +kernel
theorem dX10_draw_59 : decode cX10_draw 59 = .ok (.iconst 3, 1) := by decide +kernel
theorem dX10_draw_60 : decode cX10_draw 60 = .ok (.if_icmp .ne 8, 3) := by decide +kernel
theorem dX10_draw_63 : decode cX10_draw 63 = .ok (.bipush 32, 2) := by decide +kernel
theorem dX10_draw_65 : decode cX10_draw 65 = .ok (.goto 4, 3) := by decide +kernel
theorem dX10_draw_68 : decode cX10_draw 68 = .ok (.iconst 0, 1) := by decide +kernel
theorem dX10_draw_69 : decode cX10_draw 69 = .ok (.istore 6, 2) := by decide +kernel
theorem dX10_draw_71 : decode cX10_draw 71 = .ok (.aload_n 3, 1) := by decide +kernel
theorem dX10_draw_72 : decode cX10_draw 72 = .ok (.getfield 60, 3) := by decide +kernel
theorem dX10_draw_75 : decode cX10_draw 75 = .ok (.iload 4, 2) := by decide +kernel
theorem dX10_draw_77 : decode cX10_draw 77 = .ok (.iload 5, 2) := by decide +kernel
theorem dX10_draw_79 : decode cX10_draw 79 = .ok (.iadd, 1) := by decide +kernel
theorem dX10_draw_80 : decode cX10_draw 80 = .ok (.iload 6, 2) := by decide +kernel
theorem dX10_draw_82 : decode cX10_draw 82 = .ok (.iadd, 1) := by decide +kernel
theorem dX10_draw_83 : decode cX10_draw 83 = .ok (.getstatic 94, 3) := by decide +kernel
theorem dX10_draw_86 : decode cX10_draw 86 = .ok (.aload_n 0, 1) := by decide +kernel
theorem dX10_draw_87 : decode cX10_draw 87 = .ok (.getfield 97, 3) := by decide +kernel
theorem dX10_draw_90 : decode cX10_draw 90 = .ok (.iaload, 1) := by decide +kernel
theorem dX10_draw_91 : decode cX10_draw 91 = .ok (.iadd, 1) := by decide +kernel
theorem dX10_draw_92 : decode cX10_draw 92 = .ok (.if_icmp .ge 5, 3) := by decide +kernel
theorem dX10_draw_95 : decode cX10_draw 95 = .ok (.iconst 0, 1) := by decide +kernel
theorem dX10_draw_96 : decode cX10_draw 96 = .ok (.ireturn, 1) := by decide +kernel
theorem dX10_draw_97 : decode cX10_draw 97 = .ok (.aload_n 0, 1) := by decide +kernel
theorem dX10_draw_98 : decode cX10_draw 98 = .ok (.getfield 31, 3) := by decide +kernel
theorem dX10_draw_101 : decode cX10_draw 101 = .ok (.invokevirtual 81, 3) := by decide +kernel
theorem dX10_draw_104 : decode cX10_draw 104 = .ok (.aload_n 0, 1) := by decide +kernel
theorem dX10_draw_105 : decode cX10_draw 105 = .ok (.getfield 31, 3) := by decide +kernel
theorem dX10_draw_108 : decode cX10_draw 108 = .ok (.aload_n 3, 1) := by decide +kernel
theorem dX10_draw_109 : decode cX10_draw 109 = .ok (.iconst 0, 1) := by decide +kernel
theorem dX10_draw_110 : decode cX10_draw 110 = .ok (.iload 4, 2) := by decide +kernel
theorem dX10_draw_112 : decode cX10_draw 112 = .ok (.invokevirtual 282, 3) := by decide +kernel
theorem dX10_draw_115 : decode cX10_draw 115 = .ok (.aload_n 0, 1) := by decide +kernel
theorem dX10_draw_116 : decode cX10_draw 116 = .ok (.getfield 39, 3) := by decide +kernel
theorem dX10_draw_119 : decode cX10_draw 119 = .ok (.invokevirtual 81, 3) := by decide +kernel
theorem dX10_draw_122 : decode cX10_draw 122 = .ok (.aload_n 0, 1) := by decide +kernel
theorem dX10_draw_123 : decode cX10_draw 123 = .ok (.getfield 39, 3) := by decide +kernel
theorem dX10_draw_126 : decode cX10_draw 126 = .ok (.aload_n 3, 1) := by decide +kernel
theorem dX10_draw_127 : decode cX10_draw 127 = .ok (.iload 4, 2) := by decide +kernel
theorem dX10_draw_129 : decode cX10_draw 129 = .ok (.iload 5, 2) := by decide +kernel
theorem dX10_draw_131 : decode cX10_draw 131 = .ok (.invokevirtual 282, 3) := by decide +kernel
theorem dX10_draw_134 : decode cX10_draw 134 = .ok (.aload_n 0, 1) := by decide +kernel
theorem dX10_draw_135 : decode cX10_draw 135 = .ok (.getfield 36, 3) := by decide +kernel
theorem dX10_draw_138 : decode cX10_draw 138 = .ok (.invokevirtual 81, 3) := by decide +kernel
theorem dX10_draw_141 : decode cX10_draw 141 = .ok (.aload_n 0, 1) := by decide +kernel
theorem dX10_draw_142 : decode cX10_draw 142 = .ok (.getfield 36, 3) := by decide +kernel
theorem dX10_draw_145 : decode cX10_draw 145 = .ok (.aload_n 3, 1) := by decide +kernel
theorem dX10_draw_146 : decode cX10_draw 146 = .ok (.iload 4, 2) := by decide +kernel
theorem dX10_draw_148 : decode cX10_draw 148 = .ok (.iload 5, 2) := by decide +kernel
theorem dX10_draw_150 : decode cX10_draw 150 = .ok (.iadd, 1) := by decide +kernel
theorem dX10_draw_151 : decode cX10_draw 151 = .ok (.iload 6, 2) := by decide +kernel
theorem dX10_draw_153 : decode cX10_draw 153 = .ok (.invokevirtual 282, 3) := by decide +kernel
theorem dX10_draw_156 : decode cX10_draw 156 = .ok (.aload_n 0, 1) := by decide +kernel
theorem dX10_draw_157 : decode cX10_draw 157 = .ok (.getfield 47, 3) := by decide +kernel
theorem dX10_draw_160 : decode cX10_draw 160 = .ok (.invokevirtual 81, 3) := by decide +kernel
theorem dX10_draw_163 : decode cX10_draw 163 = .ok (.aload_n 0, 1) := by decide +kernel
theorem dX10_draw_164 : decode cX10_draw 164 = .ok (.getfield 47, 3) := by decide +kernel
theorem dX10_draw_167 : decode cX10_draw 167 = .ok (.aload_n 3, 1) := by decide +kernel
theorem dX10_draw_168 : decode cX10_draw 168 = .ok (.iload 4, 2) := by decide +kernel
theorem dX10_draw_170 : decode cX10_draw 170 = .ok (.iload 5, 2) := by decide +kernel
theorem dX10_draw_172 : decode cX10_draw 172 = .ok (.iadd, 1) := by decide +kernel
theorem dX10_draw_173 : decode cX10_draw 173 = .ok (.iload 6, 2) := by decide +kernel
theorem dX10_draw_175 : decode cX10_draw 175 = .ok (.iadd, 1) := by decide +kernel
theorem dX10_draw_176 : decode cX10_draw 176 = .ok (.getstatic 94, 3) := by decide +kernel
theorem dX10_draw_179 : decode cX10_draw 179 = .ok (.aload_n 0, 1) := by decide +kernel
theorem dX10_draw_180 : decode cX10_draw 180 = .ok (.getfield 97, 3) := by decide +kernel
theorem dX10_draw_183 : decode cX10_draw 183 = .ok (.iaload, 1) := by decide +kernel
theorem dX10_draw_184 : decode cX10_draw 184 = .ok (.invokevirtual 282, 3) := by decide +kernel
theorem dX10_draw_187 : decode cX10_draw 187 = .ok (.iconst 1, 1) := by decide +kernel
theorem dX10_draw_188 : decode cX10_draw 188 = .ok (.ireturn, 1) := by decide +kernel
abbrev rmX10_draw : Room := { frames := 2, cells := 0, slots := 0, locals := 84 }
set_option maxHeartbeats 4000000 in
set_option maxRecDepth 100000 in
theorem wB_X10_draw_69 {G : Nat → Nat} {F : Nat} {x : mXT} {sz : Nat} {r0 : Int32} {M0 : mM} (X : mCX G RX10 cX10_draw 7 (some .boolean) "draw" rmX10_draw x) (hQ : mQI x r0 M0 (sz, 0, 0)) {l0 : Nat} {l3 : Nat} {l4 : Int32} {l5 : Int32} {s0 : Int32} {M : mM} (h : B_X10_draw_69 G F l0 l3 l4 l5 s0 M = some (r0, M0)) : WW x (sz, 0, 0) M 69 [(0, .ref l0), (3, .ref l3), (4, .int l4), (5, .int l5)] [.int s0] := by
  unfold B_X10_draw_69 at h
  refine ww_istore 69 X dX10_draw_69 (lv' := [(0, .ref l0), (3, .ref l3), (4, .int l4), (5, .int l5), (6, .int s0)]) (by decide) [1, 2, 3, 4, 0] rfl ?_
  refine ww_aload_n 71 X dX10_draw_71 1 rfl rfl ?_
  obtain ⟨v72, e72, h⟩ := bO_some h
  refine ww_getI 72 X dX10_draw_72 fG_X10_60 e72 ?_
  refine ww_iload 75 X dX10_draw_75 2 rfl ?_
  refine ww_iload 77 X dX10_draw_77 3 rfl ?_
  refine ww_iadd 79 X dX10_draw_79 ?_
  refine ww_iload 80 X dX10_draw_80 4 rfl ?_
  refine ww_iadd 82 X dX10_draw_82 ?_
  refine ww_gets 83 X dX10_draw_83 gS_X10_94 ?_
  refine ww_aload_n 86 X dX10_draw_86 0 rfl rfl ?_
  obtain ⟨v87, e87, h⟩ := bO_some h
  refine ww_getI 87 X dX10_draw_87 fG_X10_97 e87 ?_
  obtain ⟨v90, e90, h⟩ := bO_some h
  refine ww_iald 90 X dX10_draw_90 e90 ?_
  refine ww_iadd 91 X dX10_draw_91 ?_
  refine ww_icmp_ge 92 97 X dX10_draw_92 (by decide) (fun q => ?_) (fun q => ?_)
  · replace h := (if_pos q).symm.trans h
    refine ww_aload_n 97 X dX10_draw_97 0 rfl rfl ?_
    obtain ⟨v98, e98, h⟩ := bO_some h
    refine ww_getR 98 X dX10_draw_98 fG_X10_31 e98 ?_
    obtain ⟨_, f101, h⟩ := bO_some h
    obtain ⟨M101, e101, h⟩ := bO_some h
    refine ww_callVV0 101 X dX10_draw_101 mY_X0_clear mL_X10_81 (rcv_spec f101) ⟨_, _, rfl⟩ (by decide) (As := []) (rest := []) rfl rfl ⟨Nat.le_of_ble_eq_true rfl, Nat.le_of_ble_eq_true rfl⟩ (Nat.le_of_ble_eq_true rfl) (fun l D A => c_X0_clear l D A e101) ?_
    refine ww_aload_n 104 X dX10_draw_104 0 rfl rfl ?_
    obtain ⟨v105, e105, h⟩ := bO_some h
    refine ww_getR 105 X dX10_draw_105 fG_X10_31 e105 ?_
    refine ww_aload_n 108 X dX10_draw_108 1 rfl rfl ?_
    refine ww_iconst 109 X (v := (0 : Int32)) dX10_draw_109 (by decide) ?_
    refine ww_iload 110 X dX10_draw_110 2 rfl ?_
    obtain ⟨_, f112, h⟩ := bO_some h
    obtain ⟨M112, e112, h⟩ := bO_some h
    refine ww_callVV0 112 X dX10_draw_112 mY_X0_putPart mL_X10_282 (rcv_spec f112) ⟨_, _, rfl⟩ (by decide) (As := [.ref l3, .int (0 : Int32), .int l4]) (rest := []) rfl rfl ⟨Nat.le_of_ble_eq_true rfl, Nat.le_of_ble_eq_true rfl⟩ (Nat.le_of_ble_eq_true rfl) (fun l D A => c_X0_putPart l D A e112) ?_
    refine ww_aload_n 115 X dX10_draw_115 0 rfl rfl ?_
    obtain ⟨v116, e116, h⟩ := bO_some h
    refine ww_getR 116 X dX10_draw_116 fG_X10_39 e116 ?_
    obtain ⟨_, f119, h⟩ := bO_some h
    obtain ⟨M119, e119, h⟩ := bO_some h
    refine ww_callVV0 119 X dX10_draw_119 mY_X0_clear mL_X10_81 (rcv_spec f119) ⟨_, _, rfl⟩ (by decide) (As := []) (rest := []) rfl rfl ⟨Nat.le_of_ble_eq_true rfl, Nat.le_of_ble_eq_true rfl⟩ (Nat.le_of_ble_eq_true rfl) (fun l D A => c_X0_clear l D A e119) ?_
    refine ww_aload_n 122 X dX10_draw_122 0 rfl rfl ?_
    obtain ⟨v123, e123, h⟩ := bO_some h
    refine ww_getR 123 X dX10_draw_123 fG_X10_39 e123 ?_
    refine ww_aload_n 126 X dX10_draw_126 1 rfl rfl ?_
    refine ww_iload 127 X dX10_draw_127 2 rfl ?_
    refine ww_iload 129 X dX10_draw_129 3 rfl ?_
    obtain ⟨_, f131, h⟩ := bO_some h
    obtain ⟨M131, e131, h⟩ := bO_some h
    refine ww_callVV0 131 X dX10_draw_131 mY_X0_putPart mL_X10_282 (rcv_spec f131) ⟨_, _, rfl⟩ (by decide) (As := [.ref l3, .int l4, .int l5]) (rest := []) rfl rfl ⟨Nat.le_of_ble_eq_true rfl, Nat.le_of_ble_eq_true rfl⟩ (Nat.le_of_ble_eq_true rfl) (fun l D A => c_X0_putPart l D A e131) ?_
    refine ww_aload_n 134 X dX10_draw_134 0 rfl rfl ?_
    obtain ⟨v135, e135, h⟩ := bO_some h
    refine ww_getR 135 X dX10_draw_135 fG_X10_36 e135 ?_
    obtain ⟨_, f138, h⟩ := bO_some h
    obtain ⟨M138, e138, h⟩ := bO_some h
    refine ww_callVV0 138 X dX10_draw_138 mY_X0_clear mL_X10_81 (rcv_spec f138) ⟨_, _, rfl⟩ (by decide) (As := []) (rest := []) rfl rfl ⟨Nat.le_of_ble_eq_true rfl, Nat.le_of_ble_eq_true rfl⟩ (Nat.le_of_ble_eq_true rfl) (fun l D A => c_X0_clear l D A e138) ?_
    refine ww_aload_n 141 X dX10_draw_141 0 rfl rfl ?_
    obtain ⟨v142, e142, h⟩ := bO_some h
    refine ww_getR 142 X dX10_draw_142 fG_X10_36 e142 ?_
    refine ww_aload_n 145 X dX10_draw_145 1 rfl rfl ?_
    refine ww_iload 146 X dX10_draw_146 2 rfl ?_
    refine ww_iload 148 X dX10_draw_148 3 rfl ?_
    refine ww_iadd 150 X dX10_draw_150 ?_
    refine ww_iload 151 X dX10_draw_151 4 rfl ?_
    obtain ⟨_, f153, h⟩ := bO_some h
    obtain ⟨M153, e153, h⟩ := bO_some h
    refine ww_callVV0 153 X dX10_draw_153 mY_X0_putPart mL_X10_282 (rcv_spec f153) ⟨_, _, rfl⟩ (by decide) (As := [.ref l3, .int (l4 + l5), .int s0]) (rest := []) rfl rfl ⟨Nat.le_of_ble_eq_true rfl, Nat.le_of_ble_eq_true rfl⟩ (Nat.le_of_ble_eq_true rfl) (fun l D A => c_X0_putPart l D A e153) ?_
    refine ww_aload_n 156 X dX10_draw_156 0 rfl rfl ?_
    obtain ⟨v157, e157, h⟩ := bO_some h
    refine ww_getR 157 X dX10_draw_157 fG_X10_47 e157 ?_
    obtain ⟨_, f160, h⟩ := bO_some h
    obtain ⟨M160, e160, h⟩ := bO_some h
    refine ww_callVV0 160 X dX10_draw_160 mY_X0_clear mL_X10_81 (rcv_spec f160) ⟨_, _, rfl⟩ (by decide) (As := []) (rest := []) rfl rfl ⟨Nat.le_of_ble_eq_true rfl, Nat.le_of_ble_eq_true rfl⟩ (Nat.le_of_ble_eq_true rfl) (fun l D A => c_X0_clear l D A e160) ?_
    refine ww_aload_n 163 X dX10_draw_163 0 rfl rfl ?_
    obtain ⟨v164, e164, h⟩ := bO_some h
    refine ww_getR 164 X dX10_draw_164 fG_X10_47 e164 ?_
    refine ww_aload_n 167 X dX10_draw_167 1 rfl rfl ?_
    refine ww_iload 168 X dX10_draw_168 2 rfl ?_
    refine ww_iload 170 X dX10_draw_170 3 rfl ?_
    refine ww_iadd 172 X dX10_draw_172 ?_
    refine ww_iload 173 X dX10_draw_173 4 rfl ?_
    refine ww_iadd 175 X dX10_draw_175 ?_
    refine ww_gets 176 X dX10_draw_176 gS_X10_94 ?_
    refine ww_aload_n 179 X dX10_draw_179 0 rfl rfl ?_
    obtain ⟨v180, e180, h⟩ := bO_some h
    refine ww_getI 180 X dX10_draw_180 fG_X10_97 e180 ?_
    obtain ⟨v183, e183, h⟩ := bO_some h
    refine ww_iald 183 X dX10_draw_183 e183 ?_
    obtain ⟨_, f184, h⟩ := bO_some h
    obtain ⟨M184, e184, h⟩ := bO_some h
    refine ww_callVV0 184 X dX10_draw_184 mY_X0_putPart mL_X10_282 (rcv_spec f184) ⟨_, _, rfl⟩ (by decide) (As := [.ref l3, .int ((l4 + l5) + s0), .int v183]) (rest := []) rfl rfl ⟨Nat.le_of_ble_eq_true rfl, Nat.le_of_ble_eq_true rfl⟩ (Nat.le_of_ble_eq_true rfl) (fun l D A => c_X0_putPart l D A e184) ?_
    refine ww_iconst 187 X (v := (1 : Int32)) dX10_draw_187 (by decide) ?_
    exact ww_zretE 188 X hQ dX10_draw_188 h
  · replace h := (if_neg q).symm.trans h
    refine ww_iconst 95 X (v := (0 : Int32)) dX10_draw_95 (by decide) ?_
    exact ww_zretE 96 X hQ dX10_draw_96 h
set_option maxHeartbeats 4000000 in
set_option maxRecDepth 100000 in
theorem wB_X10_draw_24 {G : Nat → Nat} {F : Nat} {x : mXT} {sz : Nat} {r0 : Int32} {M0 : mM} (X : mCX G RX10 cX10_draw 7 (some .boolean) "draw" rmX10_draw x) (hQ : mQI x r0 M0 (sz, 0, 0)) {l0 : Nat} {l3 : Nat} {s0 : Int32} {M : mM} (h : B_X10_draw_24 G F l0 l3 s0 M = some (r0, M0)) : WW x (sz, 0, 0) M 24 [(0, .ref l0), (3, .ref l3)] [.int s0] := by
  unfold B_X10_draw_24 at h
  refine ww_istore 24 X dX10_draw_24 (lv' := [(0, .ref l0), (3, .ref l3), (4, .int s0)]) (by decide) [1, 2, 0] rfl ?_
  refine ww_aload_n 26 X dX10_draw_26 0 rfl rfl ?_
  obtain ⟨v27, e27, h⟩ := bO_some h
  refine ww_getI 27 X dX10_draw_27 fG_X10_190 e27 ?_
  refine ww_if_eq 30 41 X dX10_draw_30 (by decide) (fun q => ?_) (fun q => ?_)
  · replace h := (if_pos q).symm.trans h
    refine ww_iconst 41 X (v := (0 : Int32)) dX10_draw_41 (by decide) ?_
    refine ww_goto 42 53 X dX10_draw_42 (by decide) ?_
    refine ww_istore 53 X dX10_draw_53 (lv' := [(0, .ref l0), (3, .ref l3), (4, .int s0), (5, .int (0 : Int32))]) (by decide) [1, 2, 3, 0] rfl ?_
    refine ww_aload_n 55 X dX10_draw_55 0 rfl rfl ?_
    obtain ⟨v56, e56, h⟩ := bO_some h
    refine ww_getI 56 X dX10_draw_56 fG_X10_190 e56 ?_
    refine ww_iconst 59 X (v := (3 : Int32)) dX10_draw_59 (by decide) ?_
    refine ww_icmp_ne 60 68 X dX10_draw_60 (by decide) (fun q => ?_) (fun q => ?_)
    · replace h := (if_neg q).symm.trans h
      refine ww_iconst 68 X (v := (0 : Int32)) dX10_draw_68 (by decide) ?_
      exact (wB_X10_draw_69 X hQ h)
    · replace h := (if_pos q).symm.trans h
      refine ww_bipush 63 X (v := (32 : Int32)) dX10_draw_63 (by decide) ?_
      refine ww_goto 65 69 X dX10_draw_65 (by decide) ?_
      exact (wB_X10_draw_69 X hQ h)
  · replace h := (if_neg q).symm.trans h
    refine ww_aload_n 33 X dX10_draw_33 0 rfl rfl ?_
    obtain ⟨v34, e34, h⟩ := bO_some h
    refine ww_getI 34 X dX10_draw_34 fG_X10_190 e34 ?_
    refine ww_iconst 37 X (v := (4 : Int32)) dX10_draw_37 (by decide) ?_
    refine ww_icmp_ne 38 45 X dX10_draw_38 (by decide) (fun q => ?_) (fun q => ?_)
    · replace h := (if_neg q).symm.trans h
      refine ww_gets 45 X dX10_draw_45 gS_X10_279 ?_
      refine ww_aload_n 48 X dX10_draw_48 0 rfl rfl ?_
      obtain ⟨v49, e49, h⟩ := bO_some h
      refine ww_getI 49 X dX10_draw_49 fG_X10_97 e49 ?_
      obtain ⟨v52, e52, h⟩ := bO_some h
      refine ww_iald 52 X dX10_draw_52 e52 ?_
      refine ww_istore 53 X dX10_draw_53 (lv' := [(0, .ref l0), (3, .ref l3), (4, .int s0), (5, .int v52)]) (by decide) [1, 2, 3, 0] rfl ?_
      refine ww_aload_n 55 X dX10_draw_55 0 rfl rfl ?_
      obtain ⟨v56, e56, h⟩ := bO_some h
      refine ww_getI 56 X dX10_draw_56 fG_X10_190 e56 ?_
      refine ww_iconst 59 X (v := (3 : Int32)) dX10_draw_59 (by decide) ?_
      refine ww_icmp_ne 60 68 X dX10_draw_60 (by decide) (fun q => ?_) (fun q => ?_)
      · replace h := (if_neg q).symm.trans h
        refine ww_iconst 68 X (v := (0 : Int32)) dX10_draw_68 (by decide) ?_
        exact (wB_X10_draw_69 X hQ h)
      · replace h := (if_pos q).symm.trans h
        refine ww_bipush 63 X (v := (32 : Int32)) dX10_draw_63 (by decide) ?_
        refine ww_goto 65 69 X dX10_draw_65 (by decide) ?_
        exact (wB_X10_draw_69 X hQ h)
    · replace h := (if_pos q).symm.trans h
      refine ww_iconst 41 X (v := (0 : Int32)) dX10_draw_41 (by decide) ?_
      refine ww_goto 42 53 X dX10_draw_42 (by decide) ?_
      refine ww_istore 53 X dX10_draw_53 (lv' := [(0, .ref l0), (3, .ref l3), (4, .int s0), (5, .int (0 : Int32))]) (by decide) [1, 2, 3, 0] rfl ?_
      refine ww_aload_n 55 X dX10_draw_55 0 rfl rfl ?_
      obtain ⟨v56, e56, h⟩ := bO_some h
      refine ww_getI 56 X dX10_draw_56 fG_X10_190 e56 ?_
      refine ww_iconst 59 X (v := (3 : Int32)) dX10_draw_59 (by decide) ?_
      refine ww_icmp_ne 60 68 X dX10_draw_60 (by decide) (fun q => ?_) (fun q => ?_)
      · replace h := (if_neg q).symm.trans h
        refine ww_iconst 68 X (v := (0 : Int32)) dX10_draw_68 (by decide) ?_
        exact (wB_X10_draw_69 X hQ h)
      · replace h := (if_pos q).symm.trans h
        refine ww_bipush 63 X (v := (32 : Int32)) dX10_draw_63 (by decide) ?_
        refine ww_goto 65 69 X dX10_draw_65 (by decide) ?_
        exact (wB_X10_draw_69 X hQ h)
set_option maxHeartbeats 4000000 in
set_option maxRecDepth 100000 in
theorem wP_X10_draw {G : Nat → Nat} {F : Nat} {x : mXT} {sz : Nat} {r0 : Int32} {M0 : mM} (X : mCX G RX10 cX10_draw 7 (some .boolean) "draw" rmX10_draw x) (hQ : mQI x r0 M0 (sz, 0, 0)) {l0 : Nat} {l1 : Int32} {l2 : Int32} {l3 : Nat} {M : mM} (h : P_X10_draw G F l0 l1 l2 l3 M = some (r0, M0)) : WW x (sz, 0, 0) M 0 [(0, .ref l0), (1, .int l1), (2, .int l2), (3, .ref l3)] [] := by
  unfold P_X10_draw at h
  refine ww_aload_n 0 X dX10_draw_0 0 rfl rfl ?_
  refine ww_iload_n 1 X dX10_draw_1 1 rfl rfl ?_
  obtain ⟨M2, e2, h⟩ := bO_some h
  refine ww_putI 2 X dX10_draw_2 (fP_X10_190 _) e2 ?_
  refine ww_aload_n 5 X dX10_draw_5 0 rfl rfl ?_
  refine ww_iload_n 6 X dX10_draw_6 2 rfl rfl ?_
  obtain ⟨M7, e7, h⟩ := bO_some h
  refine ww_putI 7 X dX10_draw_7 (fP_X10_97 _) e7 ?_
  refine ww_aload_n 10 X dX10_draw_10 0 rfl rfl ?_
  obtain ⟨v11, e11, h⟩ := bO_some h
  refine ww_getI 11 X dX10_draw_11 fG_X10_190 e11 ?_
  refine ww_iconst 14 X (v := (4 : Int32)) dX10_draw_14 (by decide) ?_
  refine ww_icmp_lt 15 23 X dX10_draw_15 (by decide) (fun q => ?_) (fun q => ?_)
  · replace h := (if_pos q).symm.trans h
    refine ww_iconst 23 X (v := (0 : Int32)) dX10_draw_23 (by decide) ?_
    exact ww_sub [0, 3] rfl (wB_X10_draw_24 X hQ h)
  · replace h := (if_neg q).symm.trans h
    refine ww_bipush 18 X (v := (32 : Int32)) dX10_draw_18 (by decide) ?_
    refine ww_goto 20 24 X dX10_draw_20 (by decide) ?_
    exact ww_sub [0, 3] rfl (wB_X10_draw_24 X hQ h)
theorem c_X10_draw {G : Nat → Nat} {F sz : Nat} {r0 : Int32} {M0 : mM} (l : Launch) (D : mD) (A : Nat → Prop) {l0 : Nat} {l1 : Int32} {l2 : Int32} {l3 : Nat} {M : mM} (h : P_X10_draw G F l0 l1 l2 l3 M = some (r0, M0)) : mMetI l D G A yX10_draw cX10_draw 7 (some .boolean) 2 84 0 0 [.ref l0, .int l1, .int l2, .ref l3] M sz r0 M0 sz := mMetI_of l D G A (by decide) (Nat.le_of_ble_eq_true rfl) (fun x X hQ => wP_X10_draw X hQ h)
/-! SealedTokens$Token.sealedLetters(I)I -/
theorem dX10_sealedLetters_0 : decode cX10_sealedLetters 0 = .ok (.aload_n 0, 1) := by decide +kernel
theorem dX10_sealedLetters_1 : decode cX10_sealedLetters 1 = .ok (.getfield 14, 3) := by decide +kernel
theorem dX10_sealedLetters_4 : decode cX10_sealedLetters 4 = .ok (.getfield 60, 3) := by decide +kernel
theorem dX10_sealedLetters_7 : decode cX10_sealedLetters 7 = .ok (.invokestatic 285, 3) := by decide +kernel
theorem dX10_sealedLetters_10 : decode cX10_sealedLetters 10 = .ok (.aload_n 0, 1) := by decide +kernel
theorem dX10_sealedLetters_11 : decode cX10_sealedLetters 11 = .ok (.getfield 44, 3) := by decide +kernel
theorem dX10_sealedLetters_14 : decode cX10_sealedLetters 14 = .ok (.getfield 60, 3) := by decide +kernel
theorem dX10_sealedLetters_17 : decode cX10_sealedLetters 17 = .ok (.invokestatic 285, 3) := by decide +kernel
theorem dX10_sealedLetters_20 : decode cX10_sealedLetters 20 = .ok (.iadd, 1) := by decide +kernel
theorem dX10_sealedLetters_21 : decode cX10_sealedLetters 21 = .ok (.aload_n 0, 1) := by decide +kernel
theorem dX10_sealedLetters_22 : decode cX10_sealedLetters 22 = .ok (.getfield 47, 3) := by decide +kernel
theorem dX10_sealedLetters_25 : decode cX10_sealedLetters 25 = .ok (.getfield 60, 3) := by decide +kernel
theorem dX10_sealedLetters_28 : decode cX10_sealedLetters 28 = .ok (.invokestatic 285, 3) := by decide +kernel
theorem dX10_sealedLetters_31 : decode cX10_sealedLetters 31 = .ok (.iadd, 1) := by decide +kernel
theorem dX10_sealedLetters_32 : decode cX10_sealedLetters 32 = .ok (.aload_n 0, 1) := by decide +kernel
theorem dX10_sealedLetters_33 : decode cX10_sealedLetters 33 = .ok (.getfield 97, 3) := by decide +kernel
theorem dX10_sealedLetters_36 : decode cX10_sealedLetters 36 = .ok (.iload_n 1, 1) := by decide +kernel
theorem dX10_sealedLetters_37 : decode cX10_sealedLetters 37 = .ok (.invokestatic 288, 3) := by decide +kernel
theorem dX10_sealedLetters_40 : decode cX10_sealedLetters 40 = .ok (.invokestatic 285, 3) := by decide +kernel
theorem dX10_sealedLetters_43 : decode cX10_sealedLetters 43 = .ok (.iadd, 1) := by decide +kernel
theorem dX10_sealedLetters_44 : decode cX10_sealedLetters 44 = .ok (.getstatic 100, 3) := by decide +kernel
theorem dX10_sealedLetters_47 : decode cX10_sealedLetters 47 = .ok (.aload_n 0, 1) := by decide +kernel
theorem dX10_sealedLetters_48 : decode cX10_sealedLetters 48 = .ok (.getfield 97, 3) := by decide +kernel
theorem dX10_sealedLetters_51 : decode cX10_sealedLetters 51 = .ok (.iaload, 1) := by decide +kernel
theorem dX10_sealedLetters_52 : decode cX10_sealedLetters 52 = .ok (.invokestatic 285, 3) := by decide +kernel
theorem dX10_sealedLetters_55 : decode cX10_sealedLetters 55 = .ok (.iadd, 1) := by decide +kernel
theorem dX10_sealedLetters_56 : decode cX10_sealedLetters 56 = .ok (.iconst 4, 1) := by decide +kernel
theorem dX10_sealedLetters_57 : decode cX10_sealedLetters 57 = .ok (.iadd, 1) := by decide +kernel
theorem dX10_sealedLetters_58 : decode cX10_sealedLetters 58 = .ok (.ireturn, 1) := by decide +kernel
abbrev rmX10_sealedLetters : Room := { frames := 1, cells := 0, slots := 0, locals := 21 }
set_option maxHeartbeats 4000000 in
set_option maxRecDepth 100000 in
theorem wP_X10_sealedLetters {G : Nat → Nat} {F : Nat} {x : mXT} {sz : Nat} {r0 : Int32} {M0 : mM} (X : mCX G RX10 cX10_sealedLetters 2 (some .int) "sealedLetters" rmX10_sealedLetters x) (hQ : mQI x r0 M0 (sz, 0, 0)) {l0 : Nat} {l1 : Int32} {M : mM} (h : P_X10_sealedLetters G F l0 l1 M = some (r0, M0)) : WW x (sz, 0, 0) M 0 [(0, .ref l0), (1, .int l1)] [] := by
  unfold P_X10_sealedLetters at h
  refine ww_aload_n 0 X dX10_sealedLetters_0 0 rfl rfl ?_
  obtain ⟨v1, e1, h⟩ := bO_some h
  refine ww_getR 1 X dX10_sealedLetters_1 fG_X10_14 e1 ?_
  obtain ⟨v4, e4, h⟩ := bO_some h
  refine ww_getI 4 X dX10_sealedLetters_4 fG_X10_60 e4 ?_
  obtain ⟨v7, M7, e7, h⟩ := bP_some h
  refine ww_callSI0 7 X dX10_sealedLetters_7 mY_X0_lettersFor mL_X10_285 (As := [.int v4]) (rest := []) rfl rfl ⟨Nat.le_of_ble_eq_true rfl, Nat.le_of_ble_eq_true rfl⟩ (Nat.le_of_ble_eq_true rfl) (fun l D A => c_X0_lettersFor l D A e7) ?_
  refine ww_aload_n 10 X dX10_sealedLetters_10 0 rfl rfl ?_
  obtain ⟨v11, e11, h⟩ := bO_some h
  refine ww_getR 11 X dX10_sealedLetters_11 fG_X10_44 e11 ?_
  obtain ⟨v14, e14, h⟩ := bO_some h
  refine ww_getI 14 X dX10_sealedLetters_14 fG_X10_60 e14 ?_
  obtain ⟨v17, M17, e17, h⟩ := bP_some h
  refine ww_callSI0 17 X dX10_sealedLetters_17 mY_X0_lettersFor mL_X10_285 (As := [.int v14]) (rest := [.int v7]) rfl rfl ⟨Nat.le_of_ble_eq_true rfl, Nat.le_of_ble_eq_true rfl⟩ (Nat.le_of_ble_eq_true rfl) (fun l D A => c_X0_lettersFor l D A e17) ?_
  refine ww_iadd 20 X dX10_sealedLetters_20 ?_
  refine ww_aload_n 21 X dX10_sealedLetters_21 0 rfl rfl ?_
  obtain ⟨v22, e22, h⟩ := bO_some h
  refine ww_getR 22 X dX10_sealedLetters_22 fG_X10_47 e22 ?_
  obtain ⟨v25, e25, h⟩ := bO_some h
  refine ww_getI 25 X dX10_sealedLetters_25 fG_X10_60 e25 ?_
  obtain ⟨v28, M28, e28, h⟩ := bP_some h
  refine ww_callSI0 28 X dX10_sealedLetters_28 mY_X0_lettersFor mL_X10_285 (As := [.int v25]) (rest := [.int (v7 + v17)]) rfl rfl ⟨Nat.le_of_ble_eq_true rfl, Nat.le_of_ble_eq_true rfl⟩ (Nat.le_of_ble_eq_true rfl) (fun l D A => c_X0_lettersFor l D A e28) ?_
  refine ww_iadd 31 X dX10_sealedLetters_31 ?_
  refine ww_aload_n 32 X dX10_sealedLetters_32 0 rfl rfl ?_
  obtain ⟨v33, e33, h⟩ := bO_some h
  refine ww_getI 33 X dX10_sealedLetters_33 fG_X10_97 e33 ?_
  refine ww_iload_n 36 X dX10_sealedLetters_36 1 rfl rfl ?_
  obtain ⟨v37, M37, e37, h⟩ := bP_some h
  refine ww_callSI0 37 X dX10_sealedLetters_37 mY_X2_sealedBytes mL_X10_288 (As := [.int v33, .int l1]) (rest := [.int ((v7 + v17) + v28)]) rfl rfl ⟨Nat.le_of_ble_eq_true rfl, Nat.le_of_ble_eq_true rfl⟩ (Nat.le_of_ble_eq_true rfl) (fun l D A => c_X2_sealedBytes l D A e37) ?_
  obtain ⟨v40, M40, e40, h⟩ := bP_some h
  refine ww_callSI0 40 X dX10_sealedLetters_40 mY_X0_lettersFor mL_X10_285 (As := [.int v37]) (rest := [.int ((v7 + v17) + v28)]) rfl rfl ⟨Nat.le_of_ble_eq_true rfl, Nat.le_of_ble_eq_true rfl⟩ (Nat.le_of_ble_eq_true rfl) (fun l D A => c_X0_lettersFor l D A e40) ?_
  refine ww_iadd 43 X dX10_sealedLetters_43 ?_
  refine ww_gets 44 X dX10_sealedLetters_44 gS_X10_100 ?_
  refine ww_aload_n 47 X dX10_sealedLetters_47 0 rfl rfl ?_
  obtain ⟨v48, e48, h⟩ := bO_some h
  refine ww_getI 48 X dX10_sealedLetters_48 fG_X10_97 e48 ?_
  obtain ⟨v51, e51, h⟩ := bO_some h
  refine ww_iald 51 X dX10_sealedLetters_51 e51 ?_
  obtain ⟨v52, M52, e52, h⟩ := bP_some h
  refine ww_callSI0 52 X dX10_sealedLetters_52 mY_X0_lettersFor mL_X10_285 (As := [.int v51]) (rest := [.int (((v7 + v17) + v28) + v40)]) rfl rfl ⟨Nat.le_of_ble_eq_true rfl, Nat.le_of_ble_eq_true rfl⟩ (Nat.le_of_ble_eq_true rfl) (fun l D A => c_X0_lettersFor l D A e52) ?_
  refine ww_iadd 55 X dX10_sealedLetters_55 ?_
  refine ww_iconst 56 X (v := (4 : Int32)) dX10_sealedLetters_56 (by decide) ?_
  refine ww_iadd 57 X dX10_sealedLetters_57 ?_
  exact ww_iretE 58 X hQ dX10_sealedLetters_58 h
theorem c_X10_sealedLetters {G : Nat → Nat} {F sz : Nat} {r0 : Int32} {M0 : mM} (l : Launch) (D : mD) (A : Nat → Prop) {l0 : Nat} {l1 : Int32} {M : mM} (h : P_X10_sealedLetters G F l0 l1 M = some (r0, M0)) : mMetI l D G A yX10_sealedLetters cX10_sealedLetters 2 (some .int) 1 21 0 0 [.ref l0, .int l1] M sz r0 M0 sz := mMetI_of l D G A (by decide) (Nat.le_of_ble_eq_true rfl) (fun x X hQ => wP_X10_sealedLetters X hQ h)
/-! SealedTokens.<init>()V -/
theorem dX11_init_0 : decode cX11_init 0 = .ok (.aload_n 0, 1) := by decide +kernel
theorem dX11_init_1 : decode cX11_init 1 = .ok (.invokespecial 1, 3) := by decide +kernel
theorem dX11_init_4 : decode cX11_init 4 = .ok (.aload_n 0, 1) := by decide +kernel
theorem dX11_init_5 : decode cX11_init 5 = .ok (.bipush 8, 2) := by decide +kernel
theorem dX11_init_7 : decode cX11_init 7 = .ok (.anewarray 9, 3) := by decide +kernel
theorem dX11_init_10 : decode cX11_init 10 = .ok (.putfield 11, 3) := by decide +kernel
theorem dX11_init_13 : decode cX11_init 13 = .ok (.aload_n 0, 1) := by decide +kernel
theorem dX11_init_14 : decode cX11_init 14 = .ok (.new 9, 3) := by decide +kernel
theorem dX11_init_17 : decode cX11_init 17 = .ok (.dup, 1) := by decide +kernel
theorem dX11_init_18 : decode cX11_init 18 = .ok (.sipush 8192, 3) := by decide +kernel
theorem dX11_init_21 : decode cX11_init 21 = .ok (.invokespecial 15, 3) := by decide +kernel
theorem dX11_init_24 : decode cX11_init 24 = .ok (.putfield 18, 3) := by decide +kernel
theorem dX11_init_27 : decode cX11_init 27 = .ok (.aload_n 0, 1) := by decide +kernel
theorem dX11_init_28 : decode cX11_init 28 = .ok (.new 9, 3) := by decide +kernel
theorem dX11_init_31 : decode cX11_init 31 = .ok (.dup, 1) := by decide +kernel
theorem dX11_init_32 : decode cX11_init 32 = .ok (.sipush 8192, 3) := by decide +kernel
theorem dX11_init_35 : decode cX11_init 35 = .ok (.invokespecial 15, 3) := by decide +kernel
theorem dX11_init_38 : decode cX11_init 38 = .ok (.putfield 22, 3) := by decide +kernel
theorem dX11_init_41 : decode cX11_init 41 = .ok (.aload_n 0, 1) := by decide +kernel
theorem dX11_init_42 : decode cX11_init 42 = .ok (.new 9, 3) := by decide +kernel
theorem dX11_init_45 : decode cX11_init 45 = .ok (.dup, 1) := by decide +kernel
theorem dX11_init_46 : decode cX11_init 46 = .ok (.iconst 0, 1) := by decide +kernel
theorem dX11_init_47 : decode cX11_init 47 = .ok (.invokespecial 15, 3) := by decide +kernel
theorem dX11_init_50 : decode cX11_init 50 = .ok (.putfield 25, 3) := by decide +kernel
theorem dX11_init_53 : decode cX11_init 53 = .ok (.aload_n 0, 1) := by decide +kernel
theorem dX11_init_54 : decode cX11_init 54 = .ok (.new 9, 3) := by decide +kernel
theorem dX11_init_57 : decode cX11_init 57 = .ok (.dup, 1) := by decide +kernel
theorem dX11_init_58 : decode cX11_init 58 = .ok (.sipush 22528, 3) := by decide +kernel
theorem dX11_init_61 : decode cX11_init 61 = .ok (.invokespecial 15, 3) := by decide +kernel
theorem dX11_init_64 : decode cX11_init 64 = .ok (.putfield 28, 3) := by decide +kernel
theorem dX11_init_67 : decode cX11_init 67 = .ok (.aload_n 0, 1) := by decide +kernel
theorem dX11_init_68 : decode cX11_init 68 = .ok (.new 9, 3) := by decide +kernel
theorem dX11_init_71 : decode cX11_init 71 = .ok (.dup, 1) := by decide +kernel
theorem dX11_init_72 : decode cX11_init 72 = .ok (.sipush 8192, 3) := by decide +kernel
theorem dX11_init_75 : decode cX11_init 75 = .ok (.invokespecial 15, 3) := by decide +kernel
theorem dX11_init_78 : decode cX11_init 78 = .ok (.putfield 31, 3) := by decide +kernel
theorem dX11_init_81 : decode cX11_init 81 = .ok (.aload_n 0, 1) := by decide +kernel
theorem dX11_init_82 : decode cX11_init 82 = .ok (.new 9, 3) := by decide +kernel
theorem dX11_init_85 : decode cX11_init 85 = .ok (.dup, 1) := by decide +kernel
theorem dX11_init_86 : decode cX11_init 86 = .ok (.sipush 8192, 3) := by decide +kernel
theorem dX11_init_89 : decode cX11_init 89 = .ok (.invokespecial 15, 3) := by decide +kernel
theorem dX11_init_92 : decode cX11_init 92 = .ok (.putfield 34, 3) := by decide +kernel
theorem dX11_init_95 : decode cX11_init 95 = .ok (.aload_n 0, 1) := by decide +kernel
theorem dX11_init_96 : decode cX11_init 96 = .ok (.new 37, 3) := by decide +kernel
theorem dX11_init_99 : decode cX11_init 99 = .ok (.dup, 1) := by decide +kernel
theorem dX11_init_100 : decode cX11_init 100 = .ok (.invokespecial 39, 3) := by decide +kernel
theorem dX11_init_103 : decode cX11_init 103 = .ok (.putfield 40, 3) := by decide +kernel
theorem dX11_init_106 : decode cX11_init 106 = .ok (.aload_n 0, 1) := by decide +kernel
theorem dX11_init_107 : decode cX11_init 107 = .ok (.new 37, 3) := by decide +kernel
theorem dX11_init_110 : decode cX11_init 110 = .ok (.dup, 1) := by decide +kernel
theorem dX11_init_111 : decode cX11_init 111 = .ok (.invokespecial 39, 3) := by decide +kernel
theorem dX11_init_114 : decode cX11_init 114 = .ok (.putfield 44, 3) := by decide +kernel
theorem dX11_init_117 : decode cX11_init 117 = .ok (.aload_n 0, 1) := by decide +kernel
theorem dX11_init_118 : decode cX11_init 118 = .ok (.new 47, 3) := by decide +kernel
theorem dX11_init_121 : decode cX11_init 121 = .ok (.dup, 1) := by decide +kernel
theorem dX11_init_122 : decode cX11_init 122 = .ok (.aload_n 0, 1) := by decide +kernel
theorem dX11_init_123 : decode cX11_init 123 = .ok (.getfield 25, 3) := by decide +kernel
theorem dX11_init_126 : decode cX11_init 126 = .ok (.aload_n 0, 1) := by decide +kernel
theorem dX11_init_127 : decode cX11_init 127 = .ok (.getfield 44, 3) := by decide +kernel
theorem dX11_init_130 : decode cX11_init 130 = .ok (.invokespecial 49, 3) := by decide +kernel
theorem dX11_init_133 : decode cX11_init 133 = .ok (.putfield 52, 3) := by decide +kernel
theorem dX11_init_136 : decode cX11_init 136 = .ok (.aload_n 0, 1) := by decide +kernel
theorem dX11_init_137 : decode cX11_init 137 = .ok (.bipush 16, 2) := by decide +kernel
theorem dX11_init_139 : decode cX11_init 139 = .ok (.anewarray 56, 3) := by decide +kernel
theorem dX11_init_142 : decode cX11_init 142 = .ok (.putfield 58, 3) := by decide +kernel
theorem dX11_init_145 : decode cX11_init 145 = .ok (.aload_n 0, 1) := by decide +kernel
theorem dX11_init_146 : decode cX11_init 146 = .ok (.new 56, 3) := by decide +kernel
theorem dX11_init_149 : decode cX11_init 149 = .ok (.dup, 1) := by decide +kernel
theorem dX11_init_150 : decode cX11_init 150 = .ok (.invokespecial 62, 3) := by decide +kernel
theorem dX11_init_153 : decode cX11_init 153 = .ok (.putfield 63, 3) := by decide +kernel
theorem dX11_init_156 : decode cX11_init 156 = .ok (.aload_n 0, 1) := by decide +kernel
theorem dX11_init_157 : decode cX11_init 157 = .ok (.new 67, 3) := by decide +kernel
theorem dX11_init_160 : decode cX11_init 160 = .ok (.dup, 1) := by decide +kernel
theorem dX11_init_161 : decode cX11_init 161 = .ok (.invokespecial 69, 3) := by decide +kernel
theorem dX11_init_164 : decode cX11_init 164 = .ok (.putfield 70, 3) := by decide +kernel
theorem dX11_init_167 : decode cX11_init 167 = .ok (.aload_n 0, 1) := by decide +kernel
theorem dX11_init_168 : decode cX11_init 168 = .ok (.new 74, 3) := by decide +kernel
theorem dX11_init_171 : decode cX11_init 171 = .ok (.dup, 1) := by decide +kernel
theorem dX11_init_172 : decode cX11_init 172 = .ok (.invokespecial 76, 3) := by decide +kernel
theorem dX11_init_175 : decode cX11_init 175 = .ok (.putfield 77, 3) := by decide +kernel
theorem dX11_init_178 : decode cX11_init 178 = .ok (.aload_n 0, 1) := by decide +kernel
theorem dX11_init_179 : decode cX11_init 179 = .ok (.new 81, 3) := by decide +kernel
theorem dX11_init_182 : decode cX11_init 182 = .ok (.dup, 1) := by decide +kernel
theorem dX11_init_183 : decode cX11_init 183 = .ok (.aload_n 0, 1) := by decide +kernel
theorem dX11_init_184 : decode cX11_init 184 = .ok (.getfield 70, 3) := by decide +kernel
theorem dX11_init_187 : decode cX11_init 187 = .ok (.aload_n 0, 1) := by decide +kernel
theorem dX11_init_188 : decode cX11_init 188 = .ok (.getfield 77, 3) := by decide +kernel
theorem dX11_init_191 : decode cX11_init 191 = .ok (.invokespecial 83, 3) := by decide +kernel
theorem dX11_init_194 : decode cX11_init 194 = .ok (.putfield 86, 3) := by decide +kernel
theorem dX11_init_197 : decode cX11_init 197 = .ok (.aload_n 0, 1) := by decide +kernel
theorem dX11_init_198 : decode cX11_init 198 = .ok (.new 90, 3) := by decide +kernel
theorem dX11_init_201 : decode cX11_init 201 = .ok (.dup, 1) := by decide +kernel
theorem dX11_init_202 : decode cX11_init 202 = .ok (.aload_n 0, 1) := by decide +kernel
theorem dX11_init_203 : decode cX11_init 203 = .ok (.getfield 70, 3) := by decide +kernel
theorem dX11_init_206 : decode cX11_init 206 = .ok (.invokespecial 92, 3) := by decide +kernel
theorem dX11_init_209 : decode cX11_init 209 = .ok (.putfield 95, 3) := by decide +kernel
theorem dX11_init_212 : decode cX11_init 212 = .ok (.aload_n 0, 1) := by decide +kernel
theorem dX11_init_213 : decode cX11_init 213 = .ok (.new 99, 3) := by decide +kernel
theorem dX11_init_216 : decode cX11_init 216 = .ok (.dup, 1) := by decide +kernel
theorem dX11_init_217 : decode cX11_init 217 = .ok (.invokespecial 101, 3) := by decide +kernel
theorem dX11_init_220 : decode cX11_init 220 = .ok (.putfield 102, 3) := by decide +kernel
theorem dX11_init_223 : decode cX11_init 223 = .ok (.aload_n 0, 1) := by decide +kernel
theorem dX11_init_224 : decode cX11_init 224 = .ok (.new 106, 3) := by decide +kernel
theorem dX11_init_227 : decode cX11_init 227 = .ok (.dup, 1) := by decide +kernel
theorem dX11_init_228 : decode cX11_init 228 = .ok (.invokespecial 108, 3) := by decide +kernel
theorem dX11_init_231 : decode cX11_init 231 = .ok (.putfield 109, 3) := by decide +kernel
theorem dX11_init_234 : decode cX11_init 234 = .ok (.iconst 0, 1) := by decide +kernel
theorem dX11_init_235 : decode cX11_init 235 = .ok (.istore_n 1, 1) := by decide +kernel
theorem dX11_init_236 : decode cX11_init 236 = .ok (.iload_n 1, 1) := by decide +kernel
theorem dX11_init_237 : decode cX11_init 237 = .ok (.bipush 8, 2) := by decide +kernel
theorem dX11_init_239 : decode cX11_init 239 = .ok (.if_icmp .ge 25, 3) := by decide +kernel
theorem dX11_init_242 : decode cX11_init 242 = .ok (.aload_n 0, 1) := by decide +kernel
theorem dX11_init_243 : decode cX11_init 243 = .ok (.getfield 11, 3) := by decide +kernel
theorem dX11_init_246 : decode cX11_init 246 = .ok (.iload_n 1, 1) := by decide +kernel
theorem dX11_init_247 : decode cX11_init 247 = .ok (.new 9, 3) := by decide +kernel
theorem dX11_init_250 : decode cX11_init 250 = .ok (.dup, 1) := by decide +kernel
theorem dX11_init_251 : decode cX11_init 251 = .ok (.sipush 8192, 3) := by decide +kernel
theorem dX11_init_254 : decode cX11_init 254 = .ok (.invokespecial 15, 3) := by decide +kernel
theorem dX11_init_257 : decode cX11_init 257 = .ok (.aastore, 1) := by decide +kernel
theorem dX11_init_258 : decode cX11_init 258 = .ok (.iinc 1 1, 3) := by decide +kernel
theorem dX11_init_261 : decode cX11_init 261 = .ok (.goto (-25), 3) := by decide +kernel
theorem dX11_init_264 : decode cX11_init 264 = .ok (.iconst 0, 1) := by decide +kernel
theorem dX11_init_265 : decode cX11_init 265 = .ok (.istore_n 1, 1) := by decide +kernel
theorem dX11_init_266 : decode cX11_init 266 = .ok (.iload_n 1, 1) := by decide +kernel
theorem dX11_init_267 : decode cX11_init 267 = .ok (.bipush 16, 2) := by decide +kernel
theorem dX11_init_269 : decode cX11_init 269 = .ok (.if_icmp .ge 22, 3) := by decide +kernel
theorem dX11_init_272 : decode cX11_init 272 = .ok (.aload_n 0, 1) := by decide +kernel
theorem dX11_init_273 : decode cX11_init 273 = .ok (.getfield 58, 3) := by decide +kernel
theorem dX11_init_276 : decode cX11_init 276 = .ok (.iload_n 1, 1) := by decide +kernel
theorem dX11_init_277 : decode cX11_init 277 = .ok (.new 56, 3) := by decide +kernel
theorem dX11_init_280 : decode cX11_init 280 = .ok (.dup, 1) := by decide +kernel
theorem dX11_init_281 : decode cX11_init 281 = .ok (.invokespecial 62, 3) := by decide +kernel
theorem dX11_init_284 : decode cX11_init 284 = .ok (.aastore, 1) := by decide +kernel
theorem dX11_init_285 : decode cX11_init 285 = .ok (.iinc 1 1, 3) := by decide +kernel
theorem dX11_init_288 : decode cX11_init 288 = .ok (.goto (-22), 3) := by decide +kernel
theorem dX11_init_291 : decode cX11_init 291 = .ok (.return_, 1) := by decide +kernel
theorem mB_X11_init_269 {G : Nat → Nat} {F : Nat} {M0 : mM} {Z0 S0 : Nat} (r266 : Nat → Int32 → mM → Nat → Nat → Option (mM × Nat × Nat)) (hm266 : ∀ (l0 : Nat) (l1 : Int32) (M : mM) (sz : Nat) (sl : Nat), r266 l0 l1 M sz sl = some (M0, Z0, S0) → sz ≤ Z0 ∧ sl ≤ S0) {l0 : Nat} {l1 : Int32} {s0 : Int32} {s1 : Int32} {M : mM} {sz : Nat} {sl : Nat} (h : B_X11_init_269 G F r266 l0 l1 s0 s1 M sz sl = some (M0, Z0, S0)) : sz ≤ Z0 ∧ sl ≤ S0 := by
  unfold B_X11_init_269 at h
  by_cases q : s1 ≤ s0
  · replace h := (if_pos q).symm.trans h
    have q := retA_v h
    omega
  · replace h := (if_neg q).symm.trans h
    obtain ⟨v273, e273, h⟩ := bO_some h
    obtain ⟨M277, e277, h⟩ := bO_some h
    obtain ⟨M281, z281, k281, e281, h⟩ := bA_some h
    have g281 := mP_X5_init e281
    obtain ⟨M284, e284, h⟩ := bO_some h
    have q := hm266 _ _ _ _ _ h
    omega
set_option maxHeartbeats 4000000 in
set_option maxRecDepth 100000 in
theorem wB_X11_init_269 {G : Nat → Nat} {F : Nat} {x : mXT} {z0 s0 : Nat} {M0 : mM} {Z0 S0 : Nat} (X : mCX G RX11 cX11_init 2 none "<init>" { frames := 6, cells := Z0 - z0, slots := S0 - s0, locals := 164 } x) (hQ : mQV x M0 (Z0, Z0 - z0, S0 - s0)) (r266 : Nat → Int32 → mM → Nat → Nat → Option (mM × Nat × Nat)) (hm266 : ∀ (l0 : Nat) (l1 : Int32) (M : mM) (sz : Nat) (sl : Nat), r266 l0 l1 M sz sl = some (M0, Z0, S0) → sz ≤ Z0 ∧ sl ≤ S0) (hr266 : ∀ (l0 : Nat) (l1 : Int32) (M : mM) (sz : Nat) (sl : Nat), z0 ≤ sz → s0 ≤ sl → r266 l0 l1 M sz sl = some (M0, Z0, S0) → WW x (sz, sz - z0, sl - s0) M 266 [(0, .ref l0), (1, .int l1)] []) {l0 : Nat} {l1 : Int32} {s0 : Int32} {s1 : Int32} {M : mM} {sz : Nat} {sl : Nat} (hz0 : z0 ≤ sz) (hs0 : s0 ≤ sl) (h : B_X11_init_269 G F r266 l0 l1 s0 s1 M sz sl = some (M0, Z0, S0)) : WW x (sz, sz - z0, sl - s0) M 269 [(0, .ref l0), (1, .int l1)] [.int s1, .int s0] := by
  unfold B_X11_init_269 at h
  refine ww_icmp_ge 269 291 X dX11_init_269 (by decide) (fun q => ?_) (fun q => ?_)
  · replace h := (if_pos q).symm.trans h
    have q := retA_v h
    exact ww_vretA 291 X hQ dX11_init_291 h
  · replace h := (if_neg q).symm.trans h
    obtain ⟨v273, e273, h⟩ := bO_some h
    obtain ⟨M277, e277, h⟩ := bO_some h
    obtain ⟨M281, z281, k281, e281, h⟩ := bA_some h
    have g281 := mP_X5_init e281
    obtain ⟨M284, e284, h⟩ := bO_some h
    have q := hm266 _ _ _ _ _ h
    refine ww_aload_n 272 X dX11_init_272 0 rfl rfl ?_
    refine ww_getR 273 X dX11_init_273 fG_X11_58 e273 ?_
    refine ww_iload_n 276 X dX11_init_276 1 rfl rfl ?_
    cases e277
    refine ww_newO 277 X (sz := sz) (sl := sl) (z0 := z0) (s0 := s0) dX11_init_277 nW_X11_56 (by omega) (by omega) (by show _ ≤ Z0 - z0; omega) (by show _ ≤ S0 - s0; omega) ?_
    refine ww_dup 280 X dX11_init_280 rfl ?_
    refine ww_callIVNa 281 X (sz := (sz + 1)) (sl := (sl + 10)) (z0 := z0) (s0 := s0) dX11_init_281 mY_X5_init mL_X11_62 (As := []) (rest := [.ref sz, .int l1, .ref v273]) rfl rfl ⟨Nat.le_of_ble_eq_true rfl, Nat.le_of_ble_eq_true rfl⟩ (by omega) (by omega) (by omega) (by omega) (by show _ ≤ Z0 - z0; omega) (by show _ ≤ S0 - s0; omega) (Nat.le_of_ble_eq_true rfl) (fun l D A => c_X5_init l D A e281) ?_
    refine ww_aast 284 X dX11_init_284 (by decide) ⟨_, rfl, rfl⟩ e284 ?_
    refine ww_iinc 285 X dX11_init_285 (lv' := [(0, .ref l0), (1, .int (l1 + 1))]) 1 rfl rfl (by decide) [1, 0] rfl ?_
    refine ww_goto 288 266 X dX11_init_288 (by decide) ?_
    exact (hr266 _ _ _ _ _ (by omega) (by omega) h)
theorem mB_X11_init_266 {G : Nat → Nat} {F : Nat} {M0 : mM} {Z0 S0 : Nat} : ∀ (n : Nat) (l0 : Nat) (l1 : Int32) (M : mM) (sz : Nat) (sl : Nat), B_X11_init_266 G F n l0 l1 M sz sl = some (M0, Z0, S0) → sz ≤ Z0 ∧ sl ≤ S0 := by
  intro n
  induction n with
  | zero =>
    intro l0 l1 M sz sl h
    exact nomatch (show (none : Option (mM × Nat × Nat)) = some (M0, Z0, S0) from h)
  | succ n ih =>
    intro l0 l1 M sz sl h
    rw [B_X11_init_266] at h
    have q := mB_X11_init_269 _ (mB_X11_init_266 n) h
    omega
set_option maxHeartbeats 4000000 in
set_option maxRecDepth 100000 in
theorem wB_X11_init_266 {G : Nat → Nat} {F : Nat} {x : mXT} {z0 s0 : Nat} {M0 : mM} {Z0 S0 : Nat} (X : mCX G RX11 cX11_init 2 none "<init>" { frames := 6, cells := Z0 - z0, slots := S0 - s0, locals := 164 } x) (hQ : mQV x M0 (Z0, Z0 - z0, S0 - s0)) : ∀ (n : Nat) (l0 : Nat) (l1 : Int32) (M : mM) (sz : Nat) (sl : Nat), z0 ≤ sz → s0 ≤ sl → B_X11_init_266 G F n l0 l1 M sz sl = some (M0, Z0, S0) → WW x (sz, sz - z0, sl - s0) M 266 [(0, .ref l0), (1, .int l1)] [] := by
  intro n
  induction n with
  | zero =>
    intro l0 l1 M sz sl hz0 hs0 h
    exact nomatch (show (none : Option (mM × Nat × Nat)) = some (M0, Z0, S0) from h)
  | succ n ih =>
    intro l0 l1 M sz sl hz0 hs0 h
    rw [B_X11_init_266] at h
    have q := mB_X11_init_269 _ (mB_X11_init_266 n) h
    refine ww_iload_n 266 X dX11_init_266 1 rfl rfl ?_
    refine ww_bipush 267 X (v := (16 : Int32)) dX11_init_267 (by decide) ?_
    exact (wB_X11_init_269 X hQ _ (mB_X11_init_266 n) ih (by omega) (by omega) h)
theorem mB_X11_init_239 {G : Nat → Nat} {F : Nat} {M0 : mM} {Z0 S0 : Nat} (r236 : Nat → Int32 → mM → Nat → Nat → Option (mM × Nat × Nat)) (hm236 : ∀ (l0 : Nat) (l1 : Int32) (M : mM) (sz : Nat) (sl : Nat), r236 l0 l1 M sz sl = some (M0, Z0, S0) → sz ≤ Z0 ∧ sl ≤ S0) {l0 : Nat} {l1 : Int32} {s0 : Int32} {s1 : Int32} {M : mM} {sz : Nat} {sl : Nat} (h : B_X11_init_239 G F r236 l0 l1 s0 s1 M sz sl = some (M0, Z0, S0)) : sz ≤ Z0 ∧ sl ≤ S0 := by
  unfold B_X11_init_239 at h
  by_cases q : s1 ≤ s0
  · replace h := (if_pos q).symm.trans h
    have q := mB_X11_init_266 F _ _ _ _ _ h
    omega
  · replace h := (if_neg q).symm.trans h
    obtain ⟨v243, e243, h⟩ := bO_some h
    obtain ⟨M247, e247, h⟩ := bO_some h
    obtain ⟨M254, z254, k254, e254, h⟩ := bA_some h
    have g254 := mP_X0_init e254
    obtain ⟨M257, e257, h⟩ := bO_some h
    have q := hm236 _ _ _ _ _ h
    omega
set_option maxHeartbeats 4000000 in
set_option maxRecDepth 100000 in
theorem wB_X11_init_239 {G : Nat → Nat} {F : Nat} {x : mXT} {z0 s0 : Nat} {M0 : mM} {Z0 S0 : Nat} (X : mCX G RX11 cX11_init 2 none "<init>" { frames := 6, cells := Z0 - z0, slots := S0 - s0, locals := 164 } x) (hQ : mQV x M0 (Z0, Z0 - z0, S0 - s0)) (r236 : Nat → Int32 → mM → Nat → Nat → Option (mM × Nat × Nat)) (hm236 : ∀ (l0 : Nat) (l1 : Int32) (M : mM) (sz : Nat) (sl : Nat), r236 l0 l1 M sz sl = some (M0, Z0, S0) → sz ≤ Z0 ∧ sl ≤ S0) (hr236 : ∀ (l0 : Nat) (l1 : Int32) (M : mM) (sz : Nat) (sl : Nat), z0 ≤ sz → s0 ≤ sl → r236 l0 l1 M sz sl = some (M0, Z0, S0) → WW x (sz, sz - z0, sl - s0) M 236 [(0, .ref l0), (1, .int l1)] []) {l0 : Nat} {l1 : Int32} {s0 : Int32} {s1 : Int32} {M : mM} {sz : Nat} {sl : Nat} (hz0 : z0 ≤ sz) (hs0 : s0 ≤ sl) (h : B_X11_init_239 G F r236 l0 l1 s0 s1 M sz sl = some (M0, Z0, S0)) : WW x (sz, sz - z0, sl - s0) M 239 [(0, .ref l0), (1, .int l1)] [.int s1, .int s0] := by
  unfold B_X11_init_239 at h
  refine ww_icmp_ge 239 264 X dX11_init_239 (by decide) (fun q => ?_) (fun q => ?_)
  · replace h := (if_pos q).symm.trans h
    have q := mB_X11_init_266 F _ _ _ _ _ h
    refine ww_iconst 264 X (v := (0 : Int32)) dX11_init_264 (by decide) ?_
    refine ww_istore_n 265 X dX11_init_265 (lv' := [(0, .ref l0), (1, .int (0 : Int32))]) rfl (by decide) [1, 0] rfl ?_
    exact (wB_X11_init_266 X hQ F _ _ _ _ _ (by omega) (by omega) h)
  · replace h := (if_neg q).symm.trans h
    obtain ⟨v243, e243, h⟩ := bO_some h
    obtain ⟨M247, e247, h⟩ := bO_some h
    obtain ⟨M254, z254, k254, e254, h⟩ := bA_some h
    have g254 := mP_X0_init e254
    obtain ⟨M257, e257, h⟩ := bO_some h
    have q := hm236 _ _ _ _ _ h
    refine ww_aload_n 242 X dX11_init_242 0 rfl rfl ?_
    refine ww_getR 243 X dX11_init_243 fG_X11_11 e243 ?_
    refine ww_iload_n 246 X dX11_init_246 1 rfl rfl ?_
    cases e247
    refine ww_newO 247 X (sz := sz) (sl := sl) (z0 := z0) (s0 := s0) dX11_init_247 nW_X11_9 (by omega) (by omega) (by show _ ≤ Z0 - z0; omega) (by show _ ≤ S0 - s0; omega) ?_
    refine ww_dup 250 X dX11_init_250 rfl ?_
    refine ww_sipush 251 X (v := (8192 : Int32)) dX11_init_251 (by decide) ?_
    refine ww_callIVa 254 X (sz := (sz + 1)) (sl := (sl + 3)) (z0 := z0) (s0 := s0) dX11_init_254 mY_X0_init mL_X11_15 (As := [.int (8192 : Int32)]) (rest := [.ref sz, .int l1, .ref v243]) rfl rfl ⟨Nat.le_of_ble_eq_true rfl, Nat.le_of_ble_eq_true rfl⟩ (by omega) (by omega) (by omega) (by omega) (by show _ ≤ Z0 - z0; omega) (by show _ ≤ S0 - s0; omega) (Nat.le_of_ble_eq_true rfl) (fun l D A => c_X0_init l D A e254) ?_
    refine ww_aast 257 X dX11_init_257 (by decide) ⟨_, rfl, rfl⟩ e257 ?_
    refine ww_iinc 258 X dX11_init_258 (lv' := [(0, .ref l0), (1, .int (l1 + 1))]) 1 rfl rfl (by decide) [1, 0] rfl ?_
    refine ww_goto 261 236 X dX11_init_261 (by decide) ?_
    exact (hr236 _ _ _ _ _ (by omega) (by omega) h)
theorem mB_X11_init_236 {G : Nat → Nat} {F : Nat} {M0 : mM} {Z0 S0 : Nat} : ∀ (n : Nat) (l0 : Nat) (l1 : Int32) (M : mM) (sz : Nat) (sl : Nat), B_X11_init_236 G F n l0 l1 M sz sl = some (M0, Z0, S0) → sz ≤ Z0 ∧ sl ≤ S0 := by
  intro n
  induction n with
  | zero =>
    intro l0 l1 M sz sl h
    exact nomatch (show (none : Option (mM × Nat × Nat)) = some (M0, Z0, S0) from h)
  | succ n ih =>
    intro l0 l1 M sz sl h
    rw [B_X11_init_236] at h
    have q := mB_X11_init_239 _ (mB_X11_init_236 n) h
    omega
set_option maxHeartbeats 4000000 in
set_option maxRecDepth 100000 in
theorem wB_X11_init_236 {G : Nat → Nat} {F : Nat} {x : mXT} {z0 s0 : Nat} {M0 : mM} {Z0 S0 : Nat} (X : mCX G RX11 cX11_init 2 none "<init>" { frames := 6, cells := Z0 - z0, slots := S0 - s0, locals := 164 } x) (hQ : mQV x M0 (Z0, Z0 - z0, S0 - s0)) : ∀ (n : Nat) (l0 : Nat) (l1 : Int32) (M : mM) (sz : Nat) (sl : Nat), z0 ≤ sz → s0 ≤ sl → B_X11_init_236 G F n l0 l1 M sz sl = some (M0, Z0, S0) → WW x (sz, sz - z0, sl - s0) M 236 [(0, .ref l0), (1, .int l1)] [] := by
  intro n
  induction n with
  | zero =>
    intro l0 l1 M sz sl hz0 hs0 h
    exact nomatch (show (none : Option (mM × Nat × Nat)) = some (M0, Z0, S0) from h)
  | succ n ih =>
    intro l0 l1 M sz sl hz0 hs0 h
    rw [B_X11_init_236] at h
    have q := mB_X11_init_239 _ (mB_X11_init_236 n) h
    refine ww_iload_n 236 X dX11_init_236 1 rfl rfl ?_
    refine ww_bipush 237 X (v := (8 : Int32)) dX11_init_237 (by decide) ?_
    exact (wB_X11_init_239 X hQ _ (mB_X11_init_236 n) ih (by omega) (by omega) h)
theorem mP_X11_init {G : Nat → Nat} {F : Nat} {M0 : mM} {Z0 S0 : Nat} {l0 : Nat} {M : mM} {sz : Nat} {sl : Nat} (h : P_X11_init G F l0 M sz sl = some (M0, Z0, S0)) : sz ≤ Z0 ∧ sl ≤ S0 := by
  unfold P_X11_init at h
  obtain ⟨M7, e7, h⟩ := bO_some h
  obtain ⟨M10, e10, h⟩ := bO_some h
  obtain ⟨M14, e14, h⟩ := bO_some h
  obtain ⟨M21, z21, k21, e21, h⟩ := bA_some h
  have g21 := mP_X0_init e21
  obtain ⟨M24, e24, h⟩ := bO_some h
  obtain ⟨M28, e28, h⟩ := bO_some h
  obtain ⟨M35, z35, k35, e35, h⟩ := bA_some h
  have g35 := mP_X0_init e35
  obtain ⟨M38, e38, h⟩ := bO_some h
  obtain ⟨M42, e42, h⟩ := bO_some h
  obtain ⟨M47, z47, k47, e47, h⟩ := bA_some h
  have g47 := mP_X0_init e47
  obtain ⟨M50, e50, h⟩ := bO_some h
  obtain ⟨M54, e54, h⟩ := bO_some h
  obtain ⟨M61, z61, k61, e61, h⟩ := bA_some h
  have g61 := mP_X0_init e61
  obtain ⟨M64, e64, h⟩ := bO_some h
  obtain ⟨M68, e68, h⟩ := bO_some h
  obtain ⟨M75, z75, k75, e75, h⟩ := bA_some h
  have g75 := mP_X0_init e75
  obtain ⟨M78, e78, h⟩ := bO_some h
  obtain ⟨M82, e82, h⟩ := bO_some h
  obtain ⟨M89, z89, k89, e89, h⟩ := bA_some h
  have g89 := mP_X0_init e89
  obtain ⟨M92, e92, h⟩ := bO_some h
  obtain ⟨M96, e96, h⟩ := bO_some h
  obtain ⟨M100, z100, k100, e100, h⟩ := bA_some h
  have g100 := mP_X9_init e100
  obtain ⟨M103, e103, h⟩ := bO_some h
  obtain ⟨M107, e107, h⟩ := bO_some h
  obtain ⟨M111, z111, k111, e111, h⟩ := bA_some h
  have g111 := mP_X9_init e111
  obtain ⟨M114, e114, h⟩ := bO_some h
  obtain ⟨M118, e118, h⟩ := bO_some h
  obtain ⟨v123, e123, h⟩ := bO_some h
  obtain ⟨v127, e127, h⟩ := bO_some h
  obtain ⟨M130, z130, k130, e130, h⟩ := bA_some h
  have g130 := mP_X7_init e130
  obtain ⟨M133, e133, h⟩ := bO_some h
  obtain ⟨M139, e139, h⟩ := bO_some h
  obtain ⟨M142, e142, h⟩ := bO_some h
  obtain ⟨M146, e146, h⟩ := bO_some h
  obtain ⟨M150, z150, k150, e150, h⟩ := bA_some h
  have g150 := mP_X5_init e150
  obtain ⟨M153, e153, h⟩ := bO_some h
  obtain ⟨M157, e157, h⟩ := bO_some h
  obtain ⟨M161, z161, k161, e161, h⟩ := bA_some h
  have g161 := mP_X4_init e161
  obtain ⟨M164, e164, h⟩ := bO_some h
  obtain ⟨M168, e168, h⟩ := bO_some h
  obtain ⟨M172, z172, k172, e172, h⟩ := bA_some h
  have g172 := mP_X1_init e172
  obtain ⟨M175, e175, h⟩ := bO_some h
  obtain ⟨M179, e179, h⟩ := bO_some h
  obtain ⟨v184, e184, h⟩ := bO_some h
  obtain ⟨v188, e188, h⟩ := bO_some h
  obtain ⟨M191, z191, k191, e191, h⟩ := bA_some h
  have g191 := mP_X2_init e191
  obtain ⟨M194, e194, h⟩ := bO_some h
  obtain ⟨M198, e198, h⟩ := bO_some h
  obtain ⟨v203, e203, h⟩ := bO_some h
  obtain ⟨M206, z206, k206, e206, h⟩ := bA_some h
  have g206 := mP_X8_init e206
  obtain ⟨M209, e209, h⟩ := bO_some h
  obtain ⟨M213, e213, h⟩ := bO_some h
  obtain ⟨M217, z217, k217, e217, h⟩ := bA_some h
  have g217 := mP_X3_init e217
  obtain ⟨M220, e220, h⟩ := bO_some h
  obtain ⟨M224, e224, h⟩ := bO_some h
  obtain ⟨M228, z228, k228, e228, h⟩ := bA_some h
  have g228 := mP_X10_init e228
  obtain ⟨M231, e231, h⟩ := bO_some h
  have q := mB_X11_init_236 F _ _ _ _ _ h
  omega
set_option maxHeartbeats 4000000 in
set_option maxRecDepth 100000 in
theorem wP_X11_init {G : Nat → Nat} {F : Nat} {x : mXT} {z0 s0 : Nat} {M0 : mM} {Z0 S0 : Nat} (X : mCX G RX11 cX11_init 2 none "<init>" { frames := 6, cells := Z0 - z0, slots := S0 - s0, locals := 164 } x) (hQ : mQV x M0 (Z0, Z0 - z0, S0 - s0)) {l0 : Nat} {M : mM} {sz : Nat} {sl : Nat} (hz0 : z0 ≤ sz) (hs0 : s0 ≤ sl) (h : P_X11_init G F l0 M sz sl = some (M0, Z0, S0)) : WW x (sz, sz - z0, sl - s0) M 0 [(0, .ref l0)] [] := by
  unfold P_X11_init at h
  obtain ⟨M7, e7, h⟩ := bO_some h
  obtain ⟨M10, e10, h⟩ := bO_some h
  obtain ⟨M14, e14, h⟩ := bO_some h
  obtain ⟨M21, z21, k21, e21, h⟩ := bA_some h
  have g21 := mP_X0_init e21
  obtain ⟨M24, e24, h⟩ := bO_some h
  obtain ⟨M28, e28, h⟩ := bO_some h
  obtain ⟨M35, z35, k35, e35, h⟩ := bA_some h
  have g35 := mP_X0_init e35
  obtain ⟨M38, e38, h⟩ := bO_some h
  obtain ⟨M42, e42, h⟩ := bO_some h
  obtain ⟨M47, z47, k47, e47, h⟩ := bA_some h
  have g47 := mP_X0_init e47
  obtain ⟨M50, e50, h⟩ := bO_some h
  obtain ⟨M54, e54, h⟩ := bO_some h
  obtain ⟨M61, z61, k61, e61, h⟩ := bA_some h
  have g61 := mP_X0_init e61
  obtain ⟨M64, e64, h⟩ := bO_some h
  obtain ⟨M68, e68, h⟩ := bO_some h
  obtain ⟨M75, z75, k75, e75, h⟩ := bA_some h
  have g75 := mP_X0_init e75
  obtain ⟨M78, e78, h⟩ := bO_some h
  obtain ⟨M82, e82, h⟩ := bO_some h
  obtain ⟨M89, z89, k89, e89, h⟩ := bA_some h
  have g89 := mP_X0_init e89
  obtain ⟨M92, e92, h⟩ := bO_some h
  obtain ⟨M96, e96, h⟩ := bO_some h
  obtain ⟨M100, z100, k100, e100, h⟩ := bA_some h
  have g100 := mP_X9_init e100
  obtain ⟨M103, e103, h⟩ := bO_some h
  obtain ⟨M107, e107, h⟩ := bO_some h
  obtain ⟨M111, z111, k111, e111, h⟩ := bA_some h
  have g111 := mP_X9_init e111
  obtain ⟨M114, e114, h⟩ := bO_some h
  obtain ⟨M118, e118, h⟩ := bO_some h
  obtain ⟨v123, e123, h⟩ := bO_some h
  obtain ⟨v127, e127, h⟩ := bO_some h
  obtain ⟨M130, z130, k130, e130, h⟩ := bA_some h
  have g130 := mP_X7_init e130
  obtain ⟨M133, e133, h⟩ := bO_some h
  obtain ⟨M139, e139, h⟩ := bO_some h
  obtain ⟨M142, e142, h⟩ := bO_some h
  obtain ⟨M146, e146, h⟩ := bO_some h
  obtain ⟨M150, z150, k150, e150, h⟩ := bA_some h
  have g150 := mP_X5_init e150
  obtain ⟨M153, e153, h⟩ := bO_some h
  obtain ⟨M157, e157, h⟩ := bO_some h
  obtain ⟨M161, z161, k161, e161, h⟩ := bA_some h
  have g161 := mP_X4_init e161
  obtain ⟨M164, e164, h⟩ := bO_some h
  obtain ⟨M168, e168, h⟩ := bO_some h
  obtain ⟨M172, z172, k172, e172, h⟩ := bA_some h
  have g172 := mP_X1_init e172
  obtain ⟨M175, e175, h⟩ := bO_some h
  obtain ⟨M179, e179, h⟩ := bO_some h
  obtain ⟨v184, e184, h⟩ := bO_some h
  obtain ⟨v188, e188, h⟩ := bO_some h
  obtain ⟨M191, z191, k191, e191, h⟩ := bA_some h
  have g191 := mP_X2_init e191
  obtain ⟨M194, e194, h⟩ := bO_some h
  obtain ⟨M198, e198, h⟩ := bO_some h
  obtain ⟨v203, e203, h⟩ := bO_some h
  obtain ⟨M206, z206, k206, e206, h⟩ := bA_some h
  have g206 := mP_X8_init e206
  obtain ⟨M209, e209, h⟩ := bO_some h
  obtain ⟨M213, e213, h⟩ := bO_some h
  obtain ⟨M217, z217, k217, e217, h⟩ := bA_some h
  have g217 := mP_X3_init e217
  obtain ⟨M220, e220, h⟩ := bO_some h
  obtain ⟨M224, e224, h⟩ := bO_some h
  obtain ⟨M228, z228, k228, e228, h⟩ := bA_some h
  have g228 := mP_X10_init e228
  obtain ⟨M231, e231, h⟩ := bO_some h
  have q := mB_X11_init_236 F _ _ _ _ _ h
  refine ww_aload_n 0 X dX11_init_0 0 rfl rfl ?_
  refine ww_objI 1 X (st := []) dX11_init_1 oL_X11_1 oI_i oI_c (Nat.le_of_ble_eq_true rfl) (Nat.le_of_ble_eq_true rfl) (Nat.le_of_ble_eq_true rfl) ?_
  refine ww_aload_n 4 X dX11_init_4 0 rfl rfl ?_
  refine ww_bipush 5 X (v := (8 : Int32)) dX11_init_5 (by decide) ?_
  refine ww_newQ 7 X (sz := sz) (sl := sl) (z0 := z0) (s0 := s0) dX11_init_7 (k := 4) (by decide) ⟨_, rfl, cK_X11_9⟩ e7 (by omega) (by omega) (by show _ ≤ Z0 - z0; omega) (by show _ ≤ S0 - s0; omega) ?_
  refine ww_putR 10 X dX11_init_10 (fP_X11_11 _ (Or.inr rfl)) e10 rfl rfl ?_
  refine ww_aload_n 13 X dX11_init_13 0 rfl rfl ?_
  cases e14
  refine ww_newO 14 X (sz := (sz + 1)) (sl := (sl + ((8 : Int32)).toNatClampNeg)) (z0 := z0) (s0 := s0) dX11_init_14 nW_X11_9 (by omega) (by omega) (by show _ ≤ Z0 - z0; omega) (by show _ ≤ S0 - s0; omega) ?_
  refine ww_dup 17 X dX11_init_17 rfl ?_
  refine ww_sipush 18 X (v := (8192 : Int32)) dX11_init_18 (by decide) ?_
  refine ww_callIVa 21 X (sz := ((sz + 1) + 1)) (sl := ((sl + ((8 : Int32)).toNatClampNeg) + 3)) (z0 := z0) (s0 := s0) dX11_init_21 mY_X0_init mL_X11_15 (As := [.int (8192 : Int32)]) (rest := [.ref (sz + 1), .ref l0]) rfl rfl ⟨Nat.le_of_ble_eq_true rfl, Nat.le_of_ble_eq_true rfl⟩ (by omega) (by omega) (by omega) (by omega) (by show _ ≤ Z0 - z0; omega) (by show _ ≤ S0 - s0; omega) (Nat.le_of_ble_eq_true rfl) (fun l D A => c_X0_init l D A e21) ?_
  refine ww_putR 24 X dX11_init_24 (fP_X11_18 _ (Or.inr rfl)) e24 rfl rfl ?_
  refine ww_aload_n 27 X dX11_init_27 0 rfl rfl ?_
  cases e28
  refine ww_newO 28 X (sz := z21) (sl := k21) (z0 := z0) (s0 := s0) dX11_init_28 nW_X11_9 (by omega) (by omega) (by show _ ≤ Z0 - z0; omega) (by show _ ≤ S0 - s0; omega) ?_
  refine ww_dup 31 X dX11_init_31 rfl ?_
  refine ww_sipush 32 X (v := (8192 : Int32)) dX11_init_32 (by decide) ?_
  refine ww_callIVa 35 X (sz := (z21 + 1)) (sl := (k21 + 3)) (z0 := z0) (s0 := s0) dX11_init_35 mY_X0_init mL_X11_15 (As := [.int (8192 : Int32)]) (rest := [.ref z21, .ref l0]) rfl rfl ⟨Nat.le_of_ble_eq_true rfl, Nat.le_of_ble_eq_true rfl⟩ (by omega) (by omega) (by omega) (by omega) (by show _ ≤ Z0 - z0; omega) (by show _ ≤ S0 - s0; omega) (Nat.le_of_ble_eq_true rfl) (fun l D A => c_X0_init l D A e35) ?_
  refine ww_putR 38 X dX11_init_38 (fP_X11_22 _ (Or.inr rfl)) e38 rfl rfl ?_
  refine ww_aload_n 41 X dX11_init_41 0 rfl rfl ?_
  cases e42
  refine ww_newO 42 X (sz := z35) (sl := k35) (z0 := z0) (s0 := s0) dX11_init_42 nW_X11_9 (by omega) (by omega) (by show _ ≤ Z0 - z0; omega) (by show _ ≤ S0 - s0; omega) ?_
  refine ww_dup 45 X dX11_init_45 rfl ?_
  refine ww_iconst 46 X (v := (0 : Int32)) dX11_init_46 (by decide) ?_
  refine ww_callIVa 47 X (sz := (z35 + 1)) (sl := (k35 + 3)) (z0 := z0) (s0 := s0) dX11_init_47 mY_X0_init mL_X11_15 (As := [.int (0 : Int32)]) (rest := [.ref z35, .ref l0]) rfl rfl ⟨Nat.le_of_ble_eq_true rfl, Nat.le_of_ble_eq_true rfl⟩ (by omega) (by omega) (by omega) (by omega) (by show _ ≤ Z0 - z0; omega) (by show _ ≤ S0 - s0; omega) (Nat.le_of_ble_eq_true rfl) (fun l D A => c_X0_init l D A e47) ?_
  refine ww_putR 50 X dX11_init_50 (fP_X11_25 _ (Or.inr rfl)) e50 rfl rfl ?_
  refine ww_aload_n 53 X dX11_init_53 0 rfl rfl ?_
  cases e54
  refine ww_newO 54 X (sz := z47) (sl := k47) (z0 := z0) (s0 := s0) dX11_init_54 nW_X11_9 (by omega) (by omega) (by show _ ≤ Z0 - z0; omega) (by show _ ≤ S0 - s0; omega) ?_
  refine ww_dup 57 X dX11_init_57 rfl ?_
  refine ww_sipush 58 X (v := (22528 : Int32)) dX11_init_58 (by decide) ?_
  refine ww_callIVa 61 X (sz := (z47 + 1)) (sl := (k47 + 3)) (z0 := z0) (s0 := s0) dX11_init_61 mY_X0_init mL_X11_15 (As := [.int (22528 : Int32)]) (rest := [.ref z47, .ref l0]) rfl rfl ⟨Nat.le_of_ble_eq_true rfl, Nat.le_of_ble_eq_true rfl⟩ (by omega) (by omega) (by omega) (by omega) (by show _ ≤ Z0 - z0; omega) (by show _ ≤ S0 - s0; omega) (Nat.le_of_ble_eq_true rfl) (fun l D A => c_X0_init l D A e61) ?_
  refine ww_putR 64 X dX11_init_64 (fP_X11_28 _ (Or.inr rfl)) e64 rfl rfl ?_
  refine ww_aload_n 67 X dX11_init_67 0 rfl rfl ?_
  cases e68
  refine ww_newO 68 X (sz := z61) (sl := k61) (z0 := z0) (s0 := s0) dX11_init_68 nW_X11_9 (by omega) (by omega) (by show _ ≤ Z0 - z0; omega) (by show _ ≤ S0 - s0; omega) ?_
  refine ww_dup 71 X dX11_init_71 rfl ?_
  refine ww_sipush 72 X (v := (8192 : Int32)) dX11_init_72 (by decide) ?_
  refine ww_callIVa 75 X (sz := (z61 + 1)) (sl := (k61 + 3)) (z0 := z0) (s0 := s0) dX11_init_75 mY_X0_init mL_X11_15 (As := [.int (8192 : Int32)]) (rest := [.ref z61, .ref l0]) rfl rfl ⟨Nat.le_of_ble_eq_true rfl, Nat.le_of_ble_eq_true rfl⟩ (by omega) (by omega) (by omega) (by omega) (by show _ ≤ Z0 - z0; omega) (by show _ ≤ S0 - s0; omega) (Nat.le_of_ble_eq_true rfl) (fun l D A => c_X0_init l D A e75) ?_
  refine ww_putR 78 X dX11_init_78 (fP_X11_31 _ (Or.inr rfl)) e78 rfl rfl ?_
  refine ww_aload_n 81 X dX11_init_81 0 rfl rfl ?_
  cases e82
  refine ww_newO 82 X (sz := z75) (sl := k75) (z0 := z0) (s0 := s0) dX11_init_82 nW_X11_9 (by omega) (by omega) (by show _ ≤ Z0 - z0; omega) (by show _ ≤ S0 - s0; omega) ?_
  refine ww_dup 85 X dX11_init_85 rfl ?_
  refine ww_sipush 86 X (v := (8192 : Int32)) dX11_init_86 (by decide) ?_
  refine ww_callIVa 89 X (sz := (z75 + 1)) (sl := (k75 + 3)) (z0 := z0) (s0 := s0) dX11_init_89 mY_X0_init mL_X11_15 (As := [.int (8192 : Int32)]) (rest := [.ref z75, .ref l0]) rfl rfl ⟨Nat.le_of_ble_eq_true rfl, Nat.le_of_ble_eq_true rfl⟩ (by omega) (by omega) (by omega) (by omega) (by show _ ≤ Z0 - z0; omega) (by show _ ≤ S0 - s0; omega) (Nat.le_of_ble_eq_true rfl) (fun l D A => c_X0_init l D A e89) ?_
  refine ww_putR 92 X dX11_init_92 (fP_X11_34 _ (Or.inr rfl)) e92 rfl rfl ?_
  refine ww_aload_n 95 X dX11_init_95 0 rfl rfl ?_
  cases e96
  refine ww_newO 96 X (sz := z89) (sl := k89) (z0 := z0) (s0 := s0) dX11_init_96 nW_X11_37 (by omega) (by omega) (by show _ ≤ Z0 - z0; omega) (by show _ ≤ S0 - s0; omega) ?_
  refine ww_dup 99 X dX11_init_99 rfl ?_
  refine ww_callIVNa 100 X (sz := (z89 + 1)) (sl := (k89 + 11)) (z0 := z0) (s0 := s0) dX11_init_100 mY_X9_init mL_X11_39 (As := []) (rest := [.ref z89, .ref l0]) rfl rfl ⟨Nat.le_of_ble_eq_true rfl, Nat.le_of_ble_eq_true rfl⟩ (by omega) (by omega) (by omega) (by omega) (by show _ ≤ Z0 - z0; omega) (by show _ ≤ S0 - s0; omega) (Nat.le_of_ble_eq_true rfl) (fun l D A => c_X9_init l D A e100) ?_
  refine ww_putR 103 X dX11_init_103 (fP_X11_40 _) e103 rfl rfl ?_
  refine ww_aload_n 106 X dX11_init_106 0 rfl rfl ?_
  cases e107
  refine ww_newO 107 X (sz := z100) (sl := k100) (z0 := z0) (s0 := s0) dX11_init_107 nW_X11_37 (by omega) (by omega) (by show _ ≤ Z0 - z0; omega) (by show _ ≤ S0 - s0; omega) ?_
  refine ww_dup 110 X dX11_init_110 rfl ?_
  refine ww_callIVNa 111 X (sz := (z100 + 1)) (sl := (k100 + 11)) (z0 := z0) (s0 := s0) dX11_init_111 mY_X9_init mL_X11_39 (As := []) (rest := [.ref z100, .ref l0]) rfl rfl ⟨Nat.le_of_ble_eq_true rfl, Nat.le_of_ble_eq_true rfl⟩ (by omega) (by omega) (by omega) (by omega) (by show _ ≤ Z0 - z0; omega) (by show _ ≤ S0 - s0; omega) (Nat.le_of_ble_eq_true rfl) (fun l D A => c_X9_init l D A e111) ?_
  refine ww_putR 114 X dX11_init_114 (fP_X11_44 _) e114 rfl rfl ?_
  refine ww_aload_n 117 X dX11_init_117 0 rfl rfl ?_
  cases e118
  refine ww_newO 118 X (sz := z111) (sl := k111) (z0 := z0) (s0 := s0) dX11_init_118 nW_X11_47 (by omega) (by omega) (by show _ ≤ Z0 - z0; omega) (by show _ ≤ S0 - s0; omega) ?_
  refine ww_dup 121 X dX11_init_121 rfl ?_
  refine ww_aload_n 122 X dX11_init_122 0 rfl rfl ?_
  refine ww_getR 123 X dX11_init_123 fG_X11_25 e123 ?_
  refine ww_aload_n 126 X dX11_init_126 0 rfl rfl ?_
  refine ww_getR 127 X dX11_init_127 fG_X11_44 e127 ?_
  refine ww_callIVa 130 X (sz := (z111 + 1)) (sl := (k111 + 9)) (z0 := z0) (s0 := s0) dX11_init_130 mY_X7_init mL_X11_49 (As := [.ref v123, .ref v127]) (rest := [.ref z111, .ref l0]) rfl rfl ⟨Nat.le_of_ble_eq_true rfl, Nat.le_of_ble_eq_true rfl⟩ (by omega) (by omega) (by omega) (by omega) (by show _ ≤ Z0 - z0; omega) (by show _ ≤ S0 - s0; omega) (Nat.le_of_ble_eq_true rfl) (fun l D A => c_X7_init l D A e130) ?_
  refine ww_putR 133 X dX11_init_133 (fP_X11_52 _ (Or.inr rfl)) e133 rfl rfl ?_
  refine ww_aload_n 136 X dX11_init_136 0 rfl rfl ?_
  refine ww_bipush 137 X (v := (16 : Int32)) dX11_init_137 (by decide) ?_
  refine ww_newQ 139 X (sz := z130) (sl := k130) (z0 := z0) (s0 := s0) dX11_init_139 (k := 5) (by decide) ⟨_, rfl, cK_X11_56⟩ e139 (by omega) (by omega) (by show _ ≤ Z0 - z0; omega) (by show _ ≤ S0 - s0; omega) ?_
  refine ww_putR 142 X dX11_init_142 (fP_X11_58 _ (Or.inr rfl)) e142 rfl rfl ?_
  refine ww_aload_n 145 X dX11_init_145 0 rfl rfl ?_
  cases e146
  refine ww_newO 146 X (sz := (z130 + 1)) (sl := (k130 + ((16 : Int32)).toNatClampNeg)) (z0 := z0) (s0 := s0) dX11_init_146 nW_X11_56 (by omega) (by omega) (by show _ ≤ Z0 - z0; omega) (by show _ ≤ S0 - s0; omega) ?_
  refine ww_dup 149 X dX11_init_149 rfl ?_
  refine ww_callIVNa 150 X (sz := ((z130 + 1) + 1)) (sl := ((k130 + ((16 : Int32)).toNatClampNeg) + 10)) (z0 := z0) (s0 := s0) dX11_init_150 mY_X5_init mL_X11_62 (As := []) (rest := [.ref (z130 + 1), .ref l0]) rfl rfl ⟨Nat.le_of_ble_eq_true rfl, Nat.le_of_ble_eq_true rfl⟩ (by omega) (by omega) (by omega) (by omega) (by show _ ≤ Z0 - z0; omega) (by show _ ≤ S0 - s0; omega) (Nat.le_of_ble_eq_true rfl) (fun l D A => c_X5_init l D A e150) ?_
  refine ww_putR 153 X dX11_init_153 (fP_X11_63 _) e153 rfl rfl ?_
  refine ww_aload_n 156 X dX11_init_156 0 rfl rfl ?_
  cases e157
  refine ww_newO 157 X (sz := z150) (sl := k150) (z0 := z0) (s0 := s0) dX11_init_157 nW_X11_67 (by omega) (by omega) (by show _ ≤ Z0 - z0; omega) (by show _ ≤ S0 - s0; omega) ?_
  refine ww_dup 160 X dX11_init_160 rfl ?_
  refine ww_callIVNa 161 X (sz := (z150 + 1)) (sl := (k150 + 11)) (z0 := z0) (s0 := s0) dX11_init_161 mY_X4_init mL_X11_69 (As := []) (rest := [.ref z150, .ref l0]) rfl rfl ⟨Nat.le_of_ble_eq_true rfl, Nat.le_of_ble_eq_true rfl⟩ (by omega) (by omega) (by omega) (by omega) (by show _ ≤ Z0 - z0; omega) (by show _ ≤ S0 - s0; omega) (Nat.le_of_ble_eq_true rfl) (fun l D A => c_X4_init l D A e161) ?_
  refine ww_putR 164 X dX11_init_164 (fP_X11_70 _ (Or.inr rfl)) e164 rfl rfl ?_
  refine ww_aload_n 167 X dX11_init_167 0 rfl rfl ?_
  cases e168
  refine ww_newO 168 X (sz := z161) (sl := k161) (z0 := z0) (s0 := s0) dX11_init_168 nW_X11_74 (by omega) (by omega) (by show _ ≤ Z0 - z0; omega) (by show _ ≤ S0 - s0; omega) ?_
  refine ww_dup 171 X dX11_init_171 rfl ?_
  refine ww_callIVa 172 X (sz := (z161 + 1)) (sl := (k161 + 6)) (z0 := z0) (s0 := s0) dX11_init_172 mY_X1_init mL_X11_76 (As := []) (rest := [.ref z161, .ref l0]) rfl rfl ⟨Nat.le_of_ble_eq_true rfl, Nat.le_of_ble_eq_true rfl⟩ (by omega) (by omega) (by omega) (by omega) (by show _ ≤ Z0 - z0; omega) (by show _ ≤ S0 - s0; omega) (Nat.le_of_ble_eq_true rfl) (fun l D A => c_X1_init l D A e172) ?_
  refine ww_putR 175 X dX11_init_175 (fP_X11_77 _ (Or.inr rfl)) e175 rfl rfl ?_
  refine ww_aload_n 178 X dX11_init_178 0 rfl rfl ?_
  cases e179
  refine ww_newO 179 X (sz := z172) (sl := k172) (z0 := z0) (s0 := s0) dX11_init_179 nW_X11_81 (by omega) (by omega) (by show _ ≤ Z0 - z0; omega) (by show _ ≤ S0 - s0; omega) ?_
  refine ww_dup 182 X dX11_init_182 rfl ?_
  refine ww_aload_n 183 X dX11_init_183 0 rfl rfl ?_
  refine ww_getR 184 X dX11_init_184 fG_X11_70 e184 ?_
  refine ww_aload_n 187 X dX11_init_187 0 rfl rfl ?_
  refine ww_getR 188 X dX11_init_188 fG_X11_77 e188 ?_
  refine ww_callIVa 191 X (sz := (z172 + 1)) (sl := (k172 + 9)) (z0 := z0) (s0 := s0) dX11_init_191 mY_X2_init mL_X11_83 (As := [.ref v184, .ref v188]) (rest := [.ref z172, .ref l0]) rfl rfl ⟨Nat.le_of_ble_eq_true rfl, Nat.le_of_ble_eq_true rfl⟩ (by omega) (by omega) (by omega) (by omega) (by show _ ≤ Z0 - z0; omega) (by show _ ≤ S0 - s0; omega) (Nat.le_of_ble_eq_true rfl) (fun l D A => c_X2_init l D A e191) ?_
  refine ww_putR 194 X dX11_init_194 (fP_X11_86 _ (Or.inr rfl)) e194 rfl rfl ?_
  refine ww_aload_n 197 X dX11_init_197 0 rfl rfl ?_
  cases e198
  refine ww_newO 198 X (sz := z191) (sl := k191) (z0 := z0) (s0 := s0) dX11_init_198 nW_X11_90 (by omega) (by omega) (by show _ ≤ Z0 - z0; omega) (by show _ ≤ S0 - s0; omega) ?_
  refine ww_dup 201 X dX11_init_201 rfl ?_
  refine ww_aload_n 202 X dX11_init_202 0 rfl rfl ?_
  refine ww_getR 203 X dX11_init_203 fG_X11_70 e203 ?_
  refine ww_callIVa 206 X (sz := (z191 + 1)) (sl := (k191 + 6)) (z0 := z0) (s0 := s0) dX11_init_206 mY_X8_init mL_X11_92 (As := [.ref v203]) (rest := [.ref z191, .ref l0]) rfl rfl ⟨Nat.le_of_ble_eq_true rfl, Nat.le_of_ble_eq_true rfl⟩ (by omega) (by omega) (by omega) (by omega) (by show _ ≤ Z0 - z0; omega) (by show _ ≤ S0 - s0; omega) (Nat.le_of_ble_eq_true rfl) (fun l D A => c_X8_init l D A e206) ?_
  refine ww_putR 209 X dX11_init_209 (fP_X11_95 _ (Or.inr rfl)) e209 rfl rfl ?_
  refine ww_aload_n 212 X dX11_init_212 0 rfl rfl ?_
  cases e213
  refine ww_newO 213 X (sz := z206) (sl := k206) (z0 := z0) (s0 := s0) dX11_init_213 nW_X11_99 (by omega) (by omega) (by show _ ≤ Z0 - z0; omega) (by show _ ≤ S0 - s0; omega) ?_
  refine ww_dup 216 X dX11_init_216 rfl ?_
  refine ww_callIVa 217 X (sz := (z206 + 1)) (sl := (k206 + 16)) (z0 := z0) (s0 := s0) dX11_init_217 mY_X3_init mL_X11_101 (As := []) (rest := [.ref z206, .ref l0]) rfl rfl ⟨Nat.le_of_ble_eq_true rfl, Nat.le_of_ble_eq_true rfl⟩ (by omega) (by omega) (by omega) (by omega) (by show _ ≤ Z0 - z0; omega) (by show _ ≤ S0 - s0; omega) (Nat.le_of_ble_eq_true rfl) (fun l D A => c_X3_init l D A e217) ?_
  refine ww_putR 220 X dX11_init_220 (fP_X11_102 _ (Or.inr rfl)) e220 rfl rfl ?_
  refine ww_aload_n 223 X dX11_init_223 0 rfl rfl ?_
  cases e224
  refine ww_newO 224 X (sz := z217) (sl := k217) (z0 := z0) (s0 := s0) dX11_init_224 nW_X11_106 (by omega) (by omega) (by show _ ≤ Z0 - z0; omega) (by show _ ≤ S0 - s0; omega) ?_
  refine ww_dup 227 X dX11_init_227 rfl ?_
  refine ww_callIVNa 228 X (sz := (z217 + 1)) (sl := (k217 + 16)) (z0 := z0) (s0 := s0) dX11_init_228 mY_X10_init mL_X11_108 (As := []) (rest := [.ref z217, .ref l0]) rfl rfl ⟨Nat.le_of_ble_eq_true rfl, Nat.le_of_ble_eq_true rfl⟩ (by omega) (by omega) (by omega) (by omega) (by show _ ≤ Z0 - z0; omega) (by show _ ≤ S0 - s0; omega) (Nat.le_of_ble_eq_true rfl) (fun l D A => c_X10_init l D A e228) ?_
  refine ww_putR 231 X dX11_init_231 (fP_X11_109 _ (Or.inr rfl)) e231 rfl rfl ?_
  refine ww_iconst 234 X (v := (0 : Int32)) dX11_init_234 (by decide) ?_
  refine ww_istore_n 235 X dX11_init_235 (lv' := [(0, .ref l0), (1, .int (0 : Int32))]) rfl (by decide) [1, 0] rfl ?_
  exact (wB_X11_init_236 X hQ F _ _ _ _ _ (by omega) (by omega) h)
theorem c_X11_init {G : Nat → Nat} {F : Nat} {M0 : mM} {Z0 S0 : Nat} (l : Launch) (D : mD) (A : Nat → Prop) {l0 : Nat} {M : mM} {sz : Nat} {sl : Nat} (h : P_X11_init G F l0 M sz sl = some (M0, Z0, S0)) : mMetV l D G A yX11_init cX11_init 2 none 6 164 (Z0 - sz) (S0 - sl) [.ref l0] M sz M0 Z0 := mMetV_of l D G A (by decide) (Nat.le_of_ble_eq_true rfl) (fun x X hQ => by have K := wP_X11_init X hQ (Nat.le_refl sz) (Nat.le_refl sl) h; rw [Nat.sub_self, Nat.sub_self] at K; exact K)
/-! SealedTokens.feed(IIIII)I -/
theorem dX11_feed_0 : decode cX11_feed 0 = .ok (.aload_n 0, 1) := by decide +kernel
theorem dX11_feed_1 : decode cX11_feed 1 = .ok (.getfield 18, 3) := by decide +kernel
theorem dX11_feed_4 : decode cX11_feed 4 = .ok (.getfield 113, 3) := by decide +kernel
theorem dX11_feed_7 : decode cX11_feed 7 = .ok (.bipush 20, 2) := by decide +kernel
theorem dX11_feed_9 : decode cX11_feed 9 = .ok (.iadd, 1) := by decide +kernel
theorem dX11_feed_10 : decode cX11_feed 10 = .ok (.sipush 8192, 3) := by decide +kernel
theorem dX11_feed_13 : decode cX11_feed 13 = .ok (.if_icmp .le 6, 3) := by decide +kernel
theorem dX11_feed_16 : decode cX11_feed 16 = .ok (.bipush (-2), 2) := by decide +kernel
theorem dX11_feed_18 : decode cX11_feed 18 = .ok (.ireturn, 1) := by decide +kernel
theorem dX11_feed_19 : decode cX11_feed 19 = .ok (.aload_n 0, 1) := by decide +kernel
theorem dX11_feed_20 : decode cX11_feed 20 = .ok (.getfield 18, 3) := by decide +kernel
theorem dX11_feed_23 : decode cX11_feed 23 = .ok (.iload_n 1, 1) := by decide +kernel
theorem dX11_feed_24 : decode cX11_feed 24 = .ok (.invokevirtual 117, 3) := by decide +kernel
theorem dX11_feed_27 : decode cX11_feed 27 = .ok (.aload_n 0, 1) := by decide +kernel
theorem dX11_feed_28 : decode cX11_feed 28 = .ok (.getfield 18, 3) := by decide +kernel
theorem dX11_feed_31 : decode cX11_feed 31 = .ok (.iload_n 2, 1) := by decide +kernel
theorem dX11_feed_32 : decode cX11_feed 32 = .ok (.invokevirtual 117, 3) := by decide +kernel
theorem dX11_feed_35 : decode cX11_feed 35 = .ok (.aload_n 0, 1) := by decide +kernel
theorem dX11_feed_36 : decode cX11_feed 36 = .ok (.getfield 18, 3) := by decide +kernel
theorem dX11_feed_39 : decode cX11_feed 39 = .ok (.iload_n 3, 1) := by decide +kernel
theorem dX11_feed_40 : decode cX11_feed 40 = .ok (.invokevirtual 117, 3) := by decide +kernel
theorem dX11_feed_43 : decode cX11_feed 43 = .ok (.aload_n 0, 1) := by decide +kernel
theorem dX11_feed_44 : decode cX11_feed 44 = .ok (.getfield 18, 3) := by decide +kernel
theorem dX11_feed_47 : decode cX11_feed 47 = .ok (.iload 4, 2) := by decide +kernel
theorem dX11_feed_49 : decode cX11_feed 49 = .ok (.invokevirtual 117, 3) := by decide +kernel
theorem dX11_feed_52 : decode cX11_feed 52 = .ok (.aload_n 0, 1) := by decide +kernel
theorem dX11_feed_53 : decode cX11_feed 53 = .ok (.getfield 18, 3) := by decide +kernel
theorem dX11_feed_56 : decode cX11_feed 56 = .ok (.iload 5, 2) := by decide +kernel
theorem dX11_feed_58 : decode cX11_feed 58 = .ok (.invokevirtual 117, 3) := by decide +kernel
theorem dX11_feed_61 : decode cX11_feed 61 = .ok (.aload_n 0, 1) := by decide +kernel
theorem dX11_feed_62 : decode cX11_feed 62 = .ok (.getfield 18, 3) := by decide +kernel
theorem dX11_feed_65 : decode cX11_feed 65 = .ok (.getfield 113, 3) := by decide +kernel
theorem dX11_feed_68 : decode cX11_feed 68 = .ok (.ireturn, 1) := by decide +kernel
abbrev rmX11_feed : Room := { frames := 2, cells := 0, slots := 0, locals := 42 }
set_option maxHeartbeats 4000000 in
set_option maxRecDepth 100000 in
theorem wP_X11_feed {G : Nat → Nat} {F : Nat} {x : mXT} {sz : Nat} {r0 : Int32} {M0 : mM} (X : mCX G RX11 cX11_feed 6 (some .int) "feed" rmX11_feed x) (hQ : mQI x r0 M0 (sz, 0, 0)) {l0 : Nat} {l1 : Int32} {l2 : Int32} {l3 : Int32} {l4 : Int32} {l5 : Int32} {M : mM} (h : P_X11_feed G F l0 l1 l2 l3 l4 l5 M = some (r0, M0)) : WW x (sz, 0, 0) M 0 [(0, .ref l0), (1, .int l1), (2, .int l2), (3, .int l3), (4, .int l4), (5, .int l5)] [] := by
  unfold P_X11_feed at h
  refine ww_aload_n 0 X dX11_feed_0 0 rfl rfl ?_
  obtain ⟨v1, e1, h⟩ := bO_some h
  refine ww_getR 1 X dX11_feed_1 fG_X11_18 e1 ?_
  obtain ⟨v4, e4, h⟩ := bO_some h
  refine ww_getI 4 X dX11_feed_4 fG_X11_113 e4 ?_
  refine ww_bipush 7 X (v := (20 : Int32)) dX11_feed_7 (by decide) ?_
  refine ww_iadd 9 X dX11_feed_9 ?_
  refine ww_sipush 10 X (v := (8192 : Int32)) dX11_feed_10 (by decide) ?_
  refine ww_icmp_le 13 19 X dX11_feed_13 (by decide) (fun q => ?_) (fun q => ?_)
  · replace h := (if_pos q).symm.trans h
    refine ww_aload_n 19 X dX11_feed_19 0 rfl rfl ?_
    obtain ⟨v20, e20, h⟩ := bO_some h
    refine ww_getR 20 X dX11_feed_20 fG_X11_18 e20 ?_
    refine ww_iload_n 23 X dX11_feed_23 1 rfl rfl ?_
    obtain ⟨_, f24, h⟩ := bO_some h
    obtain ⟨M24, e24, h⟩ := bO_some h
    refine ww_callVV0 24 X dX11_feed_24 mY_X0_putWord mL_X11_117 (rcv_spec f24) ⟨_, _, rfl⟩ (by decide) (As := [.int l1]) (rest := []) rfl rfl ⟨Nat.le_of_ble_eq_true rfl, Nat.le_of_ble_eq_true rfl⟩ (Nat.le_of_ble_eq_true rfl) (fun l D A => c_X0_putWord l D A e24) ?_
    refine ww_aload_n 27 X dX11_feed_27 0 rfl rfl ?_
    obtain ⟨v28, e28, h⟩ := bO_some h
    refine ww_getR 28 X dX11_feed_28 fG_X11_18 e28 ?_
    refine ww_iload_n 31 X dX11_feed_31 2 rfl rfl ?_
    obtain ⟨_, f32, h⟩ := bO_some h
    obtain ⟨M32, e32, h⟩ := bO_some h
    refine ww_callVV0 32 X dX11_feed_32 mY_X0_putWord mL_X11_117 (rcv_spec f32) ⟨_, _, rfl⟩ (by decide) (As := [.int l2]) (rest := []) rfl rfl ⟨Nat.le_of_ble_eq_true rfl, Nat.le_of_ble_eq_true rfl⟩ (Nat.le_of_ble_eq_true rfl) (fun l D A => c_X0_putWord l D A e32) ?_
    refine ww_aload_n 35 X dX11_feed_35 0 rfl rfl ?_
    obtain ⟨v36, e36, h⟩ := bO_some h
    refine ww_getR 36 X dX11_feed_36 fG_X11_18 e36 ?_
    refine ww_iload_n 39 X dX11_feed_39 3 rfl rfl ?_
    obtain ⟨_, f40, h⟩ := bO_some h
    obtain ⟨M40, e40, h⟩ := bO_some h
    refine ww_callVV0 40 X dX11_feed_40 mY_X0_putWord mL_X11_117 (rcv_spec f40) ⟨_, _, rfl⟩ (by decide) (As := [.int l3]) (rest := []) rfl rfl ⟨Nat.le_of_ble_eq_true rfl, Nat.le_of_ble_eq_true rfl⟩ (Nat.le_of_ble_eq_true rfl) (fun l D A => c_X0_putWord l D A e40) ?_
    refine ww_aload_n 43 X dX11_feed_43 0 rfl rfl ?_
    obtain ⟨v44, e44, h⟩ := bO_some h
    refine ww_getR 44 X dX11_feed_44 fG_X11_18 e44 ?_
    refine ww_iload 47 X dX11_feed_47 4 rfl ?_
    obtain ⟨_, f49, h⟩ := bO_some h
    obtain ⟨M49, e49, h⟩ := bO_some h
    refine ww_callVV0 49 X dX11_feed_49 mY_X0_putWord mL_X11_117 (rcv_spec f49) ⟨_, _, rfl⟩ (by decide) (As := [.int l4]) (rest := []) rfl rfl ⟨Nat.le_of_ble_eq_true rfl, Nat.le_of_ble_eq_true rfl⟩ (Nat.le_of_ble_eq_true rfl) (fun l D A => c_X0_putWord l D A e49) ?_
    refine ww_aload_n 52 X dX11_feed_52 0 rfl rfl ?_
    obtain ⟨v53, e53, h⟩ := bO_some h
    refine ww_getR 53 X dX11_feed_53 fG_X11_18 e53 ?_
    refine ww_iload 56 X dX11_feed_56 5 rfl ?_
    obtain ⟨_, f58, h⟩ := bO_some h
    obtain ⟨M58, e58, h⟩ := bO_some h
    refine ww_callVV0 58 X dX11_feed_58 mY_X0_putWord mL_X11_117 (rcv_spec f58) ⟨_, _, rfl⟩ (by decide) (As := [.int l5]) (rest := []) rfl rfl ⟨Nat.le_of_ble_eq_true rfl, Nat.le_of_ble_eq_true rfl⟩ (Nat.le_of_ble_eq_true rfl) (fun l D A => c_X0_putWord l D A e58) ?_
    refine ww_aload_n 61 X dX11_feed_61 0 rfl rfl ?_
    obtain ⟨v62, e62, h⟩ := bO_some h
    refine ww_getR 62 X dX11_feed_62 fG_X11_18 e62 ?_
    obtain ⟨v65, e65, h⟩ := bO_some h
    refine ww_getI 65 X dX11_feed_65 fG_X11_113 e65 ?_
    exact ww_iretE 68 X hQ dX11_feed_68 h
  · replace h := (if_neg q).symm.trans h
    refine ww_bipush 16 X (v := (-2 : Int32)) dX11_feed_16 (by decide) ?_
    exact ww_iretE 18 X hQ dX11_feed_18 h
theorem c_X11_feed {G : Nat → Nat} {F sz : Nat} {r0 : Int32} {M0 : mM} (l : Launch) (D : mD) (A : Nat → Prop) {l0 : Nat} {l1 : Int32} {l2 : Int32} {l3 : Int32} {l4 : Int32} {l5 : Int32} {M : mM} (h : P_X11_feed G F l0 l1 l2 l3 l4 l5 M = some (r0, M0)) : mMetI l D G A yX11_feed cX11_feed 6 (some .int) 2 42 0 0 [.ref l0, .int l1, .int l2, .int l3, .int l4, .int l5] M sz r0 M0 sz := mMetI_of l D G A (by decide) (Nat.le_of_ble_eq_true rfl) (fun x X hQ => wP_X11_feed X hQ h)
/-! SealedTokens.end(I)I -/
theorem dX11_end_0 : decode cX11_end 0 = .ok (.iload_n 1, 1) := by decide +kernel
theorem dX11_end_1 : decode cX11_end 1 = .ok (.ifCond .lt 14, 3) := by decide +kernel
theorem dX11_end_4 : decode cX11_end 4 = .ok (.iload_n 1, 1) := by decide +kernel
theorem dX11_end_5 : decode cX11_end 5 = .ok (.aload_n 0, 1) := by decide +kernel
theorem dX11_end_6 : decode cX11_end 6 = .ok (.getfield 18, 3) := by decide +kernel
theorem dX11_end_9 : decode cX11_end 9 = .ok (.getfield 113, 3) := by decide +kernel
theorem dX11_end_12 : decode cX11_end 12 = .ok (.if_icmp .le 6, 3) := by decide +kernel
theorem dX11_end_15 : decode cX11_end 15 = .ok (.bipush (-2), 2) := by decide +kernel
theorem dX11_end_17 : decode cX11_end 17 = .ok (.ireturn, 1) := by decide +kernel
theorem dX11_end_18 : decode cX11_end 18 = .ok (.aload_n 0, 1) := by decide +kernel
theorem dX11_end_19 : decode cX11_end 19 = .ok (.getfield 18, 3) := by decide +kernel
theorem dX11_end_22 : decode cX11_end 22 = .ok (.iload_n 1, 1) := by decide +kernel
theorem dX11_end_23 : decode cX11_end 23 = .ok (.invokevirtual 120, 3) := by decide +kernel
theorem dX11_end_26 : decode cX11_end 26 = .ok (.iload_n 1, 1) := by decide +kernel
theorem dX11_end_27 : decode cX11_end 27 = .ok (.ireturn, 1) := by decide +kernel
abbrev rmX11_end : Room := { frames := 2, cells := 0, slots := 0, locals := 42 }
set_option maxHeartbeats 4000000 in
set_option maxRecDepth 100000 in
theorem wP_X11_end {G : Nat → Nat} {F : Nat} {x : mXT} {sz : Nat} {r0 : Int32} {M0 : mM} (X : mCX G RX11 cX11_end 2 (some .int) "end" rmX11_end x) (hQ : mQI x r0 M0 (sz, 0, 0)) {l0 : Nat} {l1 : Int32} {M : mM} (h : P_X11_end G F l0 l1 M = some (r0, M0)) : WW x (sz, 0, 0) M 0 [(0, .ref l0), (1, .int l1)] [] := by
  unfold P_X11_end at h
  refine ww_iload_n 0 X dX11_end_0 1 rfl rfl ?_
  refine ww_if_lt 1 15 X dX11_end_1 (by decide) (fun q => ?_) (fun q => ?_)
  · replace h := (if_pos q).symm.trans h
    refine ww_bipush 15 X (v := (-2 : Int32)) dX11_end_15 (by decide) ?_
    exact ww_iretE 17 X hQ dX11_end_17 h
  · replace h := (if_neg q).symm.trans h
    refine ww_iload_n 4 X dX11_end_4 1 rfl rfl ?_
    refine ww_aload_n 5 X dX11_end_5 0 rfl rfl ?_
    obtain ⟨v6, e6, h⟩ := bO_some h
    refine ww_getR 6 X dX11_end_6 fG_X11_18 e6 ?_
    obtain ⟨v9, e9, h⟩ := bO_some h
    refine ww_getI 9 X dX11_end_9 fG_X11_113 e9 ?_
    refine ww_icmp_le 12 18 X dX11_end_12 (by decide) (fun q => ?_) (fun q => ?_)
    · replace h := (if_pos q).symm.trans h
      refine ww_aload_n 18 X dX11_end_18 0 rfl rfl ?_
      obtain ⟨v19, e19, h⟩ := bO_some h
      refine ww_getR 19 X dX11_end_19 fG_X11_18 e19 ?_
      refine ww_iload_n 22 X dX11_end_22 1 rfl rfl ?_
      obtain ⟨_, f23, h⟩ := bO_some h
      obtain ⟨M23, e23, h⟩ := bO_some h
      refine ww_callVV0 23 X dX11_end_23 mY_X0_cutTo mL_X11_120 (rcv_spec f23) ⟨_, _, rfl⟩ (by decide) (As := [.int l1]) (rest := []) rfl rfl ⟨Nat.le_of_ble_eq_true rfl, Nat.le_of_ble_eq_true rfl⟩ (Nat.le_of_ble_eq_true rfl) (fun l D A => c_X0_cutTo l D A e23) ?_
      refine ww_iload_n 26 X dX11_end_26 1 rfl rfl ?_
      exact ww_iretE 27 X hQ dX11_end_27 h
    · replace h := (if_neg q).symm.trans h
      refine ww_bipush 15 X (v := (-2 : Int32)) dX11_end_15 (by decide) ?_
      exact ww_iretE 17 X hQ dX11_end_17 h
theorem c_X11_end {G : Nat → Nat} {F sz : Nat} {r0 : Int32} {M0 : mM} (l : Launch) (D : mD) (A : Nat → Prop) {l0 : Nat} {l1 : Int32} {M : mM} (h : P_X11_end G F l0 l1 M = some (r0, M0)) : mMetI l D G A yX11_end cX11_end 2 (some .int) 2 42 0 0 [.ref l0, .int l1] M sz r0 M0 sz := mMetI_of l D G A (by decide) (Nat.le_of_ble_eq_true rfl) (fun x X hQ => wP_X11_end X hQ h)
/-! SealedTokens.isRow(I)Z -/
theorem dX11_isRow_0 : decode cX11_isRow 0 = .ok (.iload_n 1, 1) := by decide +kernel
theorem dX11_isRow_1 : decode cX11_isRow 1 = .ok (.ifCond .lt 13, 3) := by decide +kernel
theorem dX11_isRow_4 : decode cX11_isRow 4 = .ok (.iload_n 1, 1) := by decide +kernel
theorem dX11_isRow_5 : decode cX11_isRow 5 = .ok (.bipush 8, 2) := by decide +kernel
theorem dX11_isRow_7 : decode cX11_isRow 7 = .ok (.if_icmp .ge 7, 3) := by decide +kernel
theorem dX11_isRow_10 : decode cX11_isRow 10 = .ok (.iconst 1, 1) := by decide +kernel
theorem dX11_isRow_11 : decode cX11_isRow 11 = .ok (.goto 4, 3) := by decide +kernel
theorem dX11_isRow_14 : decode cX11_isRow 14 = .ok (.iconst 0, 1) := by decide +kernel
theorem dX11_isRow_15 : decode cX11_isRow 15 = .ok (.ireturn, 1) := by decide +kernel
abbrev rmX11_isRow : Room := { frames := 0, cells := 0, slots := 0, locals := 0 }
set_option maxHeartbeats 4000000 in
set_option maxRecDepth 100000 in
theorem wP_X11_isRow {G : Nat → Nat} {F : Nat} {x : mXT} {sz : Nat} {r0 : Int32} {M0 : mM} (X : mCX G RX11 cX11_isRow 2 (some .boolean) "isRow" rmX11_isRow x) (hQ : mQI x r0 M0 (sz, 0, 0)) {l0 : Nat} {l1 : Int32} {M : mM} (h : P_X11_isRow G F l0 l1 M = some (r0, M0)) : WW x (sz, 0, 0) M 0 [(0, .ref l0), (1, .int l1)] [] := by
  unfold P_X11_isRow at h
  refine ww_iload_n 0 X dX11_isRow_0 1 rfl rfl ?_
  refine ww_if_lt 1 14 X dX11_isRow_1 (by decide) (fun q => ?_) (fun q => ?_)
  · replace h := (if_pos q).symm.trans h
    refine ww_iconst 14 X (v := (0 : Int32)) dX11_isRow_14 (by decide) ?_
    exact ww_zretE 15 X hQ dX11_isRow_15 h
  · replace h := (if_neg q).symm.trans h
    refine ww_iload_n 4 X dX11_isRow_4 1 rfl rfl ?_
    refine ww_bipush 5 X (v := (8 : Int32)) dX11_isRow_5 (by decide) ?_
    refine ww_icmp_ge 7 14 X dX11_isRow_7 (by decide) (fun q => ?_) (fun q => ?_)
    · replace h := (if_pos q).symm.trans h
      refine ww_iconst 14 X (v := (0 : Int32)) dX11_isRow_14 (by decide) ?_
      exact ww_zretE 15 X hQ dX11_isRow_15 h
    · replace h := (if_neg q).symm.trans h
      refine ww_iconst 10 X (v := (1 : Int32)) dX11_isRow_10 (by decide) ?_
      refine ww_goto 11 15 X dX11_isRow_11 (by decide) ?_
      exact ww_zretE 15 X hQ dX11_isRow_15 h
theorem c_X11_isRow {G : Nat → Nat} {F sz : Nat} {r0 : Int32} {M0 : mM} (l : Launch) (D : mD) (A : Nat → Prop) {l0 : Nat} {l1 : Int32} {M : mM} (h : P_X11_isRow G F l0 l1 M = some (r0, M0)) : mMetI l D G A yX11_isRow cX11_isRow 2 (some .boolean) 0 0 0 0 [.ref l0, .int l1] M sz r0 M0 sz := mMetI_of l D G A (by decide) (Nat.le_of_ble_eq_true rfl) (fun x X hQ => wP_X11_isRow X hQ h)
/-! SealedTokens.row(I)I -/
theorem dX11_row_0 : decode cX11_row 0 = .ok (.aload_n 0, 1) := by decide +kernel
theorem dX11_row_1 : decode cX11_row 1 = .ok (.iload_n 1, 1) := by decide +kernel
theorem dX11_row_2 : decode cX11_row 2 = .ok (.invokevirtual 123, 3) := by decide +kernel
theorem dX11_row_5 : decode cX11_row 5 = .ok (.ifCond .ne 6, 3) := by decide +kernel
theorem dX11_row_8 : decode cX11_row 8 = .ok (.bipush (-2), 2) := by decide +kernel
theorem dX11_row_10 : decode cX11_row 10 = .ok (.ireturn, 1) := by decide +kernel
theorem dX11_row_11 : decode cX11_row 11 = .ok (.aload_n 0, 1) := by decide +kernel
theorem dX11_row_12 : decode cX11_row 12 = .ok (.getfield 11, 3) := by decide +kernel
theorem dX11_row_15 : decode cX11_row 15 = .ok (.iload_n 1, 1) := by decide +kernel
theorem dX11_row_16 : decode cX11_row 16 = .ok (.aaload, 1) := by decide +kernel
theorem dX11_row_17 : decode cX11_row 17 = .ok (.aload_n 0, 1) := by decide +kernel
theorem dX11_row_18 : decode cX11_row 18 = .ok (.getfield 18, 3) := by decide +kernel
theorem dX11_row_21 : decode cX11_row 21 = .ok (.invokevirtual 127, 3) := by decide +kernel
theorem dX11_row_24 : decode cX11_row 24 = .ok (.aload_n 0, 1) := by decide +kernel
theorem dX11_row_25 : decode cX11_row 25 = .ok (.getfield 18, 3) := by decide +kernel
theorem dX11_row_28 : decode cX11_row 28 = .ok (.invokevirtual 131, 3) := by decide +kernel
theorem dX11_row_31 : decode cX11_row 31 = .ok (.aload_n 0, 1) := by decide +kernel
theorem dX11_row_32 : decode cX11_row 32 = .ok (.getfield 11, 3) := by decide +kernel
theorem dX11_row_35 : decode cX11_row 35 = .ok (.iload_n 1, 1) := by decide +kernel
theorem dX11_row_36 : decode cX11_row 36 = .ok (.aaload, 1) := by decide +kernel
theorem dX11_row_37 : decode cX11_row 37 = .ok (.getfield 113, 3) := by decide +kernel
theorem dX11_row_40 : decode cX11_row 40 = .ok (.ireturn, 1) := by decide +kernel
abbrev rmX11_row : Room := { frames := 3, cells := 0, slots := 0, locals := 105 }
set_option maxHeartbeats 4000000 in
set_option maxRecDepth 100000 in
theorem wP_X11_row {G : Nat → Nat} {F : Nat} {x : mXT} {sz : Nat} {r0 : Int32} {M0 : mM} (X : mCX G RX11 cX11_row 2 (some .int) "row" rmX11_row x) (hQ : mQI x r0 M0 (sz, 0, 0)) {l0 : Nat} {l1 : Int32} {M : mM} (h : P_X11_row G F l0 l1 M = some (r0, M0)) : WW x (sz, 0, 0) M 0 [(0, .ref l0), (1, .int l1)] [] := by
  unfold P_X11_row at h
  refine ww_aload_n 0 X dX11_row_0 0 rfl rfl ?_
  refine ww_iload_n 1 X dX11_row_1 1 rfl rfl ?_
  obtain ⟨_, f2, h⟩ := bO_some h
  obtain ⟨v2, M2, e2, h⟩ := bP_some h
  refine ww_callVI0 2 X dX11_row_2 mY_X11_isRow mL_X11_123 (rcv_spec f2) ⟨_, _, rfl⟩ (by decide) (As := [.int l1]) (rest := []) rfl rfl ⟨Nat.le_of_ble_eq_true rfl, Nat.le_of_ble_eq_true rfl⟩ (Nat.le_of_ble_eq_true rfl) (fun l D A => c_X11_isRow l D A e2) ?_
  refine ww_if_ne 5 11 X dX11_row_5 (by decide) (fun q => ?_) (fun q => ?_)
  · replace h := (if_neg q).symm.trans h
    refine ww_aload_n 11 X dX11_row_11 0 rfl rfl ?_
    obtain ⟨v12, e12, h⟩ := bO_some h
    refine ww_getR 12 X dX11_row_12 fG_X11_11 e12 ?_
    refine ww_iload_n 15 X dX11_row_15 1 rfl rfl ?_
    obtain ⟨v16, e16, h⟩ := bO_some h
    refine ww_aald4 16 X dX11_row_16 e16 ?_
    refine ww_aload_n 17 X dX11_row_17 0 rfl rfl ?_
    obtain ⟨v18, e18, h⟩ := bO_some h
    refine ww_getR 18 X dX11_row_18 fG_X11_18 e18 ?_
    obtain ⟨_, f21, h⟩ := bO_some h
    obtain ⟨M21, e21, h⟩ := bO_some h
    refine ww_callVV0 21 X dX11_row_21 mY_X0_become mL_X11_127 (rcv_spec f21) ⟨_, _, rfl⟩ (by decide) (As := [.ref v18]) (rest := []) rfl rfl ⟨Nat.le_of_ble_eq_true rfl, Nat.le_of_ble_eq_true rfl⟩ (Nat.le_of_ble_eq_true rfl) (fun l D A => c_X0_become l D A e21) ?_
    refine ww_aload_n 24 X dX11_row_24 0 rfl rfl ?_
    obtain ⟨v25, e25, h⟩ := bO_some h
    refine ww_getR 25 X dX11_row_25 fG_X11_18 e25 ?_
    obtain ⟨_, f28, h⟩ := bO_some h
    obtain ⟨M28, e28, h⟩ := bO_some h
    refine ww_callVV0 28 X dX11_row_28 mY_X0_clear mL_X11_131 (rcv_spec f28) ⟨_, _, rfl⟩ (by decide) (As := []) (rest := []) rfl rfl ⟨Nat.le_of_ble_eq_true rfl, Nat.le_of_ble_eq_true rfl⟩ (Nat.le_of_ble_eq_true rfl) (fun l D A => c_X0_clear l D A e28) ?_
    refine ww_aload_n 31 X dX11_row_31 0 rfl rfl ?_
    obtain ⟨v32, e32, h⟩ := bO_some h
    refine ww_getR 32 X dX11_row_32 fG_X11_11 e32 ?_
    refine ww_iload_n 35 X dX11_row_35 1 rfl rfl ?_
    obtain ⟨v36, e36, h⟩ := bO_some h
    refine ww_aald4 36 X dX11_row_36 e36 ?_
    obtain ⟨v37, e37, h⟩ := bO_some h
    refine ww_getI 37 X dX11_row_37 fG_X11_113 e37 ?_
    exact ww_iretE 40 X hQ dX11_row_40 h
  · replace h := (if_pos q).symm.trans h
    refine ww_bipush 8 X (v := (-2 : Int32)) dX11_row_8 (by decide) ?_
    exact ww_iretE 10 X hQ dX11_row_10 h
theorem c_X11_row {G : Nat → Nat} {F sz : Nat} {r0 : Int32} {M0 : mM} (l : Launch) (D : mD) (A : Nat → Prop) {l0 : Nat} {l1 : Int32} {M : mM} (h : P_X11_row G F l0 l1 M = some (r0, M0)) : mMetI l D G A yX11_row cX11_row 2 (some .int) 3 105 0 0 [.ref l0, .int l1] M sz r0 M0 sz := mMetI_of l D G A (by decide) (Nat.le_of_ble_eq_true rfl) (fun x X hQ => wP_X11_row X hQ h)
/-! SealedTokens.keep(I)I -/
theorem dX11_keep_0 : decode cX11_keep 0 = .ok (.aload_n 0, 1) := by decide +kernel
theorem dX11_keep_1 : decode cX11_keep 1 = .ok (.iload_n 1, 1) := by decide +kernel
theorem dX11_keep_2 : decode cX11_keep 2 = .ok (.invokevirtual 123, 3) := by decide +kernel
theorem dX11_keep_5 : decode cX11_keep 5 = .ok (.ifCond .ne 6, 3) := by decide +kernel
theorem dX11_keep_8 : decode cX11_keep 8 = .ok (.bipush (-2), 2) := by decide +kernel
theorem dX11_keep_10 : decode cX11_keep 10 = .ok (.ireturn, 1) := by decide +kernel
theorem dX11_keep_11 : decode cX11_keep 11 = .ok (.aload_n 0, 1) := by decide +kernel
theorem dX11_keep_12 : decode cX11_keep 12 = .ok (.getfield 11, 3) := by decide +kernel
theorem dX11_keep_15 : decode cX11_keep 15 = .ok (.iload_n 1, 1) := by decide +kernel
theorem dX11_keep_16 : decode cX11_keep 16 = .ok (.aaload, 1) := by decide +kernel
theorem dX11_keep_17 : decode cX11_keep 17 = .ok (.aload_n 0, 1) := by decide +kernel
theorem dX11_keep_18 : decode cX11_keep 18 = .ok (.getfield 22, 3) := by decide +kernel
theorem dX11_keep_21 : decode cX11_keep 21 = .ok (.invokevirtual 127, 3) := by decide +kernel
theorem dX11_keep_24 : decode cX11_keep 24 = .ok (.aload_n 0, 1) := by decide +kernel
theorem dX11_keep_25 : decode cX11_keep 25 = .ok (.getfield 11, 3) := by decide +kernel
theorem dX11_keep_28 : decode cX11_keep 28 = .ok (.iload_n 1, 1) := by decide +kernel
theorem dX11_keep_29 : decode cX11_keep 29 = .ok (.aaload, 1) := by decide +kernel
theorem dX11_keep_30 : decode cX11_keep 30 = .ok (.getfield 113, 3) := by decide +kernel
theorem dX11_keep_33 : decode cX11_keep 33 = .ok (.ireturn, 1) := by decide +kernel
abbrev rmX11_keep : Room := { frames := 3, cells := 0, slots := 0, locals := 105 }
set_option maxHeartbeats 4000000 in
set_option maxRecDepth 100000 in
theorem wP_X11_keep {G : Nat → Nat} {F : Nat} {x : mXT} {sz : Nat} {r0 : Int32} {M0 : mM} (X : mCX G RX11 cX11_keep 2 (some .int) "keep" rmX11_keep x) (hQ : mQI x r0 M0 (sz, 0, 0)) {l0 : Nat} {l1 : Int32} {M : mM} (h : P_X11_keep G F l0 l1 M = some (r0, M0)) : WW x (sz, 0, 0) M 0 [(0, .ref l0), (1, .int l1)] [] := by
  unfold P_X11_keep at h
  refine ww_aload_n 0 X dX11_keep_0 0 rfl rfl ?_
  refine ww_iload_n 1 X dX11_keep_1 1 rfl rfl ?_
  obtain ⟨_, f2, h⟩ := bO_some h
  obtain ⟨v2, M2, e2, h⟩ := bP_some h
  refine ww_callVI0 2 X dX11_keep_2 mY_X11_isRow mL_X11_123 (rcv_spec f2) ⟨_, _, rfl⟩ (by decide) (As := [.int l1]) (rest := []) rfl rfl ⟨Nat.le_of_ble_eq_true rfl, Nat.le_of_ble_eq_true rfl⟩ (Nat.le_of_ble_eq_true rfl) (fun l D A => c_X11_isRow l D A e2) ?_
  refine ww_if_ne 5 11 X dX11_keep_5 (by decide) (fun q => ?_) (fun q => ?_)
  · replace h := (if_neg q).symm.trans h
    refine ww_aload_n 11 X dX11_keep_11 0 rfl rfl ?_
    obtain ⟨v12, e12, h⟩ := bO_some h
    refine ww_getR 12 X dX11_keep_12 fG_X11_11 e12 ?_
    refine ww_iload_n 15 X dX11_keep_15 1 rfl rfl ?_
    obtain ⟨v16, e16, h⟩ := bO_some h
    refine ww_aald4 16 X dX11_keep_16 e16 ?_
    refine ww_aload_n 17 X dX11_keep_17 0 rfl rfl ?_
    obtain ⟨v18, e18, h⟩ := bO_some h
    refine ww_getR 18 X dX11_keep_18 fG_X11_22 e18 ?_
    obtain ⟨_, f21, h⟩ := bO_some h
    obtain ⟨M21, e21, h⟩ := bO_some h
    refine ww_callVV0 21 X dX11_keep_21 mY_X0_become mL_X11_127 (rcv_spec f21) ⟨_, _, rfl⟩ (by decide) (As := [.ref v18]) (rest := []) rfl rfl ⟨Nat.le_of_ble_eq_true rfl, Nat.le_of_ble_eq_true rfl⟩ (Nat.le_of_ble_eq_true rfl) (fun l D A => c_X0_become l D A e21) ?_
    refine ww_aload_n 24 X dX11_keep_24 0 rfl rfl ?_
    obtain ⟨v25, e25, h⟩ := bO_some h
    refine ww_getR 25 X dX11_keep_25 fG_X11_11 e25 ?_
    refine ww_iload_n 28 X dX11_keep_28 1 rfl rfl ?_
    obtain ⟨v29, e29, h⟩ := bO_some h
    refine ww_aald4 29 X dX11_keep_29 e29 ?_
    obtain ⟨v30, e30, h⟩ := bO_some h
    refine ww_getI 30 X dX11_keep_30 fG_X11_113 e30 ?_
    exact ww_iretE 33 X hQ dX11_keep_33 h
  · replace h := (if_pos q).symm.trans h
    refine ww_bipush 8 X (v := (-2 : Int32)) dX11_keep_8 (by decide) ?_
    exact ww_iretE 10 X hQ dX11_keep_10 h
theorem c_X11_keep {G : Nat → Nat} {F sz : Nat} {r0 : Int32} {M0 : mM} (l : Launch) (D : mD) (A : Nat → Prop) {l0 : Nat} {l1 : Int32} {M : mM} (h : P_X11_keep G F l0 l1 M = some (r0, M0)) : mMetI l D G A yX11_keep cX11_keep 2 (some .int) 3 105 0 0 [.ref l0, .int l1] M sz r0 M0 sz := mMetI_of l D G A (by decide) (Nat.le_of_ble_eq_true rfl) (fun x X hQ => wP_X11_keep X hQ h)
/-! SealedTokens.poke(III)I -/
theorem dX11_poke_0 : decode cX11_poke 0 = .ok (.aload_n 0, 1) := by decide +kernel
theorem dX11_poke_1 : decode cX11_poke 1 = .ok (.iload_n 1, 1) := by decide +kernel
theorem dX11_poke_2 : decode cX11_poke 2 = .ok (.invokevirtual 123, 3) := by decide +kernel
theorem dX11_poke_5 : decode cX11_poke 5 = .ok (.ifCond .eq 31, 3) := by decide +kernel
theorem dX11_poke_8 : decode cX11_poke 8 = .ok (.iload_n 3, 1) := by decide +kernel
theorem dX11_poke_9 : decode cX11_poke 9 = .ok (.ifCond .lt 27, 3) := by decide +kernel
theorem dX11_poke_12 : decode cX11_poke 12 = .ok (.iload_n 3, 1) := by decide +kernel
theorem dX11_poke_13 : decode cX11_poke 13 = .ok (.sipush 255, 3) := by decide +kernel
theorem dX11_poke_16 : decode cX11_poke 16 = .ok (.if_icmp .gt 20, 3) := by decide +kernel
theorem dX11_poke_19 : decode cX11_poke 19 = .ok (.iload_n 2, 1) := by decide +kernel
theorem dX11_poke_20 : decode cX11_poke 20 = .ok (.ifCond .lt 16, 3) := by decide +kernel
theorem dX11_poke_23 : decode cX11_poke 23 = .ok (.iload_n 2, 1) := by decide +kernel
theorem dX11_poke_24 : decode cX11_poke 24 = .ok (.aload_n 0, 1) := by decide +kernel
theorem dX11_poke_25 : decode cX11_poke 25 = .ok (.getfield 11, 3) := by decide +kernel
theorem dX11_poke_28 : decode cX11_poke 28 = .ok (.iload_n 1, 1) := by decide +kernel
theorem dX11_poke_29 : decode cX11_poke 29 = .ok (.aaload, 1) := by decide +kernel
theorem dX11_poke_30 : decode cX11_poke 30 = .ok (.getfield 113, 3) := by decide +kernel
theorem dX11_poke_33 : decode cX11_poke 33 = .ok (.if_icmp .lt 6, 3) := by decide +kernel
theorem dX11_poke_36 : decode cX11_poke 36 = .ok (.bipush (-2), 2) := by decide +kernel
theorem dX11_poke_38 : decode cX11_poke 38 = .ok (.ireturn, 1) := by decide +kernel
theorem dX11_poke_39 : decode cX11_poke 39 = .ok (.aload_n 0, 1) := by decide +kernel
theorem dX11_poke_40 : decode cX11_poke 40 = .ok (.getfield 11, 3) := by decide +kernel
theorem dX11_poke_43 : decode cX11_poke 43 = .ok (.iload_n 1, 1) := by decide +kernel
theorem dX11_poke_44 : decode cX11_poke 44 = .ok (.aaload, 1) := by decide +kernel
theorem dX11_poke_45 : decode cX11_poke 45 = .ok (.getfield 134, 3) := by decide +kernel
theorem dX11_poke_48 : decode cX11_poke 48 = .ok (.iload_n 2, 1) := by decide +kernel
theorem dX11_poke_49 : decode cX11_poke 49 = .ok (.dup2, 1) := by decide +kernel
theorem dX11_poke_50 : decode cX11_poke 50 = .ok (.iaload, 1) := by decide +kernel
theorem dX11_poke_51 : decode cX11_poke 51 = .ok (.iload_n 3, 1) := by decide +kernel
theorem dX11_poke_52 : decode cX11_poke 52 = .ok (.ixor, 1) := by decide +kernel
theorem dX11_poke_53 : decode cX11_poke 53 = .ok (.iastore, 1) := by decide +kernel
theorem dX11_poke_54 : decode cX11_poke 54 = .ok (.aload_n 0, 1) := by decide +kernel
theorem dX11_poke_55 : decode cX11_poke 55 = .ok (.getfield 11, 3) := by decide +kernel
theorem dX11_poke_58 : decode cX11_poke 58 = .ok (.iload_n 1, 1) := by decide +kernel
theorem dX11_poke_59 : decode cX11_poke 59 = .ok (.aaload, 1) := by decide +kernel
theorem dX11_poke_60 : decode cX11_poke 60 = .ok (.getfield 134, 3) := by decide +kernel
theorem dX11_poke_63 : decode cX11_poke 63 = .ok (.iload_n 2, 1) := by decide +kernel
theorem dX11_poke_64 : decode cX11_poke 64 = .ok (.iaload, 1) := by decide +kernel
theorem dX11_poke_65 : decode cX11_poke 65 = .ok (.ireturn, 1) := by decide +kernel
abbrev rmX11_poke : Room := { frames := 1, cells := 0, slots := 0, locals := 21 }
set_option maxHeartbeats 4000000 in
set_option maxRecDepth 100000 in
theorem wP_X11_poke {G : Nat → Nat} {F : Nat} {x : mXT} {sz : Nat} {r0 : Int32} {M0 : mM} (X : mCX G RX11 cX11_poke 4 (some .int) "poke" rmX11_poke x) (hQ : mQI x r0 M0 (sz, 0, 0)) {l0 : Nat} {l1 : Int32} {l2 : Int32} {l3 : Int32} {M : mM} (h : P_X11_poke G F l0 l1 l2 l3 M = some (r0, M0)) : WW x (sz, 0, 0) M 0 [(0, .ref l0), (1, .int l1), (2, .int l2), (3, .int l3)] [] := by
  unfold P_X11_poke at h
  refine ww_aload_n 0 X dX11_poke_0 0 rfl rfl ?_
  refine ww_iload_n 1 X dX11_poke_1 1 rfl rfl ?_
  obtain ⟨_, f2, h⟩ := bO_some h
  obtain ⟨v2, M2, e2, h⟩ := bP_some h
  refine ww_callVI0 2 X dX11_poke_2 mY_X11_isRow mL_X11_123 (rcv_spec f2) ⟨_, _, rfl⟩ (by decide) (As := [.int l1]) (rest := []) rfl rfl ⟨Nat.le_of_ble_eq_true rfl, Nat.le_of_ble_eq_true rfl⟩ (Nat.le_of_ble_eq_true rfl) (fun l D A => c_X11_isRow l D A e2) ?_
  refine ww_if_eq 5 36 X dX11_poke_5 (by decide) (fun q => ?_) (fun q => ?_)
  · replace h := (if_pos q).symm.trans h
    refine ww_bipush 36 X (v := (-2 : Int32)) dX11_poke_36 (by decide) ?_
    exact ww_iretE 38 X hQ dX11_poke_38 h
  · replace h := (if_neg q).symm.trans h
    refine ww_iload_n 8 X dX11_poke_8 3 rfl rfl ?_
    refine ww_if_lt 9 36 X dX11_poke_9 (by decide) (fun q => ?_) (fun q => ?_)
    · replace h := (if_pos q).symm.trans h
      refine ww_bipush 36 X (v := (-2 : Int32)) dX11_poke_36 (by decide) ?_
      exact ww_iretE 38 X hQ dX11_poke_38 h
    · replace h := (if_neg q).symm.trans h
      refine ww_iload_n 12 X dX11_poke_12 3 rfl rfl ?_
      refine ww_sipush 13 X (v := (255 : Int32)) dX11_poke_13 (by decide) ?_
      refine ww_icmp_gt 16 36 X dX11_poke_16 (by decide) (fun q => ?_) (fun q => ?_)
      · replace h := (if_pos q).symm.trans h
        refine ww_bipush 36 X (v := (-2 : Int32)) dX11_poke_36 (by decide) ?_
        exact ww_iretE 38 X hQ dX11_poke_38 h
      · replace h := (if_neg q).symm.trans h
        refine ww_iload_n 19 X dX11_poke_19 2 rfl rfl ?_
        refine ww_if_lt 20 36 X dX11_poke_20 (by decide) (fun q => ?_) (fun q => ?_)
        · replace h := (if_pos q).symm.trans h
          refine ww_bipush 36 X (v := (-2 : Int32)) dX11_poke_36 (by decide) ?_
          exact ww_iretE 38 X hQ dX11_poke_38 h
        · replace h := (if_neg q).symm.trans h
          refine ww_iload_n 23 X dX11_poke_23 2 rfl rfl ?_
          refine ww_aload_n 24 X dX11_poke_24 0 rfl rfl ?_
          obtain ⟨v25, e25, h⟩ := bO_some h
          refine ww_getR 25 X dX11_poke_25 fG_X11_11 e25 ?_
          refine ww_iload_n 28 X dX11_poke_28 1 rfl rfl ?_
          obtain ⟨v29, e29, h⟩ := bO_some h
          refine ww_aald4 29 X dX11_poke_29 e29 ?_
          obtain ⟨v30, e30, h⟩ := bO_some h
          refine ww_getI 30 X dX11_poke_30 fG_X11_113 e30 ?_
          refine ww_icmp_lt 33 39 X dX11_poke_33 (by decide) (fun q => ?_) (fun q => ?_)
          · replace h := (if_pos q).symm.trans h
            refine ww_aload_n 39 X dX11_poke_39 0 rfl rfl ?_
            obtain ⟨v40, e40, h⟩ := bO_some h
            refine ww_getR 40 X dX11_poke_40 fG_X11_11 e40 ?_
            refine ww_iload_n 43 X dX11_poke_43 1 rfl rfl ?_
            obtain ⟨v44, e44, h⟩ := bO_some h
            refine ww_aald4 44 X dX11_poke_44 e44 ?_
            obtain ⟨v45, e45, h⟩ := bO_some h
            refine ww_getR 45 X dX11_poke_45 fG_X11_134 e45 ?_
            refine ww_iload_n 48 X dX11_poke_48 2 rfl rfl ?_
            refine ww_dup2_11 49 X dX11_poke_49 rfl rfl ?_
            obtain ⟨v50, e50, h⟩ := bO_some h
            refine ww_iald 50 X dX11_poke_50 e50 ?_
            refine ww_iload_n 51 X dX11_poke_51 3 rfl rfl ?_
            refine ww_ixor 52 X dX11_poke_52 ?_
            obtain ⟨M53, e53, h⟩ := bO_some h
            refine ww_iast 53 X dX11_poke_53 e53 ?_
            refine ww_aload_n 54 X dX11_poke_54 0 rfl rfl ?_
            obtain ⟨v55, e55, h⟩ := bO_some h
            refine ww_getR 55 X dX11_poke_55 fG_X11_11 e55 ?_
            refine ww_iload_n 58 X dX11_poke_58 1 rfl rfl ?_
            obtain ⟨v59, e59, h⟩ := bO_some h
            refine ww_aald4 59 X dX11_poke_59 e59 ?_
            obtain ⟨v60, e60, h⟩ := bO_some h
            refine ww_getR 60 X dX11_poke_60 fG_X11_134 e60 ?_
            refine ww_iload_n 63 X dX11_poke_63 2 rfl rfl ?_
            obtain ⟨v64, e64, h⟩ := bO_some h
            refine ww_iald 64 X dX11_poke_64 e64 ?_
            exact ww_iretE 65 X hQ dX11_poke_65 h
          · replace h := (if_neg q).symm.trans h
            refine ww_bipush 36 X (v := (-2 : Int32)) dX11_poke_36 (by decide) ?_
            exact ww_iretE 38 X hQ dX11_poke_38 h
theorem c_X11_poke {G : Nat → Nat} {F sz : Nat} {r0 : Int32} {M0 : mM} (l : Launch) (D : mD) (A : Nat → Prop) {l0 : Nat} {l1 : Int32} {l2 : Int32} {l3 : Int32} {M : mM} (h : P_X11_poke G F l0 l1 l2 l3 M = some (r0, M0)) : mMetI l D G A yX11_poke cX11_poke 4 (some .int) 1 21 0 0 [.ref l0, .int l1, .int l2, .int l3] M sz r0 M0 sz := mMetI_of l D G A (by decide) (Nat.le_of_ble_eq_true rfl) (fun x X hQ => wP_X11_poke X hQ h)
/-! SealedTokens.size(I)I -/
theorem dX11_size_0 : decode cX11_size 0 = .ok (.iload_n 1, 1) := by decide +kernel
theorem dX11_size_1 : decode cX11_size 1 = .ok (.iconst (-1), 1) := by decide +kernel
theorem dX11_size_2 : decode cX11_size 2 = .ok (.if_icmp .ne 11, 3) := by decide +kernel
theorem dX11_size_5 : decode cX11_size 5 = .ok (.aload_n 0, 1) := by decide +kernel
theorem dX11_size_6 : decode cX11_size 6 = .ok (.getfield 22, 3) := by decide +kernel
theorem dX11_size_9 : decode cX11_size 9 = .ok (.getfield 113, 3) := by decide +kernel
theorem dX11_size_12 : decode cX11_size 12 = .ok (.ireturn, 1) := by decide +kernel
theorem dX11_size_13 : decode cX11_size 13 = .ok (.aload_n 0, 1) := by decide +kernel
theorem dX11_size_14 : decode cX11_size 14 = .ok (.iload_n 1, 1) := by decide +kernel
theorem dX11_size_15 : decode cX11_size 15 = .ok (.invokevirtual 123, 3) := by decide +kernel
theorem dX11_size_18 : decode cX11_size 18 = .ok (.ifCond .eq 15, 3) := by decide +kernel
theorem dX11_size_21 : decode cX11_size 21 = .ok (.aload_n 0, 1) := by decide +kernel
theorem dX11_size_22 : decode cX11_size 22 = .ok (.getfield 11, 3) := by decide +kernel
theorem dX11_size_25 : decode cX11_size 25 = .ok (.iload_n 1, 1) := by decide +kernel
theorem dX11_size_26 : decode cX11_size 26 = .ok (.aaload, 1) := by decide +kernel
theorem dX11_size_27 : decode cX11_size 27 = .ok (.getfield 113, 3) := by decide +kernel
theorem dX11_size_30 : decode cX11_size 30 = .ok (.goto 5, 3) := by decide +kernel
theorem dX11_size_33 : decode cX11_size 33 = .ok (.bipush (-2), 2) := by decide +kernel
theorem dX11_size_35 : decode cX11_size 35 = .ok (.ireturn, 1) := by decide +kernel
abbrev rmX11_size : Room := { frames := 1, cells := 0, slots := 0, locals := 21 }
set_option maxHeartbeats 4000000 in
set_option maxRecDepth 100000 in
theorem wP_X11_size {G : Nat → Nat} {F : Nat} {x : mXT} {sz : Nat} {r0 : Int32} {M0 : mM} (X : mCX G RX11 cX11_size 2 (some .int) "size" rmX11_size x) (hQ : mQI x r0 M0 (sz, 0, 0)) {l0 : Nat} {l1 : Int32} {M : mM} (h : P_X11_size G F l0 l1 M = some (r0, M0)) : WW x (sz, 0, 0) M 0 [(0, .ref l0), (1, .int l1)] [] := by
  unfold P_X11_size at h
  refine ww_iload_n 0 X dX11_size_0 1 rfl rfl ?_
  refine ww_iconst 1 X (v := (-1 : Int32)) dX11_size_1 (by decide) ?_
  refine ww_icmp_ne 2 13 X dX11_size_2 (by decide) (fun q => ?_) (fun q => ?_)
  · replace h := (if_neg q).symm.trans h
    refine ww_aload_n 13 X dX11_size_13 0 rfl rfl ?_
    refine ww_iload_n 14 X dX11_size_14 1 rfl rfl ?_
    obtain ⟨_, f15, h⟩ := bO_some h
    obtain ⟨v15, M15, e15, h⟩ := bP_some h
    refine ww_callVI0 15 X dX11_size_15 mY_X11_isRow mL_X11_123 (rcv_spec f15) ⟨_, _, rfl⟩ (by decide) (As := [.int l1]) (rest := []) rfl rfl ⟨Nat.le_of_ble_eq_true rfl, Nat.le_of_ble_eq_true rfl⟩ (Nat.le_of_ble_eq_true rfl) (fun l D A => c_X11_isRow l D A e15) ?_
    refine ww_if_eq 18 33 X dX11_size_18 (by decide) (fun q => ?_) (fun q => ?_)
    · replace h := (if_pos q).symm.trans h
      refine ww_bipush 33 X (v := (-2 : Int32)) dX11_size_33 (by decide) ?_
      exact ww_iretE 35 X hQ dX11_size_35 h
    · replace h := (if_neg q).symm.trans h
      refine ww_aload_n 21 X dX11_size_21 0 rfl rfl ?_
      obtain ⟨v22, e22, h⟩ := bO_some h
      refine ww_getR 22 X dX11_size_22 fG_X11_11 e22 ?_
      refine ww_iload_n 25 X dX11_size_25 1 rfl rfl ?_
      obtain ⟨v26, e26, h⟩ := bO_some h
      refine ww_aald4 26 X dX11_size_26 e26 ?_
      obtain ⟨v27, e27, h⟩ := bO_some h
      refine ww_getI 27 X dX11_size_27 fG_X11_113 e27 ?_
      refine ww_goto 30 35 X dX11_size_30 (by decide) ?_
      exact ww_iretE 35 X hQ dX11_size_35 h
  · replace h := (if_pos q).symm.trans h
    refine ww_aload_n 5 X dX11_size_5 0 rfl rfl ?_
    obtain ⟨v6, e6, h⟩ := bO_some h
    refine ww_getR 6 X dX11_size_6 fG_X11_22 e6 ?_
    obtain ⟨v9, e9, h⟩ := bO_some h
    refine ww_getI 9 X dX11_size_9 fG_X11_113 e9 ?_
    exact ww_iretE 12 X hQ dX11_size_12 h
theorem c_X11_size {G : Nat → Nat} {F sz : Nat} {r0 : Int32} {M0 : mM} (l : Launch) (D : mD) (A : Nat → Prop) {l0 : Nat} {l1 : Int32} {M : mM} (h : P_X11_size G F l0 l1 M = some (r0, M0)) : mMetI l D G A yX11_size cX11_size 2 (some .int) 1 21 0 0 [.ref l0, .int l1] M sz r0 M0 sz := mMetI_of l D G A (by decide) (Nat.le_of_ble_eq_true rfl) (fun x X hQ => wP_X11_size X hQ h)
/-! SealedTokens.out(I)I -/
theorem dX11_out_0 : decode cX11_out 0 = .ok (.aload_n 0, 1) := by decide +kernel
theorem dX11_out_1 : decode cX11_out 1 = .ok (.getfield 22, 3) := by decide +kernel
theorem dX11_out_4 : decode cX11_out 4 = .ok (.iload_n 1, 1) := by decide +kernel
theorem dX11_out_5 : decode cX11_out 5 = .ok (.invokevirtual 138, 3) := by decide +kernel
theorem dX11_out_8 : decode cX11_out 8 = .ok (.ireturn, 1) := by decide +kernel
abbrev rmX11_out : Room := { frames := 1, cells := 0, slots := 0, locals := 21 }
set_option maxHeartbeats 4000000 in
set_option maxRecDepth 100000 in
theorem wP_X11_out {G : Nat → Nat} {F : Nat} {x : mXT} {sz : Nat} {r0 : Int32} {M0 : mM} (X : mCX G RX11 cX11_out 2 (some .int) "out" rmX11_out x) (hQ : mQI x r0 M0 (sz, 0, 0)) {l0 : Nat} {l1 : Int32} {M : mM} (h : P_X11_out G F l0 l1 M = some (r0, M0)) : WW x (sz, 0, 0) M 0 [(0, .ref l0), (1, .int l1)] [] := by
  unfold P_X11_out at h
  refine ww_aload_n 0 X dX11_out_0 0 rfl rfl ?_
  obtain ⟨v1, e1, h⟩ := bO_some h
  refine ww_getR 1 X dX11_out_1 fG_X11_22 e1 ?_
  refine ww_iload_n 4 X dX11_out_4 1 rfl rfl ?_
  obtain ⟨_, f5, h⟩ := bO_some h
  obtain ⟨v5, M5, e5, h⟩ := bP_some h
  refine ww_callVI0 5 X dX11_out_5 mY_X0_peek mL_X11_138 (rcv_spec f5) ⟨_, _, rfl⟩ (by decide) (As := [.int l1]) (rest := []) rfl rfl ⟨Nat.le_of_ble_eq_true rfl, Nat.le_of_ble_eq_true rfl⟩ (Nat.le_of_ble_eq_true rfl) (fun l D A => c_X0_peek l D A e5) ?_
  exact ww_iretE 8 X hQ dX11_out_8 h
theorem c_X11_out {G : Nat → Nat} {F sz : Nat} {r0 : Int32} {M0 : mM} (l : Launch) (D : mD) (A : Nat → Prop) {l0 : Nat} {l1 : Int32} {M : mM} (h : P_X11_out G F l0 l1 M = some (r0, M0)) : mMetI l D G A yX11_out cX11_out 2 (some .int) 1 21 0 0 [.ref l0, .int l1] M sz r0 M0 sz := mMetI_of l D G A (by decide) (Nat.le_of_ble_eq_true rfl) (fun x X hQ => wP_X11_out X hQ h)
/-! SealedTokens.json(I)I -/
theorem dX11_json_0 : decode cX11_json 0 = .ok (.aload_n 0, 1) := by decide +kernel
theorem dX11_json_1 : decode cX11_json 1 = .ok (.iload_n 1, 1) := by decide +kernel
theorem dX11_json_2 : decode cX11_json 2 = .ok (.invokevirtual 123, 3) := by decide +kernel
theorem dX11_json_5 : decode cX11_json 5 = .ok (.ifCond .ne 6, 3) := by decide +kernel
theorem dX11_json_8 : decode cX11_json 8 = .ok (.bipush (-2), 2) := by decide +kernel
theorem dX11_json_10 : decode cX11_json 10 = .ok (.ireturn, 1) := by decide +kernel
theorem dX11_json_11 : decode cX11_json 11 = .ok (.aload_n 0, 1) := by decide +kernel
theorem dX11_json_12 : decode cX11_json 12 = .ok (.getfield 52, 3) := by decide +kernel
theorem dX11_json_15 : decode cX11_json 15 = .ok (.aload_n 0, 1) := by decide +kernel
theorem dX11_json_16 : decode cX11_json 16 = .ok (.getfield 11, 3) := by decide +kernel
theorem dX11_json_19 : decode cX11_json 19 = .ok (.iload_n 1, 1) := by decide +kernel
theorem dX11_json_20 : decode cX11_json 20 = .ok (.aaload, 1) := by decide +kernel
theorem dX11_json_21 : decode cX11_json 21 = .ok (.aload_n 0, 1) := by decide +kernel
theorem dX11_json_22 : decode cX11_json 22 = .ok (.getfield 44, 3) := by decide +kernel
theorem dX11_json_25 : decode cX11_json 25 = .ok (.invokevirtual 142, 3) := by decide +kernel
theorem dX11_json_28 : decode cX11_json 28 = .ok (.istore_n 2, 1) := by decide +kernel
theorem dX11_json_29 : decode cX11_json 29 = .ok (.iload_n 2, 1) := by decide +kernel
theorem dX11_json_30 : decode cX11_json 30 = .ok (.iconst (-1), 1) := by decide +kernel
theorem dX11_json_31 : decode cX11_json 31 = .ok (.if_icmp .eq 8, 3) := by decide +kernel
theorem dX11_json_34 : decode cX11_json 34 = .ok (.bipush (-100), 2) := by decide +kernel
theorem dX11_json_36 : decode cX11_json 36 = .ok (.iload_n 2, 1) := by decide +kernel
theorem dX11_json_37 : decode cX11_json 37 = .ok (.isub, 1) := by decide +kernel
theorem dX11_json_38 : decode cX11_json 38 = .ok (.ireturn, 1) := by decide +kernel
theorem dX11_json_39 : decode cX11_json 39 = .ok (.aload_n 0, 1) := by decide +kernel
theorem dX11_json_40 : decode cX11_json 40 = .ok (.getfield 44, 3) := by decide +kernel
theorem dX11_json_43 : decode cX11_json 43 = .ok (.astore_n 3, 1) := by decide +kernel
theorem dX11_json_44 : decode cX11_json 44 = .ok (.aload_n 0, 1) := by decide +kernel
theorem dX11_json_45 : decode cX11_json 45 = .ok (.aload_n 0, 1) := by decide +kernel
theorem dX11_json_46 : decode cX11_json 46 = .ok (.getfield 40, 3) := by decide +kernel
theorem dX11_json_49 : decode cX11_json 49 = .ok (.putfield 44, 3) := by decide +kernel
theorem dX11_json_52 : decode cX11_json 52 = .ok (.aload_n 0, 1) := by decide +kernel
theorem dX11_json_53 : decode cX11_json 53 = .ok (.aload_n 3, 1) := by decide +kernel
theorem dX11_json_54 : decode cX11_json 54 = .ok (.putfield 40, 3) := by decide +kernel
theorem dX11_json_57 : decode cX11_json 57 = .ok (.aload_n 0, 1) := by decide +kernel
theorem dX11_json_58 : decode cX11_json 58 = .ok (.getfield 40, 3) := by decide +kernel
theorem dX11_json_61 : decode cX11_json 61 = .ok (.getfield 146, 3) := by decide +kernel
theorem dX11_json_64 : decode cX11_json 64 = .ok (.ireturn, 1) := by decide +kernel
abbrev rmX11_json : Room := { frames := 9, cells := 0, slots := 0, locals := 202 }
set_option maxHeartbeats 4000000 in
set_option maxRecDepth 100000 in
theorem wP_X11_json {G : Nat → Nat} {F : Nat} {x : mXT} {sz : Nat} {r0 : Int32} {M0 : mM} (X : mCX G RX11 cX11_json 4 (some .int) "json" rmX11_json x) (hQ : mQI x r0 M0 (sz, 0, 0)) {l0 : Nat} {l1 : Int32} {M : mM} (h : P_X11_json G F l0 l1 M = some (r0, M0)) : WW x (sz, 0, 0) M 0 [(0, .ref l0), (1, .int l1)] [] := by
  unfold P_X11_json at h
  refine ww_aload_n 0 X dX11_json_0 0 rfl rfl ?_
  refine ww_iload_n 1 X dX11_json_1 1 rfl rfl ?_
  obtain ⟨_, f2, h⟩ := bO_some h
  obtain ⟨v2, M2, e2, h⟩ := bP_some h
  refine ww_callVI0 2 X dX11_json_2 mY_X11_isRow mL_X11_123 (rcv_spec f2) ⟨_, _, rfl⟩ (by decide) (As := [.int l1]) (rest := []) rfl rfl ⟨Nat.le_of_ble_eq_true rfl, Nat.le_of_ble_eq_true rfl⟩ (Nat.le_of_ble_eq_true rfl) (fun l D A => c_X11_isRow l D A e2) ?_
  refine ww_if_ne 5 11 X dX11_json_5 (by decide) (fun q => ?_) (fun q => ?_)
  · replace h := (if_neg q).symm.trans h
    refine ww_aload_n 11 X dX11_json_11 0 rfl rfl ?_
    obtain ⟨v12, e12, h⟩ := bO_some h
    refine ww_getR 12 X dX11_json_12 fG_X11_52 e12 ?_
    refine ww_aload_n 15 X dX11_json_15 0 rfl rfl ?_
    obtain ⟨v16, e16, h⟩ := bO_some h
    refine ww_getR 16 X dX11_json_16 fG_X11_11 e16 ?_
    refine ww_iload_n 19 X dX11_json_19 1 rfl rfl ?_
    obtain ⟨v20, e20, h⟩ := bO_some h
    refine ww_aald4 20 X dX11_json_20 e20 ?_
    refine ww_aload_n 21 X dX11_json_21 0 rfl rfl ?_
    obtain ⟨v22, e22, h⟩ := bO_some h
    refine ww_getR 22 X dX11_json_22 fG_X11_44 e22 ?_
    obtain ⟨_, f25, h⟩ := bO_some h
    obtain ⟨v25, M25, e25, h⟩ := bP_some h
    refine ww_callVI0 25 X dX11_json_25 mY_X7_read mL_X11_142 (rcv_spec f25) ⟨_, _, rfl⟩ (by decide) (As := [.ref v20, .ref v22]) (rest := []) rfl rfl ⟨Nat.le_of_ble_eq_true rfl, Nat.le_of_ble_eq_true rfl⟩ (Nat.le_of_ble_eq_true rfl) (fun l D A => c_X7_read l D A e25) ?_
    refine ww_istore_n 28 X dX11_json_28 (lv' := [(0, .ref l0), (1, .int l1), (2, .int v25)]) rfl (by decide) [1, 2, 0] rfl ?_
    refine ww_iload_n 29 X dX11_json_29 2 rfl rfl ?_
    refine ww_iconst 30 X (v := (-1 : Int32)) dX11_json_30 (by decide) ?_
    refine ww_icmp_eq 31 39 X dX11_json_31 (by decide) (fun q => ?_) (fun q => ?_)
    · replace h := (if_pos q).symm.trans h
      refine ww_aload_n 39 X dX11_json_39 0 rfl rfl ?_
      obtain ⟨v40, e40, h⟩ := bO_some h
      refine ww_getR 40 X dX11_json_40 fG_X11_44 e40 ?_
      refine ww_astore_n 43 X dX11_json_43 (lv' := [(0, .ref l0), (1, .int l1), (2, .int v25), (3, .ref v40)]) rfl (by decide) [1, 2, 3, 0] rfl ?_
      refine ww_aload_n 44 X dX11_json_44 0 rfl rfl ?_
      refine ww_aload_n 45 X dX11_json_45 0 rfl rfl ?_
      obtain ⟨v46, e46, h⟩ := bO_some h
      refine ww_getR 46 X dX11_json_46 fG_X11_40 e46 ?_
      obtain ⟨M49, e49, h⟩ := bO_some h
      refine ww_putR 49 X dX11_json_49 (fP_X11_44 _) e49 rfl rfl ?_
      refine ww_aload_n 52 X dX11_json_52 0 rfl rfl ?_
      refine ww_aload_n 53 X dX11_json_53 3 rfl rfl ?_
      obtain ⟨M54, e54, h⟩ := bO_some h
      refine ww_putR 54 X dX11_json_54 (fP_X11_40 _) e54 rfl rfl ?_
      refine ww_aload_n 57 X dX11_json_57 0 rfl rfl ?_
      obtain ⟨v58, e58, h⟩ := bO_some h
      refine ww_getR 58 X dX11_json_58 fG_X11_40 e58 ?_
      obtain ⟨v61, e61, h⟩ := bO_some h
      refine ww_getI 61 X dX11_json_61 fG_X11_146 e61 ?_
      exact ww_iretE 64 X hQ dX11_json_64 h
    · replace h := (if_neg q).symm.trans h
      refine ww_bipush 34 X (v := (-100 : Int32)) dX11_json_34 (by decide) ?_
      refine ww_iload_n 36 X dX11_json_36 2 rfl rfl ?_
      refine ww_isub 37 X dX11_json_37 ?_
      exact ww_iretE 38 X hQ dX11_json_38 h
  · replace h := (if_pos q).symm.trans h
    refine ww_bipush 8 X (v := (-2 : Int32)) dX11_json_8 (by decide) ?_
    exact ww_iretE 10 X hQ dX11_json_10 h
theorem c_X11_json {G : Nat → Nat} {F sz : Nat} {r0 : Int32} {M0 : mM} (l : Launch) (D : mD) (A : Nat → Prop) {l0 : Nat} {l1 : Int32} {M : mM} (h : P_X11_json G F l0 l1 M = some (r0, M0)) : mMetI l D G A yX11_json cX11_json 4 (some .int) 9 202 0 0 [.ref l0, .int l1] M sz r0 M0 sz := mMetI_of l D G A (by decide) (Nat.le_of_ble_eq_true rfl) (fun x X hQ => wP_X11_json X hQ h)
/-! SealedTokens.value(II)I -/
theorem dX11_value_0 : decode cX11_value 0 = .ok (.aload_n 0, 1) := by decide +kernel
theorem dX11_value_1 : decode cX11_value 1 = .ok (.getfield 40, 3) := by decide +kernel
theorem dX11_value_4 : decode cX11_value 4 = .ok (.iload_n 1, 1) := by decide +kernel
theorem dX11_value_5 : decode cX11_value 5 = .ok (.invokevirtual 149, 3) := by decide +kernel
theorem dX11_value_8 : decode cX11_value 8 = .ok (.ifCond .ne 6, 3) := by decide +kernel
theorem dX11_value_11 : decode cX11_value 11 = .ok (.bipush (-2), 2) := by decide +kernel
theorem dX11_value_13 : decode cX11_value 13 = .ok (.ireturn, 1) := by decide +kernel
theorem dX11_value_14 : decode cX11_value 14 = .ok (.iload_n 2, 1) := by decide +kernel
theorem dX11_value_15 : decode cX11_value 15 = .ok (.tableswitch 108 0 4 #[33, 43, 78, 88, 98], 33) := by decide +kernel
theorem dX11_value_48 : decode cX11_value 48 = .ok (.aload_n 0, 1) := by decide +kernel
theorem dX11_value_49 : decode cX11_value 49 = .ok (.getfield 40, 3) := by decide +kernel
theorem dX11_value_52 : decode cX11_value 52 = .ok (.getfield 152, 3) := by decide +kernel
theorem dX11_value_55 : decode cX11_value 55 = .ok (.iload_n 1, 1) := by decide +kernel
theorem dX11_value_56 : decode cX11_value 56 = .ok (.iaload, 1) := by decide +kernel
theorem dX11_value_57 : decode cX11_value 57 = .ok (.ireturn, 1) := by decide +kernel
theorem dX11_value_58 : decode cX11_value 58 = .ok (.aload_n 0, 1) := by decide +kernel
theorem dX11_value_59 : decode cX11_value 59 = .ok (.getfield 40, 3) := by decide +kernel
theorem dX11_value_62 : decode cX11_value 62 = .ok (.getfield 152, 3) := by decide +kernel
theorem dX11_value_65 : decode cX11_value 65 = .ok (.iload_n 1, 1) := by decide +kernel
theorem dX11_value_66 : decode cX11_value 66 = .ok (.iaload, 1) := by decide +kernel
theorem dX11_value_67 : decode cX11_value 67 = .ok (.iconst 5, 1) := by decide +kernel
theorem dX11_value_68 : decode cX11_value 68 = .ok (.if_icmp .lt 15, 3) := by decide +kernel
theorem dX11_value_71 : decode cX11_value 71 = .ok (.aload_n 0, 1) := by decide +kernel
theorem dX11_value_72 : decode cX11_value 72 = .ok (.getfield 40, 3) := by decide +kernel
theorem dX11_value_75 : decode cX11_value 75 = .ok (.getfield 155, 3) := by decide +kernel
theorem dX11_value_78 : decode cX11_value 78 = .ok (.iload_n 1, 1) := by decide +kernel
theorem dX11_value_79 : decode cX11_value 79 = .ok (.iaload, 1) := by decide +kernel
theorem dX11_value_80 : decode cX11_value 80 = .ok (.goto 12, 3) := by decide +kernel
theorem dX11_value_83 : decode cX11_value 83 = .ok (.aload_n 0, 1) := by decide +kernel
theorem dX11_value_84 : decode cX11_value 84 = .ok (.getfield 40, 3) := by decide +kernel
theorem dX11_value_87 : decode cX11_value 87 = .ok (.getfield 158, 3) := by decide +kernel
theorem dX11_value_90 : decode cX11_value 90 = .ok (.iload_n 1, 1) := by decide +kernel
theorem dX11_value_91 : decode cX11_value 91 = .ok (.iaload, 1) := by decide +kernel
theorem dX11_value_92 : decode cX11_value 92 = .ok (.ireturn, 1) := by decide +kernel
theorem dX11_value_93 : decode cX11_value 93 = .ok (.aload_n 0, 1) := by decide +kernel
theorem dX11_value_94 : decode cX11_value 94 = .ok (.getfield 40, 3) := by decide +kernel
theorem dX11_value_97 : decode cX11_value 97 = .ok (.getfield 161, 3) := by decide +kernel
theorem dX11_value_100 : decode cX11_value 100 = .ok (.iload_n 1, 1) := by decide +kernel
theorem dX11_value_101 : decode cX11_value 101 = .ok (.iaload, 1) := by decide +kernel
theorem dX11_value_102 : decode cX11_value 102 = .ok (.ireturn, 1) := by decide +kernel
theorem dX11_value_103 : decode cX11_value 103 = .ok (.aload_n 0, 1) := by decide +kernel
theorem dX11_value_104 : decode cX11_value 104 = .ok (.getfield 40, 3) := by decide +kernel
theorem dX11_value_107 : decode cX11_value 107 = .ok (.getfield 164, 3) := by decide +kernel
theorem dX11_value_110 : decode cX11_value 110 = .ok (.iload_n 1, 1) := by decide +kernel
theorem dX11_value_111 : decode cX11_value 111 = .ok (.iaload, 1) := by decide +kernel
theorem dX11_value_112 : decode cX11_value 112 = .ok (.ireturn, 1) := by decide +kernel
theorem dX11_value_113 : decode cX11_value 113 = .ok (.aload_n 0, 1) := by decide +kernel
theorem dX11_value_114 : decode cX11_value 114 = .ok (.getfield 40, 3) := by decide +kernel
theorem dX11_value_117 : decode cX11_value 117 = .ok (.getfield 167, 3) := by decide +kernel
theorem dX11_value_120 : decode cX11_value 120 = .ok (.iload_n 1, 1) := by decide +kernel
theorem dX11_value_121 : decode cX11_value 121 = .ok (.iaload, 1) := by decide +kernel
theorem dX11_value_122 : decode cX11_value 122 = .ok (.ireturn, 1) := by decide +kernel
theorem dX11_value_123 : decode cX11_value 123 = .ok (.bipush (-2), 2) := by decide +kernel
theorem dX11_value_125 : decode cX11_value 125 = .ok (.ireturn, 1) := by decide +kernel
abbrev rmX11_value : Room := { frames := 1, cells := 0, slots := 0, locals := 21 }
set_option maxHeartbeats 4000000 in
set_option maxRecDepth 100000 in
theorem wP_X11_value {G : Nat → Nat} {F : Nat} {x : mXT} {sz : Nat} {r0 : Int32} {M0 : mM} (X : mCX G RX11 cX11_value 3 (some .int) "value" rmX11_value x) (hQ : mQI x r0 M0 (sz, 0, 0)) {l0 : Nat} {l1 : Int32} {l2 : Int32} {M : mM} (h : P_X11_value G F l0 l1 l2 M = some (r0, M0)) : WW x (sz, 0, 0) M 0 [(0, .ref l0), (1, .int l1), (2, .int l2)] [] := by
  unfold P_X11_value at h
  refine ww_aload_n 0 X dX11_value_0 0 rfl rfl ?_
  obtain ⟨v1, e1, h⟩ := bO_some h
  refine ww_getR 1 X dX11_value_1 fG_X11_40 e1 ?_
  refine ww_iload_n 4 X dX11_value_4 1 rfl rfl ?_
  obtain ⟨_, f5, h⟩ := bO_some h
  obtain ⟨v5, M5, e5, h⟩ := bP_some h
  refine ww_callVI0 5 X dX11_value_5 mY_X9_has mL_X11_149 (rcv_spec f5) ⟨_, _, rfl⟩ (by decide) (As := [.int l1]) (rest := []) rfl rfl ⟨Nat.le_of_ble_eq_true rfl, Nat.le_of_ble_eq_true rfl⟩ (Nat.le_of_ble_eq_true rfl) (fun l D A => c_X9_has l D A e5) ?_
  refine ww_if_ne 8 14 X dX11_value_8 (by decide) (fun q => ?_) (fun q => ?_)
  · replace h := (if_neg q).symm.trans h
    refine ww_iload_n 14 X dX11_value_14 2 rfl rfl ?_
    by_cases q0 : l2 = (0 : Int32)
    · replace h := (if_pos q0).symm.trans h
      refine ww_tableIn 15 48 X dX11_value_15 (off := 33) (by rw [q0]; decide) (by rw [q0]; decide) (by rw [q0]; decide) (by decide) ?_
      refine ww_aload_n 48 X dX11_value_48 0 rfl rfl ?_
      obtain ⟨v49, e49, h⟩ := bO_some h
      refine ww_getR 49 X dX11_value_49 fG_X11_40 e49 ?_
      obtain ⟨v52, e52, h⟩ := bO_some h
      refine ww_getR 52 X dX11_value_52 fG_X11_152 e52 ?_
      refine ww_iload_n 55 X dX11_value_55 1 rfl rfl ?_
      obtain ⟨v56, e56, h⟩ := bO_some h
      refine ww_iald 56 X dX11_value_56 e56 ?_
      exact ww_iretE 57 X hQ dX11_value_57 h
    · replace h := (if_neg q0).symm.trans h
      by_cases q1 : l2 = (1 : Int32)
      · replace h := (if_pos q1).symm.trans h
        refine ww_tableIn 15 58 X dX11_value_15 (off := 43) (by rw [q1]; decide) (by rw [q1]; decide) (by rw [q1]; decide) (by decide) ?_
        refine ww_aload_n 58 X dX11_value_58 0 rfl rfl ?_
        obtain ⟨v59, e59, h⟩ := bO_some h
        refine ww_getR 59 X dX11_value_59 fG_X11_40 e59 ?_
        obtain ⟨v62, e62, h⟩ := bO_some h
        refine ww_getR 62 X dX11_value_62 fG_X11_152 e62 ?_
        refine ww_iload_n 65 X dX11_value_65 1 rfl rfl ?_
        obtain ⟨v66, e66, h⟩ := bO_some h
        refine ww_iald 66 X dX11_value_66 e66 ?_
        refine ww_iconst 67 X (v := (5 : Int32)) dX11_value_67 (by decide) ?_
        refine ww_icmp_lt 68 83 X dX11_value_68 (by decide) (fun q => ?_) (fun q => ?_)
        · replace h := (if_pos q).symm.trans h
          refine ww_aload_n 83 X dX11_value_83 0 rfl rfl ?_
          obtain ⟨v84, e84, h⟩ := bO_some h
          refine ww_getR 84 X dX11_value_84 fG_X11_40 e84 ?_
          obtain ⟨v87, e87, h⟩ := bO_some h
          refine ww_getR 87 X dX11_value_87 fG_X11_158 e87 ?_
          refine ww_iload_n 90 X dX11_value_90 1 rfl rfl ?_
          obtain ⟨v91, e91, h⟩ := bO_some h
          refine ww_iald 91 X dX11_value_91 e91 ?_
          exact ww_iretE 92 X hQ dX11_value_92 h
        · replace h := (if_neg q).symm.trans h
          refine ww_aload_n 71 X dX11_value_71 0 rfl rfl ?_
          obtain ⟨v72, e72, h⟩ := bO_some h
          refine ww_getR 72 X dX11_value_72 fG_X11_40 e72 ?_
          obtain ⟨v75, e75, h⟩ := bO_some h
          refine ww_getR 75 X dX11_value_75 fG_X11_155 e75 ?_
          refine ww_iload_n 78 X dX11_value_78 1 rfl rfl ?_
          obtain ⟨v79, e79, h⟩ := bO_some h
          refine ww_iald 79 X dX11_value_79 e79 ?_
          refine ww_goto 80 92 X dX11_value_80 (by decide) ?_
          exact ww_iretE 92 X hQ dX11_value_92 h
      · replace h := (if_neg q1).symm.trans h
        by_cases q2 : l2 = (2 : Int32)
        · replace h := (if_pos q2).symm.trans h
          refine ww_tableIn 15 93 X dX11_value_15 (off := 78) (by rw [q2]; decide) (by rw [q2]; decide) (by rw [q2]; decide) (by decide) ?_
          refine ww_aload_n 93 X dX11_value_93 0 rfl rfl ?_
          obtain ⟨v94, e94, h⟩ := bO_some h
          refine ww_getR 94 X dX11_value_94 fG_X11_40 e94 ?_
          obtain ⟨v97, e97, h⟩ := bO_some h
          refine ww_getR 97 X dX11_value_97 fG_X11_161 e97 ?_
          refine ww_iload_n 100 X dX11_value_100 1 rfl rfl ?_
          obtain ⟨v101, e101, h⟩ := bO_some h
          refine ww_iald 101 X dX11_value_101 e101 ?_
          exact ww_iretE 102 X hQ dX11_value_102 h
        · replace h := (if_neg q2).symm.trans h
          by_cases q3 : l2 = (3 : Int32)
          · replace h := (if_pos q3).symm.trans h
            refine ww_tableIn 15 103 X dX11_value_15 (off := 88) (by rw [q3]; decide) (by rw [q3]; decide) (by rw [q3]; decide) (by decide) ?_
            refine ww_aload_n 103 X dX11_value_103 0 rfl rfl ?_
            obtain ⟨v104, e104, h⟩ := bO_some h
            refine ww_getR 104 X dX11_value_104 fG_X11_40 e104 ?_
            obtain ⟨v107, e107, h⟩ := bO_some h
            refine ww_getR 107 X dX11_value_107 fG_X11_164 e107 ?_
            refine ww_iload_n 110 X dX11_value_110 1 rfl rfl ?_
            obtain ⟨v111, e111, h⟩ := bO_some h
            refine ww_iald 111 X dX11_value_111 e111 ?_
            exact ww_iretE 112 X hQ dX11_value_112 h
          · replace h := (if_neg q3).symm.trans h
            by_cases q4 : l2 = (4 : Int32)
            · replace h := (if_pos q4).symm.trans h
              refine ww_tableIn 15 113 X dX11_value_15 (off := 98) (by rw [q4]; decide) (by rw [q4]; decide) (by rw [q4]; decide) (by decide) ?_
              refine ww_aload_n 113 X dX11_value_113 0 rfl rfl ?_
              obtain ⟨v114, e114, h⟩ := bO_some h
              refine ww_getR 114 X dX11_value_114 fG_X11_40 e114 ?_
              obtain ⟨v117, e117, h⟩ := bO_some h
              refine ww_getR 117 X dX11_value_117 fG_X11_167 e117 ?_
              refine ww_iload_n 120 X dX11_value_120 1 rfl rfl ?_
              obtain ⟨v121, e121, h⟩ := bO_some h
              refine ww_iald 121 X dX11_value_121 e121 ?_
              exact ww_iretE 122 X hQ dX11_value_122 h
            · replace h := (if_neg q4).symm.trans h
              have z0 := lv_neT q0 (show (0 : Int32).toInt = 0 by decide)
              have z1 := lv_neT q1 (show (1 : Int32).toInt = 1 by decide)
              have z2 := lv_neT q2 (show (2 : Int32).toInt = 2 by decide)
              have z3 := lv_neT q3 (show (3 : Int32).toInt = 3 by decide)
              have z4 := lv_neT q4 (show (4 : Int32).toInt = 4 by decide)
              refine ww_tableOut 15 123 X dX11_value_15 (by omega) (by decide) ?_
              refine ww_bipush 123 X (v := (-2 : Int32)) dX11_value_123 (by decide) ?_
              exact ww_iretE 125 X hQ dX11_value_125 h
  · replace h := (if_pos q).symm.trans h
    refine ww_bipush 11 X (v := (-2 : Int32)) dX11_value_11 (by decide) ?_
    exact ww_iretE 13 X hQ dX11_value_13 h
theorem c_X11_value {G : Nat → Nat} {F sz : Nat} {r0 : Int32} {M0 : mM} (l : Launch) (D : mD) (A : Nat → Prop) {l0 : Nat} {l1 : Int32} {l2 : Int32} {M : mM} (h : P_X11_value G F l0 l1 l2 M = some (r0, M0)) : mMetI l D G A yX11_value cX11_value 3 (some .int) 1 21 0 0 [.ref l0, .int l1, .int l2] M sz r0 M0 sz := mMetI_of l D G A (by decide) (Nat.le_of_ble_eq_true rfl) (fun x X hQ => wP_X11_value X hQ h)
/-! SealedTokens.show(LSealedTokens$Bytes;II)I -/
theorem dX11_show_0 : decode cX11_show 0 = .ok (.aload_n 0, 1) := by decide +kernel
theorem dX11_show_1 : decode cX11_show 1 = .ok (.getfield 22, 3) := by decide +kernel
theorem dX11_show_4 : decode cX11_show 4 = .ok (.invokevirtual 131, 3) := by decide +kernel
theorem dX11_show_7 : decode cX11_show 7 = .ok (.aload_n 0, 1) := by decide +kernel
theorem dX11_show_8 : decode cX11_show 8 = .ok (.getfield 22, 3) := by decide +kernel
theorem dX11_show_11 : decode cX11_show 11 = .ok (.aload_n 1, 1) := by decide +kernel
theorem dX11_show_12 : decode cX11_show 12 = .ok (.iload_n 2, 1) := by decide +kernel
theorem dX11_show_13 : decode cX11_show 13 = .ok (.iload_n 3, 1) := by decide +kernel
theorem dX11_show_14 : decode cX11_show 14 = .ok (.invokevirtual 385, 3) := by decide +kernel
theorem dX11_show_17 : decode cX11_show 17 = .ok (.aload_n 0, 1) := by decide +kernel
theorem dX11_show_18 : decode cX11_show 18 = .ok (.getfield 22, 3) := by decide +kernel
theorem dX11_show_21 : decode cX11_show 21 = .ok (.getfield 113, 3) := by decide +kernel
theorem dX11_show_24 : decode cX11_show 24 = .ok (.ireturn, 1) := by decide +kernel
abbrev rmX11_show : Room := { frames := 2, cells := 0, slots := 0, locals := 84 }
set_option maxHeartbeats 4000000 in
set_option maxRecDepth 100000 in
theorem wP_X11_show {G : Nat → Nat} {F : Nat} {x : mXT} {sz : Nat} {r0 : Int32} {M0 : mM} (X : mCX G RX11 cX11_show 4 (some .int) "show" rmX11_show x) (hQ : mQI x r0 M0 (sz, 0, 0)) {l0 : Nat} {l1 : Nat} {l2 : Int32} {l3 : Int32} {M : mM} (h : P_X11_show G F l0 l1 l2 l3 M = some (r0, M0)) : WW x (sz, 0, 0) M 0 [(0, .ref l0), (1, .ref l1), (2, .int l2), (3, .int l3)] [] := by
  unfold P_X11_show at h
  refine ww_aload_n 0 X dX11_show_0 0 rfl rfl ?_
  obtain ⟨v1, e1, h⟩ := bO_some h
  refine ww_getR 1 X dX11_show_1 fG_X11_22 e1 ?_
  obtain ⟨_, f4, h⟩ := bO_some h
  obtain ⟨M4, e4, h⟩ := bO_some h
  refine ww_callVV0 4 X dX11_show_4 mY_X0_clear mL_X11_131 (rcv_spec f4) ⟨_, _, rfl⟩ (by decide) (As := []) (rest := []) rfl rfl ⟨Nat.le_of_ble_eq_true rfl, Nat.le_of_ble_eq_true rfl⟩ (Nat.le_of_ble_eq_true rfl) (fun l D A => c_X0_clear l D A e4) ?_
  refine ww_aload_n 7 X dX11_show_7 0 rfl rfl ?_
  obtain ⟨v8, e8, h⟩ := bO_some h
  refine ww_getR 8 X dX11_show_8 fG_X11_22 e8 ?_
  refine ww_aload_n 11 X dX11_show_11 1 rfl rfl ?_
  refine ww_iload_n 12 X dX11_show_12 2 rfl rfl ?_
  refine ww_iload_n 13 X dX11_show_13 3 rfl rfl ?_
  obtain ⟨_, f14, h⟩ := bO_some h
  obtain ⟨M14, e14, h⟩ := bO_some h
  refine ww_callVV0 14 X dX11_show_14 mY_X0_putPart mL_X11_385 (rcv_spec f14) ⟨_, _, rfl⟩ (by decide) (As := [.ref l1, .int l2, .int l3]) (rest := []) rfl rfl ⟨Nat.le_of_ble_eq_true rfl, Nat.le_of_ble_eq_true rfl⟩ (Nat.le_of_ble_eq_true rfl) (fun l D A => c_X0_putPart l D A e14) ?_
  refine ww_aload_n 17 X dX11_show_17 0 rfl rfl ?_
  obtain ⟨v18, e18, h⟩ := bO_some h
  refine ww_getR 18 X dX11_show_18 fG_X11_22 e18 ?_
  obtain ⟨v21, e21, h⟩ := bO_some h
  refine ww_getI 21 X dX11_show_21 fG_X11_113 e21 ?_
  exact ww_iretE 24 X hQ dX11_show_24 h
theorem c_X11_show {G : Nat → Nat} {F sz : Nat} {r0 : Int32} {M0 : mM} (l : Launch) (D : mD) (A : Nat → Prop) {l0 : Nat} {l1 : Nat} {l2 : Int32} {l3 : Int32} {M : mM} (h : P_X11_show G F l0 l1 l2 l3 M = some (r0, M0)) : mMetI l D G A yX11_show cX11_show 4 (some .int) 2 84 0 0 [.ref l0, .ref l1, .int l2, .int l3] M sz r0 M0 sz := mMetI_of l D G A (by decide) (Nat.le_of_ble_eq_true rfl) (fun x X hQ => wP_X11_show X hQ h)
/-! SealedTokens.text(I)I -/
theorem dX11_text_0 : decode cX11_text 0 = .ok (.aload_n 0, 1) := by decide +kernel
theorem dX11_text_1 : decode cX11_text 1 = .ok (.getfield 40, 3) := by decide +kernel
theorem dX11_text_4 : decode cX11_text 4 = .ok (.iload_n 1, 1) := by decide +kernel
theorem dX11_text_5 : decode cX11_text 5 = .ok (.invokevirtual 149, 3) := by decide +kernel
theorem dX11_text_8 : decode cX11_text 8 = .ok (.ifCond .eq 29, 3) := by decide +kernel
theorem dX11_text_11 : decode cX11_text 11 = .ok (.aload_n 0, 1) := by decide +kernel
theorem dX11_text_12 : decode cX11_text 12 = .ok (.getfield 40, 3) := by decide +kernel
theorem dX11_text_15 : decode cX11_text 15 = .ok (.getfield 152, 3) := by decide +kernel
theorem dX11_text_18 : decode cX11_text 18 = .ok (.iload_n 1, 1) := by decide +kernel
theorem dX11_text_19 : decode cX11_text 19 = .ok (.iaload, 1) := by decide +kernel
theorem dX11_text_20 : decode cX11_text 20 = .ok (.iconst 4, 1) := by decide +kernel
theorem dX11_text_21 : decode cX11_text 21 = .ok (.if_icmp .eq 19, 3) := by decide +kernel
theorem dX11_text_24 : decode cX11_text 24 = .ok (.aload_n 0, 1) := by decide +kernel
theorem dX11_text_25 : decode cX11_text 25 = .ok (.getfield 40, 3) := by decide +kernel
theorem dX11_text_28 : decode cX11_text 28 = .ok (.getfield 152, 3) := by decide +kernel
theorem dX11_text_31 : decode cX11_text 31 = .ok (.iload_n 1, 1) := by decide +kernel
theorem dX11_text_32 : decode cX11_text 32 = .ok (.iaload, 1) := by decide +kernel
theorem dX11_text_33 : decode cX11_text 33 = .ok (.iconst 3, 1) := by decide +kernel
theorem dX11_text_34 : decode cX11_text 34 = .ok (.if_icmp .eq 6, 3) := by decide +kernel
theorem dX11_text_37 : decode cX11_text 37 = .ok (.bipush (-2), 2) := by decide +kernel
theorem dX11_text_39 : decode cX11_text 39 = .ok (.ireturn, 1) := by decide +kernel
theorem dX11_text_40 : decode cX11_text 40 = .ok (.aload_n 0, 1) := by decide +kernel
theorem dX11_text_41 : decode cX11_text 41 = .ok (.aload_n 0, 1) := by decide +kernel
theorem dX11_text_42 : decode cX11_text 42 = .ok (.getfield 40, 3) := by decide +kernel
theorem dX11_text_45 : decode cX11_text 45 = .ok (.getfield 170, 3) := by decide +kernel
theorem dX11_text_48 : decode cX11_text 48 = .ok (.aload_n 0, 1) := by decide +kernel
theorem dX11_text_49 : decode cX11_text 49 = .ok (.getfield 40, 3) := by decide +kernel
theorem dX11_text_52 : decode cX11_text 52 = .ok (.getfield 173, 3) := by decide +kernel
theorem dX11_text_55 : decode cX11_text 55 = .ok (.iload_n 1, 1) := by decide +kernel
theorem dX11_text_56 : decode cX11_text 56 = .ok (.iaload, 1) := by decide +kernel
theorem dX11_text_57 : decode cX11_text 57 = .ok (.aload_n 0, 1) := by decide +kernel
theorem dX11_text_58 : decode cX11_text 58 = .ok (.getfield 40, 3) := by decide +kernel
theorem dX11_text_61 : decode cX11_text 61 = .ok (.getfield 158, 3) := by decide +kernel
theorem dX11_text_64 : decode cX11_text 64 = .ok (.iload_n 1, 1) := by decide +kernel
theorem dX11_text_65 : decode cX11_text 65 = .ok (.iaload, 1) := by decide +kernel
theorem dX11_text_66 : decode cX11_text 66 = .ok (.invokevirtual 176, 3) := by decide +kernel
theorem dX11_text_69 : decode cX11_text 69 = .ok (.ireturn, 1) := by decide +kernel
abbrev rmX11_text : Room := { frames := 3, cells := 0, slots := 0, locals := 107 }
set_option maxHeartbeats 4000000 in
set_option maxRecDepth 100000 in
theorem wB_X11_text_40 {G : Nat → Nat} {F : Nat} {x : mXT} {sz : Nat} {r0 : Int32} {M0 : mM} (X : mCX G RX11 cX11_text 2 (some .int) "text" rmX11_text x) (hQ : mQI x r0 M0 (sz, 0, 0)) {l0 : Nat} {l1 : Int32} {M : mM} (h : B_X11_text_40 G F l0 l1 M = some (r0, M0)) : WW x (sz, 0, 0) M 40 [(0, .ref l0), (1, .int l1)] [] := by
  unfold B_X11_text_40 at h
  refine ww_aload_n 40 X dX11_text_40 0 rfl rfl ?_
  refine ww_aload_n 41 X dX11_text_41 0 rfl rfl ?_
  obtain ⟨v42, e42, h⟩ := bO_some h
  refine ww_getR 42 X dX11_text_42 fG_X11_40 e42 ?_
  obtain ⟨v45, e45, h⟩ := bO_some h
  refine ww_getR 45 X dX11_text_45 fG_X11_170 e45 ?_
  refine ww_aload_n 48 X dX11_text_48 0 rfl rfl ?_
  obtain ⟨v49, e49, h⟩ := bO_some h
  refine ww_getR 49 X dX11_text_49 fG_X11_40 e49 ?_
  obtain ⟨v52, e52, h⟩ := bO_some h
  refine ww_getR 52 X dX11_text_52 fG_X11_173 e52 ?_
  refine ww_iload_n 55 X dX11_text_55 1 rfl rfl ?_
  obtain ⟨v56, e56, h⟩ := bO_some h
  refine ww_iald 56 X dX11_text_56 e56 ?_
  refine ww_aload_n 57 X dX11_text_57 0 rfl rfl ?_
  obtain ⟨v58, e58, h⟩ := bO_some h
  refine ww_getR 58 X dX11_text_58 fG_X11_40 e58 ?_
  obtain ⟨v61, e61, h⟩ := bO_some h
  refine ww_getR 61 X dX11_text_61 fG_X11_158 e61 ?_
  refine ww_iload_n 64 X dX11_text_64 1 rfl rfl ?_
  obtain ⟨v65, e65, h⟩ := bO_some h
  refine ww_iald 65 X dX11_text_65 e65 ?_
  obtain ⟨_, f66, h⟩ := bO_some h
  obtain ⟨v66, M66, e66, h⟩ := bP_some h
  refine ww_callVI0 66 X dX11_text_66 mY_X11_show mL_X11_176 (rcv_spec f66) ⟨_, _, rfl⟩ (by decide) (As := [.ref v45, .int v56, .int v65]) (rest := []) rfl rfl ⟨Nat.le_of_ble_eq_true rfl, Nat.le_of_ble_eq_true rfl⟩ (Nat.le_of_ble_eq_true rfl) (fun l D A => c_X11_show l D A e66) ?_
  exact ww_iretE 69 X hQ dX11_text_69 h
set_option maxHeartbeats 4000000 in
set_option maxRecDepth 100000 in
theorem wP_X11_text {G : Nat → Nat} {F : Nat} {x : mXT} {sz : Nat} {r0 : Int32} {M0 : mM} (X : mCX G RX11 cX11_text 2 (some .int) "text" rmX11_text x) (hQ : mQI x r0 M0 (sz, 0, 0)) {l0 : Nat} {l1 : Int32} {M : mM} (h : P_X11_text G F l0 l1 M = some (r0, M0)) : WW x (sz, 0, 0) M 0 [(0, .ref l0), (1, .int l1)] [] := by
  unfold P_X11_text at h
  refine ww_aload_n 0 X dX11_text_0 0 rfl rfl ?_
  obtain ⟨v1, e1, h⟩ := bO_some h
  refine ww_getR 1 X dX11_text_1 fG_X11_40 e1 ?_
  refine ww_iload_n 4 X dX11_text_4 1 rfl rfl ?_
  obtain ⟨_, f5, h⟩ := bO_some h
  obtain ⟨v5, M5, e5, h⟩ := bP_some h
  refine ww_callVI0 5 X dX11_text_5 mY_X9_has mL_X11_149 (rcv_spec f5) ⟨_, _, rfl⟩ (by decide) (As := [.int l1]) (rest := []) rfl rfl ⟨Nat.le_of_ble_eq_true rfl, Nat.le_of_ble_eq_true rfl⟩ (Nat.le_of_ble_eq_true rfl) (fun l D A => c_X9_has l D A e5) ?_
  refine ww_if_eq 8 37 X dX11_text_8 (by decide) (fun q => ?_) (fun q => ?_)
  · replace h := (if_pos q).symm.trans h
    refine ww_bipush 37 X (v := (-2 : Int32)) dX11_text_37 (by decide) ?_
    exact ww_iretE 39 X hQ dX11_text_39 h
  · replace h := (if_neg q).symm.trans h
    refine ww_aload_n 11 X dX11_text_11 0 rfl rfl ?_
    obtain ⟨v12, e12, h⟩ := bO_some h
    refine ww_getR 12 X dX11_text_12 fG_X11_40 e12 ?_
    obtain ⟨v15, e15, h⟩ := bO_some h
    refine ww_getR 15 X dX11_text_15 fG_X11_152 e15 ?_
    refine ww_iload_n 18 X dX11_text_18 1 rfl rfl ?_
    obtain ⟨v19, e19, h⟩ := bO_some h
    refine ww_iald 19 X dX11_text_19 e19 ?_
    refine ww_iconst 20 X (v := (4 : Int32)) dX11_text_20 (by decide) ?_
    refine ww_icmp_eq 21 40 X dX11_text_21 (by decide) (fun q => ?_) (fun q => ?_)
    · replace h := (if_pos q).symm.trans h
      exact (wB_X11_text_40 X hQ h)
    · replace h := (if_neg q).symm.trans h
      refine ww_aload_n 24 X dX11_text_24 0 rfl rfl ?_
      obtain ⟨v25, e25, h⟩ := bO_some h
      refine ww_getR 25 X dX11_text_25 fG_X11_40 e25 ?_
      obtain ⟨v28, e28, h⟩ := bO_some h
      refine ww_getR 28 X dX11_text_28 fG_X11_152 e28 ?_
      refine ww_iload_n 31 X dX11_text_31 1 rfl rfl ?_
      obtain ⟨v32, e32, h⟩ := bO_some h
      refine ww_iald 32 X dX11_text_32 e32 ?_
      refine ww_iconst 33 X (v := (3 : Int32)) dX11_text_33 (by decide) ?_
      refine ww_icmp_eq 34 40 X dX11_text_34 (by decide) (fun q => ?_) (fun q => ?_)
      · replace h := (if_pos q).symm.trans h
        exact (wB_X11_text_40 X hQ h)
      · replace h := (if_neg q).symm.trans h
        refine ww_bipush 37 X (v := (-2 : Int32)) dX11_text_37 (by decide) ?_
        exact ww_iretE 39 X hQ dX11_text_39 h
theorem c_X11_text {G : Nat → Nat} {F sz : Nat} {r0 : Int32} {M0 : mM} (l : Launch) (D : mD) (A : Nat → Prop) {l0 : Nat} {l1 : Int32} {M : mM} (h : P_X11_text G F l0 l1 M = some (r0, M0)) : mMetI l D G A yX11_text cX11_text 2 (some .int) 3 107 0 0 [.ref l0, .int l1] M sz r0 M0 sz := mMetI_of l D G A (by decide) (Nat.le_of_ble_eq_true rfl) (fun x X hQ => wP_X11_text X hQ h)
/-! SealedTokens.name(I)I -/
theorem dX11_name_0 : decode cX11_name 0 = .ok (.aload_n 0, 1) := by decide +kernel
theorem dX11_name_1 : decode cX11_name 1 = .ok (.getfield 40, 3) := by decide +kernel
theorem dX11_name_4 : decode cX11_name 4 = .ok (.iload_n 1, 1) := by decide +kernel
theorem dX11_name_5 : decode cX11_name 5 = .ok (.invokevirtual 149, 3) := by decide +kernel
theorem dX11_name_8 : decode cX11_name 8 = .ok (.ifCond .eq 24, 3) := by decide +kernel
theorem dX11_name_11 : decode cX11_name 11 = .ok (.aload_n 0, 1) := by decide +kernel
theorem dX11_name_12 : decode cX11_name 12 = .ok (.getfield 40, 3) := by decide +kernel
theorem dX11_name_15 : decode cX11_name 15 = .ok (.aload_n 0, 1) := by decide +kernel
theorem dX11_name_16 : decode cX11_name 16 = .ok (.getfield 40, 3) := by decide +kernel
theorem dX11_name_19 : decode cX11_name 19 = .ok (.getfield 161, 3) := by decide +kernel
theorem dX11_name_22 : decode cX11_name 22 = .ok (.iload_n 1, 1) := by decide +kernel
theorem dX11_name_23 : decode cX11_name 23 = .ok (.iaload, 1) := by decide +kernel
theorem dX11_name_24 : decode cX11_name 24 = .ok (.bipush 6, 2) := by decide +kernel
theorem dX11_name_26 : decode cX11_name 26 = .ok (.invokevirtual 180, 3) := by decide +kernel
theorem dX11_name_29 : decode cX11_name 29 = .ok (.ifCond .ne 6, 3) := by decide +kernel
theorem dX11_name_32 : decode cX11_name 32 = .ok (.bipush (-2), 2) := by decide +kernel
theorem dX11_name_34 : decode cX11_name 34 = .ok (.ireturn, 1) := by decide +kernel
theorem dX11_name_35 : decode cX11_name 35 = .ok (.aload_n 0, 1) := by decide +kernel
theorem dX11_name_36 : decode cX11_name 36 = .ok (.aload_n 0, 1) := by decide +kernel
theorem dX11_name_37 : decode cX11_name 37 = .ok (.getfield 40, 3) := by decide +kernel
theorem dX11_name_40 : decode cX11_name 40 = .ok (.getfield 170, 3) := by decide +kernel
theorem dX11_name_43 : decode cX11_name 43 = .ok (.aload_n 0, 1) := by decide +kernel
theorem dX11_name_44 : decode cX11_name 44 = .ok (.getfield 40, 3) := by decide +kernel
theorem dX11_name_47 : decode cX11_name 47 = .ok (.getfield 184, 3) := by decide +kernel
theorem dX11_name_50 : decode cX11_name 50 = .ok (.iload_n 1, 1) := by decide +kernel
theorem dX11_name_51 : decode cX11_name 51 = .ok (.iaload, 1) := by decide +kernel
theorem dX11_name_52 : decode cX11_name 52 = .ok (.aload_n 0, 1) := by decide +kernel
theorem dX11_name_53 : decode cX11_name 53 = .ok (.getfield 40, 3) := by decide +kernel
theorem dX11_name_56 : decode cX11_name 56 = .ok (.getfield 187, 3) := by decide +kernel
theorem dX11_name_59 : decode cX11_name 59 = .ok (.iload_n 1, 1) := by decide +kernel
theorem dX11_name_60 : decode cX11_name 60 = .ok (.iaload, 1) := by decide +kernel
theorem dX11_name_61 : decode cX11_name 61 = .ok (.invokevirtual 176, 3) := by decide +kernel
theorem dX11_name_64 : decode cX11_name 64 = .ok (.ireturn, 1) := by decide +kernel
abbrev rmX11_name : Room := { frames := 3, cells := 0, slots := 0, locals := 107 }
set_option maxHeartbeats 4000000 in
set_option maxRecDepth 100000 in
theorem wP_X11_name {G : Nat → Nat} {F : Nat} {x : mXT} {sz : Nat} {r0 : Int32} {M0 : mM} (X : mCX G RX11 cX11_name 2 (some .int) "name" rmX11_name x) (hQ : mQI x r0 M0 (sz, 0, 0)) {l0 : Nat} {l1 : Int32} {M : mM} (h : P_X11_name G F l0 l1 M = some (r0, M0)) : WW x (sz, 0, 0) M 0 [(0, .ref l0), (1, .int l1)] [] := by
  unfold P_X11_name at h
  refine ww_aload_n 0 X dX11_name_0 0 rfl rfl ?_
  obtain ⟨v1, e1, h⟩ := bO_some h
  refine ww_getR 1 X dX11_name_1 fG_X11_40 e1 ?_
  refine ww_iload_n 4 X dX11_name_4 1 rfl rfl ?_
  obtain ⟨_, f5, h⟩ := bO_some h
  obtain ⟨v5, M5, e5, h⟩ := bP_some h
  refine ww_callVI0 5 X dX11_name_5 mY_X9_has mL_X11_149 (rcv_spec f5) ⟨_, _, rfl⟩ (by decide) (As := [.int l1]) (rest := []) rfl rfl ⟨Nat.le_of_ble_eq_true rfl, Nat.le_of_ble_eq_true rfl⟩ (Nat.le_of_ble_eq_true rfl) (fun l D A => c_X9_has l D A e5) ?_
  refine ww_if_eq 8 32 X dX11_name_8 (by decide) (fun q => ?_) (fun q => ?_)
  · replace h := (if_pos q).symm.trans h
    refine ww_bipush 32 X (v := (-2 : Int32)) dX11_name_32 (by decide) ?_
    exact ww_iretE 34 X hQ dX11_name_34 h
  · replace h := (if_neg q).symm.trans h
    refine ww_aload_n 11 X dX11_name_11 0 rfl rfl ?_
    obtain ⟨v12, e12, h⟩ := bO_some h
    refine ww_getR 12 X dX11_name_12 fG_X11_40 e12 ?_
    refine ww_aload_n 15 X dX11_name_15 0 rfl rfl ?_
    obtain ⟨v16, e16, h⟩ := bO_some h
    refine ww_getR 16 X dX11_name_16 fG_X11_40 e16 ?_
    obtain ⟨v19, e19, h⟩ := bO_some h
    refine ww_getR 19 X dX11_name_19 fG_X11_161 e19 ?_
    refine ww_iload_n 22 X dX11_name_22 1 rfl rfl ?_
    obtain ⟨v23, e23, h⟩ := bO_some h
    refine ww_iald 23 X dX11_name_23 e23 ?_
    refine ww_bipush 24 X (v := (6 : Int32)) dX11_name_24 (by decide) ?_
    obtain ⟨_, f26, h⟩ := bO_some h
    obtain ⟨v26, M26, e26, h⟩ := bP_some h
    refine ww_callVI0 26 X dX11_name_26 mY_X9_isKind mL_X11_180 (rcv_spec f26) ⟨_, _, rfl⟩ (by decide) (As := [.int v23, .int (6 : Int32)]) (rest := []) rfl rfl ⟨Nat.le_of_ble_eq_true rfl, Nat.le_of_ble_eq_true rfl⟩ (Nat.le_of_ble_eq_true rfl) (fun l D A => c_X9_isKind l D A e26) ?_
    refine ww_if_ne 29 35 X dX11_name_29 (by decide) (fun q => ?_) (fun q => ?_)
    · replace h := (if_neg q).symm.trans h
      refine ww_aload_n 35 X dX11_name_35 0 rfl rfl ?_
      refine ww_aload_n 36 X dX11_name_36 0 rfl rfl ?_
      obtain ⟨v37, e37, h⟩ := bO_some h
      refine ww_getR 37 X dX11_name_37 fG_X11_40 e37 ?_
      obtain ⟨v40, e40, h⟩ := bO_some h
      refine ww_getR 40 X dX11_name_40 fG_X11_170 e40 ?_
      refine ww_aload_n 43 X dX11_name_43 0 rfl rfl ?_
      obtain ⟨v44, e44, h⟩ := bO_some h
      refine ww_getR 44 X dX11_name_44 fG_X11_40 e44 ?_
      obtain ⟨v47, e47, h⟩ := bO_some h
      refine ww_getR 47 X dX11_name_47 fG_X11_184 e47 ?_
      refine ww_iload_n 50 X dX11_name_50 1 rfl rfl ?_
      obtain ⟨v51, e51, h⟩ := bO_some h
      refine ww_iald 51 X dX11_name_51 e51 ?_
      refine ww_aload_n 52 X dX11_name_52 0 rfl rfl ?_
      obtain ⟨v53, e53, h⟩ := bO_some h
      refine ww_getR 53 X dX11_name_53 fG_X11_40 e53 ?_
      obtain ⟨v56, e56, h⟩ := bO_some h
      refine ww_getR 56 X dX11_name_56 fG_X11_187 e56 ?_
      refine ww_iload_n 59 X dX11_name_59 1 rfl rfl ?_
      obtain ⟨v60, e60, h⟩ := bO_some h
      refine ww_iald 60 X dX11_name_60 e60 ?_
      obtain ⟨_, f61, h⟩ := bO_some h
      obtain ⟨v61, M61, e61, h⟩ := bP_some h
      refine ww_callVI0 61 X dX11_name_61 mY_X11_show mL_X11_176 (rcv_spec f61) ⟨_, _, rfl⟩ (by decide) (As := [.ref v40, .int v51, .int v60]) (rest := []) rfl rfl ⟨Nat.le_of_ble_eq_true rfl, Nat.le_of_ble_eq_true rfl⟩ (Nat.le_of_ble_eq_true rfl) (fun l D A => c_X11_show l D A e61) ?_
      exact ww_iretE 64 X hQ dX11_name_64 h
    · replace h := (if_pos q).symm.trans h
      refine ww_bipush 32 X (v := (-2 : Int32)) dX11_name_32 (by decide) ?_
      exact ww_iretE 34 X hQ dX11_name_34 h
theorem c_X11_name {G : Nat → Nat} {F sz : Nat} {r0 : Int32} {M0 : mM} (l : Launch) (D : mD) (A : Nat → Prop) {l0 : Nat} {l1 : Int32} {M : mM} (h : P_X11_name G F l0 l1 M = some (r0, M0)) : mMetI l D G A yX11_name cX11_name 2 (some .int) 3 107 0 0 [.ref l0, .int l1] M sz r0 M0 sz := mMetI_of l D G A (by decide) (Nat.le_of_ble_eq_true rfl) (fun x X hQ => wP_X11_name X hQ h)
/-! SealedTokens.member(II)I -/
theorem dX11_member_0 : decode cX11_member 0 = .ok (.aload_n 0, 1) := by decide +kernel
theorem dX11_member_1 : decode cX11_member 1 = .ok (.getfield 40, 3) := by decide +kernel
theorem dX11_member_4 : decode cX11_member 4 = .ok (.iload_n 1, 1) := by decide +kernel
theorem dX11_member_5 : decode cX11_member 5 = .ok (.bipush 6, 2) := by decide +kernel
theorem dX11_member_7 : decode cX11_member 7 = .ok (.invokevirtual 180, 3) := by decide +kernel
theorem dX11_member_10 : decode cX11_member 10 = .ok (.ifCond .eq 11, 3) := by decide +kernel
theorem dX11_member_13 : decode cX11_member 13 = .ok (.aload_n 0, 1) := by decide +kernel
theorem dX11_member_14 : decode cX11_member 14 = .ok (.iload_n 2, 1) := by decide +kernel
theorem dX11_member_15 : decode cX11_member 15 = .ok (.invokevirtual 123, 3) := by decide +kernel
theorem dX11_member_18 : decode cX11_member 18 = .ok (.ifCond .ne 6, 3) := by decide +kernel
theorem dX11_member_21 : decode cX11_member 21 = .ok (.bipush (-2), 2) := by decide +kernel
theorem dX11_member_23 : decode cX11_member 23 = .ok (.ireturn, 1) := by decide +kernel
theorem dX11_member_24 : decode cX11_member 24 = .ok (.aload_n 0, 1) := by decide +kernel
theorem dX11_member_25 : decode cX11_member 25 = .ok (.getfield 40, 3) := by decide +kernel
theorem dX11_member_28 : decode cX11_member 28 = .ok (.iload_n 1, 1) := by decide +kernel
theorem dX11_member_29 : decode cX11_member 29 = .ok (.aload_n 0, 1) := by decide +kernel
theorem dX11_member_30 : decode cX11_member 30 = .ok (.getfield 11, 3) := by decide +kernel
theorem dX11_member_33 : decode cX11_member 33 = .ok (.iload_n 2, 1) := by decide +kernel
theorem dX11_member_34 : decode cX11_member 34 = .ok (.aaload, 1) := by decide +kernel
theorem dX11_member_35 : decode cX11_member 35 = .ok (.iconst 0, 1) := by decide +kernel
theorem dX11_member_36 : decode cX11_member 36 = .ok (.aload_n 0, 1) := by decide +kernel
theorem dX11_member_37 : decode cX11_member 37 = .ok (.getfield 11, 3) := by decide +kernel
theorem dX11_member_40 : decode cX11_member 40 = .ok (.iload_n 2, 1) := by decide +kernel
theorem dX11_member_41 : decode cX11_member 41 = .ok (.aaload, 1) := by decide +kernel
theorem dX11_member_42 : decode cX11_member 42 = .ok (.getfield 113, 3) := by decide +kernel
theorem dX11_member_45 : decode cX11_member 45 = .ok (.invokevirtual 190, 3) := by decide +kernel
theorem dX11_member_48 : decode cX11_member 48 = .ok (.ireturn, 1) := by decide +kernel
abbrev rmX11_member : Room := { frames := 4, cells := 0, slots := 0, locals := 98 }
set_option maxHeartbeats 4000000 in
set_option maxRecDepth 100000 in
theorem wP_X11_member {G : Nat → Nat} {F : Nat} {x : mXT} {sz : Nat} {r0 : Int32} {M0 : mM} (X : mCX G RX11 cX11_member 3 (some .int) "member" rmX11_member x) (hQ : mQI x r0 M0 (sz, 0, 0)) {l0 : Nat} {l1 : Int32} {l2 : Int32} {M : mM} (h : P_X11_member G F l0 l1 l2 M = some (r0, M0)) : WW x (sz, 0, 0) M 0 [(0, .ref l0), (1, .int l1), (2, .int l2)] [] := by
  unfold P_X11_member at h
  refine ww_aload_n 0 X dX11_member_0 0 rfl rfl ?_
  obtain ⟨v1, e1, h⟩ := bO_some h
  refine ww_getR 1 X dX11_member_1 fG_X11_40 e1 ?_
  refine ww_iload_n 4 X dX11_member_4 1 rfl rfl ?_
  refine ww_bipush 5 X (v := (6 : Int32)) dX11_member_5 (by decide) ?_
  obtain ⟨_, f7, h⟩ := bO_some h
  obtain ⟨v7, M7, e7, h⟩ := bP_some h
  refine ww_callVI0 7 X dX11_member_7 mY_X9_isKind mL_X11_180 (rcv_spec f7) ⟨_, _, rfl⟩ (by decide) (As := [.int l1, .int (6 : Int32)]) (rest := []) rfl rfl ⟨Nat.le_of_ble_eq_true rfl, Nat.le_of_ble_eq_true rfl⟩ (Nat.le_of_ble_eq_true rfl) (fun l D A => c_X9_isKind l D A e7) ?_
  refine ww_if_eq 10 21 X dX11_member_10 (by decide) (fun q => ?_) (fun q => ?_)
  · replace h := (if_pos q).symm.trans h
    refine ww_bipush 21 X (v := (-2 : Int32)) dX11_member_21 (by decide) ?_
    exact ww_iretE 23 X hQ dX11_member_23 h
  · replace h := (if_neg q).symm.trans h
    refine ww_aload_n 13 X dX11_member_13 0 rfl rfl ?_
    refine ww_iload_n 14 X dX11_member_14 2 rfl rfl ?_
    obtain ⟨_, f15, h⟩ := bO_some h
    obtain ⟨v15, M15, e15, h⟩ := bP_some h
    refine ww_callVI0 15 X dX11_member_15 mY_X11_isRow mL_X11_123 (rcv_spec f15) ⟨_, _, rfl⟩ (by decide) (As := [.int l2]) (rest := []) rfl rfl ⟨Nat.le_of_ble_eq_true rfl, Nat.le_of_ble_eq_true rfl⟩ (Nat.le_of_ble_eq_true rfl) (fun l D A => c_X11_isRow l D A e15) ?_
    refine ww_if_ne 18 24 X dX11_member_18 (by decide) (fun q => ?_) (fun q => ?_)
    · replace h := (if_neg q).symm.trans h
      refine ww_aload_n 24 X dX11_member_24 0 rfl rfl ?_
      obtain ⟨v25, e25, h⟩ := bO_some h
      refine ww_getR 25 X dX11_member_25 fG_X11_40 e25 ?_
      refine ww_iload_n 28 X dX11_member_28 1 rfl rfl ?_
      refine ww_aload_n 29 X dX11_member_29 0 rfl rfl ?_
      obtain ⟨v30, e30, h⟩ := bO_some h
      refine ww_getR 30 X dX11_member_30 fG_X11_11 e30 ?_
      refine ww_iload_n 33 X dX11_member_33 2 rfl rfl ?_
      obtain ⟨v34, e34, h⟩ := bO_some h
      refine ww_aald4 34 X dX11_member_34 e34 ?_
      refine ww_iconst 35 X (v := (0 : Int32)) dX11_member_35 (by decide) ?_
      refine ww_aload_n 36 X dX11_member_36 0 rfl rfl ?_
      obtain ⟨v37, e37, h⟩ := bO_some h
      refine ww_getR 37 X dX11_member_37 fG_X11_11 e37 ?_
      refine ww_iload_n 40 X dX11_member_40 2 rfl rfl ?_
      obtain ⟨v41, e41, h⟩ := bO_some h
      refine ww_aald4 41 X dX11_member_41 e41 ?_
      obtain ⟨v42, e42, h⟩ := bO_some h
      refine ww_getI 42 X dX11_member_42 fG_X11_113 e42 ?_
      obtain ⟨_, f45, h⟩ := bO_some h
      obtain ⟨v45, M45, e45, h⟩ := bP_some h
      refine ww_callVI0 45 X dX11_member_45 mY_X9_named mL_X11_190 (rcv_spec f45) ⟨_, _, rfl⟩ (by decide) (As := [.int l1, .ref v34, .int (0 : Int32), .int v42]) (rest := []) rfl rfl ⟨Nat.le_of_ble_eq_true rfl, Nat.le_of_ble_eq_true rfl⟩ (Nat.le_of_ble_eq_true rfl) (fun l D A => c_X9_named l D A e45) ?_
      exact ww_iretE 48 X hQ dX11_member_48 h
    · replace h := (if_pos q).symm.trans h
      refine ww_bipush 21 X (v := (-2 : Int32)) dX11_member_21 (by decide) ?_
      exact ww_iretE 23 X hQ dX11_member_23 h
theorem c_X11_member {G : Nat → Nat} {F sz : Nat} {r0 : Int32} {M0 : mM} (l : Launch) (D : mD) (A : Nat → Prop) {l0 : Nat} {l1 : Int32} {l2 : Int32} {M : mM} (h : P_X11_member G F l0 l1 l2 M = some (r0, M0)) : mMetI l D G A yX11_member cX11_member 3 (some .int) 4 98 0 0 [.ref l0, .int l1, .int l2] M sz r0 M0 sz := mMetI_of l D G A (by decide) (Nat.le_of_ble_eq_true rfl) (fun x X hQ => wP_X11_member X hQ h)
/-! SealedTokens.write(I)I -/
theorem dX11_write_0 : decode cX11_write 0 = .ok (.aload_n 0, 1) := by decide +kernel
theorem dX11_write_1 : decode cX11_write 1 = .ok (.getfield 40, 3) := by decide +kernel
theorem dX11_write_4 : decode cX11_write 4 = .ok (.iload_n 1, 1) := by decide +kernel
theorem dX11_write_5 : decode cX11_write 5 = .ok (.invokevirtual 149, 3) := by decide +kernel
theorem dX11_write_8 : decode cX11_write 8 = .ok (.ifCond .ne 6, 3) := by decide +kernel
theorem dX11_write_11 : decode cX11_write 11 = .ok (.bipush (-2), 2) := by decide +kernel
theorem dX11_write_13 : decode cX11_write 13 = .ok (.ireturn, 1) := by decide +kernel
theorem dX11_write_14 : decode cX11_write 14 = .ok (.aload_n 0, 1) := by decide +kernel
theorem dX11_write_15 : decode cX11_write 15 = .ok (.getfield 34, 3) := by decide +kernel
theorem dX11_write_18 : decode cX11_write 18 = .ok (.invokevirtual 131, 3) := by decide +kernel
theorem dX11_write_21 : decode cX11_write 21 = .ok (.aload_n 0, 1) := by decide +kernel
theorem dX11_write_22 : decode cX11_write 22 = .ok (.getfield 40, 3) := by decide +kernel
theorem dX11_write_25 : decode cX11_write 25 = .ok (.iload_n 1, 1) := by decide +kernel
theorem dX11_write_26 : decode cX11_write 26 = .ok (.aload_n 0, 1) := by decide +kernel
theorem dX11_write_27 : decode cX11_write 27 = .ok (.getfield 34, 3) := by decide +kernel
theorem dX11_write_30 : decode cX11_write 30 = .ok (.invokevirtual 194, 3) := by decide +kernel
theorem dX11_write_33 : decode cX11_write 33 = .ok (.aload_n 0, 1) := by decide +kernel
theorem dX11_write_34 : decode cX11_write 34 = .ok (.getfield 34, 3) := by decide +kernel
theorem dX11_write_37 : decode cX11_write 37 = .ok (.getfield 198, 3) := by decide +kernel
theorem dX11_write_40 : decode cX11_write 40 = .ok (.ifCond .eq 8, 3) := by decide +kernel
theorem dX11_write_43 : decode cX11_write 43 = .ok (.bipush (-3), 2) := by decide +kernel
theorem dX11_write_45 : decode cX11_write 45 = .ok (.goto 19, 3) := by decide +kernel
theorem dX11_write_48 : decode cX11_write 48 = .ok (.aload_n 0, 1) := by decide +kernel
theorem dX11_write_49 : decode cX11_write 49 = .ok (.aload_n 0, 1) := by decide +kernel
theorem dX11_write_50 : decode cX11_write 50 = .ok (.getfield 34, 3) := by decide +kernel
theorem dX11_write_53 : decode cX11_write 53 = .ok (.iconst 0, 1) := by decide +kernel
theorem dX11_write_54 : decode cX11_write 54 = .ok (.aload_n 0, 1) := by decide +kernel
theorem dX11_write_55 : decode cX11_write 55 = .ok (.getfield 34, 3) := by decide +kernel
theorem dX11_write_58 : decode cX11_write 58 = .ok (.getfield 113, 3) := by decide +kernel
theorem dX11_write_61 : decode cX11_write 61 = .ok (.invokevirtual 176, 3) := by decide +kernel
theorem dX11_write_64 : decode cX11_write 64 = .ok (.ireturn, 1) := by decide +kernel
abbrev rmX11_write : Room := { frames := 8, cells := 0, slots := 0, locals := 179 }
set_option maxHeartbeats 4000000 in
set_option maxRecDepth 100000 in
theorem wP_X11_write {G : Nat → Nat} {F : Nat} {x : mXT} {sz : Nat} {r0 : Int32} {M0 : mM} (X : mCX G RX11 cX11_write 2 (some .int) "write" rmX11_write x) (hQ : mQI x r0 M0 (sz, 0, 0)) {l0 : Nat} {l1 : Int32} {M : mM} (h : P_X11_write G F l0 l1 M = some (r0, M0)) : WW x (sz, 0, 0) M 0 [(0, .ref l0), (1, .int l1)] [] := by
  unfold P_X11_write at h
  refine ww_aload_n 0 X dX11_write_0 0 rfl rfl ?_
  obtain ⟨v1, e1, h⟩ := bO_some h
  refine ww_getR 1 X dX11_write_1 fG_X11_40 e1 ?_
  refine ww_iload_n 4 X dX11_write_4 1 rfl rfl ?_
  obtain ⟨_, f5, h⟩ := bO_some h
  obtain ⟨v5, M5, e5, h⟩ := bP_some h
  refine ww_callVI0 5 X dX11_write_5 mY_X9_has mL_X11_149 (rcv_spec f5) ⟨_, _, rfl⟩ (by decide) (As := [.int l1]) (rest := []) rfl rfl ⟨Nat.le_of_ble_eq_true rfl, Nat.le_of_ble_eq_true rfl⟩ (Nat.le_of_ble_eq_true rfl) (fun l D A => c_X9_has l D A e5) ?_
  refine ww_if_ne 8 14 X dX11_write_8 (by decide) (fun q => ?_) (fun q => ?_)
  · replace h := (if_neg q).symm.trans h
    refine ww_aload_n 14 X dX11_write_14 0 rfl rfl ?_
    obtain ⟨v15, e15, h⟩ := bO_some h
    refine ww_getR 15 X dX11_write_15 fG_X11_34 e15 ?_
    obtain ⟨_, f18, h⟩ := bO_some h
    obtain ⟨M18, e18, h⟩ := bO_some h
    refine ww_callVV0 18 X dX11_write_18 mY_X0_clear mL_X11_131 (rcv_spec f18) ⟨_, _, rfl⟩ (by decide) (As := []) (rest := []) rfl rfl ⟨Nat.le_of_ble_eq_true rfl, Nat.le_of_ble_eq_true rfl⟩ (Nat.le_of_ble_eq_true rfl) (fun l D A => c_X0_clear l D A e18) ?_
    refine ww_aload_n 21 X dX11_write_21 0 rfl rfl ?_
    obtain ⟨v22, e22, h⟩ := bO_some h
    refine ww_getR 22 X dX11_write_22 fG_X11_40 e22 ?_
    refine ww_iload_n 25 X dX11_write_25 1 rfl rfl ?_
    refine ww_aload_n 26 X dX11_write_26 0 rfl rfl ?_
    obtain ⟨v27, e27, h⟩ := bO_some h
    refine ww_getR 27 X dX11_write_27 fG_X11_34 e27 ?_
    obtain ⟨_, f30, h⟩ := bO_some h
    obtain ⟨M30, e30, h⟩ := bO_some h
    refine ww_callVV0 30 X dX11_write_30 mY_X9_putValue mL_X11_194 (rcv_spec f30) ⟨_, _, rfl⟩ (by decide) (As := [.int l1, .ref v27]) (rest := []) rfl rfl ⟨Nat.le_of_ble_eq_true rfl, Nat.le_of_ble_eq_true rfl⟩ (Nat.le_of_ble_eq_true rfl) (fun l D A => c_X9_putValue l D A e30) ?_
    refine ww_aload_n 33 X dX11_write_33 0 rfl rfl ?_
    obtain ⟨v34, e34, h⟩ := bO_some h
    refine ww_getR 34 X dX11_write_34 fG_X11_34 e34 ?_
    obtain ⟨v37, e37, h⟩ := bO_some h
    refine ww_getI 37 X dX11_write_37 fG_X11_198 e37 ?_
    refine ww_if_eq 40 48 X dX11_write_40 (by decide) (fun q => ?_) (fun q => ?_)
    · replace h := (if_pos q).symm.trans h
      refine ww_aload_n 48 X dX11_write_48 0 rfl rfl ?_
      refine ww_aload_n 49 X dX11_write_49 0 rfl rfl ?_
      obtain ⟨v50, e50, h⟩ := bO_some h
      refine ww_getR 50 X dX11_write_50 fG_X11_34 e50 ?_
      refine ww_iconst 53 X (v := (0 : Int32)) dX11_write_53 (by decide) ?_
      refine ww_aload_n 54 X dX11_write_54 0 rfl rfl ?_
      obtain ⟨v55, e55, h⟩ := bO_some h
      refine ww_getR 55 X dX11_write_55 fG_X11_34 e55 ?_
      obtain ⟨v58, e58, h⟩ := bO_some h
      refine ww_getI 58 X dX11_write_58 fG_X11_113 e58 ?_
      obtain ⟨_, f61, h⟩ := bO_some h
      obtain ⟨v61, M61, e61, h⟩ := bP_some h
      refine ww_callVI0 61 X dX11_write_61 mY_X11_show mL_X11_176 (rcv_spec f61) ⟨_, _, rfl⟩ (by decide) (As := [.ref v50, .int (0 : Int32), .int v58]) (rest := []) rfl rfl ⟨Nat.le_of_ble_eq_true rfl, Nat.le_of_ble_eq_true rfl⟩ (Nat.le_of_ble_eq_true rfl) (fun l D A => c_X11_show l D A e61) ?_
      exact ww_iretE 64 X hQ dX11_write_64 h
    · replace h := (if_neg q).symm.trans h
      refine ww_bipush 43 X (v := (-3 : Int32)) dX11_write_43 (by decide) ?_
      refine ww_goto 45 64 X dX11_write_45 (by decide) ?_
      exact ww_iretE 64 X hQ dX11_write_64 h
  · replace h := (if_pos q).symm.trans h
    refine ww_bipush 11 X (v := (-2 : Int32)) dX11_write_11 (by decide) ?_
    exact ww_iretE 13 X hQ dX11_write_13 h
theorem c_X11_write {G : Nat → Nat} {F sz : Nat} {r0 : Int32} {M0 : mM} (l : Launch) (D : mD) (A : Nat → Prop) {l0 : Nat} {l1 : Int32} {M : mM} (h : P_X11_write G F l0 l1 M = some (r0, M0)) : mMetI l D G A yX11_write cX11_write 2 (some .int) 8 179 0 0 [.ref l0, .int l1] M sz r0 M0 sz := mMetI_of l D G A (by decide) (Nat.le_of_ble_eq_true rfl) (fun x X hQ => wP_X11_write X hQ h)
/-! SealedTokens.encode(I)I -/
theorem dX11_encode_0 : decode cX11_encode 0 = .ok (.aload_n 0, 1) := by decide +kernel
theorem dX11_encode_1 : decode cX11_encode 1 = .ok (.iload_n 1, 1) := by decide +kernel
theorem dX11_encode_2 : decode cX11_encode 2 = .ok (.invokevirtual 123, 3) := by decide +kernel
theorem dX11_encode_5 : decode cX11_encode 5 = .ok (.ifCond .ne 6, 3) := by decide +kernel
theorem dX11_encode_8 : decode cX11_encode 8 = .ok (.bipush (-2), 2) := by decide +kernel
theorem dX11_encode_10 : decode cX11_encode 10 = .ok (.ireturn, 1) := by decide +kernel
theorem dX11_encode_11 : decode cX11_encode 11 = .ok (.aload_n 0, 1) := by decide +kernel
theorem dX11_encode_12 : decode cX11_encode 12 = .ok (.getfield 11, 3) := by decide +kernel
theorem dX11_encode_15 : decode cX11_encode 15 = .ok (.iload_n 1, 1) := by decide +kernel
theorem dX11_encode_16 : decode cX11_encode 16 = .ok (.aaload, 1) := by decide +kernel
theorem dX11_encode_17 : decode cX11_encode 17 = .ok (.getfield 113, 3) := by decide +kernel
theorem dX11_encode_20 : decode cX11_encode 20 = .ok (.invokestatic 202, 3) := by decide +kernel
theorem dX11_encode_23 : decode cX11_encode 23 = .ok (.sipush 8192, 3) := by decide +kernel
theorem dX11_encode_26 : decode cX11_encode 26 = .ok (.if_icmp .le 6, 3) := by decide +kernel
theorem dX11_encode_29 : decode cX11_encode 29 = .ok (.bipush (-3), 2) := by decide +kernel
theorem dX11_encode_31 : decode cX11_encode 31 = .ok (.ireturn, 1) := by decide +kernel
theorem dX11_encode_32 : decode cX11_encode 32 = .ok (.aload_n 0, 1) := by decide +kernel
theorem dX11_encode_33 : decode cX11_encode 33 = .ok (.getfield 22, 3) := by decide +kernel
theorem dX11_encode_36 : decode cX11_encode 36 = .ok (.invokevirtual 131, 3) := by decide +kernel
theorem dX11_encode_39 : decode cX11_encode 39 = .ok (.aload_n 0, 1) := by decide +kernel
theorem dX11_encode_40 : decode cX11_encode 40 = .ok (.getfield 22, 3) := by decide +kernel
theorem dX11_encode_43 : decode cX11_encode 43 = .ok (.aload_n 0, 1) := by decide +kernel
theorem dX11_encode_44 : decode cX11_encode 44 = .ok (.getfield 11, 3) := by decide +kernel
theorem dX11_encode_47 : decode cX11_encode 47 = .ok (.iload_n 1, 1) := by decide +kernel
theorem dX11_encode_48 : decode cX11_encode 48 = .ok (.aaload, 1) := by decide +kernel
theorem dX11_encode_49 : decode cX11_encode 49 = .ok (.iconst 0, 1) := by decide +kernel
theorem dX11_encode_50 : decode cX11_encode 50 = .ok (.aload_n 0, 1) := by decide +kernel
theorem dX11_encode_51 : decode cX11_encode 51 = .ok (.getfield 11, 3) := by decide +kernel
theorem dX11_encode_54 : decode cX11_encode 54 = .ok (.iload_n 1, 1) := by decide +kernel
theorem dX11_encode_55 : decode cX11_encode 55 = .ok (.aaload, 1) := by decide +kernel
theorem dX11_encode_56 : decode cX11_encode 56 = .ok (.getfield 113, 3) := by decide +kernel
theorem dX11_encode_59 : decode cX11_encode 59 = .ok (.invokevirtual 205, 3) := by decide +kernel
theorem dX11_encode_62 : decode cX11_encode 62 = .ok (.aload_n 0, 1) := by decide +kernel
theorem dX11_encode_63 : decode cX11_encode 63 = .ok (.getfield 22, 3) := by decide +kernel
theorem dX11_encode_66 : decode cX11_encode 66 = .ok (.getfield 113, 3) := by decide +kernel
theorem dX11_encode_69 : decode cX11_encode 69 = .ok (.ireturn, 1) := by decide +kernel
abbrev rmX11_encode : Room := { frames := 5, cells := 0, slots := 0, locals := 111 }
set_option maxHeartbeats 4000000 in
set_option maxRecDepth 100000 in
theorem wP_X11_encode {G : Nat → Nat} {F : Nat} {x : mXT} {sz : Nat} {r0 : Int32} {M0 : mM} (X : mCX G RX11 cX11_encode 2 (some .int) "encode" rmX11_encode x) (hQ : mQI x r0 M0 (sz, 0, 0)) {l0 : Nat} {l1 : Int32} {M : mM} (h : P_X11_encode G F l0 l1 M = some (r0, M0)) : WW x (sz, 0, 0) M 0 [(0, .ref l0), (1, .int l1)] [] := by
  unfold P_X11_encode at h
  refine ww_aload_n 0 X dX11_encode_0 0 rfl rfl ?_
  refine ww_iload_n 1 X dX11_encode_1 1 rfl rfl ?_
  obtain ⟨_, f2, h⟩ := bO_some h
  obtain ⟨v2, M2, e2, h⟩ := bP_some h
  refine ww_callVI0 2 X dX11_encode_2 mY_X11_isRow mL_X11_123 (rcv_spec f2) ⟨_, _, rfl⟩ (by decide) (As := [.int l1]) (rest := []) rfl rfl ⟨Nat.le_of_ble_eq_true rfl, Nat.le_of_ble_eq_true rfl⟩ (Nat.le_of_ble_eq_true rfl) (fun l D A => c_X11_isRow l D A e2) ?_
  refine ww_if_ne 5 11 X dX11_encode_5 (by decide) (fun q => ?_) (fun q => ?_)
  · replace h := (if_neg q).symm.trans h
    refine ww_aload_n 11 X dX11_encode_11 0 rfl rfl ?_
    obtain ⟨v12, e12, h⟩ := bO_some h
    refine ww_getR 12 X dX11_encode_12 fG_X11_11 e12 ?_
    refine ww_iload_n 15 X dX11_encode_15 1 rfl rfl ?_
    obtain ⟨v16, e16, h⟩ := bO_some h
    refine ww_aald4 16 X dX11_encode_16 e16 ?_
    obtain ⟨v17, e17, h⟩ := bO_some h
    refine ww_getI 17 X dX11_encode_17 fG_X11_113 e17 ?_
    obtain ⟨v20, M20, e20, h⟩ := bP_some h
    refine ww_callSI0 20 X dX11_encode_20 mY_X0_lettersFor mL_X11_202 (As := [.int v17]) (rest := []) rfl rfl ⟨Nat.le_of_ble_eq_true rfl, Nat.le_of_ble_eq_true rfl⟩ (Nat.le_of_ble_eq_true rfl) (fun l D A => c_X0_lettersFor l D A e20) ?_
    refine ww_sipush 23 X (v := (8192 : Int32)) dX11_encode_23 (by decide) ?_
    refine ww_icmp_le 26 32 X dX11_encode_26 (by decide) (fun q => ?_) (fun q => ?_)
    · replace h := (if_pos q).symm.trans h
      refine ww_aload_n 32 X dX11_encode_32 0 rfl rfl ?_
      obtain ⟨v33, e33, h⟩ := bO_some h
      refine ww_getR 33 X dX11_encode_33 fG_X11_22 e33 ?_
      obtain ⟨_, f36, h⟩ := bO_some h
      obtain ⟨M36, e36, h⟩ := bO_some h
      refine ww_callVV0 36 X dX11_encode_36 mY_X0_clear mL_X11_131 (rcv_spec f36) ⟨_, _, rfl⟩ (by decide) (As := []) (rest := []) rfl rfl ⟨Nat.le_of_ble_eq_true rfl, Nat.le_of_ble_eq_true rfl⟩ (Nat.le_of_ble_eq_true rfl) (fun l D A => c_X0_clear l D A e36) ?_
      refine ww_aload_n 39 X dX11_encode_39 0 rfl rfl ?_
      obtain ⟨v40, e40, h⟩ := bO_some h
      refine ww_getR 40 X dX11_encode_40 fG_X11_22 e40 ?_
      refine ww_aload_n 43 X dX11_encode_43 0 rfl rfl ?_
      obtain ⟨v44, e44, h⟩ := bO_some h
      refine ww_getR 44 X dX11_encode_44 fG_X11_11 e44 ?_
      refine ww_iload_n 47 X dX11_encode_47 1 rfl rfl ?_
      obtain ⟨v48, e48, h⟩ := bO_some h
      refine ww_aald4 48 X dX11_encode_48 e48 ?_
      refine ww_iconst 49 X (v := (0 : Int32)) dX11_encode_49 (by decide) ?_
      refine ww_aload_n 50 X dX11_encode_50 0 rfl rfl ?_
      obtain ⟨v51, e51, h⟩ := bO_some h
      refine ww_getR 51 X dX11_encode_51 fG_X11_11 e51 ?_
      refine ww_iload_n 54 X dX11_encode_54 1 rfl rfl ?_
      obtain ⟨v55, e55, h⟩ := bO_some h
      refine ww_aald4 55 X dX11_encode_55 e55 ?_
      obtain ⟨v56, e56, h⟩ := bO_some h
      refine ww_getI 56 X dX11_encode_56 fG_X11_113 e56 ?_
      obtain ⟨_, f59, h⟩ := bO_some h
      obtain ⟨M59, e59, h⟩ := bO_some h
      refine ww_callVV0 59 X dX11_encode_59 mY_X0_putLetters mL_X11_205 (rcv_spec f59) ⟨_, _, rfl⟩ (by decide) (As := [.ref v48, .int (0 : Int32), .int v56]) (rest := []) rfl rfl ⟨Nat.le_of_ble_eq_true rfl, Nat.le_of_ble_eq_true rfl⟩ (Nat.le_of_ble_eq_true rfl) (fun l D A => c_X0_putLetters l D A e59) ?_
      refine ww_aload_n 62 X dX11_encode_62 0 rfl rfl ?_
      obtain ⟨v63, e63, h⟩ := bO_some h
      refine ww_getR 63 X dX11_encode_63 fG_X11_22 e63 ?_
      obtain ⟨v66, e66, h⟩ := bO_some h
      refine ww_getI 66 X dX11_encode_66 fG_X11_113 e66 ?_
      exact ww_iretE 69 X hQ dX11_encode_69 h
    · replace h := (if_neg q).symm.trans h
      refine ww_bipush 29 X (v := (-3 : Int32)) dX11_encode_29 (by decide) ?_
      exact ww_iretE 31 X hQ dX11_encode_31 h
  · replace h := (if_pos q).symm.trans h
    refine ww_bipush 8 X (v := (-2 : Int32)) dX11_encode_8 (by decide) ?_
    exact ww_iretE 10 X hQ dX11_encode_10 h
theorem c_X11_encode {G : Nat → Nat} {F sz : Nat} {r0 : Int32} {M0 : mM} (l : Launch) (D : mD) (A : Nat → Prop) {l0 : Nat} {l1 : Int32} {M : mM} (h : P_X11_encode G F l0 l1 M = some (r0, M0)) : mMetI l D G A yX11_encode cX11_encode 2 (some .int) 5 111 0 0 [.ref l0, .int l1] M sz r0 M0 sz := mMetI_of l D G A (by decide) (Nat.le_of_ble_eq_true rfl) (fun x X hQ => wP_X11_encode X hQ h)
/-! SealedTokens.decode(I)I -/
theorem dX11_decode_0 : decode cX11_decode 0 = .ok (.aload_n 0, 1) := by decide +kernel
theorem dX11_decode_1 : decode cX11_decode 1 = .ok (.iload_n 1, 1) := by decide +kernel
theorem dX11_decode_2 : decode cX11_decode 2 = .ok (.invokevirtual 123, 3) := by decide +kernel
theorem dX11_decode_5 : decode cX11_decode 5 = .ok (.ifCond .ne 6, 3) := by decide +kernel
theorem dX11_decode_8 : decode cX11_decode 8 = .ok (.bipush (-2), 2) := by decide +kernel
theorem dX11_decode_10 : decode cX11_decode 10 = .ok (.ireturn, 1) := by decide +kernel
theorem dX11_decode_11 : decode cX11_decode 11 = .ok (.aload_n 0, 1) := by decide +kernel
theorem dX11_decode_12 : decode cX11_decode 12 = .ok (.getfield 11, 3) := by decide +kernel
theorem dX11_decode_15 : decode cX11_decode 15 = .ok (.iload_n 1, 1) := by decide +kernel
theorem dX11_decode_16 : decode cX11_decode 16 = .ok (.aaload, 1) := by decide +kernel
theorem dX11_decode_17 : decode cX11_decode 17 = .ok (.iconst 0, 1) := by decide +kernel
theorem dX11_decode_18 : decode cX11_decode 18 = .ok (.aload_n 0, 1) := by decide +kernel
theorem dX11_decode_19 : decode cX11_decode 19 = .ok (.getfield 11, 3) := by decide +kernel
theorem dX11_decode_22 : decode cX11_decode 22 = .ok (.iload_n 1, 1) := by decide +kernel
theorem dX11_decode_23 : decode cX11_decode 23 = .ok (.aaload, 1) := by decide +kernel
theorem dX11_decode_24 : decode cX11_decode 24 = .ok (.getfield 113, 3) := by decide +kernel
theorem dX11_decode_27 : decode cX11_decode 27 = .ok (.invokestatic 209, 3) := by decide +kernel
theorem dX11_decode_30 : decode cX11_decode 30 = .ok (.istore_n 2, 1) := by decide +kernel
theorem dX11_decode_31 : decode cX11_decode 31 = .ok (.iload_n 2, 1) := by decide +kernel
theorem dX11_decode_32 : decode cX11_decode 32 = .ok (.iconst (-1), 1) := by decide +kernel
theorem dX11_decode_33 : decode cX11_decode 33 = .ok (.if_icmp .eq 8, 3) := by decide +kernel
theorem dX11_decode_36 : decode cX11_decode 36 = .ok (.bipush (-100), 2) := by decide +kernel
theorem dX11_decode_38 : decode cX11_decode 38 = .ok (.iload_n 2, 1) := by decide +kernel
theorem dX11_decode_39 : decode cX11_decode 39 = .ok (.isub, 1) := by decide +kernel
theorem dX11_decode_40 : decode cX11_decode 40 = .ok (.ireturn, 1) := by decide +kernel
theorem dX11_decode_41 : decode cX11_decode 41 = .ok (.aload_n 0, 1) := by decide +kernel
theorem dX11_decode_42 : decode cX11_decode 42 = .ok (.getfield 22, 3) := by decide +kernel
theorem dX11_decode_45 : decode cX11_decode 45 = .ok (.invokevirtual 131, 3) := by decide +kernel
theorem dX11_decode_48 : decode cX11_decode 48 = .ok (.aload_n 0, 1) := by decide +kernel
theorem dX11_decode_49 : decode cX11_decode 49 = .ok (.getfield 22, 3) := by decide +kernel
theorem dX11_decode_52 : decode cX11_decode 52 = .ok (.aload_n 0, 1) := by decide +kernel
theorem dX11_decode_53 : decode cX11_decode 53 = .ok (.getfield 11, 3) := by decide +kernel
theorem dX11_decode_56 : decode cX11_decode 56 = .ok (.iload_n 1, 1) := by decide +kernel
theorem dX11_decode_57 : decode cX11_decode 57 = .ok (.aaload, 1) := by decide +kernel
theorem dX11_decode_58 : decode cX11_decode 58 = .ok (.iconst 0, 1) := by decide +kernel
theorem dX11_decode_59 : decode cX11_decode 59 = .ok (.aload_n 0, 1) := by decide +kernel
theorem dX11_decode_60 : decode cX11_decode 60 = .ok (.getfield 11, 3) := by decide +kernel
theorem dX11_decode_63 : decode cX11_decode 63 = .ok (.iload_n 1, 1) := by decide +kernel
theorem dX11_decode_64 : decode cX11_decode 64 = .ok (.aaload, 1) := by decide +kernel
theorem dX11_decode_65 : decode cX11_decode 65 = .ok (.getfield 113, 3) := by decide +kernel
theorem dX11_decode_68 : decode cX11_decode 68 = .ok (.invokevirtual 212, 3) := by decide +kernel
theorem dX11_decode_71 : decode cX11_decode 71 = .ok (.aload_n 0, 1) := by decide +kernel
theorem dX11_decode_72 : decode cX11_decode 72 = .ok (.getfield 22, 3) := by decide +kernel
theorem dX11_decode_75 : decode cX11_decode 75 = .ok (.getfield 113, 3) := by decide +kernel
theorem dX11_decode_78 : decode cX11_decode 78 = .ok (.ireturn, 1) := by decide +kernel
abbrev rmX11_decode : Room := { frames := 2, cells := 0, slots := 0, locals := 47 }
set_option maxHeartbeats 4000000 in
set_option maxRecDepth 100000 in
theorem wP_X11_decode {G : Nat → Nat} {F : Nat} {x : mXT} {sz : Nat} {r0 : Int32} {M0 : mM} (X : mCX G RX11 cX11_decode 3 (some .int) "decode" rmX11_decode x) (hQ : mQI x r0 M0 (sz, 0, 0)) {l0 : Nat} {l1 : Int32} {M : mM} (h : P_X11_decode G F l0 l1 M = some (r0, M0)) : WW x (sz, 0, 0) M 0 [(0, .ref l0), (1, .int l1)] [] := by
  unfold P_X11_decode at h
  refine ww_aload_n 0 X dX11_decode_0 0 rfl rfl ?_
  refine ww_iload_n 1 X dX11_decode_1 1 rfl rfl ?_
  obtain ⟨_, f2, h⟩ := bO_some h
  obtain ⟨v2, M2, e2, h⟩ := bP_some h
  refine ww_callVI0 2 X dX11_decode_2 mY_X11_isRow mL_X11_123 (rcv_spec f2) ⟨_, _, rfl⟩ (by decide) (As := [.int l1]) (rest := []) rfl rfl ⟨Nat.le_of_ble_eq_true rfl, Nat.le_of_ble_eq_true rfl⟩ (Nat.le_of_ble_eq_true rfl) (fun l D A => c_X11_isRow l D A e2) ?_
  refine ww_if_ne 5 11 X dX11_decode_5 (by decide) (fun q => ?_) (fun q => ?_)
  · replace h := (if_neg q).symm.trans h
    refine ww_aload_n 11 X dX11_decode_11 0 rfl rfl ?_
    obtain ⟨v12, e12, h⟩ := bO_some h
    refine ww_getR 12 X dX11_decode_12 fG_X11_11 e12 ?_
    refine ww_iload_n 15 X dX11_decode_15 1 rfl rfl ?_
    obtain ⟨v16, e16, h⟩ := bO_some h
    refine ww_aald4 16 X dX11_decode_16 e16 ?_
    refine ww_iconst 17 X (v := (0 : Int32)) dX11_decode_17 (by decide) ?_
    refine ww_aload_n 18 X dX11_decode_18 0 rfl rfl ?_
    obtain ⟨v19, e19, h⟩ := bO_some h
    refine ww_getR 19 X dX11_decode_19 fG_X11_11 e19 ?_
    refine ww_iload_n 22 X dX11_decode_22 1 rfl rfl ?_
    obtain ⟨v23, e23, h⟩ := bO_some h
    refine ww_aald4 23 X dX11_decode_23 e23 ?_
    obtain ⟨v24, e24, h⟩ := bO_some h
    refine ww_getI 24 X dX11_decode_24 fG_X11_113 e24 ?_
    obtain ⟨v27, M27, e27, h⟩ := bP_some h
    refine ww_callSI0 27 X dX11_decode_27 mY_X0_letterFault mL_X11_209 (As := [.ref v16, .int (0 : Int32), .int v24]) (rest := []) rfl rfl ⟨Nat.le_of_ble_eq_true rfl, Nat.le_of_ble_eq_true rfl⟩ (Nat.le_of_ble_eq_true rfl) (fun l D A => c_X0_letterFault l D A e27) ?_
    refine ww_istore_n 30 X dX11_decode_30 (lv' := [(0, .ref l0), (1, .int l1), (2, .int v27)]) rfl (by decide) [1, 2, 0] rfl ?_
    refine ww_iload_n 31 X dX11_decode_31 2 rfl rfl ?_
    refine ww_iconst 32 X (v := (-1 : Int32)) dX11_decode_32 (by decide) ?_
    refine ww_icmp_eq 33 41 X dX11_decode_33 (by decide) (fun q => ?_) (fun q => ?_)
    · replace h := (if_pos q).symm.trans h
      refine ww_aload_n 41 X dX11_decode_41 0 rfl rfl ?_
      obtain ⟨v42, e42, h⟩ := bO_some h
      refine ww_getR 42 X dX11_decode_42 fG_X11_22 e42 ?_
      obtain ⟨_, f45, h⟩ := bO_some h
      obtain ⟨M45, e45, h⟩ := bO_some h
      refine ww_callVV0 45 X dX11_decode_45 mY_X0_clear mL_X11_131 (rcv_spec f45) ⟨_, _, rfl⟩ (by decide) (As := []) (rest := []) rfl rfl ⟨Nat.le_of_ble_eq_true rfl, Nat.le_of_ble_eq_true rfl⟩ (Nat.le_of_ble_eq_true rfl) (fun l D A => c_X0_clear l D A e45) ?_
      refine ww_aload_n 48 X dX11_decode_48 0 rfl rfl ?_
      obtain ⟨v49, e49, h⟩ := bO_some h
      refine ww_getR 49 X dX11_decode_49 fG_X11_22 e49 ?_
      refine ww_aload_n 52 X dX11_decode_52 0 rfl rfl ?_
      obtain ⟨v53, e53, h⟩ := bO_some h
      refine ww_getR 53 X dX11_decode_53 fG_X11_11 e53 ?_
      refine ww_iload_n 56 X dX11_decode_56 1 rfl rfl ?_
      obtain ⟨v57, e57, h⟩ := bO_some h
      refine ww_aald4 57 X dX11_decode_57 e57 ?_
      refine ww_iconst 58 X (v := (0 : Int32)) dX11_decode_58 (by decide) ?_
      refine ww_aload_n 59 X dX11_decode_59 0 rfl rfl ?_
      obtain ⟨v60, e60, h⟩ := bO_some h
      refine ww_getR 60 X dX11_decode_60 fG_X11_11 e60 ?_
      refine ww_iload_n 63 X dX11_decode_63 1 rfl rfl ?_
      obtain ⟨v64, e64, h⟩ := bO_some h
      refine ww_aald4 64 X dX11_decode_64 e64 ?_
      obtain ⟨v65, e65, h⟩ := bO_some h
      refine ww_getI 65 X dX11_decode_65 fG_X11_113 e65 ?_
      obtain ⟨_, f68, h⟩ := bO_some h
      obtain ⟨M68, e68, h⟩ := bO_some h
      refine ww_callVV0 68 X dX11_decode_68 mY_X0_putUnlettered mL_X11_212 (rcv_spec f68) ⟨_, _, rfl⟩ (by decide) (As := [.ref v57, .int (0 : Int32), .int v65]) (rest := []) rfl rfl ⟨Nat.le_of_ble_eq_true rfl, Nat.le_of_ble_eq_true rfl⟩ (Nat.le_of_ble_eq_true rfl) (fun l D A => c_X0_putUnlettered l D A e68) ?_
      refine ww_aload_n 71 X dX11_decode_71 0 rfl rfl ?_
      obtain ⟨v72, e72, h⟩ := bO_some h
      refine ww_getR 72 X dX11_decode_72 fG_X11_22 e72 ?_
      obtain ⟨v75, e75, h⟩ := bO_some h
      refine ww_getI 75 X dX11_decode_75 fG_X11_113 e75 ?_
      exact ww_iretE 78 X hQ dX11_decode_78 h
    · replace h := (if_neg q).symm.trans h
      refine ww_bipush 36 X (v := (-100 : Int32)) dX11_decode_36 (by decide) ?_
      refine ww_iload_n 38 X dX11_decode_38 2 rfl rfl ?_
      refine ww_isub 39 X dX11_decode_39 ?_
      exact ww_iretE 40 X hQ dX11_decode_40 h
  · replace h := (if_pos q).symm.trans h
    refine ww_bipush 8 X (v := (-2 : Int32)) dX11_decode_8 (by decide) ?_
    exact ww_iretE 10 X hQ dX11_decode_10 h
theorem c_X11_decode {G : Nat → Nat} {F sz : Nat} {r0 : Int32} {M0 : mM} (l : Launch) (D : mD) (A : Nat → Prop) {l0 : Nat} {l1 : Int32} {M : mM} (h : P_X11_decode G F l0 l1 M = some (r0, M0)) : mMetI l D G A yX11_decode cX11_decode 3 (some .int) 2 47 0 0 [.ref l0, .int l1] M sz r0 M0 sz := mMetI_of l D G A (by decide) (Nat.le_of_ble_eq_true rfl) (fun x X hQ => wP_X11_decode X hQ h)
/-! SealedTokens.hash(II)I -/
theorem dX11_hash_0 : decode cX11_hash 0 = .ok (.iload_n 1, 1) := by decide +kernel
theorem dX11_hash_1 : decode cX11_hash 1 = .ok (.sipush 256, 3) := by decide +kernel
theorem dX11_hash_4 : decode cX11_hash 4 = .ok (.if_icmp .eq 10, 3) := by decide +kernel
theorem dX11_hash_7 : decode cX11_hash 7 = .ok (.iload_n 1, 1) := by decide +kernel
theorem dX11_hash_8 : decode cX11_hash 8 = .ok (.sipush 512, 3) := by decide +kernel
theorem dX11_hash_11 : decode cX11_hash 11 = .ok (.if_icmp .ne 11, 3) := by decide +kernel
theorem dX11_hash_14 : decode cX11_hash 14 = .ok (.aload_n 0, 1) := by decide +kernel
theorem dX11_hash_15 : decode cX11_hash 15 = .ok (.iload_n 2, 1) := by decide +kernel
theorem dX11_hash_16 : decode cX11_hash 16 = .ok (.invokevirtual 123, 3) := by decide +kernel
theorem dX11_hash_19 : decode cX11_hash 19 = .ok (.ifCond .ne 6, 3) := by decide +kernel
theorem dX11_hash_22 : decode cX11_hash 22 = .ok (.bipush (-2), 2) := by decide +kernel
theorem dX11_hash_24 : decode cX11_hash 24 = .ok (.ireturn, 1) := by decide +kernel
theorem dX11_hash_25 : decode cX11_hash 25 = .ok (.aload_n 0, 1) := by decide +kernel
theorem dX11_hash_26 : decode cX11_hash 26 = .ok (.getfield 70, 3) := by decide +kernel
theorem dX11_hash_29 : decode cX11_hash 29 = .ok (.iload_n 1, 1) := by decide +kernel
theorem dX11_hash_30 : decode cX11_hash 30 = .ok (.invokevirtual 215, 3) := by decide +kernel
theorem dX11_hash_33 : decode cX11_hash 33 = .ok (.aload_n 0, 1) := by decide +kernel
theorem dX11_hash_34 : decode cX11_hash 34 = .ok (.getfield 70, 3) := by decide +kernel
theorem dX11_hash_37 : decode cX11_hash 37 = .ok (.aload_n 0, 1) := by decide +kernel
theorem dX11_hash_38 : decode cX11_hash 38 = .ok (.getfield 11, 3) := by decide +kernel
theorem dX11_hash_41 : decode cX11_hash 41 = .ok (.iload_n 2, 1) := by decide +kernel
theorem dX11_hash_42 : decode cX11_hash 42 = .ok (.aaload, 1) := by decide +kernel
theorem dX11_hash_43 : decode cX11_hash 43 = .ok (.iconst 0, 1) := by decide +kernel
theorem dX11_hash_44 : decode cX11_hash 44 = .ok (.aload_n 0, 1) := by decide +kernel
theorem dX11_hash_45 : decode cX11_hash 45 = .ok (.getfield 11, 3) := by decide +kernel
theorem dX11_hash_48 : decode cX11_hash 48 = .ok (.iload_n 2, 1) := by decide +kernel
theorem dX11_hash_49 : decode cX11_hash 49 = .ok (.aaload, 1) := by decide +kernel
theorem dX11_hash_50 : decode cX11_hash 50 = .ok (.getfield 113, 3) := by decide +kernel
theorem dX11_hash_53 : decode cX11_hash 53 = .ok (.invokevirtual 217, 3) := by decide +kernel
theorem dX11_hash_56 : decode cX11_hash 56 = .ok (.aload_n 0, 1) := by decide +kernel
theorem dX11_hash_57 : decode cX11_hash 57 = .ok (.getfield 22, 3) := by decide +kernel
theorem dX11_hash_60 : decode cX11_hash 60 = .ok (.invokevirtual 131, 3) := by decide +kernel
theorem dX11_hash_63 : decode cX11_hash 63 = .ok (.aload_n 0, 1) := by decide +kernel
theorem dX11_hash_64 : decode cX11_hash 64 = .ok (.getfield 70, 3) := by decide +kernel
theorem dX11_hash_67 : decode cX11_hash 67 = .ok (.aload_n 0, 1) := by decide +kernel
theorem dX11_hash_68 : decode cX11_hash 68 = .ok (.getfield 22, 3) := by decide +kernel
theorem dX11_hash_71 : decode cX11_hash 71 = .ok (.invokevirtual 220, 3) := by decide +kernel
theorem dX11_hash_74 : decode cX11_hash 74 = .ok (.aload_n 0, 1) := by decide +kernel
theorem dX11_hash_75 : decode cX11_hash 75 = .ok (.getfield 22, 3) := by decide +kernel
theorem dX11_hash_78 : decode cX11_hash 78 = .ok (.getfield 113, 3) := by decide +kernel
theorem dX11_hash_81 : decode cX11_hash 81 = .ok (.ireturn, 1) := by decide +kernel
abbrev rmX11_hash : Room := { frames := 3, cells := 0, slots := 0, locals := 91 }
set_option maxHeartbeats 4000000 in
set_option maxRecDepth 100000 in
theorem wB_X11_hash_14 {G : Nat → Nat} {F : Nat} {x : mXT} {sz : Nat} {r0 : Int32} {M0 : mM} (X : mCX G RX11 cX11_hash 3 (some .int) "hash" rmX11_hash x) (hQ : mQI x r0 M0 (sz, 0, 0)) {l0 : Nat} {l1 : Int32} {l2 : Int32} {M : mM} (h : B_X11_hash_14 G F l0 l1 l2 M = some (r0, M0)) : WW x (sz, 0, 0) M 14 [(0, .ref l0), (1, .int l1), (2, .int l2)] [] := by
  unfold B_X11_hash_14 at h
  refine ww_aload_n 14 X dX11_hash_14 0 rfl rfl ?_
  refine ww_iload_n 15 X dX11_hash_15 2 rfl rfl ?_
  obtain ⟨_, f16, h⟩ := bO_some h
  obtain ⟨v16, M16, e16, h⟩ := bP_some h
  refine ww_callVI0 16 X dX11_hash_16 mY_X11_isRow mL_X11_123 (rcv_spec f16) ⟨_, _, rfl⟩ (by decide) (As := [.int l2]) (rest := []) rfl rfl ⟨Nat.le_of_ble_eq_true rfl, Nat.le_of_ble_eq_true rfl⟩ (Nat.le_of_ble_eq_true rfl) (fun l D A => c_X11_isRow l D A e16) ?_
  refine ww_if_ne 19 25 X dX11_hash_19 (by decide) (fun q => ?_) (fun q => ?_)
  · replace h := (if_neg q).symm.trans h
    refine ww_aload_n 25 X dX11_hash_25 0 rfl rfl ?_
    obtain ⟨v26, e26, h⟩ := bO_some h
    refine ww_getR 26 X dX11_hash_26 fG_X11_70 e26 ?_
    refine ww_iload_n 29 X dX11_hash_29 1 rfl rfl ?_
    obtain ⟨_, f30, h⟩ := bO_some h
    obtain ⟨M30, e30, h⟩ := bO_some h
    refine ww_callVV0 30 X dX11_hash_30 mY_X4_start mL_X11_215 (rcv_spec f30) ⟨_, _, rfl⟩ (by decide) (As := [.int l1]) (rest := []) rfl rfl ⟨Nat.le_of_ble_eq_true rfl, Nat.le_of_ble_eq_true rfl⟩ (Nat.le_of_ble_eq_true rfl) (fun l D A => c_X4_start l D A e30) ?_
    refine ww_aload_n 33 X dX11_hash_33 0 rfl rfl ?_
    obtain ⟨v34, e34, h⟩ := bO_some h
    refine ww_getR 34 X dX11_hash_34 fG_X11_70 e34 ?_
    refine ww_aload_n 37 X dX11_hash_37 0 rfl rfl ?_
    obtain ⟨v38, e38, h⟩ := bO_some h
    refine ww_getR 38 X dX11_hash_38 fG_X11_11 e38 ?_
    refine ww_iload_n 41 X dX11_hash_41 2 rfl rfl ?_
    obtain ⟨v42, e42, h⟩ := bO_some h
    refine ww_aald4 42 X dX11_hash_42 e42 ?_
    refine ww_iconst 43 X (v := (0 : Int32)) dX11_hash_43 (by decide) ?_
    refine ww_aload_n 44 X dX11_hash_44 0 rfl rfl ?_
    obtain ⟨v45, e45, h⟩ := bO_some h
    refine ww_getR 45 X dX11_hash_45 fG_X11_11 e45 ?_
    refine ww_iload_n 48 X dX11_hash_48 2 rfl rfl ?_
    obtain ⟨v49, e49, h⟩ := bO_some h
    refine ww_aald4 49 X dX11_hash_49 e49 ?_
    obtain ⟨v50, e50, h⟩ := bO_some h
    refine ww_getI 50 X dX11_hash_50 fG_X11_113 e50 ?_
    obtain ⟨_, f53, h⟩ := bO_some h
    obtain ⟨M53, e53, h⟩ := bO_some h
    refine ww_callVV0 53 X dX11_hash_53 mY_X4_add mL_X11_217 (rcv_spec f53) ⟨_, _, rfl⟩ (by decide) (As := [.ref v42, .int (0 : Int32), .int v50]) (rest := []) rfl rfl ⟨Nat.le_of_ble_eq_true rfl, Nat.le_of_ble_eq_true rfl⟩ (Nat.le_of_ble_eq_true rfl) (fun l D A => c_X4_add l D A e53) ?_
    refine ww_aload_n 56 X dX11_hash_56 0 rfl rfl ?_
    obtain ⟨v57, e57, h⟩ := bO_some h
    refine ww_getR 57 X dX11_hash_57 fG_X11_22 e57 ?_
    obtain ⟨_, f60, h⟩ := bO_some h
    obtain ⟨M60, e60, h⟩ := bO_some h
    refine ww_callVV0 60 X dX11_hash_60 mY_X0_clear mL_X11_131 (rcv_spec f60) ⟨_, _, rfl⟩ (by decide) (As := []) (rest := []) rfl rfl ⟨Nat.le_of_ble_eq_true rfl, Nat.le_of_ble_eq_true rfl⟩ (Nat.le_of_ble_eq_true rfl) (fun l D A => c_X0_clear l D A e60) ?_
    refine ww_aload_n 63 X dX11_hash_63 0 rfl rfl ?_
    obtain ⟨v64, e64, h⟩ := bO_some h
    refine ww_getR 64 X dX11_hash_64 fG_X11_70 e64 ?_
    refine ww_aload_n 67 X dX11_hash_67 0 rfl rfl ?_
    obtain ⟨v68, e68, h⟩ := bO_some h
    refine ww_getR 68 X dX11_hash_68 fG_X11_22 e68 ?_
    obtain ⟨_, f71, h⟩ := bO_some h
    obtain ⟨M71, e71, h⟩ := bO_some h
    refine ww_callVV0 71 X dX11_hash_71 mY_X4_finish mL_X11_220 (rcv_spec f71) ⟨_, _, rfl⟩ (by decide) (As := [.ref v68]) (rest := []) rfl rfl ⟨Nat.le_of_ble_eq_true rfl, Nat.le_of_ble_eq_true rfl⟩ (Nat.le_of_ble_eq_true rfl) (fun l D A => c_X4_finish l D A e71) ?_
    refine ww_aload_n 74 X dX11_hash_74 0 rfl rfl ?_
    obtain ⟨v75, e75, h⟩ := bO_some h
    refine ww_getR 75 X dX11_hash_75 fG_X11_22 e75 ?_
    obtain ⟨v78, e78, h⟩ := bO_some h
    refine ww_getI 78 X dX11_hash_78 fG_X11_113 e78 ?_
    exact ww_iretE 81 X hQ dX11_hash_81 h
  · replace h := (if_pos q).symm.trans h
    refine ww_bipush 22 X (v := (-2 : Int32)) dX11_hash_22 (by decide) ?_
    exact ww_iretE 24 X hQ dX11_hash_24 h
set_option maxHeartbeats 4000000 in
set_option maxRecDepth 100000 in
theorem wP_X11_hash {G : Nat → Nat} {F : Nat} {x : mXT} {sz : Nat} {r0 : Int32} {M0 : mM} (X : mCX G RX11 cX11_hash 3 (some .int) "hash" rmX11_hash x) (hQ : mQI x r0 M0 (sz, 0, 0)) {l0 : Nat} {l1 : Int32} {l2 : Int32} {M : mM} (h : P_X11_hash G F l0 l1 l2 M = some (r0, M0)) : WW x (sz, 0, 0) M 0 [(0, .ref l0), (1, .int l1), (2, .int l2)] [] := by
  unfold P_X11_hash at h
  refine ww_iload_n 0 X dX11_hash_0 1 rfl rfl ?_
  refine ww_sipush 1 X (v := (256 : Int32)) dX11_hash_1 (by decide) ?_
  refine ww_icmp_eq 4 14 X dX11_hash_4 (by decide) (fun q => ?_) (fun q => ?_)
  · replace h := (if_pos q).symm.trans h
    exact (wB_X11_hash_14 X hQ h)
  · replace h := (if_neg q).symm.trans h
    refine ww_iload_n 7 X dX11_hash_7 1 rfl rfl ?_
    refine ww_sipush 8 X (v := (512 : Int32)) dX11_hash_8 (by decide) ?_
    refine ww_icmp_ne 11 22 X dX11_hash_11 (by decide) (fun q => ?_) (fun q => ?_)
    · replace h := (if_neg q).symm.trans h
      refine ww_bipush 22 X (v := (-2 : Int32)) dX11_hash_22 (by decide) ?_
      exact ww_iretE 24 X hQ dX11_hash_24 h
    · replace h := (if_pos q).symm.trans h
      exact (wB_X11_hash_14 X hQ h)
theorem c_X11_hash {G : Nat → Nat} {F sz : Nat} {r0 : Int32} {M0 : mM} (l : Launch) (D : mD) (A : Nat → Prop) {l0 : Nat} {l1 : Int32} {l2 : Int32} {M : mM} (h : P_X11_hash G F l0 l1 l2 M = some (r0, M0)) : mMetI l D G A yX11_hash cX11_hash 3 (some .int) 3 91 0 0 [.ref l0, .int l1, .int l2] M sz r0 M0 sz := mMetI_of l D G A (by decide) (Nat.le_of_ble_eq_true rfl) (fun x X hQ => wP_X11_hash X hQ h)
/-! SealedTokens.code(III)I -/
theorem dX11_code_0 : decode cX11_code 0 = .ok (.iload_n 1, 1) := by decide +kernel
theorem dX11_code_1 : decode cX11_code 1 = .ok (.sipush 256, 3) := by decide +kernel
theorem dX11_code_4 : decode cX11_code 4 = .ok (.if_icmp .eq 10, 3) := by decide +kernel
theorem dX11_code_7 : decode cX11_code 7 = .ok (.iload_n 1, 1) := by decide +kernel
theorem dX11_code_8 : decode cX11_code 8 = .ok (.sipush 512, 3) := by decide +kernel
theorem dX11_code_11 : decode cX11_code 11 = .ok (.if_icmp .ne 19, 3) := by decide +kernel
theorem dX11_code_14 : decode cX11_code 14 = .ok (.aload_n 0, 1) := by decide +kernel
theorem dX11_code_15 : decode cX11_code 15 = .ok (.iload_n 2, 1) := by decide +kernel
theorem dX11_code_16 : decode cX11_code 16 = .ok (.invokevirtual 123, 3) := by decide +kernel
theorem dX11_code_19 : decode cX11_code 19 = .ok (.ifCond .eq 11, 3) := by decide +kernel
theorem dX11_code_22 : decode cX11_code 22 = .ok (.aload_n 0, 1) := by decide +kernel
theorem dX11_code_23 : decode cX11_code 23 = .ok (.iload_n 3, 1) := by decide +kernel
theorem dX11_code_24 : decode cX11_code 24 = .ok (.invokevirtual 123, 3) := by decide +kernel
theorem dX11_code_27 : decode cX11_code 27 = .ok (.ifCond .ne 6, 3) := by decide +kernel
theorem dX11_code_30 : decode cX11_code 30 = .ok (.bipush (-2), 2) := by decide +kernel
theorem dX11_code_32 : decode cX11_code 32 = .ok (.ireturn, 1) := by decide +kernel
theorem dX11_code_33 : decode cX11_code 33 = .ok (.aload_n 0, 1) := by decide +kernel
theorem dX11_code_34 : decode cX11_code 34 = .ok (.getfield 70, 3) := by decide +kernel
theorem dX11_code_37 : decode cX11_code 37 = .ok (.iload_n 1, 1) := by decide +kernel
theorem dX11_code_38 : decode cX11_code 38 = .ok (.aload_n 0, 1) := by decide +kernel
theorem dX11_code_39 : decode cX11_code 39 = .ok (.getfield 11, 3) := by decide +kernel
theorem dX11_code_42 : decode cX11_code 42 = .ok (.iload_n 2, 1) := by decide +kernel
theorem dX11_code_43 : decode cX11_code 43 = .ok (.aaload, 1) := by decide +kernel
theorem dX11_code_44 : decode cX11_code 44 = .ok (.iconst 0, 1) := by decide +kernel
theorem dX11_code_45 : decode cX11_code 45 = .ok (.aload_n 0, 1) := by decide +kernel
theorem dX11_code_46 : decode cX11_code 46 = .ok (.getfield 11, 3) := by decide +kernel
theorem dX11_code_49 : decode cX11_code 49 = .ok (.iload_n 2, 1) := by decide +kernel
theorem dX11_code_50 : decode cX11_code 50 = .ok (.aaload, 1) := by decide +kernel
theorem dX11_code_51 : decode cX11_code 51 = .ok (.getfield 113, 3) := by decide +kernel
theorem dX11_code_54 : decode cX11_code 54 = .ok (.invokevirtual 223, 3) := by decide +kernel
theorem dX11_code_57 : decode cX11_code 57 = .ok (.aload_n 0, 1) := by decide +kernel
theorem dX11_code_58 : decode cX11_code 58 = .ok (.getfield 70, 3) := by decide +kernel
theorem dX11_code_61 : decode cX11_code 61 = .ok (.aload_n 0, 1) := by decide +kernel
theorem dX11_code_62 : decode cX11_code 62 = .ok (.getfield 11, 3) := by decide +kernel
theorem dX11_code_65 : decode cX11_code 65 = .ok (.iload_n 3, 1) := by decide +kernel
theorem dX11_code_66 : decode cX11_code 66 = .ok (.aaload, 1) := by decide +kernel
theorem dX11_code_67 : decode cX11_code 67 = .ok (.iconst 0, 1) := by decide +kernel
theorem dX11_code_68 : decode cX11_code 68 = .ok (.aload_n 0, 1) := by decide +kernel
theorem dX11_code_69 : decode cX11_code 69 = .ok (.getfield 11, 3) := by decide +kernel
theorem dX11_code_72 : decode cX11_code 72 = .ok (.iload_n 3, 1) := by decide +kernel
theorem dX11_code_73 : decode cX11_code 73 = .ok (.aaload, 1) := by decide +kernel
theorem dX11_code_74 : decode cX11_code 74 = .ok (.getfield 113, 3) := by decide +kernel
theorem dX11_code_77 : decode cX11_code 77 = .ok (.invokevirtual 217, 3) := by decide +kernel
theorem dX11_code_80 : decode cX11_code 80 = .ok (.aload_n 0, 1) := by decide +kernel
theorem dX11_code_81 : decode cX11_code 81 = .ok (.getfield 22, 3) := by decide +kernel
theorem dX11_code_84 : decode cX11_code 84 = .ok (.invokevirtual 131, 3) := by decide +kernel
theorem dX11_code_87 : decode cX11_code 87 = .ok (.aload_n 0, 1) := by decide +kernel
theorem dX11_code_88 : decode cX11_code 88 = .ok (.getfield 70, 3) := by decide +kernel
theorem dX11_code_91 : decode cX11_code 91 = .ok (.aload_n 0, 1) := by decide +kernel
theorem dX11_code_92 : decode cX11_code 92 = .ok (.getfield 22, 3) := by decide +kernel
theorem dX11_code_95 : decode cX11_code 95 = .ok (.invokevirtual 227, 3) := by decide +kernel
theorem dX11_code_98 : decode cX11_code 98 = .ok (.aload_n 0, 1) := by decide +kernel
theorem dX11_code_99 : decode cX11_code 99 = .ok (.getfield 22, 3) := by decide +kernel
theorem dX11_code_102 : decode cX11_code 102 = .ok (.getfield 113, 3) := by decide +kernel
theorem dX11_code_105 : decode cX11_code 105 = .ok (.ireturn, 1) := by decide +kernel
abbrev rmX11_code : Room := { frames := 4, cells := 0, slots := 0, locals := 117 }
set_option maxHeartbeats 4000000 in
set_option maxRecDepth 100000 in
theorem wB_X11_code_14 {G : Nat → Nat} {F : Nat} {x : mXT} {sz : Nat} {r0 : Int32} {M0 : mM} (X : mCX G RX11 cX11_code 4 (some .int) "code" rmX11_code x) (hQ : mQI x r0 M0 (sz, 0, 0)) {l0 : Nat} {l1 : Int32} {l2 : Int32} {l3 : Int32} {M : mM} (h : B_X11_code_14 G F l0 l1 l2 l3 M = some (r0, M0)) : WW x (sz, 0, 0) M 14 [(0, .ref l0), (1, .int l1), (2, .int l2), (3, .int l3)] [] := by
  unfold B_X11_code_14 at h
  refine ww_aload_n 14 X dX11_code_14 0 rfl rfl ?_
  refine ww_iload_n 15 X dX11_code_15 2 rfl rfl ?_
  obtain ⟨_, f16, h⟩ := bO_some h
  obtain ⟨v16, M16, e16, h⟩ := bP_some h
  refine ww_callVI0 16 X dX11_code_16 mY_X11_isRow mL_X11_123 (rcv_spec f16) ⟨_, _, rfl⟩ (by decide) (As := [.int l2]) (rest := []) rfl rfl ⟨Nat.le_of_ble_eq_true rfl, Nat.le_of_ble_eq_true rfl⟩ (Nat.le_of_ble_eq_true rfl) (fun l D A => c_X11_isRow l D A e16) ?_
  refine ww_if_eq 19 30 X dX11_code_19 (by decide) (fun q => ?_) (fun q => ?_)
  · replace h := (if_pos q).symm.trans h
    refine ww_bipush 30 X (v := (-2 : Int32)) dX11_code_30 (by decide) ?_
    exact ww_iretE 32 X hQ dX11_code_32 h
  · replace h := (if_neg q).symm.trans h
    refine ww_aload_n 22 X dX11_code_22 0 rfl rfl ?_
    refine ww_iload_n 23 X dX11_code_23 3 rfl rfl ?_
    obtain ⟨_, f24, h⟩ := bO_some h
    obtain ⟨v24, M24, e24, h⟩ := bP_some h
    refine ww_callVI0 24 X dX11_code_24 mY_X11_isRow mL_X11_123 (rcv_spec f24) ⟨_, _, rfl⟩ (by decide) (As := [.int l3]) (rest := []) rfl rfl ⟨Nat.le_of_ble_eq_true rfl, Nat.le_of_ble_eq_true rfl⟩ (Nat.le_of_ble_eq_true rfl) (fun l D A => c_X11_isRow l D A e24) ?_
    refine ww_if_ne 27 33 X dX11_code_27 (by decide) (fun q => ?_) (fun q => ?_)
    · replace h := (if_neg q).symm.trans h
      refine ww_aload_n 33 X dX11_code_33 0 rfl rfl ?_
      obtain ⟨v34, e34, h⟩ := bO_some h
      refine ww_getR 34 X dX11_code_34 fG_X11_70 e34 ?_
      refine ww_iload_n 37 X dX11_code_37 1 rfl rfl ?_
      refine ww_aload_n 38 X dX11_code_38 0 rfl rfl ?_
      obtain ⟨v39, e39, h⟩ := bO_some h
      refine ww_getR 39 X dX11_code_39 fG_X11_11 e39 ?_
      refine ww_iload_n 42 X dX11_code_42 2 rfl rfl ?_
      obtain ⟨v43, e43, h⟩ := bO_some h
      refine ww_aald4 43 X dX11_code_43 e43 ?_
      refine ww_iconst 44 X (v := (0 : Int32)) dX11_code_44 (by decide) ?_
      refine ww_aload_n 45 X dX11_code_45 0 rfl rfl ?_
      obtain ⟨v46, e46, h⟩ := bO_some h
      refine ww_getR 46 X dX11_code_46 fG_X11_11 e46 ?_
      refine ww_iload_n 49 X dX11_code_49 2 rfl rfl ?_
      obtain ⟨v50, e50, h⟩ := bO_some h
      refine ww_aald4 50 X dX11_code_50 e50 ?_
      obtain ⟨v51, e51, h⟩ := bO_some h
      refine ww_getI 51 X dX11_code_51 fG_X11_113 e51 ?_
      obtain ⟨_, f54, h⟩ := bO_some h
      obtain ⟨M54, e54, h⟩ := bO_some h
      refine ww_callVV0 54 X dX11_code_54 mY_X4_startCode mL_X11_223 (rcv_spec f54) ⟨_, _, rfl⟩ (by decide) (As := [.int l1, .ref v43, .int (0 : Int32), .int v51]) (rest := []) rfl rfl ⟨Nat.le_of_ble_eq_true rfl, Nat.le_of_ble_eq_true rfl⟩ (Nat.le_of_ble_eq_true rfl) (fun l D A => c_X4_startCode l D A e54) ?_
      refine ww_aload_n 57 X dX11_code_57 0 rfl rfl ?_
      obtain ⟨v58, e58, h⟩ := bO_some h
      refine ww_getR 58 X dX11_code_58 fG_X11_70 e58 ?_
      refine ww_aload_n 61 X dX11_code_61 0 rfl rfl ?_
      obtain ⟨v62, e62, h⟩ := bO_some h
      refine ww_getR 62 X dX11_code_62 fG_X11_11 e62 ?_
      refine ww_iload_n 65 X dX11_code_65 3 rfl rfl ?_
      obtain ⟨v66, e66, h⟩ := bO_some h
      refine ww_aald4 66 X dX11_code_66 e66 ?_
      refine ww_iconst 67 X (v := (0 : Int32)) dX11_code_67 (by decide) ?_
      refine ww_aload_n 68 X dX11_code_68 0 rfl rfl ?_
      obtain ⟨v69, e69, h⟩ := bO_some h
      refine ww_getR 69 X dX11_code_69 fG_X11_11 e69 ?_
      refine ww_iload_n 72 X dX11_code_72 3 rfl rfl ?_
      obtain ⟨v73, e73, h⟩ := bO_some h
      refine ww_aald4 73 X dX11_code_73 e73 ?_
      obtain ⟨v74, e74, h⟩ := bO_some h
      refine ww_getI 74 X dX11_code_74 fG_X11_113 e74 ?_
      obtain ⟨_, f77, h⟩ := bO_some h
      obtain ⟨M77, e77, h⟩ := bO_some h
      refine ww_callVV0 77 X dX11_code_77 mY_X4_add mL_X11_217 (rcv_spec f77) ⟨_, _, rfl⟩ (by decide) (As := [.ref v66, .int (0 : Int32), .int v74]) (rest := []) rfl rfl ⟨Nat.le_of_ble_eq_true rfl, Nat.le_of_ble_eq_true rfl⟩ (Nat.le_of_ble_eq_true rfl) (fun l D A => c_X4_add l D A e77) ?_
      refine ww_aload_n 80 X dX11_code_80 0 rfl rfl ?_
      obtain ⟨v81, e81, h⟩ := bO_some h
      refine ww_getR 81 X dX11_code_81 fG_X11_22 e81 ?_
      obtain ⟨_, f84, h⟩ := bO_some h
      obtain ⟨M84, e84, h⟩ := bO_some h
      refine ww_callVV0 84 X dX11_code_84 mY_X0_clear mL_X11_131 (rcv_spec f84) ⟨_, _, rfl⟩ (by decide) (As := []) (rest := []) rfl rfl ⟨Nat.le_of_ble_eq_true rfl, Nat.le_of_ble_eq_true rfl⟩ (Nat.le_of_ble_eq_true rfl) (fun l D A => c_X0_clear l D A e84) ?_
      refine ww_aload_n 87 X dX11_code_87 0 rfl rfl ?_
      obtain ⟨v88, e88, h⟩ := bO_some h
      refine ww_getR 88 X dX11_code_88 fG_X11_70 e88 ?_
      refine ww_aload_n 91 X dX11_code_91 0 rfl rfl ?_
      obtain ⟨v92, e92, h⟩ := bO_some h
      refine ww_getR 92 X dX11_code_92 fG_X11_22 e92 ?_
      obtain ⟨_, f95, h⟩ := bO_some h
      obtain ⟨M95, e95, h⟩ := bO_some h
      refine ww_callVV0 95 X dX11_code_95 mY_X4_finishCode mL_X11_227 (rcv_spec f95) ⟨_, _, rfl⟩ (by decide) (As := [.ref v92]) (rest := []) rfl rfl ⟨Nat.le_of_ble_eq_true rfl, Nat.le_of_ble_eq_true rfl⟩ (Nat.le_of_ble_eq_true rfl) (fun l D A => c_X4_finishCode l D A e95) ?_
      refine ww_aload_n 98 X dX11_code_98 0 rfl rfl ?_
      obtain ⟨v99, e99, h⟩ := bO_some h
      refine ww_getR 99 X dX11_code_99 fG_X11_22 e99 ?_
      obtain ⟨v102, e102, h⟩ := bO_some h
      refine ww_getI 102 X dX11_code_102 fG_X11_113 e102 ?_
      exact ww_iretE 105 X hQ dX11_code_105 h
    · replace h := (if_pos q).symm.trans h
      refine ww_bipush 30 X (v := (-2 : Int32)) dX11_code_30 (by decide) ?_
      exact ww_iretE 32 X hQ dX11_code_32 h
set_option maxHeartbeats 4000000 in
set_option maxRecDepth 100000 in
theorem wP_X11_code {G : Nat → Nat} {F : Nat} {x : mXT} {sz : Nat} {r0 : Int32} {M0 : mM} (X : mCX G RX11 cX11_code 4 (some .int) "code" rmX11_code x) (hQ : mQI x r0 M0 (sz, 0, 0)) {l0 : Nat} {l1 : Int32} {l2 : Int32} {l3 : Int32} {M : mM} (h : P_X11_code G F l0 l1 l2 l3 M = some (r0, M0)) : WW x (sz, 0, 0) M 0 [(0, .ref l0), (1, .int l1), (2, .int l2), (3, .int l3)] [] := by
  unfold P_X11_code at h
  refine ww_iload_n 0 X dX11_code_0 1 rfl rfl ?_
  refine ww_sipush 1 X (v := (256 : Int32)) dX11_code_1 (by decide) ?_
  refine ww_icmp_eq 4 14 X dX11_code_4 (by decide) (fun q => ?_) (fun q => ?_)
  · replace h := (if_pos q).symm.trans h
    exact (wB_X11_code_14 X hQ h)
  · replace h := (if_neg q).symm.trans h
    refine ww_iload_n 7 X dX11_code_7 1 rfl rfl ?_
    refine ww_sipush 8 X (v := (512 : Int32)) dX11_code_8 (by decide) ?_
    refine ww_icmp_ne 11 30 X dX11_code_11 (by decide) (fun q => ?_) (fun q => ?_)
    · replace h := (if_neg q).symm.trans h
      refine ww_bipush 30 X (v := (-2 : Int32)) dX11_code_30 (by decide) ?_
      exact ww_iretE 32 X hQ dX11_code_32 h
    · replace h := (if_pos q).symm.trans h
      exact (wB_X11_code_14 X hQ h)
theorem c_X11_code {G : Nat → Nat} {F sz : Nat} {r0 : Int32} {M0 : mM} (l : Launch) (D : mD) (A : Nat → Prop) {l0 : Nat} {l1 : Int32} {l2 : Int32} {l3 : Int32} {M : mM} (h : P_X11_code G F l0 l1 l2 l3 M = some (r0, M0)) : mMetI l D G A yX11_code cX11_code 4 (some .int) 4 117 0 0 [.ref l0, .int l1, .int l2, .int l3] M sz r0 M0 sz := mMetI_of l D G A (by decide) (Nat.le_of_ble_eq_true rfl) (fun x X hQ => wP_X11_code X hQ h)
/-! SealedTokens.isCipherKey(I)Z -/
theorem dX11_isCipherKey_0 : decode cX11_isCipherKey 0 = .ok (.aload_n 0, 1) := by decide +kernel
theorem dX11_isCipherKey_1 : decode cX11_isCipherKey 1 = .ok (.iload_n 1, 1) := by decide +kernel
theorem dX11_isCipherKey_2 : decode cX11_isCipherKey 2 = .ok (.invokevirtual 123, 3) := by decide +kernel
theorem dX11_isCipherKey_5 : decode cX11_isCipherKey 5 = .ok (.ifCond .eq 35, 3) := by decide +kernel
theorem dX11_isCipherKey_8 : decode cX11_isCipherKey 8 = .ok (.aload_n 0, 1) := by decide +kernel
theorem dX11_isCipherKey_9 : decode cX11_isCipherKey 9 = .ok (.getfield 11, 3) := by decide +kernel
theorem dX11_isCipherKey_12 : decode cX11_isCipherKey 12 = .ok (.iload_n 1, 1) := by decide +kernel
theorem dX11_isCipherKey_13 : decode cX11_isCipherKey 13 = .ok (.aaload, 1) := by decide +kernel
theorem dX11_isCipherKey_14 : decode cX11_isCipherKey 14 = .ok (.getfield 113, 3) := by decide +kernel
theorem dX11_isCipherKey_17 : decode cX11_isCipherKey 17 = .ok (.bipush 16, 2) := by decide +kernel
theorem dX11_isCipherKey_19 : decode cX11_isCipherKey 19 = .ok (.if_icmp .eq 17, 3) := by decide +kernel
theorem dX11_isCipherKey_22 : decode cX11_isCipherKey 22 = .ok (.aload_n 0, 1) := by decide +kernel
theorem dX11_isCipherKey_23 : decode cX11_isCipherKey 23 = .ok (.getfield 11, 3) := by decide +kernel
theorem dX11_isCipherKey_26 : decode cX11_isCipherKey 26 = .ok (.iload_n 1, 1) := by decide +kernel
theorem dX11_isCipherKey_27 : decode cX11_isCipherKey 27 = .ok (.aaload, 1) := by decide +kernel
theorem dX11_isCipherKey_28 : decode cX11_isCipherKey 28 = .ok (.getfield 113, 3) := by decide +kernel
theorem dX11_isCipherKey_31 : decode cX11_isCipherKey 31 = .ok (.bipush 32, 2) := by decide +kernel
theorem dX11_isCipherKey_33 : decode cX11_isCipherKey 33 = .ok (.if_icmp .ne 7, 3) := by decide +kernel
theorem dX11_isCipherKey_36 : decode cX11_isCipherKey 36 = .ok (.iconst 1, 1) := by decide +kernel
theorem dX11_isCipherKey_37 : decode cX11_isCipherKey 37 = .ok (.goto 4, 3) := by decide +kernel
theorem dX11_isCipherKey_40 : decode cX11_isCipherKey 40 = .ok (.iconst 0, 1) := by decide +kernel
theorem dX11_isCipherKey_41 : decode cX11_isCipherKey 41 = .ok (.ireturn, 1) := by decide +kernel
abbrev rmX11_isCipherKey : Room := { frames := 1, cells := 0, slots := 0, locals := 21 }
set_option maxHeartbeats 4000000 in
set_option maxRecDepth 100000 in
theorem wP_X11_isCipherKey {G : Nat → Nat} {F : Nat} {x : mXT} {sz : Nat} {r0 : Int32} {M0 : mM} (X : mCX G RX11 cX11_isCipherKey 2 (some .boolean) "isCipherKey" rmX11_isCipherKey x) (hQ : mQI x r0 M0 (sz, 0, 0)) {l0 : Nat} {l1 : Int32} {M : mM} (h : P_X11_isCipherKey G F l0 l1 M = some (r0, M0)) : WW x (sz, 0, 0) M 0 [(0, .ref l0), (1, .int l1)] [] := by
  unfold P_X11_isCipherKey at h
  refine ww_aload_n 0 X dX11_isCipherKey_0 0 rfl rfl ?_
  refine ww_iload_n 1 X dX11_isCipherKey_1 1 rfl rfl ?_
  obtain ⟨_, f2, h⟩ := bO_some h
  obtain ⟨v2, M2, e2, h⟩ := bP_some h
  refine ww_callVI0 2 X dX11_isCipherKey_2 mY_X11_isRow mL_X11_123 (rcv_spec f2) ⟨_, _, rfl⟩ (by decide) (As := [.int l1]) (rest := []) rfl rfl ⟨Nat.le_of_ble_eq_true rfl, Nat.le_of_ble_eq_true rfl⟩ (Nat.le_of_ble_eq_true rfl) (fun l D A => c_X11_isRow l D A e2) ?_
  refine ww_if_eq 5 40 X dX11_isCipherKey_5 (by decide) (fun q => ?_) (fun q => ?_)
  · replace h := (if_pos q).symm.trans h
    refine ww_iconst 40 X (v := (0 : Int32)) dX11_isCipherKey_40 (by decide) ?_
    exact ww_zretE 41 X hQ dX11_isCipherKey_41 h
  · replace h := (if_neg q).symm.trans h
    refine ww_aload_n 8 X dX11_isCipherKey_8 0 rfl rfl ?_
    obtain ⟨v9, e9, h⟩ := bO_some h
    refine ww_getR 9 X dX11_isCipherKey_9 fG_X11_11 e9 ?_
    refine ww_iload_n 12 X dX11_isCipherKey_12 1 rfl rfl ?_
    obtain ⟨v13, e13, h⟩ := bO_some h
    refine ww_aald4 13 X dX11_isCipherKey_13 e13 ?_
    obtain ⟨v14, e14, h⟩ := bO_some h
    refine ww_getI 14 X dX11_isCipherKey_14 fG_X11_113 e14 ?_
    refine ww_bipush 17 X (v := (16 : Int32)) dX11_isCipherKey_17 (by decide) ?_
    refine ww_icmp_eq 19 36 X dX11_isCipherKey_19 (by decide) (fun q => ?_) (fun q => ?_)
    · replace h := (if_pos q).symm.trans h
      refine ww_iconst 36 X (v := (1 : Int32)) dX11_isCipherKey_36 (by decide) ?_
      refine ww_goto 37 41 X dX11_isCipherKey_37 (by decide) ?_
      exact ww_zretE 41 X hQ dX11_isCipherKey_41 h
    · replace h := (if_neg q).symm.trans h
      refine ww_aload_n 22 X dX11_isCipherKey_22 0 rfl rfl ?_
      obtain ⟨v23, e23, h⟩ := bO_some h
      refine ww_getR 23 X dX11_isCipherKey_23 fG_X11_11 e23 ?_
      refine ww_iload_n 26 X dX11_isCipherKey_26 1 rfl rfl ?_
      obtain ⟨v27, e27, h⟩ := bO_some h
      refine ww_aald4 27 X dX11_isCipherKey_27 e27 ?_
      obtain ⟨v28, e28, h⟩ := bO_some h
      refine ww_getI 28 X dX11_isCipherKey_28 fG_X11_113 e28 ?_
      refine ww_bipush 31 X (v := (32 : Int32)) dX11_isCipherKey_31 (by decide) ?_
      refine ww_icmp_ne 33 40 X dX11_isCipherKey_33 (by decide) (fun q => ?_) (fun q => ?_)
      · replace h := (if_neg q).symm.trans h
        refine ww_iconst 40 X (v := (0 : Int32)) dX11_isCipherKey_40 (by decide) ?_
        exact ww_zretE 41 X hQ dX11_isCipherKey_41 h
      · replace h := (if_pos q).symm.trans h
        refine ww_iconst 36 X (v := (1 : Int32)) dX11_isCipherKey_36 (by decide) ?_
        refine ww_goto 37 41 X dX11_isCipherKey_37 (by decide) ?_
        exact ww_zretE 41 X hQ dX11_isCipherKey_41 h
theorem c_X11_isCipherKey {G : Nat → Nat} {F sz : Nat} {r0 : Int32} {M0 : mM} (l : Launch) (D : mD) (A : Nat → Prop) {l0 : Nat} {l1 : Int32} {M : mM} (h : P_X11_isCipherKey G F l0 l1 M = some (r0, M0)) : mMetI l D G A yX11_isCipherKey cX11_isCipherKey 2 (some .boolean) 1 21 0 0 [.ref l0, .int l1] M sz r0 M0 sz := mMetI_of l D G A (by decide) (Nat.le_of_ble_eq_true rfl) (fun x X hQ => wP_X11_isCipherKey X hQ h)
/-! SealedTokens.block(IIZ)I -/
theorem dX11_block_0 : decode cX11_block 0 = .ok (.aload_n 0, 1) := by decide +kernel
theorem dX11_block_1 : decode cX11_block 1 = .ok (.iload_n 1, 1) := by decide +kernel
theorem dX11_block_2 : decode cX11_block 2 = .ok (.invokevirtual 230, 3) := by decide +kernel
theorem dX11_block_5 : decode cX11_block 5 = .ok (.ifCond .eq 25, 3) := by decide +kernel
theorem dX11_block_8 : decode cX11_block 8 = .ok (.aload_n 0, 1) := by decide +kernel
theorem dX11_block_9 : decode cX11_block 9 = .ok (.iload_n 2, 1) := by decide +kernel
theorem dX11_block_10 : decode cX11_block 10 = .ok (.invokevirtual 123, 3) := by decide +kernel
theorem dX11_block_13 : decode cX11_block 13 = .ok (.ifCond .eq 17, 3) := by decide +kernel
theorem dX11_block_16 : decode cX11_block 16 = .ok (.aload_n 0, 1) := by decide +kernel
theorem dX11_block_17 : decode cX11_block 17 = .ok (.getfield 11, 3) := by decide +kernel
theorem dX11_block_20 : decode cX11_block 20 = .ok (.iload_n 2, 1) := by decide +kernel
theorem dX11_block_21 : decode cX11_block 21 = .ok (.aaload, 1) := by decide +kernel
theorem dX11_block_22 : decode cX11_block 22 = .ok (.getfield 113, 3) := by decide +kernel
theorem dX11_block_25 : decode cX11_block 25 = .ok (.bipush 16, 2) := by decide +kernel
theorem dX11_block_27 : decode cX11_block 27 = .ok (.if_icmp .eq 6, 3) := by decide +kernel
theorem dX11_block_30 : decode cX11_block 30 = .ok (.bipush (-2), 2) := by decide +kernel
theorem dX11_block_32 : decode cX11_block 32 = .ok (.ireturn, 1) := by decide +kernel
theorem dX11_block_33 : decode cX11_block 33 = .ok (.aload_n 0, 1) := by decide +kernel
theorem dX11_block_34 : decode cX11_block 34 = .ok (.getfield 77, 3) := by decide +kernel
theorem dX11_block_37 : decode cX11_block 37 = .ok (.aload_n 0, 1) := by decide +kernel
theorem dX11_block_38 : decode cX11_block 38 = .ok (.getfield 11, 3) := by decide +kernel
theorem dX11_block_41 : decode cX11_block 41 = .ok (.iload_n 1, 1) := by decide +kernel
theorem dX11_block_42 : decode cX11_block 42 = .ok (.aaload, 1) := by decide +kernel
theorem dX11_block_43 : decode cX11_block 43 = .ok (.iconst 0, 1) := by decide +kernel
theorem dX11_block_44 : decode cX11_block 44 = .ok (.aload_n 0, 1) := by decide +kernel
theorem dX11_block_45 : decode cX11_block 45 = .ok (.getfield 11, 3) := by decide +kernel
theorem dX11_block_48 : decode cX11_block 48 = .ok (.iload_n 1, 1) := by decide +kernel
theorem dX11_block_49 : decode cX11_block 49 = .ok (.aaload, 1) := by decide +kernel
theorem dX11_block_50 : decode cX11_block 50 = .ok (.getfield 113, 3) := by decide +kernel
theorem dX11_block_53 : decode cX11_block 53 = .ok (.invokevirtual 233, 3) := by decide +kernel
theorem dX11_block_56 : decode cX11_block 56 = .ok (.aload_n 0, 1) := by decide +kernel
theorem dX11_block_57 : decode cX11_block 57 = .ok (.getfield 22, 3) := by decide +kernel
theorem dX11_block_60 : decode cX11_block 60 = .ok (.invokevirtual 131, 3) := by decide +kernel
theorem dX11_block_63 : decode cX11_block 63 = .ok (.aload_n 0, 1) := by decide +kernel
theorem dX11_block_64 : decode cX11_block 64 = .ok (.getfield 77, 3) := by decide +kernel
theorem dX11_block_67 : decode cX11_block 67 = .ok (.aload_n 0, 1) := by decide +kernel
theorem dX11_block_68 : decode cX11_block 68 = .ok (.getfield 11, 3) := by decide +kernel
theorem dX11_block_71 : decode cX11_block 71 = .ok (.iload_n 2, 1) := by decide +kernel
theorem dX11_block_72 : decode cX11_block 72 = .ok (.aaload, 1) := by decide +kernel
theorem dX11_block_73 : decode cX11_block 73 = .ok (.iload_n 3, 1) := by decide +kernel
theorem dX11_block_74 : decode cX11_block 74 = .ok (.aload_n 0, 1) := by decide +kernel
theorem dX11_block_75 : decode cX11_block 75 = .ok (.getfield 22, 3) := by decide +kernel
theorem dX11_block_78 : decode cX11_block 78 = .ok (.invokevirtual 235, 3) := by decide +kernel
theorem dX11_block_81 : decode cX11_block 81 = .ok (.aload_n 0, 1) := by decide +kernel
theorem dX11_block_82 : decode cX11_block 82 = .ok (.getfield 22, 3) := by decide +kernel
theorem dX11_block_85 : decode cX11_block 85 = .ok (.getfield 113, 3) := by decide +kernel
theorem dX11_block_88 : decode cX11_block 88 = .ok (.ireturn, 1) := by decide +kernel
abbrev rmX11_block : Room := { frames := 5, cells := 0, slots := 0, locals := 113 }
set_option maxHeartbeats 4000000 in
set_option maxRecDepth 100000 in
theorem wP_X11_block {G : Nat → Nat} {F : Nat} {x : mXT} {sz : Nat} {r0 : Int32} {M0 : mM} (X : mCX G RX11 cX11_block 4 (some .int) "block" rmX11_block x) (hQ : mQI x r0 M0 (sz, 0, 0)) {l0 : Nat} {l1 : Int32} {l2 : Int32} {l3 : Int32} {M : mM} (h : P_X11_block G F l0 l1 l2 l3 M = some (r0, M0)) : WW x (sz, 0, 0) M 0 [(0, .ref l0), (1, .int l1), (2, .int l2), (3, .int l3)] [] := by
  unfold P_X11_block at h
  refine ww_aload_n 0 X dX11_block_0 0 rfl rfl ?_
  refine ww_iload_n 1 X dX11_block_1 1 rfl rfl ?_
  obtain ⟨_, f2, h⟩ := bO_some h
  obtain ⟨v2, M2, e2, h⟩ := bP_some h
  refine ww_callVI0 2 X dX11_block_2 mY_X11_isCipherKey mL_X11_230 (rcv_spec f2) ⟨_, _, rfl⟩ (by decide) (As := [.int l1]) (rest := []) rfl rfl ⟨Nat.le_of_ble_eq_true rfl, Nat.le_of_ble_eq_true rfl⟩ (Nat.le_of_ble_eq_true rfl) (fun l D A => c_X11_isCipherKey l D A e2) ?_
  refine ww_if_eq 5 30 X dX11_block_5 (by decide) (fun q => ?_) (fun q => ?_)
  · replace h := (if_pos q).symm.trans h
    refine ww_bipush 30 X (v := (-2 : Int32)) dX11_block_30 (by decide) ?_
    exact ww_iretE 32 X hQ dX11_block_32 h
  · replace h := (if_neg q).symm.trans h
    refine ww_aload_n 8 X dX11_block_8 0 rfl rfl ?_
    refine ww_iload_n 9 X dX11_block_9 2 rfl rfl ?_
    obtain ⟨_, f10, h⟩ := bO_some h
    obtain ⟨v10, M10, e10, h⟩ := bP_some h
    refine ww_callVI0 10 X dX11_block_10 mY_X11_isRow mL_X11_123 (rcv_spec f10) ⟨_, _, rfl⟩ (by decide) (As := [.int l2]) (rest := []) rfl rfl ⟨Nat.le_of_ble_eq_true rfl, Nat.le_of_ble_eq_true rfl⟩ (Nat.le_of_ble_eq_true rfl) (fun l D A => c_X11_isRow l D A e10) ?_
    refine ww_if_eq 13 30 X dX11_block_13 (by decide) (fun q => ?_) (fun q => ?_)
    · replace h := (if_pos q).symm.trans h
      refine ww_bipush 30 X (v := (-2 : Int32)) dX11_block_30 (by decide) ?_
      exact ww_iretE 32 X hQ dX11_block_32 h
    · replace h := (if_neg q).symm.trans h
      refine ww_aload_n 16 X dX11_block_16 0 rfl rfl ?_
      obtain ⟨v17, e17, h⟩ := bO_some h
      refine ww_getR 17 X dX11_block_17 fG_X11_11 e17 ?_
      refine ww_iload_n 20 X dX11_block_20 2 rfl rfl ?_
      obtain ⟨v21, e21, h⟩ := bO_some h
      refine ww_aald4 21 X dX11_block_21 e21 ?_
      obtain ⟨v22, e22, h⟩ := bO_some h
      refine ww_getI 22 X dX11_block_22 fG_X11_113 e22 ?_
      refine ww_bipush 25 X (v := (16 : Int32)) dX11_block_25 (by decide) ?_
      refine ww_icmp_eq 27 33 X dX11_block_27 (by decide) (fun q => ?_) (fun q => ?_)
      · replace h := (if_pos q).symm.trans h
        refine ww_aload_n 33 X dX11_block_33 0 rfl rfl ?_
        obtain ⟨v34, e34, h⟩ := bO_some h
        refine ww_getR 34 X dX11_block_34 fG_X11_77 e34 ?_
        refine ww_aload_n 37 X dX11_block_37 0 rfl rfl ?_
        obtain ⟨v38, e38, h⟩ := bO_some h
        refine ww_getR 38 X dX11_block_38 fG_X11_11 e38 ?_
        refine ww_iload_n 41 X dX11_block_41 1 rfl rfl ?_
        obtain ⟨v42, e42, h⟩ := bO_some h
        refine ww_aald4 42 X dX11_block_42 e42 ?_
        refine ww_iconst 43 X (v := (0 : Int32)) dX11_block_43 (by decide) ?_
        refine ww_aload_n 44 X dX11_block_44 0 rfl rfl ?_
        obtain ⟨v45, e45, h⟩ := bO_some h
        refine ww_getR 45 X dX11_block_45 fG_X11_11 e45 ?_
        refine ww_iload_n 48 X dX11_block_48 1 rfl rfl ?_
        obtain ⟨v49, e49, h⟩ := bO_some h
        refine ww_aald4 49 X dX11_block_49 e49 ?_
        obtain ⟨v50, e50, h⟩ := bO_some h
        refine ww_getI 50 X dX11_block_50 fG_X11_113 e50 ?_
        obtain ⟨_, f53, h⟩ := bO_some h
        obtain ⟨M53, e53, h⟩ := bO_some h
        refine ww_callVV0 53 X dX11_block_53 mY_X1_become mL_X11_233 (rcv_spec f53) ⟨_, _, rfl⟩ (by decide) (As := [.ref v42, .int (0 : Int32), .int v50]) (rest := []) rfl rfl ⟨Nat.le_of_ble_eq_true rfl, Nat.le_of_ble_eq_true rfl⟩ (Nat.le_of_ble_eq_true rfl) (fun l D A => c_X1_become l D A e53) ?_
        refine ww_aload_n 56 X dX11_block_56 0 rfl rfl ?_
        obtain ⟨v57, e57, h⟩ := bO_some h
        refine ww_getR 57 X dX11_block_57 fG_X11_22 e57 ?_
        obtain ⟨_, f60, h⟩ := bO_some h
        obtain ⟨M60, e60, h⟩ := bO_some h
        refine ww_callVV0 60 X dX11_block_60 mY_X0_clear mL_X11_131 (rcv_spec f60) ⟨_, _, rfl⟩ (by decide) (As := []) (rest := []) rfl rfl ⟨Nat.le_of_ble_eq_true rfl, Nat.le_of_ble_eq_true rfl⟩ (Nat.le_of_ble_eq_true rfl) (fun l D A => c_X0_clear l D A e60) ?_
        refine ww_aload_n 63 X dX11_block_63 0 rfl rfl ?_
        obtain ⟨v64, e64, h⟩ := bO_some h
        refine ww_getR 64 X dX11_block_64 fG_X11_77 e64 ?_
        refine ww_aload_n 67 X dX11_block_67 0 rfl rfl ?_
        obtain ⟨v68, e68, h⟩ := bO_some h
        refine ww_getR 68 X dX11_block_68 fG_X11_11 e68 ?_
        refine ww_iload_n 71 X dX11_block_71 2 rfl rfl ?_
        obtain ⟨v72, e72, h⟩ := bO_some h
        refine ww_aald4 72 X dX11_block_72 e72 ?_
        refine ww_iload_n 73 X dX11_block_73 3 rfl rfl ?_
        refine ww_aload_n 74 X dX11_block_74 0 rfl rfl ?_
        obtain ⟨v75, e75, h⟩ := bO_some h
        refine ww_getR 75 X dX11_block_75 fG_X11_22 e75 ?_
        obtain ⟨_, f78, h⟩ := bO_some h
        obtain ⟨M78, e78, h⟩ := bO_some h
        refine ww_callVV0 78 X dX11_block_78 mY_X1_putBlock mL_X11_235 (rcv_spec f78) ⟨_, _, rfl⟩ (by decide) (As := [.ref v72, .int l3, .ref v75]) (rest := []) rfl rfl ⟨Nat.le_of_ble_eq_true rfl, Nat.le_of_ble_eq_true rfl⟩ (Nat.le_of_ble_eq_true rfl) (fun l D A => c_X1_putBlock l D A e78) ?_
        refine ww_aload_n 81 X dX11_block_81 0 rfl rfl ?_
        obtain ⟨v82, e82, h⟩ := bO_some h
        refine ww_getR 82 X dX11_block_82 fG_X11_22 e82 ?_
        obtain ⟨v85, e85, h⟩ := bO_some h
        refine ww_getI 85 X dX11_block_85 fG_X11_113 e85 ?_
        exact ww_iretE 88 X hQ dX11_block_88 h
      · replace h := (if_neg q).symm.trans h
        refine ww_bipush 30 X (v := (-2 : Int32)) dX11_block_30 (by decide) ?_
        exact ww_iretE 32 X hQ dX11_block_32 h
theorem c_X11_block {G : Nat → Nat} {F sz : Nat} {r0 : Int32} {M0 : mM} (l : Launch) (D : mD) (A : Nat → Prop) {l0 : Nat} {l1 : Int32} {l2 : Int32} {l3 : Int32} {M : mM} (h : P_X11_block G F l0 l1 l2 l3 M = some (r0, M0)) : mMetI l D G A yX11_block cX11_block 4 (some .int) 5 113 0 0 [.ref l0, .int l1, .int l2, .int l3] M sz r0 M0 sz := mMetI_of l D G A (by decide) (Nat.le_of_ble_eq_true rfl) (fun x X hQ => wP_X11_block X hQ h)
/-! SealedTokens.wrap(II)I -/
theorem dX11_wrap_0 : decode cX11_wrap 0 = .ok (.aload_n 0, 1) := by decide +kernel
theorem dX11_wrap_1 : decode cX11_wrap 1 = .ok (.iload_n 1, 1) := by decide +kernel
theorem dX11_wrap_2 : decode cX11_wrap 2 = .ok (.invokevirtual 230, 3) := by decide +kernel
theorem dX11_wrap_5 : decode cX11_wrap 5 = .ok (.ifCond .eq 26, 3) := by decide +kernel
theorem dX11_wrap_8 : decode cX11_wrap 8 = .ok (.aload_n 0, 1) := by decide +kernel
theorem dX11_wrap_9 : decode cX11_wrap 9 = .ok (.iload_n 2, 1) := by decide +kernel
theorem dX11_wrap_10 : decode cX11_wrap 10 = .ok (.invokevirtual 123, 3) := by decide +kernel
theorem dX11_wrap_13 : decode cX11_wrap 13 = .ok (.ifCond .eq 18, 3) := by decide +kernel
theorem dX11_wrap_16 : decode cX11_wrap 16 = .ok (.aload_n 0, 1) := by decide +kernel
theorem dX11_wrap_17 : decode cX11_wrap 17 = .ok (.getfield 11, 3) := by decide +kernel
theorem dX11_wrap_20 : decode cX11_wrap 20 = .ok (.iload_n 2, 1) := by decide +kernel
theorem dX11_wrap_21 : decode cX11_wrap 21 = .ok (.aaload, 1) := by decide +kernel
theorem dX11_wrap_22 : decode cX11_wrap 22 = .ok (.getfield 113, 3) := by decide +kernel
theorem dX11_wrap_25 : decode cX11_wrap 25 = .ok (.invokestatic 239, 3) := by decide +kernel
theorem dX11_wrap_28 : decode cX11_wrap 28 = .ok (.ifCond .ne 6, 3) := by decide +kernel
theorem dX11_wrap_31 : decode cX11_wrap 31 = .ok (.bipush (-2), 2) := by decide +kernel
theorem dX11_wrap_33 : decode cX11_wrap 33 = .ok (.ireturn, 1) := by decide +kernel
theorem dX11_wrap_34 : decode cX11_wrap 34 = .ok (.aload_n 0, 1) := by decide +kernel
theorem dX11_wrap_35 : decode cX11_wrap 35 = .ok (.getfield 77, 3) := by decide +kernel
theorem dX11_wrap_38 : decode cX11_wrap 38 = .ok (.aload_n 0, 1) := by decide +kernel
theorem dX11_wrap_39 : decode cX11_wrap 39 = .ok (.getfield 11, 3) := by decide +kernel
theorem dX11_wrap_42 : decode cX11_wrap 42 = .ok (.iload_n 1, 1) := by decide +kernel
theorem dX11_wrap_43 : decode cX11_wrap 43 = .ok (.aaload, 1) := by decide +kernel
theorem dX11_wrap_44 : decode cX11_wrap 44 = .ok (.aload_n 0, 1) := by decide +kernel
theorem dX11_wrap_45 : decode cX11_wrap 45 = .ok (.getfield 11, 3) := by decide +kernel
theorem dX11_wrap_48 : decode cX11_wrap 48 = .ok (.iload_n 2, 1) := by decide +kernel
theorem dX11_wrap_49 : decode cX11_wrap 49 = .ok (.aaload, 1) := by decide +kernel
theorem dX11_wrap_50 : decode cX11_wrap 50 = .ok (.aload_n 0, 1) := by decide +kernel
theorem dX11_wrap_51 : decode cX11_wrap 51 = .ok (.getfield 22, 3) := by decide +kernel
theorem dX11_wrap_54 : decode cX11_wrap 54 = .ok (.invokevirtual 242, 3) := by decide +kernel
theorem dX11_wrap_57 : decode cX11_wrap 57 = .ok (.aload_n 0, 1) := by decide +kernel
theorem dX11_wrap_58 : decode cX11_wrap 58 = .ok (.getfield 22, 3) := by decide +kernel
theorem dX11_wrap_61 : decode cX11_wrap 61 = .ok (.getfield 113, 3) := by decide +kernel
theorem dX11_wrap_64 : decode cX11_wrap 64 = .ok (.ireturn, 1) := by decide +kernel
abbrev rmX11_wrap : Room := { frames := 4, cells := 0, slots := 0, locals := 109 }
set_option maxHeartbeats 4000000 in
set_option maxRecDepth 100000 in
theorem wP_X11_wrap {G : Nat → Nat} {F : Nat} {x : mXT} {sz : Nat} {r0 : Int32} {M0 : mM} (X : mCX G RX11 cX11_wrap 3 (some .int) "wrap" rmX11_wrap x) (hQ : mQI x r0 M0 (sz, 0, 0)) {l0 : Nat} {l1 : Int32} {l2 : Int32} {M : mM} (h : P_X11_wrap G F l0 l1 l2 M = some (r0, M0)) : WW x (sz, 0, 0) M 0 [(0, .ref l0), (1, .int l1), (2, .int l2)] [] := by
  unfold P_X11_wrap at h
  refine ww_aload_n 0 X dX11_wrap_0 0 rfl rfl ?_
  refine ww_iload_n 1 X dX11_wrap_1 1 rfl rfl ?_
  obtain ⟨_, f2, h⟩ := bO_some h
  obtain ⟨v2, M2, e2, h⟩ := bP_some h
  refine ww_callVI0 2 X dX11_wrap_2 mY_X11_isCipherKey mL_X11_230 (rcv_spec f2) ⟨_, _, rfl⟩ (by decide) (As := [.int l1]) (rest := []) rfl rfl ⟨Nat.le_of_ble_eq_true rfl, Nat.le_of_ble_eq_true rfl⟩ (Nat.le_of_ble_eq_true rfl) (fun l D A => c_X11_isCipherKey l D A e2) ?_
  refine ww_if_eq 5 31 X dX11_wrap_5 (by decide) (fun q => ?_) (fun q => ?_)
  · replace h := (if_pos q).symm.trans h
    refine ww_bipush 31 X (v := (-2 : Int32)) dX11_wrap_31 (by decide) ?_
    exact ww_iretE 33 X hQ dX11_wrap_33 h
  · replace h := (if_neg q).symm.trans h
    refine ww_aload_n 8 X dX11_wrap_8 0 rfl rfl ?_
    refine ww_iload_n 9 X dX11_wrap_9 2 rfl rfl ?_
    obtain ⟨_, f10, h⟩ := bO_some h
    obtain ⟨v10, M10, e10, h⟩ := bP_some h
    refine ww_callVI0 10 X dX11_wrap_10 mY_X11_isRow mL_X11_123 (rcv_spec f10) ⟨_, _, rfl⟩ (by decide) (As := [.int l2]) (rest := []) rfl rfl ⟨Nat.le_of_ble_eq_true rfl, Nat.le_of_ble_eq_true rfl⟩ (Nat.le_of_ble_eq_true rfl) (fun l D A => c_X11_isRow l D A e10) ?_
    refine ww_if_eq 13 31 X dX11_wrap_13 (by decide) (fun q => ?_) (fun q => ?_)
    · replace h := (if_pos q).symm.trans h
      refine ww_bipush 31 X (v := (-2 : Int32)) dX11_wrap_31 (by decide) ?_
      exact ww_iretE 33 X hQ dX11_wrap_33 h
    · replace h := (if_neg q).symm.trans h
      refine ww_aload_n 16 X dX11_wrap_16 0 rfl rfl ?_
      obtain ⟨v17, e17, h⟩ := bO_some h
      refine ww_getR 17 X dX11_wrap_17 fG_X11_11 e17 ?_
      refine ww_iload_n 20 X dX11_wrap_20 2 rfl rfl ?_
      obtain ⟨v21, e21, h⟩ := bO_some h
      refine ww_aald4 21 X dX11_wrap_21 e21 ?_
      obtain ⟨v22, e22, h⟩ := bO_some h
      refine ww_getI 22 X dX11_wrap_22 fG_X11_113 e22 ?_
      obtain ⟨v25, M25, e25, h⟩ := bP_some h
      refine ww_callSI0 25 X dX11_wrap_25 mY_X1_mayWrap mL_X11_239 (As := [.int v22]) (rest := []) rfl rfl ⟨Nat.le_of_ble_eq_true rfl, Nat.le_of_ble_eq_true rfl⟩ (Nat.le_of_ble_eq_true rfl) (fun l D A => c_X1_mayWrap l D A e25) ?_
      refine ww_if_ne 28 34 X dX11_wrap_28 (by decide) (fun q => ?_) (fun q => ?_)
      · replace h := (if_neg q).symm.trans h
        refine ww_aload_n 34 X dX11_wrap_34 0 rfl rfl ?_
        obtain ⟨v35, e35, h⟩ := bO_some h
        refine ww_getR 35 X dX11_wrap_35 fG_X11_77 e35 ?_
        refine ww_aload_n 38 X dX11_wrap_38 0 rfl rfl ?_
        obtain ⟨v39, e39, h⟩ := bO_some h
        refine ww_getR 39 X dX11_wrap_39 fG_X11_11 e39 ?_
        refine ww_iload_n 42 X dX11_wrap_42 1 rfl rfl ?_
        obtain ⟨v43, e43, h⟩ := bO_some h
        refine ww_aald4 43 X dX11_wrap_43 e43 ?_
        refine ww_aload_n 44 X dX11_wrap_44 0 rfl rfl ?_
        obtain ⟨v45, e45, h⟩ := bO_some h
        refine ww_getR 45 X dX11_wrap_45 fG_X11_11 e45 ?_
        refine ww_iload_n 48 X dX11_wrap_48 2 rfl rfl ?_
        obtain ⟨v49, e49, h⟩ := bO_some h
        refine ww_aald4 49 X dX11_wrap_49 e49 ?_
        refine ww_aload_n 50 X dX11_wrap_50 0 rfl rfl ?_
        obtain ⟨v51, e51, h⟩ := bO_some h
        refine ww_getR 51 X dX11_wrap_51 fG_X11_22 e51 ?_
        obtain ⟨_, f54, h⟩ := bO_some h
        obtain ⟨M54, e54, h⟩ := bO_some h
        refine ww_callVV0 54 X dX11_wrap_54 mY_X1_putWrapped mL_X11_242 (rcv_spec f54) ⟨_, _, rfl⟩ (by decide) (As := [.ref v43, .ref v49, .ref v51]) (rest := []) rfl rfl ⟨Nat.le_of_ble_eq_true rfl, Nat.le_of_ble_eq_true rfl⟩ (Nat.le_of_ble_eq_true rfl) (fun l D A => c_X1_putWrapped l D A e54) ?_
        refine ww_aload_n 57 X dX11_wrap_57 0 rfl rfl ?_
        obtain ⟨v58, e58, h⟩ := bO_some h
        refine ww_getR 58 X dX11_wrap_58 fG_X11_22 e58 ?_
        obtain ⟨v61, e61, h⟩ := bO_some h
        refine ww_getI 61 X dX11_wrap_61 fG_X11_113 e61 ?_
        exact ww_iretE 64 X hQ dX11_wrap_64 h
      · replace h := (if_pos q).symm.trans h
        refine ww_bipush 31 X (v := (-2 : Int32)) dX11_wrap_31 (by decide) ?_
        exact ww_iretE 33 X hQ dX11_wrap_33 h
theorem c_X11_wrap {G : Nat → Nat} {F sz : Nat} {r0 : Int32} {M0 : mM} (l : Launch) (D : mD) (A : Nat → Prop) {l0 : Nat} {l1 : Int32} {l2 : Int32} {M : mM} (h : P_X11_wrap G F l0 l1 l2 M = some (r0, M0)) : mMetI l D G A yX11_wrap cX11_wrap 3 (some .int) 4 109 0 0 [.ref l0, .int l1, .int l2] M sz r0 M0 sz := mMetI_of l D G A (by decide) (Nat.le_of_ble_eq_true rfl) (fun x X hQ => wP_X11_wrap X hQ h)
/-! SealedTokens.unwrap(II)I -/
theorem dX11_unwrap_0 : decode cX11_unwrap 0 = .ok (.aload_n 0, 1) := by decide +kernel
theorem dX11_unwrap_1 : decode cX11_unwrap 1 = .ok (.iload_n 1, 1) := by decide +kernel
theorem dX11_unwrap_2 : decode cX11_unwrap 2 = .ok (.invokevirtual 230, 3) := by decide +kernel
theorem dX11_unwrap_5 : decode cX11_unwrap 5 = .ok (.ifCond .eq 29, 3) := by decide +kernel
theorem dX11_unwrap_8 : decode cX11_unwrap 8 = .ok (.aload_n 0, 1) := by decide +kernel
theorem dX11_unwrap_9 : decode cX11_unwrap 9 = .ok (.iload_n 2, 1) := by decide +kernel
theorem dX11_unwrap_10 : decode cX11_unwrap 10 = .ok (.invokevirtual 123, 3) := by decide +kernel
theorem dX11_unwrap_13 : decode cX11_unwrap 13 = .ok (.ifCond .eq 21, 3) := by decide +kernel
theorem dX11_unwrap_16 : decode cX11_unwrap 16 = .ok (.aload_n 0, 1) := by decide +kernel
theorem dX11_unwrap_17 : decode cX11_unwrap 17 = .ok (.getfield 11, 3) := by decide +kernel
theorem dX11_unwrap_20 : decode cX11_unwrap 20 = .ok (.iload_n 2, 1) := by decide +kernel
theorem dX11_unwrap_21 : decode cX11_unwrap 21 = .ok (.aaload, 1) := by decide +kernel
theorem dX11_unwrap_22 : decode cX11_unwrap 22 = .ok (.getfield 113, 3) := by decide +kernel
theorem dX11_unwrap_25 : decode cX11_unwrap 25 = .ok (.bipush 8, 2) := by decide +kernel
theorem dX11_unwrap_27 : decode cX11_unwrap 27 = .ok (.isub, 1) := by decide +kernel
theorem dX11_unwrap_28 : decode cX11_unwrap 28 = .ok (.invokestatic 239, 3) := by decide +kernel
theorem dX11_unwrap_31 : decode cX11_unwrap 31 = .ok (.ifCond .ne 6, 3) := by decide +kernel
theorem dX11_unwrap_34 : decode cX11_unwrap 34 = .ok (.bipush (-2), 2) := by decide +kernel
theorem dX11_unwrap_36 : decode cX11_unwrap 36 = .ok (.ireturn, 1) := by decide +kernel
theorem dX11_unwrap_37 : decode cX11_unwrap 37 = .ok (.aload_n 0, 1) := by decide +kernel
theorem dX11_unwrap_38 : decode cX11_unwrap 38 = .ok (.getfield 77, 3) := by decide +kernel
theorem dX11_unwrap_41 : decode cX11_unwrap 41 = .ok (.aload_n 0, 1) := by decide +kernel
theorem dX11_unwrap_42 : decode cX11_unwrap 42 = .ok (.getfield 11, 3) := by decide +kernel
theorem dX11_unwrap_45 : decode cX11_unwrap 45 = .ok (.iload_n 1, 1) := by decide +kernel
theorem dX11_unwrap_46 : decode cX11_unwrap 46 = .ok (.aaload, 1) := by decide +kernel
theorem dX11_unwrap_47 : decode cX11_unwrap 47 = .ok (.aload_n 0, 1) := by decide +kernel
theorem dX11_unwrap_48 : decode cX11_unwrap 48 = .ok (.getfield 11, 3) := by decide +kernel
theorem dX11_unwrap_51 : decode cX11_unwrap 51 = .ok (.iload_n 2, 1) := by decide +kernel
theorem dX11_unwrap_52 : decode cX11_unwrap 52 = .ok (.aaload, 1) := by decide +kernel
theorem dX11_unwrap_53 : decode cX11_unwrap 53 = .ok (.aload_n 0, 1) := by decide +kernel
theorem dX11_unwrap_54 : decode cX11_unwrap 54 = .ok (.getfield 22, 3) := by decide +kernel
theorem dX11_unwrap_57 : decode cX11_unwrap 57 = .ok (.invokevirtual 246, 3) := by decide +kernel
theorem dX11_unwrap_60 : decode cX11_unwrap 60 = .ok (.ifCond .eq 13, 3) := by decide +kernel
theorem dX11_unwrap_63 : decode cX11_unwrap 63 = .ok (.aload_n 0, 1) := by decide +kernel
theorem dX11_unwrap_64 : decode cX11_unwrap 64 = .ok (.getfield 22, 3) := by decide +kernel
theorem dX11_unwrap_67 : decode cX11_unwrap 67 = .ok (.getfield 113, 3) := by decide +kernel
theorem dX11_unwrap_70 : decode cX11_unwrap 70 = .ok (.goto 4, 3) := by decide +kernel
theorem dX11_unwrap_73 : decode cX11_unwrap 73 = .ok (.iconst (-1), 1) := by decide +kernel
theorem dX11_unwrap_74 : decode cX11_unwrap 74 = .ok (.ireturn, 1) := by decide +kernel
abbrev rmX11_unwrap : Room := { frames := 5, cells := 0, slots := 0, locals := 116 }
set_option maxHeartbeats 4000000 in
set_option maxRecDepth 100000 in
theorem wP_X11_unwrap {G : Nat → Nat} {F : Nat} {x : mXT} {sz : Nat} {r0 : Int32} {M0 : mM} (X : mCX G RX11 cX11_unwrap 3 (some .int) "unwrap" rmX11_unwrap x) (hQ : mQI x r0 M0 (sz, 0, 0)) {l0 : Nat} {l1 : Int32} {l2 : Int32} {M : mM} (h : P_X11_unwrap G F l0 l1 l2 M = some (r0, M0)) : WW x (sz, 0, 0) M 0 [(0, .ref l0), (1, .int l1), (2, .int l2)] [] := by
  unfold P_X11_unwrap at h
  refine ww_aload_n 0 X dX11_unwrap_0 0 rfl rfl ?_
  refine ww_iload_n 1 X dX11_unwrap_1 1 rfl rfl ?_
  obtain ⟨_, f2, h⟩ := bO_some h
  obtain ⟨v2, M2, e2, h⟩ := bP_some h
  refine ww_callVI0 2 X dX11_unwrap_2 mY_X11_isCipherKey mL_X11_230 (rcv_spec f2) ⟨_, _, rfl⟩ (by decide) (As := [.int l1]) (rest := []) rfl rfl ⟨Nat.le_of_ble_eq_true rfl, Nat.le_of_ble_eq_true rfl⟩ (Nat.le_of_ble_eq_true rfl) (fun l D A => c_X11_isCipherKey l D A e2) ?_
  refine ww_if_eq 5 34 X dX11_unwrap_5 (by decide) (fun q => ?_) (fun q => ?_)
  · replace h := (if_pos q).symm.trans h
    refine ww_bipush 34 X (v := (-2 : Int32)) dX11_unwrap_34 (by decide) ?_
    exact ww_iretE 36 X hQ dX11_unwrap_36 h
  · replace h := (if_neg q).symm.trans h
    refine ww_aload_n 8 X dX11_unwrap_8 0 rfl rfl ?_
    refine ww_iload_n 9 X dX11_unwrap_9 2 rfl rfl ?_
    obtain ⟨_, f10, h⟩ := bO_some h
    obtain ⟨v10, M10, e10, h⟩ := bP_some h
    refine ww_callVI0 10 X dX11_unwrap_10 mY_X11_isRow mL_X11_123 (rcv_spec f10) ⟨_, _, rfl⟩ (by decide) (As := [.int l2]) (rest := []) rfl rfl ⟨Nat.le_of_ble_eq_true rfl, Nat.le_of_ble_eq_true rfl⟩ (Nat.le_of_ble_eq_true rfl) (fun l D A => c_X11_isRow l D A e10) ?_
    refine ww_if_eq 13 34 X dX11_unwrap_13 (by decide) (fun q => ?_) (fun q => ?_)
    · replace h := (if_pos q).symm.trans h
      refine ww_bipush 34 X (v := (-2 : Int32)) dX11_unwrap_34 (by decide) ?_
      exact ww_iretE 36 X hQ dX11_unwrap_36 h
    · replace h := (if_neg q).symm.trans h
      refine ww_aload_n 16 X dX11_unwrap_16 0 rfl rfl ?_
      obtain ⟨v17, e17, h⟩ := bO_some h
      refine ww_getR 17 X dX11_unwrap_17 fG_X11_11 e17 ?_
      refine ww_iload_n 20 X dX11_unwrap_20 2 rfl rfl ?_
      obtain ⟨v21, e21, h⟩ := bO_some h
      refine ww_aald4 21 X dX11_unwrap_21 e21 ?_
      obtain ⟨v22, e22, h⟩ := bO_some h
      refine ww_getI 22 X dX11_unwrap_22 fG_X11_113 e22 ?_
      refine ww_bipush 25 X (v := (8 : Int32)) dX11_unwrap_25 (by decide) ?_
      refine ww_isub 27 X dX11_unwrap_27 ?_
      obtain ⟨v28, M28, e28, h⟩ := bP_some h
      refine ww_callSI0 28 X dX11_unwrap_28 mY_X1_mayWrap mL_X11_239 (As := [.int (v22 - (8 : Int32))]) (rest := []) rfl rfl ⟨Nat.le_of_ble_eq_true rfl, Nat.le_of_ble_eq_true rfl⟩ (Nat.le_of_ble_eq_true rfl) (fun l D A => c_X1_mayWrap l D A e28) ?_
      refine ww_if_ne 31 37 X dX11_unwrap_31 (by decide) (fun q => ?_) (fun q => ?_)
      · replace h := (if_neg q).symm.trans h
        refine ww_aload_n 37 X dX11_unwrap_37 0 rfl rfl ?_
        obtain ⟨v38, e38, h⟩ := bO_some h
        refine ww_getR 38 X dX11_unwrap_38 fG_X11_77 e38 ?_
        refine ww_aload_n 41 X dX11_unwrap_41 0 rfl rfl ?_
        obtain ⟨v42, e42, h⟩ := bO_some h
        refine ww_getR 42 X dX11_unwrap_42 fG_X11_11 e42 ?_
        refine ww_iload_n 45 X dX11_unwrap_45 1 rfl rfl ?_
        obtain ⟨v46, e46, h⟩ := bO_some h
        refine ww_aald4 46 X dX11_unwrap_46 e46 ?_
        refine ww_aload_n 47 X dX11_unwrap_47 0 rfl rfl ?_
        obtain ⟨v48, e48, h⟩ := bO_some h
        refine ww_getR 48 X dX11_unwrap_48 fG_X11_11 e48 ?_
        refine ww_iload_n 51 X dX11_unwrap_51 2 rfl rfl ?_
        obtain ⟨v52, e52, h⟩ := bO_some h
        refine ww_aald4 52 X dX11_unwrap_52 e52 ?_
        refine ww_aload_n 53 X dX11_unwrap_53 0 rfl rfl ?_
        obtain ⟨v54, e54, h⟩ := bO_some h
        refine ww_getR 54 X dX11_unwrap_54 fG_X11_22 e54 ?_
        obtain ⟨_, f57, h⟩ := bO_some h
        obtain ⟨v57, M57, e57, h⟩ := bP_some h
        refine ww_callVI0 57 X dX11_unwrap_57 mY_X1_putUnwrapped mL_X11_246 (rcv_spec f57) ⟨_, _, rfl⟩ (by decide) (As := [.ref v46, .ref v52, .ref v54]) (rest := []) rfl rfl ⟨Nat.le_of_ble_eq_true rfl, Nat.le_of_ble_eq_true rfl⟩ (Nat.le_of_ble_eq_true rfl) (fun l D A => c_X1_putUnwrapped l D A e57) ?_
        refine ww_if_eq 60 73 X dX11_unwrap_60 (by decide) (fun q => ?_) (fun q => ?_)
        · replace h := (if_pos q).symm.trans h
          refine ww_iconst 73 X (v := (-1 : Int32)) dX11_unwrap_73 (by decide) ?_
          exact ww_iretE 74 X hQ dX11_unwrap_74 h
        · replace h := (if_neg q).symm.trans h
          refine ww_aload_n 63 X dX11_unwrap_63 0 rfl rfl ?_
          obtain ⟨v64, e64, h⟩ := bO_some h
          refine ww_getR 64 X dX11_unwrap_64 fG_X11_22 e64 ?_
          obtain ⟨v67, e67, h⟩ := bO_some h
          refine ww_getI 67 X dX11_unwrap_67 fG_X11_113 e67 ?_
          refine ww_goto 70 74 X dX11_unwrap_70 (by decide) ?_
          exact ww_iretE 74 X hQ dX11_unwrap_74 h
      · replace h := (if_pos q).symm.trans h
        refine ww_bipush 34 X (v := (-2 : Int32)) dX11_unwrap_34 (by decide) ?_
        exact ww_iretE 36 X hQ dX11_unwrap_36 h
theorem c_X11_unwrap {G : Nat → Nat} {F sz : Nat} {r0 : Int32} {M0 : mM} (l : Launch) (D : mD) (A : Nat → Prop) {l0 : Nat} {l1 : Int32} {l2 : Int32} {M : mM} (h : P_X11_unwrap G F l0 l1 l2 M = some (r0, M0)) : mMetI l D G A yX11_unwrap cX11_unwrap 3 (some .int) 5 116 0 0 [.ref l0, .int l1, .int l2] M sz r0 M0 sz := mMetI_of l D G A (by decide) (Nat.le_of_ble_eq_true rfl) (fun x X hQ => wP_X11_unwrap X hQ h)
/-! SealedTokens.waySuits(III)Z -/
theorem dX11_waySuits_0 : decode cX11_waySuits 0 = .ok (.iload_n 1, 1) := by decide +kernel
theorem dX11_waySuits_1 : decode cX11_waySuits 1 = .ok (.ifCond .lt 62, 3) := by decide +kernel
theorem dX11_waySuits_4 : decode cX11_waySuits 4 = .ok (.iload_n 1, 1) := by decide +kernel
theorem dX11_waySuits_5 : decode cX11_waySuits 5 = .ok (.iconst 4, 1) := by decide +kernel
theorem dX11_waySuits_6 : decode cX11_waySuits 6 = .ok (.if_icmp .ge 57, 3) := by decide +kernel
theorem dX11_waySuits_9 : decode cX11_waySuits 9 = .ok (.aload_n 0, 1) := by decide +kernel
theorem dX11_waySuits_10 : decode cX11_waySuits 10 = .ok (.iload_n 2, 1) := by decide +kernel
theorem dX11_waySuits_11 : decode cX11_waySuits 11 = .ok (.invokevirtual 123, 3) := by decide +kernel
theorem dX11_waySuits_14 : decode cX11_waySuits 14 = .ok (.ifCond .eq 49, 3) := by decide +kernel
theorem dX11_waySuits_17 : decode cX11_waySuits 17 = .ok (.aload_n 0, 1) := by decide +kernel
theorem dX11_waySuits_18 : decode cX11_waySuits 18 = .ok (.iload_n 3, 1) := by decide +kernel
theorem dX11_waySuits_19 : decode cX11_waySuits 19 = .ok (.invokevirtual 123, 3) := by decide +kernel
theorem dX11_waySuits_22 : decode cX11_waySuits 22 = .ok (.ifCond .eq 41, 3) := by decide +kernel
theorem dX11_waySuits_25 : decode cX11_waySuits 25 = .ok (.aload_n 0, 1) := by decide +kernel
theorem dX11_waySuits_26 : decode cX11_waySuits 26 = .ok (.getfield 11, 3) := by decide +kernel
theorem dX11_waySuits_29 : decode cX11_waySuits 29 = .ok (.iload_n 2, 1) := by decide +kernel
theorem dX11_waySuits_30 : decode cX11_waySuits 30 = .ok (.aaload, 1) := by decide +kernel
theorem dX11_waySuits_31 : decode cX11_waySuits 31 = .ok (.getfield 113, 3) := by decide +kernel
theorem dX11_waySuits_34 : decode cX11_waySuits 34 = .ok (.getstatic 450, 3) := by decide +kernel
theorem dX11_waySuits_37 : decode cX11_waySuits 37 = .ok (.iload_n 1, 1) := by decide +kernel
theorem dX11_waySuits_38 : decode cX11_waySuits 38 = .ok (.iaload, 1) := by decide +kernel
theorem dX11_waySuits_39 : decode cX11_waySuits 39 = .ok (.if_icmp .ne 24, 3) := by decide +kernel
theorem dX11_waySuits_42 : decode cX11_waySuits 42 = .ok (.aload_n 0, 1) := by decide +kernel
theorem dX11_waySuits_43 : decode cX11_waySuits 43 = .ok (.getfield 11, 3) := by decide +kernel
theorem dX11_waySuits_46 : decode cX11_waySuits 46 = .ok (.iload_n 3, 1) := by decide +kernel
theorem dX11_waySuits_47 : decode cX11_waySuits 47 = .ok (.aaload, 1) := by decide +kernel
theorem dX11_waySuits_48 : decode cX11_waySuits 48 = .ok (.getfield 113, 3) := by decide +kernel
theorem dX11_waySuits_51 : decode cX11_waySuits 51 = .ok (.getstatic 453, 3) := by decide +kernel
theorem dX11_waySuits_54 : decode cX11_waySuits 54 = .ok (.iload_n 1, 1) := by decide +kernel
theorem dX11_waySuits_55 : decode cX11_waySuits 55 = .ok (.iaload, 1) := by decide +kernel
theorem dX11_waySuits_56 : decode cX11_waySuits 56 = .ok (.if_icmp .ne 7, 3) := by decide +kernel
theorem dX11_waySuits_59 : decode cX11_waySuits 59 = .ok (.iconst 1, 1) := by decide +kernel
theorem dX11_waySuits_60 : decode cX11_waySuits 60 = .ok (.goto 4, 3) := by decide +kernel
theorem dX11_waySuits_63 : decode cX11_waySuits 63 = .ok (.iconst 0, 1) := by decide +kernel
theorem dX11_waySuits_64 : decode cX11_waySuits 64 = .ok (.ireturn, 1) := by decide +kernel
abbrev rmX11_waySuits : Room := { frames := 1, cells := 0, slots := 0, locals := 21 }
set_option maxHeartbeats 4000000 in
set_option maxRecDepth 100000 in
theorem wP_X11_waySuits {G : Nat → Nat} {F : Nat} {x : mXT} {sz : Nat} {r0 : Int32} {M0 : mM} (X : mCX G RX11 cX11_waySuits 4 (some .boolean) "waySuits" rmX11_waySuits x) (hQ : mQI x r0 M0 (sz, 0, 0)) {l0 : Nat} {l1 : Int32} {l2 : Int32} {l3 : Int32} {M : mM} (h : P_X11_waySuits G F l0 l1 l2 l3 M = some (r0, M0)) : WW x (sz, 0, 0) M 0 [(0, .ref l0), (1, .int l1), (2, .int l2), (3, .int l3)] [] := by
  unfold P_X11_waySuits at h
  refine ww_iload_n 0 X dX11_waySuits_0 1 rfl rfl ?_
  refine ww_if_lt 1 63 X dX11_waySuits_1 (by decide) (fun q => ?_) (fun q => ?_)
  · replace h := (if_pos q).symm.trans h
    refine ww_iconst 63 X (v := (0 : Int32)) dX11_waySuits_63 (by decide) ?_
    exact ww_zretE 64 X hQ dX11_waySuits_64 h
  · replace h := (if_neg q).symm.trans h
    refine ww_iload_n 4 X dX11_waySuits_4 1 rfl rfl ?_
    refine ww_iconst 5 X (v := (4 : Int32)) dX11_waySuits_5 (by decide) ?_
    refine ww_icmp_ge 6 63 X dX11_waySuits_6 (by decide) (fun q => ?_) (fun q => ?_)
    · replace h := (if_pos q).symm.trans h
      refine ww_iconst 63 X (v := (0 : Int32)) dX11_waySuits_63 (by decide) ?_
      exact ww_zretE 64 X hQ dX11_waySuits_64 h
    · replace h := (if_neg q).symm.trans h
      refine ww_aload_n 9 X dX11_waySuits_9 0 rfl rfl ?_
      refine ww_iload_n 10 X dX11_waySuits_10 2 rfl rfl ?_
      obtain ⟨_, f11, h⟩ := bO_some h
      obtain ⟨v11, M11, e11, h⟩ := bP_some h
      refine ww_callVI0 11 X dX11_waySuits_11 mY_X11_isRow mL_X11_123 (rcv_spec f11) ⟨_, _, rfl⟩ (by decide) (As := [.int l2]) (rest := []) rfl rfl ⟨Nat.le_of_ble_eq_true rfl, Nat.le_of_ble_eq_true rfl⟩ (Nat.le_of_ble_eq_true rfl) (fun l D A => c_X11_isRow l D A e11) ?_
      refine ww_if_eq 14 63 X dX11_waySuits_14 (by decide) (fun q => ?_) (fun q => ?_)
      · replace h := (if_pos q).symm.trans h
        refine ww_iconst 63 X (v := (0 : Int32)) dX11_waySuits_63 (by decide) ?_
        exact ww_zretE 64 X hQ dX11_waySuits_64 h
      · replace h := (if_neg q).symm.trans h
        refine ww_aload_n 17 X dX11_waySuits_17 0 rfl rfl ?_
        refine ww_iload_n 18 X dX11_waySuits_18 3 rfl rfl ?_
        obtain ⟨_, f19, h⟩ := bO_some h
        obtain ⟨v19, M19, e19, h⟩ := bP_some h
        refine ww_callVI0 19 X dX11_waySuits_19 mY_X11_isRow mL_X11_123 (rcv_spec f19) ⟨_, _, rfl⟩ (by decide) (As := [.int l3]) (rest := []) rfl rfl ⟨Nat.le_of_ble_eq_true rfl, Nat.le_of_ble_eq_true rfl⟩ (Nat.le_of_ble_eq_true rfl) (fun l D A => c_X11_isRow l D A e19) ?_
        refine ww_if_eq 22 63 X dX11_waySuits_22 (by decide) (fun q => ?_) (fun q => ?_)
        · replace h := (if_pos q).symm.trans h
          refine ww_iconst 63 X (v := (0 : Int32)) dX11_waySuits_63 (by decide) ?_
          exact ww_zretE 64 X hQ dX11_waySuits_64 h
        · replace h := (if_neg q).symm.trans h
          refine ww_aload_n 25 X dX11_waySuits_25 0 rfl rfl ?_
          obtain ⟨v26, e26, h⟩ := bO_some h
          refine ww_getR 26 X dX11_waySuits_26 fG_X11_11 e26 ?_
          refine ww_iload_n 29 X dX11_waySuits_29 2 rfl rfl ?_
          obtain ⟨v30, e30, h⟩ := bO_some h
          refine ww_aald4 30 X dX11_waySuits_30 e30 ?_
          obtain ⟨v31, e31, h⟩ := bO_some h
          refine ww_getI 31 X dX11_waySuits_31 fG_X11_113 e31 ?_
          refine ww_gets 34 X dX11_waySuits_34 gS_X11_450 ?_
          refine ww_iload_n 37 X dX11_waySuits_37 1 rfl rfl ?_
          obtain ⟨v38, e38, h⟩ := bO_some h
          refine ww_iald 38 X dX11_waySuits_38 e38 ?_
          refine ww_icmp_ne 39 63 X dX11_waySuits_39 (by decide) (fun q => ?_) (fun q => ?_)
          · replace h := (if_neg q).symm.trans h
            refine ww_iconst 63 X (v := (0 : Int32)) dX11_waySuits_63 (by decide) ?_
            exact ww_zretE 64 X hQ dX11_waySuits_64 h
          · replace h := (if_pos q).symm.trans h
            refine ww_aload_n 42 X dX11_waySuits_42 0 rfl rfl ?_
            obtain ⟨v43, e43, h⟩ := bO_some h
            refine ww_getR 43 X dX11_waySuits_43 fG_X11_11 e43 ?_
            refine ww_iload_n 46 X dX11_waySuits_46 3 rfl rfl ?_
            obtain ⟨v47, e47, h⟩ := bO_some h
            refine ww_aald4 47 X dX11_waySuits_47 e47 ?_
            obtain ⟨v48, e48, h⟩ := bO_some h
            refine ww_getI 48 X dX11_waySuits_48 fG_X11_113 e48 ?_
            refine ww_gets 51 X dX11_waySuits_51 gS_X11_453 ?_
            refine ww_iload_n 54 X dX11_waySuits_54 1 rfl rfl ?_
            obtain ⟨v55, e55, h⟩ := bO_some h
            refine ww_iald 55 X dX11_waySuits_55 e55 ?_
            refine ww_icmp_ne 56 63 X dX11_waySuits_56 (by decide) (fun q => ?_) (fun q => ?_)
            · replace h := (if_neg q).symm.trans h
              refine ww_iconst 63 X (v := (0 : Int32)) dX11_waySuits_63 (by decide) ?_
              exact ww_zretE 64 X hQ dX11_waySuits_64 h
            · replace h := (if_pos q).symm.trans h
              refine ww_iconst 59 X (v := (1 : Int32)) dX11_waySuits_59 (by decide) ?_
              refine ww_goto 60 64 X dX11_waySuits_60 (by decide) ?_
              exact ww_zretE 64 X hQ dX11_waySuits_64 h
theorem c_X11_waySuits {G : Nat → Nat} {F sz : Nat} {r0 : Int32} {M0 : mM} (l : Launch) (D : mD) (A : Nat → Prop) {l0 : Nat} {l1 : Int32} {l2 : Int32} {l3 : Int32} {M : mM} (h : P_X11_waySuits G F l0 l1 l2 l3 M = some (r0, M0)) : mMetI l D G A yX11_waySuits cX11_waySuits 4 (some .boolean) 1 21 0 0 [.ref l0, .int l1, .int l2, .int l3] M sz r0 M0 sz := mMetI_of l D G A (by decide) (Nat.le_of_ble_eq_true rfl) (fun x X hQ => wP_X11_waySuits X hQ h)
/-! SealedTokens.seal(IIIII)I -/
theorem dX11_seal_0 : decode cX11_seal 0 = .ok (.aload_n 0, 1) := by decide +kernel
theorem dX11_seal_1 : decode cX11_seal 1 = .ok (.iload_n 1, 1) := by decide +kernel
theorem dX11_seal_2 : decode cX11_seal 2 = .ok (.iload_n 2, 1) := by decide +kernel
theorem dX11_seal_3 : decode cX11_seal 3 = .ok (.iload_n 3, 1) := by decide +kernel
theorem dX11_seal_4 : decode cX11_seal 4 = .ok (.invokevirtual 250, 3) := by decide +kernel
theorem dX11_seal_7 : decode cX11_seal 7 = .ok (.ifCond .eq 21, 3) := by decide +kernel
theorem dX11_seal_10 : decode cX11_seal 10 = .ok (.aload_n 0, 1) := by decide +kernel
theorem dX11_seal_11 : decode cX11_seal 11 = .ok (.iload 4, 2) := by decide +kernel
theorem dX11_seal_13 : decode cX11_seal 13 = .ok (.invokevirtual 123, 3) := by decide +kernel
theorem dX11_seal_16 : decode cX11_seal 16 = .ok (.ifCond .eq 12, 3) := by decide +kernel
theorem dX11_seal_19 : decode cX11_seal 19 = .ok (.aload_n 0, 1) := by decide +kernel
theorem dX11_seal_20 : decode cX11_seal 20 = .ok (.iload 5, 2) := by decide +kernel
theorem dX11_seal_22 : decode cX11_seal 22 = .ok (.invokevirtual 123, 3) := by decide +kernel
theorem dX11_seal_25 : decode cX11_seal 25 = .ok (.ifCond .ne 6, 3) := by decide +kernel
theorem dX11_seal_28 : decode cX11_seal 28 = .ok (.bipush (-2), 2) := by decide +kernel
theorem dX11_seal_30 : decode cX11_seal 30 = .ok (.ireturn, 1) := by decide +kernel
theorem dX11_seal_31 : decode cX11_seal 31 = .ok (.iload_n 1, 1) := by decide +kernel
theorem dX11_seal_32 : decode cX11_seal 32 = .ok (.aload_n 0, 1) := by decide +kernel
theorem dX11_seal_33 : decode cX11_seal 33 = .ok (.getfield 11, 3) := by decide +kernel
theorem dX11_seal_36 : decode cX11_seal 36 = .ok (.iload 5, 2) := by decide +kernel
theorem dX11_seal_38 : decode cX11_seal 38 = .ok (.aaload, 1) := by decide +kernel
theorem dX11_seal_39 : decode cX11_seal 39 = .ok (.getfield 113, 3) := by decide +kernel
theorem dX11_seal_42 : decode cX11_seal 42 = .ok (.invokestatic 254, 3) := by decide +kernel
theorem dX11_seal_45 : decode cX11_seal 45 = .ok (.getstatic 258, 3) := by decide +kernel
theorem dX11_seal_48 : decode cX11_seal 48 = .ok (.iload_n 1, 1) := by decide +kernel
theorem dX11_seal_49 : decode cX11_seal 49 = .ok (.iaload, 1) := by decide +kernel
theorem dX11_seal_50 : decode cX11_seal 50 = .ok (.iadd, 1) := by decide +kernel
theorem dX11_seal_51 : decode cX11_seal 51 = .ok (.sipush 8192, 3) := by decide +kernel
theorem dX11_seal_54 : decode cX11_seal 54 = .ok (.if_icmp .le 6, 3) := by decide +kernel
theorem dX11_seal_57 : decode cX11_seal 57 = .ok (.bipush (-3), 2) := by decide +kernel
theorem dX11_seal_59 : decode cX11_seal 59 = .ok (.ireturn, 1) := by decide +kernel
theorem dX11_seal_60 : decode cX11_seal 60 = .ok (.aload_n 0, 1) := by decide +kernel
theorem dX11_seal_61 : decode cX11_seal 61 = .ok (.getfield 86, 3) := by decide +kernel
theorem dX11_seal_64 : decode cX11_seal 64 = .ok (.iload_n 1, 1) := by decide +kernel
theorem dX11_seal_65 : decode cX11_seal 65 = .ok (.aload_n 0, 1) := by decide +kernel
theorem dX11_seal_66 : decode cX11_seal 66 = .ok (.getfield 11, 3) := by decide +kernel
theorem dX11_seal_69 : decode cX11_seal 69 = .ok (.iload_n 2, 1) := by decide +kernel
theorem dX11_seal_70 : decode cX11_seal 70 = .ok (.aaload, 1) := by decide +kernel
theorem dX11_seal_71 : decode cX11_seal 71 = .ok (.aload_n 0, 1) := by decide +kernel
theorem dX11_seal_72 : decode cX11_seal 72 = .ok (.getfield 11, 3) := by decide +kernel
theorem dX11_seal_75 : decode cX11_seal 75 = .ok (.iload_n 3, 1) := by decide +kernel
theorem dX11_seal_76 : decode cX11_seal 76 = .ok (.aaload, 1) := by decide +kernel
theorem dX11_seal_77 : decode cX11_seal 77 = .ok (.aload_n 0, 1) := by decide +kernel
theorem dX11_seal_78 : decode cX11_seal 78 = .ok (.getfield 11, 3) := by decide +kernel
theorem dX11_seal_81 : decode cX11_seal 81 = .ok (.iload 4, 2) := by decide +kernel
theorem dX11_seal_83 : decode cX11_seal 83 = .ok (.aaload, 1) := by decide +kernel
theorem dX11_seal_84 : decode cX11_seal 84 = .ok (.aload_n 0, 1) := by decide +kernel
theorem dX11_seal_85 : decode cX11_seal 85 = .ok (.getfield 11, 3) := by decide +kernel
theorem dX11_seal_88 : decode cX11_seal 88 = .ok (.iload 5, 2) := by decide +kernel
theorem dX11_seal_90 : decode cX11_seal 90 = .ok (.aaload, 1) := by decide +kernel
theorem dX11_seal_91 : decode cX11_seal 91 = .ok (.aload_n 0, 1) := by decide +kernel
theorem dX11_seal_92 : decode cX11_seal 92 = .ok (.getfield 22, 3) := by decide +kernel
theorem dX11_seal_95 : decode cX11_seal 95 = .ok (.invokevirtual 261, 3) := by decide +kernel
theorem dX11_seal_98 : decode cX11_seal 98 = .ok (.aload_n 0, 1) := by decide +kernel
theorem dX11_seal_99 : decode cX11_seal 99 = .ok (.getfield 22, 3) := by decide +kernel
theorem dX11_seal_102 : decode cX11_seal 102 = .ok (.getfield 113, 3) := by decide +kernel
theorem dX11_seal_105 : decode cX11_seal 105 = .ok (.ireturn, 1) := by decide +kernel
abbrev rmX11_seal : Room := { frames := 6, cells := 0, slots := 0, locals := 169 }
set_option maxHeartbeats 4000000 in
set_option maxRecDepth 100000 in
theorem wP_X11_seal {G : Nat → Nat} {F : Nat} {x : mXT} {sz : Nat} {r0 : Int32} {M0 : mM} (X : mCX G RX11 cX11_seal 6 (some .int) "seal" rmX11_seal x) (hQ : mQI x r0 M0 (sz, 0, 0)) {l0 : Nat} {l1 : Int32} {l2 : Int32} {l3 : Int32} {l4 : Int32} {l5 : Int32} {M : mM} (h : P_X11_seal G F l0 l1 l2 l3 l4 l5 M = some (r0, M0)) : WW x (sz, 0, 0) M 0 [(0, .ref l0), (1, .int l1), (2, .int l2), (3, .int l3), (4, .int l4), (5, .int l5)] [] := by
  unfold P_X11_seal at h
  refine ww_aload_n 0 X dX11_seal_0 0 rfl rfl ?_
  refine ww_iload_n 1 X dX11_seal_1 1 rfl rfl ?_
  refine ww_iload_n 2 X dX11_seal_2 2 rfl rfl ?_
  refine ww_iload_n 3 X dX11_seal_3 3 rfl rfl ?_
  obtain ⟨_, f4, h⟩ := bO_some h
  obtain ⟨v4, M4, e4, h⟩ := bP_some h
  refine ww_callVI0 4 X dX11_seal_4 mY_X11_waySuits mL_X11_250 (rcv_spec f4) ⟨_, _, rfl⟩ (by decide) (As := [.int l1, .int l2, .int l3]) (rest := []) rfl rfl ⟨Nat.le_of_ble_eq_true rfl, Nat.le_of_ble_eq_true rfl⟩ (Nat.le_of_ble_eq_true rfl) (fun l D A => c_X11_waySuits l D A e4) ?_
  refine ww_if_eq 7 28 X dX11_seal_7 (by decide) (fun q => ?_) (fun q => ?_)
  · replace h := (if_pos q).symm.trans h
    refine ww_bipush 28 X (v := (-2 : Int32)) dX11_seal_28 (by decide) ?_
    exact ww_iretE 30 X hQ dX11_seal_30 h
  · replace h := (if_neg q).symm.trans h
    refine ww_aload_n 10 X dX11_seal_10 0 rfl rfl ?_
    refine ww_iload 11 X dX11_seal_11 4 rfl ?_
    obtain ⟨_, f13, h⟩ := bO_some h
    obtain ⟨v13, M13, e13, h⟩ := bP_some h
    refine ww_callVI0 13 X dX11_seal_13 mY_X11_isRow mL_X11_123 (rcv_spec f13) ⟨_, _, rfl⟩ (by decide) (As := [.int l4]) (rest := []) rfl rfl ⟨Nat.le_of_ble_eq_true rfl, Nat.le_of_ble_eq_true rfl⟩ (Nat.le_of_ble_eq_true rfl) (fun l D A => c_X11_isRow l D A e13) ?_
    refine ww_if_eq 16 28 X dX11_seal_16 (by decide) (fun q => ?_) (fun q => ?_)
    · replace h := (if_pos q).symm.trans h
      refine ww_bipush 28 X (v := (-2 : Int32)) dX11_seal_28 (by decide) ?_
      exact ww_iretE 30 X hQ dX11_seal_30 h
    · replace h := (if_neg q).symm.trans h
      refine ww_aload_n 19 X dX11_seal_19 0 rfl rfl ?_
      refine ww_iload 20 X dX11_seal_20 5 rfl ?_
      obtain ⟨_, f22, h⟩ := bO_some h
      obtain ⟨v22, M22, e22, h⟩ := bP_some h
      refine ww_callVI0 22 X dX11_seal_22 mY_X11_isRow mL_X11_123 (rcv_spec f22) ⟨_, _, rfl⟩ (by decide) (As := [.int l5]) (rest := []) rfl rfl ⟨Nat.le_of_ble_eq_true rfl, Nat.le_of_ble_eq_true rfl⟩ (Nat.le_of_ble_eq_true rfl) (fun l D A => c_X11_isRow l D A e22) ?_
      refine ww_if_ne 25 31 X dX11_seal_25 (by decide) (fun q => ?_) (fun q => ?_)
      · replace h := (if_neg q).symm.trans h
        refine ww_iload_n 31 X dX11_seal_31 1 rfl rfl ?_
        refine ww_aload_n 32 X dX11_seal_32 0 rfl rfl ?_
        obtain ⟨v33, e33, h⟩ := bO_some h
        refine ww_getR 33 X dX11_seal_33 fG_X11_11 e33 ?_
        refine ww_iload 36 X dX11_seal_36 5 rfl ?_
        obtain ⟨v38, e38, h⟩ := bO_some h
        refine ww_aald4 38 X dX11_seal_38 e38 ?_
        obtain ⟨v39, e39, h⟩ := bO_some h
        refine ww_getI 39 X dX11_seal_39 fG_X11_113 e39 ?_
        obtain ⟨v42, M42, e42, h⟩ := bP_some h
        refine ww_callSI0 42 X dX11_seal_42 mY_X2_sealedBytes mL_X11_254 (As := [.int l1, .int v39]) (rest := []) rfl rfl ⟨Nat.le_of_ble_eq_true rfl, Nat.le_of_ble_eq_true rfl⟩ (Nat.le_of_ble_eq_true rfl) (fun l D A => c_X2_sealedBytes l D A e42) ?_
        refine ww_gets 45 X dX11_seal_45 gS_X11_258 ?_
        refine ww_iload_n 48 X dX11_seal_48 1 rfl rfl ?_
        obtain ⟨v49, e49, h⟩ := bO_some h
        refine ww_iald 49 X dX11_seal_49 e49 ?_
        refine ww_iadd 50 X dX11_seal_50 ?_
        refine ww_sipush 51 X (v := (8192 : Int32)) dX11_seal_51 (by decide) ?_
        refine ww_icmp_le 54 60 X dX11_seal_54 (by decide) (fun q => ?_) (fun q => ?_)
        · replace h := (if_pos q).symm.trans h
          refine ww_aload_n 60 X dX11_seal_60 0 rfl rfl ?_
          obtain ⟨v61, e61, h⟩ := bO_some h
          refine ww_getR 61 X dX11_seal_61 fG_X11_86 e61 ?_
          refine ww_iload_n 64 X dX11_seal_64 1 rfl rfl ?_
          refine ww_aload_n 65 X dX11_seal_65 0 rfl rfl ?_
          obtain ⟨v66, e66, h⟩ := bO_some h
          refine ww_getR 66 X dX11_seal_66 fG_X11_11 e66 ?_
          refine ww_iload_n 69 X dX11_seal_69 2 rfl rfl ?_
          obtain ⟨v70, e70, h⟩ := bO_some h
          refine ww_aald4 70 X dX11_seal_70 e70 ?_
          refine ww_aload_n 71 X dX11_seal_71 0 rfl rfl ?_
          obtain ⟨v72, e72, h⟩ := bO_some h
          refine ww_getR 72 X dX11_seal_72 fG_X11_11 e72 ?_
          refine ww_iload_n 75 X dX11_seal_75 3 rfl rfl ?_
          obtain ⟨v76, e76, h⟩ := bO_some h
          refine ww_aald4 76 X dX11_seal_76 e76 ?_
          refine ww_aload_n 77 X dX11_seal_77 0 rfl rfl ?_
          obtain ⟨v78, e78, h⟩ := bO_some h
          refine ww_getR 78 X dX11_seal_78 fG_X11_11 e78 ?_
          refine ww_iload 81 X dX11_seal_81 4 rfl ?_
          obtain ⟨v83, e83, h⟩ := bO_some h
          refine ww_aald4 83 X dX11_seal_83 e83 ?_
          refine ww_aload_n 84 X dX11_seal_84 0 rfl rfl ?_
          obtain ⟨v85, e85, h⟩ := bO_some h
          refine ww_getR 85 X dX11_seal_85 fG_X11_11 e85 ?_
          refine ww_iload 88 X dX11_seal_88 5 rfl ?_
          obtain ⟨v90, e90, h⟩ := bO_some h
          refine ww_aald4 90 X dX11_seal_90 e90 ?_
          refine ww_aload_n 91 X dX11_seal_91 0 rfl rfl ?_
          obtain ⟨v92, e92, h⟩ := bO_some h
          refine ww_getR 92 X dX11_seal_92 fG_X11_22 e92 ?_
          obtain ⟨_, f95, h⟩ := bO_some h
          obtain ⟨M95, e95, h⟩ := bO_some h
          refine ww_callVV0 95 X dX11_seal_95 mY_X2_lock mL_X11_261 (rcv_spec f95) ⟨_, _, rfl⟩ (by decide) (As := [.int l1, .ref v70, .ref v76, .ref v83, .ref v90, .ref v92]) (rest := []) rfl rfl ⟨Nat.le_of_ble_eq_true rfl, Nat.le_of_ble_eq_true rfl⟩ (Nat.le_of_ble_eq_true rfl) (fun l D A => c_X2_lock l D A e95) ?_
          refine ww_aload_n 98 X dX11_seal_98 0 rfl rfl ?_
          obtain ⟨v99, e99, h⟩ := bO_some h
          refine ww_getR 99 X dX11_seal_99 fG_X11_22 e99 ?_
          obtain ⟨v102, e102, h⟩ := bO_some h
          refine ww_getI 102 X dX11_seal_102 fG_X11_113 e102 ?_
          exact ww_iretE 105 X hQ dX11_seal_105 h
        · replace h := (if_neg q).symm.trans h
          refine ww_bipush 57 X (v := (-3 : Int32)) dX11_seal_57 (by decide) ?_
          exact ww_iretE 59 X hQ dX11_seal_59 h
      · replace h := (if_pos q).symm.trans h
        refine ww_bipush 28 X (v := (-2 : Int32)) dX11_seal_28 (by decide) ?_
        exact ww_iretE 30 X hQ dX11_seal_30 h
theorem c_X11_seal {G : Nat → Nat} {F sz : Nat} {r0 : Int32} {M0 : mM} (l : Launch) (D : mD) (A : Nat → Prop) {l0 : Nat} {l1 : Int32} {l2 : Int32} {l3 : Int32} {l4 : Int32} {l5 : Int32} {M : mM} (h : P_X11_seal G F l0 l1 l2 l3 l4 l5 M = some (r0, M0)) : mMetI l D G A yX11_seal cX11_seal 6 (some .int) 6 169 0 0 [.ref l0, .int l1, .int l2, .int l3, .int l4, .int l5] M sz r0 M0 sz := mMetI_of l D G A (by decide) (Nat.le_of_ble_eq_true rfl) (fun x X hQ => wP_X11_seal X hQ h)
/-! SealedTokens.open(IIIII)I -/
theorem dX11_open_0 : decode cX11_open 0 = .ok (.aload_n 0, 1) := by decide +kernel
theorem dX11_open_1 : decode cX11_open 1 = .ok (.iload_n 1, 1) := by decide +kernel
theorem dX11_open_2 : decode cX11_open 2 = .ok (.iload_n 2, 1) := by decide +kernel
theorem dX11_open_3 : decode cX11_open 3 = .ok (.iload_n 3, 1) := by decide +kernel
theorem dX11_open_4 : decode cX11_open 4 = .ok (.invokevirtual 250, 3) := by decide +kernel
theorem dX11_open_7 : decode cX11_open 7 = .ok (.ifCond .eq 21, 3) := by decide +kernel
theorem dX11_open_10 : decode cX11_open 10 = .ok (.aload_n 0, 1) := by decide +kernel
theorem dX11_open_11 : decode cX11_open 11 = .ok (.iload 4, 2) := by decide +kernel
theorem dX11_open_13 : decode cX11_open 13 = .ok (.invokevirtual 123, 3) := by decide +kernel
theorem dX11_open_16 : decode cX11_open 16 = .ok (.ifCond .eq 12, 3) := by decide +kernel
theorem dX11_open_19 : decode cX11_open 19 = .ok (.aload_n 0, 1) := by decide +kernel
theorem dX11_open_20 : decode cX11_open 20 = .ok (.iload 5, 2) := by decide +kernel
theorem dX11_open_22 : decode cX11_open 22 = .ok (.invokevirtual 123, 3) := by decide +kernel
theorem dX11_open_25 : decode cX11_open 25 = .ok (.ifCond .ne 6, 3) := by decide +kernel
theorem dX11_open_28 : decode cX11_open 28 = .ok (.bipush (-2), 2) := by decide +kernel
theorem dX11_open_30 : decode cX11_open 30 = .ok (.ireturn, 1) := by decide +kernel
theorem dX11_open_31 : decode cX11_open 31 = .ok (.aload_n 0, 1) := by decide +kernel
theorem dX11_open_32 : decode cX11_open 32 = .ok (.getfield 86, 3) := by decide +kernel
theorem dX11_open_35 : decode cX11_open 35 = .ok (.iload_n 1, 1) := by decide +kernel
theorem dX11_open_36 : decode cX11_open 36 = .ok (.aload_n 0, 1) := by decide +kernel
theorem dX11_open_37 : decode cX11_open 37 = .ok (.getfield 11, 3) := by decide +kernel
theorem dX11_open_40 : decode cX11_open 40 = .ok (.iload_n 2, 1) := by decide +kernel
theorem dX11_open_41 : decode cX11_open 41 = .ok (.aaload, 1) := by decide +kernel
theorem dX11_open_42 : decode cX11_open 42 = .ok (.aload_n 0, 1) := by decide +kernel
theorem dX11_open_43 : decode cX11_open 43 = .ok (.getfield 11, 3) := by decide +kernel
theorem dX11_open_46 : decode cX11_open 46 = .ok (.iload_n 3, 1) := by decide +kernel
theorem dX11_open_47 : decode cX11_open 47 = .ok (.aaload, 1) := by decide +kernel
theorem dX11_open_48 : decode cX11_open 48 = .ok (.aload_n 0, 1) := by decide +kernel
theorem dX11_open_49 : decode cX11_open 49 = .ok (.getfield 11, 3) := by decide +kernel
theorem dX11_open_52 : decode cX11_open 52 = .ok (.iload 4, 2) := by decide +kernel
theorem dX11_open_54 : decode cX11_open 54 = .ok (.aaload, 1) := by decide +kernel
theorem dX11_open_55 : decode cX11_open 55 = .ok (.aload_n 0, 1) := by decide +kernel
theorem dX11_open_56 : decode cX11_open 56 = .ok (.getfield 11, 3) := by decide +kernel
theorem dX11_open_59 : decode cX11_open 59 = .ok (.iload 5, 2) := by decide +kernel
theorem dX11_open_61 : decode cX11_open 61 = .ok (.aaload, 1) := by decide +kernel
theorem dX11_open_62 : decode cX11_open 62 = .ok (.aload_n 0, 1) := by decide +kernel
theorem dX11_open_63 : decode cX11_open 63 = .ok (.getfield 34, 3) := by decide +kernel
theorem dX11_open_66 : decode cX11_open 66 = .ok (.invokevirtual 265, 3) := by decide +kernel
theorem dX11_open_69 : decode cX11_open 69 = .ok (.ifCond .ne 5, 3) := by decide +kernel
theorem dX11_open_72 : decode cX11_open 72 = .ok (.iconst (-1), 1) := by decide +kernel
theorem dX11_open_73 : decode cX11_open 73 = .ok (.ireturn, 1) := by decide +kernel
theorem dX11_open_74 : decode cX11_open 74 = .ok (.aload_n 0, 1) := by decide +kernel
theorem dX11_open_75 : decode cX11_open 75 = .ok (.aload_n 0, 1) := by decide +kernel
theorem dX11_open_76 : decode cX11_open 76 = .ok (.getfield 34, 3) := by decide +kernel
theorem dX11_open_79 : decode cX11_open 79 = .ok (.iconst 0, 1) := by decide +kernel
theorem dX11_open_80 : decode cX11_open 80 = .ok (.aload_n 0, 1) := by decide +kernel
theorem dX11_open_81 : decode cX11_open 81 = .ok (.getfield 34, 3) := by decide +kernel
theorem dX11_open_84 : decode cX11_open 84 = .ok (.getfield 113, 3) := by decide +kernel
theorem dX11_open_87 : decode cX11_open 87 = .ok (.invokevirtual 176, 3) := by decide +kernel
theorem dX11_open_90 : decode cX11_open 90 = .ok (.ireturn, 1) := by decide +kernel
abbrev rmX11_open : Room := { frames := 6, cells := 0, slots := 0, locals := 170 }
set_option maxHeartbeats 4000000 in
set_option maxRecDepth 100000 in
theorem wP_X11_open {G : Nat → Nat} {F : Nat} {x : mXT} {sz : Nat} {r0 : Int32} {M0 : mM} (X : mCX G RX11 cX11_open 6 (some .int) "open" rmX11_open x) (hQ : mQI x r0 M0 (sz, 0, 0)) {l0 : Nat} {l1 : Int32} {l2 : Int32} {l3 : Int32} {l4 : Int32} {l5 : Int32} {M : mM} (h : P_X11_open G F l0 l1 l2 l3 l4 l5 M = some (r0, M0)) : WW x (sz, 0, 0) M 0 [(0, .ref l0), (1, .int l1), (2, .int l2), (3, .int l3), (4, .int l4), (5, .int l5)] [] := by
  unfold P_X11_open at h
  refine ww_aload_n 0 X dX11_open_0 0 rfl rfl ?_
  refine ww_iload_n 1 X dX11_open_1 1 rfl rfl ?_
  refine ww_iload_n 2 X dX11_open_2 2 rfl rfl ?_
  refine ww_iload_n 3 X dX11_open_3 3 rfl rfl ?_
  obtain ⟨_, f4, h⟩ := bO_some h
  obtain ⟨v4, M4, e4, h⟩ := bP_some h
  refine ww_callVI0 4 X dX11_open_4 mY_X11_waySuits mL_X11_250 (rcv_spec f4) ⟨_, _, rfl⟩ (by decide) (As := [.int l1, .int l2, .int l3]) (rest := []) rfl rfl ⟨Nat.le_of_ble_eq_true rfl, Nat.le_of_ble_eq_true rfl⟩ (Nat.le_of_ble_eq_true rfl) (fun l D A => c_X11_waySuits l D A e4) ?_
  refine ww_if_eq 7 28 X dX11_open_7 (by decide) (fun q => ?_) (fun q => ?_)
  · replace h := (if_pos q).symm.trans h
    refine ww_bipush 28 X (v := (-2 : Int32)) dX11_open_28 (by decide) ?_
    exact ww_iretE 30 X hQ dX11_open_30 h
  · replace h := (if_neg q).symm.trans h
    refine ww_aload_n 10 X dX11_open_10 0 rfl rfl ?_
    refine ww_iload 11 X dX11_open_11 4 rfl ?_
    obtain ⟨_, f13, h⟩ := bO_some h
    obtain ⟨v13, M13, e13, h⟩ := bP_some h
    refine ww_callVI0 13 X dX11_open_13 mY_X11_isRow mL_X11_123 (rcv_spec f13) ⟨_, _, rfl⟩ (by decide) (As := [.int l4]) (rest := []) rfl rfl ⟨Nat.le_of_ble_eq_true rfl, Nat.le_of_ble_eq_true rfl⟩ (Nat.le_of_ble_eq_true rfl) (fun l D A => c_X11_isRow l D A e13) ?_
    refine ww_if_eq 16 28 X dX11_open_16 (by decide) (fun q => ?_) (fun q => ?_)
    · replace h := (if_pos q).symm.trans h
      refine ww_bipush 28 X (v := (-2 : Int32)) dX11_open_28 (by decide) ?_
      exact ww_iretE 30 X hQ dX11_open_30 h
    · replace h := (if_neg q).symm.trans h
      refine ww_aload_n 19 X dX11_open_19 0 rfl rfl ?_
      refine ww_iload 20 X dX11_open_20 5 rfl ?_
      obtain ⟨_, f22, h⟩ := bO_some h
      obtain ⟨v22, M22, e22, h⟩ := bP_some h
      refine ww_callVI0 22 X dX11_open_22 mY_X11_isRow mL_X11_123 (rcv_spec f22) ⟨_, _, rfl⟩ (by decide) (As := [.int l5]) (rest := []) rfl rfl ⟨Nat.le_of_ble_eq_true rfl, Nat.le_of_ble_eq_true rfl⟩ (Nat.le_of_ble_eq_true rfl) (fun l D A => c_X11_isRow l D A e22) ?_
      refine ww_if_ne 25 31 X dX11_open_25 (by decide) (fun q => ?_) (fun q => ?_)
      · replace h := (if_neg q).symm.trans h
        refine ww_aload_n 31 X dX11_open_31 0 rfl rfl ?_
        obtain ⟨v32, e32, h⟩ := bO_some h
        refine ww_getR 32 X dX11_open_32 fG_X11_86 e32 ?_
        refine ww_iload_n 35 X dX11_open_35 1 rfl rfl ?_
        refine ww_aload_n 36 X dX11_open_36 0 rfl rfl ?_
        obtain ⟨v37, e37, h⟩ := bO_some h
        refine ww_getR 37 X dX11_open_37 fG_X11_11 e37 ?_
        refine ww_iload_n 40 X dX11_open_40 2 rfl rfl ?_
        obtain ⟨v41, e41, h⟩ := bO_some h
        refine ww_aald4 41 X dX11_open_41 e41 ?_
        refine ww_aload_n 42 X dX11_open_42 0 rfl rfl ?_
        obtain ⟨v43, e43, h⟩ := bO_some h
        refine ww_getR 43 X dX11_open_43 fG_X11_11 e43 ?_
        refine ww_iload_n 46 X dX11_open_46 3 rfl rfl ?_
        obtain ⟨v47, e47, h⟩ := bO_some h
        refine ww_aald4 47 X dX11_open_47 e47 ?_
        refine ww_aload_n 48 X dX11_open_48 0 rfl rfl ?_
        obtain ⟨v49, e49, h⟩ := bO_some h
        refine ww_getR 49 X dX11_open_49 fG_X11_11 e49 ?_
        refine ww_iload 52 X dX11_open_52 4 rfl ?_
        obtain ⟨v54, e54, h⟩ := bO_some h
        refine ww_aald4 54 X dX11_open_54 e54 ?_
        refine ww_aload_n 55 X dX11_open_55 0 rfl rfl ?_
        obtain ⟨v56, e56, h⟩ := bO_some h
        refine ww_getR 56 X dX11_open_56 fG_X11_11 e56 ?_
        refine ww_iload 59 X dX11_open_59 5 rfl ?_
        obtain ⟨v61, e61, h⟩ := bO_some h
        refine ww_aald4 61 X dX11_open_61 e61 ?_
        refine ww_aload_n 62 X dX11_open_62 0 rfl rfl ?_
        obtain ⟨v63, e63, h⟩ := bO_some h
        refine ww_getR 63 X dX11_open_63 fG_X11_34 e63 ?_
        obtain ⟨_, f66, h⟩ := bO_some h
        obtain ⟨v66, M66, e66, h⟩ := bP_some h
        refine ww_callVI0 66 X dX11_open_66 mY_X2_unlock mL_X11_265 (rcv_spec f66) ⟨_, _, rfl⟩ (by decide) (As := [.int l1, .ref v41, .ref v47, .ref v54, .ref v61, .ref v63]) (rest := []) rfl rfl ⟨Nat.le_of_ble_eq_true rfl, Nat.le_of_ble_eq_true rfl⟩ (Nat.le_of_ble_eq_true rfl) (fun l D A => c_X2_unlock l D A e66) ?_
        refine ww_if_ne 69 74 X dX11_open_69 (by decide) (fun q => ?_) (fun q => ?_)
        · replace h := (if_neg q).symm.trans h
          refine ww_aload_n 74 X dX11_open_74 0 rfl rfl ?_
          refine ww_aload_n 75 X dX11_open_75 0 rfl rfl ?_
          obtain ⟨v76, e76, h⟩ := bO_some h
          refine ww_getR 76 X dX11_open_76 fG_X11_34 e76 ?_
          refine ww_iconst 79 X (v := (0 : Int32)) dX11_open_79 (by decide) ?_
          refine ww_aload_n 80 X dX11_open_80 0 rfl rfl ?_
          obtain ⟨v81, e81, h⟩ := bO_some h
          refine ww_getR 81 X dX11_open_81 fG_X11_34 e81 ?_
          obtain ⟨v84, e84, h⟩ := bO_some h
          refine ww_getI 84 X dX11_open_84 fG_X11_113 e84 ?_
          obtain ⟨_, f87, h⟩ := bO_some h
          obtain ⟨v87, M87, e87, h⟩ := bP_some h
          refine ww_callVI0 87 X dX11_open_87 mY_X11_show mL_X11_176 (rcv_spec f87) ⟨_, _, rfl⟩ (by decide) (As := [.ref v76, .int (0 : Int32), .int v84]) (rest := []) rfl rfl ⟨Nat.le_of_ble_eq_true rfl, Nat.le_of_ble_eq_true rfl⟩ (Nat.le_of_ble_eq_true rfl) (fun l D A => c_X11_show l D A e87) ?_
          exact ww_iretE 90 X hQ dX11_open_90 h
        · replace h := (if_pos q).symm.trans h
          refine ww_iconst 72 X (v := (-1 : Int32)) dX11_open_72 (by decide) ?_
          exact ww_iretE 73 X hQ dX11_open_73 h
      · replace h := (if_pos q).symm.trans h
        refine ww_bipush 28 X (v := (-2 : Int32)) dX11_open_28 (by decide) ?_
        exact ww_iretE 30 X hQ dX11_open_30 h
theorem c_X11_open {G : Nat → Nat} {F sz : Nat} {r0 : Int32} {M0 : mM} (l : Launch) (D : mD) (A : Nat → Prop) {l0 : Nat} {l1 : Int32} {l2 : Int32} {l3 : Int32} {l4 : Int32} {l5 : Int32} {M : mM} (h : P_X11_open G F l0 l1 l2 l3 l4 l5 M = some (r0, M0)) : mMetI l D G A yX11_open cX11_open 6 (some .int) 6 170 0 0 [.ref l0, .int l1, .int l2, .int l3, .int l4, .int l5] M sz r0 M0 sz := mMetI_of l D G A (by decide) (Nat.le_of_ble_eq_true rfl) (fun x X hQ => wP_X11_open X hQ h)
/-! SealedTokens.power(III)I -/
theorem dX11_power_0 : decode cX11_power 0 = .ok (.aload_n 0, 1) := by decide +kernel
theorem dX11_power_1 : decode cX11_power 1 = .ok (.iload_n 1, 1) := by decide +kernel
theorem dX11_power_2 : decode cX11_power 2 = .ok (.invokevirtual 123, 3) := by decide +kernel
theorem dX11_power_5 : decode cX11_power 5 = .ok (.ifCond .eq 19, 3) := by decide +kernel
theorem dX11_power_8 : decode cX11_power 8 = .ok (.aload_n 0, 1) := by decide +kernel
theorem dX11_power_9 : decode cX11_power 9 = .ok (.iload_n 2, 1) := by decide +kernel
theorem dX11_power_10 : decode cX11_power 10 = .ok (.invokevirtual 123, 3) := by decide +kernel
theorem dX11_power_13 : decode cX11_power 13 = .ok (.ifCond .eq 11, 3) := by decide +kernel
theorem dX11_power_16 : decode cX11_power 16 = .ok (.aload_n 0, 1) := by decide +kernel
theorem dX11_power_17 : decode cX11_power 17 = .ok (.iload_n 3, 1) := by decide +kernel
theorem dX11_power_18 : decode cX11_power 18 = .ok (.invokevirtual 123, 3) := by decide +kernel
theorem dX11_power_21 : decode cX11_power 21 = .ok (.ifCond .ne 6, 3) := by decide +kernel
theorem dX11_power_24 : decode cX11_power 24 = .ok (.bipush (-2), 2) := by decide +kernel
theorem dX11_power_26 : decode cX11_power 26 = .ok (.ireturn, 1) := by decide +kernel
theorem dX11_power_27 : decode cX11_power 27 = .ok (.aload_n 0, 1) := by decide +kernel
theorem dX11_power_28 : decode cX11_power 28 = .ok (.getfield 11, 3) := by decide +kernel
theorem dX11_power_31 : decode cX11_power 31 = .ok (.iload_n 1, 1) := by decide +kernel
theorem dX11_power_32 : decode cX11_power 32 = .ok (.aaload, 1) := by decide +kernel
theorem dX11_power_33 : decode cX11_power 33 = .ok (.getfield 113, 3) := by decide +kernel
theorem dX11_power_36 : decode cX11_power 36 = .ok (.sipush 128, 3) := by decide +kernel
theorem dX11_power_39 : decode cX11_power 39 = .ok (.if_icmp .gt 30, 3) := by decide +kernel
theorem dX11_power_42 : decode cX11_power 42 = .ok (.aload_n 0, 1) := by decide +kernel
theorem dX11_power_43 : decode cX11_power 43 = .ok (.getfield 11, 3) := by decide +kernel
theorem dX11_power_46 : decode cX11_power 46 = .ok (.iload_n 2, 1) := by decide +kernel
theorem dX11_power_47 : decode cX11_power 47 = .ok (.aaload, 1) := by decide +kernel
theorem dX11_power_48 : decode cX11_power 48 = .ok (.getfield 113, 3) := by decide +kernel
theorem dX11_power_51 : decode cX11_power 51 = .ok (.sipush 128, 3) := by decide +kernel
theorem dX11_power_54 : decode cX11_power 54 = .ok (.if_icmp .gt 15, 3) := by decide +kernel
theorem dX11_power_57 : decode cX11_power 57 = .ok (.aload_n 0, 1) := by decide +kernel
theorem dX11_power_58 : decode cX11_power 58 = .ok (.getfield 11, 3) := by decide +kernel
theorem dX11_power_61 : decode cX11_power 61 = .ok (.iload_n 3, 1) := by decide +kernel
theorem dX11_power_62 : decode cX11_power 62 = .ok (.aaload, 1) := by decide +kernel
theorem dX11_power_63 : decode cX11_power 63 = .ok (.invokestatic 271, 3) := by decide +kernel
theorem dX11_power_66 : decode cX11_power 66 = .ok (.ifCond .ne 6, 3) := by decide +kernel
theorem dX11_power_69 : decode cX11_power 69 = .ok (.bipush (-2), 2) := by decide +kernel
theorem dX11_power_71 : decode cX11_power 71 = .ok (.ireturn, 1) := by decide +kernel
theorem dX11_power_72 : decode cX11_power 72 = .ok (.aload_n 0, 1) := by decide +kernel
theorem dX11_power_73 : decode cX11_power 73 = .ok (.getfield 95, 3) := by decide +kernel
theorem dX11_power_76 : decode cX11_power 76 = .ok (.aload_n 0, 1) := by decide +kernel
theorem dX11_power_77 : decode cX11_power 77 = .ok (.getfield 11, 3) := by decide +kernel
theorem dX11_power_80 : decode cX11_power 80 = .ok (.iload_n 1, 1) := by decide +kernel
theorem dX11_power_81 : decode cX11_power 81 = .ok (.aaload, 1) := by decide +kernel
theorem dX11_power_82 : decode cX11_power 82 = .ok (.aload_n 0, 1) := by decide +kernel
theorem dX11_power_83 : decode cX11_power 83 = .ok (.getfield 11, 3) := by decide +kernel
theorem dX11_power_86 : decode cX11_power 86 = .ok (.iload_n 2, 1) := by decide +kernel
theorem dX11_power_87 : decode cX11_power 87 = .ok (.aaload, 1) := by decide +kernel
theorem dX11_power_88 : decode cX11_power 88 = .ok (.aload_n 0, 1) := by decide +kernel
theorem dX11_power_89 : decode cX11_power 89 = .ok (.getfield 11, 3) := by decide +kernel
theorem dX11_power_92 : decode cX11_power 92 = .ok (.iload_n 3, 1) := by decide +kernel
theorem dX11_power_93 : decode cX11_power 93 = .ok (.aaload, 1) := by decide +kernel
theorem dX11_power_94 : decode cX11_power 94 = .ok (.aload_n 0, 1) := by decide +kernel
theorem dX11_power_95 : decode cX11_power 95 = .ok (.getfield 22, 3) := by decide +kernel
theorem dX11_power_98 : decode cX11_power 98 = .ok (.invokevirtual 275, 3) := by decide +kernel
theorem dX11_power_101 : decode cX11_power 101 = .ok (.aload_n 0, 1) := by decide +kernel
theorem dX11_power_102 : decode cX11_power 102 = .ok (.getfield 22, 3) := by decide +kernel
theorem dX11_power_105 : decode cX11_power 105 = .ok (.getfield 113, 3) := by decide +kernel
theorem dX11_power_108 : decode cX11_power 108 = .ok (.ireturn, 1) := by decide +kernel
abbrev rmX11_power : Room := { frames := 5, cells := 0, slots := 0, locals := 168 }
set_option maxHeartbeats 4000000 in
set_option maxRecDepth 100000 in
theorem wP_X11_power {G : Nat → Nat} {F : Nat} {x : mXT} {sz : Nat} {r0 : Int32} {M0 : mM} (X : mCX G RX11 cX11_power 4 (some .int) "power" rmX11_power x) (hQ : mQI x r0 M0 (sz, 0, 0)) {l0 : Nat} {l1 : Int32} {l2 : Int32} {l3 : Int32} {M : mM} (h : P_X11_power G F l0 l1 l2 l3 M = some (r0, M0)) : WW x (sz, 0, 0) M 0 [(0, .ref l0), (1, .int l1), (2, .int l2), (3, .int l3)] [] := by
  unfold P_X11_power at h
  refine ww_aload_n 0 X dX11_power_0 0 rfl rfl ?_
  refine ww_iload_n 1 X dX11_power_1 1 rfl rfl ?_
  obtain ⟨_, f2, h⟩ := bO_some h
  obtain ⟨v2, M2, e2, h⟩ := bP_some h
  refine ww_callVI0 2 X dX11_power_2 mY_X11_isRow mL_X11_123 (rcv_spec f2) ⟨_, _, rfl⟩ (by decide) (As := [.int l1]) (rest := []) rfl rfl ⟨Nat.le_of_ble_eq_true rfl, Nat.le_of_ble_eq_true rfl⟩ (Nat.le_of_ble_eq_true rfl) (fun l D A => c_X11_isRow l D A e2) ?_
  refine ww_if_eq 5 24 X dX11_power_5 (by decide) (fun q => ?_) (fun q => ?_)
  · replace h := (if_pos q).symm.trans h
    refine ww_bipush 24 X (v := (-2 : Int32)) dX11_power_24 (by decide) ?_
    exact ww_iretE 26 X hQ dX11_power_26 h
  · replace h := (if_neg q).symm.trans h
    refine ww_aload_n 8 X dX11_power_8 0 rfl rfl ?_
    refine ww_iload_n 9 X dX11_power_9 2 rfl rfl ?_
    obtain ⟨_, f10, h⟩ := bO_some h
    obtain ⟨v10, M10, e10, h⟩ := bP_some h
    refine ww_callVI0 10 X dX11_power_10 mY_X11_isRow mL_X11_123 (rcv_spec f10) ⟨_, _, rfl⟩ (by decide) (As := [.int l2]) (rest := []) rfl rfl ⟨Nat.le_of_ble_eq_true rfl, Nat.le_of_ble_eq_true rfl⟩ (Nat.le_of_ble_eq_true rfl) (fun l D A => c_X11_isRow l D A e10) ?_
    refine ww_if_eq 13 24 X dX11_power_13 (by decide) (fun q => ?_) (fun q => ?_)
    · replace h := (if_pos q).symm.trans h
      refine ww_bipush 24 X (v := (-2 : Int32)) dX11_power_24 (by decide) ?_
      exact ww_iretE 26 X hQ dX11_power_26 h
    · replace h := (if_neg q).symm.trans h
      refine ww_aload_n 16 X dX11_power_16 0 rfl rfl ?_
      refine ww_iload_n 17 X dX11_power_17 3 rfl rfl ?_
      obtain ⟨_, f18, h⟩ := bO_some h
      obtain ⟨v18, M18, e18, h⟩ := bP_some h
      refine ww_callVI0 18 X dX11_power_18 mY_X11_isRow mL_X11_123 (rcv_spec f18) ⟨_, _, rfl⟩ (by decide) (As := [.int l3]) (rest := []) rfl rfl ⟨Nat.le_of_ble_eq_true rfl, Nat.le_of_ble_eq_true rfl⟩ (Nat.le_of_ble_eq_true rfl) (fun l D A => c_X11_isRow l D A e18) ?_
      refine ww_if_ne 21 27 X dX11_power_21 (by decide) (fun q => ?_) (fun q => ?_)
      · replace h := (if_neg q).symm.trans h
        refine ww_aload_n 27 X dX11_power_27 0 rfl rfl ?_
        obtain ⟨v28, e28, h⟩ := bO_some h
        refine ww_getR 28 X dX11_power_28 fG_X11_11 e28 ?_
        refine ww_iload_n 31 X dX11_power_31 1 rfl rfl ?_
        obtain ⟨v32, e32, h⟩ := bO_some h
        refine ww_aald4 32 X dX11_power_32 e32 ?_
        obtain ⟨v33, e33, h⟩ := bO_some h
        refine ww_getI 33 X dX11_power_33 fG_X11_113 e33 ?_
        refine ww_sipush 36 X (v := (128 : Int32)) dX11_power_36 (by decide) ?_
        refine ww_icmp_gt 39 69 X dX11_power_39 (by decide) (fun q => ?_) (fun q => ?_)
        · replace h := (if_pos q).symm.trans h
          refine ww_bipush 69 X (v := (-2 : Int32)) dX11_power_69 (by decide) ?_
          exact ww_iretE 71 X hQ dX11_power_71 h
        · replace h := (if_neg q).symm.trans h
          refine ww_aload_n 42 X dX11_power_42 0 rfl rfl ?_
          obtain ⟨v43, e43, h⟩ := bO_some h
          refine ww_getR 43 X dX11_power_43 fG_X11_11 e43 ?_
          refine ww_iload_n 46 X dX11_power_46 2 rfl rfl ?_
          obtain ⟨v47, e47, h⟩ := bO_some h
          refine ww_aald4 47 X dX11_power_47 e47 ?_
          obtain ⟨v48, e48, h⟩ := bO_some h
          refine ww_getI 48 X dX11_power_48 fG_X11_113 e48 ?_
          refine ww_sipush 51 X (v := (128 : Int32)) dX11_power_51 (by decide) ?_
          refine ww_icmp_gt 54 69 X dX11_power_54 (by decide) (fun q => ?_) (fun q => ?_)
          · replace h := (if_pos q).symm.trans h
            refine ww_bipush 69 X (v := (-2 : Int32)) dX11_power_69 (by decide) ?_
            exact ww_iretE 71 X hQ dX11_power_71 h
          · replace h := (if_neg q).symm.trans h
            refine ww_aload_n 57 X dX11_power_57 0 rfl rfl ?_
            obtain ⟨v58, e58, h⟩ := bO_some h
            refine ww_getR 58 X dX11_power_58 fG_X11_11 e58 ?_
            refine ww_iload_n 61 X dX11_power_61 3 rfl rfl ?_
            obtain ⟨v62, e62, h⟩ := bO_some h
            refine ww_aald4 62 X dX11_power_62 e62 ?_
            obtain ⟨v63, M63, e63, h⟩ := bP_some h
            refine ww_callSI0 63 X dX11_power_63 mY_X6_suits mL_X11_271 (As := [.ref v62]) (rest := []) rfl rfl ⟨Nat.le_of_ble_eq_true rfl, Nat.le_of_ble_eq_true rfl⟩ (Nat.le_of_ble_eq_true rfl) (fun l D A => c_X6_suits l D A e63) ?_
            refine ww_if_ne 66 72 X dX11_power_66 (by decide) (fun q => ?_) (fun q => ?_)
            · replace h := (if_neg q).symm.trans h
              refine ww_aload_n 72 X dX11_power_72 0 rfl rfl ?_
              obtain ⟨v73, e73, h⟩ := bO_some h
              refine ww_getR 73 X dX11_power_73 fG_X11_95 e73 ?_
              refine ww_aload_n 76 X dX11_power_76 0 rfl rfl ?_
              obtain ⟨v77, e77, h⟩ := bO_some h
              refine ww_getR 77 X dX11_power_77 fG_X11_11 e77 ?_
              refine ww_iload_n 80 X dX11_power_80 1 rfl rfl ?_
              obtain ⟨v81, e81, h⟩ := bO_some h
              refine ww_aald4 81 X dX11_power_81 e81 ?_
              refine ww_aload_n 82 X dX11_power_82 0 rfl rfl ?_
              obtain ⟨v83, e83, h⟩ := bO_some h
              refine ww_getR 83 X dX11_power_83 fG_X11_11 e83 ?_
              refine ww_iload_n 86 X dX11_power_86 2 rfl rfl ?_
              obtain ⟨v87, e87, h⟩ := bO_some h
              refine ww_aald4 87 X dX11_power_87 e87 ?_
              refine ww_aload_n 88 X dX11_power_88 0 rfl rfl ?_
              obtain ⟨v89, e89, h⟩ := bO_some h
              refine ww_getR 89 X dX11_power_89 fG_X11_11 e89 ?_
              refine ww_iload_n 92 X dX11_power_92 3 rfl rfl ?_
              obtain ⟨v93, e93, h⟩ := bO_some h
              refine ww_aald4 93 X dX11_power_93 e93 ?_
              refine ww_aload_n 94 X dX11_power_94 0 rfl rfl ?_
              obtain ⟨v95, e95, h⟩ := bO_some h
              refine ww_getR 95 X dX11_power_95 fG_X11_22 e95 ?_
              obtain ⟨_, f98, h⟩ := bO_some h
              obtain ⟨M98, e98, h⟩ := bO_some h
              refine ww_callVV0 98 X dX11_power_98 mY_X8_raise mL_X11_275 (rcv_spec f98) ⟨_, _, rfl⟩ (by decide) (As := [.ref v81, .ref v87, .ref v93, .ref v95]) (rest := []) rfl rfl ⟨Nat.le_of_ble_eq_true rfl, Nat.le_of_ble_eq_true rfl⟩ (Nat.le_of_ble_eq_true rfl) (fun l D A => c_X8_raise l D A e98) ?_
              refine ww_aload_n 101 X dX11_power_101 0 rfl rfl ?_
              obtain ⟨v102, e102, h⟩ := bO_some h
              refine ww_getR 102 X dX11_power_102 fG_X11_22 e102 ?_
              obtain ⟨v105, e105, h⟩ := bO_some h
              refine ww_getI 105 X dX11_power_105 fG_X11_113 e105 ?_
              exact ww_iretE 108 X hQ dX11_power_108 h
            · replace h := (if_pos q).symm.trans h
              refine ww_bipush 69 X (v := (-2 : Int32)) dX11_power_69 (by decide) ?_
              exact ww_iretE 71 X hQ dX11_power_71 h
      · replace h := (if_pos q).symm.trans h
        refine ww_bipush 24 X (v := (-2 : Int32)) dX11_power_24 (by decide) ?_
        exact ww_iretE 26 X hQ dX11_power_26 h
theorem c_X11_power {G : Nat → Nat} {F sz : Nat} {r0 : Int32} {M0 : mM} (l : Launch) (D : mD) (A : Nat → Prop) {l0 : Nat} {l1 : Int32} {l2 : Int32} {l3 : Int32} {M : mM} (h : P_X11_power G F l0 l1 l2 l3 M = some (r0, M0)) : mMetI l D G A yX11_power cX11_power 4 (some .int) 5 168 0 0 [.ref l0, .int l1, .int l2, .int l3] M sz r0 M0 sz := mMetI_of l D G A (by decide) (Nat.le_of_ble_eq_true rfl) (fun x X hQ => wP_X11_power X hQ h)
/-! SealedTokens.multiply(II)I -/
theorem dX11_multiply_0 : decode cX11_multiply 0 = .ok (.aload_n 0, 1) := by decide +kernel
theorem dX11_multiply_1 : decode cX11_multiply 1 = .ok (.iload_n 1, 1) := by decide +kernel
theorem dX11_multiply_2 : decode cX11_multiply 2 = .ok (.invokevirtual 123, 3) := by decide +kernel
theorem dX11_multiply_5 : decode cX11_multiply 5 = .ok (.ifCond .eq 30, 3) := by decide +kernel
theorem dX11_multiply_8 : decode cX11_multiply 8 = .ok (.aload_n 0, 1) := by decide +kernel
theorem dX11_multiply_9 : decode cX11_multiply 9 = .ok (.getfield 11, 3) := by decide +kernel
theorem dX11_multiply_12 : decode cX11_multiply 12 = .ok (.iload_n 1, 1) := by decide +kernel
theorem dX11_multiply_13 : decode cX11_multiply 13 = .ok (.aaload, 1) := by decide +kernel
theorem dX11_multiply_14 : decode cX11_multiply 14 = .ok (.getfield 113, 3) := by decide +kernel
theorem dX11_multiply_17 : decode cX11_multiply 17 = .ok (.bipush 32, 2) := by decide +kernel
theorem dX11_multiply_19 : decode cX11_multiply 19 = .ok (.if_icmp .ne 16, 3) := by decide +kernel
theorem dX11_multiply_22 : decode cX11_multiply 22 = .ok (.iload_n 2, 1) := by decide +kernel
theorem dX11_multiply_23 : decode cX11_multiply 23 = .ok (.iconst (-1), 1) := by decide +kernel
theorem dX11_multiply_24 : decode cX11_multiply 24 = .ok (.if_icmp .eq 14, 3) := by decide +kernel
theorem dX11_multiply_27 : decode cX11_multiply 27 = .ok (.aload_n 0, 1) := by decide +kernel
theorem dX11_multiply_28 : decode cX11_multiply 28 = .ok (.iload_n 2, 1) := by decide +kernel
theorem dX11_multiply_29 : decode cX11_multiply 29 = .ok (.invokevirtual 123, 3) := by decide +kernel
theorem dX11_multiply_32 : decode cX11_multiply 32 = .ok (.ifCond .ne 6, 3) := by decide +kernel
theorem dX11_multiply_35 : decode cX11_multiply 35 = .ok (.bipush (-2), 2) := by decide +kernel
theorem dX11_multiply_37 : decode cX11_multiply 37 = .ok (.ireturn, 1) := by decide +kernel
theorem dX11_multiply_38 : decode cX11_multiply 38 = .ok (.iload_n 2, 1) := by decide +kernel
theorem dX11_multiply_39 : decode cX11_multiply 39 = .ok (.iconst (-1), 1) := by decide +kernel
theorem dX11_multiply_40 : decode cX11_multiply 40 = .ok (.if_icmp .eq 36, 3) := by decide +kernel
theorem dX11_multiply_43 : decode cX11_multiply 43 = .ok (.aload_n 0, 1) := by decide +kernel
theorem dX11_multiply_44 : decode cX11_multiply 44 = .ok (.getfield 11, 3) := by decide +kernel
theorem dX11_multiply_47 : decode cX11_multiply 47 = .ok (.iload_n 2, 1) := by decide +kernel
theorem dX11_multiply_48 : decode cX11_multiply 48 = .ok (.aaload, 1) := by decide +kernel
theorem dX11_multiply_49 : decode cX11_multiply 49 = .ok (.getfield 113, 3) := by decide +kernel
theorem dX11_multiply_52 : decode cX11_multiply 52 = .ok (.bipush 64, 2) := by decide +kernel
theorem dX11_multiply_54 : decode cX11_multiply 54 = .ok (.if_icmp .ne 19, 3) := by decide +kernel
theorem dX11_multiply_57 : decode cX11_multiply 57 = .ok (.aload_n 0, 1) := by decide +kernel
theorem dX11_multiply_58 : decode cX11_multiply 58 = .ok (.getfield 102, 3) := by decide +kernel
theorem dX11_multiply_61 : decode cX11_multiply 61 = .ok (.aload_n 0, 1) := by decide +kernel
theorem dX11_multiply_62 : decode cX11_multiply 62 = .ok (.getfield 11, 3) := by decide +kernel
theorem dX11_multiply_65 : decode cX11_multiply 65 = .ok (.iload_n 2, 1) := by decide +kernel
theorem dX11_multiply_66 : decode cX11_multiply 66 = .ok (.aaload, 1) := by decide +kernel
theorem dX11_multiply_67 : decode cX11_multiply 67 = .ok (.invokevirtual 279, 3) := by decide +kernel
theorem dX11_multiply_70 : decode cX11_multiply 70 = .ok (.ifCond .ne 6, 3) := by decide +kernel
theorem dX11_multiply_73 : decode cX11_multiply 73 = .ok (.bipush (-2), 2) := by decide +kernel
theorem dX11_multiply_75 : decode cX11_multiply 75 = .ok (.ireturn, 1) := by decide +kernel
theorem dX11_multiply_76 : decode cX11_multiply 76 = .ok (.aload_n 0, 1) := by decide +kernel
theorem dX11_multiply_77 : decode cX11_multiply 77 = .ok (.getfield 102, 3) := by decide +kernel
theorem dX11_multiply_80 : decode cX11_multiply 80 = .ok (.aload_n 0, 1) := by decide +kernel
theorem dX11_multiply_81 : decode cX11_multiply 81 = .ok (.getfield 11, 3) := by decide +kernel
theorem dX11_multiply_84 : decode cX11_multiply 84 = .ok (.iload_n 1, 1) := by decide +kernel
theorem dX11_multiply_85 : decode cX11_multiply 85 = .ok (.aaload, 1) := by decide +kernel
theorem dX11_multiply_86 : decode cX11_multiply 86 = .ok (.iload_n 2, 1) := by decide +kernel
theorem dX11_multiply_87 : decode cX11_multiply 87 = .ok (.iconst (-1), 1) := by decide +kernel
theorem dX11_multiply_88 : decode cX11_multiply 88 = .ok (.if_icmp .ne 13, 3) := by decide +kernel
theorem dX11_multiply_91 : decode cX11_multiply 91 = .ok (.aload_n 0, 1) := by decide +kernel
theorem dX11_multiply_92 : decode cX11_multiply 92 = .ok (.getfield 102, 3) := by decide +kernel
theorem dX11_multiply_95 : decode cX11_multiply 95 = .ok (.getfield 282, 3) := by decide +kernel
theorem dX11_multiply_98 : decode cX11_multiply 98 = .ok (.goto 10, 3) := by decide +kernel
theorem dX11_multiply_101 : decode cX11_multiply 101 = .ok (.aload_n 0, 1) := by decide +kernel
theorem dX11_multiply_102 : decode cX11_multiply 102 = .ok (.getfield 102, 3) := by decide +kernel
theorem dX11_multiply_105 : decode cX11_multiply 105 = .ok (.getfield 286, 3) := by decide +kernel
theorem dX11_multiply_108 : decode cX11_multiply 108 = .ok (.aload_n 0, 1) := by decide +kernel
theorem dX11_multiply_109 : decode cX11_multiply 109 = .ok (.getfield 25, 3) := by decide +kernel
theorem dX11_multiply_112 : decode cX11_multiply 112 = .ok (.aload_n 0, 1) := by decide +kernel
theorem dX11_multiply_113 : decode cX11_multiply 113 = .ok (.getfield 102, 3) := by decide +kernel
theorem dX11_multiply_116 : decode cX11_multiply 116 = .ok (.getfield 282, 3) := by decide +kernel
theorem dX11_multiply_119 : decode cX11_multiply 119 = .ok (.invokevirtual 289, 3) := by decide +kernel
theorem dX11_multiply_122 : decode cX11_multiply 122 = .ok (.aload_n 0, 1) := by decide +kernel
theorem dX11_multiply_123 : decode cX11_multiply 123 = .ok (.getfield 102, 3) := by decide +kernel
theorem dX11_multiply_126 : decode cX11_multiply 126 = .ok (.aload_n 0, 1) := by decide +kernel
theorem dX11_multiply_127 : decode cX11_multiply 127 = .ok (.getfield 22, 3) := by decide +kernel
theorem dX11_multiply_130 : decode cX11_multiply 130 = .ok (.invokevirtual 293, 3) := by decide +kernel
theorem dX11_multiply_133 : decode cX11_multiply 133 = .ok (.ifCond .eq 13, 3) := by decide +kernel
theorem dX11_multiply_136 : decode cX11_multiply 136 = .ok (.aload_n 0, 1) := by decide +kernel
theorem dX11_multiply_137 : decode cX11_multiply 137 = .ok (.getfield 22, 3) := by decide +kernel
theorem dX11_multiply_140 : decode cX11_multiply 140 = .ok (.getfield 113, 3) := by decide +kernel
theorem dX11_multiply_143 : decode cX11_multiply 143 = .ok (.goto 4, 3) := by decide +kernel
theorem dX11_multiply_146 : decode cX11_multiply 146 = .ok (.iconst (-1), 1) := by decide +kernel
theorem dX11_multiply_147 : decode cX11_multiply 147 = .ok (.ireturn, 1) := by decide +kernel
abbrev rmX11_multiply : Room := { frames := 5, cells := 0, slots := 0, locals := 167 }
set_option maxHeartbeats 4000000 in
set_option maxRecDepth 100000 in
theorem wB_X11_multiply_108 {G : Nat → Nat} {F : Nat} {x : mXT} {sz : Nat} {r0 : Int32} {M0 : mM} (X : mCX G RX11 cX11_multiply 3 (some .int) "multiply" rmX11_multiply x) (hQ : mQI x r0 M0 (sz, 0, 0)) {l0 : Nat} {s0 : Nat} {s1 : Nat} {s2 : Nat} {M : mM} (h : B_X11_multiply_108 G F l0 s0 s1 s2 M = some (r0, M0)) : WW x (sz, 0, 0) M 108 [(0, .ref l0)] [.ref s2, .ref s1, .ref s0] := by
  unfold B_X11_multiply_108 at h
  refine ww_aload_n 108 X dX11_multiply_108 0 rfl rfl ?_
  obtain ⟨v109, e109, h⟩ := bO_some h
  refine ww_getR 109 X dX11_multiply_109 fG_X11_25 e109 ?_
  refine ww_aload_n 112 X dX11_multiply_112 0 rfl rfl ?_
  obtain ⟨v113, e113, h⟩ := bO_some h
  refine ww_getR 113 X dX11_multiply_113 fG_X11_102 e113 ?_
  obtain ⟨v116, e116, h⟩ := bO_some h
  refine ww_getR 116 X dX11_multiply_116 fG_X11_282 e116 ?_
  obtain ⟨_, f119, h⟩ := bO_some h
  obtain ⟨M119, e119, h⟩ := bO_some h
  refine ww_callVV0 119 X dX11_multiply_119 mY_X3_sumUp mL_X11_289 (rcv_spec f119) ⟨_, _, rfl⟩ (by decide) (As := [.ref s1, .ref s2, .ref v109, .ref v116]) (rest := []) rfl rfl ⟨Nat.le_of_ble_eq_true rfl, Nat.le_of_ble_eq_true rfl⟩ (Nat.le_of_ble_eq_true rfl) (fun l D A => c_X3_sumUp l D A e119) ?_
  refine ww_aload_n 122 X dX11_multiply_122 0 rfl rfl ?_
  obtain ⟨v123, e123, h⟩ := bO_some h
  refine ww_getR 123 X dX11_multiply_123 fG_X11_102 e123 ?_
  refine ww_aload_n 126 X dX11_multiply_126 0 rfl rfl ?_
  obtain ⟨v127, e127, h⟩ := bO_some h
  refine ww_getR 127 X dX11_multiply_127 fG_X11_22 e127 ?_
  obtain ⟨_, f130, h⟩ := bO_some h
  obtain ⟨v130, M130, e130, h⟩ := bP_some h
  refine ww_callVI0 130 X dX11_multiply_130 mY_X3_putSum mL_X11_293 (rcv_spec f130) ⟨_, _, rfl⟩ (by decide) (As := [.ref v127]) (rest := []) rfl rfl ⟨Nat.le_of_ble_eq_true rfl, Nat.le_of_ble_eq_true rfl⟩ (Nat.le_of_ble_eq_true rfl) (fun l D A => c_X3_putSum l D A e130) ?_
  refine ww_if_eq 133 146 X dX11_multiply_133 (by decide) (fun q => ?_) (fun q => ?_)
  · replace h := (if_pos q).symm.trans h
    refine ww_iconst 146 X (v := (-1 : Int32)) dX11_multiply_146 (by decide) ?_
    exact ww_iretE 147 X hQ dX11_multiply_147 h
  · replace h := (if_neg q).symm.trans h
    refine ww_aload_n 136 X dX11_multiply_136 0 rfl rfl ?_
    obtain ⟨v137, e137, h⟩ := bO_some h
    refine ww_getR 137 X dX11_multiply_137 fG_X11_22 e137 ?_
    obtain ⟨v140, e140, h⟩ := bO_some h
    refine ww_getI 140 X dX11_multiply_140 fG_X11_113 e140 ?_
    refine ww_goto 143 147 X dX11_multiply_143 (by decide) ?_
    exact ww_iretE 147 X hQ dX11_multiply_147 h
set_option maxHeartbeats 4000000 in
set_option maxRecDepth 100000 in
theorem wB_X11_multiply_76 {G : Nat → Nat} {F : Nat} {x : mXT} {sz : Nat} {r0 : Int32} {M0 : mM} (X : mCX G RX11 cX11_multiply 3 (some .int) "multiply" rmX11_multiply x) (hQ : mQI x r0 M0 (sz, 0, 0)) {l0 : Nat} {l1 : Int32} {l2 : Int32} {M : mM} (h : B_X11_multiply_76 G F l0 l1 l2 M = some (r0, M0)) : WW x (sz, 0, 0) M 76 [(0, .ref l0), (1, .int l1), (2, .int l2)] [] := by
  unfold B_X11_multiply_76 at h
  refine ww_aload_n 76 X dX11_multiply_76 0 rfl rfl ?_
  obtain ⟨v77, e77, h⟩ := bO_some h
  refine ww_getR 77 X dX11_multiply_77 fG_X11_102 e77 ?_
  refine ww_aload_n 80 X dX11_multiply_80 0 rfl rfl ?_
  obtain ⟨v81, e81, h⟩ := bO_some h
  refine ww_getR 81 X dX11_multiply_81 fG_X11_11 e81 ?_
  refine ww_iload_n 84 X dX11_multiply_84 1 rfl rfl ?_
  obtain ⟨v85, e85, h⟩ := bO_some h
  refine ww_aald4 85 X dX11_multiply_85 e85 ?_
  refine ww_iload_n 86 X dX11_multiply_86 2 rfl rfl ?_
  refine ww_iconst 87 X (v := (-1 : Int32)) dX11_multiply_87 (by decide) ?_
  refine ww_icmp_ne 88 101 X dX11_multiply_88 (by decide) (fun q => ?_) (fun q => ?_)
  · replace h := (if_neg q).symm.trans h
    refine ww_aload_n 101 X dX11_multiply_101 0 rfl rfl ?_
    obtain ⟨v102, e102, h⟩ := bO_some h
    refine ww_getR 102 X dX11_multiply_102 fG_X11_102 e102 ?_
    obtain ⟨v105, e105, h⟩ := bO_some h
    refine ww_getR 105 X dX11_multiply_105 fG_X11_286 e105 ?_
    exact ww_sub [0] rfl (wB_X11_multiply_108 X hQ h)
  · replace h := (if_pos q).symm.trans h
    refine ww_aload_n 91 X dX11_multiply_91 0 rfl rfl ?_
    obtain ⟨v92, e92, h⟩ := bO_some h
    refine ww_getR 92 X dX11_multiply_92 fG_X11_102 e92 ?_
    obtain ⟨v95, e95, h⟩ := bO_some h
    refine ww_getR 95 X dX11_multiply_95 fG_X11_282 e95 ?_
    refine ww_goto 98 108 X dX11_multiply_98 (by decide) ?_
    exact ww_sub [0] rfl (wB_X11_multiply_108 X hQ h)
set_option maxHeartbeats 4000000 in
set_option maxRecDepth 100000 in
theorem wB_X11_multiply_38 {G : Nat → Nat} {F : Nat} {x : mXT} {sz : Nat} {r0 : Int32} {M0 : mM} (X : mCX G RX11 cX11_multiply 3 (some .int) "multiply" rmX11_multiply x) (hQ : mQI x r0 M0 (sz, 0, 0)) {l0 : Nat} {l1 : Int32} {l2 : Int32} {M : mM} (h : B_X11_multiply_38 G F l0 l1 l2 M = some (r0, M0)) : WW x (sz, 0, 0) M 38 [(0, .ref l0), (1, .int l1), (2, .int l2)] [] := by
  unfold B_X11_multiply_38 at h
  refine ww_iload_n 38 X dX11_multiply_38 2 rfl rfl ?_
  refine ww_iconst 39 X (v := (-1 : Int32)) dX11_multiply_39 (by decide) ?_
  refine ww_icmp_eq 40 76 X dX11_multiply_40 (by decide) (fun q => ?_) (fun q => ?_)
  · replace h := (if_pos q).symm.trans h
    exact (wB_X11_multiply_76 X hQ h)
  · replace h := (if_neg q).symm.trans h
    refine ww_aload_n 43 X dX11_multiply_43 0 rfl rfl ?_
    obtain ⟨v44, e44, h⟩ := bO_some h
    refine ww_getR 44 X dX11_multiply_44 fG_X11_11 e44 ?_
    refine ww_iload_n 47 X dX11_multiply_47 2 rfl rfl ?_
    obtain ⟨v48, e48, h⟩ := bO_some h
    refine ww_aald4 48 X dX11_multiply_48 e48 ?_
    obtain ⟨v49, e49, h⟩ := bO_some h
    refine ww_getI 49 X dX11_multiply_49 fG_X11_113 e49 ?_
    refine ww_bipush 52 X (v := (64 : Int32)) dX11_multiply_52 (by decide) ?_
    refine ww_icmp_ne 54 73 X dX11_multiply_54 (by decide) (fun q => ?_) (fun q => ?_)
    · replace h := (if_neg q).symm.trans h
      refine ww_bipush 73 X (v := (-2 : Int32)) dX11_multiply_73 (by decide) ?_
      exact ww_iretE 75 X hQ dX11_multiply_75 h
    · replace h := (if_pos q).symm.trans h
      refine ww_aload_n 57 X dX11_multiply_57 0 rfl rfl ?_
      obtain ⟨v58, e58, h⟩ := bO_some h
      refine ww_getR 58 X dX11_multiply_58 fG_X11_102 e58 ?_
      refine ww_aload_n 61 X dX11_multiply_61 0 rfl rfl ?_
      obtain ⟨v62, e62, h⟩ := bO_some h
      refine ww_getR 62 X dX11_multiply_62 fG_X11_11 e62 ?_
      refine ww_iload_n 65 X dX11_multiply_65 2 rfl rfl ?_
      obtain ⟨v66, e66, h⟩ := bO_some h
      refine ww_aald4 66 X dX11_multiply_66 e66 ?_
      obtain ⟨_, f67, h⟩ := bO_some h
      obtain ⟨v67, M67, e67, h⟩ := bP_some h
      refine ww_callVI0 67 X dX11_multiply_67 mY_X3_load mL_X11_279 (rcv_spec f67) ⟨_, _, rfl⟩ (by decide) (As := [.ref v66]) (rest := []) rfl rfl ⟨Nat.le_of_ble_eq_true rfl, Nat.le_of_ble_eq_true rfl⟩ (Nat.le_of_ble_eq_true rfl) (fun l D A => c_X3_load l D A e67) ?_
      refine ww_if_ne 70 76 X dX11_multiply_70 (by decide) (fun q => ?_) (fun q => ?_)
      · replace h := (if_neg q).symm.trans h
        exact (wB_X11_multiply_76 X hQ h)
      · replace h := (if_pos q).symm.trans h
        refine ww_bipush 73 X (v := (-2 : Int32)) dX11_multiply_73 (by decide) ?_
        exact ww_iretE 75 X hQ dX11_multiply_75 h
set_option maxHeartbeats 4000000 in
set_option maxRecDepth 100000 in
theorem wP_X11_multiply {G : Nat → Nat} {F : Nat} {x : mXT} {sz : Nat} {r0 : Int32} {M0 : mM} (X : mCX G RX11 cX11_multiply 3 (some .int) "multiply" rmX11_multiply x) (hQ : mQI x r0 M0 (sz, 0, 0)) {l0 : Nat} {l1 : Int32} {l2 : Int32} {M : mM} (h : P_X11_multiply G F l0 l1 l2 M = some (r0, M0)) : WW x (sz, 0, 0) M 0 [(0, .ref l0), (1, .int l1), (2, .int l2)] [] := by
  unfold P_X11_multiply at h
  refine ww_aload_n 0 X dX11_multiply_0 0 rfl rfl ?_
  refine ww_iload_n 1 X dX11_multiply_1 1 rfl rfl ?_
  obtain ⟨_, f2, h⟩ := bO_some h
  obtain ⟨v2, M2, e2, h⟩ := bP_some h
  refine ww_callVI0 2 X dX11_multiply_2 mY_X11_isRow mL_X11_123 (rcv_spec f2) ⟨_, _, rfl⟩ (by decide) (As := [.int l1]) (rest := []) rfl rfl ⟨Nat.le_of_ble_eq_true rfl, Nat.le_of_ble_eq_true rfl⟩ (Nat.le_of_ble_eq_true rfl) (fun l D A => c_X11_isRow l D A e2) ?_
  refine ww_if_eq 5 35 X dX11_multiply_5 (by decide) (fun q => ?_) (fun q => ?_)
  · replace h := (if_pos q).symm.trans h
    refine ww_bipush 35 X (v := (-2 : Int32)) dX11_multiply_35 (by decide) ?_
    exact ww_iretE 37 X hQ dX11_multiply_37 h
  · replace h := (if_neg q).symm.trans h
    refine ww_aload_n 8 X dX11_multiply_8 0 rfl rfl ?_
    obtain ⟨v9, e9, h⟩ := bO_some h
    refine ww_getR 9 X dX11_multiply_9 fG_X11_11 e9 ?_
    refine ww_iload_n 12 X dX11_multiply_12 1 rfl rfl ?_
    obtain ⟨v13, e13, h⟩ := bO_some h
    refine ww_aald4 13 X dX11_multiply_13 e13 ?_
    obtain ⟨v14, e14, h⟩ := bO_some h
    refine ww_getI 14 X dX11_multiply_14 fG_X11_113 e14 ?_
    refine ww_bipush 17 X (v := (32 : Int32)) dX11_multiply_17 (by decide) ?_
    refine ww_icmp_ne 19 35 X dX11_multiply_19 (by decide) (fun q => ?_) (fun q => ?_)
    · replace h := (if_neg q).symm.trans h
      refine ww_bipush 35 X (v := (-2 : Int32)) dX11_multiply_35 (by decide) ?_
      exact ww_iretE 37 X hQ dX11_multiply_37 h
    · replace h := (if_pos q).symm.trans h
      refine ww_iload_n 22 X dX11_multiply_22 2 rfl rfl ?_
      refine ww_iconst 23 X (v := (-1 : Int32)) dX11_multiply_23 (by decide) ?_
      refine ww_icmp_eq 24 38 X dX11_multiply_24 (by decide) (fun q => ?_) (fun q => ?_)
      · replace h := (if_pos q).symm.trans h
        exact (wB_X11_multiply_38 X hQ h)
      · replace h := (if_neg q).symm.trans h
        refine ww_aload_n 27 X dX11_multiply_27 0 rfl rfl ?_
        refine ww_iload_n 28 X dX11_multiply_28 2 rfl rfl ?_
        obtain ⟨_, f29, h⟩ := bO_some h
        obtain ⟨v29, M29, e29, h⟩ := bP_some h
        refine ww_callVI0 29 X dX11_multiply_29 mY_X11_isRow mL_X11_123 (rcv_spec f29) ⟨_, _, rfl⟩ (by decide) (As := [.int l2]) (rest := []) rfl rfl ⟨Nat.le_of_ble_eq_true rfl, Nat.le_of_ble_eq_true rfl⟩ (Nat.le_of_ble_eq_true rfl) (fun l D A => c_X11_isRow l D A e29) ?_
        refine ww_if_ne 32 38 X dX11_multiply_32 (by decide) (fun q => ?_) (fun q => ?_)
        · replace h := (if_neg q).symm.trans h
          exact (wB_X11_multiply_38 X hQ h)
        · replace h := (if_pos q).symm.trans h
          refine ww_bipush 35 X (v := (-2 : Int32)) dX11_multiply_35 (by decide) ?_
          exact ww_iretE 37 X hQ dX11_multiply_37 h
theorem c_X11_multiply {G : Nat → Nat} {F sz : Nat} {r0 : Int32} {M0 : mM} (l : Launch) (D : mD) (A : Nat → Prop) {l0 : Nat} {l1 : Int32} {l2 : Int32} {M : mM} (h : P_X11_multiply G F l0 l1 l2 M = some (r0, M0)) : mMetI l D G A yX11_multiply cX11_multiply 3 (some .int) 5 167 0 0 [.ref l0, .int l1, .int l2] M sz r0 M0 sz := mMetI_of l D G A (by decide) (Nat.le_of_ble_eq_true rfl) (fun x X hQ => wP_X11_multiply X hQ h)
/-! SealedTokens.derive(IIIII)I -/
theorem dX11_derive_0 : decode cX11_derive 0 = .ok (.aload_n 0, 1) := by decide +kernel
theorem dX11_derive_1 : decode cX11_derive 1 = .ok (.iload_n 1, 1) := by decide +kernel
theorem dX11_derive_2 : decode cX11_derive 2 = .ok (.invokevirtual 123, 3) := by decide +kernel
theorem dX11_derive_5 : decode cX11_derive 5 = .ok (.ifCond .eq 49, 3) := by decide +kernel
theorem dX11_derive_8 : decode cX11_derive 8 = .ok (.aload_n 0, 1) := by decide +kernel
theorem dX11_derive_9 : decode cX11_derive 9 = .ok (.iload_n 2, 1) := by decide +kernel
theorem dX11_derive_10 : decode cX11_derive 10 = .ok (.invokevirtual 123, 3) := by decide +kernel
theorem dX11_derive_13 : decode cX11_derive 13 = .ok (.ifCond .eq 41, 3) := by decide +kernel
theorem dX11_derive_16 : decode cX11_derive 16 = .ok (.aload_n 0, 1) := by decide +kernel
theorem dX11_derive_17 : decode cX11_derive 17 = .ok (.iload_n 3, 1) := by decide +kernel
theorem dX11_derive_18 : decode cX11_derive 18 = .ok (.invokevirtual 123, 3) := by decide +kernel
theorem dX11_derive_21 : decode cX11_derive 21 = .ok (.ifCond .eq 33, 3) := by decide +kernel
theorem dX11_derive_24 : decode cX11_derive 24 = .ok (.aload_n 0, 1) := by decide +kernel
theorem dX11_derive_25 : decode cX11_derive 25 = .ok (.iload 4, 2) := by decide +kernel
theorem dX11_derive_27 : decode cX11_derive 27 = .ok (.invokevirtual 123, 3) := by decide +kernel
theorem dX11_derive_30 : decode cX11_derive 30 = .ok (.ifCond .eq 24, 3) := by decide +kernel
theorem dX11_derive_33 : decode cX11_derive 33 = .ok (.iload 5, 2) := by decide +kernel
theorem dX11_derive_35 : decode cX11_derive 35 = .ok (.bipush 16, 2) := by decide +kernel
theorem dX11_derive_37 : decode cX11_derive 37 = .ok (.if_icmp .eq 20, 3) := by decide +kernel
theorem dX11_derive_40 : decode cX11_derive 40 = .ok (.iload 5, 2) := by decide +kernel
theorem dX11_derive_42 : decode cX11_derive 42 = .ok (.bipush 32, 2) := by decide +kernel
theorem dX11_derive_44 : decode cX11_derive 44 = .ok (.if_icmp .eq 13, 3) := by decide +kernel
theorem dX11_derive_47 : decode cX11_derive 47 = .ok (.iload 5, 2) := by decide +kernel
theorem dX11_derive_49 : decode cX11_derive 49 = .ok (.bipush 64, 2) := by decide +kernel
theorem dX11_derive_51 : decode cX11_derive 51 = .ok (.if_icmp .eq 6, 3) := by decide +kernel
theorem dX11_derive_54 : decode cX11_derive 54 = .ok (.bipush (-2), 2) := by decide +kernel
theorem dX11_derive_56 : decode cX11_derive 56 = .ok (.ireturn, 1) := by decide +kernel
theorem dX11_derive_57 : decode cX11_derive 57 = .ok (.aload_n 0, 1) := by decide +kernel
theorem dX11_derive_58 : decode cX11_derive 58 = .ok (.getfield 70, 3) := by decide +kernel
theorem dX11_derive_61 : decode cX11_derive 61 = .ok (.aload_n 0, 1) := by decide +kernel
theorem dX11_derive_62 : decode cX11_derive 62 = .ok (.getfield 11, 3) := by decide +kernel
theorem dX11_derive_65 : decode cX11_derive 65 = .ok (.iload_n 1, 1) := by decide +kernel
theorem dX11_derive_66 : decode cX11_derive 66 = .ok (.aaload, 1) := by decide +kernel
theorem dX11_derive_67 : decode cX11_derive 67 = .ok (.aload_n 0, 1) := by decide +kernel
theorem dX11_derive_68 : decode cX11_derive 68 = .ok (.getfield 11, 3) := by decide +kernel
theorem dX11_derive_71 : decode cX11_derive 71 = .ok (.iload_n 2, 1) := by decide +kernel
theorem dX11_derive_72 : decode cX11_derive 72 = .ok (.aaload, 1) := by decide +kernel
theorem dX11_derive_73 : decode cX11_derive 73 = .ok (.aload_n 0, 1) := by decide +kernel
theorem dX11_derive_74 : decode cX11_derive 74 = .ok (.getfield 11, 3) := by decide +kernel
theorem dX11_derive_77 : decode cX11_derive 77 = .ok (.iload_n 3, 1) := by decide +kernel
theorem dX11_derive_78 : decode cX11_derive 78 = .ok (.aaload, 1) := by decide +kernel
theorem dX11_derive_79 : decode cX11_derive 79 = .ok (.aload_n 0, 1) := by decide +kernel
theorem dX11_derive_80 : decode cX11_derive 80 = .ok (.getfield 11, 3) := by decide +kernel
theorem dX11_derive_83 : decode cX11_derive 83 = .ok (.iload 4, 2) := by decide +kernel
theorem dX11_derive_85 : decode cX11_derive 85 = .ok (.aaload, 1) := by decide +kernel
theorem dX11_derive_86 : decode cX11_derive 86 = .ok (.iload 5, 2) := by decide +kernel
theorem dX11_derive_88 : decode cX11_derive 88 = .ok (.aload_n 0, 1) := by decide +kernel
theorem dX11_derive_89 : decode cX11_derive 89 = .ok (.getfield 22, 3) := by decide +kernel
theorem dX11_derive_92 : decode cX11_derive 92 = .ok (.invokevirtual 296, 3) := by decide +kernel
theorem dX11_derive_95 : decode cX11_derive 95 = .ok (.aload_n 0, 1) := by decide +kernel
theorem dX11_derive_96 : decode cX11_derive 96 = .ok (.getfield 22, 3) := by decide +kernel
theorem dX11_derive_99 : decode cX11_derive 99 = .ok (.getfield 113, 3) := by decide +kernel
theorem dX11_derive_102 : decode cX11_derive 102 = .ok (.ireturn, 1) := by decide +kernel
abbrev rmX11_derive : Room := { frames := 4, cells := 0, slots := 0, locals := 132 }
set_option maxHeartbeats 4000000 in
set_option maxRecDepth 100000 in
theorem wB_X11_derive_57 {G : Nat → Nat} {F : Nat} {x : mXT} {sz : Nat} {r0 : Int32} {M0 : mM} (X : mCX G RX11 cX11_derive 6 (some .int) "derive" rmX11_derive x) (hQ : mQI x r0 M0 (sz, 0, 0)) {l0 : Nat} {l1 : Int32} {l2 : Int32} {l3 : Int32} {l4 : Int32} {l5 : Int32} {M : mM} (h : B_X11_derive_57 G F l0 l1 l2 l3 l4 l5 M = some (r0, M0)) : WW x (sz, 0, 0) M 57 [(0, .ref l0), (1, .int l1), (2, .int l2), (3, .int l3), (4, .int l4), (5, .int l5)] [] := by
  unfold B_X11_derive_57 at h
  refine ww_aload_n 57 X dX11_derive_57 0 rfl rfl ?_
  obtain ⟨v58, e58, h⟩ := bO_some h
  refine ww_getR 58 X dX11_derive_58 fG_X11_70 e58 ?_
  refine ww_aload_n 61 X dX11_derive_61 0 rfl rfl ?_
  obtain ⟨v62, e62, h⟩ := bO_some h
  refine ww_getR 62 X dX11_derive_62 fG_X11_11 e62 ?_
  refine ww_iload_n 65 X dX11_derive_65 1 rfl rfl ?_
  obtain ⟨v66, e66, h⟩ := bO_some h
  refine ww_aald4 66 X dX11_derive_66 e66 ?_
  refine ww_aload_n 67 X dX11_derive_67 0 rfl rfl ?_
  obtain ⟨v68, e68, h⟩ := bO_some h
  refine ww_getR 68 X dX11_derive_68 fG_X11_11 e68 ?_
  refine ww_iload_n 71 X dX11_derive_71 2 rfl rfl ?_
  obtain ⟨v72, e72, h⟩ := bO_some h
  refine ww_aald4 72 X dX11_derive_72 e72 ?_
  refine ww_aload_n 73 X dX11_derive_73 0 rfl rfl ?_
  obtain ⟨v74, e74, h⟩ := bO_some h
  refine ww_getR 74 X dX11_derive_74 fG_X11_11 e74 ?_
  refine ww_iload_n 77 X dX11_derive_77 3 rfl rfl ?_
  obtain ⟨v78, e78, h⟩ := bO_some h
  refine ww_aald4 78 X dX11_derive_78 e78 ?_
  refine ww_aload_n 79 X dX11_derive_79 0 rfl rfl ?_
  obtain ⟨v80, e80, h⟩ := bO_some h
  refine ww_getR 80 X dX11_derive_80 fG_X11_11 e80 ?_
  refine ww_iload 83 X dX11_derive_83 4 rfl ?_
  obtain ⟨v85, e85, h⟩ := bO_some h
  refine ww_aald4 85 X dX11_derive_85 e85 ?_
  refine ww_iload 86 X dX11_derive_86 5 rfl ?_
  refine ww_aload_n 88 X dX11_derive_88 0 rfl rfl ?_
  obtain ⟨v89, e89, h⟩ := bO_some h
  refine ww_getR 89 X dX11_derive_89 fG_X11_22 e89 ?_
  obtain ⟨_, f92, h⟩ := bO_some h
  obtain ⟨M92, e92, h⟩ := bO_some h
  refine ww_callVV0 92 X dX11_derive_92 mY_X4_putDerived mL_X11_296 (rcv_spec f92) ⟨_, _, rfl⟩ (by decide) (As := [.ref v66, .ref v72, .ref v78, .ref v85, .int l5, .ref v89]) (rest := []) rfl rfl ⟨Nat.le_of_ble_eq_true rfl, Nat.le_of_ble_eq_true rfl⟩ (Nat.le_of_ble_eq_true rfl) (fun l D A => c_X4_putDerived l D A e92) ?_
  refine ww_aload_n 95 X dX11_derive_95 0 rfl rfl ?_
  obtain ⟨v96, e96, h⟩ := bO_some h
  refine ww_getR 96 X dX11_derive_96 fG_X11_22 e96 ?_
  obtain ⟨v99, e99, h⟩ := bO_some h
  refine ww_getI 99 X dX11_derive_99 fG_X11_113 e99 ?_
  exact ww_iretE 102 X hQ dX11_derive_102 h
set_option maxHeartbeats 4000000 in
set_option maxRecDepth 100000 in
theorem wP_X11_derive {G : Nat → Nat} {F : Nat} {x : mXT} {sz : Nat} {r0 : Int32} {M0 : mM} (X : mCX G RX11 cX11_derive 6 (some .int) "derive" rmX11_derive x) (hQ : mQI x r0 M0 (sz, 0, 0)) {l0 : Nat} {l1 : Int32} {l2 : Int32} {l3 : Int32} {l4 : Int32} {l5 : Int32} {M : mM} (h : P_X11_derive G F l0 l1 l2 l3 l4 l5 M = some (r0, M0)) : WW x (sz, 0, 0) M 0 [(0, .ref l0), (1, .int l1), (2, .int l2), (3, .int l3), (4, .int l4), (5, .int l5)] [] := by
  unfold P_X11_derive at h
  refine ww_aload_n 0 X dX11_derive_0 0 rfl rfl ?_
  refine ww_iload_n 1 X dX11_derive_1 1 rfl rfl ?_
  obtain ⟨_, f2, h⟩ := bO_some h
  obtain ⟨v2, M2, e2, h⟩ := bP_some h
  refine ww_callVI0 2 X dX11_derive_2 mY_X11_isRow mL_X11_123 (rcv_spec f2) ⟨_, _, rfl⟩ (by decide) (As := [.int l1]) (rest := []) rfl rfl ⟨Nat.le_of_ble_eq_true rfl, Nat.le_of_ble_eq_true rfl⟩ (Nat.le_of_ble_eq_true rfl) (fun l D A => c_X11_isRow l D A e2) ?_
  refine ww_if_eq 5 54 X dX11_derive_5 (by decide) (fun q => ?_) (fun q => ?_)
  · replace h := (if_pos q).symm.trans h
    refine ww_bipush 54 X (v := (-2 : Int32)) dX11_derive_54 (by decide) ?_
    exact ww_iretE 56 X hQ dX11_derive_56 h
  · replace h := (if_neg q).symm.trans h
    refine ww_aload_n 8 X dX11_derive_8 0 rfl rfl ?_
    refine ww_iload_n 9 X dX11_derive_9 2 rfl rfl ?_
    obtain ⟨_, f10, h⟩ := bO_some h
    obtain ⟨v10, M10, e10, h⟩ := bP_some h
    refine ww_callVI0 10 X dX11_derive_10 mY_X11_isRow mL_X11_123 (rcv_spec f10) ⟨_, _, rfl⟩ (by decide) (As := [.int l2]) (rest := []) rfl rfl ⟨Nat.le_of_ble_eq_true rfl, Nat.le_of_ble_eq_true rfl⟩ (Nat.le_of_ble_eq_true rfl) (fun l D A => c_X11_isRow l D A e10) ?_
    refine ww_if_eq 13 54 X dX11_derive_13 (by decide) (fun q => ?_) (fun q => ?_)
    · replace h := (if_pos q).symm.trans h
      refine ww_bipush 54 X (v := (-2 : Int32)) dX11_derive_54 (by decide) ?_
      exact ww_iretE 56 X hQ dX11_derive_56 h
    · replace h := (if_neg q).symm.trans h
      refine ww_aload_n 16 X dX11_derive_16 0 rfl rfl ?_
      refine ww_iload_n 17 X dX11_derive_17 3 rfl rfl ?_
      obtain ⟨_, f18, h⟩ := bO_some h
      obtain ⟨v18, M18, e18, h⟩ := bP_some h
      refine ww_callVI0 18 X dX11_derive_18 mY_X11_isRow mL_X11_123 (rcv_spec f18) ⟨_, _, rfl⟩ (by decide) (As := [.int l3]) (rest := []) rfl rfl ⟨Nat.le_of_ble_eq_true rfl, Nat.le_of_ble_eq_true rfl⟩ (Nat.le_of_ble_eq_true rfl) (fun l D A => c_X11_isRow l D A e18) ?_
      refine ww_if_eq 21 54 X dX11_derive_21 (by decide) (fun q => ?_) (fun q => ?_)
      · replace h := (if_pos q).symm.trans h
        refine ww_bipush 54 X (v := (-2 : Int32)) dX11_derive_54 (by decide) ?_
        exact ww_iretE 56 X hQ dX11_derive_56 h
      · replace h := (if_neg q).symm.trans h
        refine ww_aload_n 24 X dX11_derive_24 0 rfl rfl ?_
        refine ww_iload 25 X dX11_derive_25 4 rfl ?_
        obtain ⟨_, f27, h⟩ := bO_some h
        obtain ⟨v27, M27, e27, h⟩ := bP_some h
        refine ww_callVI0 27 X dX11_derive_27 mY_X11_isRow mL_X11_123 (rcv_spec f27) ⟨_, _, rfl⟩ (by decide) (As := [.int l4]) (rest := []) rfl rfl ⟨Nat.le_of_ble_eq_true rfl, Nat.le_of_ble_eq_true rfl⟩ (Nat.le_of_ble_eq_true rfl) (fun l D A => c_X11_isRow l D A e27) ?_
        refine ww_if_eq 30 54 X dX11_derive_30 (by decide) (fun q => ?_) (fun q => ?_)
        · replace h := (if_pos q).symm.trans h
          refine ww_bipush 54 X (v := (-2 : Int32)) dX11_derive_54 (by decide) ?_
          exact ww_iretE 56 X hQ dX11_derive_56 h
        · replace h := (if_neg q).symm.trans h
          refine ww_iload 33 X dX11_derive_33 5 rfl ?_
          refine ww_bipush 35 X (v := (16 : Int32)) dX11_derive_35 (by decide) ?_
          refine ww_icmp_eq 37 57 X dX11_derive_37 (by decide) (fun q => ?_) (fun q => ?_)
          · replace h := (if_pos q).symm.trans h
            exact (wB_X11_derive_57 X hQ h)
          · replace h := (if_neg q).symm.trans h
            refine ww_iload 40 X dX11_derive_40 5 rfl ?_
            refine ww_bipush 42 X (v := (32 : Int32)) dX11_derive_42 (by decide) ?_
            refine ww_icmp_eq 44 57 X dX11_derive_44 (by decide) (fun q => ?_) (fun q => ?_)
            · replace h := (if_pos q).symm.trans h
              exact (wB_X11_derive_57 X hQ h)
            · replace h := (if_neg q).symm.trans h
              refine ww_iload 47 X dX11_derive_47 5 rfl ?_
              refine ww_bipush 49 X (v := (64 : Int32)) dX11_derive_49 (by decide) ?_
              refine ww_icmp_eq 51 57 X dX11_derive_51 (by decide) (fun q => ?_) (fun q => ?_)
              · replace h := (if_pos q).symm.trans h
                exact (wB_X11_derive_57 X hQ h)
              · replace h := (if_neg q).symm.trans h
                refine ww_bipush 54 X (v := (-2 : Int32)) dX11_derive_54 (by decide) ?_
                exact ww_iretE 56 X hQ dX11_derive_56 h
theorem c_X11_derive {G : Nat → Nat} {F sz : Nat} {r0 : Int32} {M0 : mM} (l : Launch) (D : mD) (A : Nat → Prop) {l0 : Nat} {l1 : Int32} {l2 : Int32} {l3 : Int32} {l4 : Int32} {l5 : Int32} {M : mM} (h : P_X11_derive G F l0 l1 l2 l3 l4 l5 M = some (r0, M0)) : mMetI l D G A yX11_derive cX11_derive 6 (some .int) 4 132 0 0 [.ref l0, .int l1, .int l2, .int l3, .int l4, .int l5] M sz r0 M0 sz := mMetI_of l D G A (by decide) (Nat.le_of_ble_eq_true rfl) (fun x X hQ => wP_X11_derive X hQ h)
/-! SealedTokens.numbersBelong(LSealedTokens$Key;)Z -/
theorem dX11_numbersBelong_0 : decode cX11_numbersBelong 0 = .ok (.aload_n 1, 1) := by decide +kernel
theorem dX11_numbersBelong_1 : decode cX11_numbersBelong 1 = .ok (.getfield 314, 3) := by decide +kernel
theorem dX11_numbersBelong_4 : decode cX11_numbersBelong 4 = .ok (.lookupswitch 108 #[(1, 28), (2, 63)], 28) := by decide +kernel
theorem dX11_numbersBelong_32 : decode cX11_numbersBelong 32 = .ok (.aload_n 1, 1) := by decide +kernel
theorem dX11_numbersBelong_33 : decode cX11_numbersBelong 33 = .ok (.getfield 319, 3) := by decide +kernel
theorem dX11_numbersBelong_36 : decode cX11_numbersBelong 36 = .ok (.ifCond .eq 25, 3) := by decide +kernel
theorem dX11_numbersBelong_39 : decode cX11_numbersBelong 39 = .ok (.aload_n 0, 1) := by decide +kernel
theorem dX11_numbersBelong_40 : decode cX11_numbersBelong 40 = .ok (.getfield 95, 3) := by decide +kernel
theorem dX11_numbersBelong_43 : decode cX11_numbersBelong 43 = .ok (.aload_n 1, 1) := by decide +kernel
theorem dX11_numbersBelong_44 : decode cX11_numbersBelong 44 = .ok (.getfield 316, 3) := by decide +kernel
theorem dX11_numbersBelong_47 : decode cX11_numbersBelong 47 = .ok (.aload_n 1, 1) := by decide +kernel
theorem dX11_numbersBelong_48 : decode cX11_numbersBelong 48 = .ok (.getfield 456, 3) := by decide +kernel
theorem dX11_numbersBelong_51 : decode cX11_numbersBelong 51 = .ok (.aload_n 1, 1) := by decide +kernel
theorem dX11_numbersBelong_52 : decode cX11_numbersBelong 52 = .ok (.getfield 459, 3) := by decide +kernel
theorem dX11_numbersBelong_55 : decode cX11_numbersBelong 55 = .ok (.invokevirtual 462, 3) := by decide +kernel
theorem dX11_numbersBelong_58 : decode cX11_numbersBelong 58 = .ok (.ifCond .eq 7, 3) := by decide +kernel
theorem dX11_numbersBelong_61 : decode cX11_numbersBelong 61 = .ok (.iconst 1, 1) := by decide +kernel
theorem dX11_numbersBelong_62 : decode cX11_numbersBelong 62 = .ok (.goto 4, 3) := by decide +kernel
theorem dX11_numbersBelong_65 : decode cX11_numbersBelong 65 = .ok (.iconst 0, 1) := by decide +kernel
theorem dX11_numbersBelong_66 : decode cX11_numbersBelong 66 = .ok (.ireturn, 1) := by decide +kernel
theorem dX11_numbersBelong_67 : decode cX11_numbersBelong 67 = .ok (.aload_n 0, 1) := by decide +kernel
theorem dX11_numbersBelong_68 : decode cX11_numbersBelong 68 = .ok (.getfield 102, 3) := by decide +kernel
theorem dX11_numbersBelong_71 : decode cX11_numbersBelong 71 = .ok (.aload_n 1, 1) := by decide +kernel
theorem dX11_numbersBelong_72 : decode cX11_numbersBelong 72 = .ok (.getfield 316, 3) := by decide +kernel
theorem dX11_numbersBelong_75 : decode cX11_numbersBelong 75 = .ok (.invokevirtual 279, 3) := by decide +kernel
theorem dX11_numbersBelong_78 : decode cX11_numbersBelong 78 = .ok (.ifCond .eq 32, 3) := by decide +kernel
theorem dX11_numbersBelong_81 : decode cX11_numbersBelong 81 = .ok (.aload_n 1, 1) := by decide +kernel
theorem dX11_numbersBelong_82 : decode cX11_numbersBelong 82 = .ok (.getfield 319, 3) := by decide +kernel
theorem dX11_numbersBelong_85 : decode cX11_numbersBelong 85 = .ok (.ifCond .eq 21, 3) := by decide +kernel
theorem dX11_numbersBelong_88 : decode cX11_numbersBelong 88 = .ok (.aload_n 0, 1) := by decide +kernel
theorem dX11_numbersBelong_89 : decode cX11_numbersBelong 89 = .ok (.getfield 102, 3) := by decide +kernel
theorem dX11_numbersBelong_92 : decode cX11_numbersBelong 92 = .ok (.aload_n 1, 1) := by decide +kernel
theorem dX11_numbersBelong_93 : decode cX11_numbersBelong 93 = .ok (.getfield 459, 3) := by decide +kernel
theorem dX11_numbersBelong_96 : decode cX11_numbersBelong 96 = .ok (.aload_n 1, 1) := by decide +kernel
theorem dX11_numbersBelong_97 : decode cX11_numbersBelong 97 = .ok (.getfield 316, 3) := by decide +kernel
theorem dX11_numbersBelong_100 : decode cX11_numbersBelong 100 = .ok (.invokevirtual 465, 3) := by decide +kernel
theorem dX11_numbersBelong_103 : decode cX11_numbersBelong 103 = .ok (.ifCond .eq 7, 3) := by decide +kernel
theorem dX11_numbersBelong_106 : decode cX11_numbersBelong 106 = .ok (.iconst 1, 1) := by decide +kernel
theorem dX11_numbersBelong_107 : decode cX11_numbersBelong 107 = .ok (.goto 4, 3) := by decide +kernel
theorem dX11_numbersBelong_110 : decode cX11_numbersBelong 110 = .ok (.iconst 0, 1) := by decide +kernel
theorem dX11_numbersBelong_111 : decode cX11_numbersBelong 111 = .ok (.ireturn, 1) := by decide +kernel
theorem dX11_numbersBelong_112 : decode cX11_numbersBelong 112 = .ok (.iconst 1, 1) := by decide +kernel
theorem dX11_numbersBelong_113 : decode cX11_numbersBelong 113 = .ok (.ireturn, 1) := by decide +kernel
abbrev rmX11_numbersBelong : Room := { frames := 6, cells := 0, slots := 0, locals := 192 }
set_option maxHeartbeats 4000000 in
set_option maxRecDepth 100000 in
theorem wP_X11_numbersBelong {G : Nat → Nat} {F : Nat} {x : mXT} {sz : Nat} {r0 : Int32} {M0 : mM} (X : mCX G RX11 cX11_numbersBelong 2 (some .boolean) "numbersBelong" rmX11_numbersBelong x) (hQ : mQI x r0 M0 (sz, 0, 0)) {l0 : Nat} {l1 : Nat} {M : mM} (h : P_X11_numbersBelong G F l0 l1 M = some (r0, M0)) : WW x (sz, 0, 0) M 0 [(0, .ref l0), (1, .ref l1)] [] := by
  unfold P_X11_numbersBelong at h
  refine ww_aload_n 0 X dX11_numbersBelong_0 1 rfl rfl ?_
  obtain ⟨v1, e1, h⟩ := bO_some h
  refine ww_getI 1 X dX11_numbersBelong_1 fG_X11_314 e1 ?_
  by_cases q1 : v1 = (1 : Int32)
  · replace h := (if_pos q1).symm.trans h
    refine ww_lookup 4 32 X dX11_numbersBelong_4 (off := 28) (by decide) (by rw [q1]; decide) (by decide) ?_
    refine ww_aload_n 32 X dX11_numbersBelong_32 1 rfl rfl ?_
    obtain ⟨v33, e33, h⟩ := bO_some h
    refine ww_getI 33 X dX11_numbersBelong_33 fG_X11_319 e33 ?_
    refine ww_if_eq 36 61 X dX11_numbersBelong_36 (by decide) (fun q => ?_) (fun q => ?_)
    · replace h := (if_pos q).symm.trans h
      refine ww_iconst 61 X (v := (1 : Int32)) dX11_numbersBelong_61 (by decide) ?_
      refine ww_goto 62 66 X dX11_numbersBelong_62 (by decide) ?_
      exact ww_zretE 66 X hQ dX11_numbersBelong_66 h
    · replace h := (if_neg q).symm.trans h
      refine ww_aload_n 39 X dX11_numbersBelong_39 0 rfl rfl ?_
      obtain ⟨v40, e40, h⟩ := bO_some h
      refine ww_getR 40 X dX11_numbersBelong_40 fG_X11_95 e40 ?_
      refine ww_aload_n 43 X dX11_numbersBelong_43 1 rfl rfl ?_
      obtain ⟨v44, e44, h⟩ := bO_some h
      refine ww_getR 44 X dX11_numbersBelong_44 fG_X11_316 e44 ?_
      refine ww_aload_n 47 X dX11_numbersBelong_47 1 rfl rfl ?_
      obtain ⟨v48, e48, h⟩ := bO_some h
      refine ww_getR 48 X dX11_numbersBelong_48 fG_X11_456 e48 ?_
      refine ww_aload_n 51 X dX11_numbersBelong_51 1 rfl rfl ?_
      obtain ⟨v52, e52, h⟩ := bO_some h
      refine ww_getR 52 X dX11_numbersBelong_52 fG_X11_459 e52 ?_
      obtain ⟨_, f55, h⟩ := bO_some h
      obtain ⟨v55, M55, e55, h⟩ := bP_some h
      refine ww_callVI0 55 X dX11_numbersBelong_55 mY_X8_isPair mL_X11_462 (rcv_spec f55) ⟨_, _, rfl⟩ (by decide) (As := [.ref v44, .ref v48, .ref v52]) (rest := []) rfl rfl ⟨Nat.le_of_ble_eq_true rfl, Nat.le_of_ble_eq_true rfl⟩ (Nat.le_of_ble_eq_true rfl) (fun l D A => c_X8_isPair l D A e55) ?_
      refine ww_if_eq 58 65 X dX11_numbersBelong_58 (by decide) (fun q => ?_) (fun q => ?_)
      · replace h := (if_pos q).symm.trans h
        refine ww_iconst 65 X (v := (0 : Int32)) dX11_numbersBelong_65 (by decide) ?_
        exact ww_zretE 66 X hQ dX11_numbersBelong_66 h
      · replace h := (if_neg q).symm.trans h
        refine ww_iconst 61 X (v := (1 : Int32)) dX11_numbersBelong_61 (by decide) ?_
        refine ww_goto 62 66 X dX11_numbersBelong_62 (by decide) ?_
        exact ww_zretE 66 X hQ dX11_numbersBelong_66 h
  · replace h := (if_neg q1).symm.trans h
    by_cases q2 : v1 = (2 : Int32)
    · replace h := (if_pos q2).symm.trans h
      refine ww_lookup 4 67 X dX11_numbersBelong_4 (off := 63) (by decide) (by rw [q2]; decide) (by decide) ?_
      refine ww_aload_n 67 X dX11_numbersBelong_67 0 rfl rfl ?_
      obtain ⟨v68, e68, h⟩ := bO_some h
      refine ww_getR 68 X dX11_numbersBelong_68 fG_X11_102 e68 ?_
      refine ww_aload_n 71 X dX11_numbersBelong_71 1 rfl rfl ?_
      obtain ⟨v72, e72, h⟩ := bO_some h
      refine ww_getR 72 X dX11_numbersBelong_72 fG_X11_316 e72 ?_
      obtain ⟨_, f75, h⟩ := bO_some h
      obtain ⟨v75, M75, e75, h⟩ := bP_some h
      refine ww_callVI0 75 X dX11_numbersBelong_75 mY_X3_load mL_X11_279 (rcv_spec f75) ⟨_, _, rfl⟩ (by decide) (As := [.ref v72]) (rest := []) rfl rfl ⟨Nat.le_of_ble_eq_true rfl, Nat.le_of_ble_eq_true rfl⟩ (Nat.le_of_ble_eq_true rfl) (fun l D A => c_X3_load l D A e75) ?_
      refine ww_if_eq 78 110 X dX11_numbersBelong_78 (by decide) (fun q => ?_) (fun q => ?_)
      · replace h := (if_pos q).symm.trans h
        refine ww_iconst 110 X (v := (0 : Int32)) dX11_numbersBelong_110 (by decide) ?_
        exact ww_zretE 111 X hQ dX11_numbersBelong_111 h
      · replace h := (if_neg q).symm.trans h
        refine ww_aload_n 81 X dX11_numbersBelong_81 1 rfl rfl ?_
        obtain ⟨v82, e82, h⟩ := bO_some h
        refine ww_getI 82 X dX11_numbersBelong_82 fG_X11_319 e82 ?_
        refine ww_if_eq 85 106 X dX11_numbersBelong_85 (by decide) (fun q => ?_) (fun q => ?_)
        · replace h := (if_pos q).symm.trans h
          refine ww_iconst 106 X (v := (1 : Int32)) dX11_numbersBelong_106 (by decide) ?_
          refine ww_goto 107 111 X dX11_numbersBelong_107 (by decide) ?_
          exact ww_zretE 111 X hQ dX11_numbersBelong_111 h
        · replace h := (if_neg q).symm.trans h
          refine ww_aload_n 88 X dX11_numbersBelong_88 0 rfl rfl ?_
          obtain ⟨v89, e89, h⟩ := bO_some h
          refine ww_getR 89 X dX11_numbersBelong_89 fG_X11_102 e89 ?_
          refine ww_aload_n 92 X dX11_numbersBelong_92 1 rfl rfl ?_
          obtain ⟨v93, e93, h⟩ := bO_some h
          refine ww_getR 93 X dX11_numbersBelong_93 fG_X11_459 e93 ?_
          refine ww_aload_n 96 X dX11_numbersBelong_96 1 rfl rfl ?_
          obtain ⟨v97, e97, h⟩ := bO_some h
          refine ww_getR 97 X dX11_numbersBelong_97 fG_X11_316 e97 ?_
          obtain ⟨_, f100, h⟩ := bO_some h
          obtain ⟨v100, M100, e100, h⟩ := bP_some h
          refine ww_callVI0 100 X dX11_numbersBelong_100 mY_X3_isPair mL_X11_465 (rcv_spec f100) ⟨_, _, rfl⟩ (by decide) (As := [.ref v93, .ref v97]) (rest := []) rfl rfl ⟨Nat.le_of_ble_eq_true rfl, Nat.le_of_ble_eq_true rfl⟩ (Nat.le_of_ble_eq_true rfl) (fun l D A => c_X3_isPair l D A e100) ?_
          refine ww_if_eq 103 110 X dX11_numbersBelong_103 (by decide) (fun q => ?_) (fun q => ?_)
          · replace h := (if_pos q).symm.trans h
            refine ww_iconst 110 X (v := (0 : Int32)) dX11_numbersBelong_110 (by decide) ?_
            exact ww_zretE 111 X hQ dX11_numbersBelong_111 h
          · replace h := (if_neg q).symm.trans h
            refine ww_iconst 106 X (v := (1 : Int32)) dX11_numbersBelong_106 (by decide) ?_
            refine ww_goto 107 111 X dX11_numbersBelong_107 (by decide) ?_
            exact ww_zretE 111 X hQ dX11_numbersBelong_111 h
    · replace h := (if_neg q2).symm.trans h
      refine ww_lookup 4 112 X dX11_numbersBelong_4 (off := 108) (by decide) (by show Op.lookupswitch.offset [(1, 28), (2, 63)] 108 _ = _; rw [lv_osw q1 (show (1 : Int32).toInt = 1 by decide), lv_osw q2 (show (2 : Int32).toInt = 2 by decide)]; rfl) (by decide) ?_
      refine ww_iconst 112 X (v := (1 : Int32)) dX11_numbersBelong_112 (by decide) ?_
      exact ww_zretE 113 X hQ dX11_numbersBelong_113 h
theorem c_X11_numbersBelong {G : Nat → Nat} {F sz : Nat} {r0 : Int32} {M0 : mM} (l : Launch) (D : mD) (A : Nat → Prop) {l0 : Nat} {l1 : Nat} {M : mM} (h : P_X11_numbersBelong G F l0 l1 M = some (r0, M0)) : mMetI l D G A yX11_numbersBelong cX11_numbersBelong 2 (some .boolean) 6 192 0 0 [.ref l0, .ref l1] M sz r0 M0 sz := mMetI_of l D G A (by decide) (Nat.le_of_ble_eq_true rfl) (fun x X hQ => wP_X11_numbersBelong X hQ h)
/-! SealedTokens.key(I)I -/
theorem dX11_key_0 : decode cX11_key 0 = .ok (.aload_n 0, 1) := by decide +kernel
theorem dX11_key_1 : decode cX11_key 1 = .ok (.iload_n 1, 1) := by decide +kernel
theorem dX11_key_2 : decode cX11_key 2 = .ok (.invokevirtual 123, 3) := by decide +kernel
theorem dX11_key_5 : decode cX11_key 5 = .ok (.ifCond .ne 6, 3) := by decide +kernel
theorem dX11_key_8 : decode cX11_key 8 = .ok (.bipush (-2), 2) := by decide +kernel
theorem dX11_key_10 : decode cX11_key 10 = .ok (.ireturn, 1) := by decide +kernel
theorem dX11_key_11 : decode cX11_key 11 = .ok (.aload_n 0, 1) := by decide +kernel
theorem dX11_key_12 : decode cX11_key 12 = .ok (.getfield 52, 3) := by decide +kernel
theorem dX11_key_15 : decode cX11_key 15 = .ok (.aload_n 0, 1) := by decide +kernel
theorem dX11_key_16 : decode cX11_key 16 = .ok (.getfield 11, 3) := by decide +kernel
theorem dX11_key_19 : decode cX11_key 19 = .ok (.iload_n 1, 1) := by decide +kernel
theorem dX11_key_20 : decode cX11_key 20 = .ok (.aaload, 1) := by decide +kernel
theorem dX11_key_21 : decode cX11_key 21 = .ok (.aload_n 0, 1) := by decide +kernel
theorem dX11_key_22 : decode cX11_key 22 = .ok (.getfield 44, 3) := by decide +kernel
theorem dX11_key_25 : decode cX11_key 25 = .ok (.invokevirtual 142, 3) := by decide +kernel
theorem dX11_key_28 : decode cX11_key 28 = .ok (.iconst (-1), 1) := by decide +kernel
theorem dX11_key_29 : decode cX11_key 29 = .ok (.if_icmp .eq 6, 3) := by decide +kernel
theorem dX11_key_32 : decode cX11_key 32 = .ok (.bipush (-11), 2) := by decide +kernel
theorem dX11_key_34 : decode cX11_key 34 = .ok (.ireturn, 1) := by decide +kernel
theorem dX11_key_35 : decode cX11_key 35 = .ok (.aload_n 0, 1) := by decide +kernel
theorem dX11_key_36 : decode cX11_key 36 = .ok (.getfield 63, 3) := by decide +kernel
theorem dX11_key_39 : decode cX11_key 39 = .ok (.aload_n 0, 1) := by decide +kernel
theorem dX11_key_40 : decode cX11_key 40 = .ok (.getfield 44, 3) := by decide +kernel
theorem dX11_key_43 : decode cX11_key 43 = .ok (.invokevirtual 300, 3) := by decide +kernel
theorem dX11_key_46 : decode cX11_key 46 = .ok (.istore_n 2, 1) := by decide +kernel
theorem dX11_key_47 : decode cX11_key 47 = .ok (.iload_n 2, 1) := by decide +kernel
theorem dX11_key_48 : decode cX11_key 48 = .ok (.ifCond .eq 8, 3) := by decide +kernel
theorem dX11_key_51 : decode cX11_key 51 = .ok (.bipush (-10), 2) := by decide +kernel
theorem dX11_key_53 : decode cX11_key 53 = .ok (.iload_n 2, 1) := by decide +kernel
theorem dX11_key_54 : decode cX11_key 54 = .ok (.isub, 1) := by decide +kernel
theorem dX11_key_55 : decode cX11_key 55 = .ok (.ireturn, 1) := by decide +kernel
theorem dX11_key_56 : decode cX11_key 56 = .ok (.aload_n 0, 1) := by decide +kernel
theorem dX11_key_57 : decode cX11_key 57 = .ok (.aload_n 0, 1) := by decide +kernel
theorem dX11_key_58 : decode cX11_key 58 = .ok (.getfield 63, 3) := by decide +kernel
theorem dX11_key_61 : decode cX11_key 61 = .ok (.invokevirtual 304, 3) := by decide +kernel
theorem dX11_key_64 : decode cX11_key 64 = .ok (.ifCond .ne 6, 3) := by decide +kernel
theorem dX11_key_67 : decode cX11_key 67 = .ok (.bipush (-16), 2) := by decide +kernel
theorem dX11_key_69 : decode cX11_key 69 = .ok (.ireturn, 1) := by decide +kernel
theorem dX11_key_70 : decode cX11_key 70 = .ok (.iconst 0, 1) := by decide +kernel
theorem dX11_key_71 : decode cX11_key 71 = .ok (.istore_n 3, 1) := by decide +kernel
theorem dX11_key_72 : decode cX11_key 72 = .ok (.iload_n 3, 1) := by decide +kernel
theorem dX11_key_73 : decode cX11_key 73 = .ok (.bipush 16, 2) := by decide +kernel
theorem dX11_key_75 : decode cX11_key 75 = .ok (.if_icmp .ge 57, 3) := by decide +kernel
theorem dX11_key_78 : decode cX11_key 78 = .ok (.aload_n 0, 1) := by decide +kernel
theorem dX11_key_79 : decode cX11_key 79 = .ok (.getfield 58, 3) := by decide +kernel
theorem dX11_key_82 : decode cX11_key 82 = .ok (.iload_n 3, 1) := by decide +kernel
theorem dX11_key_83 : decode cX11_key 83 = .ok (.aaload, 1) := by decide +kernel
theorem dX11_key_84 : decode cX11_key 84 = .ok (.getfield 308, 3) := by decide +kernel
theorem dX11_key_87 : decode cX11_key 87 = .ok (.ifCond .ne 39, 3) := by decide +kernel
theorem dX11_key_90 : decode cX11_key 90 = .ok (.aload_n 0, 1) := by decide +kernel
theorem dX11_key_91 : decode cX11_key 91 = .ok (.getfield 58, 3) := by decide +kernel
theorem dX11_key_94 : decode cX11_key 94 = .ok (.iload_n 3, 1) := by decide +kernel
theorem dX11_key_95 : decode cX11_key 95 = .ok (.aaload, 1) := by decide +kernel
theorem dX11_key_96 : decode cX11_key 96 = .ok (.astore 4, 2) := by decide +kernel
theorem dX11_key_98 : decode cX11_key 98 = .ok (.aload_n 0, 1) := by decide +kernel
theorem dX11_key_99 : decode cX11_key 99 = .ok (.getfield 58, 3) := by decide +kernel
theorem dX11_key_102 : decode cX11_key 102 = .ok (.iload_n 3, 1) := by decide +kernel
theorem dX11_key_103 : decode cX11_key 103 = .ok (.aload_n 0, 1) := by decide +kernel
theorem dX11_key_104 : decode cX11_key 104 = .ok (.getfield 63, 3) := by decide +kernel
theorem dX11_key_107 : decode cX11_key 107 = .ok (.aastore, 1) := by decide +kernel
theorem dX11_key_108 : decode cX11_key 108 = .ok (.aload_n 0, 1) := by decide +kernel
theorem dX11_key_109 : decode cX11_key 109 = .ok (.getfield 58, 3) := by decide +kernel
theorem dX11_key_112 : decode cX11_key 112 = .ok (.iload_n 3, 1) := by decide +kernel
theorem dX11_key_113 : decode cX11_key 113 = .ok (.aaload, 1) := by decide +kernel
theorem dX11_key_114 : decode cX11_key 114 = .ok (.iconst 1, 1) := by decide +kernel
theorem dX11_key_115 : decode cX11_key 115 = .ok (.putfield 308, 3) := by decide +kernel
theorem dX11_key_118 : decode cX11_key 118 = .ok (.aload_n 0, 1) := by decide +kernel
theorem dX11_key_119 : decode cX11_key 119 = .ok (.aload 4, 2) := by decide +kernel
theorem dX11_key_121 : decode cX11_key 121 = .ok (.putfield 63, 3) := by decide +kernel
theorem dX11_key_124 : decode cX11_key 124 = .ok (.iload_n 3, 1) := by decide +kernel
theorem dX11_key_125 : decode cX11_key 125 = .ok (.ireturn, 1) := by decide +kernel
theorem dX11_key_126 : decode cX11_key 126 = .ok (.iinc 3 1, 3) := by decide +kernel
theorem dX11_key_129 : decode cX11_key 129 = .ok (.goto (-57), 3) := by decide +kernel
theorem dX11_key_132 : decode cX11_key 132 = .ok (.bipush (-17), 2) := by decide +kernel
theorem dX11_key_134 : decode cX11_key 134 = .ok (.ireturn, 1) := by decide +kernel
theorem mB_X11_key_87 {G : Nat → Nat} {F : Nat} {r0 : Int32} {M0 : mM} {Z0 S0 : Nat} (r72 : Nat → Int32 → mM → Nat → Nat → Option (Int32 × mM × Nat × Nat)) (hm72 : ∀ (l0 : Nat) (l3 : Int32) (M : mM) (sz : Nat) (sl : Nat), r72 l0 l3 M sz sl = some (r0, M0, Z0, S0) → sz ≤ Z0 ∧ sl ≤ S0) {l0 : Nat} {l3 : Int32} {s0 : Int32} {M : mM} {sz : Nat} {sl : Nat} (h : B_X11_key_87 G F r72 l0 l3 s0 M sz sl = some (r0, M0, Z0, S0)) : sz ≤ Z0 ∧ sl ≤ S0 := by
  unfold B_X11_key_87 at h
  by_cases q : s0 = 0
  · replace h := (if_pos q).symm.trans h
    obtain ⟨v91, e91, h⟩ := bO_some h
    obtain ⟨v95, e95, h⟩ := bO_some h
    obtain ⟨v99, e99, h⟩ := bO_some h
    obtain ⟨v104, e104, h⟩ := bO_some h
    obtain ⟨M107, e107, h⟩ := bO_some h
    obtain ⟨v109, e109, h⟩ := bO_some h
    obtain ⟨v113, e113, h⟩ := bO_some h
    obtain ⟨M115, e115, h⟩ := bO_some h
    obtain ⟨M121, e121, h⟩ := bO_some h
    have q := retA_p h
    omega
  · replace h := (if_neg q).symm.trans h
    have q := hm72 _ _ _ _ _ h
    omega
set_option maxHeartbeats 4000000 in
set_option maxRecDepth 100000 in
theorem wB_X11_key_87 {G : Nat → Nat} {F : Nat} {x : mXT} {z0 s0 : Nat} {r0 : Int32} {M0 : mM} {Z0 S0 : Nat} (X : mCX G RX11 cX11_key 5 (some .int) "key" { frames := 9, cells := Z0 - z0, slots := S0 - s0, locals := 213 } x) (hQ : mQI x r0 M0 (Z0, Z0 - z0, S0 - s0)) (r72 : Nat → Int32 → mM → Nat → Nat → Option (Int32 × mM × Nat × Nat)) (hm72 : ∀ (l0 : Nat) (l3 : Int32) (M : mM) (sz : Nat) (sl : Nat), r72 l0 l3 M sz sl = some (r0, M0, Z0, S0) → sz ≤ Z0 ∧ sl ≤ S0) (hr72 : ∀ (l0 : Nat) (l3 : Int32) (M : mM) (sz : Nat) (sl : Nat), z0 ≤ sz → s0 ≤ sl → r72 l0 l3 M sz sl = some (r0, M0, Z0, S0) → WW x (sz, sz - z0, sl - s0) M 72 [(0, .ref l0), (3, .int l3)] []) {l0 : Nat} {l3 : Int32} {s0 : Int32} {M : mM} {sz : Nat} {sl : Nat} (hz0 : z0 ≤ sz) (hs0 : s0 ≤ sl) (h : B_X11_key_87 G F r72 l0 l3 s0 M sz sl = some (r0, M0, Z0, S0)) : WW x (sz, sz - z0, sl - s0) M 87 [(0, .ref l0), (3, .int l3)] [.int s0] := by
  unfold B_X11_key_87 at h
  refine ww_if_ne 87 126 X dX11_key_87 (by decide) (fun q => ?_) (fun q => ?_)
  · replace h := (if_neg q).symm.trans h
    have q := hm72 _ _ _ _ _ h
    refine ww_iinc 126 X dX11_key_126 (lv' := [(0, .ref l0), (3, .int (l3 + 1))]) 1 rfl rfl (by decide) [1, 0] rfl ?_
    refine ww_goto 129 72 X dX11_key_129 (by decide) ?_
    exact (hr72 _ _ _ _ _ (by omega) (by omega) h)
  · replace h := (if_pos q).symm.trans h
    obtain ⟨v91, e91, h⟩ := bO_some h
    obtain ⟨v95, e95, h⟩ := bO_some h
    obtain ⟨v99, e99, h⟩ := bO_some h
    obtain ⟨v104, e104, h⟩ := bO_some h
    obtain ⟨M107, e107, h⟩ := bO_some h
    obtain ⟨v109, e109, h⟩ := bO_some h
    obtain ⟨v113, e113, h⟩ := bO_some h
    obtain ⟨M115, e115, h⟩ := bO_some h
    obtain ⟨M121, e121, h⟩ := bO_some h
    have q := retA_p h
    refine ww_aload_n 90 X dX11_key_90 0 rfl rfl ?_
    refine ww_getR 91 X dX11_key_91 fG_X11_58 e91 ?_
    refine ww_iload_n 94 X dX11_key_94 1 rfl rfl ?_
    refine ww_aald5 95 X dX11_key_95 e95 ?_
    refine ww_astore 96 X dX11_key_96 (lv' := [(0, .ref l0), (3, .int l3), (4, .ref v95)]) (by decide) [1, 2, 0] rfl ?_
    refine ww_aload_n 98 X dX11_key_98 0 rfl rfl ?_
    refine ww_getR 99 X dX11_key_99 fG_X11_58 e99 ?_
    refine ww_iload_n 102 X dX11_key_102 1 rfl rfl ?_
    refine ww_aload_n 103 X dX11_key_103 0 rfl rfl ?_
    refine ww_getR 104 X dX11_key_104 fG_X11_63 e104 ?_
    refine ww_aast 107 X dX11_key_107 (by decide) ⟨_, rfl, rfl⟩ e107 ?_
    refine ww_aload_n 108 X dX11_key_108 0 rfl rfl ?_
    refine ww_getR 109 X dX11_key_109 fG_X11_58 e109 ?_
    refine ww_iload_n 112 X dX11_key_112 1 rfl rfl ?_
    refine ww_aald5 113 X dX11_key_113 e113 ?_
    refine ww_iconst 114 X (v := (1 : Int32)) dX11_key_114 (by decide) ?_
    refine ww_putZ 115 X dX11_key_115 (fP_X11_308 _) e115 ?_
    refine ww_aload_n 118 X dX11_key_118 0 rfl rfl ?_
    refine ww_aload 119 X dX11_key_119 2 rfl ?_
    refine ww_putR 121 X dX11_key_121 (fP_X11_63 _) e121 rfl rfl ?_
    refine ww_iload_n 124 X dX11_key_124 1 rfl rfl ?_
    exact ww_iretA 125 X hQ dX11_key_125 h
theorem mB_X11_key_75 {G : Nat → Nat} {F : Nat} {r0 : Int32} {M0 : mM} {Z0 S0 : Nat} (r72 : Nat → Int32 → mM → Nat → Nat → Option (Int32 × mM × Nat × Nat)) (hm72 : ∀ (l0 : Nat) (l3 : Int32) (M : mM) (sz : Nat) (sl : Nat), r72 l0 l3 M sz sl = some (r0, M0, Z0, S0) → sz ≤ Z0 ∧ sl ≤ S0) {l0 : Nat} {l3 : Int32} {s0 : Int32} {s1 : Int32} {M : mM} {sz : Nat} {sl : Nat} (h : B_X11_key_75 G F r72 l0 l3 s0 s1 M sz sl = some (r0, M0, Z0, S0)) : sz ≤ Z0 ∧ sl ≤ S0 := by
  unfold B_X11_key_75 at h
  by_cases q : s1 ≤ s0
  · replace h := (if_pos q).symm.trans h
    have q := retA_p h
    omega
  · replace h := (if_neg q).symm.trans h
    obtain ⟨v79, e79, h⟩ := bO_some h
    obtain ⟨v83, e83, h⟩ := bO_some h
    obtain ⟨v84, e84, h⟩ := bO_some h
    have q := mB_X11_key_87 _ hm72 h
    omega
set_option maxHeartbeats 4000000 in
set_option maxRecDepth 100000 in
theorem wB_X11_key_75 {G : Nat → Nat} {F : Nat} {x : mXT} {z0 s0 : Nat} {r0 : Int32} {M0 : mM} {Z0 S0 : Nat} (X : mCX G RX11 cX11_key 5 (some .int) "key" { frames := 9, cells := Z0 - z0, slots := S0 - s0, locals := 213 } x) (hQ : mQI x r0 M0 (Z0, Z0 - z0, S0 - s0)) (r72 : Nat → Int32 → mM → Nat → Nat → Option (Int32 × mM × Nat × Nat)) (hm72 : ∀ (l0 : Nat) (l3 : Int32) (M : mM) (sz : Nat) (sl : Nat), r72 l0 l3 M sz sl = some (r0, M0, Z0, S0) → sz ≤ Z0 ∧ sl ≤ S0) (hr72 : ∀ (l0 : Nat) (l3 : Int32) (M : mM) (sz : Nat) (sl : Nat), z0 ≤ sz → s0 ≤ sl → r72 l0 l3 M sz sl = some (r0, M0, Z0, S0) → WW x (sz, sz - z0, sl - s0) M 72 [(0, .ref l0), (3, .int l3)] []) {l0 : Nat} {l3 : Int32} {s0 : Int32} {s1 : Int32} {M : mM} {sz : Nat} {sl : Nat} (hz0 : z0 ≤ sz) (hs0 : s0 ≤ sl) (h : B_X11_key_75 G F r72 l0 l3 s0 s1 M sz sl = some (r0, M0, Z0, S0)) : WW x (sz, sz - z0, sl - s0) M 75 [(0, .ref l0), (3, .int l3)] [.int s1, .int s0] := by
  unfold B_X11_key_75 at h
  refine ww_icmp_ge 75 132 X dX11_key_75 (by decide) (fun q => ?_) (fun q => ?_)
  · replace h := (if_pos q).symm.trans h
    have q := retA_p h
    refine ww_bipush 132 X (v := (-17 : Int32)) dX11_key_132 (by decide) ?_
    exact ww_iretA 134 X hQ dX11_key_134 h
  · replace h := (if_neg q).symm.trans h
    obtain ⟨v79, e79, h⟩ := bO_some h
    obtain ⟨v83, e83, h⟩ := bO_some h
    obtain ⟨v84, e84, h⟩ := bO_some h
    have q := mB_X11_key_87 _ hm72 h
    refine ww_aload_n 78 X dX11_key_78 0 rfl rfl ?_
    refine ww_getR 79 X dX11_key_79 fG_X11_58 e79 ?_
    refine ww_iload_n 82 X dX11_key_82 1 rfl rfl ?_
    refine ww_aald5 83 X dX11_key_83 e83 ?_
    refine ww_getI 84 X dX11_key_84 fG_X11_308 e84 ?_
    exact (wB_X11_key_87 X hQ _ hm72 hr72 (by omega) (by omega) h)
theorem mB_X11_key_72 {G : Nat → Nat} {F : Nat} {r0 : Int32} {M0 : mM} {Z0 S0 : Nat} : ∀ (n : Nat) (l0 : Nat) (l3 : Int32) (M : mM) (sz : Nat) (sl : Nat), B_X11_key_72 G F n l0 l3 M sz sl = some (r0, M0, Z0, S0) → sz ≤ Z0 ∧ sl ≤ S0 := by
  intro n
  induction n with
  | zero =>
    intro l0 l3 M sz sl h
    exact nomatch (show (none : Option (Int32 × mM × Nat × Nat)) = some (r0, M0, Z0, S0) from h)
  | succ n ih =>
    intro l0 l3 M sz sl h
    rw [B_X11_key_72] at h
    have q := mB_X11_key_75 _ (mB_X11_key_72 n) h
    omega
set_option maxHeartbeats 4000000 in
set_option maxRecDepth 100000 in
theorem wB_X11_key_72 {G : Nat → Nat} {F : Nat} {x : mXT} {z0 s0 : Nat} {r0 : Int32} {M0 : mM} {Z0 S0 : Nat} (X : mCX G RX11 cX11_key 5 (some .int) "key" { frames := 9, cells := Z0 - z0, slots := S0 - s0, locals := 213 } x) (hQ : mQI x r0 M0 (Z0, Z0 - z0, S0 - s0)) : ∀ (n : Nat) (l0 : Nat) (l3 : Int32) (M : mM) (sz : Nat) (sl : Nat), z0 ≤ sz → s0 ≤ sl → B_X11_key_72 G F n l0 l3 M sz sl = some (r0, M0, Z0, S0) → WW x (sz, sz - z0, sl - s0) M 72 [(0, .ref l0), (3, .int l3)] [] := by
  intro n
  induction n with
  | zero =>
    intro l0 l3 M sz sl hz0 hs0 h
    exact nomatch (show (none : Option (Int32 × mM × Nat × Nat)) = some (r0, M0, Z0, S0) from h)
  | succ n ih =>
    intro l0 l3 M sz sl hz0 hs0 h
    rw [B_X11_key_72] at h
    have q := mB_X11_key_75 _ (mB_X11_key_72 n) h
    refine ww_iload_n 72 X dX11_key_72 1 rfl rfl ?_
    refine ww_bipush 73 X (v := (16 : Int32)) dX11_key_73 (by decide) ?_
    exact (wB_X11_key_75 X hQ _ (mB_X11_key_72 n) ih (by omega) (by omega) h)
theorem mB_X11_key_64 {G : Nat → Nat} {F : Nat} {r0 : Int32} {M0 : mM} {Z0 S0 : Nat} {l0 : Nat} {s0 : Int32} {M : mM} {sz : Nat} {sl : Nat} (h : B_X11_key_64 G F l0 s0 M sz sl = some (r0, M0, Z0, S0)) : sz ≤ Z0 ∧ sl ≤ S0 := by
  unfold B_X11_key_64 at h
  by_cases q : s0 = 0
  · replace h := (if_pos q).symm.trans h
    have q := retA_p h
    omega
  · replace h := (if_neg q).symm.trans h
    have q := mB_X11_key_72 F _ _ _ _ _ h
    omega
set_option maxHeartbeats 4000000 in
set_option maxRecDepth 100000 in
theorem wB_X11_key_64 {G : Nat → Nat} {F : Nat} {x : mXT} {z0 s0 : Nat} {r0 : Int32} {M0 : mM} {Z0 S0 : Nat} (X : mCX G RX11 cX11_key 5 (some .int) "key" { frames := 9, cells := Z0 - z0, slots := S0 - s0, locals := 213 } x) (hQ : mQI x r0 M0 (Z0, Z0 - z0, S0 - s0)) {l0 : Nat} {s0 : Int32} {M : mM} {sz : Nat} {sl : Nat} (hz0 : z0 ≤ sz) (hs0 : s0 ≤ sl) (h : B_X11_key_64 G F l0 s0 M sz sl = some (r0, M0, Z0, S0)) : WW x (sz, sz - z0, sl - s0) M 64 [(0, .ref l0)] [.int s0] := by
  unfold B_X11_key_64 at h
  refine ww_if_ne 64 70 X dX11_key_64 (by decide) (fun q => ?_) (fun q => ?_)
  · replace h := (if_neg q).symm.trans h
    have q := mB_X11_key_72 F _ _ _ _ _ h
    refine ww_iconst 70 X (v := (0 : Int32)) dX11_key_70 (by decide) ?_
    refine ww_istore_n 71 X dX11_key_71 (lv' := [(0, .ref l0), (3, .int (0 : Int32))]) rfl (by decide) [1, 0] rfl ?_
    exact (wB_X11_key_72 X hQ F _ _ _ _ _ (by omega) (by omega) h)
  · replace h := (if_pos q).symm.trans h
    have q := retA_p h
    refine ww_bipush 67 X (v := (-16 : Int32)) dX11_key_67 (by decide) ?_
    exact ww_iretA 69 X hQ dX11_key_69 h
theorem mB_X11_key_48 {G : Nat → Nat} {F : Nat} {r0 : Int32} {M0 : mM} {Z0 S0 : Nat} {l0 : Nat} {l2 : Int32} {s0 : Int32} {M : mM} {sz : Nat} {sl : Nat} (h : B_X11_key_48 G F l0 l2 s0 M sz sl = some (r0, M0, Z0, S0)) : sz ≤ Z0 ∧ sl ≤ S0 := by
  unfold B_X11_key_48 at h
  by_cases q : s0 = 0
  · replace h := (if_pos q).symm.trans h
    obtain ⟨v58, e58, h⟩ := bO_some h
    obtain ⟨_, f61, h⟩ := bO_some h
    obtain ⟨v61, M61, e61, h⟩ := bP_some h
    have q := mB_X11_key_64 h
    omega
  · replace h := (if_neg q).symm.trans h
    have q := retA_p h
    omega
set_option maxHeartbeats 4000000 in
set_option maxRecDepth 100000 in
theorem wB_X11_key_48 {G : Nat → Nat} {F : Nat} {x : mXT} {z0 s0 : Nat} {r0 : Int32} {M0 : mM} {Z0 S0 : Nat} (X : mCX G RX11 cX11_key 5 (some .int) "key" { frames := 9, cells := Z0 - z0, slots := S0 - s0, locals := 213 } x) (hQ : mQI x r0 M0 (Z0, Z0 - z0, S0 - s0)) {l0 : Nat} {l2 : Int32} {s0 : Int32} {M : mM} {sz : Nat} {sl : Nat} (hz0 : z0 ≤ sz) (hs0 : s0 ≤ sl) (h : B_X11_key_48 G F l0 l2 s0 M sz sl = some (r0, M0, Z0, S0)) : WW x (sz, sz - z0, sl - s0) M 48 [(0, .ref l0), (2, .int l2)] [.int s0] := by
  unfold B_X11_key_48 at h
  refine ww_if_eq 48 56 X dX11_key_48 (by decide) (fun q => ?_) (fun q => ?_)
  · replace h := (if_pos q).symm.trans h
    obtain ⟨v58, e58, h⟩ := bO_some h
    obtain ⟨_, f61, h⟩ := bO_some h
    obtain ⟨v61, M61, e61, h⟩ := bP_some h
    have q := mB_X11_key_64 h
    refine ww_aload_n 56 X dX11_key_56 0 rfl rfl ?_
    refine ww_aload_n 57 X dX11_key_57 0 rfl rfl ?_
    refine ww_getR 58 X dX11_key_58 fG_X11_63 e58 ?_
    refine ww_callVIz 61 X (sz := sz) (sl := sl) (z0 := z0) (s0 := s0) dX11_key_61 mY_X11_numbersBelong mL_X11_304 (rcv_spec f61) ⟨_, _, rfl⟩ (by decide) (As := [.ref v58]) (rest := []) rfl rfl ⟨Nat.le_of_ble_eq_true rfl, Nat.le_of_ble_eq_true rfl⟩ (by show _ ≤ Z0 - z0; omega) (by show _ ≤ S0 - s0; omega) (Nat.le_of_ble_eq_true rfl) (fun l D A => c_X11_numbersBelong l D A e61) ?_
    exact ww_sub [0] rfl (wB_X11_key_64 X hQ (by omega) (by omega) h)
  · replace h := (if_neg q).symm.trans h
    have q := retA_p h
    refine ww_bipush 51 X (v := (-10 : Int32)) dX11_key_51 (by decide) ?_
    refine ww_iload_n 53 X dX11_key_53 1 rfl rfl ?_
    refine ww_isub 54 X dX11_key_54 ?_
    exact ww_iretA 55 X hQ dX11_key_55 h
theorem mB_X11_key_29 {G : Nat → Nat} {F : Nat} {r0 : Int32} {M0 : mM} {Z0 S0 : Nat} {l0 : Nat} {s0 : Int32} {s1 : Int32} {M : mM} {sz : Nat} {sl : Nat} (h : B_X11_key_29 G F l0 s0 s1 M sz sl = some (r0, M0, Z0, S0)) : sz ≤ Z0 ∧ sl ≤ S0 := by
  unfold B_X11_key_29 at h
  by_cases q : s0 = s1
  · replace h := (if_pos q).symm.trans h
    obtain ⟨v36, e36, h⟩ := bO_some h
    obtain ⟨v40, e40, h⟩ := bO_some h
    obtain ⟨_, f43, h⟩ := bO_some h
    obtain ⟨v43, M43, z43, k43, e43, h⟩ := bAP_some h
    have g43 := mP_X5_reasonAgainst e43
    have q := mB_X11_key_48 h
    omega
  · replace h := (if_neg q).symm.trans h
    have q := retA_p h
    omega
set_option maxHeartbeats 4000000 in
set_option maxRecDepth 100000 in
theorem wB_X11_key_29 {G : Nat → Nat} {F : Nat} {x : mXT} {z0 s0 : Nat} {r0 : Int32} {M0 : mM} {Z0 S0 : Nat} (X : mCX G RX11 cX11_key 5 (some .int) "key" { frames := 9, cells := Z0 - z0, slots := S0 - s0, locals := 213 } x) (hQ : mQI x r0 M0 (Z0, Z0 - z0, S0 - s0)) {l0 : Nat} {s0 : Int32} {s1 : Int32} {M : mM} {sz : Nat} {sl : Nat} (hz0 : z0 ≤ sz) (hs0 : s0 ≤ sl) (h : B_X11_key_29 G F l0 s0 s1 M sz sl = some (r0, M0, Z0, S0)) : WW x (sz, sz - z0, sl - s0) M 29 [(0, .ref l0)] [.int s1, .int s0] := by
  unfold B_X11_key_29 at h
  refine ww_icmp_eq 29 35 X dX11_key_29 (by decide) (fun q => ?_) (fun q => ?_)
  · replace h := (if_pos q).symm.trans h
    obtain ⟨v36, e36, h⟩ := bO_some h
    obtain ⟨v40, e40, h⟩ := bO_some h
    obtain ⟨_, f43, h⟩ := bO_some h
    obtain ⟨v43, M43, z43, k43, e43, h⟩ := bAP_some h
    have g43 := mP_X5_reasonAgainst e43
    have q := mB_X11_key_48 h
    refine ww_aload_n 35 X dX11_key_35 0 rfl rfl ?_
    refine ww_getR 36 X dX11_key_36 fG_X11_63 e36 ?_
    refine ww_aload_n 39 X dX11_key_39 0 rfl rfl ?_
    refine ww_getR 40 X dX11_key_40 fG_X11_44 e40 ?_
    refine ww_callVIa 43 X (sz := sz) (sl := sl) (z0 := z0) (s0 := s0) dX11_key_43 mY_X5_reasonAgainst mL_X11_300 (rcv_spec f43) ⟨_, _, rfl⟩ (by decide) (As := [.ref v40]) (rest := []) rfl rfl ⟨Nat.le_of_ble_eq_true rfl, Nat.le_of_ble_eq_true rfl⟩ (by omega) (by omega) (by omega) (by omega) (by show _ ≤ Z0 - z0; omega) (by show _ ≤ S0 - s0; omega) (Nat.le_of_ble_eq_true rfl) (fun l D A => c_X5_reasonAgainst l D A e43) ?_
    refine ww_istore_n 46 X dX11_key_46 (lv' := [(0, .ref l0), (2, .int v43)]) rfl (by decide) [1, 0] rfl ?_
    refine ww_iload_n 47 X dX11_key_47 1 rfl rfl ?_
    exact (wB_X11_key_48 X hQ (by omega) (by omega) h)
  · replace h := (if_neg q).symm.trans h
    have q := retA_p h
    refine ww_bipush 32 X (v := (-11 : Int32)) dX11_key_32 (by decide) ?_
    exact ww_iretA 34 X hQ dX11_key_34 h
theorem mB_X11_key_5 {G : Nat → Nat} {F : Nat} {r0 : Int32} {M0 : mM} {Z0 S0 : Nat} {l0 : Nat} {l1 : Int32} {s0 : Int32} {M : mM} {sz : Nat} {sl : Nat} (h : B_X11_key_5 G F l0 l1 s0 M sz sl = some (r0, M0, Z0, S0)) : sz ≤ Z0 ∧ sl ≤ S0 := by
  unfold B_X11_key_5 at h
  by_cases q : s0 = 0
  · replace h := (if_pos q).symm.trans h
    have q := retA_p h
    omega
  · replace h := (if_neg q).symm.trans h
    obtain ⟨v12, e12, h⟩ := bO_some h
    obtain ⟨v16, e16, h⟩ := bO_some h
    obtain ⟨v20, e20, h⟩ := bO_some h
    obtain ⟨v22, e22, h⟩ := bO_some h
    obtain ⟨_, f25, h⟩ := bO_some h
    obtain ⟨v25, M25, e25, h⟩ := bP_some h
    have q := mB_X11_key_29 h
    omega
set_option maxHeartbeats 4000000 in
set_option maxRecDepth 100000 in
theorem wB_X11_key_5 {G : Nat → Nat} {F : Nat} {x : mXT} {z0 s0 : Nat} {r0 : Int32} {M0 : mM} {Z0 S0 : Nat} (X : mCX G RX11 cX11_key 5 (some .int) "key" { frames := 9, cells := Z0 - z0, slots := S0 - s0, locals := 213 } x) (hQ : mQI x r0 M0 (Z0, Z0 - z0, S0 - s0)) {l0 : Nat} {l1 : Int32} {s0 : Int32} {M : mM} {sz : Nat} {sl : Nat} (hz0 : z0 ≤ sz) (hs0 : s0 ≤ sl) (h : B_X11_key_5 G F l0 l1 s0 M sz sl = some (r0, M0, Z0, S0)) : WW x (sz, sz - z0, sl - s0) M 5 [(0, .ref l0), (1, .int l1)] [.int s0] := by
  unfold B_X11_key_5 at h
  refine ww_if_ne 5 11 X dX11_key_5 (by decide) (fun q => ?_) (fun q => ?_)
  · replace h := (if_neg q).symm.trans h
    obtain ⟨v12, e12, h⟩ := bO_some h
    obtain ⟨v16, e16, h⟩ := bO_some h
    obtain ⟨v20, e20, h⟩ := bO_some h
    obtain ⟨v22, e22, h⟩ := bO_some h
    obtain ⟨_, f25, h⟩ := bO_some h
    obtain ⟨v25, M25, e25, h⟩ := bP_some h
    have q := mB_X11_key_29 h
    refine ww_aload_n 11 X dX11_key_11 0 rfl rfl ?_
    refine ww_getR 12 X dX11_key_12 fG_X11_52 e12 ?_
    refine ww_aload_n 15 X dX11_key_15 0 rfl rfl ?_
    refine ww_getR 16 X dX11_key_16 fG_X11_11 e16 ?_
    refine ww_iload_n 19 X dX11_key_19 1 rfl rfl ?_
    refine ww_aald4 20 X dX11_key_20 e20 ?_
    refine ww_aload_n 21 X dX11_key_21 0 rfl rfl ?_
    refine ww_getR 22 X dX11_key_22 fG_X11_44 e22 ?_
    refine ww_callVIz 25 X (sz := sz) (sl := sl) (z0 := z0) (s0 := s0) dX11_key_25 mY_X7_read mL_X11_142 (rcv_spec f25) ⟨_, _, rfl⟩ (by decide) (As := [.ref v20, .ref v22]) (rest := []) rfl rfl ⟨Nat.le_of_ble_eq_true rfl, Nat.le_of_ble_eq_true rfl⟩ (by show _ ≤ Z0 - z0; omega) (by show _ ≤ S0 - s0; omega) (Nat.le_of_ble_eq_true rfl) (fun l D A => c_X7_read l D A e25) ?_
    refine ww_iconst 28 X (v := (-1 : Int32)) dX11_key_28 (by decide) ?_
    exact ww_sub [0] rfl (wB_X11_key_29 X hQ (by omega) (by omega) h)
  · replace h := (if_pos q).symm.trans h
    have q := retA_p h
    refine ww_bipush 8 X (v := (-2 : Int32)) dX11_key_8 (by decide) ?_
    exact ww_iretA 10 X hQ dX11_key_10 h
theorem mP_X11_key {G : Nat → Nat} {F : Nat} {r0 : Int32} {M0 : mM} {Z0 S0 : Nat} {l0 : Nat} {l1 : Int32} {M : mM} {sz : Nat} {sl : Nat} (h : P_X11_key G F l0 l1 M sz sl = some (r0, M0, Z0, S0)) : sz ≤ Z0 ∧ sl ≤ S0 := by
  unfold P_X11_key at h
  obtain ⟨_, f2, h⟩ := bO_some h
  obtain ⟨v2, M2, e2, h⟩ := bP_some h
  have q := mB_X11_key_5 h
  omega
set_option maxHeartbeats 4000000 in
set_option maxRecDepth 100000 in
theorem wP_X11_key {G : Nat → Nat} {F : Nat} {x : mXT} {z0 s0 : Nat} {r0 : Int32} {M0 : mM} {Z0 S0 : Nat} (X : mCX G RX11 cX11_key 5 (some .int) "key" { frames := 9, cells := Z0 - z0, slots := S0 - s0, locals := 213 } x) (hQ : mQI x r0 M0 (Z0, Z0 - z0, S0 - s0)) {l0 : Nat} {l1 : Int32} {M : mM} {sz : Nat} {sl : Nat} (hz0 : z0 ≤ sz) (hs0 : s0 ≤ sl) (h : P_X11_key G F l0 l1 M sz sl = some (r0, M0, Z0, S0)) : WW x (sz, sz - z0, sl - s0) M 0 [(0, .ref l0), (1, .int l1)] [] := by
  unfold P_X11_key at h
  obtain ⟨_, f2, h⟩ := bO_some h
  obtain ⟨v2, M2, e2, h⟩ := bP_some h
  have q := mB_X11_key_5 h
  refine ww_aload_n 0 X dX11_key_0 0 rfl rfl ?_
  refine ww_iload_n 1 X dX11_key_1 1 rfl rfl ?_
  refine ww_callVIz 2 X (sz := sz) (sl := sl) (z0 := z0) (s0 := s0) dX11_key_2 mY_X11_isRow mL_X11_123 (rcv_spec f2) ⟨_, _, rfl⟩ (by decide) (As := [.int l1]) (rest := []) rfl rfl ⟨Nat.le_of_ble_eq_true rfl, Nat.le_of_ble_eq_true rfl⟩ (by show _ ≤ Z0 - z0; omega) (by show _ ≤ S0 - s0; omega) (Nat.le_of_ble_eq_true rfl) (fun l D A => c_X11_isRow l D A e2) ?_
  exact (wB_X11_key_5 X hQ (by omega) (by omega) h)
theorem c_X11_key {G : Nat → Nat} {F : Nat} {r0 : Int32} {M0 : mM} {Z0 S0 : Nat} (l : Launch) (D : mD) (A : Nat → Prop) {l0 : Nat} {l1 : Int32} {M : mM} {sz : Nat} {sl : Nat} (h : P_X11_key G F l0 l1 M sz sl = some (r0, M0, Z0, S0)) : mMetI l D G A yX11_key cX11_key 5 (some .int) 9 213 (Z0 - sz) (S0 - sl) [.ref l0, .int l1] M sz r0 M0 Z0 := mMetI_of l D G A (by decide) (Nat.le_of_ble_eq_true rfl) (fun x X hQ => by have K := wP_X11_key X hQ (Nat.le_refl sz) (Nat.le_refl sl) h; rw [Nat.sub_self, Nat.sub_self] at K; exact K)
