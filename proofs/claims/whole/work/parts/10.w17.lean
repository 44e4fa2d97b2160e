/-! SealedTokensModel.keyComes(III)Z -/
theorem dX13_keyComes_0 : decode cX13_keyComes 0 = .ok (.iload_n 3, 1) := by decide +kernel
theorem dX13_keyComes_1 : decode cX13_keyComes 1 = .ok (.invokestatic 629, 3) := by decide +kernel
theorem dX13_keyComes_4 : decode cX13_keyComes 4 = .ok (.istore 4, 2) := by decide +kernel
theorem dX13_keyComes_6 : decode cX13_keyComes 6 = .ok (.iload_n 2, 1) := by decide +kernel
theorem dX13_keyComes_7 : decode cX13_keyComes 7 = .ok (.iconst 3, 1) := by decide +kernel
theorem dX13_keyComes_8 : decode cX13_keyComes 8 = .ok (.if_icmp .ne 19, 3) := by decide +kernel
theorem dX13_keyComes_11 : decode cX13_keyComes 11 = .ok (.aload_n 0, 1) := by decide +kernel
theorem dX13_keyComes_12 : decode cX13_keyComes 12 = .ok (.iload_n 1, 1) := by decide +kernel
theorem dX13_keyComes_13 : decode cX13_keyComes 13 = .ok (.invokevirtual 1074, 3) := by decide +kernel
theorem dX13_keyComes_16 : decode cX13_keyComes 16 = .ok (.iload 4, 2) := by decide +kernel
theorem dX13_keyComes_18 : decode cX13_keyComes 18 = .ok (.if_icmp .ne 7, 3) := by decide +kernel
theorem dX13_keyComes_21 : decode cX13_keyComes 21 = .ok (.iconst 1, 1) := by decide +kernel
theorem dX13_keyComes_22 : decode cX13_keyComes 22 = .ok (.goto 4, 3) := by decide +kernel
theorem dX13_keyComes_25 : decode cX13_keyComes 25 = .ok (.iconst 0, 1) := by decide +kernel
theorem dX13_keyComes_26 : decode cX13_keyComes 26 = .ok (.ireturn, 1) := by decide +kernel
theorem dX13_keyComes_27 : decode cX13_keyComes 27 = .ok (.iload_n 2, 1) := by decide +kernel
theorem dX13_keyComes_28 : decode cX13_keyComes 28 = .ok (.iconst 3, 1) := by decide +kernel
theorem dX13_keyComes_29 : decode cX13_keyComes 29 = .ok (.if_icmp .le 28, 3) := by decide +kernel
theorem dX13_keyComes_32 : decode cX13_keyComes 32 = .ok (.aload_n 0, 1) := by decide +kernel
theorem dX13_keyComes_33 : decode cX13_keyComes 33 = .ok (.aload_n 0, 1) := by decide +kernel
theorem dX13_keyComes_34 : decode cX13_keyComes 34 = .ok (.getfield 217, 3) := by decide +kernel
theorem dX13_keyComes_37 : decode cX13_keyComes 37 = .ok (.sipush 128, 3) := by decide +kernel
theorem dX13_keyComes_40 : decode cX13_keyComes 40 = .ok (.iload_n 1, 1) := by decide +kernel
theorem dX13_keyComes_41 : decode cX13_keyComes 41 = .ok (.imul, 1) := by decide +kernel
theorem dX13_keyComes_42 : decode cX13_keyComes 42 = .ok (.aload_n 0, 1) := by decide +kernel
theorem dX13_keyComes_43 : decode cX13_keyComes 43 = .ok (.getfield 248, 3) := by decide +kernel
theorem dX13_keyComes_46 : decode cX13_keyComes 46 = .ok (.iconst 0, 1) := by decide +kernel
theorem dX13_keyComes_47 : decode cX13_keyComes 47 = .ok (.iload_n 2, 1) := by decide +kernel
theorem dX13_keyComes_48 : decode cX13_keyComes 48 = .ok (.iload_n 3, 1) := by decide +kernel
theorem dX13_keyComes_49 : decode cX13_keyComes 49 = .ok (.invokevirtual 1057, 3) := by decide +kernel
theorem dX13_keyComes_52 : decode cX13_keyComes 52 = .ok (.ifCond .ne 5, 3) := by decide +kernel
theorem dX13_keyComes_55 : decode cX13_keyComes 55 = .ok (.iconst 0, 1) := by decide +kernel
theorem dX13_keyComes_56 : decode cX13_keyComes 56 = .ok (.ireturn, 1) := by decide +kernel
theorem dX13_keyComes_57 : decode cX13_keyComes 57 = .ok (.iload_n 2, 1) := by decide +kernel
theorem dX13_keyComes_58 : decode cX13_keyComes 58 = .ok (.ifCond .eq 8, 3) := by decide +kernel
theorem dX13_keyComes_61 : decode cX13_keyComes 61 = .ok (.iload_n 2, 1) := by decide +kernel
theorem dX13_keyComes_62 : decode cX13_keyComes 62 = .ok (.iconst 4, 1) := by decide +kernel
theorem dX13_keyComes_63 : decode cX13_keyComes 63 = .ok (.if_icmp .ne 54, 3) := by decide +kernel
theorem dX13_keyComes_66 : decode cX13_keyComes 66 = .ok (.iload_n 2, 1) := by decide +kernel
theorem dX13_keyComes_67 : decode cX13_keyComes 67 = .ok (.ifCond .ne 10, 3) := by decide +kernel
theorem dX13_keyComes_70 : decode cX13_keyComes 70 = .ok (.aload_n 0, 1) := by decide +kernel
theorem dX13_keyComes_71 : decode cX13_keyComes 71 = .ok (.getfield 205, 3) := by decide +kernel
theorem dX13_keyComes_74 : decode cX13_keyComes 74 = .ok (.goto 7, 3) := by decide +kernel
theorem dX13_keyComes_77 : decode cX13_keyComes 77 = .ok (.aload_n 0, 1) := by decide +kernel
theorem dX13_keyComes_78 : decode cX13_keyComes 78 = .ok (.getfield 189, 3) := by decide +kernel
theorem dX13_keyComes_81 : decode cX13_keyComes 81 = .ok (.iload_n 2, 1) := by decide +kernel
theorem dX13_keyComes_82 : decode cX13_keyComes 82 = .ok (.ifCond .ne 11, 3) := by decide +kernel
theorem dX13_keyComes_85 : decode cX13_keyComes 85 = .ok (.sipush 128, 3) := by decide +kernel
theorem dX13_keyComes_88 : decode cX13_keyComes 88 = .ok (.iload_n 1, 1) := by decide +kernel
theorem dX13_keyComes_89 : decode cX13_keyComes 89 = .ok (.imul, 1) := by decide +kernel
theorem dX13_keyComes_90 : decode cX13_keyComes 90 = .ok (.goto 4, 3) := by decide +kernel
theorem dX13_keyComes_93 : decode cX13_keyComes 93 = .ok (.iconst 0, 1) := by decide +kernel
theorem dX13_keyComes_94 : decode cX13_keyComes 94 = .ok (.aload_n 0, 1) := by decide +kernel
theorem dX13_keyComes_95 : decode cX13_keyComes 95 = .ok (.getfield 288, 3) := by decide +kernel
theorem dX13_keyComes_98 : decode cX13_keyComes 98 = .ok (.iconst 0, 1) := by decide +kernel
theorem dX13_keyComes_99 : decode cX13_keyComes 99 = .ok (.iload 4, 2) := by decide +kernel
theorem dX13_keyComes_101 : decode cX13_keyComes 101 = .ok (.invokestatic 317, 3) := by decide +kernel
theorem dX13_keyComes_104 : decode cX13_keyComes 104 = .ok (.aload_n 0, 1) := by decide +kernel
theorem dX13_keyComes_105 : decode cX13_keyComes 105 = .ok (.getfield 1038, 3) := by decide +kernel
theorem dX13_keyComes_108 : decode cX13_keyComes 108 = .ok (.ifCond .ne 7, 3) := by decide +kernel
theorem dX13_keyComes_111 : decode cX13_keyComes 111 = .ok (.iconst 1, 1) := by decide +kernel
theorem dX13_keyComes_112 : decode cX13_keyComes 112 = .ok (.goto 4, 3) := by decide +kernel
theorem dX13_keyComes_115 : decode cX13_keyComes 115 = .ok (.iconst 0, 1) := by decide +kernel
theorem dX13_keyComes_116 : decode cX13_keyComes 116 = .ok (.ireturn, 1) := by decide +kernel
theorem dX13_keyComes_117 : decode cX13_keyComes 117 = .ok (.aload_n 0, 1) := by decide +kernel
theorem dX13_keyComes_118 : decode cX13_keyComes 118 = .ok (.getfield 1038, 3) := by decide +kernel
theorem dX13_keyComes_121 : decode cX13_keyComes 121 = .ok (.iload 4, 2) := by decide +kernel
theorem dX13_keyComes_123 : decode cX13_keyComes 123 = .ok (.bipush 8, 2) := by decide +kernel
theorem dX13_keyComes_125 : decode cX13_keyComes 125 = .ok (.iadd, 1) := by decide +kernel
theorem dX13_keyComes_126 : decode cX13_keyComes 126 = .ok (.if_icmp .eq 5, 3) := by decide +kernel
theorem dX13_keyComes_129 : decode cX13_keyComes 129 = .ok (.iconst 0, 1) := by decide +kernel
theorem dX13_keyComes_130 : decode cX13_keyComes 130 = .ok (.ireturn, 1) := by decide +kernel
theorem dX13_keyComes_131 : decode cX13_keyComes 131 = .ok (.aload_n 0, 1) := by decide +kernel
theorem dX13_keyComes_132 : decode cX13_keyComes 132 = .ok (.iload_n 2, 1) := by decide +kernel
theorem dX13_keyComes_133 : decode cX13_keyComes 133 = .ok (.iconst 5, 1) := by decide +kernel
theorem dX13_keyComes_134 : decode cX13_keyComes 134 = .ok (.if_icmp .ne 10, 3) := by decide +kernel
theorem dX13_keyComes_137 : decode cX13_keyComes 137 = .ok (.aload_n 0, 1) := by decide +kernel
theorem dX13_keyComes_138 : decode cX13_keyComes 138 = .ok (.getfield 189, 3) := by decide +kernel
theorem dX13_keyComes_141 : decode cX13_keyComes 141 = .ok (.goto 7, 3) := by decide +kernel
theorem dX13_keyComes_144 : decode cX13_keyComes 144 = .ok (.aload_n 0, 1) := by decide +kernel
theorem dX13_keyComes_145 : decode cX13_keyComes 145 = .ok (.getfield 205, 3) := by decide +kernel
theorem dX13_keyComes_148 : decode cX13_keyComes 148 = .ok (.iload_n 2, 1) := by decide +kernel
theorem dX13_keyComes_149 : decode cX13_keyComes 149 = .ok (.iconst 5, 1) := by decide +kernel
theorem dX13_keyComes_150 : decode cX13_keyComes 150 = .ok (.if_icmp .ne 7, 3) := by decide +kernel
theorem dX13_keyComes_153 : decode cX13_keyComes 153 = .ok (.iconst 0, 1) := by decide +kernel
theorem dX13_keyComes_154 : decode cX13_keyComes 154 = .ok (.goto 8, 3) := by decide +kernel
theorem dX13_keyComes_157 : decode cX13_keyComes 157 = .ok (.sipush 128, 3) := by decide +kernel
theorem dX13_keyComes_160 : decode cX13_keyComes 160 = .ok (.iload_n 1, 1) := by decide +kernel
theorem dX13_keyComes_161 : decode cX13_keyComes 161 = .ok (.imul, 1) := by decide +kernel
theorem dX13_keyComes_162 : decode cX13_keyComes 162 = .ok (.iload_n 2, 1) := by decide +kernel
theorem dX13_keyComes_163 : decode cX13_keyComes 163 = .ok (.iconst 5, 1) := by decide +kernel
theorem dX13_keyComes_164 : decode cX13_keyComes 164 = .ok (.if_icmp .ne 8, 3) := by decide +kernel
theorem dX13_keyComes_167 : decode cX13_keyComes 167 = .ok (.bipush 16, 2) := by decide +kernel
theorem dX13_keyComes_169 : decode cX13_keyComes 169 = .ok (.goto 9, 3) := by decide +kernel
theorem dX13_keyComes_172 : decode cX13_keyComes 172 = .ok (.aload_n 0, 1) := by decide +kernel
theorem dX13_keyComes_173 : decode cX13_keyComes 173 = .ok (.getfield 208, 3) := by decide +kernel
theorem dX13_keyComes_176 : decode cX13_keyComes 176 = .ok (.iload_n 1, 1) := by decide +kernel
theorem dX13_keyComes_177 : decode cX13_keyComes 177 = .ok (.iaload, 1) := by decide +kernel
theorem dX13_keyComes_178 : decode cX13_keyComes 178 = .ok (.invokevirtual 601, 3) := by decide +kernel
theorem dX13_keyComes_181 : decode cX13_keyComes 181 = .ok (.aload_n 0, 1) := by decide +kernel
theorem dX13_keyComes_182 : decode cX13_keyComes 182 = .ok (.aload_n 0, 1) := by decide +kernel
theorem dX13_keyComes_183 : decode cX13_keyComes 183 = .ok (.getfield 291, 3) := by decide +kernel
theorem dX13_keyComes_186 : decode cX13_keyComes 186 = .ok (.iconst 0, 1) := by decide +kernel
theorem dX13_keyComes_187 : decode cX13_keyComes 187 = .ok (.aload_n 0, 1) := by decide +kernel
theorem dX13_keyComes_188 : decode cX13_keyComes 188 = .ok (.getfield 1038, 3) := by decide +kernel
theorem dX13_keyComes_191 : decode cX13_keyComes 191 = .ok (.invokevirtual 625, 3) := by decide +kernel
theorem dX13_keyComes_194 : decode cX13_keyComes 194 = .ok (.istore 5, 2) := by decide +kernel
theorem dX13_keyComes_196 : decode cX13_keyComes 196 = .ok (.aload_n 0, 1) := by decide +kernel
theorem dX13_keyComes_197 : decode cX13_keyComes 197 = .ok (.getfield 107, 3) := by decide +kernel
theorem dX13_keyComes_200 : decode cX13_keyComes 200 = .ok (.bipush 8, 2) := by decide +kernel
theorem dX13_keyComes_202 : decode cX13_keyComes 202 = .ok (.aload_n 0, 1) := by decide +kernel
theorem dX13_keyComes_203 : decode cX13_keyComes 203 = .ok (.getfield 288, 3) := by decide +kernel
theorem dX13_keyComes_206 : decode cX13_keyComes 206 = .ok (.iconst 0, 1) := by decide +kernel
theorem dX13_keyComes_207 : decode cX13_keyComes 207 = .ok (.iload 4, 2) := by decide +kernel
theorem dX13_keyComes_209 : decode cX13_keyComes 209 = .ok (.invokestatic 317, 3) := by decide +kernel
theorem dX13_keyComes_212 : decode cX13_keyComes 212 = .ok (.iload 5, 2) := by decide +kernel
theorem dX13_keyComes_214 : decode cX13_keyComes 214 = .ok (.ireturn, 1) := by decide +kernel
abbrev rmX13_keyComes : Room := { frames := 7, cells := 0, slots := 0, locals := 179 }
def B_X13_keyComes_178 (G : Nat → Nat) (F : Nat) (l0 : Nat) (l4 : Int32) (s0 : Nat) (s1 : Nat) (s2 : Int32) (s3 : Int32) (M : mM) : Option (Int32 × mM) :=
  bO (rcv M s0 13) fun _ =>
  bO (P_X13_setKey G F s0 s1 s2 s3 M) fun M178 =>
  bO (gfR M178 l0 13 126) fun v183 =>
  bO (gfI M178 l0 13 127) fun v188 =>
  bO (rcv M178 l0 13) fun _ =>
  bP (P_X13_unwrapIt G F l0 v183 (0 : Int32) v188 M178) fun v191 M191 =>
  bO (gfR M191 l0 13 48) fun v197 =>
  bO (gfR M191 l0 13 125) fun v203 =>
  bO (P_X13_move G F v197 (8 : Int32) v203 (0 : Int32) l4 M191) fun M209 =>
  retZ v191 M209
set_option maxHeartbeats 4000000 in
set_option maxRecDepth 100000 in
theorem wB_X13_keyComes_178 {G : Nat → Nat} {F : Nat} {x : mXT} {sz : Nat} {r0 : Int32} {M0 : mM} (X : mCX G RX13 cX13_keyComes 6 (some .boolean) "keyComes" rmX13_keyComes x) (hQ : mQI x r0 M0 (sz, 0, 0)) {l0 : Nat} {l4 : Int32} {s0 : Nat} {s1 : Nat} {s2 : Int32} {s3 : Int32} {M : mM} (h : B_X13_keyComes_178 G F l0 l4 s0 s1 s2 s3 M = some (r0, M0)) : WW x (sz, 0, 0) M 178 [(0, .ref l0), (4, .int l4)] [.int s3, .int s2, .ref s1, .ref s0] := by
  unfold B_X13_keyComes_178 at h
  obtain ⟨_, f178, h⟩ := bO_some h
  obtain ⟨M178, e178, h⟩ := bO_some h
  refine ww_callVV0 178 X dX13_keyComes_178 mY_X13_setKey mL_X13_601 (rcv_spec f178) ⟨_, _, rfl⟩ (by decide) (As := [.ref s1, .int s2, .int s3]) (rest := []) rfl rfl ⟨Nat.le_of_ble_eq_true rfl, Nat.le_of_ble_eq_true rfl⟩ (Nat.le_of_ble_eq_true rfl) (fun l D A => c_X13_setKey l D A e178) ?_
  refine ww_aload_n 181 X dX13_keyComes_181 0 rfl rfl ?_
  refine ww_aload_n 182 X dX13_keyComes_182 0 rfl rfl ?_
  obtain ⟨v183, e183, h⟩ := bO_some h
  refine ww_getR 183 X dX13_keyComes_183 fG_X13_291 e183 ?_
  refine ww_iconst 186 X (v := (0 : Int32)) dX13_keyComes_186 (by decide) ?_
  refine ww_aload_n 187 X dX13_keyComes_187 0 rfl rfl ?_
  obtain ⟨v188, e188, h⟩ := bO_some h
  refine ww_getI 188 X dX13_keyComes_188 fG_X13_1038 e188 ?_
  obtain ⟨_, f191, h⟩ := bO_some h
  obtain ⟨v191, M191, e191, h⟩ := bP_some h
  refine ww_callVI0 191 X dX13_keyComes_191 mY_X13_unwrapIt mL_X13_625 (rcv_spec f191) ⟨_, _, rfl⟩ (by decide) (As := [.ref v183, .int (0 : Int32), .int v188]) (rest := []) rfl rfl ⟨Nat.le_of_ble_eq_true rfl, Nat.le_of_ble_eq_true rfl⟩ (Nat.le_of_ble_eq_true rfl) (fun l D A => c_X13_unwrapIt l D A e191) ?_
  refine ww_istore 194 X dX13_keyComes_194 (lv' := [(0, .ref l0), (4, .int l4), (5, .int v191)]) (by decide) [1, 2, 0] rfl ?_
  refine ww_aload_n 196 X dX13_keyComes_196 0 rfl rfl ?_
  obtain ⟨v197, e197, h⟩ := bO_some h
  refine ww_getR 197 X dX13_keyComes_197 fG_X13_107 e197 ?_
  refine ww_bipush 200 X (v := (8 : Int32)) dX13_keyComes_200 (by decide) ?_
  refine ww_aload_n 202 X dX13_keyComes_202 0 rfl rfl ?_
  obtain ⟨v203, e203, h⟩ := bO_some h
  refine ww_getR 203 X dX13_keyComes_203 fG_X13_288 e203 ?_
  refine ww_iconst 206 X (v := (0 : Int32)) dX13_keyComes_206 (by decide) ?_
  refine ww_iload 207 X dX13_keyComes_207 1 rfl ?_
  obtain ⟨M209, e209, h⟩ := bO_some h
  refine ww_callSV0 209 X dX13_keyComes_209 mY_X13_move mL_X13_317 (As := [.ref v197, .int (8 : Int32), .ref v203, .int (0 : Int32), .int l4]) (rest := []) rfl rfl ⟨Nat.le_of_ble_eq_true rfl, Nat.le_of_ble_eq_true rfl⟩ (Nat.le_of_ble_eq_true rfl) (fun l D A => c_X13_move l D A e209) ?_
  refine ww_iload 212 X dX13_keyComes_212 2 rfl ?_
  exact ww_zretE 214 X hQ dX13_keyComes_214 h
def B_X13_keyComes_148 (G : Nat → Nat) (F : Nat) (l0 : Nat) (l1 : Int32) (l2 : Int32) (l4 : Int32) (s0 : Nat) (s1 : Nat) (M : mM) : Option (Int32 × mM) :=
  if l2 = (5 : Int32) then (if l2 = (5 : Int32) then (B_X13_keyComes_178 G F l0 l4 s0 s1 (0 : Int32) (16 : Int32) M)
  else (bO (gfR M l0 13 86) fun v173 =>
  bO (aI M 0 v173 l1) fun v177 =>
  B_X13_keyComes_178 G F l0 l4 s0 s1 (0 : Int32) v177 M))
  else (if l2 = (5 : Int32) then (B_X13_keyComes_178 G F l0 l4 s0 s1 ((128 : Int32) * l1) (16 : Int32) M)
  else (bO (gfR M l0 13 86) fun v173 =>
  bO (aI M 0 v173 l1) fun v177 =>
  B_X13_keyComes_178 G F l0 l4 s0 s1 ((128 : Int32) * l1) v177 M))
set_option maxHeartbeats 4000000 in
set_option maxRecDepth 100000 in
theorem wB_X13_keyComes_148 {G : Nat → Nat} {F : Nat} {x : mXT} {sz : Nat} {r0 : Int32} {M0 : mM} (X : mCX G RX13 cX13_keyComes 6 (some .boolean) "keyComes" rmX13_keyComes x) (hQ : mQI x r0 M0 (sz, 0, 0)) {l0 : Nat} {l1 : Int32} {l2 : Int32} {l4 : Int32} {s0 : Nat} {s1 : Nat} {M : mM} (h : B_X13_keyComes_148 G F l0 l1 l2 l4 s0 s1 M = some (r0, M0)) : WW x (sz, 0, 0) M 148 [(0, .ref l0), (1, .int l1), (2, .int l2), (4, .int l4)] [.ref s1, .ref s0] := by
  unfold B_X13_keyComes_148 at h
  refine ww_iload_n 148 X dX13_keyComes_148 2 rfl rfl ?_
  refine ww_iconst 149 X (v := (5 : Int32)) dX13_keyComes_149 (by decide) ?_
  refine ww_icmp_ne 150 157 X dX13_keyComes_150 (by decide) (fun q => ?_) (fun q => ?_)
  · replace h := (if_neg q).symm.trans h
    refine ww_sipush 157 X (v := (128 : Int32)) dX13_keyComes_157 (by decide) ?_
    refine ww_iload_n 160 X dX13_keyComes_160 1 rfl rfl ?_
    refine ww_imul 161 X dX13_keyComes_161 ?_
    refine ww_iload_n 162 X dX13_keyComes_162 2 rfl rfl ?_
    refine ww_iconst 163 X (v := (5 : Int32)) dX13_keyComes_163 (by decide) ?_
    refine ww_icmp_ne 164 172 X dX13_keyComes_164 (by decide) (fun q => ?_) (fun q => ?_)
    · replace h := (if_neg q).symm.trans h
      refine ww_aload_n 172 X dX13_keyComes_172 0 rfl rfl ?_
      obtain ⟨v173, e173, h⟩ := bO_some h
      refine ww_getR 173 X dX13_keyComes_173 fG_X13_208 e173 ?_
      refine ww_iload_n 176 X dX13_keyComes_176 1 rfl rfl ?_
      obtain ⟨v177, e177, h⟩ := bO_some h
      refine ww_iald 177 X dX13_keyComes_177 e177 ?_
      exact ww_sub [0, 3] rfl (wB_X13_keyComes_178 X hQ h)
    · replace h := (if_pos q).symm.trans h
      refine ww_bipush 167 X (v := (16 : Int32)) dX13_keyComes_167 (by decide) ?_
      refine ww_goto 169 178 X dX13_keyComes_169 (by decide) ?_
      exact ww_sub [0, 3] rfl (wB_X13_keyComes_178 X hQ h)
  · replace h := (if_pos q).symm.trans h
    refine ww_iconst 153 X (v := (0 : Int32)) dX13_keyComes_153 (by decide) ?_
    refine ww_goto 154 162 X dX13_keyComes_154 (by decide) ?_
    refine ww_iload_n 162 X dX13_keyComes_162 2 rfl rfl ?_
    refine ww_iconst 163 X (v := (5 : Int32)) dX13_keyComes_163 (by decide) ?_
    refine ww_icmp_ne 164 172 X dX13_keyComes_164 (by decide) (fun q => ?_) (fun q => ?_)
    · replace h := (if_neg q).symm.trans h
      refine ww_aload_n 172 X dX13_keyComes_172 0 rfl rfl ?_
      obtain ⟨v173, e173, h⟩ := bO_some h
      refine ww_getR 173 X dX13_keyComes_173 fG_X13_208 e173 ?_
      refine ww_iload_n 176 X dX13_keyComes_176 1 rfl rfl ?_
      obtain ⟨v177, e177, h⟩ := bO_some h
      refine ww_iald 177 X dX13_keyComes_177 e177 ?_
      exact ww_sub [0, 3] rfl (wB_X13_keyComes_178 X hQ h)
    · replace h := (if_pos q).symm.trans h
      refine ww_bipush 167 X (v := (16 : Int32)) dX13_keyComes_167 (by decide) ?_
      refine ww_goto 169 178 X dX13_keyComes_169 (by decide) ?_
      exact ww_sub [0, 3] rfl (wB_X13_keyComes_178 X hQ h)
def B_X13_keyComes_94 (G : Nat → Nat) (F : Nat) (l0 : Nat) (l4 : Int32) (s0 : Nat) (s1 : Int32) (M : mM) : Option (Int32 × mM) :=
  bO (gfR M l0 13 125) fun v95 =>
  bO (P_X13_move G F s0 s1 v95 (0 : Int32) l4 M) fun M101 =>
  bO (gfI M101 l0 13 127) fun v105 =>
  if v105 = 0 then (retZ (1 : Int32) M101)
  else (retZ (0 : Int32) M101)
set_option maxHeartbeats 4000000 in
set_option maxRecDepth 100000 in
theorem wB_X13_keyComes_94 {G : Nat → Nat} {F : Nat} {x : mXT} {sz : Nat} {r0 : Int32} {M0 : mM} (X : mCX G RX13 cX13_keyComes 6 (some .boolean) "keyComes" rmX13_keyComes x) (hQ : mQI x r0 M0 (sz, 0, 0)) {l0 : Nat} {l4 : Int32} {s0 : Nat} {s1 : Int32} {M : mM} (h : B_X13_keyComes_94 G F l0 l4 s0 s1 M = some (r0, M0)) : WW x (sz, 0, 0) M 94 [(0, .ref l0), (4, .int l4)] [.int s1, .ref s0] := by
  unfold B_X13_keyComes_94 at h
  refine ww_aload_n 94 X dX13_keyComes_94 0 rfl rfl ?_
  obtain ⟨v95, e95, h⟩ := bO_some h
  refine ww_getR 95 X dX13_keyComes_95 fG_X13_288 e95 ?_
  refine ww_iconst 98 X (v := (0 : Int32)) dX13_keyComes_98 (by decide) ?_
  refine ww_iload 99 X dX13_keyComes_99 1 rfl ?_
  obtain ⟨M101, e101, h⟩ := bO_some h
  refine ww_callSV0 101 X dX13_keyComes_101 mY_X13_move mL_X13_317 (As := [.ref s0, .int s1, .ref v95, .int (0 : Int32), .int l4]) (rest := []) rfl rfl ⟨Nat.le_of_ble_eq_true rfl, Nat.le_of_ble_eq_true rfl⟩ (Nat.le_of_ble_eq_true rfl) (fun l D A => c_X13_move l D A e101) ?_
  refine ww_aload_n 104 X dX13_keyComes_104 0 rfl rfl ?_
  obtain ⟨v105, e105, h⟩ := bO_some h
  refine ww_getI 105 X dX13_keyComes_105 fG_X13_1038 e105 ?_
  refine ww_if_ne 108 115 X dX13_keyComes_108 (by decide) (fun q => ?_) (fun q => ?_)
  · replace h := (if_neg q).symm.trans h
    refine ww_iconst 115 X (v := (0 : Int32)) dX13_keyComes_115 (by decide) ?_
    exact ww_zretE 116 X hQ dX13_keyComes_116 h
  · replace h := (if_pos q).symm.trans h
    refine ww_iconst 111 X (v := (1 : Int32)) dX13_keyComes_111 (by decide) ?_
    refine ww_goto 112 116 X dX13_keyComes_112 (by decide) ?_
    exact ww_zretE 116 X hQ dX13_keyComes_116 h
def B_X13_keyComes_66 (G : Nat → Nat) (F : Nat) (l0 : Nat) (l1 : Int32) (l2 : Int32) (l4 : Int32) (M : mM) : Option (Int32 × mM) :=
  if l2 = 0 then (bO (gfR M l0 13 85) fun v71 =>
  if l2 = 0 then (B_X13_keyComes_94 G F l0 l4 v71 ((128 : Int32) * l1) M)
  else (B_X13_keyComes_94 G F l0 l4 v71 (0 : Int32) M))
  else (bO (gfR M l0 13 80) fun v78 =>
  if l2 = 0 then (B_X13_keyComes_94 G F l0 l4 v78 ((128 : Int32) * l1) M)
  else (B_X13_keyComes_94 G F l0 l4 v78 (0 : Int32) M))
set_option maxHeartbeats 4000000 in
set_option maxRecDepth 100000 in
theorem wB_X13_keyComes_66 {G : Nat → Nat} {F : Nat} {x : mXT} {sz : Nat} {r0 : Int32} {M0 : mM} (X : mCX G RX13 cX13_keyComes 6 (some .boolean) "keyComes" rmX13_keyComes x) (hQ : mQI x r0 M0 (sz, 0, 0)) {l0 : Nat} {l1 : Int32} {l2 : Int32} {l4 : Int32} {M : mM} (h : B_X13_keyComes_66 G F l0 l1 l2 l4 M = some (r0, M0)) : WW x (sz, 0, 0) M 66 [(0, .ref l0), (1, .int l1), (2, .int l2), (4, .int l4)] [] := by
  unfold B_X13_keyComes_66 at h
  refine ww_iload_n 66 X dX13_keyComes_66 2 rfl rfl ?_
  refine ww_if_ne 67 77 X dX13_keyComes_67 (by decide) (fun q => ?_) (fun q => ?_)
  · replace h := (if_neg q).symm.trans h
    refine ww_aload_n 77 X dX13_keyComes_77 0 rfl rfl ?_
    obtain ⟨v78, e78, h⟩ := bO_some h
    refine ww_getR 78 X dX13_keyComes_78 fG_X13_189 e78 ?_
    refine ww_iload_n 81 X dX13_keyComes_81 2 rfl rfl ?_
    refine ww_if_ne 82 93 X dX13_keyComes_82 (by decide) (fun q => ?_) (fun q => ?_)
    · replace h := (if_neg q).symm.trans h
      refine ww_iconst 93 X (v := (0 : Int32)) dX13_keyComes_93 (by decide) ?_
      exact ww_sub [0, 3] rfl (wB_X13_keyComes_94 X hQ h)
    · replace h := (if_pos q).symm.trans h
      refine ww_sipush 85 X (v := (128 : Int32)) dX13_keyComes_85 (by decide) ?_
      refine ww_iload_n 88 X dX13_keyComes_88 1 rfl rfl ?_
      refine ww_imul 89 X dX13_keyComes_89 ?_
      refine ww_goto 90 94 X dX13_keyComes_90 (by decide) ?_
      exact ww_sub [0, 3] rfl (wB_X13_keyComes_94 X hQ h)
  · replace h := (if_pos q).symm.trans h
    refine ww_aload_n 70 X dX13_keyComes_70 0 rfl rfl ?_
    obtain ⟨v71, e71, h⟩ := bO_some h
    refine ww_getR 71 X dX13_keyComes_71 fG_X13_205 e71 ?_
    refine ww_goto 74 81 X dX13_keyComes_74 (by decide) ?_
    refine ww_iload_n 81 X dX13_keyComes_81 2 rfl rfl ?_
    refine ww_if_ne 82 93 X dX13_keyComes_82 (by decide) (fun q => ?_) (fun q => ?_)
    · replace h := (if_neg q).symm.trans h
      refine ww_iconst 93 X (v := (0 : Int32)) dX13_keyComes_93 (by decide) ?_
      exact ww_sub [0, 3] rfl (wB_X13_keyComes_94 X hQ h)
    · replace h := (if_pos q).symm.trans h
      refine ww_sipush 85 X (v := (128 : Int32)) dX13_keyComes_85 (by decide) ?_
      refine ww_iload_n 88 X dX13_keyComes_88 1 rfl rfl ?_
      refine ww_imul 89 X dX13_keyComes_89 ?_
      refine ww_goto 90 94 X dX13_keyComes_90 (by decide) ?_
      exact ww_sub [0, 3] rfl (wB_X13_keyComes_94 X hQ h)
def B_X13_keyComes_57 (G : Nat → Nat) (F : Nat) (l0 : Nat) (l1 : Int32) (l2 : Int32) (l4 : Int32) (M : mM) : Option (Int32 × mM) :=
  if l2 = 0 then (B_X13_keyComes_66 G F l0 l1 l2 l4 M)
  else (if l2 = (4 : Int32) then (B_X13_keyComes_66 G F l0 l1 l2 l4 M)
  else (bO (gfI M l0 13 127) fun v118 =>
  if v118 = (l4 + (8 : Int32)) then (if l2 = (5 : Int32) then (bO (gfR M l0 13 80) fun v138 =>
  B_X13_keyComes_148 G F l0 l1 l2 l4 l0 v138 M)
  else (bO (gfR M l0 13 85) fun v145 =>
  B_X13_keyComes_148 G F l0 l1 l2 l4 l0 v145 M))
  else (retZ (0 : Int32) M)))
set_option maxHeartbeats 4000000 in
set_option maxRecDepth 100000 in
theorem wB_X13_keyComes_57 {G : Nat → Nat} {F : Nat} {x : mXT} {sz : Nat} {r0 : Int32} {M0 : mM} (X : mCX G RX13 cX13_keyComes 6 (some .boolean) "keyComes" rmX13_keyComes x) (hQ : mQI x r0 M0 (sz, 0, 0)) {l0 : Nat} {l1 : Int32} {l2 : Int32} {l4 : Int32} {M : mM} (h : B_X13_keyComes_57 G F l0 l1 l2 l4 M = some (r0, M0)) : WW x (sz, 0, 0) M 57 [(0, .ref l0), (1, .int l1), (2, .int l2), (4, .int l4)] [] := by
  unfold B_X13_keyComes_57 at h
  refine ww_iload_n 57 X dX13_keyComes_57 2 rfl rfl ?_
  refine ww_if_eq 58 66 X dX13_keyComes_58 (by decide) (fun q => ?_) (fun q => ?_)
  · replace h := (if_pos q).symm.trans h
    exact (wB_X13_keyComes_66 X hQ h)
  · replace h := (if_neg q).symm.trans h
    refine ww_iload_n 61 X dX13_keyComes_61 2 rfl rfl ?_
    refine ww_iconst 62 X (v := (4 : Int32)) dX13_keyComes_62 (by decide) ?_
    refine ww_icmp_ne 63 117 X dX13_keyComes_63 (by decide) (fun q => ?_) (fun q => ?_)
    · replace h := (if_neg q).symm.trans h
      refine ww_aload_n 117 X dX13_keyComes_117 0 rfl rfl ?_
      obtain ⟨v118, e118, h⟩ := bO_some h
      refine ww_getI 118 X dX13_keyComes_118 fG_X13_1038 e118 ?_
      refine ww_iload 121 X dX13_keyComes_121 3 rfl ?_
      refine ww_bipush 123 X (v := (8 : Int32)) dX13_keyComes_123 (by decide) ?_
      refine ww_iadd 125 X dX13_keyComes_125 ?_
      refine ww_icmp_eq 126 131 X dX13_keyComes_126 (by decide) (fun q => ?_) (fun q => ?_)
      · replace h := (if_pos q).symm.trans h
        refine ww_aload_n 131 X dX13_keyComes_131 0 rfl rfl ?_
        refine ww_iload_n 132 X dX13_keyComes_132 2 rfl rfl ?_
        refine ww_iconst 133 X (v := (5 : Int32)) dX13_keyComes_133 (by decide) ?_
        refine ww_icmp_ne 134 144 X dX13_keyComes_134 (by decide) (fun q => ?_) (fun q => ?_)
        · replace h := (if_neg q).symm.trans h
          refine ww_aload_n 144 X dX13_keyComes_144 0 rfl rfl ?_
          obtain ⟨v145, e145, h⟩ := bO_some h
          refine ww_getR 145 X dX13_keyComes_145 fG_X13_205 e145 ?_
          exact (wB_X13_keyComes_148 X hQ h)
        · replace h := (if_pos q).symm.trans h
          refine ww_aload_n 137 X dX13_keyComes_137 0 rfl rfl ?_
          obtain ⟨v138, e138, h⟩ := bO_some h
          refine ww_getR 138 X dX13_keyComes_138 fG_X13_189 e138 ?_
          refine ww_goto 141 148 X dX13_keyComes_141 (by decide) ?_
          exact (wB_X13_keyComes_148 X hQ h)
      · replace h := (if_neg q).symm.trans h
        refine ww_iconst 129 X (v := (0 : Int32)) dX13_keyComes_129 (by decide) ?_
        exact ww_zretE 130 X hQ dX13_keyComes_130 h
    · replace h := (if_pos q).symm.trans h
      exact (wB_X13_keyComes_66 X hQ h)
def P_X13_keyComes (G : Nat → Nat) (F : Nat) (l0 : Nat) (l1 : Int32) (l2 : Int32) (l3 : Int32) (M : mM) : Option (Int32 × mM) :=
  bP (P_X13_keyOf G F l3 M) fun v1 M1 =>
  if l2 = (3 : Int32) then (bO (rcv M1 l0 13) fun _ =>
  bP (P_X13_openRsa G F l0 l1 M1) fun v13 M13 =>
  if v13 = v1 then (retZ (1 : Int32) M13)
  else (retZ (0 : Int32) M13))
  else (if l2 ≤ (3 : Int32) then (B_X13_keyComes_57 G F l0 l1 l2 v1 M1)
  else (bO (gfR M1 l0 13 89) fun v34 =>
  bO (gfR M1 l0 13 107) fun v43 =>
  bO (rcv M1 l0 13) fun _ =>
  bP (P_X13_agree G F l0 v34 ((128 : Int32) * l1) v43 (0 : Int32) l2 l3 M1) fun v49 M49 =>
  if v49 = 0 then (retZ (0 : Int32) M49)
  else (B_X13_keyComes_57 G F l0 l1 l2 v1 M49)))
set_option maxHeartbeats 4000000 in
set_option maxRecDepth 100000 in
theorem wP_X13_keyComes {G : Nat → Nat} {F : Nat} {x : mXT} {sz : Nat} {r0 : Int32} {M0 : mM} (X : mCX G RX13 cX13_keyComes 6 (some .boolean) "keyComes" rmX13_keyComes x) (hQ : mQI x r0 M0 (sz, 0, 0)) {l0 : Nat} {l1 : Int32} {l2 : Int32} {l3 : Int32} {M : mM} (h : P_X13_keyComes G F l0 l1 l2 l3 M = some (r0, M0)) : WW x (sz, 0, 0) M 0 [(0, .ref l0), (1, .int l1), (2, .int l2), (3, .int l3)] [] := by
  unfold P_X13_keyComes at h
  refine ww_iload_n 0 X dX13_keyComes_0 3 rfl rfl ?_
  obtain ⟨v1, M1, e1, h⟩ := bP_some h
  refine ww_callSI0 1 X dX13_keyComes_1 mY_X13_keyOf mL_X13_629 (As := [.int l3]) (rest := []) rfl rfl ⟨Nat.le_of_ble_eq_true rfl, Nat.le_of_ble_eq_true rfl⟩ (Nat.le_of_ble_eq_true rfl) (fun l D A => c_X13_keyOf l D A e1) ?_
  refine ww_istore 4 X dX13_keyComes_4 (lv' := [(0, .ref l0), (1, .int l1), (2, .int l2), (3, .int l3), (4, .int v1)]) (by decide) [1, 2, 3, 4, 0] rfl ?_
  refine ww_iload_n 6 X dX13_keyComes_6 2 rfl rfl ?_
  refine ww_iconst 7 X (v := (3 : Int32)) dX13_keyComes_7 (by decide) ?_
  refine ww_icmp_ne 8 27 X dX13_keyComes_8 (by decide) (fun q => ?_) (fun q => ?_)
  · replace h := (if_neg q).symm.trans h
    refine ww_iload_n 27 X dX13_keyComes_27 2 rfl rfl ?_
    refine ww_iconst 28 X (v := (3 : Int32)) dX13_keyComes_28 (by decide) ?_
    refine ww_icmp_le 29 57 X dX13_keyComes_29 (by decide) (fun q => ?_) (fun q => ?_)
    · replace h := (if_pos q).symm.trans h
      exact ww_sub [0, 1, 2, 4] rfl (wB_X13_keyComes_57 X hQ h)
    · replace h := (if_neg q).symm.trans h
      refine ww_aload_n 32 X dX13_keyComes_32 0 rfl rfl ?_
      refine ww_aload_n 33 X dX13_keyComes_33 0 rfl rfl ?_
      obtain ⟨v34, e34, h⟩ := bO_some h
      refine ww_getR 34 X dX13_keyComes_34 fG_X13_217 e34 ?_
      refine ww_sipush 37 X (v := (128 : Int32)) dX13_keyComes_37 (by decide) ?_
      refine ww_iload_n 40 X dX13_keyComes_40 1 rfl rfl ?_
      refine ww_imul 41 X dX13_keyComes_41 ?_
      refine ww_aload_n 42 X dX13_keyComes_42 0 rfl rfl ?_
      obtain ⟨v43, e43, h⟩ := bO_some h
      refine ww_getR 43 X dX13_keyComes_43 fG_X13_248 e43 ?_
      refine ww_iconst 46 X (v := (0 : Int32)) dX13_keyComes_46 (by decide) ?_
      refine ww_iload_n 47 X dX13_keyComes_47 2 rfl rfl ?_
      refine ww_iload_n 48 X dX13_keyComes_48 3 rfl rfl ?_
      obtain ⟨_, f49, h⟩ := bO_some h
      obtain ⟨v49, M49, e49, h⟩ := bP_some h
      refine ww_callVI0 49 X dX13_keyComes_49 mY_X13_agree mL_X13_1057 (rcv_spec f49) ⟨_, _, rfl⟩ (by decide) (As := [.ref v34, .int ((128 : Int32) * l1), .ref v43, .int (0 : Int32), .int l2, .int l3]) (rest := []) rfl rfl ⟨Nat.le_of_ble_eq_true rfl, Nat.le_of_ble_eq_true rfl⟩ (Nat.le_of_ble_eq_true rfl) (fun l D A => c_X13_agree l D A e49) ?_
      refine ww_if_ne 52 57 X dX13_keyComes_52 (by decide) (fun q => ?_) (fun q => ?_)
      · replace h := (if_neg q).symm.trans h
        exact ww_sub [0, 1, 2, 4] rfl (wB_X13_keyComes_57 X hQ h)
      · replace h := (if_pos q).symm.trans h
        refine ww_iconst 55 X (v := (0 : Int32)) dX13_keyComes_55 (by decide) ?_
        exact ww_zretE 56 X hQ dX13_keyComes_56 h
  · replace h := (if_pos q).symm.trans h
    refine ww_aload_n 11 X dX13_keyComes_11 0 rfl rfl ?_
    refine ww_iload_n 12 X dX13_keyComes_12 1 rfl rfl ?_
    obtain ⟨_, f13, h⟩ := bO_some h
    obtain ⟨v13, M13, e13, h⟩ := bP_some h
    refine ww_callVI0 13 X dX13_keyComes_13 mY_X13_openRsa mL_X13_1074 (rcv_spec f13) ⟨_, _, rfl⟩ (by decide) (As := [.int l1]) (rest := []) rfl rfl ⟨Nat.le_of_ble_eq_true rfl, Nat.le_of_ble_eq_true rfl⟩ (Nat.le_of_ble_eq_true rfl) (fun l D A => c_X13_openRsa l D A e13) ?_
    refine ww_iload 16 X dX13_keyComes_16 4 rfl ?_
    refine ww_icmp_ne 18 25 X dX13_keyComes_18 (by decide) (fun q => ?_) (fun q => ?_)
    · replace h := (if_neg q).symm.trans h
      refine ww_iconst 25 X (v := (0 : Int32)) dX13_keyComes_25 (by decide) ?_
      exact ww_zretE 26 X hQ dX13_keyComes_26 h
    · replace h := (if_pos q).symm.trans h
      refine ww_iconst 21 X (v := (1 : Int32)) dX13_keyComes_21 (by decide) ?_
      refine ww_goto 22 26 X dX13_keyComes_22 (by decide) ?_
      exact ww_zretE 26 X hQ dX13_keyComes_26 h
theorem c_X13_keyComes {G : Nat → Nat} {F sz : Nat} {r0 : Int32} {M0 : mM} (l : Launch) (D : mD) (A : Nat → Prop) {l0 : Nat} {l1 : Int32} {l2 : Int32} {l3 : Int32} {M : mM} (h : P_X13_keyComes G F l0 l1 l2 l3 M = some (r0, M0)) : mMetI l D G A yX13_keyComes cX13_keyComes 6 (some .boolean) 7 179 0 0 [.ref l0, .int l1, .int l2, .int l3] M sz r0 M0 sz := mMetI_of l D G A (by decide) (Nat.le_of_ble_eq_true rfl) (fun x X hQ => wP_X13_keyComes X hQ h)
