/-! SealedTokens$Key.reasonAgainst(LSealedTokens$Text;)I -/
theorem dX5_reasonAgainst_0 : decode cX5_reasonAgainst 0 = .ok (.aload_n 1, 1) := by decide +kernel
theorem dX5_reasonAgainst_1 : decode cX5_reasonAgainst 1 = .ok (.iconst 0, 1) := by decide +kernel
theorem dX5_reasonAgainst_2 : decode cX5_reasonAgainst 2 = .ok (.bipush 6, 2) := by decide +kernel
theorem dX5_reasonAgainst_4 : decode cX5_reasonAgainst 4 = .ok (.invokevirtual 35, 3) := by decide +kernel
theorem dX5_reasonAgainst_7 : decode cX5_reasonAgainst 7 = .ok (.ifCond .ne 5, 3) := by decide +kernel
theorem dX5_reasonAgainst_10 : decode cX5_reasonAgainst 10 = .ok (.iconst 2, 1) := by decide +kernel
theorem dX5_reasonAgainst_11 : decode cX5_reasonAgainst 11 = .ok (.ireturn, 1) := by decide +kernel
theorem dX5_reasonAgainst_12 : decode cX5_reasonAgainst 12 = .ok (.aload_n 1, 1) := by decide +kernel
theorem dX5_reasonAgainst_13 : decode cX5_reasonAgainst 13 = .ok (.iconst 0, 1) := by decide +kernel
theorem dX5_reasonAgainst_14 : decode cX5_reasonAgainst 14 = .ok (.ldc 41, 2) := by decide +kernel
theorem dX5_reasonAgainst_16 : decode cX5_reasonAgainst 16 = .ok (.invokevirtual 43, 3) := by decide +kernel
theorem dX5_reasonAgainst_19 : decode cX5_reasonAgainst 19 = .ok (.istore_n 2, 1) := by decide +kernel
theorem dX5_reasonAgainst_20 : decode cX5_reasonAgainst 20 = .ok (.aload_n 0, 1) := by decide +kernel
theorem dX5_reasonAgainst_21 : decode cX5_reasonAgainst 21 = .ok (.aload_n 1, 1) := by decide +kernel
theorem dX5_reasonAgainst_22 : decode cX5_reasonAgainst 22 = .ok (.iload_n 2, 1) := by decide +kernel
theorem dX5_reasonAgainst_23 : decode cX5_reasonAgainst 23 = .ok (.ldc 47, 2) := by decide +kernel
theorem dX5_reasonAgainst_25 : decode cX5_reasonAgainst 25 = .ok (.invokevirtual 49, 3) := by decide +kernel
theorem dX5_reasonAgainst_28 : decode cX5_reasonAgainst 28 = .ok (.ifCond .eq 7, 3) := by decide +kernel
theorem dX5_reasonAgainst_31 : decode cX5_reasonAgainst 31 = .ok (.iconst 0, 1) := by decide +kernel
theorem dX5_reasonAgainst_32 : decode cX5_reasonAgainst 32 = .ok (.goto 32, 3) := by decide +kernel
theorem dX5_reasonAgainst_35 : decode cX5_reasonAgainst 35 = .ok (.aload_n 1, 1) := by decide +kernel
theorem dX5_reasonAgainst_36 : decode cX5_reasonAgainst 36 = .ok (.iload_n 2, 1) := by decide +kernel
theorem dX5_reasonAgainst_37 : decode cX5_reasonAgainst 37 = .ok (.ldc 53, 2) := by decide +kernel
theorem dX5_reasonAgainst_39 : decode cX5_reasonAgainst 39 = .ok (.invokevirtual 49, 3) := by decide +kernel
theorem dX5_reasonAgainst_42 : decode cX5_reasonAgainst 42 = .ok (.ifCond .eq 7, 3) := by decide +kernel
theorem dX5_reasonAgainst_45 : decode cX5_reasonAgainst 45 = .ok (.iconst 1, 1) := by decide +kernel
theorem dX5_reasonAgainst_46 : decode cX5_reasonAgainst 46 = .ok (.goto 18, 3) := by decide +kernel
theorem dX5_reasonAgainst_49 : decode cX5_reasonAgainst 49 = .ok (.aload_n 1, 1) := by decide +kernel
theorem dX5_reasonAgainst_50 : decode cX5_reasonAgainst 50 = .ok (.iload_n 2, 1) := by decide +kernel
theorem dX5_reasonAgainst_51 : decode cX5_reasonAgainst 51 = .ok (.ldc 55, 2) := by decide +kernel
theorem dX5_reasonAgainst_53 : decode cX5_reasonAgainst 53 = .ok (.invokevirtual 49, 3) := by decide +kernel
theorem dX5_reasonAgainst_56 : decode cX5_reasonAgainst 56 = .ok (.ifCond .eq 7, 3) := by decide +kernel
theorem dX5_reasonAgainst_59 : decode cX5_reasonAgainst 59 = .ok (.iconst 2, 1) := by decide +kernel
theorem dX5_reasonAgainst_60 : decode cX5_reasonAgainst 60 = .ok (.goto 4, 3) := by decide +kernel
theorem dX5_reasonAgainst_63 : decode cX5_reasonAgainst 63 = .ok (.iconst (-1), 1) := by decide +kernel
theorem dX5_reasonAgainst_64 : decode cX5_reasonAgainst 64 = .ok (.putfield 57, 3) := by decide +kernel
theorem dX5_reasonAgainst_67 : decode cX5_reasonAgainst 67 = .ok (.aload_n 0, 1) := by decide +kernel
theorem dX5_reasonAgainst_68 : decode cX5_reasonAgainst 68 = .ok (.getfield 57, 3) := by decide +kernel
theorem dX5_reasonAgainst_71 : decode cX5_reasonAgainst 71 = .ok (.iconst (-1), 1) := by decide +kernel
theorem dX5_reasonAgainst_72 : decode cX5_reasonAgainst 72 = .ok (.if_icmp .ne 5, 3) := by decide +kernel
theorem dX5_reasonAgainst_75 : decode cX5_reasonAgainst 75 = .ok (.iconst 3, 1) := by decide +kernel
theorem dX5_reasonAgainst_76 : decode cX5_reasonAgainst 76 = .ok (.ireturn, 1) := by decide +kernel
theorem dX5_reasonAgainst_77 : decode cX5_reasonAgainst 77 = .ok (.aload_n 1, 1) := by decide +kernel
theorem dX5_reasonAgainst_78 : decode cX5_reasonAgainst 78 = .ok (.aload_n 1, 1) := by decide +kernel
theorem dX5_reasonAgainst_79 : decode cX5_reasonAgainst 79 = .ok (.iconst 0, 1) := by decide +kernel
theorem dX5_reasonAgainst_80 : decode cX5_reasonAgainst 80 = .ok (.ldc 60, 2) := by decide +kernel
theorem dX5_reasonAgainst_82 : decode cX5_reasonAgainst 82 = .ok (.invokevirtual 43, 3) := by decide +kernel
theorem dX5_reasonAgainst_85 : decode cX5_reasonAgainst 85 = .ok (.invokevirtual 61, 3) := by decide +kernel
theorem dX5_reasonAgainst_88 : decode cX5_reasonAgainst 88 = .ok (.ifCond .eq 31, 3) := by decide +kernel
theorem dX5_reasonAgainst_91 : decode cX5_reasonAgainst 91 = .ok (.aload_n 1, 1) := by decide +kernel
theorem dX5_reasonAgainst_92 : decode cX5_reasonAgainst 92 = .ok (.aload_n 1, 1) := by decide +kernel
theorem dX5_reasonAgainst_93 : decode cX5_reasonAgainst 93 = .ok (.iconst 0, 1) := by decide +kernel
theorem dX5_reasonAgainst_94 : decode cX5_reasonAgainst 94 = .ok (.ldc 65, 2) := by decide +kernel
theorem dX5_reasonAgainst_96 : decode cX5_reasonAgainst 96 = .ok (.invokevirtual 43, 3) := by decide +kernel
theorem dX5_reasonAgainst_99 : decode cX5_reasonAgainst 99 = .ok (.invokevirtual 61, 3) := by decide +kernel
theorem dX5_reasonAgainst_102 : decode cX5_reasonAgainst 102 = .ok (.ifCond .eq 17, 3) := by decide +kernel
theorem dX5_reasonAgainst_105 : decode cX5_reasonAgainst 105 = .ok (.aload_n 1, 1) := by decide +kernel
theorem dX5_reasonAgainst_106 : decode cX5_reasonAgainst 106 = .ok (.aload_n 1, 1) := by decide +kernel
theorem dX5_reasonAgainst_107 : decode cX5_reasonAgainst 107 = .ok (.iconst 0, 1) := by decide +kernel
theorem dX5_reasonAgainst_108 : decode cX5_reasonAgainst 108 = .ok (.ldc 67, 2) := by decide +kernel
theorem dX5_reasonAgainst_110 : decode cX5_reasonAgainst 110 = .ok (.invokevirtual 43, 3) := by decide +kernel
theorem dX5_reasonAgainst_113 : decode cX5_reasonAgainst 113 = .ok (.invokevirtual 61, 3) := by decide +kernel
theorem dX5_reasonAgainst_116 : decode cX5_reasonAgainst 116 = .ok (.ifCond .ne 5, 3) := by decide +kernel
theorem dX5_reasonAgainst_119 : decode cX5_reasonAgainst 119 = .ok (.iconst 4, 1) := by decide +kernel
theorem dX5_reasonAgainst_120 : decode cX5_reasonAgainst 120 = .ok (.ireturn, 1) := by decide +kernel
theorem dX5_reasonAgainst_121 : decode cX5_reasonAgainst 121 = .ok (.aload_n 0, 1) := by decide +kernel
theorem dX5_reasonAgainst_122 : decode cX5_reasonAgainst 122 = .ok (.aload_n 0, 1) := by decide +kernel
theorem dX5_reasonAgainst_123 : decode cX5_reasonAgainst 123 = .ok (.getfield 57, 3) := by decide +kernel
theorem dX5_reasonAgainst_126 : decode cX5_reasonAgainst 126 = .ok (.ifCond .eq 18, 3) := by decide +kernel
theorem dX5_reasonAgainst_129 : decode cX5_reasonAgainst 129 = .ok (.aload_n 1, 1) := by decide +kernel
theorem dX5_reasonAgainst_130 : decode cX5_reasonAgainst 130 = .ok (.iconst 0, 1) := by decide +kernel
theorem dX5_reasonAgainst_131 : decode cX5_reasonAgainst 131 = .ok (.ldc 68, 2) := by decide +kernel
theorem dX5_reasonAgainst_133 : decode cX5_reasonAgainst 133 = .ok (.invokevirtual 43, 3) := by decide +kernel
theorem dX5_reasonAgainst_136 : decode cX5_reasonAgainst 136 = .ok (.iconst (-1), 1) := by decide +kernel
theorem dX5_reasonAgainst_137 : decode cX5_reasonAgainst 137 = .ok (.if_icmp .eq 7, 3) := by decide +kernel
theorem dX5_reasonAgainst_140 : decode cX5_reasonAgainst 140 = .ok (.iconst 1, 1) := by decide +kernel
theorem dX5_reasonAgainst_141 : decode cX5_reasonAgainst 141 = .ok (.goto 4, 3) := by decide +kernel
theorem dX5_reasonAgainst_144 : decode cX5_reasonAgainst 144 = .ok (.iconst 0, 1) := by decide +kernel
theorem dX5_reasonAgainst_145 : decode cX5_reasonAgainst 145 = .ok (.putfield 70, 3) := by decide +kernel
theorem dX5_reasonAgainst_148 : decode cX5_reasonAgainst 148 = .ok (.aload_n 0, 1) := by decide +kernel
theorem dX5_reasonAgainst_149 : decode cX5_reasonAgainst 149 = .ok (.aload_n 1, 1) := by decide +kernel
theorem dX5_reasonAgainst_150 : decode cX5_reasonAgainst 150 = .ok (.invokevirtual 74, 3) := by decide +kernel
theorem dX5_reasonAgainst_153 : decode cX5_reasonAgainst 153 = .ok (.ifCond .ne 5, 3) := by decide +kernel
theorem dX5_reasonAgainst_156 : decode cX5_reasonAgainst 156 = .ok (.iconst 5, 1) := by decide +kernel
theorem dX5_reasonAgainst_157 : decode cX5_reasonAgainst 157 = .ok (.ireturn, 1) := by decide +kernel
theorem dX5_reasonAgainst_158 : decode cX5_reasonAgainst 158 = .ok (.aload_n 0, 1) := by decide +kernel
theorem dX5_reasonAgainst_159 : decode cX5_reasonAgainst 159 = .ok (.getfield 22, 3) := by decide +kernel
theorem dX5_reasonAgainst_162 : decode cX5_reasonAgainst 162 = .ok (.invokevirtual 78, 3) := by decide +kernel
theorem dX5_reasonAgainst_165 : decode cX5_reasonAgainst 165 = .ok (.aload_n 0, 1) := by decide +kernel
theorem dX5_reasonAgainst_166 : decode cX5_reasonAgainst 166 = .ok (.getfield 26, 3) := by decide +kernel
theorem dX5_reasonAgainst_169 : decode cX5_reasonAgainst 169 = .ok (.invokevirtual 78, 3) := by decide +kernel
theorem dX5_reasonAgainst_172 : decode cX5_reasonAgainst 172 = .ok (.aload_n 0, 1) := by decide +kernel
theorem dX5_reasonAgainst_173 : decode cX5_reasonAgainst 173 = .ok (.getfield 29, 3) := by decide +kernel
theorem dX5_reasonAgainst_176 : decode cX5_reasonAgainst 176 = .ok (.invokevirtual 78, 3) := by decide +kernel
theorem dX5_reasonAgainst_179 : decode cX5_reasonAgainst 179 = .ok (.aload_n 0, 1) := by decide +kernel
theorem dX5_reasonAgainst_180 : decode cX5_reasonAgainst 180 = .ok (.getfield 57, 3) := by decide +kernel
theorem dX5_reasonAgainst_183 : decode cX5_reasonAgainst 183 = .ok (.ifCond .ne 25, 3) := by decide +kernel
theorem dX5_reasonAgainst_186 : decode cX5_reasonAgainst 186 = .ok (.aload_n 1, 1) := by decide +kernel
theorem dX5_reasonAgainst_187 : decode cX5_reasonAgainst 187 = .ok (.aload_n 1, 1) := by decide +kernel
theorem dX5_reasonAgainst_188 : decode cX5_reasonAgainst 188 = .ok (.iconst 0, 1) := by decide +kernel
theorem dX5_reasonAgainst_189 : decode cX5_reasonAgainst 189 = .ok (.ldc 81, 2) := by decide +kernel
theorem dX5_reasonAgainst_191 : decode cX5_reasonAgainst 191 = .ok (.invokevirtual 43, 3) := by decide +kernel
theorem dX5_reasonAgainst_194 : decode cX5_reasonAgainst 194 = .ok (.iconst 1, 1) := by decide +kernel
theorem dX5_reasonAgainst_195 : decode cX5_reasonAgainst 195 = .ok (.sipush 128, 3) := by decide +kernel
theorem dX5_reasonAgainst_198 : decode cX5_reasonAgainst 198 = .ok (.aload_n 0, 1) := by decide +kernel
theorem dX5_reasonAgainst_199 : decode cX5_reasonAgainst 199 = .ok (.getfield 22, 3) := by decide +kernel
theorem dX5_reasonAgainst_202 : decode cX5_reasonAgainst 202 = .ok (.invokevirtual 83, 3) := by decide +kernel
theorem dX5_reasonAgainst_205 : decode cX5_reasonAgainst 205 = .ok (.goto 44, 3) := by decide +kernel
theorem dX5_reasonAgainst_208 : decode cX5_reasonAgainst 208 = .ok (.aload_n 0, 1) := by decide +kernel
theorem dX5_reasonAgainst_209 : decode cX5_reasonAgainst 209 = .ok (.getfield 57, 3) := by decide +kernel
theorem dX5_reasonAgainst_212 : decode cX5_reasonAgainst 212 = .ok (.iconst 1, 1) := by decide +kernel
theorem dX5_reasonAgainst_213 : decode cX5_reasonAgainst 213 = .ok (.if_icmp .ne 11, 3) := by decide +kernel
theorem dX5_reasonAgainst_216 : decode cX5_reasonAgainst 216 = .ok (.aload_n 0, 1) := by decide +kernel
theorem dX5_reasonAgainst_217 : decode cX5_reasonAgainst 217 = .ok (.aload_n 1, 1) := by decide +kernel
theorem dX5_reasonAgainst_218 : decode cX5_reasonAgainst 218 = .ok (.invokevirtual 87, 3) := by decide +kernel
theorem dX5_reasonAgainst_221 : decode cX5_reasonAgainst 221 = .ok (.goto 28, 3) := by decide +kernel
theorem dX5_reasonAgainst_224 : decode cX5_reasonAgainst 224 = .ok (.aload_n 1, 1) := by decide +kernel
theorem dX5_reasonAgainst_225 : decode cX5_reasonAgainst 225 = .ok (.iconst 0, 1) := by decide +kernel
theorem dX5_reasonAgainst_226 : decode cX5_reasonAgainst 226 = .ok (.aload_n 0, 1) := by decide +kernel
theorem dX5_reasonAgainst_227 : decode cX5_reasonAgainst 227 = .ok (.getfield 22, 3) := by decide +kernel
theorem dX5_reasonAgainst_230 : decode cX5_reasonAgainst 230 = .ok (.invokestatic 90, 3) := by decide +kernel
theorem dX5_reasonAgainst_233 : decode cX5_reasonAgainst 233 = .ok (.ifCond .eq 15, 3) := by decide +kernel
theorem dX5_reasonAgainst_236 : decode cX5_reasonAgainst 236 = .ok (.aload_n 0, 1) := by decide +kernel
theorem dX5_reasonAgainst_237 : decode cX5_reasonAgainst 237 = .ok (.aload_n 1, 1) := by decide +kernel
theorem dX5_reasonAgainst_238 : decode cX5_reasonAgainst 238 = .ok (.invokevirtual 94, 3) := by decide +kernel
theorem dX5_reasonAgainst_241 : decode cX5_reasonAgainst 241 = .ok (.ifCond .eq 7, 3) := by decide +kernel
theorem dX5_reasonAgainst_244 : decode cX5_reasonAgainst 244 = .ok (.iconst 1, 1) := by decide +kernel
theorem dX5_reasonAgainst_245 : decode cX5_reasonAgainst 245 = .ok (.goto 4, 3) := by decide +kernel
theorem dX5_reasonAgainst_248 : decode cX5_reasonAgainst 248 = .ok (.iconst 0, 1) := by decide +kernel
theorem dX5_reasonAgainst_249 : decode cX5_reasonAgainst 249 = .ok (.istore_n 3, 1) := by decide +kernel
theorem dX5_reasonAgainst_250 : decode cX5_reasonAgainst 250 = .ok (.iload_n 3, 1) := by decide +kernel
theorem dX5_reasonAgainst_251 : decode cX5_reasonAgainst 251 = .ok (.ifCond .ne 6, 3) := by decide +kernel
theorem dX5_reasonAgainst_254 : decode cX5_reasonAgainst 254 = .ok (.bipush 6, 2) := by decide +kernel
theorem dX5_reasonAgainst_256 : decode cX5_reasonAgainst 256 = .ok (.ireturn, 1) := by decide +kernel
theorem dX5_reasonAgainst_257 : decode cX5_reasonAgainst 257 = .ok (.aload_n 0, 1) := by decide +kernel
theorem dX5_reasonAgainst_258 : decode cX5_reasonAgainst 258 = .ok (.aload_n 1, 1) := by decide +kernel
theorem dX5_reasonAgainst_259 : decode cX5_reasonAgainst 259 = .ok (.invokevirtual 97, 3) := by decide +kernel
theorem dX5_reasonAgainst_262 : decode cX5_reasonAgainst 262 = .ok (.iconst 0, 1) := by decide +kernel
theorem dX5_reasonAgainst_263 : decode cX5_reasonAgainst 263 = .ok (.ireturn, 1) := by decide +kernel
theorem mB_X5_reasonAgainst_251 {G : mG} {F : Nat} {r0 : Int32} {M0 : mM} {Z0 S0 : Nat} {l0 : Nat} {l1 : Nat} {sk0 : Int32} {M : mM} {sz : Nat} {sl : Nat} (h : B_X5_reasonAgainst_251 G F l0 l1 sk0 M sz sl = some (r0, M0, Z0, S0)) : sz ≤ Z0 ∧ sl ≤ S0 := by
  unfold B_X5_reasonAgainst_251 at h
  by_cases q : sk0 = 0
  · replace h := (if_pos q).symm.trans h
    have q := retA_p h
    omega
  · replace h := (if_neg q).symm.trans h
    obtain ⟨_, f259, h⟩ := bO_some h
    obtain ⟨M259, z259, k259, e259, h⟩ := bA_some h
    have g259 := mP_X5_takeUse e259
    have q := retA_p h
    omega
set_option maxHeartbeats 4000000 in
set_option maxRecDepth 100000 in
theorem wB_X5_reasonAgainst_251 {G : mG} {F : Nat} {x : mXT} {z0 s0 : Nat} {r0 : Int32} {M0 : mM} {Z0 S0 : Nat} (X : mCX G RX5 cX5_reasonAgainst 4 (some .int) "reasonAgainst" { frames := 8, cells := Z0 - z0, slots := S0 - s0, locals := 175 } x) (hQ : mQI x r0 M0 (Z0, Z0 - z0, S0 - s0)) {l0 : Nat} {l1 : Nat} {sk0 : Int32} {M : mM} {sz : Nat} {sl : Nat} (hz0 : z0 ≤ sz) (hs0 : s0 ≤ sl) (h : B_X5_reasonAgainst_251 G F l0 l1 sk0 M sz sl = some (r0, M0, Z0, S0)) : WW x (sz, sz - z0, sl - s0) M 251 [(0, .ref l0), (1, .ref l1)] [.int sk0] := by
  unfold B_X5_reasonAgainst_251 at h
  refine ww_if_ne 251 257 X dX5_reasonAgainst_251 (by decide) (fun q => ?_) (fun q => ?_)
  · replace h := (if_neg q).symm.trans h
    obtain ⟨_, f259, h⟩ := bO_some h
    obtain ⟨M259, z259, k259, e259, h⟩ := bA_some h
    have g259 := mP_X5_takeUse e259
    have q := retA_p h
    refine ww_aload_n 257 X dX5_reasonAgainst_257 0 rfl rfl ?_
    refine ww_aload_n 258 X dX5_reasonAgainst_258 1 rfl rfl ?_
    refine ww_callVVa 259 X (sz := sz) (sl := sl) (z0 := z0) (s0 := s0) dX5_reasonAgainst_259 mY_X5_takeUse mL_X5_97 (rcv_spec f259) ⟨_, _, rfl⟩ (by decide) (As := [.ref l1]) (rest := []) rfl rfl ⟨Nat.le_of_ble_eq_true rfl, Nat.le_of_ble_eq_true rfl⟩ (by omega) (by omega) (by omega) (by omega) (by show _ ≤ Z0 - z0; omega) (by show _ ≤ S0 - s0; omega) (Nat.le_of_ble_eq_true rfl) (fun l D A => c_X5_takeUse l D A e259) ?_
    refine ww_iconst 262 X (v := (0 : Int32)) dX5_reasonAgainst_262 (by decide) ?_
    exact ww_iretA 263 X hQ dX5_reasonAgainst_263 h
  · replace h := (if_pos q).symm.trans h
    have q := retA_p h
    refine ww_bipush 254 X (v := (6 : Int32)) dX5_reasonAgainst_254 (by decide) ?_
    exact ww_iretA 256 X hQ dX5_reasonAgainst_256 h
theorem mB_X5_reasonAgainst_241 {G : mG} {F : Nat} {r0 : Int32} {M0 : mM} {Z0 S0 : Nat} {l0 : Nat} {l1 : Nat} {sk0 : Int32} {M : mM} {sz : Nat} {sl : Nat} (h : B_X5_reasonAgainst_241 G F l0 l1 sk0 M sz sl = some (r0, M0, Z0, S0)) : sz ≤ Z0 ∧ sl ≤ S0 := by
  unfold B_X5_reasonAgainst_241 at h
  by_cases q : sk0 = 0
  · replace h := (if_pos q).symm.trans h
    have q := mB_X5_reasonAgainst_251 h
    omega
  · replace h := (if_neg q).symm.trans h
    have q := mB_X5_reasonAgainst_251 h
    omega
set_option maxHeartbeats 4000000 in
set_option maxRecDepth 100000 in
theorem wB_X5_reasonAgainst_241 {G : mG} {F : Nat} {x : mXT} {z0 s0 : Nat} {r0 : Int32} {M0 : mM} {Z0 S0 : Nat} (X : mCX G RX5 cX5_reasonAgainst 4 (some .int) "reasonAgainst" { frames := 8, cells := Z0 - z0, slots := S0 - s0, locals := 175 } x) (hQ : mQI x r0 M0 (Z0, Z0 - z0, S0 - s0)) {l0 : Nat} {l1 : Nat} {sk0 : Int32} {M : mM} {sz : Nat} {sl : Nat} (hz0 : z0 ≤ sz) (hs0 : s0 ≤ sl) (h : B_X5_reasonAgainst_241 G F l0 l1 sk0 M sz sl = some (r0, M0, Z0, S0)) : WW x (sz, sz - z0, sl - s0) M 241 [(0, .ref l0), (1, .ref l1)] [.int sk0] := by
  unfold B_X5_reasonAgainst_241 at h
  refine ww_if_eq 241 248 X dX5_reasonAgainst_241 (by decide) (fun q => ?_) (fun q => ?_)
  · replace h := (if_pos q).symm.trans h
    have q := mB_X5_reasonAgainst_251 h
    refine ww_iconst 248 X (v := (0 : Int32)) dX5_reasonAgainst_248 (by decide) ?_
    refine ww_istore_n 249 X dX5_reasonAgainst_249 (lv' := [(0, .ref l0), (1, .ref l1), (3, .int (0 : Int32))]) rfl (by decide) [1, 2, 0] rfl ?_
    refine ww_iload_n 250 X dX5_reasonAgainst_250 2 rfl rfl ?_
    exact ww_sub [0, 1] rfl (wB_X5_reasonAgainst_251 X hQ (by omega) (by omega) h)
  · replace h := (if_neg q).symm.trans h
    have q := mB_X5_reasonAgainst_251 h
    refine ww_iconst 244 X (v := (1 : Int32)) dX5_reasonAgainst_244 (by decide) ?_
    refine ww_goto 245 249 X dX5_reasonAgainst_245 (by decide) ?_
    refine ww_istore_n 249 X dX5_reasonAgainst_249 (lv' := [(0, .ref l0), (1, .ref l1), (3, .int (1 : Int32))]) rfl (by decide) [1, 2, 0] rfl ?_
    refine ww_iload_n 250 X dX5_reasonAgainst_250 2 rfl rfl ?_
    exact ww_sub [0, 1] rfl (wB_X5_reasonAgainst_251 X hQ (by omega) (by omega) h)
theorem mB_X5_reasonAgainst_233 {G : mG} {F : Nat} {r0 : Int32} {M0 : mM} {Z0 S0 : Nat} {l0 : Nat} {l1 : Nat} {sk0 : Int32} {M : mM} {sz : Nat} {sl : Nat} (h : B_X5_reasonAgainst_233 G F l0 l1 sk0 M sz sl = some (r0, M0, Z0, S0)) : sz ≤ Z0 ∧ sl ≤ S0 := by
  unfold B_X5_reasonAgainst_233 at h
  by_cases q : sk0 = 0
  · replace h := (if_pos q).symm.trans h
    have q := mB_X5_reasonAgainst_251 h
    omega
  · replace h := (if_neg q).symm.trans h
    obtain ⟨_, f238, h⟩ := bO_some h
    obtain ⟨v238, M238, e238, h⟩ := bP_some h
    have q := mB_X5_reasonAgainst_241 h
    omega
set_option maxHeartbeats 4000000 in
set_option maxRecDepth 100000 in
theorem wB_X5_reasonAgainst_233 {G : mG} {F : Nat} {x : mXT} {z0 s0 : Nat} {r0 : Int32} {M0 : mM} {Z0 S0 : Nat} (X : mCX G RX5 cX5_reasonAgainst 4 (some .int) "reasonAgainst" { frames := 8, cells := Z0 - z0, slots := S0 - s0, locals := 175 } x) (hQ : mQI x r0 M0 (Z0, Z0 - z0, S0 - s0)) {l0 : Nat} {l1 : Nat} {sk0 : Int32} {M : mM} {sz : Nat} {sl : Nat} (hz0 : z0 ≤ sz) (hs0 : s0 ≤ sl) (h : B_X5_reasonAgainst_233 G F l0 l1 sk0 M sz sl = some (r0, M0, Z0, S0)) : WW x (sz, sz - z0, sl - s0) M 233 [(0, .ref l0), (1, .ref l1)] [.int sk0] := by
  unfold B_X5_reasonAgainst_233 at h
  refine ww_if_eq 233 248 X dX5_reasonAgainst_233 (by decide) (fun q => ?_) (fun q => ?_)
  · replace h := (if_pos q).symm.trans h
    have q := mB_X5_reasonAgainst_251 h
    refine ww_iconst 248 X (v := (0 : Int32)) dX5_reasonAgainst_248 (by decide) ?_
    refine ww_istore_n 249 X dX5_reasonAgainst_249 (lv' := [(0, .ref l0), (1, .ref l1), (3, .int (0 : Int32))]) rfl (by decide) [1, 2, 0] rfl ?_
    refine ww_iload_n 250 X dX5_reasonAgainst_250 2 rfl rfl ?_
    exact ww_sub [0, 1] rfl (wB_X5_reasonAgainst_251 X hQ (by omega) (by omega) h)
  · replace h := (if_neg q).symm.trans h
    obtain ⟨_, f238, h⟩ := bO_some h
    obtain ⟨v238, M238, e238, h⟩ := bP_some h
    have q := mB_X5_reasonAgainst_241 h
    refine ww_aload_n 236 X dX5_reasonAgainst_236 0 rfl rfl ?_
    refine ww_aload_n 237 X dX5_reasonAgainst_237 1 rfl rfl ?_
    refine ww_callVIz 238 X (sz := sz) (sl := sl) (z0 := z0) (s0 := s0) dX5_reasonAgainst_238 mY_X5_takeCurveSecret mL_X5_94 (rcv_spec f238) ⟨_, _, rfl⟩ (by decide) (As := [.ref l1]) (rest := []) rfl rfl ⟨Nat.le_of_ble_eq_true rfl, Nat.le_of_ble_eq_true rfl⟩ (by show _ ≤ Z0 - z0; omega) (by show _ ≤ S0 - s0; omega) (Nat.le_of_ble_eq_true rfl) (fun l D A => c_X5_takeCurveSecret l D A e238) ?_
    exact (wB_X5_reasonAgainst_241 X hQ (by omega) (by omega) h)
theorem mB_X5_reasonAgainst_213 {G : mG} {F : Nat} {r0 : Int32} {M0 : mM} {Z0 S0 : Nat} {l0 : Nat} {l1 : Nat} {sk0 : Int32} {sk1 : Int32} {M : mM} {sz : Nat} {sl : Nat} (h : B_X5_reasonAgainst_213 G F l0 l1 sk0 sk1 M sz sl = some (r0, M0, Z0, S0)) : sz ≤ Z0 ∧ sl ≤ S0 := by
  unfold B_X5_reasonAgainst_213 at h
  by_cases q : sk0 = sk1
  · replace h := (if_pos q).symm.trans h
    obtain ⟨_, f218, h⟩ := bO_some h
    obtain ⟨v218, M218, e218, h⟩ := bP_some h
    have q := mB_X5_reasonAgainst_251 h
    omega
  · replace h := (if_neg q).symm.trans h
    obtain ⟨v227, e227, h⟩ := bO_some h
    obtain ⟨v230, M230, e230, h⟩ := bP_some h
    have q := mB_X5_reasonAgainst_233 h
    omega
set_option maxHeartbeats 4000000 in
set_option maxRecDepth 100000 in
theorem wB_X5_reasonAgainst_213 {G : mG} {F : Nat} {x : mXT} {z0 s0 : Nat} {r0 : Int32} {M0 : mM} {Z0 S0 : Nat} (X : mCX G RX5 cX5_reasonAgainst 4 (some .int) "reasonAgainst" { frames := 8, cells := Z0 - z0, slots := S0 - s0, locals := 175 } x) (hQ : mQI x r0 M0 (Z0, Z0 - z0, S0 - s0)) {l0 : Nat} {l1 : Nat} {sk0 : Int32} {sk1 : Int32} {M : mM} {sz : Nat} {sl : Nat} (hz0 : z0 ≤ sz) (hs0 : s0 ≤ sl) (h : B_X5_reasonAgainst_213 G F l0 l1 sk0 sk1 M sz sl = some (r0, M0, Z0, S0)) : WW x (sz, sz - z0, sl - s0) M 213 [(0, .ref l0), (1, .ref l1)] [.int sk1, .int sk0] := by
  unfold B_X5_reasonAgainst_213 at h
  refine ww_icmp_ne 213 224 X dX5_reasonAgainst_213 (by decide) (fun q => ?_) (fun q => ?_)
  · replace h := (if_neg q).symm.trans h
    obtain ⟨v227, e227, h⟩ := bO_some h
    obtain ⟨v230, M230, e230, h⟩ := bP_some h
    have q := mB_X5_reasonAgainst_233 h
    refine ww_aload_n 224 X dX5_reasonAgainst_224 1 rfl rfl ?_
    refine ww_iconst 225 X (v := (0 : Int32)) dX5_reasonAgainst_225 (by decide) ?_
    refine ww_aload_n 226 X dX5_reasonAgainst_226 0 rfl rfl ?_
    refine ww_getR 227 X dX5_reasonAgainst_227 fG_X5_22 e227 ?_
    refine ww_callSIz 230 X (sz := sz) (sl := sl) (z0 := z0) (s0 := s0) dX5_reasonAgainst_230 mY_X5_takePoint mL_X5_90 (As := [.ref l1, .int (0 : Int32), .ref v227]) (rest := []) rfl rfl ⟨Nat.le_of_ble_eq_true rfl, Nat.le_of_ble_eq_true rfl⟩ (by show _ ≤ Z0 - z0; omega) (by show _ ≤ S0 - s0; omega) (Nat.le_of_ble_eq_true rfl) (fun l D A => c_X5_takePoint l D A e230) ?_
    exact (wB_X5_reasonAgainst_233 X hQ (by omega) (by omega) h)
  · replace h := (if_pos q).symm.trans h
    obtain ⟨_, f218, h⟩ := bO_some h
    obtain ⟨v218, M218, e218, h⟩ := bP_some h
    have q := mB_X5_reasonAgainst_251 h
    refine ww_aload_n 216 X dX5_reasonAgainst_216 0 rfl rfl ?_
    refine ww_aload_n 217 X dX5_reasonAgainst_217 1 rfl rfl ?_
    refine ww_callVIz 218 X (sz := sz) (sl := sl) (z0 := z0) (s0 := s0) dX5_reasonAgainst_218 mY_X5_takeRsa mL_X5_87 (rcv_spec f218) ⟨_, _, rfl⟩ (by decide) (As := [.ref l1]) (rest := []) rfl rfl ⟨Nat.le_of_ble_eq_true rfl, Nat.le_of_ble_eq_true rfl⟩ (by show _ ≤ Z0 - z0; omega) (by show _ ≤ S0 - s0; omega) (Nat.le_of_ble_eq_true rfl) (fun l D A => c_X5_takeRsa l D A e218) ?_
    refine ww_goto 221 249 X dX5_reasonAgainst_221 (by decide) ?_
    refine ww_istore_n 249 X dX5_reasonAgainst_249 (lv' := [(0, .ref l0), (1, .ref l1), (3, .int v218)]) rfl (by decide) [1, 2, 0] rfl ?_
    refine ww_iload_n 250 X dX5_reasonAgainst_250 2 rfl rfl ?_
    exact ww_sub [0, 1] rfl (wB_X5_reasonAgainst_251 X hQ (by omega) (by omega) h)
theorem mB_X5_reasonAgainst_183 {G : mG} {F : Nat} {r0 : Int32} {M0 : mM} {Z0 S0 : Nat} {l0 : Nat} {l1 : Nat} {sk0 : Int32} {M : mM} {sz : Nat} {sl : Nat} (h : B_X5_reasonAgainst_183 G F l0 l1 sk0 M sz sl = some (r0, M0, Z0, S0)) : sz ≤ Z0 ∧ sl ≤ S0 := by
  unfold B_X5_reasonAgainst_183 at h
  by_cases q : sk0 = 0
  · replace h := (if_pos q).symm.trans h
    obtain ⟨_, f191, h⟩ := bO_some h
    obtain ⟨v191, M191, e191, h⟩ := bP_some h
    obtain ⟨v199, e199, h⟩ := bO_some h
    obtain ⟨_, f202, h⟩ := bO_some h
    obtain ⟨v202, M202, e202, h⟩ := bP_some h
    have q := mB_X5_reasonAgainst_251 h
    omega
  · replace h := (if_neg q).symm.trans h
    obtain ⟨v209, e209, h⟩ := bO_some h
    have q := mB_X5_reasonAgainst_213 h
    omega
set_option maxHeartbeats 4000000 in
set_option maxRecDepth 100000 in
theorem wB_X5_reasonAgainst_183 {G : mG} {F : Nat} {x : mXT} {z0 s0 : Nat} {r0 : Int32} {M0 : mM} {Z0 S0 : Nat} (X : mCX G RX5 cX5_reasonAgainst 4 (some .int) "reasonAgainst" { frames := 8, cells := Z0 - z0, slots := S0 - s0, locals := 175 } x) (hQ : mQI x r0 M0 (Z0, Z0 - z0, S0 - s0)) {l0 : Nat} {l1 : Nat} {sk0 : Int32} {M : mM} {sz : Nat} {sl : Nat} (hz0 : z0 ≤ sz) (hs0 : s0 ≤ sl) (h : B_X5_reasonAgainst_183 G F l0 l1 sk0 M sz sl = some (r0, M0, Z0, S0)) : WW x (sz, sz - z0, sl - s0) M 183 [(0, .ref l0), (1, .ref l1)] [.int sk0] := by
  unfold B_X5_reasonAgainst_183 at h
  refine ww_if_ne 183 208 X dX5_reasonAgainst_183 (by decide) (fun q => ?_) (fun q => ?_)
  · replace h := (if_neg q).symm.trans h
    obtain ⟨v209, e209, h⟩ := bO_some h
    have q := mB_X5_reasonAgainst_213 h
    refine ww_aload_n 208 X dX5_reasonAgainst_208 0 rfl rfl ?_
    refine ww_getI 209 X dX5_reasonAgainst_209 fG_X5_57 e209 ?_
    refine ww_iconst 212 X (v := (1 : Int32)) dX5_reasonAgainst_212 (by decide) ?_
    exact (wB_X5_reasonAgainst_213 X hQ (by omega) (by omega) h)
  · replace h := (if_pos q).symm.trans h
    obtain ⟨_, f191, h⟩ := bO_some h
    obtain ⟨v191, M191, e191, h⟩ := bP_some h
    obtain ⟨v199, e199, h⟩ := bO_some h
    obtain ⟨_, f202, h⟩ := bO_some h
    obtain ⟨v202, M202, e202, h⟩ := bP_some h
    have q := mB_X5_reasonAgainst_251 h
    refine ww_aload_n 186 X dX5_reasonAgainst_186 1 rfl rfl ?_
    refine ww_aload_n 187 X dX5_reasonAgainst_187 1 rfl rfl ?_
    refine ww_iconst 188 X (v := (0 : Int32)) dX5_reasonAgainst_188 (by decide) ?_
    refine ww_lds 189 X (j := 24) dX5_reasonAgainst_189 rfl ?_
    refine ww_callVIz 191 X (sz := sz) (sl := sl) (z0 := z0) (s0 := s0) dX5_reasonAgainst_191 mY_X9_find mL_X5_43 (rcv_spec f191) ⟨_, _, rfl⟩ (by decide) (As := [.int (0 : Int32), .ref (G.1 24)]) (rest := [.ref l1]) rfl rfl ⟨Nat.le_of_ble_eq_true rfl, Nat.le_of_ble_eq_true rfl⟩ (by show _ ≤ Z0 - z0; omega) (by show _ ≤ S0 - s0; omega) (Nat.le_of_ble_eq_true rfl) (fun l D A => c_X9_find l D A e191) ?_
    refine ww_iconst 194 X (v := (1 : Int32)) dX5_reasonAgainst_194 (by decide) ?_
    refine ww_sipush 195 X (v := (128 : Int32)) dX5_reasonAgainst_195 (by decide) ?_
    refine ww_aload_n 198 X dX5_reasonAgainst_198 0 rfl rfl ?_
    refine ww_getR 199 X dX5_reasonAgainst_199 fG_X5_22 e199 ?_
    refine ww_callVIz 202 X (sz := sz) (sl := sl) (z0 := z0) (s0 := s0) dX5_reasonAgainst_202 mY_X9_putLettered mL_X5_83 (rcv_spec f202) ⟨_, _, rfl⟩ (by decide) (As := [.int v191, .int (1 : Int32), .int (128 : Int32), .ref v199]) (rest := []) rfl rfl ⟨Nat.le_of_ble_eq_true rfl, Nat.le_of_ble_eq_true rfl⟩ (by show _ ≤ Z0 - z0; omega) (by show _ ≤ S0 - s0; omega) (Nat.le_of_ble_eq_true rfl) (fun l D A => c_X9_putLettered l D A e202) ?_
    refine ww_goto 205 249 X dX5_reasonAgainst_205 (by decide) ?_
    refine ww_istore_n 249 X dX5_reasonAgainst_249 (lv' := [(0, .ref l0), (1, .ref l1), (3, .int v202)]) rfl (by decide) [1, 2, 0] rfl ?_
    refine ww_iload_n 250 X dX5_reasonAgainst_250 2 rfl rfl ?_
    exact ww_sub [0, 1] rfl (wB_X5_reasonAgainst_251 X hQ (by omega) (by omega) h)
theorem mB_X5_reasonAgainst_153 {G : mG} {F : Nat} {r0 : Int32} {M0 : mM} {Z0 S0 : Nat} {l0 : Nat} {l1 : Nat} {sk0 : Int32} {M : mM} {sz : Nat} {sl : Nat} (h : B_X5_reasonAgainst_153 G F l0 l1 sk0 M sz sl = some (r0, M0, Z0, S0)) : sz ≤ Z0 ∧ sl ≤ S0 := by
  unfold B_X5_reasonAgainst_153 at h
  by_cases q : sk0 = 0
  · replace h := (if_pos q).symm.trans h
    have q := retA_p h
    omega
  · replace h := (if_neg q).symm.trans h
    obtain ⟨v159, e159, h⟩ := bO_some h
    obtain ⟨_, f162, h⟩ := bO_some h
    obtain ⟨M162, e162, h⟩ := bO_some h
    obtain ⟨v166, e166, h⟩ := bO_some h
    obtain ⟨_, f169, h⟩ := bO_some h
    obtain ⟨M169, e169, h⟩ := bO_some h
    obtain ⟨v173, e173, h⟩ := bO_some h
    obtain ⟨_, f176, h⟩ := bO_some h
    obtain ⟨M176, e176, h⟩ := bO_some h
    obtain ⟨v180, e180, h⟩ := bO_some h
    have q := mB_X5_reasonAgainst_183 h
    omega
set_option maxHeartbeats 4000000 in
set_option maxRecDepth 100000 in
theorem wB_X5_reasonAgainst_153 {G : mG} {F : Nat} {x : mXT} {z0 s0 : Nat} {r0 : Int32} {M0 : mM} {Z0 S0 : Nat} (X : mCX G RX5 cX5_reasonAgainst 4 (some .int) "reasonAgainst" { frames := 8, cells := Z0 - z0, slots := S0 - s0, locals := 175 } x) (hQ : mQI x r0 M0 (Z0, Z0 - z0, S0 - s0)) {l0 : Nat} {l1 : Nat} {sk0 : Int32} {M : mM} {sz : Nat} {sl : Nat} (hz0 : z0 ≤ sz) (hs0 : s0 ≤ sl) (h : B_X5_reasonAgainst_153 G F l0 l1 sk0 M sz sl = some (r0, M0, Z0, S0)) : WW x (sz, sz - z0, sl - s0) M 153 [(0, .ref l0), (1, .ref l1)] [.int sk0] := by
  unfold B_X5_reasonAgainst_153 at h
  refine ww_if_ne 153 158 X dX5_reasonAgainst_153 (by decide) (fun q => ?_) (fun q => ?_)
  · replace h := (if_neg q).symm.trans h
    obtain ⟨v159, e159, h⟩ := bO_some h
    obtain ⟨_, f162, h⟩ := bO_some h
    obtain ⟨M162, e162, h⟩ := bO_some h
    obtain ⟨v166, e166, h⟩ := bO_some h
    obtain ⟨_, f169, h⟩ := bO_some h
    obtain ⟨M169, e169, h⟩ := bO_some h
    obtain ⟨v173, e173, h⟩ := bO_some h
    obtain ⟨_, f176, h⟩ := bO_some h
    obtain ⟨M176, e176, h⟩ := bO_some h
    obtain ⟨v180, e180, h⟩ := bO_some h
    have q := mB_X5_reasonAgainst_183 h
    refine ww_aload_n 158 X dX5_reasonAgainst_158 0 rfl rfl ?_
    refine ww_getR 159 X dX5_reasonAgainst_159 fG_X5_22 e159 ?_
    refine ww_callVVz 162 X (sz := sz) (sl := sl) (z0 := z0) (s0 := s0) dX5_reasonAgainst_162 mY_X0_clear mL_X5_78 (rcv_spec f162) ⟨_, _, rfl⟩ (by decide) (As := []) (rest := []) rfl rfl ⟨Nat.le_of_ble_eq_true rfl, Nat.le_of_ble_eq_true rfl⟩ (by show _ ≤ Z0 - z0; omega) (by show _ ≤ S0 - s0; omega) (Nat.le_of_ble_eq_true rfl) (fun l D A => c_X0_clear l D A e162) ?_
    refine ww_aload_n 165 X dX5_reasonAgainst_165 0 rfl rfl ?_
    refine ww_getR 166 X dX5_reasonAgainst_166 fG_X5_26 e166 ?_
    refine ww_callVVz 169 X (sz := sz) (sl := sl) (z0 := z0) (s0 := s0) dX5_reasonAgainst_169 mY_X0_clear mL_X5_78 (rcv_spec f169) ⟨_, _, rfl⟩ (by decide) (As := []) (rest := []) rfl rfl ⟨Nat.le_of_ble_eq_true rfl, Nat.le_of_ble_eq_true rfl⟩ (by show _ ≤ Z0 - z0; omega) (by show _ ≤ S0 - s0; omega) (Nat.le_of_ble_eq_true rfl) (fun l D A => c_X0_clear l D A e169) ?_
    refine ww_aload_n 172 X dX5_reasonAgainst_172 0 rfl rfl ?_
    refine ww_getR 173 X dX5_reasonAgainst_173 fG_X5_29 e173 ?_
    refine ww_callVVz 176 X (sz := sz) (sl := sl) (z0 := z0) (s0 := s0) dX5_reasonAgainst_176 mY_X0_clear mL_X5_78 (rcv_spec f176) ⟨_, _, rfl⟩ (by decide) (As := []) (rest := []) rfl rfl ⟨Nat.le_of_ble_eq_true rfl, Nat.le_of_ble_eq_true rfl⟩ (by show _ ≤ Z0 - z0; omega) (by show _ ≤ S0 - s0; omega) (Nat.le_of_ble_eq_true rfl) (fun l D A => c_X0_clear l D A e176) ?_
    refine ww_aload_n 179 X dX5_reasonAgainst_179 0 rfl rfl ?_
    refine ww_getI 180 X dX5_reasonAgainst_180 fG_X5_57 e180 ?_
    exact (wB_X5_reasonAgainst_183 X hQ (by omega) (by omega) h)
  · replace h := (if_pos q).symm.trans h
    have q := retA_p h
    refine ww_iconst 156 X (v := (5 : Int32)) dX5_reasonAgainst_156 (by decide) ?_
    exact ww_iretA 157 X hQ dX5_reasonAgainst_157 h
theorem mB_X5_reasonAgainst_137 {G : mG} {F : Nat} {r0 : Int32} {M0 : mM} {Z0 S0 : Nat} {l0 : Nat} {l1 : Nat} {sk0 : Nat} {sk1 : Int32} {sk2 : Int32} {M : mM} {sz : Nat} {sl : Nat} (h : B_X5_reasonAgainst_137 G F l0 l1 sk0 sk1 sk2 M sz sl = some (r0, M0, Z0, S0)) : sz ≤ Z0 ∧ sl ≤ S0 := by
  unfold B_X5_reasonAgainst_137 at h
  by_cases q : sk1 = sk2
  · replace h := (if_pos q).symm.trans h
    obtain ⟨M145, e145, h⟩ := bO_some h
    obtain ⟨_, f150, h⟩ := bO_some h
    obtain ⟨v150, M150, e150, h⟩ := bP_some h
    have q := mB_X5_reasonAgainst_153 h
    omega
  · replace h := (if_neg q).symm.trans h
    obtain ⟨M145, e145, h⟩ := bO_some h
    obtain ⟨_, f150, h⟩ := bO_some h
    obtain ⟨v150, M150, e150, h⟩ := bP_some h
    have q := mB_X5_reasonAgainst_153 h
    omega
set_option maxHeartbeats 4000000 in
set_option maxRecDepth 100000 in
theorem wB_X5_reasonAgainst_137 {G : mG} {F : Nat} {x : mXT} {z0 s0 : Nat} {r0 : Int32} {M0 : mM} {Z0 S0 : Nat} (X : mCX G RX5 cX5_reasonAgainst 4 (some .int) "reasonAgainst" { frames := 8, cells := Z0 - z0, slots := S0 - s0, locals := 175 } x) (hQ : mQI x r0 M0 (Z0, Z0 - z0, S0 - s0)) {l0 : Nat} {l1 : Nat} {sk0 : Nat} {sk1 : Int32} {sk2 : Int32} {M : mM} {sz : Nat} {sl : Nat} (hz0 : z0 ≤ sz) (hs0 : s0 ≤ sl) (h : B_X5_reasonAgainst_137 G F l0 l1 sk0 sk1 sk2 M sz sl = some (r0, M0, Z0, S0)) : WW x (sz, sz - z0, sl - s0) M 137 [(0, .ref l0), (1, .ref l1)] [.int sk2, .int sk1, .ref sk0] := by
  unfold B_X5_reasonAgainst_137 at h
  refine ww_icmp_eq 137 144 X dX5_reasonAgainst_137 (by decide) (fun q => ?_) (fun q => ?_)
  · replace h := (if_pos q).symm.trans h
    obtain ⟨M145, e145, h⟩ := bO_some h
    obtain ⟨_, f150, h⟩ := bO_some h
    obtain ⟨v150, M150, e150, h⟩ := bP_some h
    have q := mB_X5_reasonAgainst_153 h
    refine ww_iconst 144 X (v := (0 : Int32)) dX5_reasonAgainst_144 (by decide) ?_
    refine ww_putZ 145 X dX5_reasonAgainst_145 (fP_X5_70 _) e145 ?_
    refine ww_aload_n 148 X dX5_reasonAgainst_148 0 rfl rfl ?_
    refine ww_aload_n 149 X dX5_reasonAgainst_149 1 rfl rfl ?_
    refine ww_callVIz 150 X (sz := sz) (sl := sl) (z0 := z0) (s0 := s0) dX5_reasonAgainst_150 mY_X5_areLettersThere mL_X5_74 (rcv_spec f150) ⟨_, _, rfl⟩ (by decide) (As := [.ref l1]) (rest := []) rfl rfl ⟨Nat.le_of_ble_eq_true rfl, Nat.le_of_ble_eq_true rfl⟩ (by show _ ≤ Z0 - z0; omega) (by show _ ≤ S0 - s0; omega) (Nat.le_of_ble_eq_true rfl) (fun l D A => c_X5_areLettersThere l D A e150) ?_
    exact (wB_X5_reasonAgainst_153 X hQ (by omega) (by omega) h)
  · replace h := (if_neg q).symm.trans h
    obtain ⟨M145, e145, h⟩ := bO_some h
    obtain ⟨_, f150, h⟩ := bO_some h
    obtain ⟨v150, M150, e150, h⟩ := bP_some h
    have q := mB_X5_reasonAgainst_153 h
    refine ww_iconst 140 X (v := (1 : Int32)) dX5_reasonAgainst_140 (by decide) ?_
    refine ww_goto 141 145 X dX5_reasonAgainst_141 (by decide) ?_
    refine ww_putZ 145 X dX5_reasonAgainst_145 (fP_X5_70 _) e145 ?_
    refine ww_aload_n 148 X dX5_reasonAgainst_148 0 rfl rfl ?_
    refine ww_aload_n 149 X dX5_reasonAgainst_149 1 rfl rfl ?_
    refine ww_callVIz 150 X (sz := sz) (sl := sl) (z0 := z0) (s0 := s0) dX5_reasonAgainst_150 mY_X5_areLettersThere mL_X5_74 (rcv_spec f150) ⟨_, _, rfl⟩ (by decide) (As := [.ref l1]) (rest := []) rfl rfl ⟨Nat.le_of_ble_eq_true rfl, Nat.le_of_ble_eq_true rfl⟩ (by show _ ≤ Z0 - z0; omega) (by show _ ≤ S0 - s0; omega) (Nat.le_of_ble_eq_true rfl) (fun l D A => c_X5_areLettersThere l D A e150) ?_
    exact (wB_X5_reasonAgainst_153 X hQ (by omega) (by omega) h)
theorem mB_X5_reasonAgainst_126 {G : mG} {F : Nat} {r0 : Int32} {M0 : mM} {Z0 S0 : Nat} {l0 : Nat} {l1 : Nat} {sk0 : Nat} {sk1 : Int32} {M : mM} {sz : Nat} {sl : Nat} (h : B_X5_reasonAgainst_126 G F l0 l1 sk0 sk1 M sz sl = some (r0, M0, Z0, S0)) : sz ≤ Z0 ∧ sl ≤ S0 := by
  unfold B_X5_reasonAgainst_126 at h
  by_cases q : sk1 = 0
  · replace h := (if_pos q).symm.trans h
    obtain ⟨M145, e145, h⟩ := bO_some h
    obtain ⟨_, f150, h⟩ := bO_some h
    obtain ⟨v150, M150, e150, h⟩ := bP_some h
    have q := mB_X5_reasonAgainst_153 h
    omega
  · replace h := (if_neg q).symm.trans h
    obtain ⟨_, f133, h⟩ := bO_some h
    obtain ⟨v133, M133, e133, h⟩ := bP_some h
    have q := mB_X5_reasonAgainst_137 h
    omega
set_option maxHeartbeats 4000000 in
set_option maxRecDepth 100000 in
theorem wB_X5_reasonAgainst_126 {G : mG} {F : Nat} {x : mXT} {z0 s0 : Nat} {r0 : Int32} {M0 : mM} {Z0 S0 : Nat} (X : mCX G RX5 cX5_reasonAgainst 4 (some .int) "reasonAgainst" { frames := 8, cells := Z0 - z0, slots := S0 - s0, locals := 175 } x) (hQ : mQI x r0 M0 (Z0, Z0 - z0, S0 - s0)) {l0 : Nat} {l1 : Nat} {sk0 : Nat} {sk1 : Int32} {M : mM} {sz : Nat} {sl : Nat} (hz0 : z0 ≤ sz) (hs0 : s0 ≤ sl) (h : B_X5_reasonAgainst_126 G F l0 l1 sk0 sk1 M sz sl = some (r0, M0, Z0, S0)) : WW x (sz, sz - z0, sl - s0) M 126 [(0, .ref l0), (1, .ref l1)] [.int sk1, .ref sk0] := by
  unfold B_X5_reasonAgainst_126 at h
  refine ww_if_eq 126 144 X dX5_reasonAgainst_126 (by decide) (fun q => ?_) (fun q => ?_)
  · replace h := (if_pos q).symm.trans h
    obtain ⟨M145, e145, h⟩ := bO_some h
    obtain ⟨_, f150, h⟩ := bO_some h
    obtain ⟨v150, M150, e150, h⟩ := bP_some h
    have q := mB_X5_reasonAgainst_153 h
    refine ww_iconst 144 X (v := (0 : Int32)) dX5_reasonAgainst_144 (by decide) ?_
    refine ww_putZ 145 X dX5_reasonAgainst_145 (fP_X5_70 _) e145 ?_
    refine ww_aload_n 148 X dX5_reasonAgainst_148 0 rfl rfl ?_
    refine ww_aload_n 149 X dX5_reasonAgainst_149 1 rfl rfl ?_
    refine ww_callVIz 150 X (sz := sz) (sl := sl) (z0 := z0) (s0 := s0) dX5_reasonAgainst_150 mY_X5_areLettersThere mL_X5_74 (rcv_spec f150) ⟨_, _, rfl⟩ (by decide) (As := [.ref l1]) (rest := []) rfl rfl ⟨Nat.le_of_ble_eq_true rfl, Nat.le_of_ble_eq_true rfl⟩ (by show _ ≤ Z0 - z0; omega) (by show _ ≤ S0 - s0; omega) (Nat.le_of_ble_eq_true rfl) (fun l D A => c_X5_areLettersThere l D A e150) ?_
    exact (wB_X5_reasonAgainst_153 X hQ (by omega) (by omega) h)
  · replace h := (if_neg q).symm.trans h
    obtain ⟨_, f133, h⟩ := bO_some h
    obtain ⟨v133, M133, e133, h⟩ := bP_some h
    have q := mB_X5_reasonAgainst_137 h
    refine ww_aload_n 129 X dX5_reasonAgainst_129 1 rfl rfl ?_
    refine ww_iconst 130 X (v := (0 : Int32)) dX5_reasonAgainst_130 (by decide) ?_
    refine ww_lds 131 X (j := 23) dX5_reasonAgainst_131 rfl ?_
    refine ww_callVIz 133 X (sz := sz) (sl := sl) (z0 := z0) (s0 := s0) dX5_reasonAgainst_133 mY_X9_find mL_X5_43 (rcv_spec f133) ⟨_, _, rfl⟩ (by decide) (As := [.int (0 : Int32), .ref (G.1 23)]) (rest := [.ref sk0]) rfl rfl ⟨Nat.le_of_ble_eq_true rfl, Nat.le_of_ble_eq_true rfl⟩ (by show _ ≤ Z0 - z0; omega) (by show _ ≤ S0 - s0; omega) (Nat.le_of_ble_eq_true rfl) (fun l D A => c_X9_find l D A e133) ?_
    refine ww_iconst 136 X (v := (-1 : Int32)) dX5_reasonAgainst_136 (by decide) ?_
    exact (wB_X5_reasonAgainst_137 X hQ (by omega) (by omega) h)
theorem mB_X5_reasonAgainst_116 {G : mG} {F : Nat} {r0 : Int32} {M0 : mM} {Z0 S0 : Nat} {l0 : Nat} {l1 : Nat} {sk0 : Int32} {M : mM} {sz : Nat} {sl : Nat} (h : B_X5_reasonAgainst_116 G F l0 l1 sk0 M sz sl = some (r0, M0, Z0, S0)) : sz ≤ Z0 ∧ sl ≤ S0 := by
  unfold B_X5_reasonAgainst_116 at h
  by_cases q : sk0 = 0
  · replace h := (if_pos q).symm.trans h
    have q := retA_p h
    omega
  · replace h := (if_neg q).symm.trans h
    obtain ⟨v123, e123, h⟩ := bO_some h
    have q := mB_X5_reasonAgainst_126 h
    omega
set_option maxHeartbeats 4000000 in
set_option maxRecDepth 100000 in
theorem wB_X5_reasonAgainst_116 {G : mG} {F : Nat} {x : mXT} {z0 s0 : Nat} {r0 : Int32} {M0 : mM} {Z0 S0 : Nat} (X : mCX G RX5 cX5_reasonAgainst 4 (some .int) "reasonAgainst" { frames := 8, cells := Z0 - z0, slots := S0 - s0, locals := 175 } x) (hQ : mQI x r0 M0 (Z0, Z0 - z0, S0 - s0)) {l0 : Nat} {l1 : Nat} {sk0 : Int32} {M : mM} {sz : Nat} {sl : Nat} (hz0 : z0 ≤ sz) (hs0 : s0 ≤ sl) (h : B_X5_reasonAgainst_116 G F l0 l1 sk0 M sz sl = some (r0, M0, Z0, S0)) : WW x (sz, sz - z0, sl - s0) M 116 [(0, .ref l0), (1, .ref l1)] [.int sk0] := by
  unfold B_X5_reasonAgainst_116 at h
  refine ww_if_ne 116 121 X dX5_reasonAgainst_116 (by decide) (fun q => ?_) (fun q => ?_)
  · replace h := (if_neg q).symm.trans h
    obtain ⟨v123, e123, h⟩ := bO_some h
    have q := mB_X5_reasonAgainst_126 h
    refine ww_aload_n 121 X dX5_reasonAgainst_121 0 rfl rfl ?_
    refine ww_aload_n 122 X dX5_reasonAgainst_122 0 rfl rfl ?_
    refine ww_getI 123 X dX5_reasonAgainst_123 fG_X5_57 e123 ?_
    exact (wB_X5_reasonAgainst_126 X hQ (by omega) (by omega) h)
  · replace h := (if_pos q).symm.trans h
    have q := retA_p h
    refine ww_iconst 119 X (v := (4 : Int32)) dX5_reasonAgainst_119 (by decide) ?_
    exact ww_iretA 120 X hQ dX5_reasonAgainst_120 h
theorem mB_X5_reasonAgainst_102 {G : mG} {F : Nat} {r0 : Int32} {M0 : mM} {Z0 S0 : Nat} {l0 : Nat} {l1 : Nat} {sk0 : Int32} {M : mM} {sz : Nat} {sl : Nat} (h : B_X5_reasonAgainst_102 G F l0 l1 sk0 M sz sl = some (r0, M0, Z0, S0)) : sz ≤ Z0 ∧ sl ≤ S0 := by
  unfold B_X5_reasonAgainst_102 at h
  by_cases q : sk0 = 0
  · replace h := (if_pos q).symm.trans h
    have q := retA_p h
    omega
  · replace h := (if_neg q).symm.trans h
    obtain ⟨_, f110, h⟩ := bO_some h
    obtain ⟨v110, M110, e110, h⟩ := bP_some h
    obtain ⟨_, f113, h⟩ := bO_some h
    obtain ⟨v113, M113, e113, h⟩ := bP_some h
    have q := mB_X5_reasonAgainst_116 h
    omega
set_option maxHeartbeats 4000000 in
set_option maxRecDepth 100000 in
theorem wB_X5_reasonAgainst_102 {G : mG} {F : Nat} {x : mXT} {z0 s0 : Nat} {r0 : Int32} {M0 : mM} {Z0 S0 : Nat} (X : mCX G RX5 cX5_reasonAgainst 4 (some .int) "reasonAgainst" { frames := 8, cells := Z0 - z0, slots := S0 - s0, locals := 175 } x) (hQ : mQI x r0 M0 (Z0, Z0 - z0, S0 - s0)) {l0 : Nat} {l1 : Nat} {sk0 : Int32} {M : mM} {sz : Nat} {sl : Nat} (hz0 : z0 ≤ sz) (hs0 : s0 ≤ sl) (h : B_X5_reasonAgainst_102 G F l0 l1 sk0 M sz sl = some (r0, M0, Z0, S0)) : WW x (sz, sz - z0, sl - s0) M 102 [(0, .ref l0), (1, .ref l1)] [.int sk0] := by
  unfold B_X5_reasonAgainst_102 at h
  refine ww_if_eq 102 119 X dX5_reasonAgainst_102 (by decide) (fun q => ?_) (fun q => ?_)
  · replace h := (if_pos q).symm.trans h
    have q := retA_p h
    refine ww_iconst 119 X (v := (4 : Int32)) dX5_reasonAgainst_119 (by decide) ?_
    exact ww_iretA 120 X hQ dX5_reasonAgainst_120 h
  · replace h := (if_neg q).symm.trans h
    obtain ⟨_, f110, h⟩ := bO_some h
    obtain ⟨v110, M110, e110, h⟩ := bP_some h
    obtain ⟨_, f113, h⟩ := bO_some h
    obtain ⟨v113, M113, e113, h⟩ := bP_some h
    have q := mB_X5_reasonAgainst_116 h
    refine ww_aload_n 105 X dX5_reasonAgainst_105 1 rfl rfl ?_
    refine ww_aload_n 106 X dX5_reasonAgainst_106 1 rfl rfl ?_
    refine ww_iconst 107 X (v := (0 : Int32)) dX5_reasonAgainst_107 (by decide) ?_
    refine ww_lds 108 X (j := 22) dX5_reasonAgainst_108 rfl ?_
    refine ww_callVIz 110 X (sz := sz) (sl := sl) (z0 := z0) (s0 := s0) dX5_reasonAgainst_110 mY_X9_find mL_X5_43 (rcv_spec f110) ⟨_, _, rfl⟩ (by decide) (As := [.int (0 : Int32), .ref (G.1 22)]) (rest := [.ref l1]) rfl rfl ⟨Nat.le_of_ble_eq_true rfl, Nat.le_of_ble_eq_true rfl⟩ (by show _ ≤ Z0 - z0; omega) (by show _ ≤ S0 - s0; omega) (Nat.le_of_ble_eq_true rfl) (fun l D A => c_X9_find l D A e110) ?_
    refine ww_callVIz 113 X (sz := sz) (sl := sl) (z0 := z0) (s0 := s0) dX5_reasonAgainst_113 mY_X9_isStringOrNone mL_X5_61 (rcv_spec f113) ⟨_, _, rfl⟩ (by decide) (As := [.int v110]) (rest := []) rfl rfl ⟨Nat.le_of_ble_eq_true rfl, Nat.le_of_ble_eq_true rfl⟩ (by show _ ≤ Z0 - z0; omega) (by show _ ≤ S0 - s0; omega) (Nat.le_of_ble_eq_true rfl) (fun l D A => c_X9_isStringOrNone l D A e113) ?_
    exact (wB_X5_reasonAgainst_116 X hQ (by omega) (by omega) h)
theorem mB_X5_reasonAgainst_88 {G : mG} {F : Nat} {r0 : Int32} {M0 : mM} {Z0 S0 : Nat} {l0 : Nat} {l1 : Nat} {sk0 : Int32} {M : mM} {sz : Nat} {sl : Nat} (h : B_X5_reasonAgainst_88 G F l0 l1 sk0 M sz sl = some (r0, M0, Z0, S0)) : sz ≤ Z0 ∧ sl ≤ S0 := by
  unfold B_X5_reasonAgainst_88 at h
  by_cases q : sk0 = 0
  · replace h := (if_pos q).symm.trans h
    have q := retA_p h
    omega
  · replace h := (if_neg q).symm.trans h
    obtain ⟨_, f96, h⟩ := bO_some h
    obtain ⟨v96, M96, e96, h⟩ := bP_some h
    obtain ⟨_, f99, h⟩ := bO_some h
    obtain ⟨v99, M99, e99, h⟩ := bP_some h
    have q := mB_X5_reasonAgainst_102 h
    omega
set_option maxHeartbeats 4000000 in
set_option maxRecDepth 100000 in
theorem wB_X5_reasonAgainst_88 {G : mG} {F : Nat} {x : mXT} {z0 s0 : Nat} {r0 : Int32} {M0 : mM} {Z0 S0 : Nat} (X : mCX G RX5 cX5_reasonAgainst 4 (some .int) "reasonAgainst" { frames := 8, cells := Z0 - z0, slots := S0 - s0, locals := 175 } x) (hQ : mQI x r0 M0 (Z0, Z0 - z0, S0 - s0)) {l0 : Nat} {l1 : Nat} {sk0 : Int32} {M : mM} {sz : Nat} {sl : Nat} (hz0 : z0 ≤ sz) (hs0 : s0 ≤ sl) (h : B_X5_reasonAgainst_88 G F l0 l1 sk0 M sz sl = some (r0, M0, Z0, S0)) : WW x (sz, sz - z0, sl - s0) M 88 [(0, .ref l0), (1, .ref l1)] [.int sk0] := by
  unfold B_X5_reasonAgainst_88 at h
  refine ww_if_eq 88 119 X dX5_reasonAgainst_88 (by decide) (fun q => ?_) (fun q => ?_)
  · replace h := (if_pos q).symm.trans h
    have q := retA_p h
    refine ww_iconst 119 X (v := (4 : Int32)) dX5_reasonAgainst_119 (by decide) ?_
    exact ww_iretA 120 X hQ dX5_reasonAgainst_120 h
  · replace h := (if_neg q).symm.trans h
    obtain ⟨_, f96, h⟩ := bO_some h
    obtain ⟨v96, M96, e96, h⟩ := bP_some h
    obtain ⟨_, f99, h⟩ := bO_some h
    obtain ⟨v99, M99, e99, h⟩ := bP_some h
    have q := mB_X5_reasonAgainst_102 h
    refine ww_aload_n 91 X dX5_reasonAgainst_91 1 rfl rfl ?_
    refine ww_aload_n 92 X dX5_reasonAgainst_92 1 rfl rfl ?_
    refine ww_iconst 93 X (v := (0 : Int32)) dX5_reasonAgainst_93 (by decide) ?_
    refine ww_lds 94 X (j := 21) dX5_reasonAgainst_94 rfl ?_
    refine ww_callVIz 96 X (sz := sz) (sl := sl) (z0 := z0) (s0 := s0) dX5_reasonAgainst_96 mY_X9_find mL_X5_43 (rcv_spec f96) ⟨_, _, rfl⟩ (by decide) (As := [.int (0 : Int32), .ref (G.1 21)]) (rest := [.ref l1]) rfl rfl ⟨Nat.le_of_ble_eq_true rfl, Nat.le_of_ble_eq_true rfl⟩ (by show _ ≤ Z0 - z0; omega) (by show _ ≤ S0 - s0; omega) (Nat.le_of_ble_eq_true rfl) (fun l D A => c_X9_find l D A e96) ?_
    refine ww_callVIz 99 X (sz := sz) (sl := sl) (z0 := z0) (s0 := s0) dX5_reasonAgainst_99 mY_X9_isStringOrNone mL_X5_61 (rcv_spec f99) ⟨_, _, rfl⟩ (by decide) (As := [.int v96]) (rest := []) rfl rfl ⟨Nat.le_of_ble_eq_true rfl, Nat.le_of_ble_eq_true rfl⟩ (by show _ ≤ Z0 - z0; omega) (by show _ ≤ S0 - s0; omega) (Nat.le_of_ble_eq_true rfl) (fun l D A => c_X9_isStringOrNone l D A e99) ?_
    exact (wB_X5_reasonAgainst_102 X hQ (by omega) (by omega) h)
theorem mB_X5_reasonAgainst_72 {G : mG} {F : Nat} {r0 : Int32} {M0 : mM} {Z0 S0 : Nat} {l0 : Nat} {l1 : Nat} {sk0 : Int32} {sk1 : Int32} {M : mM} {sz : Nat} {sl : Nat} (h : B_X5_reasonAgainst_72 G F l0 l1 sk0 sk1 M sz sl = some (r0, M0, Z0, S0)) : sz ≤ Z0 ∧ sl ≤ S0 := by
  unfold B_X5_reasonAgainst_72 at h
  by_cases q : sk0 = sk1
  · replace h := (if_pos q).symm.trans h
    have q := retA_p h
    omega
  · replace h := (if_neg q).symm.trans h
    obtain ⟨_, f82, h⟩ := bO_some h
    obtain ⟨v82, M82, e82, h⟩ := bP_some h
    obtain ⟨_, f85, h⟩ := bO_some h
    obtain ⟨v85, M85, e85, h⟩ := bP_some h
    have q := mB_X5_reasonAgainst_88 h
    omega
set_option maxHeartbeats 4000000 in
set_option maxRecDepth 100000 in
theorem wB_X5_reasonAgainst_72 {G : mG} {F : Nat} {x : mXT} {z0 s0 : Nat} {r0 : Int32} {M0 : mM} {Z0 S0 : Nat} (X : mCX G RX5 cX5_reasonAgainst 4 (some .int) "reasonAgainst" { frames := 8, cells := Z0 - z0, slots := S0 - s0, locals := 175 } x) (hQ : mQI x r0 M0 (Z0, Z0 - z0, S0 - s0)) {l0 : Nat} {l1 : Nat} {sk0 : Int32} {sk1 : Int32} {M : mM} {sz : Nat} {sl : Nat} (hz0 : z0 ≤ sz) (hs0 : s0 ≤ sl) (h : B_X5_reasonAgainst_72 G F l0 l1 sk0 sk1 M sz sl = some (r0, M0, Z0, S0)) : WW x (sz, sz - z0, sl - s0) M 72 [(0, .ref l0), (1, .ref l1)] [.int sk1, .int sk0] := by
  unfold B_X5_reasonAgainst_72 at h
  refine ww_icmp_ne 72 77 X dX5_reasonAgainst_72 (by decide) (fun q => ?_) (fun q => ?_)
  · replace h := (if_neg q).symm.trans h
    obtain ⟨_, f82, h⟩ := bO_some h
    obtain ⟨v82, M82, e82, h⟩ := bP_some h
    obtain ⟨_, f85, h⟩ := bO_some h
    obtain ⟨v85, M85, e85, h⟩ := bP_some h
    have q := mB_X5_reasonAgainst_88 h
    refine ww_aload_n 77 X dX5_reasonAgainst_77 1 rfl rfl ?_
    refine ww_aload_n 78 X dX5_reasonAgainst_78 1 rfl rfl ?_
    refine ww_iconst 79 X (v := (0 : Int32)) dX5_reasonAgainst_79 (by decide) ?_
    refine ww_lds 80 X (j := 20) dX5_reasonAgainst_80 rfl ?_
    refine ww_callVIz 82 X (sz := sz) (sl := sl) (z0 := z0) (s0 := s0) dX5_reasonAgainst_82 mY_X9_find mL_X5_43 (rcv_spec f82) ⟨_, _, rfl⟩ (by decide) (As := [.int (0 : Int32), .ref (G.1 20)]) (rest := [.ref l1]) rfl rfl ⟨Nat.le_of_ble_eq_true rfl, Nat.le_of_ble_eq_true rfl⟩ (by show _ ≤ Z0 - z0; omega) (by show _ ≤ S0 - s0; omega) (Nat.le_of_ble_eq_true rfl) (fun l D A => c_X9_find l D A e82) ?_
    refine ww_callVIz 85 X (sz := sz) (sl := sl) (z0 := z0) (s0 := s0) dX5_reasonAgainst_85 mY_X9_isStringOrNone mL_X5_61 (rcv_spec f85) ⟨_, _, rfl⟩ (by decide) (As := [.int v82]) (rest := []) rfl rfl ⟨Nat.le_of_ble_eq_true rfl, Nat.le_of_ble_eq_true rfl⟩ (by show _ ≤ Z0 - z0; omega) (by show _ ≤ S0 - s0; omega) (Nat.le_of_ble_eq_true rfl) (fun l D A => c_X9_isStringOrNone l D A e85) ?_
    exact (wB_X5_reasonAgainst_88 X hQ (by omega) (by omega) h)
  · replace h := (if_pos q).symm.trans h
    have q := retA_p h
    refine ww_iconst 75 X (v := (3 : Int32)) dX5_reasonAgainst_75 (by decide) ?_
    exact ww_iretA 76 X hQ dX5_reasonAgainst_76 h
theorem mB_X5_reasonAgainst_56 {G : mG} {F : Nat} {r0 : Int32} {M0 : mM} {Z0 S0 : Nat} {l0 : Nat} {l1 : Nat} {sk0 : Nat} {sk1 : Int32} {M : mM} {sz : Nat} {sl : Nat} (h : B_X5_reasonAgainst_56 G F l0 l1 sk0 sk1 M sz sl = some (r0, M0, Z0, S0)) : sz ≤ Z0 ∧ sl ≤ S0 := by
  unfold B_X5_reasonAgainst_56 at h
  by_cases q : sk1 = 0
  · replace h := (if_pos q).symm.trans h
    obtain ⟨M64, e64, h⟩ := bO_some h
    obtain ⟨v68, e68, h⟩ := bO_some h
    have q := mB_X5_reasonAgainst_72 h
    omega
  · replace h := (if_neg q).symm.trans h
    obtain ⟨M64, e64, h⟩ := bO_some h
    obtain ⟨v68, e68, h⟩ := bO_some h
    have q := mB_X5_reasonAgainst_72 h
    omega
set_option maxHeartbeats 4000000 in
set_option maxRecDepth 100000 in
theorem wB_X5_reasonAgainst_56 {G : mG} {F : Nat} {x : mXT} {z0 s0 : Nat} {r0 : Int32} {M0 : mM} {Z0 S0 : Nat} (X : mCX G RX5 cX5_reasonAgainst 4 (some .int) "reasonAgainst" { frames := 8, cells := Z0 - z0, slots := S0 - s0, locals := 175 } x) (hQ : mQI x r0 M0 (Z0, Z0 - z0, S0 - s0)) {l0 : Nat} {l1 : Nat} {sk0 : Nat} {sk1 : Int32} {M : mM} {sz : Nat} {sl : Nat} (hz0 : z0 ≤ sz) (hs0 : s0 ≤ sl) (h : B_X5_reasonAgainst_56 G F l0 l1 sk0 sk1 M sz sl = some (r0, M0, Z0, S0)) : WW x (sz, sz - z0, sl - s0) M 56 [(0, .ref l0), (1, .ref l1)] [.int sk1, .ref sk0] := by
  unfold B_X5_reasonAgainst_56 at h
  refine ww_if_eq 56 63 X dX5_reasonAgainst_56 (by decide) (fun q => ?_) (fun q => ?_)
  · replace h := (if_pos q).symm.trans h
    obtain ⟨M64, e64, h⟩ := bO_some h
    obtain ⟨v68, e68, h⟩ := bO_some h
    have q := mB_X5_reasonAgainst_72 h
    refine ww_iconst 63 X (v := (-1 : Int32)) dX5_reasonAgainst_63 (by decide) ?_
    refine ww_putI 64 X dX5_reasonAgainst_64 (fP_X5_57 _) e64 ?_
    refine ww_aload_n 67 X dX5_reasonAgainst_67 0 rfl rfl ?_
    refine ww_getI 68 X dX5_reasonAgainst_68 fG_X5_57 e68 ?_
    refine ww_iconst 71 X (v := (-1 : Int32)) dX5_reasonAgainst_71 (by decide) ?_
    exact (wB_X5_reasonAgainst_72 X hQ (by omega) (by omega) h)
  · replace h := (if_neg q).symm.trans h
    obtain ⟨M64, e64, h⟩ := bO_some h
    obtain ⟨v68, e68, h⟩ := bO_some h
    have q := mB_X5_reasonAgainst_72 h
    refine ww_iconst 59 X (v := (2 : Int32)) dX5_reasonAgainst_59 (by decide) ?_
    refine ww_goto 60 64 X dX5_reasonAgainst_60 (by decide) ?_
    refine ww_putI 64 X dX5_reasonAgainst_64 (fP_X5_57 _) e64 ?_
    refine ww_aload_n 67 X dX5_reasonAgainst_67 0 rfl rfl ?_
    refine ww_getI 68 X dX5_reasonAgainst_68 fG_X5_57 e68 ?_
    refine ww_iconst 71 X (v := (-1 : Int32)) dX5_reasonAgainst_71 (by decide) ?_
    exact (wB_X5_reasonAgainst_72 X hQ (by omega) (by omega) h)
theorem mB_X5_reasonAgainst_42 {G : mG} {F : Nat} {r0 : Int32} {M0 : mM} {Z0 S0 : Nat} {l0 : Nat} {l1 : Nat} {l2 : Int32} {sk0 : Nat} {sk1 : Int32} {M : mM} {sz : Nat} {sl : Nat} (h : B_X5_reasonAgainst_42 G F l0 l1 l2 sk0 sk1 M sz sl = some (r0, M0, Z0, S0)) : sz ≤ Z0 ∧ sl ≤ S0 := by
  unfold B_X5_reasonAgainst_42 at h
  by_cases q : sk1 = 0
  · replace h := (if_pos q).symm.trans h
    obtain ⟨_, f53, h⟩ := bO_some h
    obtain ⟨v53, M53, e53, h⟩ := bP_some h
    have q := mB_X5_reasonAgainst_56 h
    omega
  · replace h := (if_neg q).symm.trans h
    obtain ⟨M64, e64, h⟩ := bO_some h
    obtain ⟨v68, e68, h⟩ := bO_some h
    have q := mB_X5_reasonAgainst_72 h
    omega
set_option maxHeartbeats 4000000 in
set_option maxRecDepth 100000 in
theorem wB_X5_reasonAgainst_42 {G : mG} {F : Nat} {x : mXT} {z0 s0 : Nat} {r0 : Int32} {M0 : mM} {Z0 S0 : Nat} (X : mCX G RX5 cX5_reasonAgainst 4 (some .int) "reasonAgainst" { frames := 8, cells := Z0 - z0, slots := S0 - s0, locals := 175 } x) (hQ : mQI x r0 M0 (Z0, Z0 - z0, S0 - s0)) {l0 : Nat} {l1 : Nat} {l2 : Int32} {sk0 : Nat} {sk1 : Int32} {M : mM} {sz : Nat} {sl : Nat} (hz0 : z0 ≤ sz) (hs0 : s0 ≤ sl) (h : B_X5_reasonAgainst_42 G F l0 l1 l2 sk0 sk1 M sz sl = some (r0, M0, Z0, S0)) : WW x (sz, sz - z0, sl - s0) M 42 [(0, .ref l0), (1, .ref l1), (2, .int l2)] [.int sk1, .ref sk0] := by
  unfold B_X5_reasonAgainst_42 at h
  refine ww_if_eq 42 49 X dX5_reasonAgainst_42 (by decide) (fun q => ?_) (fun q => ?_)
  · replace h := (if_pos q).symm.trans h
    obtain ⟨_, f53, h⟩ := bO_some h
    obtain ⟨v53, M53, e53, h⟩ := bP_some h
    have q := mB_X5_reasonAgainst_56 h
    refine ww_aload_n 49 X dX5_reasonAgainst_49 1 rfl rfl ?_
    refine ww_iload_n 50 X dX5_reasonAgainst_50 2 rfl rfl ?_
    refine ww_lds 51 X (j := 19) dX5_reasonAgainst_51 rfl ?_
    refine ww_callVIz 53 X (sz := sz) (sl := sl) (z0 := z0) (s0 := s0) dX5_reasonAgainst_53 mY_X9_says mL_X5_49 (rcv_spec f53) ⟨_, _, rfl⟩ (by decide) (As := [.int l2, .ref (G.1 19)]) (rest := [.ref sk0]) rfl rfl ⟨Nat.le_of_ble_eq_true rfl, Nat.le_of_ble_eq_true rfl⟩ (by show _ ≤ Z0 - z0; omega) (by show _ ≤ S0 - s0; omega) (Nat.le_of_ble_eq_true rfl) (fun l D A => c_X9_says l D A e53) ?_
    exact ww_sub [0, 1] rfl (wB_X5_reasonAgainst_56 X hQ (by omega) (by omega) h)
  · replace h := (if_neg q).symm.trans h
    obtain ⟨M64, e64, h⟩ := bO_some h
    obtain ⟨v68, e68, h⟩ := bO_some h
    have q := mB_X5_reasonAgainst_72 h
    refine ww_iconst 45 X (v := (1 : Int32)) dX5_reasonAgainst_45 (by decide) ?_
    refine ww_goto 46 64 X dX5_reasonAgainst_46 (by decide) ?_
    refine ww_putI 64 X dX5_reasonAgainst_64 (fP_X5_57 _) e64 ?_
    refine ww_aload_n 67 X dX5_reasonAgainst_67 0 rfl rfl ?_
    refine ww_getI 68 X dX5_reasonAgainst_68 fG_X5_57 e68 ?_
    refine ww_iconst 71 X (v := (-1 : Int32)) dX5_reasonAgainst_71 (by decide) ?_
    exact ww_sub [0, 1] rfl (wB_X5_reasonAgainst_72 X hQ (by omega) (by omega) h)
theorem mB_X5_reasonAgainst_28 {G : mG} {F : Nat} {r0 : Int32} {M0 : mM} {Z0 S0 : Nat} {l0 : Nat} {l1 : Nat} {l2 : Int32} {sk0 : Nat} {sk1 : Int32} {M : mM} {sz : Nat} {sl : Nat} (h : B_X5_reasonAgainst_28 G F l0 l1 l2 sk0 sk1 M sz sl = some (r0, M0, Z0, S0)) : sz ≤ Z0 ∧ sl ≤ S0 := by
  unfold B_X5_reasonAgainst_28 at h
  by_cases q : sk1 = 0
  · replace h := (if_pos q).symm.trans h
    obtain ⟨_, f39, h⟩ := bO_some h
    obtain ⟨v39, M39, e39, h⟩ := bP_some h
    have q := mB_X5_reasonAgainst_42 h
    omega
  · replace h := (if_neg q).symm.trans h
    obtain ⟨M64, e64, h⟩ := bO_some h
    obtain ⟨v68, e68, h⟩ := bO_some h
    have q := mB_X5_reasonAgainst_72 h
    omega
set_option maxHeartbeats 4000000 in
set_option maxRecDepth 100000 in
theorem wB_X5_reasonAgainst_28 {G : mG} {F : Nat} {x : mXT} {z0 s0 : Nat} {r0 : Int32} {M0 : mM} {Z0 S0 : Nat} (X : mCX G RX5 cX5_reasonAgainst 4 (some .int) "reasonAgainst" { frames := 8, cells := Z0 - z0, slots := S0 - s0, locals := 175 } x) (hQ : mQI x r0 M0 (Z0, Z0 - z0, S0 - s0)) {l0 : Nat} {l1 : Nat} {l2 : Int32} {sk0 : Nat} {sk1 : Int32} {M : mM} {sz : Nat} {sl : Nat} (hz0 : z0 ≤ sz) (hs0 : s0 ≤ sl) (h : B_X5_reasonAgainst_28 G F l0 l1 l2 sk0 sk1 M sz sl = some (r0, M0, Z0, S0)) : WW x (sz, sz - z0, sl - s0) M 28 [(0, .ref l0), (1, .ref l1), (2, .int l2)] [.int sk1, .ref sk0] := by
  unfold B_X5_reasonAgainst_28 at h
  refine ww_if_eq 28 35 X dX5_reasonAgainst_28 (by decide) (fun q => ?_) (fun q => ?_)
  · replace h := (if_pos q).symm.trans h
    obtain ⟨_, f39, h⟩ := bO_some h
    obtain ⟨v39, M39, e39, h⟩ := bP_some h
    have q := mB_X5_reasonAgainst_42 h
    refine ww_aload_n 35 X dX5_reasonAgainst_35 1 rfl rfl ?_
    refine ww_iload_n 36 X dX5_reasonAgainst_36 2 rfl rfl ?_
    refine ww_lds 37 X (j := 18) dX5_reasonAgainst_37 rfl ?_
    refine ww_callVIz 39 X (sz := sz) (sl := sl) (z0 := z0) (s0 := s0) dX5_reasonAgainst_39 mY_X9_says mL_X5_49 (rcv_spec f39) ⟨_, _, rfl⟩ (by decide) (As := [.int l2, .ref (G.1 18)]) (rest := [.ref sk0]) rfl rfl ⟨Nat.le_of_ble_eq_true rfl, Nat.le_of_ble_eq_true rfl⟩ (by show _ ≤ Z0 - z0; omega) (by show _ ≤ S0 - s0; omega) (Nat.le_of_ble_eq_true rfl) (fun l D A => c_X9_says l D A e39) ?_
    exact (wB_X5_reasonAgainst_42 X hQ (by omega) (by omega) h)
  · replace h := (if_neg q).symm.trans h
    obtain ⟨M64, e64, h⟩ := bO_some h
    obtain ⟨v68, e68, h⟩ := bO_some h
    have q := mB_X5_reasonAgainst_72 h
    refine ww_iconst 31 X (v := (0 : Int32)) dX5_reasonAgainst_31 (by decide) ?_
    refine ww_goto 32 64 X dX5_reasonAgainst_32 (by decide) ?_
    refine ww_putI 64 X dX5_reasonAgainst_64 (fP_X5_57 _) e64 ?_
    refine ww_aload_n 67 X dX5_reasonAgainst_67 0 rfl rfl ?_
    refine ww_getI 68 X dX5_reasonAgainst_68 fG_X5_57 e68 ?_
    refine ww_iconst 71 X (v := (-1 : Int32)) dX5_reasonAgainst_71 (by decide) ?_
    exact ww_sub [0, 1] rfl (wB_X5_reasonAgainst_72 X hQ (by omega) (by omega) h)
theorem mB_X5_reasonAgainst_7 {G : mG} {F : Nat} {r0 : Int32} {M0 : mM} {Z0 S0 : Nat} {l0 : Nat} {l1 : Nat} {sk0 : Int32} {M : mM} {sz : Nat} {sl : Nat} (h : B_X5_reasonAgainst_7 G F l0 l1 sk0 M sz sl = some (r0, M0, Z0, S0)) : sz ≤ Z0 ∧ sl ≤ S0 := by
  unfold B_X5_reasonAgainst_7 at h
  by_cases q : sk0 = 0
  · replace h := (if_pos q).symm.trans h
    have q := retA_p h
    omega
  · replace h := (if_neg q).symm.trans h
    obtain ⟨_, f16, h⟩ := bO_some h
    obtain ⟨v16, M16, e16, h⟩ := bP_some h
    obtain ⟨_, f25, h⟩ := bO_some h
    obtain ⟨v25, M25, e25, h⟩ := bP_some h
    have q := mB_X5_reasonAgainst_28 h
    omega
set_option maxHeartbeats 4000000 in
set_option maxRecDepth 100000 in
theorem wB_X5_reasonAgainst_7 {G : mG} {F : Nat} {x : mXT} {z0 s0 : Nat} {r0 : Int32} {M0 : mM} {Z0 S0 : Nat} (X : mCX G RX5 cX5_reasonAgainst 4 (some .int) "reasonAgainst" { frames := 8, cells := Z0 - z0, slots := S0 - s0, locals := 175 } x) (hQ : mQI x r0 M0 (Z0, Z0 - z0, S0 - s0)) {l0 : Nat} {l1 : Nat} {sk0 : Int32} {M : mM} {sz : Nat} {sl : Nat} (hz0 : z0 ≤ sz) (hs0 : s0 ≤ sl) (h : B_X5_reasonAgainst_7 G F l0 l1 sk0 M sz sl = some (r0, M0, Z0, S0)) : WW x (sz, sz - z0, sl - s0) M 7 [(0, .ref l0), (1, .ref l1)] [.int sk0] := by
  unfold B_X5_reasonAgainst_7 at h
  refine ww_if_ne 7 12 X dX5_reasonAgainst_7 (by decide) (fun q => ?_) (fun q => ?_)
  · replace h := (if_neg q).symm.trans h
    obtain ⟨_, f16, h⟩ := bO_some h
    obtain ⟨v16, M16, e16, h⟩ := bP_some h
    obtain ⟨_, f25, h⟩ := bO_some h
    obtain ⟨v25, M25, e25, h⟩ := bP_some h
    have q := mB_X5_reasonAgainst_28 h
    refine ww_aload_n 12 X dX5_reasonAgainst_12 1 rfl rfl ?_
    refine ww_iconst 13 X (v := (0 : Int32)) dX5_reasonAgainst_13 (by decide) ?_
    refine ww_lds 14 X (j := 16) dX5_reasonAgainst_14 rfl ?_
    refine ww_callVIz 16 X (sz := sz) (sl := sl) (z0 := z0) (s0 := s0) dX5_reasonAgainst_16 mY_X9_find mL_X5_43 (rcv_spec f16) ⟨_, _, rfl⟩ (by decide) (As := [.int (0 : Int32), .ref (G.1 16)]) (rest := []) rfl rfl ⟨Nat.le_of_ble_eq_true rfl, Nat.le_of_ble_eq_true rfl⟩ (by show _ ≤ Z0 - z0; omega) (by show _ ≤ S0 - s0; omega) (Nat.le_of_ble_eq_true rfl) (fun l D A => c_X9_find l D A e16) ?_
    refine ww_istore_n 19 X dX5_reasonAgainst_19 (lv' := [(0, .ref l0), (1, .ref l1), (2, .int v16)]) rfl (by decide) [1, 2, 0] rfl ?_
    refine ww_aload_n 20 X dX5_reasonAgainst_20 0 rfl rfl ?_
    refine ww_aload_n 21 X dX5_reasonAgainst_21 1 rfl rfl ?_
    refine ww_iload_n 22 X dX5_reasonAgainst_22 2 rfl rfl ?_
    refine ww_lds 23 X (j := 17) dX5_reasonAgainst_23 rfl ?_
    refine ww_callVIz 25 X (sz := sz) (sl := sl) (z0 := z0) (s0 := s0) dX5_reasonAgainst_25 mY_X9_says mL_X5_49 (rcv_spec f25) ⟨_, _, rfl⟩ (by decide) (As := [.int v16, .ref (G.1 17)]) (rest := [.ref l0]) rfl rfl ⟨Nat.le_of_ble_eq_true rfl, Nat.le_of_ble_eq_true rfl⟩ (by show _ ≤ Z0 - z0; omega) (by show _ ≤ S0 - s0; omega) (Nat.le_of_ble_eq_true rfl) (fun l D A => c_X9_says l D A e25) ?_
    exact (wB_X5_reasonAgainst_28 X hQ (by omega) (by omega) h)
  · replace h := (if_pos q).symm.trans h
    have q := retA_p h
    refine ww_iconst 10 X (v := (2 : Int32)) dX5_reasonAgainst_10 (by decide) ?_
    exact ww_iretA 11 X hQ dX5_reasonAgainst_11 h
theorem mP_X5_reasonAgainst {G : mG} {F : Nat} {r0 : Int32} {M0 : mM} {Z0 S0 : Nat} {l0 : Nat} {l1 : Nat} {M : mM} {sz : Nat} {sl : Nat} (h : P_X5_reasonAgainst G F l0 l1 M sz sl = some (r0, M0, Z0, S0)) : sz ≤ Z0 ∧ sl ≤ S0 := by
  unfold P_X5_reasonAgainst at h
  obtain ⟨_, f4, h⟩ := bO_some h
  obtain ⟨v4, M4, e4, h⟩ := bP_some h
  have q := mB_X5_reasonAgainst_7 h
  omega
set_option maxHeartbeats 4000000 in
set_option maxRecDepth 100000 in
theorem wP_X5_reasonAgainst {G : mG} {F : Nat} {x : mXT} {z0 s0 : Nat} {r0 : Int32} {M0 : mM} {Z0 S0 : Nat} (X : mCX G RX5 cX5_reasonAgainst 4 (some .int) "reasonAgainst" { frames := 8, cells := Z0 - z0, slots := S0 - s0, locals := 175 } x) (hQ : mQI x r0 M0 (Z0, Z0 - z0, S0 - s0)) {l0 : Nat} {l1 : Nat} {M : mM} {sz : Nat} {sl : Nat} (hz0 : z0 ≤ sz) (hs0 : s0 ≤ sl) (h : P_X5_reasonAgainst G F l0 l1 M sz sl = some (r0, M0, Z0, S0)) : WW x (sz, sz - z0, sl - s0) M 0 [(0, .ref l0), (1, .ref l1)] [] := by
  unfold P_X5_reasonAgainst at h
  obtain ⟨_, f4, h⟩ := bO_some h
  obtain ⟨v4, M4, e4, h⟩ := bP_some h
  have q := mB_X5_reasonAgainst_7 h
  refine ww_aload_n 0 X dX5_reasonAgainst_0 1 rfl rfl ?_
  refine ww_iconst 1 X (v := (0 : Int32)) dX5_reasonAgainst_1 (by decide) ?_
  refine ww_bipush 2 X (v := (6 : Int32)) dX5_reasonAgainst_2 (by decide) ?_
  refine ww_callVIz 4 X (sz := sz) (sl := sl) (z0 := z0) (s0 := s0) dX5_reasonAgainst_4 mY_X9_isKind mL_X5_35 (rcv_spec f4) ⟨_, _, rfl⟩ (by decide) (As := [.int (0 : Int32), .int (6 : Int32)]) (rest := []) rfl rfl ⟨Nat.le_of_ble_eq_true rfl, Nat.le_of_ble_eq_true rfl⟩ (by show _ ≤ Z0 - z0; omega) (by show _ ≤ S0 - s0; omega) (Nat.le_of_ble_eq_true rfl) (fun l D A => c_X9_isKind l D A e4) ?_
  exact (wB_X5_reasonAgainst_7 X hQ (by omega) (by omega) h)
theorem c_X5_reasonAgainst {G : mG} {F : Nat} {r0 : Int32} {M0 : mM} {Z0 S0 : Nat} (l : Launch) (D : mD) (A : Nat → Prop) {l0 : Nat} {l1 : Nat} {M : mM} {sz : Nat} {sl : Nat} (h : P_X5_reasonAgainst G F l0 l1 M sz sl = some (r0, M0, Z0, S0)) : mMetI l D G A yX5_reasonAgainst cX5_reasonAgainst 4 (some .int) 8 175 (Z0 - sz) (S0 - sl) [.ref l0, .ref l1] M sz r0 M0 Z0 := mMetI_of l D G A (by decide) (Nat.le_of_ble_eq_true rfl) (fun x X hQ => by have K := wP_X5_reasonAgainst X hQ (Nat.le_refl sz) (Nat.le_refl sl) h; rw [Nat.sub_self, Nat.sub_self] at K; exact K)
/-! SealedTokens$Key.maySign(IZ)Z -/
theorem dX5_maySign_0 : decode cX5_maySign 0 = .ok (.iload_n 1, 1) := by decide +kernel
theorem dX5_maySign_1 : decode cX5_maySign 1 = .ok (.iconst 1, 1) := by decide +kernel
theorem dX5_maySign_2 : decode cX5_maySign 2 = .ok (.if_icmp .gt 7, 3) := by decide +kernel
theorem dX5_maySign_5 : decode cX5_maySign 5 = .ok (.iconst 0, 1) := by decide +kernel
theorem dX5_maySign_6 : decode cX5_maySign 6 = .ok (.goto 13, 3) := by decide +kernel
theorem dX5_maySign_9 : decode cX5_maySign 9 = .ok (.iload_n 1, 1) := by decide +kernel
theorem dX5_maySign_10 : decode cX5_maySign 10 = .ok (.iconst 3, 1) := by decide +kernel
theorem dX5_maySign_11 : decode cX5_maySign 11 = .ok (.if_icmp .gt 7, 3) := by decide +kernel
theorem dX5_maySign_14 : decode cX5_maySign 14 = .ok (.iconst 1, 1) := by decide +kernel
theorem dX5_maySign_15 : decode cX5_maySign 15 = .ok (.goto 4, 3) := by decide +kernel
theorem dX5_maySign_18 : decode cX5_maySign 18 = .ok (.iconst 2, 1) := by decide +kernel
theorem dX5_maySign_19 : decode cX5_maySign 19 = .ok (.istore_n 3, 1) := by decide +kernel
theorem dX5_maySign_20 : decode cX5_maySign 20 = .ok (.aload_n 0, 1) := by decide +kernel
theorem dX5_maySign_21 : decode cX5_maySign 21 = .ok (.getfield 57, 3) := by decide +kernel
theorem dX5_maySign_24 : decode cX5_maySign 24 = .ok (.iload_n 3, 1) := by decide +kernel
theorem dX5_maySign_25 : decode cX5_maySign 25 = .ok (.if_icmp .ne 27, 3) := by decide +kernel
theorem dX5_maySign_28 : decode cX5_maySign 28 = .ok (.aload_n 0, 1) := by decide +kernel
theorem dX5_maySign_29 : decode cX5_maySign 29 = .ok (.getfield 138, 3) := by decide +kernel
theorem dX5_maySign_32 : decode cX5_maySign 32 = .ok (.iconst 1, 1) := by decide +kernel
theorem dX5_maySign_33 : decode cX5_maySign 33 = .ok (.if_icmp .gt 19, 3) := by decide +kernel
theorem dX5_maySign_36 : decode cX5_maySign 36 = .ok (.aload_n 0, 1) := by decide +kernel
theorem dX5_maySign_37 : decode cX5_maySign 37 = .ok (.getfield 9, 3) := by decide +kernel
theorem dX5_maySign_40 : decode cX5_maySign 40 = .ok (.iconst (-1), 1) := by decide +kernel
theorem dX5_maySign_41 : decode cX5_maySign 41 = .ok (.if_icmp .eq 13, 3) := by decide +kernel
theorem dX5_maySign_44 : decode cX5_maySign 44 = .ok (.aload_n 0, 1) := by decide +kernel
theorem dX5_maySign_45 : decode cX5_maySign 45 = .ok (.getfield 9, 3) := by decide +kernel
theorem dX5_maySign_48 : decode cX5_maySign 48 = .ok (.iload_n 1, 1) := by decide +kernel
theorem dX5_maySign_49 : decode cX5_maySign 49 = .ok (.if_icmp .eq 5, 3) := by decide +kernel
theorem dX5_maySign_52 : decode cX5_maySign 52 = .ok (.iconst 0, 1) := by decide +kernel
theorem dX5_maySign_53 : decode cX5_maySign 53 = .ok (.ireturn, 1) := by decide +kernel
theorem dX5_maySign_54 : decode cX5_maySign 54 = .ok (.iload_n 1, 1) := by decide +kernel
theorem dX5_maySign_55 : decode cX5_maySign 55 = .ok (.ifCond .ne 8, 3) := by decide +kernel
theorem dX5_maySign_58 : decode cX5_maySign 58 = .ok (.bipush 32, 2) := by decide +kernel
theorem dX5_maySign_60 : decode cX5_maySign 60 = .ok (.goto 24, 3) := by decide +kernel
theorem dX5_maySign_63 : decode cX5_maySign 63 = .ok (.iload_n 1, 1) := by decide +kernel
theorem dX5_maySign_64 : decode cX5_maySign 64 = .ok (.iconst 1, 1) := by decide +kernel
theorem dX5_maySign_65 : decode cX5_maySign 65 = .ok (.if_icmp .ne 8, 3) := by decide +kernel
theorem dX5_maySign_68 : decode cX5_maySign 68 = .ok (.bipush 64, 2) := by decide +kernel
theorem dX5_maySign_70 : decode cX5_maySign 70 = .ok (.goto 14, 3) := by decide +kernel
theorem dX5_maySign_73 : decode cX5_maySign 73 = .ok (.iload_n 1, 1) := by decide +kernel
theorem dX5_maySign_74 : decode cX5_maySign 74 = .ok (.iconst 3, 1) := by decide +kernel
theorem dX5_maySign_75 : decode cX5_maySign 75 = .ok (.if_icmp .ne 8, 3) := by decide +kernel
theorem dX5_maySign_78 : decode cX5_maySign 78 = .ok (.bipush 67, 2) := by decide +kernel
theorem dX5_maySign_80 : decode cX5_maySign 80 = .ok (.goto 4, 3) := by decide +kernel
theorem dX5_maySign_83 : decode cX5_maySign 83 = .ok (.iconst 0, 1) := by decide +kernel
theorem dX5_maySign_84 : decode cX5_maySign 84 = .ok (.istore 4, 2) := by decide +kernel
theorem dX5_maySign_86 : decode cX5_maySign 86 = .ok (.aload_n 0, 1) := by decide +kernel
theorem dX5_maySign_87 : decode cX5_maySign 87 = .ok (.getfield 22, 3) := by decide +kernel
theorem dX5_maySign_90 : decode cX5_maySign 90 = .ok (.getfield 173, 3) := by decide +kernel
theorem dX5_maySign_93 : decode cX5_maySign 93 = .ok (.iload 4, 2) := by decide +kernel
theorem dX5_maySign_95 : decode cX5_maySign 95 = .ok (.if_icmp .lt 25, 3) := by decide +kernel
theorem dX5_maySign_98 : decode cX5_maySign 98 = .ok (.iload_n 2, 1) := by decide +kernel
theorem dX5_maySign_99 : decode cX5_maySign 99 = .ok (.ifCond .eq 17, 3) := by decide +kernel
theorem dX5_maySign_102 : decode cX5_maySign 102 = .ok (.aload_n 0, 1) := by decide +kernel
theorem dX5_maySign_103 : decode cX5_maySign 103 = .ok (.getfield 57, 3) := by decide +kernel
theorem dX5_maySign_106 : decode cX5_maySign 106 = .ok (.ifCond .eq 10, 3) := by decide +kernel
theorem dX5_maySign_109 : decode cX5_maySign 109 = .ok (.aload_n 0, 1) := by decide +kernel
theorem dX5_maySign_110 : decode cX5_maySign 110 = .ok (.getfield 70, 3) := by decide +kernel
theorem dX5_maySign_113 : decode cX5_maySign 113 = .ok (.ifCond .eq 7, 3) := by decide +kernel
theorem dX5_maySign_116 : decode cX5_maySign 116 = .ok (.iconst 1, 1) := by decide +kernel
theorem dX5_maySign_117 : decode cX5_maySign 117 = .ok (.goto 4, 3) := by decide +kernel
theorem dX5_maySign_120 : decode cX5_maySign 120 = .ok (.iconst 0, 1) := by decide +kernel
theorem dX5_maySign_121 : decode cX5_maySign 121 = .ok (.ireturn, 1) := by decide +kernel
abbrev rmX5_maySign : Room := { frames := 0, cells := 0, slots := 0, locals := 0 }
set_option maxHeartbeats 4000000 in
set_option maxRecDepth 100000 in
theorem wB_X5_maySign_84 {G : mG} {F : Nat} {x : mXT} {sz : Nat} {r0 : Int32} {M0 : mM} (X : mCX G RX5 cX5_maySign 5 (some .boolean) "maySign" rmX5_maySign x) (hQ : mQI x r0 M0 (sz, 0, 0)) {l0 : Nat} {l2 : Int32} {sk0 : Int32} {M : mM} (h : B_X5_maySign_84 G F l0 l2 sk0 M = some (r0, M0)) : WW x (sz, 0, 0) M 84 [(0, .ref l0), (2, .int l2)] [.int sk0] := by
  unfold B_X5_maySign_84 at h
  refine ww_istore 84 X dX5_maySign_84 (lv' := [(0, .ref l0), (2, .int l2), (4, .int sk0)]) (by decide) [1, 2, 0] rfl ?_
  refine ww_aload_n 86 X dX5_maySign_86 0 rfl rfl ?_
  obtain ⟨v87, e87, h⟩ := bO_some h
  refine ww_getR 87 X dX5_maySign_87 fG_X5_22 e87 ?_
  obtain ⟨v90, e90, h⟩ := bO_some h
  refine ww_getI 90 X dX5_maySign_90 fG_X5_173 e90 ?_
  refine ww_iload 93 X dX5_maySign_93 2 rfl ?_
  refine ww_icmp_lt 95 120 X dX5_maySign_95 (by decide) (fun q => ?_) (fun q => ?_)
  · replace h := (if_pos q).symm.trans h
    refine ww_iconst 120 X (v := (0 : Int32)) dX5_maySign_120 (by decide) ?_
    exact ww_zretE 121 X hQ dX5_maySign_121 h
  · replace h := (if_neg q).symm.trans h
    refine ww_iload_n 98 X dX5_maySign_98 1 rfl rfl ?_
    refine ww_if_eq 99 116 X dX5_maySign_99 (by decide) (fun q => ?_) (fun q => ?_)
    · replace h := (if_pos q).symm.trans h
      refine ww_iconst 116 X (v := (1 : Int32)) dX5_maySign_116 (by decide) ?_
      refine ww_goto 117 121 X dX5_maySign_117 (by decide) ?_
      exact ww_zretE 121 X hQ dX5_maySign_121 h
    · replace h := (if_neg q).symm.trans h
      refine ww_aload_n 102 X dX5_maySign_102 0 rfl rfl ?_
      obtain ⟨v103, e103, h⟩ := bO_some h
      refine ww_getI 103 X dX5_maySign_103 fG_X5_57 e103 ?_
      refine ww_if_eq 106 116 X dX5_maySign_106 (by decide) (fun q => ?_) (fun q => ?_)
      · replace h := (if_pos q).symm.trans h
        refine ww_iconst 116 X (v := (1 : Int32)) dX5_maySign_116 (by decide) ?_
        refine ww_goto 117 121 X dX5_maySign_117 (by decide) ?_
        exact ww_zretE 121 X hQ dX5_maySign_121 h
      · replace h := (if_neg q).symm.trans h
        refine ww_aload_n 109 X dX5_maySign_109 0 rfl rfl ?_
        obtain ⟨v110, e110, h⟩ := bO_some h
        refine ww_getI 110 X dX5_maySign_110 fG_X5_70 e110 ?_
        refine ww_if_eq 113 120 X dX5_maySign_113 (by decide) (fun q => ?_) (fun q => ?_)
        · replace h := (if_pos q).symm.trans h
          refine ww_iconst 120 X (v := (0 : Int32)) dX5_maySign_120 (by decide) ?_
          exact ww_zretE 121 X hQ dX5_maySign_121 h
        · replace h := (if_neg q).symm.trans h
          refine ww_iconst 116 X (v := (1 : Int32)) dX5_maySign_116 (by decide) ?_
          refine ww_goto 117 121 X dX5_maySign_117 (by decide) ?_
          exact ww_zretE 121 X hQ dX5_maySign_121 h
set_option maxHeartbeats 4000000 in
set_option maxRecDepth 100000 in
theorem wB_X5_maySign_54 {G : mG} {F : Nat} {x : mXT} {sz : Nat} {r0 : Int32} {M0 : mM} (X : mCX G RX5 cX5_maySign 5 (some .boolean) "maySign" rmX5_maySign x) (hQ : mQI x r0 M0 (sz, 0, 0)) {l0 : Nat} {l1 : Int32} {l2 : Int32} {M : mM} (h : B_X5_maySign_54 G F l0 l1 l2 M = some (r0, M0)) : WW x (sz, 0, 0) M 54 [(0, .ref l0), (1, .int l1), (2, .int l2)] [] := by
  unfold B_X5_maySign_54 at h
  refine ww_iload_n 54 X dX5_maySign_54 1 rfl rfl ?_
  refine ww_if_ne 55 63 X dX5_maySign_55 (by decide) (fun q => ?_) (fun q => ?_)
  · replace h := (if_neg q).symm.trans h
    refine ww_iload_n 63 X dX5_maySign_63 1 rfl rfl ?_
    refine ww_iconst 64 X (v := (1 : Int32)) dX5_maySign_64 (by decide) ?_
    refine ww_icmp_ne 65 73 X dX5_maySign_65 (by decide) (fun q => ?_) (fun q => ?_)
    · replace h := (if_neg q).symm.trans h
      refine ww_iload_n 73 X dX5_maySign_73 1 rfl rfl ?_
      refine ww_iconst 74 X (v := (3 : Int32)) dX5_maySign_74 (by decide) ?_
      refine ww_icmp_ne 75 83 X dX5_maySign_75 (by decide) (fun q => ?_) (fun q => ?_)
      · replace h := (if_neg q).symm.trans h
        refine ww_iconst 83 X (v := (0 : Int32)) dX5_maySign_83 (by decide) ?_
        exact ww_sub [0, 2] rfl (wB_X5_maySign_84 X hQ h)
      · replace h := (if_pos q).symm.trans h
        refine ww_bipush 78 X (v := (67 : Int32)) dX5_maySign_78 (by decide) ?_
        refine ww_goto 80 84 X dX5_maySign_80 (by decide) ?_
        exact ww_sub [0, 2] rfl (wB_X5_maySign_84 X hQ h)
    · replace h := (if_pos q).symm.trans h
      refine ww_bipush 68 X (v := (64 : Int32)) dX5_maySign_68 (by decide) ?_
      refine ww_goto 70 84 X dX5_maySign_70 (by decide) ?_
      exact ww_sub [0, 2] rfl (wB_X5_maySign_84 X hQ h)
  · replace h := (if_pos q).symm.trans h
    refine ww_bipush 58 X (v := (32 : Int32)) dX5_maySign_58 (by decide) ?_
    refine ww_goto 60 84 X dX5_maySign_60 (by decide) ?_
    exact ww_sub [0, 2] rfl (wB_X5_maySign_84 X hQ h)
set_option maxHeartbeats 4000000 in
set_option maxRecDepth 100000 in
theorem wB_X5_maySign_19 {G : mG} {F : Nat} {x : mXT} {sz : Nat} {r0 : Int32} {M0 : mM} (X : mCX G RX5 cX5_maySign 5 (some .boolean) "maySign" rmX5_maySign x) (hQ : mQI x r0 M0 (sz, 0, 0)) {l0 : Nat} {l1 : Int32} {l2 : Int32} {sk0 : Int32} {M : mM} (h : B_X5_maySign_19 G F l0 l1 l2 sk0 M = some (r0, M0)) : WW x (sz, 0, 0) M 19 [(0, .ref l0), (1, .int l1), (2, .int l2)] [.int sk0] := by
  unfold B_X5_maySign_19 at h
  refine ww_istore_n 19 X dX5_maySign_19 (lv' := [(0, .ref l0), (1, .int l1), (2, .int l2), (3, .int sk0)]) rfl (by decide) [1, 2, 3, 0] rfl ?_
  refine ww_aload_n 20 X dX5_maySign_20 0 rfl rfl ?_
  obtain ⟨v21, e21, h⟩ := bO_some h
  refine ww_getI 21 X dX5_maySign_21 fG_X5_57 e21 ?_
  refine ww_iload_n 24 X dX5_maySign_24 3 rfl rfl ?_
  refine ww_icmp_ne 25 52 X dX5_maySign_25 (by decide) (fun q => ?_) (fun q => ?_)
  · replace h := (if_neg q).symm.trans h
    refine ww_iconst 52 X (v := (0 : Int32)) dX5_maySign_52 (by decide) ?_
    exact ww_zretE 53 X hQ dX5_maySign_53 h
  · replace h := (if_pos q).symm.trans h
    refine ww_aload_n 28 X dX5_maySign_28 0 rfl rfl ?_
    obtain ⟨v29, e29, h⟩ := bO_some h
    refine ww_getI 29 X dX5_maySign_29 fG_X5_138 e29 ?_
    refine ww_iconst 32 X (v := (1 : Int32)) dX5_maySign_32 (by decide) ?_
    refine ww_icmp_gt 33 52 X dX5_maySign_33 (by decide) (fun q => ?_) (fun q => ?_)
    · replace h := (if_pos q).symm.trans h
      refine ww_iconst 52 X (v := (0 : Int32)) dX5_maySign_52 (by decide) ?_
      exact ww_zretE 53 X hQ dX5_maySign_53 h
    · replace h := (if_neg q).symm.trans h
      refine ww_aload_n 36 X dX5_maySign_36 0 rfl rfl ?_
      obtain ⟨v37, e37, h⟩ := bO_some h
      refine ww_getI 37 X dX5_maySign_37 fG_X5_9 e37 ?_
      refine ww_iconst 40 X (v := (-1 : Int32)) dX5_maySign_40 (by decide) ?_
      refine ww_icmp_eq 41 54 X dX5_maySign_41 (by decide) (fun q => ?_) (fun q => ?_)
      · replace h := (if_pos q).symm.trans h
        exact ww_sub [0, 1, 2] rfl (wB_X5_maySign_54 X hQ h)
      · replace h := (if_neg q).symm.trans h
        refine ww_aload_n 44 X dX5_maySign_44 0 rfl rfl ?_
        obtain ⟨v45, e45, h⟩ := bO_some h
        refine ww_getI 45 X dX5_maySign_45 fG_X5_9 e45 ?_
        refine ww_iload_n 48 X dX5_maySign_48 1 rfl rfl ?_
        refine ww_icmp_eq 49 54 X dX5_maySign_49 (by decide) (fun q => ?_) (fun q => ?_)
        · replace h := (if_pos q).symm.trans h
          exact ww_sub [0, 1, 2] rfl (wB_X5_maySign_54 X hQ h)
        · replace h := (if_neg q).symm.trans h
          refine ww_iconst 52 X (v := (0 : Int32)) dX5_maySign_52 (by decide) ?_
          exact ww_zretE 53 X hQ dX5_maySign_53 h
set_option maxHeartbeats 4000000 in
set_option maxRecDepth 100000 in
theorem wP_X5_maySign {G : mG} {F : Nat} {x : mXT} {sz : Nat} {r0 : Int32} {M0 : mM} (X : mCX G RX5 cX5_maySign 5 (some .boolean) "maySign" rmX5_maySign x) (hQ : mQI x r0 M0 (sz, 0, 0)) {l0 : Nat} {l1 : Int32} {l2 : Int32} {M : mM} (h : P_X5_maySign G F l0 l1 l2 M = some (r0, M0)) : WW x (sz, 0, 0) M 0 [(0, .ref l0), (1, .int l1), (2, .int l2)] [] := by
  unfold P_X5_maySign at h
  refine ww_iload_n 0 X dX5_maySign_0 1 rfl rfl ?_
  refine ww_iconst 1 X (v := (1 : Int32)) dX5_maySign_1 (by decide) ?_
  refine ww_icmp_gt 2 9 X dX5_maySign_2 (by decide) (fun q => ?_) (fun q => ?_)
  · replace h := (if_pos q).symm.trans h
    refine ww_iload_n 9 X dX5_maySign_9 1 rfl rfl ?_
    refine ww_iconst 10 X (v := (3 : Int32)) dX5_maySign_10 (by decide) ?_
    refine ww_icmp_gt 11 18 X dX5_maySign_11 (by decide) (fun q => ?_) (fun q => ?_)
    · replace h := (if_pos q).symm.trans h
      refine ww_iconst 18 X (v := (2 : Int32)) dX5_maySign_18 (by decide) ?_
      exact (wB_X5_maySign_19 X hQ h)
    · replace h := (if_neg q).symm.trans h
      refine ww_iconst 14 X (v := (1 : Int32)) dX5_maySign_14 (by decide) ?_
      refine ww_goto 15 19 X dX5_maySign_15 (by decide) ?_
      exact (wB_X5_maySign_19 X hQ h)
  · replace h := (if_neg q).symm.trans h
    refine ww_iconst 5 X (v := (0 : Int32)) dX5_maySign_5 (by decide) ?_
    refine ww_goto 6 19 X dX5_maySign_6 (by decide) ?_
    exact (wB_X5_maySign_19 X hQ h)
theorem c_X5_maySign {G : mG} {F sz : Nat} {r0 : Int32} {M0 : mM} (l : Launch) (D : mD) (A : Nat → Prop) {l0 : Nat} {l1 : Int32} {l2 : Int32} {M : mM} (h : P_X5_maySign G F l0 l1 l2 M = some (r0, M0)) : mMetI l D G A yX5_maySign cX5_maySign 5 (some .boolean) 0 0 0 0 [.ref l0, .int l1, .int l2] M sz r0 M0 sz := mMetI_of l D G A (by decide) (Nat.le_of_ble_eq_true rfl) (fun x X hQ => wP_X5_maySign X hQ h)
/-! SealedTokens$Key.maySeal(IIZ)Z -/
theorem dX5_maySeal_0 : decode cX5_maySeal 0 = .ok (.iload_n 1, 1) := by decide +kernel
theorem dX5_maySeal_1 : decode cX5_maySeal 1 = .ok (.iconst 2, 1) := by decide +kernel
theorem dX5_maySeal_2 : decode cX5_maySeal 2 = .ok (.if_icmp .gt 7, 3) := by decide +kernel
theorem dX5_maySeal_5 : decode cX5_maySeal 5 = .ok (.iconst 0, 1) := by decide +kernel
theorem dX5_maySeal_6 : decode cX5_maySeal 6 = .ok (.goto 13, 3) := by decide +kernel
theorem dX5_maySeal_9 : decode cX5_maySeal 9 = .ok (.iload_n 1, 1) := by decide +kernel
theorem dX5_maySeal_10 : decode cX5_maySeal 10 = .ok (.iconst 3, 1) := by decide +kernel
theorem dX5_maySeal_11 : decode cX5_maySeal 11 = .ok (.if_icmp .ne 7, 3) := by decide +kernel
theorem dX5_maySeal_14 : decode cX5_maySeal 14 = .ok (.iconst 1, 1) := by decide +kernel
theorem dX5_maySeal_15 : decode cX5_maySeal 15 = .ok (.goto 4, 3) := by decide +kernel
theorem dX5_maySeal_18 : decode cX5_maySeal 18 = .ok (.iconst 2, 1) := by decide +kernel
theorem dX5_maySeal_19 : decode cX5_maySeal 19 = .ok (.istore 4, 2) := by decide +kernel
theorem dX5_maySeal_21 : decode cX5_maySeal 21 = .ok (.aload_n 0, 1) := by decide +kernel
theorem dX5_maySeal_22 : decode cX5_maySeal 22 = .ok (.getfield 57, 3) := by decide +kernel
theorem dX5_maySeal_25 : decode cX5_maySeal 25 = .ok (.iload 4, 2) := by decide +kernel
theorem dX5_maySeal_27 : decode cX5_maySeal 27 = .ok (.if_icmp .ne 37, 3) := by decide +kernel
theorem dX5_maySeal_30 : decode cX5_maySeal 30 = .ok (.aload_n 0, 1) := by decide +kernel
theorem dX5_maySeal_31 : decode cX5_maySeal 31 = .ok (.getfield 138, 3) := by decide +kernel
theorem dX5_maySeal_34 : decode cX5_maySeal 34 = .ok (.iconst 1, 1) := by decide +kernel
theorem dX5_maySeal_35 : decode cX5_maySeal 35 = .ok (.if_icmp .eq 29, 3) := by decide +kernel
theorem dX5_maySeal_38 : decode cX5_maySeal 38 = .ok (.aload_n 0, 1) := by decide +kernel
theorem dX5_maySeal_39 : decode cX5_maySeal 39 = .ok (.getfield 138, 3) := by decide +kernel
theorem dX5_maySeal_42 : decode cX5_maySeal 42 = .ok (.iconst 3, 1) := by decide +kernel
theorem dX5_maySeal_43 : decode cX5_maySeal 43 = .ok (.if_icmp .eq 21, 3) := by decide +kernel
theorem dX5_maySeal_46 : decode cX5_maySeal 46 = .ok (.aload_n 0, 1) := by decide +kernel
theorem dX5_maySeal_47 : decode cX5_maySeal 47 = .ok (.getfield 9, 3) := by decide +kernel
theorem dX5_maySeal_50 : decode cX5_maySeal 50 = .ok (.iconst (-1), 1) := by decide +kernel
theorem dX5_maySeal_51 : decode cX5_maySeal 51 = .ok (.if_icmp .eq 15, 3) := by decide +kernel
theorem dX5_maySeal_54 : decode cX5_maySeal 54 = .ok (.aload_n 0, 1) := by decide +kernel
theorem dX5_maySeal_55 : decode cX5_maySeal 55 = .ok (.getfield 9, 3) := by decide +kernel
theorem dX5_maySeal_58 : decode cX5_maySeal 58 = .ok (.iconst 5, 1) := by decide +kernel
theorem dX5_maySeal_59 : decode cX5_maySeal 59 = .ok (.iload_n 1, 1) := by decide +kernel
theorem dX5_maySeal_60 : decode cX5_maySeal 60 = .ok (.iadd, 1) := by decide +kernel
theorem dX5_maySeal_61 : decode cX5_maySeal 61 = .ok (.if_icmp .eq 5, 3) := by decide +kernel
theorem dX5_maySeal_64 : decode cX5_maySeal 64 = .ok (.iconst 0, 1) := by decide +kernel
theorem dX5_maySeal_65 : decode cX5_maySeal 65 = .ok (.ireturn, 1) := by decide +kernel
theorem dX5_maySeal_66 : decode cX5_maySeal 66 = .ok (.iload_n 1, 1) := by decide +kernel
theorem dX5_maySeal_67 : decode cX5_maySeal 67 = .ok (.tableswitch 121 0 3 #[29, 50, 68, 86], 29) := by decide +kernel
theorem dX5_maySeal_96 : decode cX5_maySeal 96 = .ok (.aload_n 0, 1) := by decide +kernel
theorem dX5_maySeal_97 : decode cX5_maySeal 97 = .ok (.getfield 22, 3) := by decide +kernel
theorem dX5_maySeal_100 : decode cX5_maySeal 100 = .ok (.getfield 173, 3) := by decide +kernel
theorem dX5_maySeal_103 : decode cX5_maySeal 103 = .ok (.getstatic 176, 3) := by decide +kernel
theorem dX5_maySeal_106 : decode cX5_maySeal 106 = .ok (.iload_n 2, 1) := by decide +kernel
theorem dX5_maySeal_107 : decode cX5_maySeal 107 = .ok (.iaload, 1) := by decide +kernel
theorem dX5_maySeal_108 : decode cX5_maySeal 108 = .ok (.if_icmp .ne 7, 3) := by decide +kernel
theorem dX5_maySeal_111 : decode cX5_maySeal 111 = .ok (.iconst 1, 1) := by decide +kernel
theorem dX5_maySeal_112 : decode cX5_maySeal 112 = .ok (.goto 4, 3) := by decide +kernel
theorem dX5_maySeal_115 : decode cX5_maySeal 115 = .ok (.iconst 0, 1) := by decide +kernel
theorem dX5_maySeal_116 : decode cX5_maySeal 116 = .ok (.ireturn, 1) := by decide +kernel
theorem dX5_maySeal_117 : decode cX5_maySeal 117 = .ok (.aload_n 0, 1) := by decide +kernel
theorem dX5_maySeal_118 : decode cX5_maySeal 118 = .ok (.getfield 22, 3) := by decide +kernel
theorem dX5_maySeal_121 : decode cX5_maySeal 121 = .ok (.getfield 173, 3) := by decide +kernel
theorem dX5_maySeal_124 : decode cX5_maySeal 124 = .ok (.bipush 16, 2) := by decide +kernel
theorem dX5_maySeal_126 : decode cX5_maySeal 126 = .ok (.if_icmp .ne 7, 3) := by decide +kernel
theorem dX5_maySeal_129 : decode cX5_maySeal 129 = .ok (.iconst 1, 1) := by decide +kernel
theorem dX5_maySeal_130 : decode cX5_maySeal 130 = .ok (.goto 4, 3) := by decide +kernel
theorem dX5_maySeal_133 : decode cX5_maySeal 133 = .ok (.iconst 0, 1) := by decide +kernel
theorem dX5_maySeal_134 : decode cX5_maySeal 134 = .ok (.ireturn, 1) := by decide +kernel
theorem dX5_maySeal_135 : decode cX5_maySeal 135 = .ok (.aload_n 0, 1) := by decide +kernel
theorem dX5_maySeal_136 : decode cX5_maySeal 136 = .ok (.getfield 22, 3) := by decide +kernel
theorem dX5_maySeal_139 : decode cX5_maySeal 139 = .ok (.getfield 173, 3) := by decide +kernel
theorem dX5_maySeal_142 : decode cX5_maySeal 142 = .ok (.bipush 32, 2) := by decide +kernel
theorem dX5_maySeal_144 : decode cX5_maySeal 144 = .ok (.if_icmp .ne 7, 3) := by decide +kernel
theorem dX5_maySeal_147 : decode cX5_maySeal 147 = .ok (.iconst 1, 1) := by decide +kernel
theorem dX5_maySeal_148 : decode cX5_maySeal 148 = .ok (.goto 4, 3) := by decide +kernel
theorem dX5_maySeal_151 : decode cX5_maySeal 151 = .ok (.iconst 0, 1) := by decide +kernel
theorem dX5_maySeal_152 : decode cX5_maySeal 152 = .ok (.ireturn, 1) := by decide +kernel
theorem dX5_maySeal_153 : decode cX5_maySeal 153 = .ok (.aload_n 0, 1) := by decide +kernel
theorem dX5_maySeal_154 : decode cX5_maySeal 154 = .ok (.getfield 22, 3) := by decide +kernel
theorem dX5_maySeal_157 : decode cX5_maySeal 157 = .ok (.getfield 173, 3) := by decide +kernel
theorem dX5_maySeal_160 : decode cX5_maySeal 160 = .ok (.bipush 66, 2) := by decide +kernel
theorem dX5_maySeal_162 : decode cX5_maySeal 162 = .ok (.getstatic 176, 3) := by decide +kernel
theorem dX5_maySeal_165 : decode cX5_maySeal 165 = .ok (.iload_n 2, 1) := by decide +kernel
theorem dX5_maySeal_166 : decode cX5_maySeal 166 = .ok (.iaload, 1) := by decide +kernel
theorem dX5_maySeal_167 : decode cX5_maySeal 167 = .ok (.iadd, 1) := by decide +kernel
theorem dX5_maySeal_168 : decode cX5_maySeal 168 = .ok (.if_icmp .lt 18, 3) := by decide +kernel
theorem dX5_maySeal_171 : decode cX5_maySeal 171 = .ok (.iload_n 3, 1) := by decide +kernel
theorem dX5_maySeal_172 : decode cX5_maySeal 172 = .ok (.ifCond .eq 10, 3) := by decide +kernel
theorem dX5_maySeal_175 : decode cX5_maySeal 175 = .ok (.aload_n 0, 1) := by decide +kernel
theorem dX5_maySeal_176 : decode cX5_maySeal 176 = .ok (.getfield 70, 3) := by decide +kernel
theorem dX5_maySeal_179 : decode cX5_maySeal 179 = .ok (.ifCond .eq 7, 3) := by decide +kernel
theorem dX5_maySeal_182 : decode cX5_maySeal 182 = .ok (.iconst 1, 1) := by decide +kernel
theorem dX5_maySeal_183 : decode cX5_maySeal 183 = .ok (.goto 4, 3) := by decide +kernel
theorem dX5_maySeal_186 : decode cX5_maySeal 186 = .ok (.iconst 0, 1) := by decide +kernel
theorem dX5_maySeal_187 : decode cX5_maySeal 187 = .ok (.ireturn, 1) := by decide +kernel
theorem dX5_maySeal_188 : decode cX5_maySeal 188 = .ok (.iload_n 3, 1) := by decide +kernel
theorem dX5_maySeal_189 : decode cX5_maySeal 189 = .ok (.ifCond .eq 10, 3) := by decide +kernel
theorem dX5_maySeal_192 : decode cX5_maySeal 192 = .ok (.aload_n 0, 1) := by decide +kernel
theorem dX5_maySeal_193 : decode cX5_maySeal 193 = .ok (.getfield 70, 3) := by decide +kernel
theorem dX5_maySeal_196 : decode cX5_maySeal 196 = .ok (.ifCond .eq 7, 3) := by decide +kernel
theorem dX5_maySeal_199 : decode cX5_maySeal 199 = .ok (.iconst 1, 1) := by decide +kernel
theorem dX5_maySeal_200 : decode cX5_maySeal 200 = .ok (.goto 4, 3) := by decide +kernel
theorem dX5_maySeal_203 : decode cX5_maySeal 203 = .ok (.iconst 0, 1) := by decide +kernel
theorem dX5_maySeal_204 : decode cX5_maySeal 204 = .ok (.ireturn, 1) := by decide +kernel
abbrev rmX5_maySeal : Room := { frames := 0, cells := 0, slots := 0, locals := 0 }
set_option maxHeartbeats 4000000 in
set_option maxRecDepth 100000 in
theorem wB_X5_maySeal_66 {G : mG} {F : Nat} {x : mXT} {sz : Nat} {r0 : Int32} {M0 : mM} (X : mCX G RX5 cX5_maySeal 5 (some .boolean) "maySeal" rmX5_maySeal x) (hQ : mQI x r0 M0 (sz, 0, 0)) {l0 : Nat} {l1 : Int32} {l2 : Int32} {l3 : Int32} {M : mM} (h : B_X5_maySeal_66 G F l0 l1 l2 l3 M = some (r0, M0)) : WW x (sz, 0, 0) M 66 [(0, .ref l0), (1, .int l1), (2, .int l2), (3, .int l3)] [] := by
  unfold B_X5_maySeal_66 at h
  refine ww_iload_n 66 X dX5_maySeal_66 1 rfl rfl ?_
  by_cases q0 : l1 = (0 : Int32)
  · replace h := (if_pos q0).symm.trans h
    refine ww_tableIn 67 96 X dX5_maySeal_67 (off := 29) (by rw [q0]; decide) (by rw [q0]; decide) (by rw [q0]; decide) (by decide) ?_
    refine ww_aload_n 96 X dX5_maySeal_96 0 rfl rfl ?_
    obtain ⟨v97, e97, h⟩ := bO_some h
    refine ww_getR 97 X dX5_maySeal_97 fG_X5_22 e97 ?_
    obtain ⟨v100, e100, h⟩ := bO_some h
    refine ww_getI 100 X dX5_maySeal_100 fG_X5_173 e100 ?_
    refine ww_gets 103 X dX5_maySeal_103 gS_X5_176 ?_
    refine ww_iload_n 106 X dX5_maySeal_106 2 rfl rfl ?_
    obtain ⟨v107, e107, h⟩ := bO_some h
    refine ww_iald 107 X dX5_maySeal_107 e107 ?_
    refine ww_icmp_ne 108 115 X dX5_maySeal_108 (by decide) (fun q => ?_) (fun q => ?_)
    · replace h := (if_neg q).symm.trans h
      refine ww_iconst 115 X (v := (0 : Int32)) dX5_maySeal_115 (by decide) ?_
      exact ww_zretE 116 X hQ dX5_maySeal_116 h
    · replace h := (if_pos q).symm.trans h
      refine ww_iconst 111 X (v := (1 : Int32)) dX5_maySeal_111 (by decide) ?_
      refine ww_goto 112 116 X dX5_maySeal_112 (by decide) ?_
      exact ww_zretE 116 X hQ dX5_maySeal_116 h
  · replace h := (if_neg q0).symm.trans h
    by_cases q1 : l1 = (1 : Int32)
    · replace h := (if_pos q1).symm.trans h
      refine ww_tableIn 67 117 X dX5_maySeal_67 (off := 50) (by rw [q1]; decide) (by rw [q1]; decide) (by rw [q1]; decide) (by decide) ?_
      refine ww_aload_n 117 X dX5_maySeal_117 0 rfl rfl ?_
      obtain ⟨v118, e118, h⟩ := bO_some h
      refine ww_getR 118 X dX5_maySeal_118 fG_X5_22 e118 ?_
      obtain ⟨v121, e121, h⟩ := bO_some h
      refine ww_getI 121 X dX5_maySeal_121 fG_X5_173 e121 ?_
      refine ww_bipush 124 X (v := (16 : Int32)) dX5_maySeal_124 (by decide) ?_
      refine ww_icmp_ne 126 133 X dX5_maySeal_126 (by decide) (fun q => ?_) (fun q => ?_)
      · replace h := (if_neg q).symm.trans h
        refine ww_iconst 133 X (v := (0 : Int32)) dX5_maySeal_133 (by decide) ?_
        exact ww_zretE 134 X hQ dX5_maySeal_134 h
      · replace h := (if_pos q).symm.trans h
        refine ww_iconst 129 X (v := (1 : Int32)) dX5_maySeal_129 (by decide) ?_
        refine ww_goto 130 134 X dX5_maySeal_130 (by decide) ?_
        exact ww_zretE 134 X hQ dX5_maySeal_134 h
    · replace h := (if_neg q1).symm.trans h
      by_cases q2 : l1 = (2 : Int32)
      · replace h := (if_pos q2).symm.trans h
        refine ww_tableIn 67 135 X dX5_maySeal_67 (off := 68) (by rw [q2]; decide) (by rw [q2]; decide) (by rw [q2]; decide) (by decide) ?_
        refine ww_aload_n 135 X dX5_maySeal_135 0 rfl rfl ?_
        obtain ⟨v136, e136, h⟩ := bO_some h
        refine ww_getR 136 X dX5_maySeal_136 fG_X5_22 e136 ?_
        obtain ⟨v139, e139, h⟩ := bO_some h
        refine ww_getI 139 X dX5_maySeal_139 fG_X5_173 e139 ?_
        refine ww_bipush 142 X (v := (32 : Int32)) dX5_maySeal_142 (by decide) ?_
        refine ww_icmp_ne 144 151 X dX5_maySeal_144 (by decide) (fun q => ?_) (fun q => ?_)
        · replace h := (if_neg q).symm.trans h
          refine ww_iconst 151 X (v := (0 : Int32)) dX5_maySeal_151 (by decide) ?_
          exact ww_zretE 152 X hQ dX5_maySeal_152 h
        · replace h := (if_pos q).symm.trans h
          refine ww_iconst 147 X (v := (1 : Int32)) dX5_maySeal_147 (by decide) ?_
          refine ww_goto 148 152 X dX5_maySeal_148 (by decide) ?_
          exact ww_zretE 152 X hQ dX5_maySeal_152 h
      · replace h := (if_neg q2).symm.trans h
        by_cases q3 : l1 = (3 : Int32)
        · replace h := (if_pos q3).symm.trans h
          refine ww_tableIn 67 153 X dX5_maySeal_67 (off := 86) (by rw [q3]; decide) (by rw [q3]; decide) (by rw [q3]; decide) (by decide) ?_
          refine ww_aload_n 153 X dX5_maySeal_153 0 rfl rfl ?_
          obtain ⟨v154, e154, h⟩ := bO_some h
          refine ww_getR 154 X dX5_maySeal_154 fG_X5_22 e154 ?_
          obtain ⟨v157, e157, h⟩ := bO_some h
          refine ww_getI 157 X dX5_maySeal_157 fG_X5_173 e157 ?_
          refine ww_bipush 160 X (v := (66 : Int32)) dX5_maySeal_160 (by decide) ?_
          refine ww_gets 162 X dX5_maySeal_162 gS_X5_176 ?_
          refine ww_iload_n 165 X dX5_maySeal_165 2 rfl rfl ?_
          obtain ⟨v166, e166, h⟩ := bO_some h
          refine ww_iald 166 X dX5_maySeal_166 e166 ?_
          refine ww_iadd 167 X dX5_maySeal_167 ?_
          refine ww_icmp_lt 168 186 X dX5_maySeal_168 (by decide) (fun q => ?_) (fun q => ?_)
          · replace h := (if_pos q).symm.trans h
            refine ww_iconst 186 X (v := (0 : Int32)) dX5_maySeal_186 (by decide) ?_
            exact ww_zretE 187 X hQ dX5_maySeal_187 h
          · replace h := (if_neg q).symm.trans h
            refine ww_iload_n 171 X dX5_maySeal_171 3 rfl rfl ?_
            refine ww_if_eq 172 182 X dX5_maySeal_172 (by decide) (fun q => ?_) (fun q => ?_)
            · replace h := (if_pos q).symm.trans h
              refine ww_iconst 182 X (v := (1 : Int32)) dX5_maySeal_182 (by decide) ?_
              refine ww_goto 183 187 X dX5_maySeal_183 (by decide) ?_
              exact ww_zretE 187 X hQ dX5_maySeal_187 h
            · replace h := (if_neg q).symm.trans h
              refine ww_aload_n 175 X dX5_maySeal_175 0 rfl rfl ?_
              obtain ⟨v176, e176, h⟩ := bO_some h
              refine ww_getI 176 X dX5_maySeal_176 fG_X5_70 e176 ?_
              refine ww_if_eq 179 186 X dX5_maySeal_179 (by decide) (fun q => ?_) (fun q => ?_)
              · replace h := (if_pos q).symm.trans h
                refine ww_iconst 186 X (v := (0 : Int32)) dX5_maySeal_186 (by decide) ?_
                exact ww_zretE 187 X hQ dX5_maySeal_187 h
              · replace h := (if_neg q).symm.trans h
                refine ww_iconst 182 X (v := (1 : Int32)) dX5_maySeal_182 (by decide) ?_
                refine ww_goto 183 187 X dX5_maySeal_183 (by decide) ?_
                exact ww_zretE 187 X hQ dX5_maySeal_187 h
        · replace h := (if_neg q3).symm.trans h
          have z0 := lv_neT q0 (show (0 : Int32).toInt = 0 by decide)
          have z1 := lv_neT q1 (show (1 : Int32).toInt = 1 by decide)
          have z2 := lv_neT q2 (show (2 : Int32).toInt = 2 by decide)
          have z3 := lv_neT q3 (show (3 : Int32).toInt = 3 by decide)
          refine ww_tableOut 67 188 X dX5_maySeal_67 (by omega) (by decide) ?_
          refine ww_iload_n 188 X dX5_maySeal_188 3 rfl rfl ?_
          refine ww_if_eq 189 199 X dX5_maySeal_189 (by decide) (fun q => ?_) (fun q => ?_)
          · replace h := (if_pos q).symm.trans h
            refine ww_iconst 199 X (v := (1 : Int32)) dX5_maySeal_199 (by decide) ?_
            refine ww_goto 200 204 X dX5_maySeal_200 (by decide) ?_
            exact ww_zretE 204 X hQ dX5_maySeal_204 h
          · replace h := (if_neg q).symm.trans h
            refine ww_aload_n 192 X dX5_maySeal_192 0 rfl rfl ?_
            obtain ⟨v193, e193, h⟩ := bO_some h
            refine ww_getI 193 X dX5_maySeal_193 fG_X5_70 e193 ?_
            refine ww_if_eq 196 203 X dX5_maySeal_196 (by decide) (fun q => ?_) (fun q => ?_)
            · replace h := (if_pos q).symm.trans h
              refine ww_iconst 203 X (v := (0 : Int32)) dX5_maySeal_203 (by decide) ?_
              exact ww_zretE 204 X hQ dX5_maySeal_204 h
            · replace h := (if_neg q).symm.trans h
              refine ww_iconst 199 X (v := (1 : Int32)) dX5_maySeal_199 (by decide) ?_
              refine ww_goto 200 204 X dX5_maySeal_200 (by decide) ?_
              exact ww_zretE 204 X hQ dX5_maySeal_204 h
set_option maxHeartbeats 4000000 in
set_option maxRecDepth 100000 in
theorem wB_X5_maySeal_19 {G : mG} {F : Nat} {x : mXT} {sz : Nat} {r0 : Int32} {M0 : mM} (X : mCX G RX5 cX5_maySeal 5 (some .boolean) "maySeal" rmX5_maySeal x) (hQ : mQI x r0 M0 (sz, 0, 0)) {l0 : Nat} {l1 : Int32} {l2 : Int32} {l3 : Int32} {sk0 : Int32} {M : mM} (h : B_X5_maySeal_19 G F l0 l1 l2 l3 sk0 M = some (r0, M0)) : WW x (sz, 0, 0) M 19 [(0, .ref l0), (1, .int l1), (2, .int l2), (3, .int l3)] [.int sk0] := by
  unfold B_X5_maySeal_19 at h
  refine ww_istore 19 X dX5_maySeal_19 (lv' := [(0, .ref l0), (1, .int l1), (2, .int l2), (3, .int l3), (4, .int sk0)]) (by decide) [1, 2, 3, 4, 0] rfl ?_
  refine ww_aload_n 21 X dX5_maySeal_21 0 rfl rfl ?_
  obtain ⟨v22, e22, h⟩ := bO_some h
  refine ww_getI 22 X dX5_maySeal_22 fG_X5_57 e22 ?_
  refine ww_iload 25 X dX5_maySeal_25 4 rfl ?_
  refine ww_icmp_ne 27 64 X dX5_maySeal_27 (by decide) (fun q => ?_) (fun q => ?_)
  · replace h := (if_neg q).symm.trans h
    refine ww_iconst 64 X (v := (0 : Int32)) dX5_maySeal_64 (by decide) ?_
    exact ww_zretE 65 X hQ dX5_maySeal_65 h
  · replace h := (if_pos q).symm.trans h
    refine ww_aload_n 30 X dX5_maySeal_30 0 rfl rfl ?_
    obtain ⟨v31, e31, h⟩ := bO_some h
    refine ww_getI 31 X dX5_maySeal_31 fG_X5_138 e31 ?_
    refine ww_iconst 34 X (v := (1 : Int32)) dX5_maySeal_34 (by decide) ?_
    refine ww_icmp_eq 35 64 X dX5_maySeal_35 (by decide) (fun q => ?_) (fun q => ?_)
    · replace h := (if_pos q).symm.trans h
      refine ww_iconst 64 X (v := (0 : Int32)) dX5_maySeal_64 (by decide) ?_
      exact ww_zretE 65 X hQ dX5_maySeal_65 h
    · replace h := (if_neg q).symm.trans h
      refine ww_aload_n 38 X dX5_maySeal_38 0 rfl rfl ?_
      obtain ⟨v39, e39, h⟩ := bO_some h
      refine ww_getI 39 X dX5_maySeal_39 fG_X5_138 e39 ?_
      refine ww_iconst 42 X (v := (3 : Int32)) dX5_maySeal_42 (by decide) ?_
      refine ww_icmp_eq 43 64 X dX5_maySeal_43 (by decide) (fun q => ?_) (fun q => ?_)
      · replace h := (if_pos q).symm.trans h
        refine ww_iconst 64 X (v := (0 : Int32)) dX5_maySeal_64 (by decide) ?_
        exact ww_zretE 65 X hQ dX5_maySeal_65 h
      · replace h := (if_neg q).symm.trans h
        refine ww_aload_n 46 X dX5_maySeal_46 0 rfl rfl ?_
        obtain ⟨v47, e47, h⟩ := bO_some h
        refine ww_getI 47 X dX5_maySeal_47 fG_X5_9 e47 ?_
        refine ww_iconst 50 X (v := (-1 : Int32)) dX5_maySeal_50 (by decide) ?_
        refine ww_icmp_eq 51 66 X dX5_maySeal_51 (by decide) (fun q => ?_) (fun q => ?_)
        · replace h := (if_pos q).symm.trans h
          exact ww_sub [0, 1, 2, 3] rfl (wB_X5_maySeal_66 X hQ h)
        · replace h := (if_neg q).symm.trans h
          refine ww_aload_n 54 X dX5_maySeal_54 0 rfl rfl ?_
          obtain ⟨v55, e55, h⟩ := bO_some h
          refine ww_getI 55 X dX5_maySeal_55 fG_X5_9 e55 ?_
          refine ww_iconst 58 X (v := (5 : Int32)) dX5_maySeal_58 (by decide) ?_
          refine ww_iload_n 59 X dX5_maySeal_59 1 rfl rfl ?_
          refine ww_iadd 60 X dX5_maySeal_60 ?_
          refine ww_icmp_eq 61 66 X dX5_maySeal_61 (by decide) (fun q => ?_) (fun q => ?_)
          · replace h := (if_pos q).symm.trans h
            exact ww_sub [0, 1, 2, 3] rfl (wB_X5_maySeal_66 X hQ h)
          · replace h := (if_neg q).symm.trans h
            refine ww_iconst 64 X (v := (0 : Int32)) dX5_maySeal_64 (by decide) ?_
            exact ww_zretE 65 X hQ dX5_maySeal_65 h
set_option maxHeartbeats 4000000 in
set_option maxRecDepth 100000 in
theorem wP_X5_maySeal {G : mG} {F : Nat} {x : mXT} {sz : Nat} {r0 : Int32} {M0 : mM} (X : mCX G RX5 cX5_maySeal 5 (some .boolean) "maySeal" rmX5_maySeal x) (hQ : mQI x r0 M0 (sz, 0, 0)) {l0 : Nat} {l1 : Int32} {l2 : Int32} {l3 : Int32} {M : mM} (h : P_X5_maySeal G F l0 l1 l2 l3 M = some (r0, M0)) : WW x (sz, 0, 0) M 0 [(0, .ref l0), (1, .int l1), (2, .int l2), (3, .int l3)] [] := by
  unfold P_X5_maySeal at h
  refine ww_iload_n 0 X dX5_maySeal_0 1 rfl rfl ?_
  refine ww_iconst 1 X (v := (2 : Int32)) dX5_maySeal_1 (by decide) ?_
  refine ww_icmp_gt 2 9 X dX5_maySeal_2 (by decide) (fun q => ?_) (fun q => ?_)
  · replace h := (if_pos q).symm.trans h
    refine ww_iload_n 9 X dX5_maySeal_9 1 rfl rfl ?_
    refine ww_iconst 10 X (v := (3 : Int32)) dX5_maySeal_10 (by decide) ?_
    refine ww_icmp_ne 11 18 X dX5_maySeal_11 (by decide) (fun q => ?_) (fun q => ?_)
    · replace h := (if_neg q).symm.trans h
      refine ww_iconst 18 X (v := (2 : Int32)) dX5_maySeal_18 (by decide) ?_
      exact (wB_X5_maySeal_19 X hQ h)
    · replace h := (if_pos q).symm.trans h
      refine ww_iconst 14 X (v := (1 : Int32)) dX5_maySeal_14 (by decide) ?_
      refine ww_goto 15 19 X dX5_maySeal_15 (by decide) ?_
      exact (wB_X5_maySeal_19 X hQ h)
  · replace h := (if_neg q).symm.trans h
    refine ww_iconst 5 X (v := (0 : Int32)) dX5_maySeal_5 (by decide) ?_
    refine ww_goto 6 19 X dX5_maySeal_6 (by decide) ?_
    exact (wB_X5_maySeal_19 X hQ h)
theorem c_X5_maySeal {G : mG} {F sz : Nat} {r0 : Int32} {M0 : mM} (l : Launch) (D : mD) (A : Nat → Prop) {l0 : Nat} {l1 : Int32} {l2 : Int32} {l3 : Int32} {M : mM} (h : P_X5_maySeal G F l0 l1 l2 l3 M = some (r0, M0)) : mMetI l D G A yX5_maySeal cX5_maySeal 5 (some .boolean) 0 0 0 0 [.ref l0, .int l1, .int l2, .int l3] M sz r0 M0 sz := mMetI_of l D G A (by decide) (Nat.le_of_ble_eq_true rfl) (fun x X hQ => wP_X5_maySeal X hQ h)
/-! SealedTokens$Key.putPointMembers(LSealedTokens$Bytes;LSealedTokens$Bytes;)V -/
theorem dX5_putPointMembers_0 : decode cX5_putPointMembers 0 = .ok (.aload_n 1, 1) := by decide +kernel
theorem dX5_putPointMembers_1 : decode cX5_putPointMembers 1 = .ok (.ldc 205, 2) := by decide +kernel
theorem dX5_putPointMembers_3 : decode cX5_putPointMembers 3 = .ok (.invokevirtual 181, 3) := by decide +kernel
theorem dX5_putPointMembers_6 : decode cX5_putPointMembers 6 = .ok (.aload_n 1, 1) := by decide +kernel
theorem dX5_putPointMembers_7 : decode cX5_putPointMembers 7 = .ok (.aload_n 0, 1) := by decide +kernel
theorem dX5_putPointMembers_8 : decode cX5_putPointMembers 8 = .ok (.iconst 0, 1) := by decide +kernel
theorem dX5_putPointMembers_9 : decode cX5_putPointMembers 9 = .ok (.bipush 32, 2) := by decide +kernel
theorem dX5_putPointMembers_11 : decode cX5_putPointMembers 11 = .ok (.invokevirtual 185, 3) := by decide +kernel
theorem dX5_putPointMembers_14 : decode cX5_putPointMembers 14 = .ok (.aload_n 1, 1) := by decide +kernel
theorem dX5_putPointMembers_15 : decode cX5_putPointMembers 15 = .ok (.ldc 207, 2) := by decide +kernel
theorem dX5_putPointMembers_17 : decode cX5_putPointMembers 17 = .ok (.invokevirtual 181, 3) := by decide +kernel
theorem dX5_putPointMembers_20 : decode cX5_putPointMembers 20 = .ok (.aload_n 1, 1) := by decide +kernel
theorem dX5_putPointMembers_21 : decode cX5_putPointMembers 21 = .ok (.aload_n 0, 1) := by decide +kernel
theorem dX5_putPointMembers_22 : decode cX5_putPointMembers 22 = .ok (.bipush 32, 2) := by decide +kernel
theorem dX5_putPointMembers_24 : decode cX5_putPointMembers 24 = .ok (.bipush 64, 2) := by decide +kernel
theorem dX5_putPointMembers_26 : decode cX5_putPointMembers 26 = .ok (.invokevirtual 185, 3) := by decide +kernel
theorem dX5_putPointMembers_29 : decode cX5_putPointMembers 29 = .ok (.aload_n 1, 1) := by decide +kernel
theorem dX5_putPointMembers_30 : decode cX5_putPointMembers 30 = .ok (.bipush 34, 2) := by decide +kernel
theorem dX5_putPointMembers_32 : decode cX5_putPointMembers 32 = .ok (.invokevirtual 202, 3) := by decide +kernel
theorem dX5_putPointMembers_35 : decode cX5_putPointMembers 35 = .ok (.return_, 1) := by decide +kernel
abbrev rmX5_putPointMembers : Room := { frames := 5, cells := 0, slots := 0, locals := 111 }
set_option maxHeartbeats 4000000 in
set_option maxRecDepth 100000 in
theorem wP_X5_putPointMembers {G : mG} {F : Nat} {x : mXT} {sz : Nat} {M0 : mM} (X : mCX G RX5 cX5_putPointMembers 2 none "putPointMembers" rmX5_putPointMembers x) (hQ : mQV x M0 (sz, 0, 0)) {l0 : Nat} {l1 : Nat} {M : mM} (h : P_X5_putPointMembers G F l0 l1 M = some M0) : WW x (sz, 0, 0) M 0 [(0, .ref l0), (1, .ref l1)] [] := by
  unfold P_X5_putPointMembers at h
  refine ww_aload_n 0 X dX5_putPointMembers_0 1 rfl rfl ?_
  refine ww_lds 1 X (j := 50) dX5_putPointMembers_1 rfl ?_
  obtain ⟨_, f3, h⟩ := bO_some h
  obtain ⟨M3, e3, h⟩ := bO_some h
  refine ww_callVV0 3 X dX5_putPointMembers_3 mY_X0_putText mL_X5_181 (rcv_spec f3) ⟨_, _, rfl⟩ (by decide) (As := [.ref (G.1 50)]) (rest := []) rfl rfl ⟨Nat.le_of_ble_eq_true rfl, Nat.le_of_ble_eq_true rfl⟩ (Nat.le_of_ble_eq_true rfl) (fun l D A => c_X0_putText l D A e3) ?_
  refine ww_aload_n 6 X dX5_putPointMembers_6 1 rfl rfl ?_
  refine ww_aload_n 7 X dX5_putPointMembers_7 0 rfl rfl ?_
  refine ww_iconst 8 X (v := (0 : Int32)) dX5_putPointMembers_8 (by decide) ?_
  refine ww_bipush 9 X (v := (32 : Int32)) dX5_putPointMembers_9 (by decide) ?_
  obtain ⟨_, f11, h⟩ := bO_some h
  obtain ⟨M11, e11, h⟩ := bO_some h
  refine ww_callVV0 11 X dX5_putPointMembers_11 mY_X0_putLetters mL_X5_185 (rcv_spec f11) ⟨_, _, rfl⟩ (by decide) (As := [.ref l0, .int (0 : Int32), .int (32 : Int32)]) (rest := []) rfl rfl ⟨Nat.le_of_ble_eq_true rfl, Nat.le_of_ble_eq_true rfl⟩ (Nat.le_of_ble_eq_true rfl) (fun l D A => c_X0_putLetters l D A e11) ?_
  refine ww_aload_n 14 X dX5_putPointMembers_14 1 rfl rfl ?_
  refine ww_lds 15 X (j := 51) dX5_putPointMembers_15 rfl ?_
  obtain ⟨_, f17, h⟩ := bO_some h
  obtain ⟨M17, e17, h⟩ := bO_some h
  refine ww_callVV0 17 X dX5_putPointMembers_17 mY_X0_putText mL_X5_181 (rcv_spec f17) ⟨_, _, rfl⟩ (by decide) (As := [.ref (G.1 51)]) (rest := []) rfl rfl ⟨Nat.le_of_ble_eq_true rfl, Nat.le_of_ble_eq_true rfl⟩ (Nat.le_of_ble_eq_true rfl) (fun l D A => c_X0_putText l D A e17) ?_
  refine ww_aload_n 20 X dX5_putPointMembers_20 1 rfl rfl ?_
  refine ww_aload_n 21 X dX5_putPointMembers_21 0 rfl rfl ?_
  refine ww_bipush 22 X (v := (32 : Int32)) dX5_putPointMembers_22 (by decide) ?_
  refine ww_bipush 24 X (v := (64 : Int32)) dX5_putPointMembers_24 (by decide) ?_
  obtain ⟨_, f26, h⟩ := bO_some h
  obtain ⟨M26, e26, h⟩ := bO_some h
  refine ww_callVV0 26 X dX5_putPointMembers_26 mY_X0_putLetters mL_X5_185 (rcv_spec f26) ⟨_, _, rfl⟩ (by decide) (As := [.ref l0, .int (32 : Int32), .int (64 : Int32)]) (rest := []) rfl rfl ⟨Nat.le_of_ble_eq_true rfl, Nat.le_of_ble_eq_true rfl⟩ (Nat.le_of_ble_eq_true rfl) (fun l D A => c_X0_putLetters l D A e26) ?_
  refine ww_aload_n 29 X dX5_putPointMembers_29 1 rfl rfl ?_
  refine ww_bipush 30 X (v := (34 : Int32)) dX5_putPointMembers_30 (by decide) ?_
  obtain ⟨_, f32, h⟩ := bO_some h
  obtain ⟨M32, e32, h⟩ := bO_some h
  refine ww_callVV0 32 X dX5_putPointMembers_32 mY_X0_put mL_X5_202 (rcv_spec f32) ⟨_, _, rfl⟩ (by decide) (As := [.int (34 : Int32)]) (rest := []) rfl rfl ⟨Nat.le_of_ble_eq_true rfl, Nat.le_of_ble_eq_true rfl⟩ (Nat.le_of_ble_eq_true rfl) (fun l D A => c_X0_put l D A e32) ?_
  exact ww_vretE 35 X hQ dX5_putPointMembers_35 h
theorem c_X5_putPointMembers {G : mG} {F sz : Nat} {M0 : mM} (l : Launch) (D : mD) (A : Nat → Prop) {l0 : Nat} {l1 : Nat} {M : mM} (h : P_X5_putPointMembers G F l0 l1 M = some M0) : mMetV l D G A yX5_putPointMembers cX5_putPointMembers 2 none 5 111 0 0 [.ref l0, .ref l1] M sz M0 sz := mMetV_of l D G A (by decide) (Nat.le_of_ble_eq_true rfl) (fun x X hQ => wP_X5_putPointMembers X hQ h)
/-! SealedTokens$Key.putPrinted(LSealedTokens$Bytes;)V -/
theorem dX5_putPrinted_0 : decode cX5_putPrinted 0 = .ok (.aload_n 0, 1) := by decide +kernel
theorem dX5_putPrinted_1 : decode cX5_putPrinted 1 = .ok (.getfield 57, 3) := by decide +kernel
theorem dX5_putPrinted_4 : decode cX5_putPrinted 4 = .ok (.ifCond .ne 34, 3) := by decide +kernel
theorem dX5_putPrinted_7 : decode cX5_putPrinted 7 = .ok (.aload_n 1, 1) := by decide +kernel
theorem dX5_putPrinted_8 : decode cX5_putPrinted 8 = .ok (.ldc 179, 2) := by decide +kernel
theorem dX5_putPrinted_10 : decode cX5_putPrinted 10 = .ok (.invokevirtual 181, 3) := by decide +kernel
theorem dX5_putPrinted_13 : decode cX5_putPrinted 13 = .ok (.aload_n 1, 1) := by decide +kernel
theorem dX5_putPrinted_14 : decode cX5_putPrinted 14 = .ok (.aload_n 0, 1) := by decide +kernel
theorem dX5_putPrinted_15 : decode cX5_putPrinted 15 = .ok (.getfield 22, 3) := by decide +kernel
theorem dX5_putPrinted_18 : decode cX5_putPrinted 18 = .ok (.iconst 0, 1) := by decide +kernel
theorem dX5_putPrinted_19 : decode cX5_putPrinted 19 = .ok (.aload_n 0, 1) := by decide +kernel
theorem dX5_putPrinted_20 : decode cX5_putPrinted 20 = .ok (.getfield 22, 3) := by decide +kernel
theorem dX5_putPrinted_23 : decode cX5_putPrinted 23 = .ok (.getfield 173, 3) := by decide +kernel
theorem dX5_putPrinted_26 : decode cX5_putPrinted 26 = .ok (.invokevirtual 185, 3) := by decide +kernel
theorem dX5_putPrinted_29 : decode cX5_putPrinted 29 = .ok (.aload_n 1, 1) := by decide +kernel
theorem dX5_putPrinted_30 : decode cX5_putPrinted 30 = .ok (.ldc 188, 2) := by decide +kernel
theorem dX5_putPrinted_32 : decode cX5_putPrinted 32 = .ok (.invokevirtual 181, 3) := by decide +kernel
theorem dX5_putPrinted_35 : decode cX5_putPrinted 35 = .ok (.goto 84, 3) := by decide +kernel
theorem dX5_putPrinted_38 : decode cX5_putPrinted 38 = .ok (.aload_n 0, 1) := by decide +kernel
theorem dX5_putPrinted_39 : decode cX5_putPrinted 39 = .ok (.getfield 57, 3) := by decide +kernel
theorem dX5_putPrinted_42 : decode cX5_putPrinted 42 = .ok (.iconst 1, 1) := by decide +kernel
theorem dX5_putPrinted_43 : decode cX5_putPrinted 43 = .ok (.if_icmp .ne 56, 3) := by decide +kernel
theorem dX5_putPrinted_46 : decode cX5_putPrinted 46 = .ok (.aload_n 1, 1) := by decide +kernel
theorem dX5_putPrinted_47 : decode cX5_putPrinted 47 = .ok (.ldc 190, 2) := by decide +kernel
theorem dX5_putPrinted_49 : decode cX5_putPrinted 49 = .ok (.invokevirtual 181, 3) := by decide +kernel
theorem dX5_putPrinted_52 : decode cX5_putPrinted 52 = .ok (.aload_n 1, 1) := by decide +kernel
theorem dX5_putPrinted_53 : decode cX5_putPrinted 53 = .ok (.aload_n 0, 1) := by decide +kernel
theorem dX5_putPrinted_54 : decode cX5_putPrinted 54 = .ok (.getfield 26, 3) := by decide +kernel
theorem dX5_putPrinted_57 : decode cX5_putPrinted 57 = .ok (.iconst 0, 1) := by decide +kernel
theorem dX5_putPrinted_58 : decode cX5_putPrinted 58 = .ok (.aload_n 0, 1) := by decide +kernel
theorem dX5_putPrinted_59 : decode cX5_putPrinted 59 = .ok (.getfield 26, 3) := by decide +kernel
theorem dX5_putPrinted_62 : decode cX5_putPrinted 62 = .ok (.getfield 173, 3) := by decide +kernel
theorem dX5_putPrinted_65 : decode cX5_putPrinted 65 = .ok (.invokevirtual 185, 3) := by decide +kernel
theorem dX5_putPrinted_68 : decode cX5_putPrinted 68 = .ok (.aload_n 1, 1) := by decide +kernel
theorem dX5_putPrinted_69 : decode cX5_putPrinted 69 = .ok (.ldc 192, 2) := by decide +kernel
theorem dX5_putPrinted_71 : decode cX5_putPrinted 71 = .ok (.invokevirtual 181, 3) := by decide +kernel
theorem dX5_putPrinted_74 : decode cX5_putPrinted 74 = .ok (.aload_n 1, 1) := by decide +kernel
theorem dX5_putPrinted_75 : decode cX5_putPrinted 75 = .ok (.aload_n 0, 1) := by decide +kernel
theorem dX5_putPrinted_76 : decode cX5_putPrinted 76 = .ok (.getfield 22, 3) := by decide +kernel
theorem dX5_putPrinted_79 : decode cX5_putPrinted 79 = .ok (.iconst 0, 1) := by decide +kernel
theorem dX5_putPrinted_80 : decode cX5_putPrinted 80 = .ok (.aload_n 0, 1) := by decide +kernel
theorem dX5_putPrinted_81 : decode cX5_putPrinted 81 = .ok (.getfield 22, 3) := by decide +kernel
theorem dX5_putPrinted_84 : decode cX5_putPrinted 84 = .ok (.getfield 173, 3) := by decide +kernel
theorem dX5_putPrinted_87 : decode cX5_putPrinted 87 = .ok (.invokevirtual 185, 3) := by decide +kernel
theorem dX5_putPrinted_90 : decode cX5_putPrinted 90 = .ok (.aload_n 1, 1) := by decide +kernel
theorem dX5_putPrinted_91 : decode cX5_putPrinted 91 = .ok (.ldc 194, 2) := by decide +kernel
theorem dX5_putPrinted_93 : decode cX5_putPrinted 93 = .ok (.invokevirtual 181, 3) := by decide +kernel
theorem dX5_putPrinted_96 : decode cX5_putPrinted 96 = .ok (.goto 23, 3) := by decide +kernel
theorem dX5_putPrinted_99 : decode cX5_putPrinted 99 = .ok (.aload_n 1, 1) := by decide +kernel
theorem dX5_putPrinted_100 : decode cX5_putPrinted 100 = .ok (.ldc 196, 2) := by decide +kernel
theorem dX5_putPrinted_102 : decode cX5_putPrinted 102 = .ok (.invokevirtual 181, 3) := by decide +kernel
theorem dX5_putPrinted_105 : decode cX5_putPrinted 105 = .ok (.aload_n 0, 1) := by decide +kernel
theorem dX5_putPrinted_106 : decode cX5_putPrinted 106 = .ok (.getfield 22, 3) := by decide +kernel
theorem dX5_putPrinted_109 : decode cX5_putPrinted 109 = .ok (.aload_n 1, 1) := by decide +kernel
theorem dX5_putPrinted_110 : decode cX5_putPrinted 110 = .ok (.invokestatic 198, 3) := by decide +kernel
theorem dX5_putPrinted_113 : decode cX5_putPrinted 113 = .ok (.aload_n 1, 1) := by decide +kernel
theorem dX5_putPrinted_114 : decode cX5_putPrinted 114 = .ok (.bipush 125, 2) := by decide +kernel
theorem dX5_putPrinted_116 : decode cX5_putPrinted 116 = .ok (.invokevirtual 202, 3) := by decide +kernel
theorem dX5_putPrinted_119 : decode cX5_putPrinted 119 = .ok (.return_, 1) := by decide +kernel
abbrev rmX5_putPrinted : Room := { frames := 6, cells := 0, slots := 0, locals := 132 }
set_option maxHeartbeats 4000000 in
set_option maxRecDepth 100000 in
theorem wP_X5_putPrinted {G : mG} {F : Nat} {x : mXT} {sz : Nat} {M0 : mM} (X : mCX G RX5 cX5_putPrinted 2 none "putPrinted" rmX5_putPrinted x) (hQ : mQV x M0 (sz, 0, 0)) {l0 : Nat} {l1 : Nat} {M : mM} (h : P_X5_putPrinted G F l0 l1 M = some M0) : WW x (sz, 0, 0) M 0 [(0, .ref l0), (1, .ref l1)] [] := by
  unfold P_X5_putPrinted at h
  refine ww_aload_n 0 X dX5_putPrinted_0 0 rfl rfl ?_
  obtain ⟨v1, e1, h⟩ := bO_some h
  refine ww_getI 1 X dX5_putPrinted_1 fG_X5_57 e1 ?_
  refine ww_if_ne 4 38 X dX5_putPrinted_4 (by decide) (fun q => ?_) (fun q => ?_)
  · replace h := (if_neg q).symm.trans h
    refine ww_aload_n 38 X dX5_putPrinted_38 0 rfl rfl ?_
    obtain ⟨v39, e39, h⟩ := bO_some h
    refine ww_getI 39 X dX5_putPrinted_39 fG_X5_57 e39 ?_
    refine ww_iconst 42 X (v := (1 : Int32)) dX5_putPrinted_42 (by decide) ?_
    refine ww_icmp_ne 43 99 X dX5_putPrinted_43 (by decide) (fun q => ?_) (fun q => ?_)
    · replace h := (if_neg q).symm.trans h
      refine ww_aload_n 99 X dX5_putPrinted_99 1 rfl rfl ?_
      refine ww_lds 100 X (j := 49) dX5_putPrinted_100 rfl ?_
      obtain ⟨_, f102, h⟩ := bO_some h
      obtain ⟨M102, e102, h⟩ := bO_some h
      refine ww_callVV0 102 X dX5_putPrinted_102 mY_X0_putText mL_X5_181 (rcv_spec f102) ⟨_, _, rfl⟩ (by decide) (As := [.ref (G.1 49)]) (rest := []) rfl rfl ⟨Nat.le_of_ble_eq_true rfl, Nat.le_of_ble_eq_true rfl⟩ (Nat.le_of_ble_eq_true rfl) (fun l D A => c_X0_putText l D A e102) ?_
      refine ww_aload_n 105 X dX5_putPrinted_105 0 rfl rfl ?_
      obtain ⟨v106, e106, h⟩ := bO_some h
      refine ww_getR 106 X dX5_putPrinted_106 fG_X5_22 e106 ?_
      refine ww_aload_n 109 X dX5_putPrinted_109 1 rfl rfl ?_
      obtain ⟨M110, e110, h⟩ := bO_some h
      refine ww_callSV0 110 X dX5_putPrinted_110 mY_X5_putPointMembers mL_X5_198 (As := [.ref v106, .ref l1]) (rest := []) rfl rfl ⟨Nat.le_of_ble_eq_true rfl, Nat.le_of_ble_eq_true rfl⟩ (Nat.le_of_ble_eq_true rfl) (fun l D A => c_X5_putPointMembers l D A e110) ?_
      refine ww_aload_n 113 X dX5_putPrinted_113 1 rfl rfl ?_
      refine ww_bipush 114 X (v := (125 : Int32)) dX5_putPrinted_114 (by decide) ?_
      obtain ⟨_, f116, h⟩ := bO_some h
      obtain ⟨M116, e116, h⟩ := bO_some h
      refine ww_callVV0 116 X dX5_putPrinted_116 mY_X0_put mL_X5_202 (rcv_spec f116) ⟨_, _, rfl⟩ (by decide) (As := [.int (125 : Int32)]) (rest := []) rfl rfl ⟨Nat.le_of_ble_eq_true rfl, Nat.le_of_ble_eq_true rfl⟩ (Nat.le_of_ble_eq_true rfl) (fun l D A => c_X0_put l D A e116) ?_
      exact ww_vretE 119 X hQ dX5_putPrinted_119 h
    · replace h := (if_pos q).symm.trans h
      refine ww_aload_n 46 X dX5_putPrinted_46 1 rfl rfl ?_
      refine ww_lds 47 X (j := 46) dX5_putPrinted_47 rfl ?_
      obtain ⟨_, f49, h⟩ := bO_some h
      obtain ⟨M49, e49, h⟩ := bO_some h
      refine ww_callVV0 49 X dX5_putPrinted_49 mY_X0_putText mL_X5_181 (rcv_spec f49) ⟨_, _, rfl⟩ (by decide) (As := [.ref (G.1 46)]) (rest := []) rfl rfl ⟨Nat.le_of_ble_eq_true rfl, Nat.le_of_ble_eq_true rfl⟩ (Nat.le_of_ble_eq_true rfl) (fun l D A => c_X0_putText l D A e49) ?_
      refine ww_aload_n 52 X dX5_putPrinted_52 1 rfl rfl ?_
      refine ww_aload_n 53 X dX5_putPrinted_53 0 rfl rfl ?_
      obtain ⟨v54, e54, h⟩ := bO_some h
      refine ww_getR 54 X dX5_putPrinted_54 fG_X5_26 e54 ?_
      refine ww_iconst 57 X (v := (0 : Int32)) dX5_putPrinted_57 (by decide) ?_
      refine ww_aload_n 58 X dX5_putPrinted_58 0 rfl rfl ?_
      obtain ⟨v59, e59, h⟩ := bO_some h
      refine ww_getR 59 X dX5_putPrinted_59 fG_X5_26 e59 ?_
      obtain ⟨v62, e62, h⟩ := bO_some h
      refine ww_getI 62 X dX5_putPrinted_62 fG_X5_173 e62 ?_
      obtain ⟨_, f65, h⟩ := bO_some h
      obtain ⟨M65, e65, h⟩ := bO_some h
      refine ww_callVV0 65 X dX5_putPrinted_65 mY_X0_putLetters mL_X5_185 (rcv_spec f65) ⟨_, _, rfl⟩ (by decide) (As := [.ref v54, .int (0 : Int32), .int v62]) (rest := []) rfl rfl ⟨Nat.le_of_ble_eq_true rfl, Nat.le_of_ble_eq_true rfl⟩ (Nat.le_of_ble_eq_true rfl) (fun l D A => c_X0_putLetters l D A e65) ?_
      refine ww_aload_n 68 X dX5_putPrinted_68 1 rfl rfl ?_
      refine ww_lds 69 X (j := 47) dX5_putPrinted_69 rfl ?_
      obtain ⟨_, f71, h⟩ := bO_some h
      obtain ⟨M71, e71, h⟩ := bO_some h
      refine ww_callVV0 71 X dX5_putPrinted_71 mY_X0_putText mL_X5_181 (rcv_spec f71) ⟨_, _, rfl⟩ (by decide) (As := [.ref (G.1 47)]) (rest := []) rfl rfl ⟨Nat.le_of_ble_eq_true rfl, Nat.le_of_ble_eq_true rfl⟩ (Nat.le_of_ble_eq_true rfl) (fun l D A => c_X0_putText l D A e71) ?_
      refine ww_aload_n 74 X dX5_putPrinted_74 1 rfl rfl ?_
      refine ww_aload_n 75 X dX5_putPrinted_75 0 rfl rfl ?_
      obtain ⟨v76, e76, h⟩ := bO_some h
      refine ww_getR 76 X dX5_putPrinted_76 fG_X5_22 e76 ?_
      refine ww_iconst 79 X (v := (0 : Int32)) dX5_putPrinted_79 (by decide) ?_
      refine ww_aload_n 80 X dX5_putPrinted_80 0 rfl rfl ?_
      obtain ⟨v81, e81, h⟩ := bO_some h
      refine ww_getR 81 X dX5_putPrinted_81 fG_X5_22 e81 ?_
      obtain ⟨v84, e84, h⟩ := bO_some h
      refine ww_getI 84 X dX5_putPrinted_84 fG_X5_173 e84 ?_
      obtain ⟨_, f87, h⟩ := bO_some h
      obtain ⟨M87, e87, h⟩ := bO_some h
      refine ww_callVV0 87 X dX5_putPrinted_87 mY_X0_putLetters mL_X5_185 (rcv_spec f87) ⟨_, _, rfl⟩ (by decide) (As := [.ref v76, .int (0 : Int32), .int v84]) (rest := []) rfl rfl ⟨Nat.le_of_ble_eq_true rfl, Nat.le_of_ble_eq_true rfl⟩ (Nat.le_of_ble_eq_true rfl) (fun l D A => c_X0_putLetters l D A e87) ?_
      refine ww_aload_n 90 X dX5_putPrinted_90 1 rfl rfl ?_
      refine ww_lds 91 X (j := 48) dX5_putPrinted_91 rfl ?_
      obtain ⟨_, f93, h⟩ := bO_some h
      obtain ⟨M93, e93, h⟩ := bO_some h
      refine ww_callVV0 93 X dX5_putPrinted_93 mY_X0_putText mL_X5_181 (rcv_spec f93) ⟨_, _, rfl⟩ (by decide) (As := [.ref (G.1 48)]) (rest := []) rfl rfl ⟨Nat.le_of_ble_eq_true rfl, Nat.le_of_ble_eq_true rfl⟩ (Nat.le_of_ble_eq_true rfl) (fun l D A => c_X0_putText l D A e93) ?_
      refine ww_goto 96 119 X dX5_putPrinted_96 (by decide) ?_
      exact ww_vretE 119 X hQ dX5_putPrinted_119 h
  · replace h := (if_pos q).symm.trans h
    refine ww_aload_n 7 X dX5_putPrinted_7 1 rfl rfl ?_
    refine ww_lds 8 X (j := 44) dX5_putPrinted_8 rfl ?_
    obtain ⟨_, f10, h⟩ := bO_some h
    obtain ⟨M10, e10, h⟩ := bO_some h
    refine ww_callVV0 10 X dX5_putPrinted_10 mY_X0_putText mL_X5_181 (rcv_spec f10) ⟨_, _, rfl⟩ (by decide) (As := [.ref (G.1 44)]) (rest := []) rfl rfl ⟨Nat.le_of_ble_eq_true rfl, Nat.le_of_ble_eq_true rfl⟩ (Nat.le_of_ble_eq_true rfl) (fun l D A => c_X0_putText l D A e10) ?_
    refine ww_aload_n 13 X dX5_putPrinted_13 1 rfl rfl ?_
    refine ww_aload_n 14 X dX5_putPrinted_14 0 rfl rfl ?_
    obtain ⟨v15, e15, h⟩ := bO_some h
    refine ww_getR 15 X dX5_putPrinted_15 fG_X5_22 e15 ?_
    refine ww_iconst 18 X (v := (0 : Int32)) dX5_putPrinted_18 (by decide) ?_
    refine ww_aload_n 19 X dX5_putPrinted_19 0 rfl rfl ?_
    obtain ⟨v20, e20, h⟩ := bO_some h
    refine ww_getR 20 X dX5_putPrinted_20 fG_X5_22 e20 ?_
    obtain ⟨v23, e23, h⟩ := bO_some h
    refine ww_getI 23 X dX5_putPrinted_23 fG_X5_173 e23 ?_
    obtain ⟨_, f26, h⟩ := bO_some h
    obtain ⟨M26, e26, h⟩ := bO_some h
    refine ww_callVV0 26 X dX5_putPrinted_26 mY_X0_putLetters mL_X5_185 (rcv_spec f26) ⟨_, _, rfl⟩ (by decide) (As := [.ref v15, .int (0 : Int32), .int v23]) (rest := []) rfl rfl ⟨Nat.le_of_ble_eq_true rfl, Nat.le_of_ble_eq_true rfl⟩ (Nat.le_of_ble_eq_true rfl) (fun l D A => c_X0_putLetters l D A e26) ?_
    refine ww_aload_n 29 X dX5_putPrinted_29 1 rfl rfl ?_
    refine ww_lds 30 X (j := 45) dX5_putPrinted_30 rfl ?_
    obtain ⟨_, f32, h⟩ := bO_some h
    obtain ⟨M32, e32, h⟩ := bO_some h
    refine ww_callVV0 32 X dX5_putPrinted_32 mY_X0_putText mL_X5_181 (rcv_spec f32) ⟨_, _, rfl⟩ (by decide) (As := [.ref (G.1 45)]) (rest := []) rfl rfl ⟨Nat.le_of_ble_eq_true rfl, Nat.le_of_ble_eq_true rfl⟩ (Nat.le_of_ble_eq_true rfl) (fun l D A => c_X0_putText l D A e32) ?_
    refine ww_goto 35 119 X dX5_putPrinted_35 (by decide) ?_
    exact ww_vretE 119 X hQ dX5_putPrinted_119 h
theorem c_X5_putPrinted {G : mG} {F sz : Nat} {M0 : mM} (l : Launch) (D : mD) (A : Nat → Prop) {l0 : Nat} {l1 : Nat} {M : mM} (h : P_X5_putPrinted G F l0 l1 M = some M0) : mMetV l D G A yX5_putPrinted cX5_putPrinted 2 none 6 132 0 0 [.ref l0, .ref l1] M sz M0 sz := mMetV_of l D G A (by decide) (Nat.le_of_ble_eq_true rfl) (fun x X hQ => wP_X5_putPrinted X hQ h)
/-! SealedTokens$Reader.<init>(LSealedTokens$Bytes;LSealedTokens$Text;)V -/
theorem dX7_init_0 : decode cX7_init 0 = .ok (.aload_n 0, 1) := by decide +kernel
theorem dX7_init_1 : decode cX7_init 1 = .ok (.invokespecial 3, 3) := by decide +kernel
theorem dX7_init_4 : decode cX7_init 4 = .ok (.aload_n 0, 1) := by decide +kernel
theorem dX7_init_5 : decode cX7_init 5 = .ok (.aload_n 1, 1) := by decide +kernel
theorem dX7_init_6 : decode cX7_init 6 = .ok (.putfield 9, 3) := by decide +kernel
theorem dX7_init_9 : decode cX7_init 9 = .ok (.aload_n 0, 1) := by decide +kernel
theorem dX7_init_10 : decode cX7_init 10 = .ok (.aload_n 2, 1) := by decide +kernel
theorem dX7_init_11 : decode cX7_init 11 = .ok (.putfield 15, 3) := by decide +kernel
theorem dX7_init_14 : decode cX7_init 14 = .ok (.return_, 1) := by decide +kernel
theorem mP_X7_init {G : mG} {F : Nat} {M0 : mM} {Z0 S0 : Nat} {l0 : Nat} {l1 : Nat} {l2 : Nat} {M : mM} {sz : Nat} {sl : Nat} (h : P_X7_init G F l0 l1 l2 M sz sl = some (M0, Z0, S0)) : sz ≤ Z0 ∧ sl ≤ S0 := by
  unfold P_X7_init at h
  obtain ⟨M6, e6, h⟩ := bO_some h
  obtain ⟨M11, e11, h⟩ := bO_some h
  have q := retA_v h
  omega
set_option maxHeartbeats 4000000 in
set_option maxRecDepth 100000 in
theorem wP_X7_init {G : mG} {F : Nat} {x : mXT} {z0 s0 : Nat} {M0 : mM} {Z0 S0 : Nat} (X : mCX G RX7 cX7_init 3 none "<init>" { frames := 1, cells := Z0 - z0, slots := S0 - s0, locals := 20 } x) (hQ : mQV x M0 (Z0, Z0 - z0, S0 - s0)) {l0 : Nat} {l1 : Nat} {l2 : Nat} {M : mM} {sz : Nat} {sl : Nat} (hz0 : z0 ≤ sz) (hs0 : s0 ≤ sl) (h : P_X7_init G F l0 l1 l2 M sz sl = some (M0, Z0, S0)) : WW x (sz, sz - z0, sl - s0) M 0 [(0, .ref l0), (1, .ref l1), (2, .ref l2)] [] := by
  unfold P_X7_init at h
  obtain ⟨M6, e6, h⟩ := bO_some h
  obtain ⟨M11, e11, h⟩ := bO_some h
  have q := retA_v h
  refine ww_aload_n 0 X dX7_init_0 0 rfl rfl ?_
  refine ww_objI 1 X (st := []) dX7_init_1 oL_X7_3 oI_i oI_c (Nat.le_of_ble_eq_true rfl) (Nat.le_of_ble_eq_true rfl) (Nat.le_of_ble_eq_true rfl) ?_
  refine ww_aload_n 4 X dX7_init_4 0 rfl rfl ?_
  refine ww_aload_n 5 X dX7_init_5 1 rfl rfl ?_
  refine ww_putR 6 X dX7_init_6 (fP_X7_9 _) e6 rfl rfl ?_
  refine ww_aload_n 9 X dX7_init_9 0 rfl rfl ?_
  refine ww_aload_n 10 X dX7_init_10 2 rfl rfl ?_
  refine ww_putR 11 X dX7_init_11 (fP_X7_15 _) e11 rfl rfl ?_
  exact ww_vretA 14 X hQ dX7_init_14 h
theorem c_X7_init {G : mG} {F : Nat} {M0 : mM} {Z0 S0 : Nat} (l : Launch) (D : mD) (A : Nat → Prop) {l0 : Nat} {l1 : Nat} {l2 : Nat} {M : mM} {sz : Nat} {sl : Nat} (h : P_X7_init G F l0 l1 l2 M sz sl = some (M0, Z0, S0)) : mMetV l D G A yX7_init cX7_init 3 none 1 20 (Z0 - sz) (S0 - sl) [.ref l0, .ref l1, .ref l2] M sz M0 Z0 := mMetV_of l D G A (by decide) (Nat.le_of_ble_eq_true rfl) (fun x X hQ => by have K := wP_X7_init X hQ (Nat.le_refl sz) (Nat.le_refl sl) h; rw [Nat.sub_self, Nat.sub_self] at K; exact K)
/-! SealedTokens$Text.clear()V -/
theorem dX9_clear_0 : decode cX9_clear 0 = .ok (.aload_n 0, 1) := by decide +kernel
theorem dX9_clear_1 : decode cX9_clear 1 = .ok (.iconst 0, 1) := by decide +kernel
theorem dX9_clear_2 : decode cX9_clear 2 = .ok (.putfield 48, 3) := by decide +kernel
theorem dX9_clear_5 : decode cX9_clear 5 = .ok (.aload_n 0, 1) := by decide +kernel
theorem dX9_clear_6 : decode cX9_clear 6 = .ok (.getfield 44, 3) := by decide +kernel
theorem dX9_clear_9 : decode cX9_clear 9 = .ok (.invokevirtual 52, 3) := by decide +kernel
theorem dX9_clear_12 : decode cX9_clear 12 = .ok (.return_, 1) := by decide +kernel
abbrev rmX9_clear : Room := { frames := 1, cells := 0, slots := 0, locals := 20 }
set_option maxHeartbeats 4000000 in
set_option maxRecDepth 100000 in
theorem wP_X9_clear {G : mG} {F : Nat} {x : mXT} {sz : Nat} {M0 : mM} (X : mCX G RX9 cX9_clear 1 none "clear" rmX9_clear x) (hQ : mQV x M0 (sz, 0, 0)) {l0 : Nat} {M : mM} (h : P_X9_clear G F l0 M = some M0) : WW x (sz, 0, 0) M 0 [(0, .ref l0)] [] := by
  unfold P_X9_clear at h
  refine ww_aload_n 0 X dX9_clear_0 0 rfl rfl ?_
  refine ww_iconst 1 X (v := (0 : Int32)) dX9_clear_1 (by decide) ?_
  obtain ⟨M2, e2, h⟩ := bO_some h
  refine ww_putI 2 X dX9_clear_2 (fP_X9_48 _) e2 ?_
  refine ww_aload_n 5 X dX9_clear_5 0 rfl rfl ?_
  obtain ⟨v6, e6, h⟩ := bO_some h
  refine ww_getR 6 X dX9_clear_6 fG_X9_44 e6 ?_
  obtain ⟨_, f9, h⟩ := bO_some h
  obtain ⟨M9, e9, h⟩ := bO_some h
  refine ww_callVV0 9 X dX9_clear_9 mY_X0_clear mL_X9_52 (rcv_spec f9) ⟨_, _, rfl⟩ (by decide) (As := []) (rest := []) rfl rfl ⟨Nat.le_of_ble_eq_true rfl, Nat.le_of_ble_eq_true rfl⟩ (Nat.le_of_ble_eq_true rfl) (fun l D A => c_X0_clear l D A e9) ?_
  exact ww_vretE 12 X hQ dX9_clear_12 h
theorem c_X9_clear {G : mG} {F sz : Nat} {M0 : mM} (l : Launch) (D : mD) (A : Nat → Prop) {l0 : Nat} {M : mM} (h : P_X9_clear G F l0 M = some M0) : mMetV l D G A yX9_clear cX9_clear 1 none 1 20 0 0 [.ref l0] M sz M0 sz := mMetV_of l D G A (by decide) (Nat.le_of_ble_eq_true rfl) (fun x X hQ => wP_X9_clear X hQ h)
/-! SealedTokens$Reader.isBlank(I)Z -/
theorem dX7_isBlank_0 : decode cX7_isBlank 0 = .ok (.iload_n 0, 1) := by decide +kernel
theorem dX7_isBlank_1 : decode cX7_isBlank 1 = .ok (.bipush 32, 2) := by decide +kernel
theorem dX7_isBlank_3 : decode cX7_isBlank 3 = .ok (.if_icmp .eq 21, 3) := by decide +kernel
theorem dX7_isBlank_6 : decode cX7_isBlank 6 = .ok (.iload_n 0, 1) := by decide +kernel
theorem dX7_isBlank_7 : decode cX7_isBlank 7 = .ok (.bipush 9, 2) := by decide +kernel
theorem dX7_isBlank_9 : decode cX7_isBlank 9 = .ok (.if_icmp .eq 15, 3) := by decide +kernel
theorem dX7_isBlank_12 : decode cX7_isBlank 12 = .ok (.iload_n 0, 1) := by decide +kernel
theorem dX7_isBlank_13 : decode cX7_isBlank 13 = .ok (.bipush 10, 2) := by decide +kernel
theorem dX7_isBlank_15 : decode cX7_isBlank 15 = .ok (.if_icmp .eq 9, 3) := by decide +kernel
theorem dX7_isBlank_18 : decode cX7_isBlank 18 = .ok (.iload_n 0, 1) := by decide +kernel
theorem dX7_isBlank_19 : decode cX7_isBlank 19 = .ok (.bipush 13, 2) := by decide +kernel
theorem dX7_isBlank_21 : decode cX7_isBlank 21 = .ok (.if_icmp .ne 7, 3) := by decide +kernel
theorem dX7_isBlank_24 : decode cX7_isBlank 24 = .ok (.iconst 1, 1) := by decide +kernel
theorem dX7_isBlank_25 : decode cX7_isBlank 25 = .ok (.goto 4, 3) := by decide +kernel
theorem dX7_isBlank_28 : decode cX7_isBlank 28 = .ok (.iconst 0, 1) := by decide +kernel
theorem dX7_isBlank_29 : decode cX7_isBlank 29 = .ok (.ireturn, 1) := by decide +kernel
abbrev rmX7_isBlank : Room := { frames := 0, cells := 0, slots := 0, locals := 0 }
set_option maxHeartbeats 4000000 in
set_option maxRecDepth 100000 in
theorem wP_X7_isBlank {G : mG} {F : Nat} {x : mXT} {sz : Nat} {r0 : Int32} {M0 : mM} (X : mCX G RX7 cX7_isBlank 1 (some .boolean) "isBlank" rmX7_isBlank x) (hQ : mQI x r0 M0 (sz, 0, 0)) {l0 : Int32} {M : mM} (h : P_X7_isBlank G F l0 M = some (r0, M0)) : WW x (sz, 0, 0) M 0 [(0, .int l0)] [] := by
  unfold P_X7_isBlank at h
  refine ww_iload_n 0 X dX7_isBlank_0 0 rfl rfl ?_
  refine ww_bipush 1 X (v := (32 : Int32)) dX7_isBlank_1 (by decide) ?_
  refine ww_icmp_eq 3 24 X dX7_isBlank_3 (by decide) (fun q => ?_) (fun q => ?_)
  · replace h := (if_pos q).symm.trans h
    refine ww_iconst 24 X (v := (1 : Int32)) dX7_isBlank_24 (by decide) ?_
    refine ww_goto 25 29 X dX7_isBlank_25 (by decide) ?_
    exact ww_zretE 29 X hQ dX7_isBlank_29 h
  · replace h := (if_neg q).symm.trans h
    refine ww_iload_n 6 X dX7_isBlank_6 0 rfl rfl ?_
    refine ww_bipush 7 X (v := (9 : Int32)) dX7_isBlank_7 (by decide) ?_
    refine ww_icmp_eq 9 24 X dX7_isBlank_9 (by decide) (fun q => ?_) (fun q => ?_)
    · replace h := (if_pos q).symm.trans h
      refine ww_iconst 24 X (v := (1 : Int32)) dX7_isBlank_24 (by decide) ?_
      refine ww_goto 25 29 X dX7_isBlank_25 (by decide) ?_
      exact ww_zretE 29 X hQ dX7_isBlank_29 h
    · replace h := (if_neg q).symm.trans h
      refine ww_iload_n 12 X dX7_isBlank_12 0 rfl rfl ?_
      refine ww_bipush 13 X (v := (10 : Int32)) dX7_isBlank_13 (by decide) ?_
      refine ww_icmp_eq 15 24 X dX7_isBlank_15 (by decide) (fun q => ?_) (fun q => ?_)
      · replace h := (if_pos q).symm.trans h
        refine ww_iconst 24 X (v := (1 : Int32)) dX7_isBlank_24 (by decide) ?_
        refine ww_goto 25 29 X dX7_isBlank_25 (by decide) ?_
        exact ww_zretE 29 X hQ dX7_isBlank_29 h
      · replace h := (if_neg q).symm.trans h
        refine ww_iload_n 18 X dX7_isBlank_18 0 rfl rfl ?_
        refine ww_bipush 19 X (v := (13 : Int32)) dX7_isBlank_19 (by decide) ?_
        refine ww_icmp_ne 21 28 X dX7_isBlank_21 (by decide) (fun q => ?_) (fun q => ?_)
        · replace h := (if_neg q).symm.trans h
          refine ww_iconst 28 X (v := (0 : Int32)) dX7_isBlank_28 (by decide) ?_
          exact ww_zretE 29 X hQ dX7_isBlank_29 h
        · replace h := (if_pos q).symm.trans h
          refine ww_iconst 24 X (v := (1 : Int32)) dX7_isBlank_24 (by decide) ?_
          refine ww_goto 25 29 X dX7_isBlank_25 (by decide) ?_
          exact ww_zretE 29 X hQ dX7_isBlank_29 h
theorem c_X7_isBlank {G : mG} {F sz : Nat} {r0 : Int32} {M0 : mM} (l : Launch) (D : mD) (A : Nat → Prop) {l0 : Int32} {M : mM} (h : P_X7_isBlank G F l0 M = some (r0, M0)) : mMetI l D G A yX7_isBlank cX7_isBlank 1 (some .boolean) 0 0 0 0 [.int l0] M sz r0 M0 sz := mMetI_of l D G A (by decide) (Nat.le_of_ble_eq_true rfl) (fun x X hQ => wP_X7_isBlank X hQ h)
/-! SealedTokens$Reader.skipBlanks()V -/
theorem dX7_skipBlanks_0 : decode cX7_skipBlanks 0 = .ok (.aload_n 0, 1) := by decide +kernel
theorem dX7_skipBlanks_1 : decode cX7_skipBlanks 1 = .ok (.getfield 24, 3) := by decide +kernel
theorem dX7_skipBlanks_4 : decode cX7_skipBlanks 4 = .ok (.aload_n 0, 1) := by decide +kernel
theorem dX7_skipBlanks_5 : decode cX7_skipBlanks 5 = .ok (.getfield 9, 3) := by decide +kernel
theorem dX7_skipBlanks_8 : decode cX7_skipBlanks 8 = .ok (.getfield 40, 3) := by decide +kernel
theorem dX7_skipBlanks_11 : decode cX7_skipBlanks 11 = .ok (.if_icmp .ge 33, 3) := by decide +kernel
theorem dX7_skipBlanks_14 : decode cX7_skipBlanks 14 = .ok (.aload_n 0, 1) := by decide +kernel
theorem dX7_skipBlanks_15 : decode cX7_skipBlanks 15 = .ok (.getfield 9, 3) := by decide +kernel
theorem dX7_skipBlanks_18 : decode cX7_skipBlanks 18 = .ok (.aload_n 0, 1) := by decide +kernel
theorem dX7_skipBlanks_19 : decode cX7_skipBlanks 19 = .ok (.getfield 24, 3) := by decide +kernel
theorem dX7_skipBlanks_22 : decode cX7_skipBlanks 22 = .ok (.invokevirtual 72, 3) := by decide +kernel
theorem dX7_skipBlanks_25 : decode cX7_skipBlanks 25 = .ok (.invokestatic 75, 3) := by decide +kernel
theorem dX7_skipBlanks_28 : decode cX7_skipBlanks 28 = .ok (.ifCond .eq 16, 3) := by decide +kernel
theorem dX7_skipBlanks_31 : decode cX7_skipBlanks 31 = .ok (.aload_n 0, 1) := by decide +kernel
theorem dX7_skipBlanks_32 : decode cX7_skipBlanks 32 = .ok (.dup, 1) := by decide +kernel
theorem dX7_skipBlanks_33 : decode cX7_skipBlanks 33 = .ok (.getfield 24, 3) := by decide +kernel
theorem dX7_skipBlanks_36 : decode cX7_skipBlanks 36 = .ok (.iconst 1, 1) := by decide +kernel
theorem dX7_skipBlanks_37 : decode cX7_skipBlanks 37 = .ok (.iadd, 1) := by decide +kernel
theorem dX7_skipBlanks_38 : decode cX7_skipBlanks 38 = .ok (.putfield 24, 3) := by decide +kernel
theorem dX7_skipBlanks_41 : decode cX7_skipBlanks 41 = .ok (.goto (-41), 3) := by decide +kernel
theorem dX7_skipBlanks_44 : decode cX7_skipBlanks 44 = .ok (.return_, 1) := by decide +kernel
abbrev rmX7_skipBlanks : Room := { frames := 1, cells := 0, slots := 0, locals := 21 }
set_option maxHeartbeats 4000000 in
set_option maxRecDepth 100000 in
theorem wB_X7_skipBlanks_0 {G : mG} {F : Nat} {x : mXT} {sz : Nat} {M0 : mM} (X : mCX G RX7 cX7_skipBlanks 1 none "skipBlanks" rmX7_skipBlanks x) (hQ : mQV x M0 (sz, 0, 0)) : ∀ (n : Nat) (l0 : Nat) (M : mM), B_X7_skipBlanks_0 G F n l0 M = some M0 → WW x (sz, 0, 0) M 0 [(0, .ref l0)] [] := by
  intro n
  induction n with
  | zero =>
    intro l0 M h
    exact nomatch (show (none : Option mM) = some M0 from h)
  | succ n ih =>
    intro l0 M h
    rw [B_X7_skipBlanks_0] at h
    refine ww_aload_n 0 X dX7_skipBlanks_0 0 rfl rfl ?_
    obtain ⟨v1, e1, h⟩ := bO_some h
    refine ww_getI 1 X dX7_skipBlanks_1 fG_X7_24 e1 ?_
    refine ww_aload_n 4 X dX7_skipBlanks_4 0 rfl rfl ?_
    obtain ⟨v5, e5, h⟩ := bO_some h
    refine ww_getR 5 X dX7_skipBlanks_5 fG_X7_9 e5 ?_
    obtain ⟨v8, e8, h⟩ := bO_some h
    refine ww_getI 8 X dX7_skipBlanks_8 fG_X7_40 e8 ?_
    refine ww_icmp_ge 11 44 X dX7_skipBlanks_11 (by decide) (fun q => ?_) (fun q => ?_)
    · replace h := (if_pos q).symm.trans h
      exact ww_vretE 44 X hQ dX7_skipBlanks_44 h
    · replace h := (if_neg q).symm.trans h
      refine ww_aload_n 14 X dX7_skipBlanks_14 0 rfl rfl ?_
      obtain ⟨v15, e15, h⟩ := bO_some h
      refine ww_getR 15 X dX7_skipBlanks_15 fG_X7_9 e15 ?_
      refine ww_aload_n 18 X dX7_skipBlanks_18 0 rfl rfl ?_
      obtain ⟨v19, e19, h⟩ := bO_some h
      refine ww_getI 19 X dX7_skipBlanks_19 fG_X7_24 e19 ?_
      obtain ⟨_, f22, h⟩ := bO_some h
      obtain ⟨v22, M22, e22, h⟩ := bP_some h
      refine ww_callVI0 22 X dX7_skipBlanks_22 mY_X0_get mL_X7_72 (rcv_spec f22) ⟨_, _, rfl⟩ (by decide) (As := [.int v19]) (rest := []) rfl rfl ⟨Nat.le_of_ble_eq_true rfl, Nat.le_of_ble_eq_true rfl⟩ (Nat.le_of_ble_eq_true rfl) (fun l D A => c_X0_get l D A e22) ?_
      obtain ⟨v25, M25, e25, h⟩ := bP_some h
      refine ww_callSI0 25 X dX7_skipBlanks_25 mY_X7_isBlank mL_X7_75 (As := [.int v22]) (rest := []) rfl rfl ⟨Nat.le_of_ble_eq_true rfl, Nat.le_of_ble_eq_true rfl⟩ (Nat.le_of_ble_eq_true rfl) (fun l D A => c_X7_isBlank l D A e25) ?_
      refine ww_if_eq 28 44 X dX7_skipBlanks_28 (by decide) (fun q => ?_) (fun q => ?_)
      · replace h := (if_pos q).symm.trans h
        exact ww_vretE 44 X hQ dX7_skipBlanks_44 h
      · replace h := (if_neg q).symm.trans h
        refine ww_aload_n 31 X dX7_skipBlanks_31 0 rfl rfl ?_
        refine ww_dup 32 X dX7_skipBlanks_32 rfl ?_
        obtain ⟨v33, e33, h⟩ := bO_some h
        refine ww_getI 33 X dX7_skipBlanks_33 fG_X7_24 e33 ?_
        refine ww_iconst 36 X (v := (1 : Int32)) dX7_skipBlanks_36 (by decide) ?_
        refine ww_iadd 37 X dX7_skipBlanks_37 ?_
        obtain ⟨M38, e38, h⟩ := bO_some h
        refine ww_putI 38 X dX7_skipBlanks_38 (fP_X7_24 _) e38 ?_
        refine ww_goto 41 0 X dX7_skipBlanks_41 (by decide) ?_
        exact (ih _ _ h)
theorem c_X7_skipBlanks {G : mG} {F sz : Nat} {M0 : mM} (l : Launch) (D : mD) (A : Nat → Prop) {l0 : Nat} {M : mM} (h : P_X7_skipBlanks G F l0 M = some M0) : mMetV l D G A yX7_skipBlanks cX7_skipBlanks 1 none 1 21 0 0 [.ref l0] M sz M0 sz := mMetV_of l D G A (by decide) (Nat.le_of_ble_eq_true rfl) (fun x X hQ => wB_X7_skipBlanks_0 X hQ F _ _ h)
/-! SealedTokens$Reader.kindBegunBy(I)I -/
theorem dX7_kindBegunBy_0 : decode cX7_kindBegunBy 0 = .ok (.iload_n 0, 1) := by decide +kernel
theorem dX7_kindBegunBy_1 : decode cX7_kindBegunBy 1 = .ok (.lookupswitch 72 #[(34, 65), (91, 67), (102, 61), (110, 59), (116, 63), (123, 69)], 59) := by decide +kernel
theorem dX7_kindBegunBy_60 : decode cX7_kindBegunBy 60 = .ok (.iconst 0, 1) := by decide +kernel
theorem dX7_kindBegunBy_61 : decode cX7_kindBegunBy 61 = .ok (.ireturn, 1) := by decide +kernel
theorem dX7_kindBegunBy_62 : decode cX7_kindBegunBy 62 = .ok (.iconst 1, 1) := by decide +kernel
theorem dX7_kindBegunBy_63 : decode cX7_kindBegunBy 63 = .ok (.ireturn, 1) := by decide +kernel
theorem dX7_kindBegunBy_64 : decode cX7_kindBegunBy 64 = .ok (.iconst 2, 1) := by decide +kernel
theorem dX7_kindBegunBy_65 : decode cX7_kindBegunBy 65 = .ok (.ireturn, 1) := by decide +kernel
theorem dX7_kindBegunBy_66 : decode cX7_kindBegunBy 66 = .ok (.iconst 4, 1) := by decide +kernel
theorem dX7_kindBegunBy_67 : decode cX7_kindBegunBy 67 = .ok (.ireturn, 1) := by decide +kernel
theorem dX7_kindBegunBy_68 : decode cX7_kindBegunBy 68 = .ok (.iconst 5, 1) := by decide +kernel
theorem dX7_kindBegunBy_69 : decode cX7_kindBegunBy 69 = .ok (.ireturn, 1) := by decide +kernel
theorem dX7_kindBegunBy_70 : decode cX7_kindBegunBy 70 = .ok (.bipush 6, 2) := by decide +kernel
theorem dX7_kindBegunBy_72 : decode cX7_kindBegunBy 72 = .ok (.ireturn, 1) := by decide +kernel
theorem dX7_kindBegunBy_73 : decode cX7_kindBegunBy 73 = .ok (.iload_n 0, 1) := by decide +kernel
theorem dX7_kindBegunBy_74 : decode cX7_kindBegunBy 74 = .ok (.bipush 45, 2) := by decide +kernel
theorem dX7_kindBegunBy_76 : decode cX7_kindBegunBy 76 = .ok (.if_icmp .eq 15, 3) := by decide +kernel
theorem dX7_kindBegunBy_79 : decode cX7_kindBegunBy 79 = .ok (.iload_n 0, 1) := by decide +kernel
theorem dX7_kindBegunBy_80 : decode cX7_kindBegunBy 80 = .ok (.bipush 48, 2) := by decide +kernel
theorem dX7_kindBegunBy_82 : decode cX7_kindBegunBy 82 = .ok (.if_icmp .lt 13, 3) := by decide +kernel
theorem dX7_kindBegunBy_85 : decode cX7_kindBegunBy 85 = .ok (.iload_n 0, 1) := by decide +kernel
theorem dX7_kindBegunBy_86 : decode cX7_kindBegunBy 86 = .ok (.bipush 57, 2) := by decide +kernel
theorem dX7_kindBegunBy_88 : decode cX7_kindBegunBy 88 = .ok (.if_icmp .gt 7, 3) := by decide +kernel
theorem dX7_kindBegunBy_91 : decode cX7_kindBegunBy 91 = .ok (.iconst 3, 1) := by decide +kernel
theorem dX7_kindBegunBy_92 : decode cX7_kindBegunBy 92 = .ok (.goto 4, 3) := by decide +kernel
theorem dX7_kindBegunBy_95 : decode cX7_kindBegunBy 95 = .ok (.iconst (-1), 1) := by decide +kernel
theorem dX7_kindBegunBy_96 : decode cX7_kindBegunBy 96 = .ok (.ireturn, 1) := by decide +kernel
abbrev rmX7_kindBegunBy : Room := { frames := 0, cells := 0, slots := 0, locals := 0 }
set_option maxHeartbeats 4000000 in
set_option maxRecDepth 100000 in
theorem wP_X7_kindBegunBy {G : mG} {F : Nat} {x : mXT} {sz : Nat} {r0 : Int32} {M0 : mM} (X : mCX G RX7 cX7_kindBegunBy 1 (some .int) "kindBegunBy" rmX7_kindBegunBy x) (hQ : mQI x r0 M0 (sz, 0, 0)) {l0 : Int32} {M : mM} (h : P_X7_kindBegunBy G F l0 M = some (r0, M0)) : WW x (sz, 0, 0) M 0 [(0, .int l0)] [] := by
  unfold P_X7_kindBegunBy at h
  refine ww_iload_n 0 X dX7_kindBegunBy_0 0 rfl rfl ?_
  by_cases q34 : l0 = (34 : Int32)
  · replace h := (if_pos q34).symm.trans h
    refine ww_lookup 1 66 X dX7_kindBegunBy_1 (off := 65) (by decide) (by rw [q34]; decide) (by decide) ?_
    refine ww_iconst 66 X (v := (4 : Int32)) dX7_kindBegunBy_66 (by decide) ?_
    exact ww_iretE 67 X hQ dX7_kindBegunBy_67 h
  · replace h := (if_neg q34).symm.trans h
    by_cases q91 : l0 = (91 : Int32)
    · replace h := (if_pos q91).symm.trans h
      refine ww_lookup 1 68 X dX7_kindBegunBy_1 (off := 67) (by decide) (by rw [q91]; decide) (by decide) ?_
      refine ww_iconst 68 X (v := (5 : Int32)) dX7_kindBegunBy_68 (by decide) ?_
      exact ww_iretE 69 X hQ dX7_kindBegunBy_69 h
    · replace h := (if_neg q91).symm.trans h
      by_cases q102 : l0 = (102 : Int32)
      · replace h := (if_pos q102).symm.trans h
        refine ww_lookup 1 62 X dX7_kindBegunBy_1 (off := 61) (by decide) (by rw [q102]; decide) (by decide) ?_
        refine ww_iconst 62 X (v := (1 : Int32)) dX7_kindBegunBy_62 (by decide) ?_
        exact ww_iretE 63 X hQ dX7_kindBegunBy_63 h
      · replace h := (if_neg q102).symm.trans h
        by_cases q110 : l0 = (110 : Int32)
        · replace h := (if_pos q110).symm.trans h
          refine ww_lookup 1 60 X dX7_kindBegunBy_1 (off := 59) (by decide) (by rw [q110]; decide) (by decide) ?_
          refine ww_iconst 60 X (v := (0 : Int32)) dX7_kindBegunBy_60 (by decide) ?_
          exact ww_iretE 61 X hQ dX7_kindBegunBy_61 h
        · replace h := (if_neg q110).symm.trans h
          by_cases q116 : l0 = (116 : Int32)
          · replace h := (if_pos q116).symm.trans h
            refine ww_lookup 1 64 X dX7_kindBegunBy_1 (off := 63) (by decide) (by rw [q116]; decide) (by decide) ?_
            refine ww_iconst 64 X (v := (2 : Int32)) dX7_kindBegunBy_64 (by decide) ?_
            exact ww_iretE 65 X hQ dX7_kindBegunBy_65 h
          · replace h := (if_neg q116).symm.trans h
            by_cases q123 : l0 = (123 : Int32)
            · replace h := (if_pos q123).symm.trans h
              refine ww_lookup 1 70 X dX7_kindBegunBy_1 (off := 69) (by decide) (by rw [q123]; decide) (by decide) ?_
              refine ww_bipush 70 X (v := (6 : Int32)) dX7_kindBegunBy_70 (by decide) ?_
              exact ww_iretE 72 X hQ dX7_kindBegunBy_72 h
            · replace h := (if_neg q123).symm.trans h
              refine ww_lookup 1 73 X dX7_kindBegunBy_1 (off := 72) (by decide) (by show Op.lookupswitch.offset [(34, 65), (91, 67), (102, 61), (110, 59), (116, 63), (123, 69)] 72 _ = _; rw [lv_osw q34 (show (34 : Int32).toInt = 34 by decide), lv_osw q91 (show (91 : Int32).toInt = 91 by decide), lv_osw q102 (show (102 : Int32).toInt = 102 by decide), lv_osw q110 (show (110 : Int32).toInt = 110 by decide), lv_osw q116 (show (116 : Int32).toInt = 116 by decide), lv_osw q123 (show (123 : Int32).toInt = 123 by decide)]; rfl) (by decide) ?_
              refine ww_iload_n 73 X dX7_kindBegunBy_73 0 rfl rfl ?_
              refine ww_bipush 74 X (v := (45 : Int32)) dX7_kindBegunBy_74 (by decide) ?_
              refine ww_icmp_eq 76 91 X dX7_kindBegunBy_76 (by decide) (fun q => ?_) (fun q => ?_)
              · replace h := (if_pos q).symm.trans h
                refine ww_iconst 91 X (v := (3 : Int32)) dX7_kindBegunBy_91 (by decide) ?_
                refine ww_goto 92 96 X dX7_kindBegunBy_92 (by decide) ?_
                exact ww_iretE 96 X hQ dX7_kindBegunBy_96 h
              · replace h := (if_neg q).symm.trans h
                refine ww_iload_n 79 X dX7_kindBegunBy_79 0 rfl rfl ?_
                refine ww_bipush 80 X (v := (48 : Int32)) dX7_kindBegunBy_80 (by decide) ?_
                refine ww_icmp_lt 82 95 X dX7_kindBegunBy_82 (by decide) (fun q => ?_) (fun q => ?_)
                · replace h := (if_pos q).symm.trans h
                  refine ww_iconst 95 X (v := (-1 : Int32)) dX7_kindBegunBy_95 (by decide) ?_
                  exact ww_iretE 96 X hQ dX7_kindBegunBy_96 h
                · replace h := (if_neg q).symm.trans h
                  refine ww_iload_n 85 X dX7_kindBegunBy_85 0 rfl rfl ?_
                  refine ww_bipush 86 X (v := (57 : Int32)) dX7_kindBegunBy_86 (by decide) ?_
                  refine ww_icmp_gt 88 95 X dX7_kindBegunBy_88 (by decide) (fun q => ?_) (fun q => ?_)
                  · replace h := (if_pos q).symm.trans h
                    refine ww_iconst 95 X (v := (-1 : Int32)) dX7_kindBegunBy_95 (by decide) ?_
                    exact ww_iretE 96 X hQ dX7_kindBegunBy_96 h
                  · replace h := (if_neg q).symm.trans h
                    refine ww_iconst 91 X (v := (3 : Int32)) dX7_kindBegunBy_91 (by decide) ?_
                    refine ww_goto 92 96 X dX7_kindBegunBy_92 (by decide) ?_
                    exact ww_iretE 96 X hQ dX7_kindBegunBy_96 h
theorem c_X7_kindBegunBy {G : mG} {F sz : Nat} {r0 : Int32} {M0 : mM} (l : Launch) (D : mD) (A : Nat → Prop) {l0 : Int32} {M : mM} (h : P_X7_kindBegunBy G F l0 M = some (r0, M0)) : mMetI l D G A yX7_kindBegunBy cX7_kindBegunBy 1 (some .int) 0 0 0 0 [.int l0] M sz r0 M0 sz := mMetI_of l D G A (by decide) (Nat.le_of_ble_eq_true rfl) (fun x X hQ => wP_X7_kindBegunBy X hQ h)
/-! SealedTokens$Reader.wrong(I)Z -/
theorem dX7_wrong_0 : decode cX7_wrong 0 = .ok (.aload_n 0, 1) := by decide +kernel
theorem dX7_wrong_1 : decode cX7_wrong 1 = .ok (.iload_n 1, 1) := by decide +kernel
theorem dX7_wrong_2 : decode cX7_wrong 2 = .ok (.putfield 28, 3) := by decide +kernel
theorem dX7_wrong_5 : decode cX7_wrong 5 = .ok (.iconst 0, 1) := by decide +kernel
theorem dX7_wrong_6 : decode cX7_wrong 6 = .ok (.ireturn, 1) := by decide +kernel
abbrev rmX7_wrong : Room := { frames := 0, cells := 0, slots := 0, locals := 0 }
set_option maxHeartbeats 4000000 in
set_option maxRecDepth 100000 in
theorem wP_X7_wrong {G : mG} {F : Nat} {x : mXT} {sz : Nat} {r0 : Int32} {M0 : mM} (X : mCX G RX7 cX7_wrong 2 (some .boolean) "wrong" rmX7_wrong x) (hQ : mQI x r0 M0 (sz, 0, 0)) {l0 : Nat} {l1 : Int32} {M : mM} (h : P_X7_wrong G F l0 l1 M = some (r0, M0)) : WW x (sz, 0, 0) M 0 [(0, .ref l0), (1, .int l1)] [] := by
  unfold P_X7_wrong at h
  refine ww_aload_n 0 X dX7_wrong_0 0 rfl rfl ?_
  refine ww_iload_n 1 X dX7_wrong_1 1 rfl rfl ?_
  obtain ⟨M2, e2, h⟩ := bO_some h
  refine ww_putI 2 X dX7_wrong_2 (fP_X7_28 _) e2 ?_
  refine ww_iconst 5 X (v := (0 : Int32)) dX7_wrong_5 (by decide) ?_
  exact ww_zretE 6 X hQ dX7_wrong_6 h
theorem c_X7_wrong {G : mG} {F sz : Nat} {r0 : Int32} {M0 : mM} (l : Launch) (D : mD) (A : Nat → Prop) {l0 : Nat} {l1 : Int32} {M : mM} (h : P_X7_wrong G F l0 l1 M = some (r0, M0)) : mMetI l D G A yX7_wrong cX7_wrong 2 (some .boolean) 0 0 0 0 [.ref l0, .int l1] M sz r0 M0 sz := mMetI_of l D G A (by decide) (Nat.le_of_ble_eq_true rfl) (fun x X hQ => wP_X7_wrong X hQ h)
/-! SealedTokens$Text.begin(III)I -/
theorem dX9_begin_0 : decode cX9_begin 0 = .ok (.aload_n 0, 1) := by decide +kernel
theorem dX9_begin_1 : decode cX9_begin 1 = .ok (.getfield 48, 3) := by decide +kernel
theorem dX9_begin_4 : decode cX9_begin 4 = .ok (.istore 4, 2) := by decide +kernel
theorem dX9_begin_6 : decode cX9_begin 6 = .ok (.aload_n 0, 1) := by decide +kernel
theorem dX9_begin_7 : decode cX9_begin 7 = .ok (.dup, 1) := by decide +kernel
theorem dX9_begin_8 : decode cX9_begin 8 = .ok (.getfield 48, 3) := by decide +kernel
theorem dX9_begin_11 : decode cX9_begin 11 = .ok (.iconst 1, 1) := by decide +kernel
theorem dX9_begin_12 : decode cX9_begin 12 = .ok (.iadd, 1) := by decide +kernel
theorem dX9_begin_13 : decode cX9_begin 13 = .ok (.putfield 48, 3) := by decide +kernel
theorem dX9_begin_16 : decode cX9_begin 16 = .ok (.aload_n 0, 1) := by decide +kernel
theorem dX9_begin_17 : decode cX9_begin 17 = .ok (.getfield 11, 3) := by decide +kernel
theorem dX9_begin_20 : decode cX9_begin 20 = .ok (.iload 4, 2) := by decide +kernel
theorem dX9_begin_22 : decode cX9_begin 22 = .ok (.iload_n 1, 1) := by decide +kernel
theorem dX9_begin_23 : decode cX9_begin 23 = .ok (.iastore, 1) := by decide +kernel
theorem dX9_begin_24 : decode cX9_begin 24 = .ok (.aload_n 0, 1) := by decide +kernel
theorem dX9_begin_25 : decode cX9_begin 25 = .ok (.getfield 21, 3) := by decide +kernel
theorem dX9_begin_28 : decode cX9_begin 28 = .ok (.iload 4, 2) := by decide +kernel
theorem dX9_begin_30 : decode cX9_begin 30 = .ok (.iload_n 2, 1) := by decide +kernel
theorem dX9_begin_31 : decode cX9_begin 31 = .ok (.iastore, 1) := by decide +kernel
theorem dX9_begin_32 : decode cX9_begin 32 = .ok (.aload_n 0, 1) := by decide +kernel
theorem dX9_begin_33 : decode cX9_begin 33 = .ok (.getfield 15, 3) := by decide +kernel
theorem dX9_begin_36 : decode cX9_begin 36 = .ok (.iload 4, 2) := by decide +kernel
theorem dX9_begin_38 : decode cX9_begin 38 = .ok (.iload_n 3, 1) := by decide +kernel
theorem dX9_begin_39 : decode cX9_begin 39 = .ok (.iastore, 1) := by decide +kernel
theorem dX9_begin_40 : decode cX9_begin 40 = .ok (.aload_n 0, 1) := by decide +kernel
theorem dX9_begin_41 : decode cX9_begin 41 = .ok (.getfield 24, 3) := by decide +kernel
theorem dX9_begin_44 : decode cX9_begin 44 = .ok (.iload 4, 2) := by decide +kernel
theorem dX9_begin_46 : decode cX9_begin 46 = .ok (.iconst 0, 1) := by decide +kernel
theorem dX9_begin_47 : decode cX9_begin 47 = .ok (.iastore, 1) := by decide +kernel
theorem dX9_begin_48 : decode cX9_begin 48 = .ok (.aload_n 0, 1) := by decide +kernel
theorem dX9_begin_49 : decode cX9_begin 49 = .ok (.getfield 27, 3) := by decide +kernel
theorem dX9_begin_52 : decode cX9_begin 52 = .ok (.iload 4, 2) := by decide +kernel
theorem dX9_begin_54 : decode cX9_begin 54 = .ok (.aload_n 0, 1) := by decide +kernel
theorem dX9_begin_55 : decode cX9_begin 55 = .ok (.getfield 44, 3) := by decide +kernel
theorem dX9_begin_58 : decode cX9_begin 58 = .ok (.getfield 59, 3) := by decide +kernel
theorem dX9_begin_61 : decode cX9_begin 61 = .ok (.iastore, 1) := by decide +kernel
theorem dX9_begin_62 : decode cX9_begin 62 = .ok (.aload_n 0, 1) := by decide +kernel
theorem dX9_begin_63 : decode cX9_begin 63 = .ok (.getfield 30, 3) := by decide +kernel
theorem dX9_begin_66 : decode cX9_begin 66 = .ok (.iload 4, 2) := by decide +kernel
theorem dX9_begin_68 : decode cX9_begin 68 = .ok (.iconst 0, 1) := by decide +kernel
theorem dX9_begin_69 : decode cX9_begin 69 = .ok (.iastore, 1) := by decide +kernel
theorem dX9_begin_70 : decode cX9_begin 70 = .ok (.aload_n 0, 1) := by decide +kernel
theorem dX9_begin_71 : decode cX9_begin 71 = .ok (.getfield 18, 3) := by decide +kernel
theorem dX9_begin_74 : decode cX9_begin 74 = .ok (.iload 4, 2) := by decide +kernel
theorem dX9_begin_76 : decode cX9_begin 76 = .ok (.iconst 0, 1) := by decide +kernel
theorem dX9_begin_77 : decode cX9_begin 77 = .ok (.iastore, 1) := by decide +kernel
theorem dX9_begin_78 : decode cX9_begin 78 = .ok (.iload_n 3, 1) := by decide +kernel
theorem dX9_begin_79 : decode cX9_begin 79 = .ok (.ifCond .lt 26, 3) := by decide +kernel
theorem dX9_begin_82 : decode cX9_begin 82 = .ok (.aload_n 0, 1) := by decide +kernel
theorem dX9_begin_83 : decode cX9_begin 83 = .ok (.getfield 18, 3) := by decide +kernel
theorem dX9_begin_86 : decode cX9_begin 86 = .ok (.iload 4, 2) := by decide +kernel
theorem dX9_begin_88 : decode cX9_begin 88 = .ok (.aload_n 0, 1) := by decide +kernel
theorem dX9_begin_89 : decode cX9_begin 89 = .ok (.getfield 24, 3) := by decide +kernel
theorem dX9_begin_92 : decode cX9_begin 92 = .ok (.iload_n 3, 1) := by decide +kernel
theorem dX9_begin_93 : decode cX9_begin 93 = .ok (.iaload, 1) := by decide +kernel
theorem dX9_begin_94 : decode cX9_begin 94 = .ok (.iastore, 1) := by decide +kernel
theorem dX9_begin_95 : decode cX9_begin 95 = .ok (.aload_n 0, 1) := by decide +kernel
theorem dX9_begin_96 : decode cX9_begin 96 = .ok (.getfield 24, 3) := by decide +kernel
theorem dX9_begin_99 : decode cX9_begin 99 = .ok (.iload_n 3, 1) := by decide +kernel
theorem dX9_begin_100 : decode cX9_begin 100 = .ok (.dup2, 1) := by decide +kernel
theorem dX9_begin_101 : decode cX9_begin 101 = .ok (.iaload, 1) := by decide +kernel
theorem dX9_begin_102 : decode cX9_begin 102 = .ok (.iconst 1, 1) := by decide +kernel
theorem dX9_begin_103 : decode cX9_begin 103 = .ok (.iadd, 1) := by decide +kernel
theorem dX9_begin_104 : decode cX9_begin 104 = .ok (.iastore, 1) := by decide +kernel
theorem dX9_begin_105 : decode cX9_begin 105 = .ok (.iload 4, 2) := by decide +kernel
theorem dX9_begin_107 : decode cX9_begin 107 = .ok (.ireturn, 1) := by decide +kernel
abbrev rmX9_begin : Room := { frames := 0, cells := 0, slots := 0, locals := 0 }
set_option maxHeartbeats 4000000 in
set_option maxRecDepth 100000 in
theorem wP_X9_begin {G : mG} {F : Nat} {x : mXT} {sz : Nat} {r0 : Int32} {M0 : mM} (X : mCX G RX9 cX9_begin 5 (some .int) "begin" rmX9_begin x) (hQ : mQI x r0 M0 (sz, 0, 0)) {l0 : Nat} {l1 : Int32} {l2 : Int32} {l3 : Int32} {M : mM} (h : P_X9_begin G F l0 l1 l2 l3 M = some (r0, M0)) : WW x (sz, 0, 0) M 0 [(0, .ref l0), (1, .int l1), (2, .int l2), (3, .int l3)] [] := by
  unfold P_X9_begin at h
  refine ww_aload_n 0 X dX9_begin_0 0 rfl rfl ?_
  obtain ⟨v1, e1, h⟩ := bO_some h
  refine ww_getI 1 X dX9_begin_1 fG_X9_48 e1 ?_
  refine ww_istore 4 X dX9_begin_4 (lv' := [(0, .ref l0), (1, .int l1), (2, .int l2), (3, .int l3), (4, .int v1)]) (by decide) [1, 2, 3, 4, 0] rfl ?_
  refine ww_aload_n 6 X dX9_begin_6 0 rfl rfl ?_
  refine ww_dup 7 X dX9_begin_7 rfl ?_
  obtain ⟨v8, e8, h⟩ := bO_some h
  refine ww_getI 8 X dX9_begin_8 fG_X9_48 e8 ?_
  refine ww_iconst 11 X (v := (1 : Int32)) dX9_begin_11 (by decide) ?_
  refine ww_iadd 12 X dX9_begin_12 ?_
  obtain ⟨M13, e13, h⟩ := bO_some h
  refine ww_putI 13 X dX9_begin_13 (fP_X9_48 _) e13 ?_
  refine ww_aload_n 16 X dX9_begin_16 0 rfl rfl ?_
  obtain ⟨v17, e17, h⟩ := bO_some h
  refine ww_getR 17 X dX9_begin_17 fG_X9_11 e17 ?_
  refine ww_iload 20 X dX9_begin_20 4 rfl ?_
  refine ww_iload_n 22 X dX9_begin_22 1 rfl rfl ?_
  obtain ⟨M23, e23, h⟩ := bO_some h
  refine ww_iast 23 X dX9_begin_23 e23 ?_
  refine ww_aload_n 24 X dX9_begin_24 0 rfl rfl ?_
  obtain ⟨v25, e25, h⟩ := bO_some h
  refine ww_getR 25 X dX9_begin_25 fG_X9_21 e25 ?_
  refine ww_iload 28 X dX9_begin_28 4 rfl ?_
  refine ww_iload_n 30 X dX9_begin_30 2 rfl rfl ?_
  obtain ⟨M31, e31, h⟩ := bO_some h
  refine ww_iast 31 X dX9_begin_31 e31 ?_
  refine ww_aload_n 32 X dX9_begin_32 0 rfl rfl ?_
  obtain ⟨v33, e33, h⟩ := bO_some h
  refine ww_getR 33 X dX9_begin_33 fG_X9_15 e33 ?_
  refine ww_iload 36 X dX9_begin_36 4 rfl ?_
  refine ww_iload_n 38 X dX9_begin_38 3 rfl rfl ?_
  obtain ⟨M39, e39, h⟩ := bO_some h
  refine ww_iast 39 X dX9_begin_39 e39 ?_
  refine ww_aload_n 40 X dX9_begin_40 0 rfl rfl ?_
  obtain ⟨v41, e41, h⟩ := bO_some h
  refine ww_getR 41 X dX9_begin_41 fG_X9_24 e41 ?_
  refine ww_iload 44 X dX9_begin_44 4 rfl ?_
  refine ww_iconst 46 X (v := (0 : Int32)) dX9_begin_46 (by decide) ?_
  obtain ⟨M47, e47, h⟩ := bO_some h
  refine ww_iast 47 X dX9_begin_47 e47 ?_
  refine ww_aload_n 48 X dX9_begin_48 0 rfl rfl ?_
  obtain ⟨v49, e49, h⟩ := bO_some h
  refine ww_getR 49 X dX9_begin_49 fG_X9_27 e49 ?_
  refine ww_iload 52 X dX9_begin_52 4 rfl ?_
  refine ww_aload_n 54 X dX9_begin_54 0 rfl rfl ?_
  obtain ⟨v55, e55, h⟩ := bO_some h
  refine ww_getR 55 X dX9_begin_55 fG_X9_44 e55 ?_
  obtain ⟨v58, e58, h⟩ := bO_some h
  refine ww_getI 58 X dX9_begin_58 fG_X9_59 e58 ?_
  obtain ⟨M61, e61, h⟩ := bO_some h
  refine ww_iast 61 X dX9_begin_61 e61 ?_
  refine ww_aload_n 62 X dX9_begin_62 0 rfl rfl ?_
  obtain ⟨v63, e63, h⟩ := bO_some h
  refine ww_getR 63 X dX9_begin_63 fG_X9_30 e63 ?_
  refine ww_iload 66 X dX9_begin_66 4 rfl ?_
  refine ww_iconst 68 X (v := (0 : Int32)) dX9_begin_68 (by decide) ?_
  obtain ⟨M69, e69, h⟩ := bO_some h
  refine ww_iast 69 X dX9_begin_69 e69 ?_
  refine ww_aload_n 70 X dX9_begin_70 0 rfl rfl ?_
  obtain ⟨v71, e71, h⟩ := bO_some h
  refine ww_getR 71 X dX9_begin_71 fG_X9_18 e71 ?_
  refine ww_iload 74 X dX9_begin_74 4 rfl ?_
  refine ww_iconst 76 X (v := (0 : Int32)) dX9_begin_76 (by decide) ?_
  obtain ⟨M77, e77, h⟩ := bO_some h
  refine ww_iast 77 X dX9_begin_77 e77 ?_
  refine ww_iload_n 78 X dX9_begin_78 3 rfl rfl ?_
  refine ww_if_lt 79 105 X dX9_begin_79 (by decide) (fun q => ?_) (fun q => ?_)
  · replace h := (if_pos q).symm.trans h
    refine ww_iload 105 X dX9_begin_105 4 rfl ?_
    exact ww_iretE 107 X hQ dX9_begin_107 h
  · replace h := (if_neg q).symm.trans h
    refine ww_aload_n 82 X dX9_begin_82 0 rfl rfl ?_
    obtain ⟨v83, e83, h⟩ := bO_some h
    refine ww_getR 83 X dX9_begin_83 fG_X9_18 e83 ?_
    refine ww_iload 86 X dX9_begin_86 4 rfl ?_
    refine ww_aload_n 88 X dX9_begin_88 0 rfl rfl ?_
    obtain ⟨v89, e89, h⟩ := bO_some h
    refine ww_getR 89 X dX9_begin_89 fG_X9_24 e89 ?_
    refine ww_iload_n 92 X dX9_begin_92 3 rfl rfl ?_
    obtain ⟨v93, e93, h⟩ := bO_some h
    refine ww_iald 93 X dX9_begin_93 e93 ?_
    obtain ⟨M94, e94, h⟩ := bO_some h
    refine ww_iast 94 X dX9_begin_94 e94 ?_
    refine ww_aload_n 95 X dX9_begin_95 0 rfl rfl ?_
    obtain ⟨v96, e96, h⟩ := bO_some h
    refine ww_getR 96 X dX9_begin_96 fG_X9_24 e96 ?_
    refine ww_iload_n 99 X dX9_begin_99 3 rfl rfl ?_
    refine ww_dup2_11 100 X dX9_begin_100 rfl rfl ?_
    obtain ⟨v101, e101, h⟩ := bO_some h
    refine ww_iald 101 X dX9_begin_101 e101 ?_
    refine ww_iconst 102 X (v := (1 : Int32)) dX9_begin_102 (by decide) ?_
    refine ww_iadd 103 X dX9_begin_103 ?_
    obtain ⟨M104, e104, h⟩ := bO_some h
    refine ww_iast 104 X dX9_begin_104 e104 ?_
    refine ww_iload 105 X dX9_begin_105 4 rfl ?_
    exact ww_iretE 107 X hQ dX9_begin_107 h
theorem c_X9_begin {G : mG} {F sz : Nat} {r0 : Int32} {M0 : mM} (l : Launch) (D : mD) (A : Nat → Prop) {l0 : Nat} {l1 : Int32} {l2 : Int32} {l3 : Int32} {M : mM} (h : P_X9_begin G F l0 l1 l2 l3 M = some (r0, M0)) : mMetI l D G A yX9_begin cX9_begin 5 (some .int) 0 0 0 0 [.ref l0, .int l1, .int l2, .int l3] M sz r0 M0 sz := mMetI_of l D G A (by decide) (Nat.le_of_ble_eq_true rfl) (fun x X hQ => wP_X9_begin X hQ h)
/-! SealedTokens$Reader.goOn(I)Z -/
theorem dX7_goOn_0 : decode cX7_goOn 0 = .ok (.aload_n 0, 1) := by decide +kernel
theorem dX7_goOn_1 : decode cX7_goOn 1 = .ok (.dup, 1) := by decide +kernel
theorem dX7_goOn_2 : decode cX7_goOn 2 = .ok (.getfield 24, 3) := by decide +kernel
theorem dX7_goOn_5 : decode cX7_goOn 5 = .ok (.iconst 1, 1) := by decide +kernel
theorem dX7_goOn_6 : decode cX7_goOn 6 = .ok (.iadd, 1) := by decide +kernel
theorem dX7_goOn_7 : decode cX7_goOn 7 = .ok (.putfield 24, 3) := by decide +kernel
theorem dX7_goOn_10 : decode cX7_goOn 10 = .ok (.aload_n 0, 1) := by decide +kernel
theorem dX7_goOn_11 : decode cX7_goOn 11 = .ok (.iload_n 1, 1) := by decide +kernel
theorem dX7_goOn_12 : decode cX7_goOn 12 = .ok (.putfield 37, 3) := by decide +kernel
theorem dX7_goOn_15 : decode cX7_goOn 15 = .ok (.iconst 1, 1) := by decide +kernel
theorem dX7_goOn_16 : decode cX7_goOn 16 = .ok (.ireturn, 1) := by decide +kernel
abbrev rmX7_goOn : Room := { frames := 0, cells := 0, slots := 0, locals := 0 }
set_option maxHeartbeats 4000000 in
set_option maxRecDepth 100000 in
theorem wP_X7_goOn {G : mG} {F : Nat} {x : mXT} {sz : Nat} {r0 : Int32} {M0 : mM} (X : mCX G RX7 cX7_goOn 2 (some .boolean) "goOn" rmX7_goOn x) (hQ : mQI x r0 M0 (sz, 0, 0)) {l0 : Nat} {l1 : Int32} {M : mM} (h : P_X7_goOn G F l0 l1 M = some (r0, M0)) : WW x (sz, 0, 0) M 0 [(0, .ref l0), (1, .int l1)] [] := by
  unfold P_X7_goOn at h
  refine ww_aload_n 0 X dX7_goOn_0 0 rfl rfl ?_
  refine ww_dup 1 X dX7_goOn_1 rfl ?_
  obtain ⟨v2, e2, h⟩ := bO_some h
  refine ww_getI 2 X dX7_goOn_2 fG_X7_24 e2 ?_
  refine ww_iconst 5 X (v := (1 : Int32)) dX7_goOn_5 (by decide) ?_
  refine ww_iadd 6 X dX7_goOn_6 ?_
  obtain ⟨M7, e7, h⟩ := bO_some h
  refine ww_putI 7 X dX7_goOn_7 (fP_X7_24 _) e7 ?_
  refine ww_aload_n 10 X dX7_goOn_10 0 rfl rfl ?_
  refine ww_iload_n 11 X dX7_goOn_11 1 rfl rfl ?_
  obtain ⟨M12, e12, h⟩ := bO_some h
  refine ww_putI 12 X dX7_goOn_12 (fP_X7_37 _) e12 ?_
  refine ww_iconst 15 X (v := (1 : Int32)) dX7_goOn_15 (by decide) ?_
  exact ww_zretE 16 X hQ dX7_goOn_16 h
theorem c_X7_goOn {G : mG} {F sz : Nat} {r0 : Int32} {M0 : mM} (l : Launch) (D : mD) (A : Nat → Prop) {l0 : Nat} {l1 : Int32} {M : mM} (h : P_X7_goOn G F l0 l1 M = some (r0, M0)) : mMetI l D G A yX7_goOn cX7_goOn 2 (some .boolean) 0 0 0 0 [.ref l0, .int l1] M sz r0 M0 sz := mMetI_of l D G A (by decide) (Nat.le_of_ble_eq_true rfl) (fun x X hQ => wP_X7_goOn X hQ h)
/-! SealedTokens$Reader.word(Ljava/lang/String;)Z -/
theorem dX7_word_0 : decode cX7_word 0 = .ok (.iconst 0, 1) := by decide +kernel
theorem dX7_word_1 : decode cX7_word 1 = .ok (.istore_n 2, 1) := by decide +kernel
theorem dX7_word_2 : decode cX7_word 2 = .ok (.iload_n 2, 1) := by decide +kernel
theorem dX7_word_3 : decode cX7_word 3 = .ok (.aload_n 1, 1) := by decide +kernel
theorem dX7_word_4 : decode cX7_word 4 = .ok (.invokevirtual 136, 3) := by decide +kernel
theorem dX7_word_7 : decode cX7_word 7 = .ok (.if_icmp .ge 47, 3) := by decide +kernel
theorem dX7_word_10 : decode cX7_word 10 = .ok (.aload_n 0, 1) := by decide +kernel
theorem dX7_word_11 : decode cX7_word 11 = .ok (.getfield 9, 3) := by decide +kernel
theorem dX7_word_14 : decode cX7_word 14 = .ok (.aload_n 0, 1) := by decide +kernel
theorem dX7_word_15 : decode cX7_word 15 = .ok (.getfield 24, 3) := by decide +kernel
theorem dX7_word_18 : decode cX7_word 18 = .ok (.invokevirtual 48, 3) := by decide +kernel
theorem dX7_word_21 : decode cX7_word 21 = .ok (.aload_n 1, 1) := by decide +kernel
theorem dX7_word_22 : decode cX7_word 22 = .ok (.iload_n 2, 1) := by decide +kernel
theorem dX7_word_23 : decode cX7_word 23 = .ok (.invokevirtual 142, 3) := by decide +kernel
theorem dX7_word_26 : decode cX7_word 26 = .ok (.if_icmp .eq 12, 3) := by decide +kernel
theorem dX7_word_29 : decode cX7_word 29 = .ok (.aload_n 0, 1) := by decide +kernel
theorem dX7_word_30 : decode cX7_word 30 = .ok (.aload_n 0, 1) := by decide +kernel
theorem dX7_word_31 : decode cX7_word 31 = .ok (.getfield 24, 3) := by decide +kernel
theorem dX7_word_34 : decode cX7_word 34 = .ok (.invokevirtual 66, 3) := by decide +kernel
theorem dX7_word_37 : decode cX7_word 37 = .ok (.ireturn, 1) := by decide +kernel
theorem dX7_word_38 : decode cX7_word 38 = .ok (.aload_n 0, 1) := by decide +kernel
theorem dX7_word_39 : decode cX7_word 39 = .ok (.dup, 1) := by decide +kernel
theorem dX7_word_40 : decode cX7_word 40 = .ok (.getfield 24, 3) := by decide +kernel
theorem dX7_word_43 : decode cX7_word 43 = .ok (.iconst 1, 1) := by decide +kernel
theorem dX7_word_44 : decode cX7_word 44 = .ok (.iadd, 1) := by decide +kernel
theorem dX7_word_45 : decode cX7_word 45 = .ok (.putfield 24, 3) := by decide +kernel
theorem dX7_word_48 : decode cX7_word 48 = .ok (.iinc 2 1, 3) := by decide +kernel
theorem dX7_word_51 : decode cX7_word 51 = .ok (.goto (-49), 3) := by decide +kernel
theorem dX7_word_54 : decode cX7_word 54 = .ok (.iconst 1, 1) := by decide +kernel
theorem dX7_word_55 : decode cX7_word 55 = .ok (.ireturn, 1) := by decide +kernel
abbrev rmX7_word : Room := { frames := 4, cells := 0, slots := 0, locals := 85 }
set_option maxHeartbeats 4000000 in
set_option maxRecDepth 100000 in
theorem wB_X7_word_2 {G : mG} {F : Nat} {x : mXT} {sz : Nat} {r0 : Int32} {M0 : mM} (X : mCX G RX7 cX7_word 3 (some .boolean) "word" rmX7_word x) (hQ : mQI x r0 M0 (sz, 0, 0)) : ∀ (n : Nat) (l0 : Nat) (l1 : Nat) (l2 : Int32) (M : mM), B_X7_word_2 G F n l0 l1 l2 M = some (r0, M0) → WW x (sz, 0, 0) M 2 [(0, .ref l0), (1, .ref l1), (2, .int l2)] [] := by
  intro n
  induction n with
  | zero =>
    intro l0 l1 l2 M h
    exact nomatch (show (none : Option (Int32 × mM)) = some (r0, M0) from h)
  | succ n ih =>
    intro l0 l1 l2 M h
    rw [B_X7_word_2] at h
    refine ww_iload_n 2 X dX7_word_2 2 rfl rfl ?_
    refine ww_aload_n 3 X dX7_word_3 1 rfl rfl ?_
    obtain ⟨_, f4, h⟩ := bO_some h
    obtain ⟨v4, M4, e4, h⟩ := bP_some h
    refine ww_callVIs 4 X dX7_word_4 mY_J0_length_8abf5 mL_X7_136 (rcs_spec f4) rfl (As := []) (rest := [.int l2]) rfl rfl ⟨Nat.le_of_ble_eq_true rfl, Nat.le_of_ble_eq_true rfl⟩ (Nat.le_of_ble_eq_true rfl) (fun l D A => c_J0_length_8abf5 l D A e4) ?_
    refine ww_icmp_ge 7 54 X dX7_word_7 (by decide) (fun q => ?_) (fun q => ?_)
    · replace h := (if_pos q).symm.trans h
      refine ww_iconst 54 X (v := (1 : Int32)) dX7_word_54 (by decide) ?_
      exact ww_zretE 55 X hQ dX7_word_55 h
    · replace h := (if_neg q).symm.trans h
      refine ww_aload_n 10 X dX7_word_10 0 rfl rfl ?_
      obtain ⟨v11, e11, h⟩ := bO_some h
      refine ww_getR 11 X dX7_word_11 fG_X7_9 e11 ?_
      refine ww_aload_n 14 X dX7_word_14 0 rfl rfl ?_
      obtain ⟨v15, e15, h⟩ := bO_some h
      refine ww_getI 15 X dX7_word_15 fG_X7_24 e15 ?_
      obtain ⟨_, f18, h⟩ := bO_some h
      obtain ⟨v18, M18, e18, h⟩ := bP_some h
      refine ww_callVI0 18 X dX7_word_18 mY_X0_peek mL_X7_48 (rcv_spec f18) ⟨_, _, rfl⟩ (by decide) (As := [.int v15]) (rest := []) rfl rfl ⟨Nat.le_of_ble_eq_true rfl, Nat.le_of_ble_eq_true rfl⟩ (Nat.le_of_ble_eq_true rfl) (fun l D A => c_X0_peek l D A e18) ?_
      refine ww_aload_n 21 X dX7_word_21 1 rfl rfl ?_
      refine ww_iload_n 22 X dX7_word_22 2 rfl rfl ?_
      obtain ⟨_, f23, h⟩ := bO_some h
      obtain ⟨v23, M23, e23, h⟩ := bP_some h
      refine ww_callVIs 23 X dX7_word_23 mY_J0_charAt_5068e mL_X7_142 (rcs_spec f23) rfl (As := [.int l2]) (rest := [.int v18]) rfl rfl ⟨Nat.le_of_ble_eq_true rfl, Nat.le_of_ble_eq_true rfl⟩ (Nat.le_of_ble_eq_true rfl) (fun l D A => c_J0_charAt_5068e l D A e23) ?_
      refine ww_icmp_eq 26 38 X dX7_word_26 (by decide) (fun q => ?_) (fun q => ?_)
      · replace h := (if_pos q).symm.trans h
        refine ww_aload_n 38 X dX7_word_38 0 rfl rfl ?_
        refine ww_dup 39 X dX7_word_39 rfl ?_
        obtain ⟨v40, e40, h⟩ := bO_some h
        refine ww_getI 40 X dX7_word_40 fG_X7_24 e40 ?_
        refine ww_iconst 43 X (v := (1 : Int32)) dX7_word_43 (by decide) ?_
        refine ww_iadd 44 X dX7_word_44 ?_
        obtain ⟨M45, e45, h⟩ := bO_some h
        refine ww_putI 45 X dX7_word_45 (fP_X7_24 _) e45 ?_
        refine ww_iinc 48 X dX7_word_48 (lv' := [(0, .ref l0), (1, .ref l1), (2, .int (l2 + 1))]) 2 rfl rfl (by decide) [1, 2, 0] rfl ?_
        refine ww_goto 51 2 X dX7_word_51 (by decide) ?_
        exact (ih _ _ _ _ h)
      · replace h := (if_neg q).symm.trans h
        refine ww_aload_n 29 X dX7_word_29 0 rfl rfl ?_
        refine ww_aload_n 30 X dX7_word_30 0 rfl rfl ?_
        obtain ⟨v31, e31, h⟩ := bO_some h
        refine ww_getI 31 X dX7_word_31 fG_X7_24 e31 ?_
        obtain ⟨_, f34, h⟩ := bO_some h
        obtain ⟨v34, M34, e34, h⟩ := bP_some h
        refine ww_callVI0 34 X dX7_word_34 mY_X7_wrong mL_X7_66 (rcv_spec f34) ⟨_, _, rfl⟩ (by decide) (As := [.int v31]) (rest := []) rfl rfl ⟨Nat.le_of_ble_eq_true rfl, Nat.le_of_ble_eq_true rfl⟩ (Nat.le_of_ble_eq_true rfl) (fun l D A => c_X7_wrong l D A e34) ?_
        exact ww_zretE 37 X hQ dX7_word_37 h
set_option maxHeartbeats 4000000 in
set_option maxRecDepth 100000 in
theorem wP_X7_word {G : mG} {F : Nat} {x : mXT} {sz : Nat} {r0 : Int32} {M0 : mM} (X : mCX G RX7 cX7_word 3 (some .boolean) "word" rmX7_word x) (hQ : mQI x r0 M0 (sz, 0, 0)) {l0 : Nat} {l1 : Nat} {M : mM} (h : P_X7_word G F l0 l1 M = some (r0, M0)) : WW x (sz, 0, 0) M 0 [(0, .ref l0), (1, .ref l1)] [] := by
  unfold P_X7_word at h
  refine ww_iconst 0 X (v := (0 : Int32)) dX7_word_0 (by decide) ?_
  refine ww_istore_n 1 X dX7_word_1 (lv' := [(0, .ref l0), (1, .ref l1), (2, .int (0 : Int32))]) rfl (by decide) [1, 2, 0] rfl ?_
  exact (wB_X7_word_2 X hQ F _ _ _ _ h)
theorem c_X7_word {G : mG} {F sz : Nat} {r0 : Int32} {M0 : mM} (l : Launch) (D : mD) (A : Nat → Prop) {l0 : Nat} {l1 : Nat} {M : mM} (h : P_X7_word G F l0 l1 M = some (r0, M0)) : mMetI l D G A yX7_word cX7_word 3 (some .boolean) 4 85 0 0 [.ref l0, .ref l1] M sz r0 M0 sz := mMetI_of l D G A (by decide) (Nat.le_of_ble_eq_true rfl) (fun x X hQ => wP_X7_word X hQ h)
/-! SealedTokens$Reader.digits()Z -/
theorem dX7_digits_0 : decode cX7_digits 0 = .ok (.aload_n 0, 1) := by decide +kernel
theorem dX7_digits_1 : decode cX7_digits 1 = .ok (.getfield 24, 3) := by decide +kernel
theorem dX7_digits_4 : decode cX7_digits 4 = .ok (.istore_n 1, 1) := by decide +kernel
theorem dX7_digits_5 : decode cX7_digits 5 = .ok (.aload_n 0, 1) := by decide +kernel
theorem dX7_digits_6 : decode cX7_digits 6 = .ok (.getfield 24, 3) := by decide +kernel
theorem dX7_digits_9 : decode cX7_digits 9 = .ok (.aload_n 0, 1) := by decide +kernel
theorem dX7_digits_10 : decode cX7_digits 10 = .ok (.getfield 9, 3) := by decide +kernel
theorem dX7_digits_13 : decode cX7_digits 13 = .ok (.getfield 40, 3) := by decide +kernel
theorem dX7_digits_16 : decode cX7_digits 16 = .ok (.if_icmp .ge 48, 3) := by decide +kernel
theorem dX7_digits_19 : decode cX7_digits 19 = .ok (.aload_n 0, 1) := by decide +kernel
theorem dX7_digits_20 : decode cX7_digits 20 = .ok (.getfield 9, 3) := by decide +kernel
theorem dX7_digits_23 : decode cX7_digits 23 = .ok (.aload_n 0, 1) := by decide +kernel
theorem dX7_digits_24 : decode cX7_digits 24 = .ok (.getfield 24, 3) := by decide +kernel
theorem dX7_digits_27 : decode cX7_digits 27 = .ok (.invokevirtual 72, 3) := by decide +kernel
theorem dX7_digits_30 : decode cX7_digits 30 = .ok (.bipush 48, 2) := by decide +kernel
theorem dX7_digits_32 : decode cX7_digits 32 = .ok (.if_icmp .lt 32, 3) := by decide +kernel
theorem dX7_digits_35 : decode cX7_digits 35 = .ok (.aload_n 0, 1) := by decide +kernel
theorem dX7_digits_36 : decode cX7_digits 36 = .ok (.getfield 9, 3) := by decide +kernel
theorem dX7_digits_39 : decode cX7_digits 39 = .ok (.aload_n 0, 1) := by decide +kernel
theorem dX7_digits_40 : decode cX7_digits 40 = .ok (.getfield 24, 3) := by decide +kernel
theorem dX7_digits_43 : decode cX7_digits 43 = .ok (.invokevirtual 72, 3) := by decide +kernel
theorem dX7_digits_46 : decode cX7_digits 46 = .ok (.bipush 57, 2) := by decide +kernel
theorem dX7_digits_48 : decode cX7_digits 48 = .ok (.if_icmp .gt 16, 3) := by decide +kernel
theorem dX7_digits_51 : decode cX7_digits 51 = .ok (.aload_n 0, 1) := by decide +kernel
theorem dX7_digits_52 : decode cX7_digits 52 = .ok (.dup, 1) := by decide +kernel
theorem dX7_digits_53 : decode cX7_digits 53 = .ok (.getfield 24, 3) := by decide +kernel
theorem dX7_digits_56 : decode cX7_digits 56 = .ok (.iconst 1, 1) := by decide +kernel
theorem dX7_digits_57 : decode cX7_digits 57 = .ok (.iadd, 1) := by decide +kernel
theorem dX7_digits_58 : decode cX7_digits 58 = .ok (.putfield 24, 3) := by decide +kernel
theorem dX7_digits_61 : decode cX7_digits 61 = .ok (.goto (-56), 3) := by decide +kernel
theorem dX7_digits_64 : decode cX7_digits 64 = .ok (.aload_n 0, 1) := by decide +kernel
theorem dX7_digits_65 : decode cX7_digits 65 = .ok (.getfield 24, 3) := by decide +kernel
theorem dX7_digits_68 : decode cX7_digits 68 = .ok (.iload_n 1, 1) := by decide +kernel
theorem dX7_digits_69 : decode cX7_digits 69 = .ok (.if_icmp .gt 14, 3) := by decide +kernel
theorem dX7_digits_72 : decode cX7_digits 72 = .ok (.aload_n 0, 1) := by decide +kernel
theorem dX7_digits_73 : decode cX7_digits 73 = .ok (.aload_n 0, 1) := by decide +kernel
theorem dX7_digits_74 : decode cX7_digits 74 = .ok (.getfield 24, 3) := by decide +kernel
theorem dX7_digits_77 : decode cX7_digits 77 = .ok (.invokevirtual 66, 3) := by decide +kernel
theorem dX7_digits_80 : decode cX7_digits 80 = .ok (.ifCond .eq 7, 3) := by decide +kernel
theorem dX7_digits_83 : decode cX7_digits 83 = .ok (.iconst 1, 1) := by decide +kernel
theorem dX7_digits_84 : decode cX7_digits 84 = .ok (.goto 4, 3) := by decide +kernel
theorem dX7_digits_87 : decode cX7_digits 87 = .ok (.iconst 0, 1) := by decide +kernel
theorem dX7_digits_88 : decode cX7_digits 88 = .ok (.ireturn, 1) := by decide +kernel
abbrev rmX7_digits : Room := { frames := 1, cells := 0, slots := 0, locals := 21 }
set_option maxHeartbeats 4000000 in
set_option maxRecDepth 100000 in
theorem wB_X7_digits_64 {G : mG} {F : Nat} {x : mXT} {sz : Nat} {r0 : Int32} {M0 : mM} (X : mCX G RX7 cX7_digits 2 (some .boolean) "digits" rmX7_digits x) (hQ : mQI x r0 M0 (sz, 0, 0)) {l0 : Nat} {l1 : Int32} {M : mM} (h : B_X7_digits_64 G F l0 l1 M = some (r0, M0)) : WW x (sz, 0, 0) M 64 [(0, .ref l0), (1, .int l1)] [] := by
  unfold B_X7_digits_64 at h
  refine ww_aload_n 64 X dX7_digits_64 0 rfl rfl ?_
  obtain ⟨v65, e65, h⟩ := bO_some h
  refine ww_getI 65 X dX7_digits_65 fG_X7_24 e65 ?_
  refine ww_iload_n 68 X dX7_digits_68 1 rfl rfl ?_
  refine ww_icmp_gt 69 83 X dX7_digits_69 (by decide) (fun q => ?_) (fun q => ?_)
  · replace h := (if_pos q).symm.trans h
    refine ww_iconst 83 X (v := (1 : Int32)) dX7_digits_83 (by decide) ?_
    refine ww_goto 84 88 X dX7_digits_84 (by decide) ?_
    exact ww_zretE 88 X hQ dX7_digits_88 h
  · replace h := (if_neg q).symm.trans h
    refine ww_aload_n 72 X dX7_digits_72 0 rfl rfl ?_
    refine ww_aload_n 73 X dX7_digits_73 0 rfl rfl ?_
    obtain ⟨v74, e74, h⟩ := bO_some h
    refine ww_getI 74 X dX7_digits_74 fG_X7_24 e74 ?_
    obtain ⟨_, f77, h⟩ := bO_some h
    obtain ⟨v77, M77, e77, h⟩ := bP_some h
    refine ww_callVI0 77 X dX7_digits_77 mY_X7_wrong mL_X7_66 (rcv_spec f77) ⟨_, _, rfl⟩ (by decide) (As := [.int v74]) (rest := []) rfl rfl ⟨Nat.le_of_ble_eq_true rfl, Nat.le_of_ble_eq_true rfl⟩ (Nat.le_of_ble_eq_true rfl) (fun l D A => c_X7_wrong l D A e77) ?_
    refine ww_if_eq 80 87 X dX7_digits_80 (by decide) (fun q => ?_) (fun q => ?_)
    · replace h := (if_pos q).symm.trans h
      refine ww_iconst 87 X (v := (0 : Int32)) dX7_digits_87 (by decide) ?_
      exact ww_zretE 88 X hQ dX7_digits_88 h
    · replace h := (if_neg q).symm.trans h
      refine ww_iconst 83 X (v := (1 : Int32)) dX7_digits_83 (by decide) ?_
      refine ww_goto 84 88 X dX7_digits_84 (by decide) ?_
      exact ww_zretE 88 X hQ dX7_digits_88 h
set_option maxHeartbeats 4000000 in
set_option maxRecDepth 100000 in
theorem wB_X7_digits_5 {G : mG} {F : Nat} {x : mXT} {sz : Nat} {r0 : Int32} {M0 : mM} (X : mCX G RX7 cX7_digits 2 (some .boolean) "digits" rmX7_digits x) (hQ : mQI x r0 M0 (sz, 0, 0)) : ∀ (n : Nat) (l0 : Nat) (l1 : Int32) (M : mM), B_X7_digits_5 G F n l0 l1 M = some (r0, M0) → WW x (sz, 0, 0) M 5 [(0, .ref l0), (1, .int l1)] [] := by
  intro n
  induction n with
  | zero =>
    intro l0 l1 M h
    exact nomatch (show (none : Option (Int32 × mM)) = some (r0, M0) from h)
  | succ n ih =>
    intro l0 l1 M h
    rw [B_X7_digits_5] at h
    refine ww_aload_n 5 X dX7_digits_5 0 rfl rfl ?_
    obtain ⟨v6, e6, h⟩ := bO_some h
    refine ww_getI 6 X dX7_digits_6 fG_X7_24 e6 ?_
    refine ww_aload_n 9 X dX7_digits_9 0 rfl rfl ?_
    obtain ⟨v10, e10, h⟩ := bO_some h
    refine ww_getR 10 X dX7_digits_10 fG_X7_9 e10 ?_
    obtain ⟨v13, e13, h⟩ := bO_some h
    refine ww_getI 13 X dX7_digits_13 fG_X7_40 e13 ?_
    refine ww_icmp_ge 16 64 X dX7_digits_16 (by decide) (fun q => ?_) (fun q => ?_)
    · replace h := (if_pos q).symm.trans h
      exact (wB_X7_digits_64 X hQ h)
    · replace h := (if_neg q).symm.trans h
      refine ww_aload_n 19 X dX7_digits_19 0 rfl rfl ?_
      obtain ⟨v20, e20, h⟩ := bO_some h
      refine ww_getR 20 X dX7_digits_20 fG_X7_9 e20 ?_
      refine ww_aload_n 23 X dX7_digits_23 0 rfl rfl ?_
      obtain ⟨v24, e24, h⟩ := bO_some h
      refine ww_getI 24 X dX7_digits_24 fG_X7_24 e24 ?_
      obtain ⟨_, f27, h⟩ := bO_some h
      obtain ⟨v27, M27, e27, h⟩ := bP_some h
      refine ww_callVI0 27 X dX7_digits_27 mY_X0_get mL_X7_72 (rcv_spec f27) ⟨_, _, rfl⟩ (by decide) (As := [.int v24]) (rest := []) rfl rfl ⟨Nat.le_of_ble_eq_true rfl, Nat.le_of_ble_eq_true rfl⟩ (Nat.le_of_ble_eq_true rfl) (fun l D A => c_X0_get l D A e27) ?_
      refine ww_bipush 30 X (v := (48 : Int32)) dX7_digits_30 (by decide) ?_
      refine ww_icmp_lt 32 64 X dX7_digits_32 (by decide) (fun q => ?_) (fun q => ?_)
      · replace h := (if_pos q).symm.trans h
        exact (wB_X7_digits_64 X hQ h)
      · replace h := (if_neg q).symm.trans h
        refine ww_aload_n 35 X dX7_digits_35 0 rfl rfl ?_
        obtain ⟨v36, e36, h⟩ := bO_some h
        refine ww_getR 36 X dX7_digits_36 fG_X7_9 e36 ?_
        refine ww_aload_n 39 X dX7_digits_39 0 rfl rfl ?_
        obtain ⟨v40, e40, h⟩ := bO_some h
        refine ww_getI 40 X dX7_digits_40 fG_X7_24 e40 ?_
        obtain ⟨_, f43, h⟩ := bO_some h
        obtain ⟨v43, M43, e43, h⟩ := bP_some h
        refine ww_callVI0 43 X dX7_digits_43 mY_X0_get mL_X7_72 (rcv_spec f43) ⟨_, _, rfl⟩ (by decide) (As := [.int v40]) (rest := []) rfl rfl ⟨Nat.le_of_ble_eq_true rfl, Nat.le_of_ble_eq_true rfl⟩ (Nat.le_of_ble_eq_true rfl) (fun l D A => c_X0_get l D A e43) ?_
        refine ww_bipush 46 X (v := (57 : Int32)) dX7_digits_46 (by decide) ?_
        refine ww_icmp_gt 48 64 X dX7_digits_48 (by decide) (fun q => ?_) (fun q => ?_)
        · replace h := (if_pos q).symm.trans h
          exact (wB_X7_digits_64 X hQ h)
        · replace h := (if_neg q).symm.trans h
          refine ww_aload_n 51 X dX7_digits_51 0 rfl rfl ?_
          refine ww_dup 52 X dX7_digits_52 rfl ?_
          obtain ⟨v53, e53, h⟩ := bO_some h
          refine ww_getI 53 X dX7_digits_53 fG_X7_24 e53 ?_
          refine ww_iconst 56 X (v := (1 : Int32)) dX7_digits_56 (by decide) ?_
          refine ww_iadd 57 X dX7_digits_57 ?_
          obtain ⟨M58, e58, h⟩ := bO_some h
          refine ww_putI 58 X dX7_digits_58 (fP_X7_24 _) e58 ?_
          refine ww_goto 61 5 X dX7_digits_61 (by decide) ?_
          exact (ih _ _ _ h)
set_option maxHeartbeats 4000000 in
set_option maxRecDepth 100000 in
theorem wP_X7_digits {G : mG} {F : Nat} {x : mXT} {sz : Nat} {r0 : Int32} {M0 : mM} (X : mCX G RX7 cX7_digits 2 (some .boolean) "digits" rmX7_digits x) (hQ : mQI x r0 M0 (sz, 0, 0)) {l0 : Nat} {M : mM} (h : P_X7_digits G F l0 M = some (r0, M0)) : WW x (sz, 0, 0) M 0 [(0, .ref l0)] [] := by
  unfold P_X7_digits at h
  refine ww_aload_n 0 X dX7_digits_0 0 rfl rfl ?_
  obtain ⟨v1, e1, h⟩ := bO_some h
  refine ww_getI 1 X dX7_digits_1 fG_X7_24 e1 ?_
  refine ww_istore_n 4 X dX7_digits_4 (lv' := [(0, .ref l0), (1, .int v1)]) rfl (by decide) [1, 0] rfl ?_
  exact (wB_X7_digits_5 X hQ F _ _ _ h)
theorem c_X7_digits {G : mG} {F sz : Nat} {r0 : Int32} {M0 : mM} (l : Launch) (D : mD) (A : Nat → Prop) {l0 : Nat} {M : mM} (h : P_X7_digits G F l0 M = some (r0, M0)) : mMetI l D G A yX7_digits cX7_digits 2 (some .boolean) 1 21 0 0 [.ref l0] M sz r0 M0 sz := mMetI_of l D G A (by decide) (Nat.le_of_ble_eq_true rfl) (fun x X hQ => wP_X7_digits X hQ h)
/-! SealedTokens$Reader.number()Z -/
theorem dX7_number_0 : decode cX7_number 0 = .ok (.aload_n 0, 1) := by decide +kernel
theorem dX7_number_1 : decode cX7_number 1 = .ok (.getfield 24, 3) := by decide +kernel
theorem dX7_number_4 : decode cX7_number 4 = .ok (.istore_n 1, 1) := by decide +kernel
theorem dX7_number_5 : decode cX7_number 5 = .ok (.aload_n 0, 1) := by decide +kernel
theorem dX7_number_6 : decode cX7_number 6 = .ok (.getfield 9, 3) := by decide +kernel
theorem dX7_number_9 : decode cX7_number 9 = .ok (.aload_n 0, 1) := by decide +kernel
theorem dX7_number_10 : decode cX7_number 10 = .ok (.getfield 24, 3) := by decide +kernel
theorem dX7_number_13 : decode cX7_number 13 = .ok (.invokevirtual 48, 3) := by decide +kernel
theorem dX7_number_16 : decode cX7_number 16 = .ok (.bipush 45, 2) := by decide +kernel
theorem dX7_number_18 : decode cX7_number 18 = .ok (.if_icmp .ne 13, 3) := by decide +kernel
theorem dX7_number_21 : decode cX7_number 21 = .ok (.aload_n 0, 1) := by decide +kernel
theorem dX7_number_22 : decode cX7_number 22 = .ok (.dup, 1) := by decide +kernel
theorem dX7_number_23 : decode cX7_number 23 = .ok (.getfield 24, 3) := by decide +kernel
theorem dX7_number_26 : decode cX7_number 26 = .ok (.iconst 1, 1) := by decide +kernel
theorem dX7_number_27 : decode cX7_number 27 = .ok (.iadd, 1) := by decide +kernel
theorem dX7_number_28 : decode cX7_number 28 = .ok (.putfield 24, 3) := by decide +kernel
theorem dX7_number_31 : decode cX7_number 31 = .ok (.aload_n 0, 1) := by decide +kernel
theorem dX7_number_32 : decode cX7_number 32 = .ok (.getfield 9, 3) := by decide +kernel
theorem dX7_number_35 : decode cX7_number 35 = .ok (.aload_n 0, 1) := by decide +kernel
theorem dX7_number_36 : decode cX7_number 36 = .ok (.getfield 24, 3) := by decide +kernel
theorem dX7_number_39 : decode cX7_number 39 = .ok (.invokevirtual 48, 3) := by decide +kernel
theorem dX7_number_42 : decode cX7_number 42 = .ok (.bipush 48, 2) := by decide +kernel
theorem dX7_number_44 : decode cX7_number 44 = .ok (.if_icmp .ne 16, 3) := by decide +kernel
theorem dX7_number_47 : decode cX7_number 47 = .ok (.aload_n 0, 1) := by decide +kernel
theorem dX7_number_48 : decode cX7_number 48 = .ok (.dup, 1) := by decide +kernel
theorem dX7_number_49 : decode cX7_number 49 = .ok (.getfield 24, 3) := by decide +kernel
theorem dX7_number_52 : decode cX7_number 52 = .ok (.iconst 1, 1) := by decide +kernel
theorem dX7_number_53 : decode cX7_number 53 = .ok (.iadd, 1) := by decide +kernel
theorem dX7_number_54 : decode cX7_number 54 = .ok (.putfield 24, 3) := by decide +kernel
theorem dX7_number_57 : decode cX7_number 57 = .ok (.goto 12, 3) := by decide +kernel
theorem dX7_number_60 : decode cX7_number 60 = .ok (.aload_n 0, 1) := by decide +kernel
theorem dX7_number_61 : decode cX7_number 61 = .ok (.invokevirtual 146, 3) := by decide +kernel
theorem dX7_number_64 : decode cX7_number 64 = .ok (.ifCond .ne 5, 3) := by decide +kernel
theorem dX7_number_67 : decode cX7_number 67 = .ok (.iconst 0, 1) := by decide +kernel
theorem dX7_number_68 : decode cX7_number 68 = .ok (.ireturn, 1) := by decide +kernel
theorem dX7_number_69 : decode cX7_number 69 = .ok (.aload_n 0, 1) := by decide +kernel
theorem dX7_number_70 : decode cX7_number 70 = .ok (.getfield 9, 3) := by decide +kernel
theorem dX7_number_73 : decode cX7_number 73 = .ok (.aload_n 0, 1) := by decide +kernel
theorem dX7_number_74 : decode cX7_number 74 = .ok (.getfield 24, 3) := by decide +kernel
theorem dX7_number_77 : decode cX7_number 77 = .ok (.invokevirtual 48, 3) := by decide +kernel
theorem dX7_number_80 : decode cX7_number 80 = .ok (.bipush 46, 2) := by decide +kernel
theorem dX7_number_82 : decode cX7_number 82 = .ok (.if_icmp .ne 22, 3) := by decide +kernel
theorem dX7_number_85 : decode cX7_number 85 = .ok (.aload_n 0, 1) := by decide +kernel
theorem dX7_number_86 : decode cX7_number 86 = .ok (.dup, 1) := by decide +kernel
theorem dX7_number_87 : decode cX7_number 87 = .ok (.getfield 24, 3) := by decide +kernel
theorem dX7_number_90 : decode cX7_number 90 = .ok (.iconst 1, 1) := by decide +kernel
theorem dX7_number_91 : decode cX7_number 91 = .ok (.iadd, 1) := by decide +kernel
theorem dX7_number_92 : decode cX7_number 92 = .ok (.putfield 24, 3) := by decide +kernel
theorem dX7_number_95 : decode cX7_number 95 = .ok (.aload_n 0, 1) := by decide +kernel
theorem dX7_number_96 : decode cX7_number 96 = .ok (.invokevirtual 146, 3) := by decide +kernel
theorem dX7_number_99 : decode cX7_number 99 = .ok (.ifCond .ne 5, 3) := by decide +kernel
theorem dX7_number_102 : decode cX7_number 102 = .ok (.iconst 0, 1) := by decide +kernel
theorem dX7_number_103 : decode cX7_number 103 = .ok (.ireturn, 1) := by decide +kernel
theorem dX7_number_104 : decode cX7_number 104 = .ok (.aload_n 0, 1) := by decide +kernel
theorem dX7_number_105 : decode cX7_number 105 = .ok (.getfield 9, 3) := by decide +kernel
theorem dX7_number_108 : decode cX7_number 108 = .ok (.aload_n 0, 1) := by decide +kernel
theorem dX7_number_109 : decode cX7_number 109 = .ok (.getfield 24, 3) := by decide +kernel
theorem dX7_number_112 : decode cX7_number 112 = .ok (.invokevirtual 48, 3) := by decide +kernel
theorem dX7_number_115 : decode cX7_number 115 = .ok (.bipush 101, 2) := by decide +kernel
theorem dX7_number_117 : decode cX7_number 117 = .ok (.if_icmp .eq 19, 3) := by decide +kernel
theorem dX7_number_120 : decode cX7_number 120 = .ok (.aload_n 0, 1) := by decide +kernel
theorem dX7_number_121 : decode cX7_number 121 = .ok (.getfield 9, 3) := by decide +kernel
theorem dX7_number_124 : decode cX7_number 124 = .ok (.aload_n 0, 1) := by decide +kernel
theorem dX7_number_125 : decode cX7_number 125 = .ok (.getfield 24, 3) := by decide +kernel
theorem dX7_number_128 : decode cX7_number 128 = .ok (.invokevirtual 48, 3) := by decide +kernel
theorem dX7_number_131 : decode cX7_number 131 = .ok (.bipush 69, 2) := by decide +kernel
theorem dX7_number_133 : decode cX7_number 133 = .ok (.if_icmp .ne 64, 3) := by decide +kernel
theorem dX7_number_136 : decode cX7_number 136 = .ok (.aload_n 0, 1) := by decide +kernel
theorem dX7_number_137 : decode cX7_number 137 = .ok (.dup, 1) := by decide +kernel
theorem dX7_number_138 : decode cX7_number 138 = .ok (.getfield 24, 3) := by decide +kernel
theorem dX7_number_141 : decode cX7_number 141 = .ok (.iconst 1, 1) := by decide +kernel
theorem dX7_number_142 : decode cX7_number 142 = .ok (.iadd, 1) := by decide +kernel
theorem dX7_number_143 : decode cX7_number 143 = .ok (.putfield 24, 3) := by decide +kernel
theorem dX7_number_146 : decode cX7_number 146 = .ok (.aload_n 0, 1) := by decide +kernel
theorem dX7_number_147 : decode cX7_number 147 = .ok (.getfield 9, 3) := by decide +kernel
theorem dX7_number_150 : decode cX7_number 150 = .ok (.aload_n 0, 1) := by decide +kernel
theorem dX7_number_151 : decode cX7_number 151 = .ok (.getfield 24, 3) := by decide +kernel
theorem dX7_number_154 : decode cX7_number 154 = .ok (.invokevirtual 48, 3) := by decide +kernel
theorem dX7_number_157 : decode cX7_number 157 = .ok (.bipush 43, 2) := by decide +kernel
theorem dX7_number_159 : decode cX7_number 159 = .ok (.if_icmp .eq 19, 3) := by decide +kernel
theorem dX7_number_162 : decode cX7_number 162 = .ok (.aload_n 0, 1) := by decide +kernel
theorem dX7_number_163 : decode cX7_number 163 = .ok (.getfield 9, 3) := by decide +kernel
theorem dX7_number_166 : decode cX7_number 166 = .ok (.aload_n 0, 1) := by decide +kernel
theorem dX7_number_167 : decode cX7_number 167 = .ok (.getfield 24, 3) := by decide +kernel
theorem dX7_number_170 : decode cX7_number 170 = .ok (.invokevirtual 48, 3) := by decide +kernel
theorem dX7_number_173 : decode cX7_number 173 = .ok (.bipush 45, 2) := by decide +kernel
theorem dX7_number_175 : decode cX7_number 175 = .ok (.if_icmp .ne 13, 3) := by decide +kernel
theorem dX7_number_178 : decode cX7_number 178 = .ok (.aload_n 0, 1) := by decide +kernel
theorem dX7_number_179 : decode cX7_number 179 = .ok (.dup, 1) := by decide +kernel
theorem dX7_number_180 : decode cX7_number 180 = .ok (.getfield 24, 3) := by decide +kernel
theorem dX7_number_183 : decode cX7_number 183 = .ok (.iconst 1, 1) := by decide +kernel
theorem dX7_number_184 : decode cX7_number 184 = .ok (.iadd, 1) := by decide +kernel
theorem dX7_number_185 : decode cX7_number 185 = .ok (.putfield 24, 3) := by decide +kernel
theorem dX7_number_188 : decode cX7_number 188 = .ok (.aload_n 0, 1) := by decide +kernel
theorem dX7_number_189 : decode cX7_number 189 = .ok (.invokevirtual 146, 3) := by decide +kernel
theorem dX7_number_192 : decode cX7_number 192 = .ok (.ifCond .ne 5, 3) := by decide +kernel
theorem dX7_number_195 : decode cX7_number 195 = .ok (.iconst 0, 1) := by decide +kernel
theorem dX7_number_196 : decode cX7_number 196 = .ok (.ireturn, 1) := by decide +kernel
theorem dX7_number_197 : decode cX7_number 197 = .ok (.aload_n 0, 1) := by decide +kernel
theorem dX7_number_198 : decode cX7_number 198 = .ok (.getfield 15, 3) := by decide +kernel
theorem dX7_number_201 : decode cX7_number 201 = .ok (.getfield 88, 3) := by decide +kernel
theorem dX7_number_204 : decode cX7_number 204 = .ok (.aload_n 0, 1) := by decide +kernel
theorem dX7_number_205 : decode cX7_number 205 = .ok (.getfield 9, 3) := by decide +kernel
theorem dX7_number_208 : decode cX7_number 208 = .ok (.iload_n 1, 1) := by decide +kernel
theorem dX7_number_209 : decode cX7_number 209 = .ok (.aload_n 0, 1) := by decide +kernel
theorem dX7_number_210 : decode cX7_number 210 = .ok (.getfield 24, 3) := by decide +kernel
theorem dX7_number_213 : decode cX7_number 213 = .ok (.iload_n 1, 1) := by decide +kernel
theorem dX7_number_214 : decode cX7_number 214 = .ok (.isub, 1) := by decide +kernel
theorem dX7_number_215 : decode cX7_number 215 = .ok (.invokevirtual 149, 3) := by decide +kernel
theorem dX7_number_218 : decode cX7_number 218 = .ok (.iconst 1, 1) := by decide +kernel
theorem dX7_number_219 : decode cX7_number 219 = .ok (.ireturn, 1) := by decide +kernel
abbrev rmX7_number : Room := { frames := 2, cells := 0, slots := 0, locals := 84 }
set_option maxHeartbeats 4000000 in
set_option maxRecDepth 100000 in
theorem wB_X7_number_197 {G : mG} {F : Nat} {x : mXT} {sz : Nat} {r0 : Int32} {M0 : mM} (X : mCX G RX7 cX7_number 2 (some .boolean) "number" rmX7_number x) (hQ : mQI x r0 M0 (sz, 0, 0)) {l0 : Nat} {l1 : Int32} {M : mM} (h : B_X7_number_197 G F l0 l1 M = some (r0, M0)) : WW x (sz, 0, 0) M 197 [(0, .ref l0), (1, .int l1)] [] := by
  unfold B_X7_number_197 at h
  refine ww_aload_n 197 X dX7_number_197 0 rfl rfl ?_
  obtain ⟨v198, e198, h⟩ := bO_some h
  refine ww_getR 198 X dX7_number_198 fG_X7_15 e198 ?_
  obtain ⟨v201, e201, h⟩ := bO_some h
  refine ww_getR 201 X dX7_number_201 fG_X7_88 e201 ?_
  refine ww_aload_n 204 X dX7_number_204 0 rfl rfl ?_
  obtain ⟨v205, e205, h⟩ := bO_some h
  refine ww_getR 205 X dX7_number_205 fG_X7_9 e205 ?_
  refine ww_iload_n 208 X dX7_number_208 1 rfl rfl ?_
  refine ww_aload_n 209 X dX7_number_209 0 rfl rfl ?_
  obtain ⟨v210, e210, h⟩ := bO_some h
  refine ww_getI 210 X dX7_number_210 fG_X7_24 e210 ?_
  refine ww_iload_n 213 X dX7_number_213 1 rfl rfl ?_
  refine ww_isub 214 X dX7_number_214 ?_
  obtain ⟨_, f215, h⟩ := bO_some h
  obtain ⟨M215, e215, h⟩ := bO_some h
  refine ww_callVV0 215 X dX7_number_215 mY_X0_putPart mL_X7_149 (rcv_spec f215) ⟨_, _, rfl⟩ (by decide) (As := [.ref v205, .int l1, .int (v210 - l1)]) (rest := []) rfl rfl ⟨Nat.le_of_ble_eq_true rfl, Nat.le_of_ble_eq_true rfl⟩ (Nat.le_of_ble_eq_true rfl) (fun l D A => c_X0_putPart l D A e215) ?_
  refine ww_iconst 218 X (v := (1 : Int32)) dX7_number_218 (by decide) ?_
  exact ww_zretE 219 X hQ dX7_number_219 h
set_option maxHeartbeats 4000000 in
set_option maxRecDepth 100000 in
theorem wB_X7_number_136 {G : mG} {F : Nat} {x : mXT} {sz : Nat} {r0 : Int32} {M0 : mM} (X : mCX G RX7 cX7_number 2 (some .boolean) "number" rmX7_number x) (hQ : mQI x r0 M0 (sz, 0, 0)) {l0 : Nat} {l1 : Int32} {M : mM} (h : B_X7_number_136 G F l0 l1 M = some (r0, M0)) : WW x (sz, 0, 0) M 136 [(0, .ref l0), (1, .int l1)] [] := by
  unfold B_X7_number_136 at h
  refine ww_aload_n 136 X dX7_number_136 0 rfl rfl ?_
  refine ww_dup 137 X dX7_number_137 rfl ?_
  obtain ⟨v138, e138, h⟩ := bO_some h
  refine ww_getI 138 X dX7_number_138 fG_X7_24 e138 ?_
  refine ww_iconst 141 X (v := (1 : Int32)) dX7_number_141 (by decide) ?_
  refine ww_iadd 142 X dX7_number_142 ?_
  obtain ⟨M143, e143, h⟩ := bO_some h
  refine ww_putI 143 X dX7_number_143 (fP_X7_24 _) e143 ?_
  refine ww_aload_n 146 X dX7_number_146 0 rfl rfl ?_
  obtain ⟨v147, e147, h⟩ := bO_some h
  refine ww_getR 147 X dX7_number_147 fG_X7_9 e147 ?_
  refine ww_aload_n 150 X dX7_number_150 0 rfl rfl ?_
  obtain ⟨v151, e151, h⟩ := bO_some h
  refine ww_getI 151 X dX7_number_151 fG_X7_24 e151 ?_
  obtain ⟨_, f154, h⟩ := bO_some h
  obtain ⟨v154, M154, e154, h⟩ := bP_some h
  refine ww_callVI0 154 X dX7_number_154 mY_X0_peek mL_X7_48 (rcv_spec f154) ⟨_, _, rfl⟩ (by decide) (As := [.int v151]) (rest := []) rfl rfl ⟨Nat.le_of_ble_eq_true rfl, Nat.le_of_ble_eq_true rfl⟩ (Nat.le_of_ble_eq_true rfl) (fun l D A => c_X0_peek l D A e154) ?_
  refine ww_bipush 157 X (v := (43 : Int32)) dX7_number_157 (by decide) ?_
  refine ww_icmp_eq 159 178 X dX7_number_159 (by decide) (fun q => ?_) (fun q => ?_)
  · replace h := (if_pos q).symm.trans h
    refine ww_aload_n 178 X dX7_number_178 0 rfl rfl ?_
    refine ww_dup 179 X dX7_number_179 rfl ?_
    obtain ⟨v180, e180, h⟩ := bO_some h
    refine ww_getI 180 X dX7_number_180 fG_X7_24 e180 ?_
    refine ww_iconst 183 X (v := (1 : Int32)) dX7_number_183 (by decide) ?_
    refine ww_iadd 184 X dX7_number_184 ?_
    obtain ⟨M185, e185, h⟩ := bO_some h
    refine ww_putI 185 X dX7_number_185 (fP_X7_24 _) e185 ?_
    refine ww_aload_n 188 X dX7_number_188 0 rfl rfl ?_
    obtain ⟨_, f189, h⟩ := bO_some h
    obtain ⟨v189, M189, e189, h⟩ := bP_some h
    refine ww_callVI0 189 X dX7_number_189 mY_X7_digits mL_X7_146 (rcv_spec f189) ⟨_, _, rfl⟩ (by decide) (As := []) (rest := []) rfl rfl ⟨Nat.le_of_ble_eq_true rfl, Nat.le_of_ble_eq_true rfl⟩ (Nat.le_of_ble_eq_true rfl) (fun l D A => c_X7_digits l D A e189) ?_
    refine ww_if_ne 192 197 X dX7_number_192 (by decide) (fun q => ?_) (fun q => ?_)
    · replace h := (if_neg q).symm.trans h
      exact (wB_X7_number_197 X hQ h)
    · replace h := (if_pos q).symm.trans h
      refine ww_iconst 195 X (v := (0 : Int32)) dX7_number_195 (by decide) ?_
      exact ww_zretE 196 X hQ dX7_number_196 h
  · replace h := (if_neg q).symm.trans h
    refine ww_aload_n 162 X dX7_number_162 0 rfl rfl ?_
    obtain ⟨v163, e163, h⟩ := bO_some h
    refine ww_getR 163 X dX7_number_163 fG_X7_9 e163 ?_
    refine ww_aload_n 166 X dX7_number_166 0 rfl rfl ?_
    obtain ⟨v167, e167, h⟩ := bO_some h
    refine ww_getI 167 X dX7_number_167 fG_X7_24 e167 ?_
    obtain ⟨_, f170, h⟩ := bO_some h
    obtain ⟨v170, M170, e170, h⟩ := bP_some h
    refine ww_callVI0 170 X dX7_number_170 mY_X0_peek mL_X7_48 (rcv_spec f170) ⟨_, _, rfl⟩ (by decide) (As := [.int v167]) (rest := []) rfl rfl ⟨Nat.le_of_ble_eq_true rfl, Nat.le_of_ble_eq_true rfl⟩ (Nat.le_of_ble_eq_true rfl) (fun l D A => c_X0_peek l D A e170) ?_
    refine ww_bipush 173 X (v := (45 : Int32)) dX7_number_173 (by decide) ?_
    refine ww_icmp_ne 175 188 X dX7_number_175 (by decide) (fun q => ?_) (fun q => ?_)
    · replace h := (if_neg q).symm.trans h
      refine ww_aload_n 188 X dX7_number_188 0 rfl rfl ?_
      obtain ⟨_, f189, h⟩ := bO_some h
      obtain ⟨v189, M189, e189, h⟩ := bP_some h
      refine ww_callVI0 189 X dX7_number_189 mY_X7_digits mL_X7_146 (rcv_spec f189) ⟨_, _, rfl⟩ (by decide) (As := []) (rest := []) rfl rfl ⟨Nat.le_of_ble_eq_true rfl, Nat.le_of_ble_eq_true rfl⟩ (Nat.le_of_ble_eq_true rfl) (fun l D A => c_X7_digits l D A e189) ?_
      refine ww_if_ne 192 197 X dX7_number_192 (by decide) (fun q => ?_) (fun q => ?_)
      · replace h := (if_neg q).symm.trans h
        exact (wB_X7_number_197 X hQ h)
      · replace h := (if_pos q).symm.trans h
        refine ww_iconst 195 X (v := (0 : Int32)) dX7_number_195 (by decide) ?_
        exact ww_zretE 196 X hQ dX7_number_196 h
    · replace h := (if_pos q).symm.trans h
      refine ww_aload_n 178 X dX7_number_178 0 rfl rfl ?_
      refine ww_dup 179 X dX7_number_179 rfl ?_
      obtain ⟨v180, e180, h⟩ := bO_some h
      refine ww_getI 180 X dX7_number_180 fG_X7_24 e180 ?_
      refine ww_iconst 183 X (v := (1 : Int32)) dX7_number_183 (by decide) ?_
      refine ww_iadd 184 X dX7_number_184 ?_
      obtain ⟨M185, e185, h⟩ := bO_some h
      refine ww_putI 185 X dX7_number_185 (fP_X7_24 _) e185 ?_
      refine ww_aload_n 188 X dX7_number_188 0 rfl rfl ?_
      obtain ⟨_, f189, h⟩ := bO_some h
      obtain ⟨v189, M189, e189, h⟩ := bP_some h
      refine ww_callVI0 189 X dX7_number_189 mY_X7_digits mL_X7_146 (rcv_spec f189) ⟨_, _, rfl⟩ (by decide) (As := []) (rest := []) rfl rfl ⟨Nat.le_of_ble_eq_true rfl, Nat.le_of_ble_eq_true rfl⟩ (Nat.le_of_ble_eq_true rfl) (fun l D A => c_X7_digits l D A e189) ?_
      refine ww_if_ne 192 197 X dX7_number_192 (by decide) (fun q => ?_) (fun q => ?_)
      · replace h := (if_neg q).symm.trans h
        exact (wB_X7_number_197 X hQ h)
      · replace h := (if_pos q).symm.trans h
        refine ww_iconst 195 X (v := (0 : Int32)) dX7_number_195 (by decide) ?_
        exact ww_zretE 196 X hQ dX7_number_196 h
set_option maxHeartbeats 4000000 in
set_option maxRecDepth 100000 in
theorem wB_X7_number_104 {G : mG} {F : Nat} {x : mXT} {sz : Nat} {r0 : Int32} {M0 : mM} (X : mCX G RX7 cX7_number 2 (some .boolean) "number" rmX7_number x) (hQ : mQI x r0 M0 (sz, 0, 0)) {l0 : Nat} {l1 : Int32} {M : mM} (h : B_X7_number_104 G F l0 l1 M = some (r0, M0)) : WW x (sz, 0, 0) M 104 [(0, .ref l0), (1, .int l1)] [] := by
  unfold B_X7_number_104 at h
  refine ww_aload_n 104 X dX7_number_104 0 rfl rfl ?_
  obtain ⟨v105, e105, h⟩ := bO_some h
  refine ww_getR 105 X dX7_number_105 fG_X7_9 e105 ?_
  refine ww_aload_n 108 X dX7_number_108 0 rfl rfl ?_
  obtain ⟨v109, e109, h⟩ := bO_some h
  refine ww_getI 109 X dX7_number_109 fG_X7_24 e109 ?_
  obtain ⟨_, f112, h⟩ := bO_some h
  obtain ⟨v112, M112, e112, h⟩ := bP_some h
  refine ww_callVI0 112 X dX7_number_112 mY_X0_peek mL_X7_48 (rcv_spec f112) ⟨_, _, rfl⟩ (by decide) (As := [.int v109]) (rest := []) rfl rfl ⟨Nat.le_of_ble_eq_true rfl, Nat.le_of_ble_eq_true rfl⟩ (Nat.le_of_ble_eq_true rfl) (fun l D A => c_X0_peek l D A e112) ?_
  refine ww_bipush 115 X (v := (101 : Int32)) dX7_number_115 (by decide) ?_
  refine ww_icmp_eq 117 136 X dX7_number_117 (by decide) (fun q => ?_) (fun q => ?_)
  · replace h := (if_pos q).symm.trans h
    exact (wB_X7_number_136 X hQ h)
  · replace h := (if_neg q).symm.trans h
    refine ww_aload_n 120 X dX7_number_120 0 rfl rfl ?_
    obtain ⟨v121, e121, h⟩ := bO_some h
    refine ww_getR 121 X dX7_number_121 fG_X7_9 e121 ?_
    refine ww_aload_n 124 X dX7_number_124 0 rfl rfl ?_
    obtain ⟨v125, e125, h⟩ := bO_some h
    refine ww_getI 125 X dX7_number_125 fG_X7_24 e125 ?_
    obtain ⟨_, f128, h⟩ := bO_some h
    obtain ⟨v128, M128, e128, h⟩ := bP_some h
    refine ww_callVI0 128 X dX7_number_128 mY_X0_peek mL_X7_48 (rcv_spec f128) ⟨_, _, rfl⟩ (by decide) (As := [.int v125]) (rest := []) rfl rfl ⟨Nat.le_of_ble_eq_true rfl, Nat.le_of_ble_eq_true rfl⟩ (Nat.le_of_ble_eq_true rfl) (fun l D A => c_X0_peek l D A e128) ?_
    refine ww_bipush 131 X (v := (69 : Int32)) dX7_number_131 (by decide) ?_
    refine ww_icmp_ne 133 197 X dX7_number_133 (by decide) (fun q => ?_) (fun q => ?_)
    · replace h := (if_neg q).symm.trans h
      exact (wB_X7_number_197 X hQ h)
    · replace h := (if_pos q).symm.trans h
      exact (wB_X7_number_136 X hQ h)
set_option maxHeartbeats 4000000 in
set_option maxRecDepth 100000 in
theorem wB_X7_number_69 {G : mG} {F : Nat} {x : mXT} {sz : Nat} {r0 : Int32} {M0 : mM} (X : mCX G RX7 cX7_number 2 (some .boolean) "number" rmX7_number x) (hQ : mQI x r0 M0 (sz, 0, 0)) {l0 : Nat} {l1 : Int32} {M : mM} (h : B_X7_number_69 G F l0 l1 M = some (r0, M0)) : WW x (sz, 0, 0) M 69 [(0, .ref l0), (1, .int l1)] [] := by
  unfold B_X7_number_69 at h
  refine ww_aload_n 69 X dX7_number_69 0 rfl rfl ?_
  obtain ⟨v70, e70, h⟩ := bO_some h
  refine ww_getR 70 X dX7_number_70 fG_X7_9 e70 ?_
  refine ww_aload_n 73 X dX7_number_73 0 rfl rfl ?_
  obtain ⟨v74, e74, h⟩ := bO_some h
  refine ww_getI 74 X dX7_number_74 fG_X7_24 e74 ?_
  obtain ⟨_, f77, h⟩ := bO_some h
  obtain ⟨v77, M77, e77, h⟩ := bP_some h
  refine ww_callVI0 77 X dX7_number_77 mY_X0_peek mL_X7_48 (rcv_spec f77) ⟨_, _, rfl⟩ (by decide) (As := [.int v74]) (rest := []) rfl rfl ⟨Nat.le_of_ble_eq_true rfl, Nat.le_of_ble_eq_true rfl⟩ (Nat.le_of_ble_eq_true rfl) (fun l D A => c_X0_peek l D A e77) ?_
  refine ww_bipush 80 X (v := (46 : Int32)) dX7_number_80 (by decide) ?_
  refine ww_icmp_ne 82 104 X dX7_number_82 (by decide) (fun q => ?_) (fun q => ?_)
  · replace h := (if_neg q).symm.trans h
    exact (wB_X7_number_104 X hQ h)
  · replace h := (if_pos q).symm.trans h
    refine ww_aload_n 85 X dX7_number_85 0 rfl rfl ?_
    refine ww_dup 86 X dX7_number_86 rfl ?_
    obtain ⟨v87, e87, h⟩ := bO_some h
    refine ww_getI 87 X dX7_number_87 fG_X7_24 e87 ?_
    refine ww_iconst 90 X (v := (1 : Int32)) dX7_number_90 (by decide) ?_
    refine ww_iadd 91 X dX7_number_91 ?_
    obtain ⟨M92, e92, h⟩ := bO_some h
    refine ww_putI 92 X dX7_number_92 (fP_X7_24 _) e92 ?_
    refine ww_aload_n 95 X dX7_number_95 0 rfl rfl ?_
    obtain ⟨_, f96, h⟩ := bO_some h
    obtain ⟨v96, M96, e96, h⟩ := bP_some h
    refine ww_callVI0 96 X dX7_number_96 mY_X7_digits mL_X7_146 (rcv_spec f96) ⟨_, _, rfl⟩ (by decide) (As := []) (rest := []) rfl rfl ⟨Nat.le_of_ble_eq_true rfl, Nat.le_of_ble_eq_true rfl⟩ (Nat.le_of_ble_eq_true rfl) (fun l D A => c_X7_digits l D A e96) ?_
    refine ww_if_ne 99 104 X dX7_number_99 (by decide) (fun q => ?_) (fun q => ?_)
    · replace h := (if_neg q).symm.trans h
      exact (wB_X7_number_104 X hQ h)
    · replace h := (if_pos q).symm.trans h
      refine ww_iconst 102 X (v := (0 : Int32)) dX7_number_102 (by decide) ?_
      exact ww_zretE 103 X hQ dX7_number_103 h
set_option maxHeartbeats 4000000 in
set_option maxRecDepth 100000 in
theorem wB_X7_number_31 {G : mG} {F : Nat} {x : mXT} {sz : Nat} {r0 : Int32} {M0 : mM} (X : mCX G RX7 cX7_number 2 (some .boolean) "number" rmX7_number x) (hQ : mQI x r0 M0 (sz, 0, 0)) {l0 : Nat} {l1 : Int32} {M : mM} (h : B_X7_number_31 G F l0 l1 M = some (r0, M0)) : WW x (sz, 0, 0) M 31 [(0, .ref l0), (1, .int l1)] [] := by
  unfold B_X7_number_31 at h
  refine ww_aload_n 31 X dX7_number_31 0 rfl rfl ?_
  obtain ⟨v32, e32, h⟩ := bO_some h
  refine ww_getR 32 X dX7_number_32 fG_X7_9 e32 ?_
  refine ww_aload_n 35 X dX7_number_35 0 rfl rfl ?_
  obtain ⟨v36, e36, h⟩ := bO_some h
  refine ww_getI 36 X dX7_number_36 fG_X7_24 e36 ?_
  obtain ⟨_, f39, h⟩ := bO_some h
  obtain ⟨v39, M39, e39, h⟩ := bP_some h
  refine ww_callVI0 39 X dX7_number_39 mY_X0_peek mL_X7_48 (rcv_spec f39) ⟨_, _, rfl⟩ (by decide) (As := [.int v36]) (rest := []) rfl rfl ⟨Nat.le_of_ble_eq_true rfl, Nat.le_of_ble_eq_true rfl⟩ (Nat.le_of_ble_eq_true rfl) (fun l D A => c_X0_peek l D A e39) ?_
  refine ww_bipush 42 X (v := (48 : Int32)) dX7_number_42 (by decide) ?_
  refine ww_icmp_ne 44 60 X dX7_number_44 (by decide) (fun q => ?_) (fun q => ?_)
  · replace h := (if_neg q).symm.trans h
    refine ww_aload_n 60 X dX7_number_60 0 rfl rfl ?_
    obtain ⟨_, f61, h⟩ := bO_some h
    obtain ⟨v61, M61, e61, h⟩ := bP_some h
    refine ww_callVI0 61 X dX7_number_61 mY_X7_digits mL_X7_146 (rcv_spec f61) ⟨_, _, rfl⟩ (by decide) (As := []) (rest := []) rfl rfl ⟨Nat.le_of_ble_eq_true rfl, Nat.le_of_ble_eq_true rfl⟩ (Nat.le_of_ble_eq_true rfl) (fun l D A => c_X7_digits l D A e61) ?_
    refine ww_if_ne 64 69 X dX7_number_64 (by decide) (fun q => ?_) (fun q => ?_)
    · replace h := (if_neg q).symm.trans h
      exact (wB_X7_number_69 X hQ h)
    · replace h := (if_pos q).symm.trans h
      refine ww_iconst 67 X (v := (0 : Int32)) dX7_number_67 (by decide) ?_
      exact ww_zretE 68 X hQ dX7_number_68 h
  · replace h := (if_pos q).symm.trans h
    refine ww_aload_n 47 X dX7_number_47 0 rfl rfl ?_
    refine ww_dup 48 X dX7_number_48 rfl ?_
    obtain ⟨v49, e49, h⟩ := bO_some h
    refine ww_getI 49 X dX7_number_49 fG_X7_24 e49 ?_
    refine ww_iconst 52 X (v := (1 : Int32)) dX7_number_52 (by decide) ?_
    refine ww_iadd 53 X dX7_number_53 ?_
    obtain ⟨M54, e54, h⟩ := bO_some h
    refine ww_putI 54 X dX7_number_54 (fP_X7_24 _) e54 ?_
    refine ww_goto 57 69 X dX7_number_57 (by decide) ?_
    exact (wB_X7_number_69 X hQ h)
set_option maxHeartbeats 4000000 in
set_option maxRecDepth 100000 in
theorem wP_X7_number {G : mG} {F : Nat} {x : mXT} {sz : Nat} {r0 : Int32} {M0 : mM} (X : mCX G RX7 cX7_number 2 (some .boolean) "number" rmX7_number x) (hQ : mQI x r0 M0 (sz, 0, 0)) {l0 : Nat} {M : mM} (h : P_X7_number G F l0 M = some (r0, M0)) : WW x (sz, 0, 0) M 0 [(0, .ref l0)] [] := by
  unfold P_X7_number at h
  refine ww_aload_n 0 X dX7_number_0 0 rfl rfl ?_
  obtain ⟨v1, e1, h⟩ := bO_some h
  refine ww_getI 1 X dX7_number_1 fG_X7_24 e1 ?_
  refine ww_istore_n 4 X dX7_number_4 (lv' := [(0, .ref l0), (1, .int v1)]) rfl (by decide) [1, 0] rfl ?_
  refine ww_aload_n 5 X dX7_number_5 0 rfl rfl ?_
  obtain ⟨v6, e6, h⟩ := bO_some h
  refine ww_getR 6 X dX7_number_6 fG_X7_9 e6 ?_
  refine ww_aload_n 9 X dX7_number_9 0 rfl rfl ?_
  obtain ⟨v10, e10, h⟩ := bO_some h
  refine ww_getI 10 X dX7_number_10 fG_X7_24 e10 ?_
  obtain ⟨_, f13, h⟩ := bO_some h
  obtain ⟨v13, M13, e13, h⟩ := bP_some h
  refine ww_callVI0 13 X dX7_number_13 mY_X0_peek mL_X7_48 (rcv_spec f13) ⟨_, _, rfl⟩ (by decide) (As := [.int v10]) (rest := []) rfl rfl ⟨Nat.le_of_ble_eq_true rfl, Nat.le_of_ble_eq_true rfl⟩ (Nat.le_of_ble_eq_true rfl) (fun l D A => c_X0_peek l D A e13) ?_
  refine ww_bipush 16 X (v := (45 : Int32)) dX7_number_16 (by decide) ?_
  refine ww_icmp_ne 18 31 X dX7_number_18 (by decide) (fun q => ?_) (fun q => ?_)
  · replace h := (if_neg q).symm.trans h
    exact (wB_X7_number_31 X hQ h)
  · replace h := (if_pos q).symm.trans h
    refine ww_aload_n 21 X dX7_number_21 0 rfl rfl ?_
    refine ww_dup 22 X dX7_number_22 rfl ?_
    obtain ⟨v23, e23, h⟩ := bO_some h
    refine ww_getI 23 X dX7_number_23 fG_X7_24 e23 ?_
    refine ww_iconst 26 X (v := (1 : Int32)) dX7_number_26 (by decide) ?_
    refine ww_iadd 27 X dX7_number_27 ?_
    obtain ⟨M28, e28, h⟩ := bO_some h
    refine ww_putI 28 X dX7_number_28 (fP_X7_24 _) e28 ?_
    exact (wB_X7_number_31 X hQ h)
theorem c_X7_number {G : mG} {F sz : Nat} {r0 : Int32} {M0 : mM} (l : Launch) (D : mD) (A : Nat → Prop) {l0 : Nat} {M : mM} (h : P_X7_number G F l0 M = some (r0, M0)) : mMetI l D G A yX7_number cX7_number 2 (some .boolean) 2 84 0 0 [.ref l0] M sz r0 M0 sz := mMetI_of l D G A (by decide) (Nat.le_of_ble_eq_true rfl) (fun x X hQ => wP_X7_number X hQ h)
/-! SealedTokens$Reader.shortEscaped(I)I -/
theorem dX7_shortEscaped_0 : decode cX7_shortEscaped 0 = .ok (.iload_n 0, 1) := by decide +kernel
theorem dX7_shortEscaped_1 : decode cX7_shortEscaped 1 = .ok (.lookupswitch 99 #[(34, 75), (47, 81), (92, 78), (98, 84), (102, 87), (110, 90), (114, 93), (116, 96)], 75) := by decide +kernel
theorem dX7_shortEscaped_76 : decode cX7_shortEscaped 76 = .ok (.bipush 34, 2) := by decide +kernel
theorem dX7_shortEscaped_78 : decode cX7_shortEscaped 78 = .ok (.ireturn, 1) := by decide +kernel
theorem dX7_shortEscaped_79 : decode cX7_shortEscaped 79 = .ok (.bipush 92, 2) := by decide +kernel
theorem dX7_shortEscaped_81 : decode cX7_shortEscaped 81 = .ok (.ireturn, 1) := by decide +kernel
theorem dX7_shortEscaped_82 : decode cX7_shortEscaped 82 = .ok (.bipush 47, 2) := by decide +kernel
theorem dX7_shortEscaped_84 : decode cX7_shortEscaped 84 = .ok (.ireturn, 1) := by decide +kernel
theorem dX7_shortEscaped_85 : decode cX7_shortEscaped 85 = .ok (.bipush 8, 2) := by decide +kernel
theorem dX7_shortEscaped_87 : decode cX7_shortEscaped 87 = .ok (.ireturn, 1) := by decide +kernel
theorem dX7_shortEscaped_88 : decode cX7_shortEscaped 88 = .ok (.bipush 12, 2) := by decide +kernel
theorem dX7_shortEscaped_90 : decode cX7_shortEscaped 90 = .ok (.ireturn, 1) := by decide +kernel
theorem dX7_shortEscaped_91 : decode cX7_shortEscaped 91 = .ok (.bipush 10, 2) := by decide +kernel
theorem dX7_shortEscaped_93 : decode cX7_shortEscaped 93 = .ok (.ireturn, 1) := by decide +kernel
theorem dX7_shortEscaped_94 : decode cX7_shortEscaped 94 = .ok (.bipush 13, 2) := by decide +kernel
theorem dX7_shortEscaped_96 : decode cX7_shortEscaped 96 = .ok (.ireturn, 1) := by decide +kernel
theorem dX7_shortEscaped_97 : decode cX7_shortEscaped 97 = .ok (.bipush 9, 2) := by decide +kernel
theorem dX7_shortEscaped_99 : decode cX7_shortEscaped 99 = .ok (.ireturn, 1) := by decide +kernel
theorem dX7_shortEscaped_100 : decode cX7_shortEscaped 100 = .ok (.iconst (-1), 1) := by decide +kernel
theorem dX7_shortEscaped_101 : decode cX7_shortEscaped 101 = .ok (.ireturn, 1) := by decide +kernel
abbrev rmX7_shortEscaped : Room := { frames := 0, cells := 0, slots := 0, locals := 0 }
set_option maxHeartbeats 4000000 in
set_option maxRecDepth 100000 in
theorem wP_X7_shortEscaped {G : mG} {F : Nat} {x : mXT} {sz : Nat} {r0 : Int32} {M0 : mM} (X : mCX G RX7 cX7_shortEscaped 1 (some .int) "shortEscaped" rmX7_shortEscaped x) (hQ : mQI x r0 M0 (sz, 0, 0)) {l0 : Int32} {M : mM} (h : P_X7_shortEscaped G F l0 M = some (r0, M0)) : WW x (sz, 0, 0) M 0 [(0, .int l0)] [] := by
  unfold P_X7_shortEscaped at h
  refine ww_iload_n 0 X dX7_shortEscaped_0 0 rfl rfl ?_
  by_cases q34 : l0 = (34 : Int32)
  · replace h := (if_pos q34).symm.trans h
    refine ww_lookup 1 76 X dX7_shortEscaped_1 (off := 75) (by decide) (by rw [q34]; decide) (by decide) ?_
    refine ww_bipush 76 X (v := (34 : Int32)) dX7_shortEscaped_76 (by decide) ?_
    exact ww_iretE 78 X hQ dX7_shortEscaped_78 h
  · replace h := (if_neg q34).symm.trans h
    by_cases q47 : l0 = (47 : Int32)
    · replace h := (if_pos q47).symm.trans h
      refine ww_lookup 1 82 X dX7_shortEscaped_1 (off := 81) (by decide) (by rw [q47]; decide) (by decide) ?_
      refine ww_bipush 82 X (v := (47 : Int32)) dX7_shortEscaped_82 (by decide) ?_
      exact ww_iretE 84 X hQ dX7_shortEscaped_84 h
    · replace h := (if_neg q47).symm.trans h
      by_cases q92 : l0 = (92 : Int32)
      · replace h := (if_pos q92).symm.trans h
        refine ww_lookup 1 79 X dX7_shortEscaped_1 (off := 78) (by decide) (by rw [q92]; decide) (by decide) ?_
        refine ww_bipush 79 X (v := (92 : Int32)) dX7_shortEscaped_79 (by decide) ?_
        exact ww_iretE 81 X hQ dX7_shortEscaped_81 h
      · replace h := (if_neg q92).symm.trans h
        by_cases q98 : l0 = (98 : Int32)
        · replace h := (if_pos q98).symm.trans h
          refine ww_lookup 1 85 X dX7_shortEscaped_1 (off := 84) (by decide) (by rw [q98]; decide) (by decide) ?_
          refine ww_bipush 85 X (v := (8 : Int32)) dX7_shortEscaped_85 (by decide) ?_
          exact ww_iretE 87 X hQ dX7_shortEscaped_87 h
        · replace h := (if_neg q98).symm.trans h
          by_cases q102 : l0 = (102 : Int32)
          · replace h := (if_pos q102).symm.trans h
            refine ww_lookup 1 88 X dX7_shortEscaped_1 (off := 87) (by decide) (by rw [q102]; decide) (by decide) ?_
            refine ww_bipush 88 X (v := (12 : Int32)) dX7_shortEscaped_88 (by decide) ?_
            exact ww_iretE 90 X hQ dX7_shortEscaped_90 h
          · replace h := (if_neg q102).symm.trans h
            by_cases q110 : l0 = (110 : Int32)
            · replace h := (if_pos q110).symm.trans h
              refine ww_lookup 1 91 X dX7_shortEscaped_1 (off := 90) (by decide) (by rw [q110]; decide) (by decide) ?_
              refine ww_bipush 91 X (v := (10 : Int32)) dX7_shortEscaped_91 (by decide) ?_
              exact ww_iretE 93 X hQ dX7_shortEscaped_93 h
            · replace h := (if_neg q110).symm.trans h
              by_cases q114 : l0 = (114 : Int32)
              · replace h := (if_pos q114).symm.trans h
                refine ww_lookup 1 94 X dX7_shortEscaped_1 (off := 93) (by decide) (by rw [q114]; decide) (by decide) ?_
                refine ww_bipush 94 X (v := (13 : Int32)) dX7_shortEscaped_94 (by decide) ?_
                exact ww_iretE 96 X hQ dX7_shortEscaped_96 h
              · replace h := (if_neg q114).symm.trans h
                by_cases q116 : l0 = (116 : Int32)
                · replace h := (if_pos q116).symm.trans h
                  refine ww_lookup 1 97 X dX7_shortEscaped_1 (off := 96) (by decide) (by rw [q116]; decide) (by decide) ?_
                  refine ww_bipush 97 X (v := (9 : Int32)) dX7_shortEscaped_97 (by decide) ?_
                  exact ww_iretE 99 X hQ dX7_shortEscaped_99 h
                · replace h := (if_neg q116).symm.trans h
                  refine ww_lookup 1 100 X dX7_shortEscaped_1 (off := 99) (by decide) (by show Op.lookupswitch.offset [(34, 75), (47, 81), (92, 78), (98, 84), (102, 87), (110, 90), (114, 93), (116, 96)] 99 _ = _; rw [lv_osw q34 (show (34 : Int32).toInt = 34 by decide), lv_osw q47 (show (47 : Int32).toInt = 47 by decide), lv_osw q92 (show (92 : Int32).toInt = 92 by decide), lv_osw q98 (show (98 : Int32).toInt = 98 by decide), lv_osw q102 (show (102 : Int32).toInt = 102 by decide), lv_osw q110 (show (110 : Int32).toInt = 110 by decide), lv_osw q114 (show (114 : Int32).toInt = 114 by decide), lv_osw q116 (show (116 : Int32).toInt = 116 by decide)]; rfl) (by decide) ?_
                  refine ww_iconst 100 X (v := (-1 : Int32)) dX7_shortEscaped_100 (by decide) ?_
                  exact ww_iretE 101 X hQ dX7_shortEscaped_101 h
theorem c_X7_shortEscaped {G : mG} {F sz : Nat} {r0 : Int32} {M0 : mM} (l : Launch) (D : mD) (A : Nat → Prop) {l0 : Int32} {M : mM} (h : P_X7_shortEscaped G F l0 M = some (r0, M0)) : mMetI l D G A yX7_shortEscaped cX7_shortEscaped 1 (some .int) 0 0 0 0 [.int l0] M sz r0 M0 sz := mMetI_of l D G A (by decide) (Nat.le_of_ble_eq_true rfl) (fun x X hQ => wP_X7_shortEscaped X hQ h)
/-! SealedTokens$Reader.fourDigits(Z)I -/
theorem dX7_fourDigits_0 : decode cX7_fourDigits 0 = .ok (.iconst 0, 1) := by decide +kernel
theorem dX7_fourDigits_1 : decode cX7_fourDigits 1 = .ok (.istore_n 2, 1) := by decide +kernel
theorem dX7_fourDigits_2 : decode cX7_fourDigits 2 = .ok (.iconst 0, 1) := by decide +kernel
theorem dX7_fourDigits_3 : decode cX7_fourDigits 3 = .ok (.istore_n 3, 1) := by decide +kernel
theorem dX7_fourDigits_4 : decode cX7_fourDigits 4 = .ok (.iload_n 3, 1) := by decide +kernel
theorem dX7_fourDigits_5 : decode cX7_fourDigits 5 = .ok (.iconst 4, 1) := by decide +kernel
theorem dX7_fourDigits_6 : decode cX7_fourDigits 6 = .ok (.if_icmp .ge 131, 3) := by decide +kernel
theorem dX7_fourDigits_9 : decode cX7_fourDigits 9 = .ok (.aload_n 0, 1) := by decide +kernel
theorem dX7_fourDigits_10 : decode cX7_fourDigits 10 = .ok (.getfield 9, 3) := by decide +kernel
theorem dX7_fourDigits_13 : decode cX7_fourDigits 13 = .ok (.aload_n 0, 1) := by decide +kernel
theorem dX7_fourDigits_14 : decode cX7_fourDigits 14 = .ok (.getfield 24, 3) := by decide +kernel
theorem dX7_fourDigits_17 : decode cX7_fourDigits 17 = .ok (.invokevirtual 48, 3) := by decide +kernel
theorem dX7_fourDigits_20 : decode cX7_fourDigits 20 = .ok (.invokestatic 179, 3) := by decide +kernel
theorem dX7_fourDigits_23 : decode cX7_fourDigits 23 = .ok (.istore 4, 2) := by decide +kernel
theorem dX7_fourDigits_25 : decode cX7_fourDigits 25 = .ok (.iload 4, 2) := by decide +kernel
theorem dX7_fourDigits_27 : decode cX7_fourDigits 27 = .ok (.iconst (-1), 1) := by decide +kernel
theorem dX7_fourDigits_28 : decode cX7_fourDigits 28 = .ok (.if_icmp .eq 7, 3) := by decide +kernel
theorem dX7_fourDigits_31 : decode cX7_fourDigits 31 = .ok (.iconst 1, 1) := by decide +kernel
theorem dX7_fourDigits_32 : decode cX7_fourDigits 32 = .ok (.goto 4, 3) := by decide +kernel
theorem dX7_fourDigits_35 : decode cX7_fourDigits 35 = .ok (.iconst 0, 1) := by decide +kernel
theorem dX7_fourDigits_36 : decode cX7_fourDigits 36 = .ok (.istore 5, 2) := by decide +kernel
theorem dX7_fourDigits_38 : decode cX7_fourDigits 38 = .ok (.iload_n 3, 1) := by decide +kernel
theorem dX7_fourDigits_39 : decode cX7_fourDigits 39 = .ok (.ifCond .ne 21, 3) := by decide +kernel
theorem dX7_fourDigits_42 : decode cX7_fourDigits 42 = .ok (.iload_n 1, 1) := by decide +kernel
theorem dX7_fourDigits_43 : decode cX7_fourDigits 43 = .ok (.ifCond .eq 17, 3) := by decide +kernel
theorem dX7_fourDigits_46 : decode cX7_fourDigits 46 = .ok (.iload 4, 2) := by decide +kernel
theorem dX7_fourDigits_48 : decode cX7_fourDigits 48 = .ok (.bipush 13, 2) := by decide +kernel
theorem dX7_fourDigits_50 : decode cX7_fourDigits 50 = .ok (.if_icmp .ne 7, 3) := by decide +kernel
theorem dX7_fourDigits_53 : decode cX7_fourDigits 53 = .ok (.iconst 1, 1) := by decide +kernel
theorem dX7_fourDigits_54 : decode cX7_fourDigits 54 = .ok (.goto 4, 3) := by decide +kernel
theorem dX7_fourDigits_57 : decode cX7_fourDigits 57 = .ok (.iconst 0, 1) := by decide +kernel
theorem dX7_fourDigits_58 : decode cX7_fourDigits 58 = .ok (.istore 5, 2) := by decide +kernel
theorem dX7_fourDigits_60 : decode cX7_fourDigits 60 = .ok (.iload_n 3, 1) := by decide +kernel
theorem dX7_fourDigits_61 : decode cX7_fourDigits 61 = .ok (.iconst 1, 1) := by decide +kernel
theorem dX7_fourDigits_62 : decode cX7_fourDigits 62 = .ok (.if_icmp .ne 37, 3) := by decide +kernel
theorem dX7_fourDigits_65 : decode cX7_fourDigits 65 = .ok (.iload_n 2, 1) := by decide +kernel
theorem dX7_fourDigits_66 : decode cX7_fourDigits 66 = .ok (.bipush 13, 2) := by decide +kernel
theorem dX7_fourDigits_68 : decode cX7_fourDigits 68 = .ok (.if_icmp .ne 31, 3) := by decide +kernel
theorem dX7_fourDigits_71 : decode cX7_fourDigits 71 = .ok (.iload 5, 2) := by decide +kernel
theorem dX7_fourDigits_73 : decode cX7_fourDigits 73 = .ok (.ifCond .eq 23, 3) := by decide +kernel
theorem dX7_fourDigits_76 : decode cX7_fourDigits 76 = .ok (.iload 4, 2) := by decide +kernel
theorem dX7_fourDigits_78 : decode cX7_fourDigits 78 = .ok (.bipush 12, 2) := by decide +kernel
theorem dX7_fourDigits_80 : decode cX7_fourDigits 80 = .ok (.if_icmp .lt 7, 3) := by decide +kernel
theorem dX7_fourDigits_83 : decode cX7_fourDigits 83 = .ok (.iconst 1, 1) := by decide +kernel
theorem dX7_fourDigits_84 : decode cX7_fourDigits 84 = .ok (.goto 4, 3) := by decide +kernel
theorem dX7_fourDigits_87 : decode cX7_fourDigits 87 = .ok (.iconst 0, 1) := by decide +kernel
theorem dX7_fourDigits_88 : decode cX7_fourDigits 88 = .ok (.iload_n 1, 1) := by decide +kernel
theorem dX7_fourDigits_89 : decode cX7_fourDigits 89 = .ok (.if_icmp .ne 7, 3) := by decide +kernel
theorem dX7_fourDigits_92 : decode cX7_fourDigits 92 = .ok (.iconst 1, 1) := by decide +kernel
theorem dX7_fourDigits_93 : decode cX7_fourDigits 93 = .ok (.goto 4, 3) := by decide +kernel
theorem dX7_fourDigits_96 : decode cX7_fourDigits 96 = .ok (.iconst 0, 1) := by decide +kernel
theorem dX7_fourDigits_97 : decode cX7_fourDigits 97 = .ok (.istore 5, 2) := by decide +kernel
theorem dX7_fourDigits_99 : decode cX7_fourDigits 99 = .ok (.iload 5, 2) := by decide +kernel
theorem dX7_fourDigits_101 : decode cX7_fourDigits 101 = .ok (.ifCond .ne 13, 3) := by decide +kernel
theorem dX7_fourDigits_104 : decode cX7_fourDigits 104 = .ok (.aload_n 0, 1) := by decide +kernel
theorem dX7_fourDigits_105 : decode cX7_fourDigits 105 = .ok (.aload_n 0, 1) := by decide +kernel
theorem dX7_fourDigits_106 : decode cX7_fourDigits 106 = .ok (.getfield 24, 3) := by decide +kernel
theorem dX7_fourDigits_109 : decode cX7_fourDigits 109 = .ok (.putfield 28, 3) := by decide +kernel
theorem dX7_fourDigits_112 : decode cX7_fourDigits 112 = .ok (.iconst (-1), 1) := by decide +kernel
theorem dX7_fourDigits_113 : decode cX7_fourDigits 113 = .ok (.ireturn, 1) := by decide +kernel
theorem dX7_fourDigits_114 : decode cX7_fourDigits 114 = .ok (.iload_n 2, 1) := by decide +kernel
theorem dX7_fourDigits_115 : decode cX7_fourDigits 115 = .ok (.iconst 4, 1) := by decide +kernel
theorem dX7_fourDigits_116 : decode cX7_fourDigits 116 = .ok (.ishl, 1) := by decide +kernel
theorem dX7_fourDigits_117 : decode cX7_fourDigits 117 = .ok (.iload 4, 2) := by decide +kernel
theorem dX7_fourDigits_119 : decode cX7_fourDigits 119 = .ok (.ior, 1) := by decide +kernel
theorem dX7_fourDigits_120 : decode cX7_fourDigits 120 = .ok (.istore_n 2, 1) := by decide +kernel
theorem dX7_fourDigits_121 : decode cX7_fourDigits 121 = .ok (.aload_n 0, 1) := by decide +kernel
theorem dX7_fourDigits_122 : decode cX7_fourDigits 122 = .ok (.dup, 1) := by decide +kernel
theorem dX7_fourDigits_123 : decode cX7_fourDigits 123 = .ok (.getfield 24, 3) := by decide +kernel
theorem dX7_fourDigits_126 : decode cX7_fourDigits 126 = .ok (.iconst 1, 1) := by decide +kernel
theorem dX7_fourDigits_127 : decode cX7_fourDigits 127 = .ok (.iadd, 1) := by decide +kernel
theorem dX7_fourDigits_128 : decode cX7_fourDigits 128 = .ok (.putfield 24, 3) := by decide +kernel
theorem dX7_fourDigits_131 : decode cX7_fourDigits 131 = .ok (.iinc 3 1, 3) := by decide +kernel
theorem dX7_fourDigits_134 : decode cX7_fourDigits 134 = .ok (.goto (-130), 3) := by decide +kernel
theorem dX7_fourDigits_137 : decode cX7_fourDigits 137 = .ok (.iload_n 2, 1) := by decide +kernel
theorem dX7_fourDigits_138 : decode cX7_fourDigits 138 = .ok (.ireturn, 1) := by decide +kernel
abbrev rmX7_fourDigits : Room := { frames := 1, cells := 0, slots := 0, locals := 21 }
set_option maxHeartbeats 4000000 in
set_option maxRecDepth 100000 in
theorem wB_X7_fourDigits_99 {G : mG} {F : Nat} {x : mXT} {sz : Nat} {r0 : Int32} {M0 : mM} (X : mCX G RX7 cX7_fourDigits 6 (some .int) "fourDigits" rmX7_fourDigits x) (hQ : mQI x r0 M0 (sz, 0, 0)) (r4 : Nat → Int32 → Int32 → Int32 → mM → Option (Int32 × mM)) (hr4 : ∀ (l0 : Nat) (l1 : Int32) (l2 : Int32) (l3 : Int32) (M : mM), r4 l0 l1 l2 l3 M = some (r0, M0) → WW x (sz, 0, 0) M 4 [(0, .ref l0), (1, .int l1), (2, .int l2), (3, .int l3)] []) {l0 : Nat} {l1 : Int32} {l2 : Int32} {l3 : Int32} {l4 : Int32} {l5 : Int32} {M : mM} (h : B_X7_fourDigits_99 G F r4 l0 l1 l2 l3 l4 l5 M = some (r0, M0)) : WW x (sz, 0, 0) M 99 [(0, .ref l0), (1, .int l1), (2, .int l2), (3, .int l3), (4, .int l4), (5, .int l5)] [] := by
  unfold B_X7_fourDigits_99 at h
  refine ww_iload 99 X dX7_fourDigits_99 5 rfl ?_
  refine ww_if_ne 101 114 X dX7_fourDigits_101 (by decide) (fun q => ?_) (fun q => ?_)
  · replace h := (if_neg q).symm.trans h
    refine ww_iload_n 114 X dX7_fourDigits_114 2 rfl rfl ?_
    refine ww_iconst 115 X (v := (4 : Int32)) dX7_fourDigits_115 (by decide) ?_
    refine ww_ishl 116 X dX7_fourDigits_116 ?_
    refine ww_iload 117 X dX7_fourDigits_117 4 rfl ?_
    refine ww_ior 119 X dX7_fourDigits_119 ?_
    refine ww_istore_n 120 X dX7_fourDigits_120 (lv' := [(0, .ref l0), (1, .int l1), (2, .int ((l2 <<< ((4 : Int32) &&& 31)) ||| l4)), (3, .int l3), (4, .int l4), (5, .int l5)]) rfl (by decide) [1, 2, 0, 3, 4, 5] rfl ?_
    refine ww_aload_n 121 X dX7_fourDigits_121 0 rfl rfl ?_
    refine ww_dup 122 X dX7_fourDigits_122 rfl ?_
    obtain ⟨v123, e123, h⟩ := bO_some h
    refine ww_getI 123 X dX7_fourDigits_123 fG_X7_24 e123 ?_
    refine ww_iconst 126 X (v := (1 : Int32)) dX7_fourDigits_126 (by decide) ?_
    refine ww_iadd 127 X dX7_fourDigits_127 ?_
    obtain ⟨M128, e128, h⟩ := bO_some h
    refine ww_putI 128 X dX7_fourDigits_128 (fP_X7_24 _) e128 ?_
    refine ww_iinc 131 X dX7_fourDigits_131 (lv' := [(0, .ref l0), (1, .int l1), (2, .int ((l2 <<< ((4 : Int32) &&& 31)) ||| l4)), (3, .int (l3 + 1)), (4, .int l4), (5, .int l5)]) 3 rfl rfl (by decide) [1, 2, 3, 0, 4, 5] rfl ?_
    refine ww_goto 134 4 X dX7_fourDigits_134 (by decide) ?_
    exact ww_sub [0, 1, 2, 3] rfl (hr4 _ _ _ _ _ h)
  · replace h := (if_pos q).symm.trans h
    refine ww_aload_n 104 X dX7_fourDigits_104 0 rfl rfl ?_
    refine ww_aload_n 105 X dX7_fourDigits_105 0 rfl rfl ?_
    obtain ⟨v106, e106, h⟩ := bO_some h
    refine ww_getI 106 X dX7_fourDigits_106 fG_X7_24 e106 ?_
    obtain ⟨M109, e109, h⟩ := bO_some h
    refine ww_putI 109 X dX7_fourDigits_109 (fP_X7_28 _) e109 ?_
    refine ww_iconst 112 X (v := (-1 : Int32)) dX7_fourDigits_112 (by decide) ?_
    exact ww_iretE 113 X hQ dX7_fourDigits_113 h
set_option maxHeartbeats 4000000 in
set_option maxRecDepth 100000 in
theorem wB_X7_fourDigits_60 {G : mG} {F : Nat} {x : mXT} {sz : Nat} {r0 : Int32} {M0 : mM} (X : mCX G RX7 cX7_fourDigits 6 (some .int) "fourDigits" rmX7_fourDigits x) (hQ : mQI x r0 M0 (sz, 0, 0)) (r4 : Nat → Int32 → Int32 → Int32 → mM → Option (Int32 × mM)) (hr4 : ∀ (l0 : Nat) (l1 : Int32) (l2 : Int32) (l3 : Int32) (M : mM), r4 l0 l1 l2 l3 M = some (r0, M0) → WW x (sz, 0, 0) M 4 [(0, .ref l0), (1, .int l1), (2, .int l2), (3, .int l3)] []) {l0 : Nat} {l1 : Int32} {l2 : Int32} {l3 : Int32} {l4 : Int32} {l5 : Int32} {M : mM} (h : B_X7_fourDigits_60 G F r4 l0 l1 l2 l3 l4 l5 M = some (r0, M0)) : WW x (sz, 0, 0) M 60 [(0, .ref l0), (1, .int l1), (2, .int l2), (3, .int l3), (4, .int l4), (5, .int l5)] [] := by
  unfold B_X7_fourDigits_60 at h
  refine ww_iload_n 60 X dX7_fourDigits_60 3 rfl rfl ?_
  refine ww_iconst 61 X (v := (1 : Int32)) dX7_fourDigits_61 (by decide) ?_
  refine ww_icmp_ne 62 99 X dX7_fourDigits_62 (by decide) (fun q => ?_) (fun q => ?_)
  · replace h := (if_neg q).symm.trans h
    exact (wB_X7_fourDigits_99 X hQ _ hr4 h)
  · replace h := (if_pos q).symm.trans h
    refine ww_iload_n 65 X dX7_fourDigits_65 2 rfl rfl ?_
    refine ww_bipush 66 X (v := (13 : Int32)) dX7_fourDigits_66 (by decide) ?_
    refine ww_icmp_ne 68 99 X dX7_fourDigits_68 (by decide) (fun q => ?_) (fun q => ?_)
    · replace h := (if_neg q).symm.trans h
      exact (wB_X7_fourDigits_99 X hQ _ hr4 h)
    · replace h := (if_pos q).symm.trans h
      refine ww_iload 71 X dX7_fourDigits_71 5 rfl ?_
      refine ww_if_eq 73 96 X dX7_fourDigits_73 (by decide) (fun q => ?_) (fun q => ?_)
      · replace h := (if_pos q).symm.trans h
        refine ww_iconst 96 X (v := (0 : Int32)) dX7_fourDigits_96 (by decide) ?_
        refine ww_istore 97 X dX7_fourDigits_97 (lv' := [(0, .ref l0), (1, .int l1), (2, .int l2), (3, .int l3), (4, .int l4), (5, .int (0 : Int32))]) (by decide) [1, 2, 3, 4, 5, 0] rfl ?_
        exact (wB_X7_fourDigits_99 X hQ _ hr4 h)
      · replace h := (if_neg q).symm.trans h
        refine ww_iload 76 X dX7_fourDigits_76 4 rfl ?_
        refine ww_bipush 78 X (v := (12 : Int32)) dX7_fourDigits_78 (by decide) ?_
        refine ww_icmp_lt 80 87 X dX7_fourDigits_80 (by decide) (fun q => ?_) (fun q => ?_)
        · replace h := (if_pos q).symm.trans h
          refine ww_iconst 87 X (v := (0 : Int32)) dX7_fourDigits_87 (by decide) ?_
          refine ww_iload_n 88 X dX7_fourDigits_88 1 rfl rfl ?_
          refine ww_icmp_ne 89 96 X dX7_fourDigits_89 (by decide) (fun q => ?_) (fun q => ?_)
          · replace h := (if_neg q).symm.trans h
            refine ww_iconst 96 X (v := (0 : Int32)) dX7_fourDigits_96 (by decide) ?_
            refine ww_istore 97 X dX7_fourDigits_97 (lv' := [(0, .ref l0), (1, .int l1), (2, .int l2), (3, .int l3), (4, .int l4), (5, .int (0 : Int32))]) (by decide) [1, 2, 3, 4, 5, 0] rfl ?_
            exact (wB_X7_fourDigits_99 X hQ _ hr4 h)
          · replace h := (if_pos q).symm.trans h
            refine ww_iconst 92 X (v := (1 : Int32)) dX7_fourDigits_92 (by decide) ?_
            refine ww_goto 93 97 X dX7_fourDigits_93 (by decide) ?_
            refine ww_istore 97 X dX7_fourDigits_97 (lv' := [(0, .ref l0), (1, .int l1), (2, .int l2), (3, .int l3), (4, .int l4), (5, .int (1 : Int32))]) (by decide) [1, 2, 3, 4, 5, 0] rfl ?_
            exact (wB_X7_fourDigits_99 X hQ _ hr4 h)
        · replace h := (if_neg q).symm.trans h
          refine ww_iconst 83 X (v := (1 : Int32)) dX7_fourDigits_83 (by decide) ?_
          refine ww_goto 84 88 X dX7_fourDigits_84 (by decide) ?_
          refine ww_iload_n 88 X dX7_fourDigits_88 1 rfl rfl ?_
          refine ww_icmp_ne 89 96 X dX7_fourDigits_89 (by decide) (fun q => ?_) (fun q => ?_)
          · replace h := (if_neg q).symm.trans h
            refine ww_iconst 96 X (v := (0 : Int32)) dX7_fourDigits_96 (by decide) ?_
            refine ww_istore 97 X dX7_fourDigits_97 (lv' := [(0, .ref l0), (1, .int l1), (2, .int l2), (3, .int l3), (4, .int l4), (5, .int (0 : Int32))]) (by decide) [1, 2, 3, 4, 5, 0] rfl ?_
            exact (wB_X7_fourDigits_99 X hQ _ hr4 h)
          · replace h := (if_pos q).symm.trans h
            refine ww_iconst 92 X (v := (1 : Int32)) dX7_fourDigits_92 (by decide) ?_
            refine ww_goto 93 97 X dX7_fourDigits_93 (by decide) ?_
            refine ww_istore 97 X dX7_fourDigits_97 (lv' := [(0, .ref l0), (1, .int l1), (2, .int l2), (3, .int l3), (4, .int l4), (5, .int (1 : Int32))]) (by decide) [1, 2, 3, 4, 5, 0] rfl ?_
            exact (wB_X7_fourDigits_99 X hQ _ hr4 h)
set_option maxHeartbeats 4000000 in
set_option maxRecDepth 100000 in
theorem wB_X7_fourDigits_36 {G : mG} {F : Nat} {x : mXT} {sz : Nat} {r0 : Int32} {M0 : mM} (X : mCX G RX7 cX7_fourDigits 6 (some .int) "fourDigits" rmX7_fourDigits x) (hQ : mQI x r0 M0 (sz, 0, 0)) (r4 : Nat → Int32 → Int32 → Int32 → mM → Option (Int32 × mM)) (hr4 : ∀ (l0 : Nat) (l1 : Int32) (l2 : Int32) (l3 : Int32) (M : mM), r4 l0 l1 l2 l3 M = some (r0, M0) → WW x (sz, 0, 0) M 4 [(0, .ref l0), (1, .int l1), (2, .int l2), (3, .int l3)] []) {l0 : Nat} {l1 : Int32} {l2 : Int32} {l3 : Int32} {l4 : Int32} {sk0 : Int32} {M : mM} (h : B_X7_fourDigits_36 G F r4 l0 l1 l2 l3 l4 sk0 M = some (r0, M0)) : WW x (sz, 0, 0) M 36 [(0, .ref l0), (1, .int l1), (2, .int l2), (3, .int l3), (4, .int l4)] [.int sk0] := by
  unfold B_X7_fourDigits_36 at h
  refine ww_istore 36 X dX7_fourDigits_36 (lv' := [(0, .ref l0), (1, .int l1), (2, .int l2), (3, .int l3), (4, .int l4), (5, .int sk0)]) (by decide) [1, 2, 3, 4, 5, 0] rfl ?_
  refine ww_iload_n 38 X dX7_fourDigits_38 3 rfl rfl ?_
  refine ww_if_ne 39 60 X dX7_fourDigits_39 (by decide) (fun q => ?_) (fun q => ?_)
  · replace h := (if_neg q).symm.trans h
    exact (wB_X7_fourDigits_60 X hQ _ hr4 h)
  · replace h := (if_pos q).symm.trans h
    refine ww_iload_n 42 X dX7_fourDigits_42 1 rfl rfl ?_
    refine ww_if_eq 43 60 X dX7_fourDigits_43 (by decide) (fun q => ?_) (fun q => ?_)
    · replace h := (if_pos q).symm.trans h
      exact (wB_X7_fourDigits_60 X hQ _ hr4 h)
    · replace h := (if_neg q).symm.trans h
      refine ww_iload 46 X dX7_fourDigits_46 4 rfl ?_
      refine ww_bipush 48 X (v := (13 : Int32)) dX7_fourDigits_48 (by decide) ?_
      refine ww_icmp_ne 50 57 X dX7_fourDigits_50 (by decide) (fun q => ?_) (fun q => ?_)
      · replace h := (if_neg q).symm.trans h
        refine ww_iconst 57 X (v := (0 : Int32)) dX7_fourDigits_57 (by decide) ?_
        refine ww_istore 58 X dX7_fourDigits_58 (lv' := [(0, .ref l0), (1, .int l1), (2, .int l2), (3, .int l3), (4, .int l4), (5, .int (0 : Int32))]) (by decide) [1, 2, 3, 4, 5, 0] rfl ?_
        exact (wB_X7_fourDigits_60 X hQ _ hr4 h)
      · replace h := (if_pos q).symm.trans h
        refine ww_iconst 53 X (v := (1 : Int32)) dX7_fourDigits_53 (by decide) ?_
        refine ww_goto 54 58 X dX7_fourDigits_54 (by decide) ?_
        refine ww_istore 58 X dX7_fourDigits_58 (lv' := [(0, .ref l0), (1, .int l1), (2, .int l2), (3, .int l3), (4, .int l4), (5, .int (1 : Int32))]) (by decide) [1, 2, 3, 4, 5, 0] rfl ?_
        exact (wB_X7_fourDigits_60 X hQ _ hr4 h)
set_option maxHeartbeats 4000000 in
set_option maxRecDepth 100000 in
theorem wB_X7_fourDigits_4 {G : mG} {F : Nat} {x : mXT} {sz : Nat} {r0 : Int32} {M0 : mM} (X : mCX G RX7 cX7_fourDigits 6 (some .int) "fourDigits" rmX7_fourDigits x) (hQ : mQI x r0 M0 (sz, 0, 0)) : ∀ (n : Nat) (l0 : Nat) (l1 : Int32) (l2 : Int32) (l3 : Int32) (M : mM), B_X7_fourDigits_4 G F n l0 l1 l2 l3 M = some (r0, M0) → WW x (sz, 0, 0) M 4 [(0, .ref l0), (1, .int l1), (2, .int l2), (3, .int l3)] [] := by
  intro n
  induction n with
  | zero =>
    intro l0 l1 l2 l3 M h
    exact nomatch (show (none : Option (Int32 × mM)) = some (r0, M0) from h)
  | succ n ih =>
    intro l0 l1 l2 l3 M h
    rw [B_X7_fourDigits_4] at h
    refine ww_iload_n 4 X dX7_fourDigits_4 3 rfl rfl ?_
    refine ww_iconst 5 X (v := (4 : Int32)) dX7_fourDigits_5 (by decide) ?_
    refine ww_icmp_ge 6 137 X dX7_fourDigits_6 (by decide) (fun q => ?_) (fun q => ?_)
    · replace h := (if_pos q).symm.trans h
      refine ww_iload_n 137 X dX7_fourDigits_137 2 rfl rfl ?_
      exact ww_iretE 138 X hQ dX7_fourDigits_138 h
    · replace h := (if_neg q).symm.trans h
      refine ww_aload_n 9 X dX7_fourDigits_9 0 rfl rfl ?_
      obtain ⟨v10, e10, h⟩ := bO_some h
      refine ww_getR 10 X dX7_fourDigits_10 fG_X7_9 e10 ?_
      refine ww_aload_n 13 X dX7_fourDigits_13 0 rfl rfl ?_
      obtain ⟨v14, e14, h⟩ := bO_some h
      refine ww_getI 14 X dX7_fourDigits_14 fG_X7_24 e14 ?_
      obtain ⟨_, f17, h⟩ := bO_some h
      obtain ⟨v17, M17, e17, h⟩ := bP_some h
      refine ww_callVI0 17 X dX7_fourDigits_17 mY_X0_peek mL_X7_48 (rcv_spec f17) ⟨_, _, rfl⟩ (by decide) (As := [.int v14]) (rest := []) rfl rfl ⟨Nat.le_of_ble_eq_true rfl, Nat.le_of_ble_eq_true rfl⟩ (Nat.le_of_ble_eq_true rfl) (fun l D A => c_X0_peek l D A e17) ?_
      obtain ⟨v20, M20, e20, h⟩ := bP_some h
      refine ww_callSI0 20 X dX7_fourDigits_20 mY_X7_hexValue mL_X7_179 (As := [.int v17]) (rest := []) rfl rfl ⟨Nat.le_of_ble_eq_true rfl, Nat.le_of_ble_eq_true rfl⟩ (Nat.le_of_ble_eq_true rfl) (fun l D A => c_X7_hexValue l D A e20) ?_
      refine ww_istore 23 X dX7_fourDigits_23 (lv' := [(0, .ref l0), (1, .int l1), (2, .int l2), (3, .int l3), (4, .int v20)]) (by decide) [1, 2, 3, 4, 0] rfl ?_
      refine ww_iload 25 X dX7_fourDigits_25 4 rfl ?_
      refine ww_iconst 27 X (v := (-1 : Int32)) dX7_fourDigits_27 (by decide) ?_
      refine ww_icmp_eq 28 35 X dX7_fourDigits_28 (by decide) (fun q => ?_) (fun q => ?_)
      · replace h := (if_pos q).symm.trans h
        refine ww_iconst 35 X (v := (0 : Int32)) dX7_fourDigits_35 (by decide) ?_
        exact (wB_X7_fourDigits_36 X hQ _ ih h)
      · replace h := (if_neg q).symm.trans h
        refine ww_iconst 31 X (v := (1 : Int32)) dX7_fourDigits_31 (by decide) ?_
        refine ww_goto 32 36 X dX7_fourDigits_32 (by decide) ?_
        exact (wB_X7_fourDigits_36 X hQ _ ih h)
set_option maxHeartbeats 4000000 in
set_option maxRecDepth 100000 in
theorem wP_X7_fourDigits {G : mG} {F : Nat} {x : mXT} {sz : Nat} {r0 : Int32} {M0 : mM} (X : mCX G RX7 cX7_fourDigits 6 (some .int) "fourDigits" rmX7_fourDigits x) (hQ : mQI x r0 M0 (sz, 0, 0)) {l0 : Nat} {l1 : Int32} {M : mM} (h : P_X7_fourDigits G F l0 l1 M = some (r0, M0)) : WW x (sz, 0, 0) M 0 [(0, .ref l0), (1, .int l1)] [] := by
  unfold P_X7_fourDigits at h
  refine ww_iconst 0 X (v := (0 : Int32)) dX7_fourDigits_0 (by decide) ?_
  refine ww_istore_n 1 X dX7_fourDigits_1 (lv' := [(0, .ref l0), (1, .int l1), (2, .int (0 : Int32))]) rfl (by decide) [1, 2, 0] rfl ?_
  refine ww_iconst 2 X (v := (0 : Int32)) dX7_fourDigits_2 (by decide) ?_
  refine ww_istore_n 3 X dX7_fourDigits_3 (lv' := [(0, .ref l0), (1, .int l1), (2, .int (0 : Int32)), (3, .int (0 : Int32))]) rfl (by decide) [1, 2, 3, 0] rfl ?_
  exact (wB_X7_fourDigits_4 X hQ F _ _ _ _ _ h)
theorem c_X7_fourDigits {G : mG} {F sz : Nat} {r0 : Int32} {M0 : mM} (l : Launch) (D : mD) (A : Nat → Prop) {l0 : Nat} {l1 : Int32} {M : mM} (h : P_X7_fourDigits G F l0 l1 M = some (r0, M0)) : mMetI l D G A yX7_fourDigits cX7_fourDigits 6 (some .int) 1 21 0 0 [.ref l0, .int l1] M sz r0 M0 sz := mMetI_of l D G A (by decide) (Nat.le_of_ble_eq_true rfl) (fun x X hQ => wP_X7_fourDigits X hQ h)
/-! SealedTokens$Reader.escape()I -/
theorem dX7_escape_0 : decode cX7_escape 0 = .ok (.aload_n 0, 1) := by decide +kernel
theorem dX7_escape_1 : decode cX7_escape 1 = .ok (.dup, 1) := by decide +kernel
theorem dX7_escape_2 : decode cX7_escape 2 = .ok (.getfield 24, 3) := by decide +kernel
theorem dX7_escape_5 : decode cX7_escape 5 = .ok (.iconst 1, 1) := by decide +kernel
theorem dX7_escape_6 : decode cX7_escape 6 = .ok (.iadd, 1) := by decide +kernel
theorem dX7_escape_7 : decode cX7_escape 7 = .ok (.putfield 24, 3) := by decide +kernel
theorem dX7_escape_10 : decode cX7_escape 10 = .ok (.aload_n 0, 1) := by decide +kernel
theorem dX7_escape_11 : decode cX7_escape 11 = .ok (.getfield 9, 3) := by decide +kernel
theorem dX7_escape_14 : decode cX7_escape 14 = .ok (.aload_n 0, 1) := by decide +kernel
theorem dX7_escape_15 : decode cX7_escape 15 = .ok (.getfield 24, 3) := by decide +kernel
theorem dX7_escape_18 : decode cX7_escape 18 = .ok (.invokevirtual 48, 3) := by decide +kernel
theorem dX7_escape_21 : decode cX7_escape 21 = .ok (.istore_n 1, 1) := by decide +kernel
theorem dX7_escape_22 : decode cX7_escape 22 = .ok (.iload_n 1, 1) := by decide +kernel
theorem dX7_escape_23 : decode cX7_escape 23 = .ok (.bipush 117, 2) := by decide +kernel
theorem dX7_escape_25 : decode cX7_escape 25 = .ok (.if_icmp .eq 33, 3) := by decide +kernel
theorem dX7_escape_28 : decode cX7_escape 28 = .ok (.iload_n 1, 1) := by decide +kernel
theorem dX7_escape_29 : decode cX7_escape 29 = .ok (.invokestatic 166, 3) := by decide +kernel
theorem dX7_escape_32 : decode cX7_escape 32 = .ok (.istore_n 2, 1) := by decide +kernel
theorem dX7_escape_33 : decode cX7_escape 33 = .ok (.iload_n 2, 1) := by decide +kernel
theorem dX7_escape_34 : decode cX7_escape 34 = .ok (.iconst (-1), 1) := by decide +kernel
theorem dX7_escape_35 : decode cX7_escape 35 = .ok (.if_icmp .ne 11, 3) := by decide +kernel
theorem dX7_escape_38 : decode cX7_escape 38 = .ok (.aload_n 0, 1) := by decide +kernel
theorem dX7_escape_39 : decode cX7_escape 39 = .ok (.aload_n 0, 1) := by decide +kernel
theorem dX7_escape_40 : decode cX7_escape 40 = .ok (.getfield 24, 3) := by decide +kernel
theorem dX7_escape_43 : decode cX7_escape 43 = .ok (.putfield 28, 3) := by decide +kernel
theorem dX7_escape_46 : decode cX7_escape 46 = .ok (.aload_n 0, 1) := by decide +kernel
theorem dX7_escape_47 : decode cX7_escape 47 = .ok (.dup, 1) := by decide +kernel
theorem dX7_escape_48 : decode cX7_escape 48 = .ok (.getfield 24, 3) := by decide +kernel
theorem dX7_escape_51 : decode cX7_escape 51 = .ok (.iconst 1, 1) := by decide +kernel
theorem dX7_escape_52 : decode cX7_escape 52 = .ok (.iadd, 1) := by decide +kernel
theorem dX7_escape_53 : decode cX7_escape 53 = .ok (.putfield 24, 3) := by decide +kernel
theorem dX7_escape_56 : decode cX7_escape 56 = .ok (.iload_n 2, 1) := by decide +kernel
theorem dX7_escape_57 : decode cX7_escape 57 = .ok (.ireturn, 1) := by decide +kernel
theorem dX7_escape_58 : decode cX7_escape 58 = .ok (.aload_n 0, 1) := by decide +kernel
theorem dX7_escape_59 : decode cX7_escape 59 = .ok (.dup, 1) := by decide +kernel
theorem dX7_escape_60 : decode cX7_escape 60 = .ok (.getfield 24, 3) := by decide +kernel
theorem dX7_escape_63 : decode cX7_escape 63 = .ok (.iconst 1, 1) := by decide +kernel
theorem dX7_escape_64 : decode cX7_escape 64 = .ok (.iadd, 1) := by decide +kernel
theorem dX7_escape_65 : decode cX7_escape 65 = .ok (.putfield 24, 3) := by decide +kernel
theorem dX7_escape_68 : decode cX7_escape 68 = .ok (.aload_n 0, 1) := by decide +kernel
theorem dX7_escape_69 : decode cX7_escape 69 = .ok (.iconst 0, 1) := by decide +kernel
theorem dX7_escape_70 : decode cX7_escape 70 = .ok (.invokevirtual 169, 3) := by decide +kernel
theorem dX7_escape_73 : decode cX7_escape 73 = .ok (.istore_n 2, 1) := by decide +kernel
theorem dX7_escape_74 : decode cX7_escape 74 = .ok (.iload_n 2, 1) := by decide +kernel
theorem dX7_escape_75 : decode cX7_escape 75 = .ok (.ldc 173, 2) := by decide +kernel
theorem dX7_escape_77 : decode cX7_escape 77 = .ok (.if_icmp .lt 9, 3) := by decide +kernel
theorem dX7_escape_80 : decode cX7_escape 80 = .ok (.iload_n 2, 1) := by decide +kernel
theorem dX7_escape_81 : decode cX7_escape 81 = .ok (.ldc 174, 2) := by decide +kernel
theorem dX7_escape_83 : decode cX7_escape 83 = .ok (.if_icmp .le 5, 3) := by decide +kernel
theorem dX7_escape_86 : decode cX7_escape 86 = .ok (.iload_n 2, 1) := by decide +kernel
theorem dX7_escape_87 : decode cX7_escape 87 = .ok (.ireturn, 1) := by decide +kernel
theorem dX7_escape_88 : decode cX7_escape 88 = .ok (.aload_n 0, 1) := by decide +kernel
theorem dX7_escape_89 : decode cX7_escape 89 = .ok (.ldc 175, 2) := by decide +kernel
theorem dX7_escape_91 : decode cX7_escape 91 = .ok (.invokevirtual 119, 3) := by decide +kernel
theorem dX7_escape_94 : decode cX7_escape 94 = .ok (.ifCond .ne 5, 3) := by decide +kernel
theorem dX7_escape_97 : decode cX7_escape 97 = .ok (.iconst (-1), 1) := by decide +kernel
theorem dX7_escape_98 : decode cX7_escape 98 = .ok (.ireturn, 1) := by decide +kernel
theorem dX7_escape_99 : decode cX7_escape 99 = .ok (.aload_n 0, 1) := by decide +kernel
theorem dX7_escape_100 : decode cX7_escape 100 = .ok (.iconst 1, 1) := by decide +kernel
theorem dX7_escape_101 : decode cX7_escape 101 = .ok (.invokevirtual 169, 3) := by decide +kernel
theorem dX7_escape_104 : decode cX7_escape 104 = .ok (.istore_n 3, 1) := by decide +kernel
theorem dX7_escape_105 : decode cX7_escape 105 = .ok (.iload_n 3, 1) := by decide +kernel
theorem dX7_escape_106 : decode cX7_escape 106 = .ok (.iconst (-1), 1) := by decide +kernel
theorem dX7_escape_107 : decode cX7_escape 107 = .ok (.if_icmp .ne 7, 3) := by decide +kernel
theorem dX7_escape_110 : decode cX7_escape 110 = .ok (.iconst (-1), 1) := by decide +kernel
theorem dX7_escape_111 : decode cX7_escape 111 = .ok (.goto 18, 3) := by decide +kernel
theorem dX7_escape_114 : decode cX7_escape 114 = .ok (.ldc 177, 2) := by decide +kernel
theorem dX7_escape_116 : decode cX7_escape 116 = .ok (.iload_n 2, 1) := by decide +kernel
theorem dX7_escape_117 : decode cX7_escape 117 = .ok (.ldc 173, 2) := by decide +kernel
theorem dX7_escape_119 : decode cX7_escape 119 = .ok (.isub, 1) := by decide +kernel
theorem dX7_escape_120 : decode cX7_escape 120 = .ok (.bipush 10, 2) := by decide +kernel
theorem dX7_escape_122 : decode cX7_escape 122 = .ok (.ishl, 1) := by decide +kernel
theorem dX7_escape_123 : decode cX7_escape 123 = .ok (.iadd, 1) := by decide +kernel
theorem dX7_escape_124 : decode cX7_escape 124 = .ok (.iload_n 3, 1) := by decide +kernel
theorem dX7_escape_125 : decode cX7_escape 125 = .ok (.ldc 178, 2) := by decide +kernel
theorem dX7_escape_127 : decode cX7_escape 127 = .ok (.isub, 1) := by decide +kernel
theorem dX7_escape_128 : decode cX7_escape 128 = .ok (.iadd, 1) := by decide +kernel
theorem dX7_escape_129 : decode cX7_escape 129 = .ok (.ireturn, 1) := by decide +kernel
abbrev rmX7_escape : Room := { frames := 5, cells := 0, slots := 0, locals := 107 }
set_option maxHeartbeats 4000000 in
set_option maxRecDepth 100000 in
theorem wP_X7_escape {G : mG} {F : Nat} {x : mXT} {sz : Nat} {r0 : Int32} {M0 : mM} (X : mCX G RX7 cX7_escape 4 (some .int) "escape" rmX7_escape x) (hQ : mQI x r0 M0 (sz, 0, 0)) {l0 : Nat} {M : mM} (h : P_X7_escape G F l0 M = some (r0, M0)) : WW x (sz, 0, 0) M 0 [(0, .ref l0)] [] := by
  unfold P_X7_escape at h
  refine ww_aload_n 0 X dX7_escape_0 0 rfl rfl ?_
  refine ww_dup 1 X dX7_escape_1 rfl ?_
  obtain ⟨v2, e2, h⟩ := bO_some h
  refine ww_getI 2 X dX7_escape_2 fG_X7_24 e2 ?_
  refine ww_iconst 5 X (v := (1 : Int32)) dX7_escape_5 (by decide) ?_
  refine ww_iadd 6 X dX7_escape_6 ?_
  obtain ⟨M7, e7, h⟩ := bO_some h
  refine ww_putI 7 X dX7_escape_7 (fP_X7_24 _) e7 ?_
  refine ww_aload_n 10 X dX7_escape_10 0 rfl rfl ?_
  obtain ⟨v11, e11, h⟩ := bO_some h
  refine ww_getR 11 X dX7_escape_11 fG_X7_9 e11 ?_
  refine ww_aload_n 14 X dX7_escape_14 0 rfl rfl ?_
  obtain ⟨v15, e15, h⟩ := bO_some h
  refine ww_getI 15 X dX7_escape_15 fG_X7_24 e15 ?_
  obtain ⟨_, f18, h⟩ := bO_some h
  obtain ⟨v18, M18, e18, h⟩ := bP_some h
  refine ww_callVI0 18 X dX7_escape_18 mY_X0_peek mL_X7_48 (rcv_spec f18) ⟨_, _, rfl⟩ (by decide) (As := [.int v15]) (rest := []) rfl rfl ⟨Nat.le_of_ble_eq_true rfl, Nat.le_of_ble_eq_true rfl⟩ (Nat.le_of_ble_eq_true rfl) (fun l D A => c_X0_peek l D A e18) ?_
  refine ww_istore_n 21 X dX7_escape_21 (lv' := [(0, .ref l0), (1, .int v18)]) rfl (by decide) [1, 0] rfl ?_
  refine ww_iload_n 22 X dX7_escape_22 1 rfl rfl ?_
  refine ww_bipush 23 X (v := (117 : Int32)) dX7_escape_23 (by decide) ?_
  refine ww_icmp_eq 25 58 X dX7_escape_25 (by decide) (fun q => ?_) (fun q => ?_)
  · replace h := (if_pos q).symm.trans h
    refine ww_aload_n 58 X dX7_escape_58 0 rfl rfl ?_
    refine ww_dup 59 X dX7_escape_59 rfl ?_
    obtain ⟨v60, e60, h⟩ := bO_some h
    refine ww_getI 60 X dX7_escape_60 fG_X7_24 e60 ?_
    refine ww_iconst 63 X (v := (1 : Int32)) dX7_escape_63 (by decide) ?_
    refine ww_iadd 64 X dX7_escape_64 ?_
    obtain ⟨M65, e65, h⟩ := bO_some h
    refine ww_putI 65 X dX7_escape_65 (fP_X7_24 _) e65 ?_
    refine ww_aload_n 68 X dX7_escape_68 0 rfl rfl ?_
    refine ww_iconst 69 X (v := (0 : Int32)) dX7_escape_69 (by decide) ?_
    obtain ⟨_, f70, h⟩ := bO_some h
    obtain ⟨v70, M70, e70, h⟩ := bP_some h
    refine ww_callVI0 70 X dX7_escape_70 mY_X7_fourDigits mL_X7_169 (rcv_spec f70) ⟨_, _, rfl⟩ (by decide) (As := [.int (0 : Int32)]) (rest := []) rfl rfl ⟨Nat.le_of_ble_eq_true rfl, Nat.le_of_ble_eq_true rfl⟩ (Nat.le_of_ble_eq_true rfl) (fun l D A => c_X7_fourDigits l D A e70) ?_
    refine ww_istore_n 73 X dX7_escape_73 (lv' := [(0, .ref l0), (1, .int v18), (2, .int v70)]) rfl (by decide) [1, 2, 0] rfl ?_
    refine ww_iload_n 74 X dX7_escape_74 2 rfl rfl ?_
    refine ww_ldc 75 X (v := (55296 : Int32)) dX7_escape_75 kI_X7_173 ?_
    refine ww_icmp_lt 77 86 X dX7_escape_77 (by decide) (fun q => ?_) (fun q => ?_)
    · replace h := (if_pos q).symm.trans h
      refine ww_iload_n 86 X dX7_escape_86 2 rfl rfl ?_
      exact ww_iretE 87 X hQ dX7_escape_87 h
    · replace h := (if_neg q).symm.trans h
      refine ww_iload_n 80 X dX7_escape_80 2 rfl rfl ?_
      refine ww_ldc 81 X (v := (56319 : Int32)) dX7_escape_81 kI_X7_174 ?_
      refine ww_icmp_le 83 88 X dX7_escape_83 (by decide) (fun q => ?_) (fun q => ?_)
      · replace h := (if_pos q).symm.trans h
        refine ww_aload_n 88 X dX7_escape_88 0 rfl rfl ?_
        refine ww_lds 89 X (j := 10) dX7_escape_89 rfl ?_
        obtain ⟨_, f91, h⟩ := bO_some h
        obtain ⟨v91, M91, e91, h⟩ := bP_some h
        refine ww_callVI0 91 X dX7_escape_91 mY_X7_word mL_X7_119 (rcv_spec f91) ⟨_, _, rfl⟩ (by decide) (As := [.ref (G.1 10)]) (rest := []) rfl rfl ⟨Nat.le_of_ble_eq_true rfl, Nat.le_of_ble_eq_true rfl⟩ (Nat.le_of_ble_eq_true rfl) (fun l D A => c_X7_word l D A e91) ?_
        refine ww_if_ne 94 99 X dX7_escape_94 (by decide) (fun q => ?_) (fun q => ?_)
        · replace h := (if_neg q).symm.trans h
          refine ww_aload_n 99 X dX7_escape_99 0 rfl rfl ?_
          refine ww_iconst 100 X (v := (1 : Int32)) dX7_escape_100 (by decide) ?_
          obtain ⟨_, f101, h⟩ := bO_some h
          obtain ⟨v101, M101, e101, h⟩ := bP_some h
          refine ww_callVI0 101 X dX7_escape_101 mY_X7_fourDigits mL_X7_169 (rcv_spec f101) ⟨_, _, rfl⟩ (by decide) (As := [.int (1 : Int32)]) (rest := []) rfl rfl ⟨Nat.le_of_ble_eq_true rfl, Nat.le_of_ble_eq_true rfl⟩ (Nat.le_of_ble_eq_true rfl) (fun l D A => c_X7_fourDigits l D A e101) ?_
          refine ww_istore_n 104 X dX7_escape_104 (lv' := [(0, .ref l0), (1, .int v18), (2, .int v70), (3, .int v101)]) rfl (by decide) [1, 2, 3, 0] rfl ?_
          refine ww_iload_n 105 X dX7_escape_105 3 rfl rfl ?_
          refine ww_iconst 106 X (v := (-1 : Int32)) dX7_escape_106 (by decide) ?_
          refine ww_icmp_ne 107 114 X dX7_escape_107 (by decide) (fun q => ?_) (fun q => ?_)
          · replace h := (if_neg q).symm.trans h
            refine ww_ldc 114 X (v := (65536 : Int32)) dX7_escape_114 kI_X7_177 ?_
            refine ww_iload_n 116 X dX7_escape_116 2 rfl rfl ?_
            refine ww_ldc 117 X (v := (55296 : Int32)) dX7_escape_117 kI_X7_173 ?_
            refine ww_isub 119 X dX7_escape_119 ?_
            refine ww_bipush 120 X (v := (10 : Int32)) dX7_escape_120 (by decide) ?_
            refine ww_ishl 122 X dX7_escape_122 ?_
            refine ww_iadd 123 X dX7_escape_123 ?_
            refine ww_iload_n 124 X dX7_escape_124 3 rfl rfl ?_
            refine ww_ldc 125 X (v := (56320 : Int32)) dX7_escape_125 kI_X7_178 ?_
            refine ww_isub 127 X dX7_escape_127 ?_
            refine ww_iadd 128 X dX7_escape_128 ?_
            exact ww_iretE 129 X hQ dX7_escape_129 h
          · replace h := (if_pos q).symm.trans h
            refine ww_iconst 110 X (v := (-1 : Int32)) dX7_escape_110 (by decide) ?_
            refine ww_goto 111 129 X dX7_escape_111 (by decide) ?_
            exact ww_iretE 129 X hQ dX7_escape_129 h
        · replace h := (if_pos q).symm.trans h
          refine ww_iconst 97 X (v := (-1 : Int32)) dX7_escape_97 (by decide) ?_
          exact ww_iretE 98 X hQ dX7_escape_98 h
      · replace h := (if_neg q).symm.trans h
        refine ww_iload_n 86 X dX7_escape_86 2 rfl rfl ?_
        exact ww_iretE 87 X hQ dX7_escape_87 h
  · replace h := (if_neg q).symm.trans h
    refine ww_iload_n 28 X dX7_escape_28 1 rfl rfl ?_
    obtain ⟨v29, M29, e29, h⟩ := bP_some h
    refine ww_callSI0 29 X dX7_escape_29 mY_X7_shortEscaped mL_X7_166 (As := [.int v18]) (rest := []) rfl rfl ⟨Nat.le_of_ble_eq_true rfl, Nat.le_of_ble_eq_true rfl⟩ (Nat.le_of_ble_eq_true rfl) (fun l D A => c_X7_shortEscaped l D A e29) ?_
    refine ww_istore_n 32 X dX7_escape_32 (lv' := [(0, .ref l0), (1, .int v18), (2, .int v29)]) rfl (by decide) [1, 2, 0] rfl ?_
    refine ww_iload_n 33 X dX7_escape_33 2 rfl rfl ?_
    refine ww_iconst 34 X (v := (-1 : Int32)) dX7_escape_34 (by decide) ?_
    refine ww_icmp_ne 35 46 X dX7_escape_35 (by decide) (fun q => ?_) (fun q => ?_)
    · replace h := (if_neg q).symm.trans h
      refine ww_aload_n 46 X dX7_escape_46 0 rfl rfl ?_
      refine ww_dup 47 X dX7_escape_47 rfl ?_
      obtain ⟨v48, e48, h⟩ := bO_some h
      refine ww_getI 48 X dX7_escape_48 fG_X7_24 e48 ?_
      refine ww_iconst 51 X (v := (1 : Int32)) dX7_escape_51 (by decide) ?_
      refine ww_iadd 52 X dX7_escape_52 ?_
      obtain ⟨M53, e53, h⟩ := bO_some h
      refine ww_putI 53 X dX7_escape_53 (fP_X7_24 _) e53 ?_
      refine ww_iload_n 56 X dX7_escape_56 2 rfl rfl ?_
      exact ww_iretE 57 X hQ dX7_escape_57 h
    · replace h := (if_pos q).symm.trans h
      refine ww_aload_n 38 X dX7_escape_38 0 rfl rfl ?_
      refine ww_aload_n 39 X dX7_escape_39 0 rfl rfl ?_
      obtain ⟨v40, e40, h⟩ := bO_some h
      refine ww_getI 40 X dX7_escape_40 fG_X7_24 e40 ?_
      obtain ⟨M43, e43, h⟩ := bO_some h
      refine ww_putI 43 X dX7_escape_43 (fP_X7_28 _) e43 ?_
      refine ww_aload_n 46 X dX7_escape_46 0 rfl rfl ?_
      refine ww_dup 47 X dX7_escape_47 rfl ?_
      obtain ⟨v48, e48, h⟩ := bO_some h
      refine ww_getI 48 X dX7_escape_48 fG_X7_24 e48 ?_
      refine ww_iconst 51 X (v := (1 : Int32)) dX7_escape_51 (by decide) ?_
      refine ww_iadd 52 X dX7_escape_52 ?_
      obtain ⟨M53, e53, h⟩ := bO_some h
      refine ww_putI 53 X dX7_escape_53 (fP_X7_24 _) e53 ?_
      refine ww_iload_n 56 X dX7_escape_56 2 rfl rfl ?_
      exact ww_iretE 57 X hQ dX7_escape_57 h
theorem c_X7_escape {G : mG} {F sz : Nat} {r0 : Int32} {M0 : mM} (l : Launch) (D : mD) (A : Nat → Prop) {l0 : Nat} {M : mM} (h : P_X7_escape G F l0 M = some (r0, M0)) : mMetI l D G A yX7_escape cX7_escape 4 (some .int) 5 107 0 0 [.ref l0] M sz r0 M0 sz := mMetI_of l D G A (by decide) (Nat.le_of_ble_eq_true rfl) (fun x X hQ => wP_X7_escape X hQ h)
/-! SealedTokens$Reader.putPoint(I)V -/
theorem dX7_putPoint_0 : decode cX7_putPoint 0 = .ok (.aload_n 0, 1) := by decide +kernel
theorem dX7_putPoint_1 : decode cX7_putPoint 1 = .ok (.getfield 15, 3) := by decide +kernel
theorem dX7_putPoint_4 : decode cX7_putPoint 4 = .ok (.getfield 88, 3) := by decide +kernel
theorem dX7_putPoint_7 : decode cX7_putPoint 7 = .ok (.astore_n 2, 1) := by decide +kernel
theorem dX7_putPoint_8 : decode cX7_putPoint 8 = .ok (.iload_n 1, 1) := by decide +kernel
theorem dX7_putPoint_9 : decode cX7_putPoint 9 = .ok (.sipush 128, 3) := by decide +kernel
theorem dX7_putPoint_12 : decode cX7_putPoint 12 = .ok (.if_icmp .ge 11, 3) := by decide +kernel
theorem dX7_putPoint_15 : decode cX7_putPoint 15 = .ok (.aload_n 2, 1) := by decide +kernel
theorem dX7_putPoint_16 : decode cX7_putPoint 16 = .ok (.iload_n 1, 1) := by decide +kernel
theorem dX7_putPoint_17 : decode cX7_putPoint 17 = .ok (.invokevirtual 160, 3) := by decide +kernel
theorem dX7_putPoint_20 : decode cX7_putPoint 20 = .ok (.goto 139, 3) := by decide +kernel
theorem dX7_putPoint_23 : decode cX7_putPoint 23 = .ok (.iload_n 1, 1) := by decide +kernel
theorem dX7_putPoint_24 : decode cX7_putPoint 24 = .ok (.sipush 2048, 3) := by decide +kernel
theorem dX7_putPoint_27 : decode cX7_putPoint 27 = .ok (.if_icmp .ge 30, 3) := by decide +kernel
theorem dX7_putPoint_30 : decode cX7_putPoint 30 = .ok (.aload_n 2, 1) := by decide +kernel
theorem dX7_putPoint_31 : decode cX7_putPoint 31 = .ok (.sipush 192, 3) := by decide +kernel
theorem dX7_putPoint_34 : decode cX7_putPoint 34 = .ok (.iload_n 1, 1) := by decide +kernel
theorem dX7_putPoint_35 : decode cX7_putPoint 35 = .ok (.bipush 6, 2) := by decide +kernel
theorem dX7_putPoint_37 : decode cX7_putPoint 37 = .ok (.ishr, 1) := by decide +kernel
theorem dX7_putPoint_38 : decode cX7_putPoint 38 = .ok (.ior, 1) := by decide +kernel
theorem dX7_putPoint_39 : decode cX7_putPoint 39 = .ok (.invokevirtual 160, 3) := by decide +kernel
theorem dX7_putPoint_42 : decode cX7_putPoint 42 = .ok (.aload_n 2, 1) := by decide +kernel
theorem dX7_putPoint_43 : decode cX7_putPoint 43 = .ok (.sipush 128, 3) := by decide +kernel
theorem dX7_putPoint_46 : decode cX7_putPoint 46 = .ok (.iload_n 1, 1) := by decide +kernel
theorem dX7_putPoint_47 : decode cX7_putPoint 47 = .ok (.bipush 63, 2) := by decide +kernel
theorem dX7_putPoint_49 : decode cX7_putPoint 49 = .ok (.iand, 1) := by decide +kernel
theorem dX7_putPoint_50 : decode cX7_putPoint 50 = .ok (.ior, 1) := by decide +kernel
theorem dX7_putPoint_51 : decode cX7_putPoint 51 = .ok (.invokevirtual 160, 3) := by decide +kernel
theorem dX7_putPoint_54 : decode cX7_putPoint 54 = .ok (.goto 105, 3) := by decide +kernel
theorem dX7_putPoint_57 : decode cX7_putPoint 57 = .ok (.iload_n 1, 1) := by decide +kernel
theorem dX7_putPoint_58 : decode cX7_putPoint 58 = .ok (.ldc 177, 2) := by decide +kernel
theorem dX7_putPoint_60 : decode cX7_putPoint 60 = .ok (.if_icmp .ge 45, 3) := by decide +kernel
theorem dX7_putPoint_63 : decode cX7_putPoint 63 = .ok (.aload_n 2, 1) := by decide +kernel
theorem dX7_putPoint_64 : decode cX7_putPoint 64 = .ok (.sipush 224, 3) := by decide +kernel
theorem dX7_putPoint_67 : decode cX7_putPoint 67 = .ok (.iload_n 1, 1) := by decide +kernel
theorem dX7_putPoint_68 : decode cX7_putPoint 68 = .ok (.bipush 12, 2) := by decide +kernel
theorem dX7_putPoint_70 : decode cX7_putPoint 70 = .ok (.ishr, 1) := by decide +kernel
theorem dX7_putPoint_71 : decode cX7_putPoint 71 = .ok (.ior, 1) := by decide +kernel
theorem dX7_putPoint_72 : decode cX7_putPoint 72 = .ok (.invokevirtual 160, 3) := by decide +kernel
theorem dX7_putPoint_75 : decode cX7_putPoint 75 = .ok (.aload_n 2, 1) := by decide +kernel
theorem dX7_putPoint_76 : decode cX7_putPoint 76 = .ok (.sipush 128, 3) := by decide +kernel
theorem dX7_putPoint_79 : decode cX7_putPoint 79 = .ok (.iload_n 1, 1) := by decide +kernel
theorem dX7_putPoint_80 : decode cX7_putPoint 80 = .ok (.bipush 6, 2) := by decide +kernel
theorem dX7_putPoint_82 : decode cX7_putPoint 82 = .ok (.ishr, 1) := by decide +kernel
theorem dX7_putPoint_83 : decode cX7_putPoint 83 = .ok (.bipush 63, 2) := by decide +kernel
theorem dX7_putPoint_85 : decode cX7_putPoint 85 = .ok (.iand, 1) := by decide +kernel
theorem dX7_putPoint_86 : decode cX7_putPoint 86 = .ok (.ior, 1) := by decide +kernel
theorem dX7_putPoint_87 : decode cX7_putPoint 87 = .ok (.invokevirtual 160, 3) := by decide +kernel
theorem dX7_putPoint_90 : decode cX7_putPoint 90 = .ok (.aload_n 2, 1) := by decide +kernel
theorem dX7_putPoint_91 : decode cX7_putPoint 91 = .ok (.sipush 128, 3) := by decide +kernel
theorem dX7_putPoint_94 : decode cX7_putPoint 94 = .ok (.iload_n 1, 1) := by decide +kernel
theorem dX7_putPoint_95 : decode cX7_putPoint 95 = .ok (.bipush 63, 2) := by decide +kernel
theorem dX7_putPoint_97 : decode cX7_putPoint 97 = .ok (.iand, 1) := by decide +kernel
theorem dX7_putPoint_98 : decode cX7_putPoint 98 = .ok (.ior, 1) := by decide +kernel
theorem dX7_putPoint_99 : decode cX7_putPoint 99 = .ok (.invokevirtual 160, 3) := by decide +kernel
theorem dX7_putPoint_102 : decode cX7_putPoint 102 = .ok (.goto 57, 3) := by decide +kernel
theorem dX7_putPoint_105 : decode cX7_putPoint 105 = .ok (.aload_n 2, 1) := by decide +kernel
theorem dX7_putPoint_106 : decode cX7_putPoint 106 = .ok (.sipush 240, 3) := by decide +kernel
theorem dX7_putPoint_109 : decode cX7_putPoint 109 = .ok (.iload_n 1, 1) := by decide +kernel
theorem dX7_putPoint_110 : decode cX7_putPoint 110 = .ok (.bipush 18, 2) := by decide +kernel
theorem dX7_putPoint_112 : decode cX7_putPoint 112 = .ok (.ishr, 1) := by decide +kernel
theorem dX7_putPoint_113 : decode cX7_putPoint 113 = .ok (.ior, 1) := by decide +kernel
theorem dX7_putPoint_114 : decode cX7_putPoint 114 = .ok (.invokevirtual 160, 3) := by decide +kernel
theorem dX7_putPoint_117 : decode cX7_putPoint 117 = .ok (.aload_n 2, 1) := by decide +kernel
theorem dX7_putPoint_118 : decode cX7_putPoint 118 = .ok (.sipush 128, 3) := by decide +kernel
theorem dX7_putPoint_121 : decode cX7_putPoint 121 = .ok (.iload_n 1, 1) := by decide +kernel
theorem dX7_putPoint_122 : decode cX7_putPoint 122 = .ok (.bipush 12, 2) := by decide +kernel
theorem dX7_putPoint_124 : decode cX7_putPoint 124 = .ok (.ishr, 1) := by decide +kernel
theorem dX7_putPoint_125 : decode cX7_putPoint 125 = .ok (.bipush 63, 2) := by decide +kernel
theorem dX7_putPoint_127 : decode cX7_putPoint 127 = .ok (.iand, 1) := by decide +kernel
theorem dX7_putPoint_128 : decode cX7_putPoint 128 = .ok (.ior, 1) := by decide +kernel
theorem dX7_putPoint_129 : decode cX7_putPoint 129 = .ok (.invokevirtual 160, 3) := by decide +kernel
theorem dX7_putPoint_132 : decode cX7_putPoint 132 = .ok (.aload_n 2, 1) := by decide +kernel
theorem dX7_putPoint_133 : decode cX7_putPoint 133 = .ok (.sipush 128, 3) := by decide +kernel
theorem dX7_putPoint_136 : decode cX7_putPoint 136 = .ok (.iload_n 1, 1) := by decide +kernel
theorem dX7_putPoint_137 : decode cX7_putPoint 137 = .ok (.bipush 6, 2) := by decide +kernel
theorem dX7_putPoint_139 : decode cX7_putPoint 139 = .ok (.ishr, 1) := by decide +kernel
theorem dX7_putPoint_140 : decode cX7_putPoint 140 = .ok (.bipush 63, 2) := by decide +kernel
theorem dX7_putPoint_142 : decode cX7_putPoint 142 = .ok (.iand, 1) := by decide +kernel
theorem dX7_putPoint_143 : decode cX7_putPoint 143 = .ok (.ior, 1) := by decide +kernel
theorem dX7_putPoint_144 : decode cX7_putPoint 144 = .ok (.invokevirtual 160, 3) := by decide +kernel
theorem dX7_putPoint_147 : decode cX7_putPoint 147 = .ok (.aload_n 2, 1) := by decide +kernel
theorem dX7_putPoint_148 : decode cX7_putPoint 148 = .ok (.sipush 128, 3) := by decide +kernel
theorem dX7_putPoint_151 : decode cX7_putPoint 151 = .ok (.iload_n 1, 1) := by decide +kernel
theorem dX7_putPoint_152 : decode cX7_putPoint 152 = .ok (.bipush 63, 2) := by decide +kernel
theorem dX7_putPoint_154 : decode cX7_putPoint 154 = .ok (.iand, 1) := by decide +kernel
theorem dX7_putPoint_155 : decode cX7_putPoint 155 = .ok (.ior, 1) := by decide +kernel
theorem dX7_putPoint_156 : decode cX7_putPoint 156 = .ok (.invokevirtual 160, 3) := by decide +kernel
theorem dX7_putPoint_159 : decode cX7_putPoint 159 = .ok (.return_, 1) := by decide +kernel
abbrev rmX7_putPoint : Room := { frames := 1, cells := 0, slots := 0, locals := 21 }
set_option maxHeartbeats 4000000 in
set_option maxRecDepth 100000 in
theorem wP_X7_putPoint {G : mG} {F : Nat} {x : mXT} {sz : Nat} {M0 : mM} (X : mCX G RX7 cX7_putPoint 3 none "putPoint" rmX7_putPoint x) (hQ : mQV x M0 (sz, 0, 0)) {l0 : Nat} {l1 : Int32} {M : mM} (h : P_X7_putPoint G F l0 l1 M = some M0) : WW x (sz, 0, 0) M 0 [(0, .ref l0), (1, .int l1)] [] := by
  unfold P_X7_putPoint at h
  refine ww_aload_n 0 X dX7_putPoint_0 0 rfl rfl ?_
  obtain ⟨v1, e1, h⟩ := bO_some h
  refine ww_getR 1 X dX7_putPoint_1 fG_X7_15 e1 ?_
  obtain ⟨v4, e4, h⟩ := bO_some h
  refine ww_getR 4 X dX7_putPoint_4 fG_X7_88 e4 ?_
  refine ww_astore_n 7 X dX7_putPoint_7 (lv' := [(0, .ref l0), (1, .int l1), (2, .ref v4)]) rfl (by decide) [1, 2, 0] rfl ?_
  refine ww_iload_n 8 X dX7_putPoint_8 1 rfl rfl ?_
  refine ww_sipush 9 X (v := (128 : Int32)) dX7_putPoint_9 (by decide) ?_
  refine ww_icmp_ge 12 23 X dX7_putPoint_12 (by decide) (fun q => ?_) (fun q => ?_)
  · replace h := (if_pos q).symm.trans h
    refine ww_iload_n 23 X dX7_putPoint_23 1 rfl rfl ?_
    refine ww_sipush 24 X (v := (2048 : Int32)) dX7_putPoint_24 (by decide) ?_
    refine ww_icmp_ge 27 57 X dX7_putPoint_27 (by decide) (fun q => ?_) (fun q => ?_)
    · replace h := (if_pos q).symm.trans h
      refine ww_iload_n 57 X dX7_putPoint_57 1 rfl rfl ?_
      refine ww_ldc 58 X (v := (65536 : Int32)) dX7_putPoint_58 kI_X7_177 ?_
      refine ww_icmp_ge 60 105 X dX7_putPoint_60 (by decide) (fun q => ?_) (fun q => ?_)
      · replace h := (if_pos q).symm.trans h
        refine ww_aload_n 105 X dX7_putPoint_105 2 rfl rfl ?_
        refine ww_sipush 106 X (v := (240 : Int32)) dX7_putPoint_106 (by decide) ?_
        refine ww_iload_n 109 X dX7_putPoint_109 1 rfl rfl ?_
        refine ww_bipush 110 X (v := (18 : Int32)) dX7_putPoint_110 (by decide) ?_
        refine ww_ishr 112 X dX7_putPoint_112 ?_
        refine ww_ior 113 X dX7_putPoint_113 ?_
        obtain ⟨_, f114, h⟩ := bO_some h
        obtain ⟨M114, e114, h⟩ := bO_some h
        refine ww_callVV0 114 X dX7_putPoint_114 mY_X0_put mL_X7_160 (rcv_spec f114) ⟨_, _, rfl⟩ (by decide) (As := [.int ((240 : Int32) ||| (l1 >>> ((18 : Int32) &&& 31)))]) (rest := []) rfl rfl ⟨Nat.le_of_ble_eq_true rfl, Nat.le_of_ble_eq_true rfl⟩ (Nat.le_of_ble_eq_true rfl) (fun l D A => c_X0_put l D A e114) ?_
        refine ww_aload_n 117 X dX7_putPoint_117 2 rfl rfl ?_
        refine ww_sipush 118 X (v := (128 : Int32)) dX7_putPoint_118 (by decide) ?_
        refine ww_iload_n 121 X dX7_putPoint_121 1 rfl rfl ?_
        refine ww_bipush 122 X (v := (12 : Int32)) dX7_putPoint_122 (by decide) ?_
        refine ww_ishr 124 X dX7_putPoint_124 ?_
        refine ww_bipush 125 X (v := (63 : Int32)) dX7_putPoint_125 (by decide) ?_
        refine ww_iand 127 X dX7_putPoint_127 ?_
        refine ww_ior 128 X dX7_putPoint_128 ?_
        obtain ⟨_, f129, h⟩ := bO_some h
        obtain ⟨M129, e129, h⟩ := bO_some h
        refine ww_callVV0 129 X dX7_putPoint_129 mY_X0_put mL_X7_160 (rcv_spec f129) ⟨_, _, rfl⟩ (by decide) (As := [.int ((128 : Int32) ||| ((l1 >>> ((12 : Int32) &&& 31)) &&& (63 : Int32)))]) (rest := []) rfl rfl ⟨Nat.le_of_ble_eq_true rfl, Nat.le_of_ble_eq_true rfl⟩ (Nat.le_of_ble_eq_true rfl) (fun l D A => c_X0_put l D A e129) ?_
        refine ww_aload_n 132 X dX7_putPoint_132 2 rfl rfl ?_
        refine ww_sipush 133 X (v := (128 : Int32)) dX7_putPoint_133 (by decide) ?_
        refine ww_iload_n 136 X dX7_putPoint_136 1 rfl rfl ?_
        refine ww_bipush 137 X (v := (6 : Int32)) dX7_putPoint_137 (by decide) ?_
        refine ww_ishr 139 X dX7_putPoint_139 ?_
        refine ww_bipush 140 X (v := (63 : Int32)) dX7_putPoint_140 (by decide) ?_
        refine ww_iand 142 X dX7_putPoint_142 ?_
        refine ww_ior 143 X dX7_putPoint_143 ?_
        obtain ⟨_, f144, h⟩ := bO_some h
        obtain ⟨M144, e144, h⟩ := bO_some h
        refine ww_callVV0 144 X dX7_putPoint_144 mY_X0_put mL_X7_160 (rcv_spec f144) ⟨_, _, rfl⟩ (by decide) (As := [.int ((128 : Int32) ||| ((l1 >>> ((6 : Int32) &&& 31)) &&& (63 : Int32)))]) (rest := []) rfl rfl ⟨Nat.le_of_ble_eq_true rfl, Nat.le_of_ble_eq_true rfl⟩ (Nat.le_of_ble_eq_true rfl) (fun l D A => c_X0_put l D A e144) ?_
        refine ww_aload_n 147 X dX7_putPoint_147 2 rfl rfl ?_
        refine ww_sipush 148 X (v := (128 : Int32)) dX7_putPoint_148 (by decide) ?_
        refine ww_iload_n 151 X dX7_putPoint_151 1 rfl rfl ?_
        refine ww_bipush 152 X (v := (63 : Int32)) dX7_putPoint_152 (by decide) ?_
        refine ww_iand 154 X dX7_putPoint_154 ?_
        refine ww_ior 155 X dX7_putPoint_155 ?_
        obtain ⟨_, f156, h⟩ := bO_some h
        obtain ⟨M156, e156, h⟩ := bO_some h
        refine ww_callVV0 156 X dX7_putPoint_156 mY_X0_put mL_X7_160 (rcv_spec f156) ⟨_, _, rfl⟩ (by decide) (As := [.int ((128 : Int32) ||| (l1 &&& (63 : Int32)))]) (rest := []) rfl rfl ⟨Nat.le_of_ble_eq_true rfl, Nat.le_of_ble_eq_true rfl⟩ (Nat.le_of_ble_eq_true rfl) (fun l D A => c_X0_put l D A e156) ?_
        exact ww_vretE 159 X hQ dX7_putPoint_159 h
      · replace h := (if_neg q).symm.trans h
        refine ww_aload_n 63 X dX7_putPoint_63 2 rfl rfl ?_
        refine ww_sipush 64 X (v := (224 : Int32)) dX7_putPoint_64 (by decide) ?_
        refine ww_iload_n 67 X dX7_putPoint_67 1 rfl rfl ?_
        refine ww_bipush 68 X (v := (12 : Int32)) dX7_putPoint_68 (by decide) ?_
        refine ww_ishr 70 X dX7_putPoint_70 ?_
        refine ww_ior 71 X dX7_putPoint_71 ?_
        obtain ⟨_, f72, h⟩ := bO_some h
        obtain ⟨M72, e72, h⟩ := bO_some h
        refine ww_callVV0 72 X dX7_putPoint_72 mY_X0_put mL_X7_160 (rcv_spec f72) ⟨_, _, rfl⟩ (by decide) (As := [.int ((224 : Int32) ||| (l1 >>> ((12 : Int32) &&& 31)))]) (rest := []) rfl rfl ⟨Nat.le_of_ble_eq_true rfl, Nat.le_of_ble_eq_true rfl⟩ (Nat.le_of_ble_eq_true rfl) (fun l D A => c_X0_put l D A e72) ?_
        refine ww_aload_n 75 X dX7_putPoint_75 2 rfl rfl ?_
        refine ww_sipush 76 X (v := (128 : Int32)) dX7_putPoint_76 (by decide) ?_
        refine ww_iload_n 79 X dX7_putPoint_79 1 rfl rfl ?_
        refine ww_bipush 80 X (v := (6 : Int32)) dX7_putPoint_80 (by decide) ?_
        refine ww_ishr 82 X dX7_putPoint_82 ?_
        refine ww_bipush 83 X (v := (63 : Int32)) dX7_putPoint_83 (by decide) ?_
        refine ww_iand 85 X dX7_putPoint_85 ?_
        refine ww_ior 86 X dX7_putPoint_86 ?_
        obtain ⟨_, f87, h⟩ := bO_some h
        obtain ⟨M87, e87, h⟩ := bO_some h
        refine ww_callVV0 87 X dX7_putPoint_87 mY_X0_put mL_X7_160 (rcv_spec f87) ⟨_, _, rfl⟩ (by decide) (As := [.int ((128 : Int32) ||| ((l1 >>> ((6 : Int32) &&& 31)) &&& (63 : Int32)))]) (rest := []) rfl rfl ⟨Nat.le_of_ble_eq_true rfl, Nat.le_of_ble_eq_true rfl⟩ (Nat.le_of_ble_eq_true rfl) (fun l D A => c_X0_put l D A e87) ?_
        refine ww_aload_n 90 X dX7_putPoint_90 2 rfl rfl ?_
        refine ww_sipush 91 X (v := (128 : Int32)) dX7_putPoint_91 (by decide) ?_
        refine ww_iload_n 94 X dX7_putPoint_94 1 rfl rfl ?_
        refine ww_bipush 95 X (v := (63 : Int32)) dX7_putPoint_95 (by decide) ?_
        refine ww_iand 97 X dX7_putPoint_97 ?_
        refine ww_ior 98 X dX7_putPoint_98 ?_
        obtain ⟨_, f99, h⟩ := bO_some h
        obtain ⟨M99, e99, h⟩ := bO_some h
        refine ww_callVV0 99 X dX7_putPoint_99 mY_X0_put mL_X7_160 (rcv_spec f99) ⟨_, _, rfl⟩ (by decide) (As := [.int ((128 : Int32) ||| (l1 &&& (63 : Int32)))]) (rest := []) rfl rfl ⟨Nat.le_of_ble_eq_true rfl, Nat.le_of_ble_eq_true rfl⟩ (Nat.le_of_ble_eq_true rfl) (fun l D A => c_X0_put l D A e99) ?_
        refine ww_goto 102 159 X dX7_putPoint_102 (by decide) ?_
        exact ww_vretE 159 X hQ dX7_putPoint_159 h
    · replace h := (if_neg q).symm.trans h
      refine ww_aload_n 30 X dX7_putPoint_30 2 rfl rfl ?_
      refine ww_sipush 31 X (v := (192 : Int32)) dX7_putPoint_31 (by decide) ?_
      refine ww_iload_n 34 X dX7_putPoint_34 1 rfl rfl ?_
      refine ww_bipush 35 X (v := (6 : Int32)) dX7_putPoint_35 (by decide) ?_
      refine ww_ishr 37 X dX7_putPoint_37 ?_
      refine ww_ior 38 X dX7_putPoint_38 ?_
      obtain ⟨_, f39, h⟩ := bO_some h
      obtain ⟨M39, e39, h⟩ := bO_some h
      refine ww_callVV0 39 X dX7_putPoint_39 mY_X0_put mL_X7_160 (rcv_spec f39) ⟨_, _, rfl⟩ (by decide) (As := [.int ((192 : Int32) ||| (l1 >>> ((6 : Int32) &&& 31)))]) (rest := []) rfl rfl ⟨Nat.le_of_ble_eq_true rfl, Nat.le_of_ble_eq_true rfl⟩ (Nat.le_of_ble_eq_true rfl) (fun l D A => c_X0_put l D A e39) ?_
      refine ww_aload_n 42 X dX7_putPoint_42 2 rfl rfl ?_
      refine ww_sipush 43 X (v := (128 : Int32)) dX7_putPoint_43 (by decide) ?_
      refine ww_iload_n 46 X dX7_putPoint_46 1 rfl rfl ?_
      refine ww_bipush 47 X (v := (63 : Int32)) dX7_putPoint_47 (by decide) ?_
      refine ww_iand 49 X dX7_putPoint_49 ?_
      refine ww_ior 50 X dX7_putPoint_50 ?_
      obtain ⟨_, f51, h⟩ := bO_some h
      obtain ⟨M51, e51, h⟩ := bO_some h
      refine ww_callVV0 51 X dX7_putPoint_51 mY_X0_put mL_X7_160 (rcv_spec f51) ⟨_, _, rfl⟩ (by decide) (As := [.int ((128 : Int32) ||| (l1 &&& (63 : Int32)))]) (rest := []) rfl rfl ⟨Nat.le_of_ble_eq_true rfl, Nat.le_of_ble_eq_true rfl⟩ (Nat.le_of_ble_eq_true rfl) (fun l D A => c_X0_put l D A e51) ?_
      refine ww_goto 54 159 X dX7_putPoint_54 (by decide) ?_
      exact ww_vretE 159 X hQ dX7_putPoint_159 h
  · replace h := (if_neg q).symm.trans h
    refine ww_aload_n 15 X dX7_putPoint_15 2 rfl rfl ?_
    refine ww_iload_n 16 X dX7_putPoint_16 1 rfl rfl ?_
    obtain ⟨_, f17, h⟩ := bO_some h
    obtain ⟨M17, e17, h⟩ := bO_some h
    refine ww_callVV0 17 X dX7_putPoint_17 mY_X0_put mL_X7_160 (rcv_spec f17) ⟨_, _, rfl⟩ (by decide) (As := [.int l1]) (rest := []) rfl rfl ⟨Nat.le_of_ble_eq_true rfl, Nat.le_of_ble_eq_true rfl⟩ (Nat.le_of_ble_eq_true rfl) (fun l D A => c_X0_put l D A e17) ?_
    refine ww_goto 20 159 X dX7_putPoint_20 (by decide) ?_
    exact ww_vretE 159 X hQ dX7_putPoint_159 h
theorem c_X7_putPoint {G : mG} {F sz : Nat} {M0 : mM} (l : Launch) (D : mD) (A : Nat → Prop) {l0 : Nat} {l1 : Int32} {M : mM} (h : P_X7_putPoint G F l0 l1 M = some M0) : mMetV l D G A yX7_putPoint cX7_putPoint 3 none 1 21 0 0 [.ref l0, .int l1] M sz M0 sz := mMetV_of l D G A (by decide) (Nat.le_of_ble_eq_true rfl) (fun x X hQ => wP_X7_putPoint X hQ h)
/-! SealedTokens$Reader.longForm(I)Z -/
theorem dX7_longForm_0 : decode cX7_longForm 0 = .ok (.iload_n 1, 1) := by decide +kernel
theorem dX7_longForm_1 : decode cX7_longForm 1 = .ok (.sipush 194, 3) := by decide +kernel
theorem dX7_longForm_4 : decode cX7_longForm 4 = .ok (.if_icmp .lt 14, 3) := by decide +kernel
theorem dX7_longForm_7 : decode cX7_longForm 7 = .ok (.iload_n 1, 1) := by decide +kernel
theorem dX7_longForm_8 : decode cX7_longForm 8 = .ok (.sipush 223, 3) := by decide +kernel
theorem dX7_longForm_11 : decode cX7_longForm 11 = .ok (.if_icmp .gt 7, 3) := by decide +kernel
theorem dX7_longForm_14 : decode cX7_longForm 14 = .ok (.iconst 1, 1) := by decide +kernel
theorem dX7_longForm_15 : decode cX7_longForm 15 = .ok (.goto 40, 3) := by decide +kernel
theorem dX7_longForm_18 : decode cX7_longForm 18 = .ok (.iload_n 1, 1) := by decide +kernel
theorem dX7_longForm_19 : decode cX7_longForm 19 = .ok (.sipush 224, 3) := by decide +kernel
theorem dX7_longForm_22 : decode cX7_longForm 22 = .ok (.if_icmp .lt 14, 3) := by decide +kernel
theorem dX7_longForm_25 : decode cX7_longForm 25 = .ok (.iload_n 1, 1) := by decide +kernel
theorem dX7_longForm_26 : decode cX7_longForm 26 = .ok (.sipush 239, 3) := by decide +kernel
theorem dX7_longForm_29 : decode cX7_longForm 29 = .ok (.if_icmp .gt 7, 3) := by decide +kernel
theorem dX7_longForm_32 : decode cX7_longForm 32 = .ok (.iconst 2, 1) := by decide +kernel
theorem dX7_longForm_33 : decode cX7_longForm 33 = .ok (.goto 22, 3) := by decide +kernel
theorem dX7_longForm_36 : decode cX7_longForm 36 = .ok (.iload_n 1, 1) := by decide +kernel
theorem dX7_longForm_37 : decode cX7_longForm 37 = .ok (.sipush 240, 3) := by decide +kernel
theorem dX7_longForm_40 : decode cX7_longForm 40 = .ok (.if_icmp .lt 14, 3) := by decide +kernel
theorem dX7_longForm_43 : decode cX7_longForm 43 = .ok (.iload_n 1, 1) := by decide +kernel
theorem dX7_longForm_44 : decode cX7_longForm 44 = .ok (.sipush 244, 3) := by decide +kernel
theorem dX7_longForm_47 : decode cX7_longForm 47 = .ok (.if_icmp .gt 7, 3) := by decide +kernel
theorem dX7_longForm_50 : decode cX7_longForm 50 = .ok (.iconst 3, 1) := by decide +kernel
theorem dX7_longForm_51 : decode cX7_longForm 51 = .ok (.goto 4, 3) := by decide +kernel
theorem dX7_longForm_54 : decode cX7_longForm 54 = .ok (.iconst 0, 1) := by decide +kernel
theorem dX7_longForm_55 : decode cX7_longForm 55 = .ok (.istore_n 2, 1) := by decide +kernel
theorem dX7_longForm_56 : decode cX7_longForm 56 = .ok (.iload_n 2, 1) := by decide +kernel
theorem dX7_longForm_57 : decode cX7_longForm 57 = .ok (.ifCond .ne 12, 3) := by decide +kernel
theorem dX7_longForm_60 : decode cX7_longForm 60 = .ok (.aload_n 0, 1) := by decide +kernel
theorem dX7_longForm_61 : decode cX7_longForm 61 = .ok (.aload_n 0, 1) := by decide +kernel
theorem dX7_longForm_62 : decode cX7_longForm 62 = .ok (.getfield 24, 3) := by decide +kernel
theorem dX7_longForm_65 : decode cX7_longForm 65 = .ok (.invokevirtual 66, 3) := by decide +kernel
theorem dX7_longForm_68 : decode cX7_longForm 68 = .ok (.ireturn, 1) := by decide +kernel
theorem dX7_longForm_69 : decode cX7_longForm 69 = .ok (.iload_n 1, 1) := by decide +kernel
theorem dX7_longForm_70 : decode cX7_longForm 70 = .ok (.sipush 224, 3) := by decide +kernel
theorem dX7_longForm_73 : decode cX7_longForm 73 = .ok (.if_icmp .ne 9, 3) := by decide +kernel
theorem dX7_longForm_76 : decode cX7_longForm 76 = .ok (.sipush 160, 3) := by decide +kernel
theorem dX7_longForm_79 : decode cX7_longForm 79 = .ok (.goto 19, 3) := by decide +kernel
theorem dX7_longForm_82 : decode cX7_longForm 82 = .ok (.iload_n 1, 1) := by decide +kernel
theorem dX7_longForm_83 : decode cX7_longForm 83 = .ok (.sipush 240, 3) := by decide +kernel
theorem dX7_longForm_86 : decode cX7_longForm 86 = .ok (.if_icmp .ne 9, 3) := by decide +kernel
theorem dX7_longForm_89 : decode cX7_longForm 89 = .ok (.sipush 144, 3) := by decide +kernel
theorem dX7_longForm_92 : decode cX7_longForm 92 = .ok (.goto 6, 3) := by decide +kernel
theorem dX7_longForm_95 : decode cX7_longForm 95 = .ok (.sipush 128, 3) := by decide +kernel
theorem dX7_longForm_98 : decode cX7_longForm 98 = .ok (.istore_n 3, 1) := by decide +kernel
theorem dX7_longForm_99 : decode cX7_longForm 99 = .ok (.iload_n 1, 1) := by decide +kernel
theorem dX7_longForm_100 : decode cX7_longForm 100 = .ok (.sipush 237, 3) := by decide +kernel
theorem dX7_longForm_103 : decode cX7_longForm 103 = .ok (.if_icmp .ne 9, 3) := by decide +kernel
theorem dX7_longForm_106 : decode cX7_longForm 106 = .ok (.sipush 159, 3) := by decide +kernel
theorem dX7_longForm_109 : decode cX7_longForm 109 = .ok (.goto 19, 3) := by decide +kernel
theorem dX7_longForm_112 : decode cX7_longForm 112 = .ok (.iload_n 1, 1) := by decide +kernel
theorem dX7_longForm_113 : decode cX7_longForm 113 = .ok (.sipush 244, 3) := by decide +kernel
theorem dX7_longForm_116 : decode cX7_longForm 116 = .ok (.if_icmp .ne 9, 3) := by decide +kernel
theorem dX7_longForm_119 : decode cX7_longForm 119 = .ok (.sipush 143, 3) := by decide +kernel
theorem dX7_longForm_122 : decode cX7_longForm 122 = .ok (.goto 6, 3) := by decide +kernel
theorem dX7_longForm_125 : decode cX7_longForm 125 = .ok (.sipush 191, 3) := by decide +kernel
theorem dX7_longForm_128 : decode cX7_longForm 128 = .ok (.istore 4, 2) := by decide +kernel
theorem dX7_longForm_130 : decode cX7_longForm 130 = .ok (.aload_n 0, 1) := by decide +kernel
theorem dX7_longForm_131 : decode cX7_longForm 131 = .ok (.getfield 15, 3) := by decide +kernel
theorem dX7_longForm_134 : decode cX7_longForm 134 = .ok (.getfield 88, 3) := by decide +kernel
theorem dX7_longForm_137 : decode cX7_longForm 137 = .ok (.iload_n 1, 1) := by decide +kernel
theorem dX7_longForm_138 : decode cX7_longForm 138 = .ok (.invokevirtual 160, 3) := by decide +kernel
theorem dX7_longForm_141 : decode cX7_longForm 141 = .ok (.aload_n 0, 1) := by decide +kernel
theorem dX7_longForm_142 : decode cX7_longForm 142 = .ok (.dup, 1) := by decide +kernel
theorem dX7_longForm_143 : decode cX7_longForm 143 = .ok (.getfield 24, 3) := by decide +kernel
theorem dX7_longForm_146 : decode cX7_longForm 146 = .ok (.iconst 1, 1) := by decide +kernel
theorem dX7_longForm_147 : decode cX7_longForm 147 = .ok (.iadd, 1) := by decide +kernel
theorem dX7_longForm_148 : decode cX7_longForm 148 = .ok (.putfield 24, 3) := by decide +kernel
theorem dX7_longForm_151 : decode cX7_longForm 151 = .ok (.iconst 0, 1) := by decide +kernel
theorem dX7_longForm_152 : decode cX7_longForm 152 = .ok (.istore 5, 2) := by decide +kernel
theorem dX7_longForm_154 : decode cX7_longForm 154 = .ok (.iload 5, 2) := by decide +kernel
theorem dX7_longForm_156 : decode cX7_longForm 156 = .ok (.iload_n 2, 1) := by decide +kernel
theorem dX7_longForm_157 : decode cX7_longForm 157 = .ok (.if_icmp .ge 75, 3) := by decide +kernel
theorem dX7_longForm_160 : decode cX7_longForm 160 = .ok (.aload_n 0, 1) := by decide +kernel
theorem dX7_longForm_161 : decode cX7_longForm 161 = .ok (.getfield 9, 3) := by decide +kernel
theorem dX7_longForm_164 : decode cX7_longForm 164 = .ok (.aload_n 0, 1) := by decide +kernel
theorem dX7_longForm_165 : decode cX7_longForm 165 = .ok (.getfield 24, 3) := by decide +kernel
theorem dX7_longForm_168 : decode cX7_longForm 168 = .ok (.invokevirtual 48, 3) := by decide +kernel
theorem dX7_longForm_171 : decode cX7_longForm 171 = .ok (.istore 6, 2) := by decide +kernel
theorem dX7_longForm_173 : decode cX7_longForm 173 = .ok (.iload 6, 2) := by decide +kernel
theorem dX7_longForm_175 : decode cX7_longForm 175 = .ok (.iload_n 3, 1) := by decide +kernel
theorem dX7_longForm_176 : decode cX7_longForm 176 = .ok (.if_icmp .lt 10, 3) := by decide +kernel
theorem dX7_longForm_179 : decode cX7_longForm 179 = .ok (.iload 6, 2) := by decide +kernel
theorem dX7_longForm_181 : decode cX7_longForm 181 = .ok (.iload 4, 2) := by decide +kernel
theorem dX7_longForm_183 : decode cX7_longForm 183 = .ok (.if_icmp .le 12, 3) := by decide +kernel
theorem dX7_longForm_186 : decode cX7_longForm 186 = .ok (.aload_n 0, 1) := by decide +kernel
theorem dX7_longForm_187 : decode cX7_longForm 187 = .ok (.aload_n 0, 1) := by decide +kernel
theorem dX7_longForm_188 : decode cX7_longForm 188 = .ok (.getfield 24, 3) := by decide +kernel
theorem dX7_longForm_191 : decode cX7_longForm 191 = .ok (.invokevirtual 66, 3) := by decide +kernel
theorem dX7_longForm_194 : decode cX7_longForm 194 = .ok (.ireturn, 1) := by decide +kernel
theorem dX7_longForm_195 : decode cX7_longForm 195 = .ok (.aload_n 0, 1) := by decide +kernel
theorem dX7_longForm_196 : decode cX7_longForm 196 = .ok (.getfield 15, 3) := by decide +kernel
theorem dX7_longForm_199 : decode cX7_longForm 199 = .ok (.getfield 88, 3) := by decide +kernel
theorem dX7_longForm_202 : decode cX7_longForm 202 = .ok (.iload 6, 2) := by decide +kernel
theorem dX7_longForm_204 : decode cX7_longForm 204 = .ok (.invokevirtual 160, 3) := by decide +kernel
theorem dX7_longForm_207 : decode cX7_longForm 207 = .ok (.aload_n 0, 1) := by decide +kernel
theorem dX7_longForm_208 : decode cX7_longForm 208 = .ok (.dup, 1) := by decide +kernel
theorem dX7_longForm_209 : decode cX7_longForm 209 = .ok (.getfield 24, 3) := by decide +kernel
theorem dX7_longForm_212 : decode cX7_longForm 212 = .ok (.iconst 1, 1) := by decide +kernel
theorem dX7_longForm_213 : decode cX7_longForm 213 = .ok (.iadd, 1) := by decide +kernel
theorem dX7_longForm_214 : decode cX7_longForm 214 = .ok (.putfield 24, 3) := by decide +kernel
theorem dX7_longForm_217 : decode cX7_longForm 217 = .ok (.sipush 128, 3) := by decide +kernel
theorem dX7_longForm_220 : decode cX7_longForm 220 = .ok (.istore_n 3, 1) := by decide +kernel
theorem dX7_longForm_221 : decode cX7_longForm 221 = .ok (.sipush 191, 3) := by decide +kernel
theorem dX7_longForm_224 : decode cX7_longForm 224 = .ok (.istore 4, 2) := by decide +kernel
theorem dX7_longForm_226 : decode cX7_longForm 226 = .ok (.iinc 5 1, 3) := by decide +kernel
theorem dX7_longForm_229 : decode cX7_longForm 229 = .ok (.goto (-75), 3) := by decide +kernel
theorem dX7_longForm_232 : decode cX7_longForm 232 = .ok (.iconst 1, 1) := by decide +kernel
theorem dX7_longForm_233 : decode cX7_longForm 233 = .ok (.ireturn, 1) := by decide +kernel
abbrev rmX7_longForm : Room := { frames := 1, cells := 0, slots := 0, locals := 21 }
set_option maxHeartbeats 4000000 in
set_option maxRecDepth 100000 in
theorem wB_X7_longForm_154 {G : mG} {F : Nat} {x : mXT} {sz : Nat} {r0 : Int32} {M0 : mM} (X : mCX G RX7 cX7_longForm 7 (some .boolean) "longForm" rmX7_longForm x) (hQ : mQI x r0 M0 (sz, 0, 0)) : ∀ (n : Nat) (l0 : Nat) (l2 : Int32) (l3 : Int32) (l4 : Int32) (l5 : Int32) (M : mM), B_X7_longForm_154 G F n l0 l2 l3 l4 l5 M = some (r0, M0) → WW x (sz, 0, 0) M 154 [(0, .ref l0), (2, .int l2), (3, .int l3), (4, .int l4), (5, .int l5)] [] := by
  intro n
  induction n with
  | zero =>
    intro l0 l2 l3 l4 l5 M h
    exact nomatch (show (none : Option (Int32 × mM)) = some (r0, M0) from h)
  | succ n ih =>
    intro l0 l2 l3 l4 l5 M h
    rw [B_X7_longForm_154] at h
    refine ww_iload 154 X dX7_longForm_154 4 rfl ?_
    refine ww_iload_n 156 X dX7_longForm_156 1 rfl rfl ?_
    refine ww_icmp_ge 157 232 X dX7_longForm_157 (by decide) (fun q => ?_) (fun q => ?_)
    · replace h := (if_pos q).symm.trans h
      refine ww_iconst 232 X (v := (1 : Int32)) dX7_longForm_232 (by decide) ?_
      exact ww_zretE 233 X hQ dX7_longForm_233 h
    · replace h := (if_neg q).symm.trans h
      refine ww_aload_n 160 X dX7_longForm_160 0 rfl rfl ?_
      obtain ⟨v161, e161, h⟩ := bO_some h
      refine ww_getR 161 X dX7_longForm_161 fG_X7_9 e161 ?_
      refine ww_aload_n 164 X dX7_longForm_164 0 rfl rfl ?_
      obtain ⟨v165, e165, h⟩ := bO_some h
      refine ww_getI 165 X dX7_longForm_165 fG_X7_24 e165 ?_
      obtain ⟨_, f168, h⟩ := bO_some h
      obtain ⟨v168, M168, e168, h⟩ := bP_some h
      refine ww_callVI0 168 X dX7_longForm_168 mY_X0_peek mL_X7_48 (rcv_spec f168) ⟨_, _, rfl⟩ (by decide) (As := [.int v165]) (rest := []) rfl rfl ⟨Nat.le_of_ble_eq_true rfl, Nat.le_of_ble_eq_true rfl⟩ (Nat.le_of_ble_eq_true rfl) (fun l D A => c_X0_peek l D A e168) ?_
      refine ww_istore 171 X dX7_longForm_171 (lv' := [(0, .ref l0), (2, .int l2), (3, .int l3), (4, .int l4), (5, .int l5), (6, .int v168)]) (by decide) [1, 2, 3, 4, 5, 0] rfl ?_
      refine ww_iload 173 X dX7_longForm_173 5 rfl ?_
      refine ww_iload_n 175 X dX7_longForm_175 2 rfl rfl ?_
      refine ww_icmp_lt 176 186 X dX7_longForm_176 (by decide) (fun q => ?_) (fun q => ?_)
      · replace h := (if_pos q).symm.trans h
        refine ww_aload_n 186 X dX7_longForm_186 0 rfl rfl ?_
        refine ww_aload_n 187 X dX7_longForm_187 0 rfl rfl ?_
        obtain ⟨v188, e188, h⟩ := bO_some h
        refine ww_getI 188 X dX7_longForm_188 fG_X7_24 e188 ?_
        obtain ⟨_, f191, h⟩ := bO_some h
        obtain ⟨v191, M191, e191, h⟩ := bP_some h
        refine ww_callVI0 191 X dX7_longForm_191 mY_X7_wrong mL_X7_66 (rcv_spec f191) ⟨_, _, rfl⟩ (by decide) (As := [.int v188]) (rest := []) rfl rfl ⟨Nat.le_of_ble_eq_true rfl, Nat.le_of_ble_eq_true rfl⟩ (Nat.le_of_ble_eq_true rfl) (fun l D A => c_X7_wrong l D A e191) ?_
        exact ww_zretE 194 X hQ dX7_longForm_194 h
      · replace h := (if_neg q).symm.trans h
        refine ww_iload 179 X dX7_longForm_179 5 rfl ?_
        refine ww_iload 181 X dX7_longForm_181 3 rfl ?_
        refine ww_icmp_le 183 195 X dX7_longForm_183 (by decide) (fun q => ?_) (fun q => ?_)
        · replace h := (if_pos q).symm.trans h
          refine ww_aload_n 195 X dX7_longForm_195 0 rfl rfl ?_
          obtain ⟨v196, e196, h⟩ := bO_some h
          refine ww_getR 196 X dX7_longForm_196 fG_X7_15 e196 ?_
          obtain ⟨v199, e199, h⟩ := bO_some h
          refine ww_getR 199 X dX7_longForm_199 fG_X7_88 e199 ?_
          refine ww_iload 202 X dX7_longForm_202 5 rfl ?_
          obtain ⟨_, f204, h⟩ := bO_some h
          obtain ⟨M204, e204, h⟩ := bO_some h
          refine ww_callVV0 204 X dX7_longForm_204 mY_X0_put mL_X7_160 (rcv_spec f204) ⟨_, _, rfl⟩ (by decide) (As := [.int v168]) (rest := []) rfl rfl ⟨Nat.le_of_ble_eq_true rfl, Nat.le_of_ble_eq_true rfl⟩ (Nat.le_of_ble_eq_true rfl) (fun l D A => c_X0_put l D A e204) ?_
          refine ww_aload_n 207 X dX7_longForm_207 0 rfl rfl ?_
          refine ww_dup 208 X dX7_longForm_208 rfl ?_
          obtain ⟨v209, e209, h⟩ := bO_some h
          refine ww_getI 209 X dX7_longForm_209 fG_X7_24 e209 ?_
          refine ww_iconst 212 X (v := (1 : Int32)) dX7_longForm_212 (by decide) ?_
          refine ww_iadd 213 X dX7_longForm_213 ?_
          obtain ⟨M214, e214, h⟩ := bO_some h
          refine ww_putI 214 X dX7_longForm_214 (fP_X7_24 _) e214 ?_
          refine ww_sipush 217 X (v := (128 : Int32)) dX7_longForm_217 (by decide) ?_
          refine ww_istore_n 220 X dX7_longForm_220 (lv' := [(0, .ref l0), (2, .int l2), (3, .int (128 : Int32)), (4, .int l4), (5, .int l5), (6, .int v168)]) rfl (by decide) [1, 2, 0, 3, 4, 5] rfl ?_
          refine ww_sipush 221 X (v := (191 : Int32)) dX7_longForm_221 (by decide) ?_
          refine ww_istore 224 X dX7_longForm_224 (lv' := [(0, .ref l0), (2, .int l2), (3, .int (128 : Int32)), (4, .int (191 : Int32)), (5, .int l5), (6, .int v168)]) (by decide) [1, 2, 3, 0, 4, 5] rfl ?_
          refine ww_iinc 226 X dX7_longForm_226 (lv' := [(0, .ref l0), (2, .int l2), (3, .int (128 : Int32)), (4, .int (191 : Int32)), (5, .int (l5 + 1)), (6, .int v168)]) 4 rfl rfl (by decide) [1, 2, 3, 4, 0, 5] rfl ?_
          refine ww_goto 229 154 X dX7_longForm_229 (by decide) ?_
          exact ww_sub [0, 1, 2, 3, 4] rfl (ih _ _ _ _ _ _ h)
        · replace h := (if_neg q).symm.trans h
          refine ww_aload_n 186 X dX7_longForm_186 0 rfl rfl ?_
          refine ww_aload_n 187 X dX7_longForm_187 0 rfl rfl ?_
          obtain ⟨v188, e188, h⟩ := bO_some h
          refine ww_getI 188 X dX7_longForm_188 fG_X7_24 e188 ?_
          obtain ⟨_, f191, h⟩ := bO_some h
          obtain ⟨v191, M191, e191, h⟩ := bP_some h
          refine ww_callVI0 191 X dX7_longForm_191 mY_X7_wrong mL_X7_66 (rcv_spec f191) ⟨_, _, rfl⟩ (by decide) (As := [.int v188]) (rest := []) rfl rfl ⟨Nat.le_of_ble_eq_true rfl, Nat.le_of_ble_eq_true rfl⟩ (Nat.le_of_ble_eq_true rfl) (fun l D A => c_X7_wrong l D A e191) ?_
          exact ww_zretE 194 X hQ dX7_longForm_194 h
set_option maxHeartbeats 4000000 in
set_option maxRecDepth 100000 in
theorem wB_X7_longForm_128 {G : mG} {F : Nat} {x : mXT} {sz : Nat} {r0 : Int32} {M0 : mM} (X : mCX G RX7 cX7_longForm 7 (some .boolean) "longForm" rmX7_longForm x) (hQ : mQI x r0 M0 (sz, 0, 0)) {l0 : Nat} {l1 : Int32} {l2 : Int32} {l3 : Int32} {sk0 : Int32} {M : mM} (h : B_X7_longForm_128 G F l0 l1 l2 l3 sk0 M = some (r0, M0)) : WW x (sz, 0, 0) M 128 [(0, .ref l0), (1, .int l1), (2, .int l2), (3, .int l3)] [.int sk0] := by
  unfold B_X7_longForm_128 at h
  refine ww_istore 128 X dX7_longForm_128 (lv' := [(0, .ref l0), (1, .int l1), (2, .int l2), (3, .int l3), (4, .int sk0)]) (by decide) [1, 2, 3, 4, 0] rfl ?_
  refine ww_aload_n 130 X dX7_longForm_130 0 rfl rfl ?_
  obtain ⟨v131, e131, h⟩ := bO_some h
  refine ww_getR 131 X dX7_longForm_131 fG_X7_15 e131 ?_
  obtain ⟨v134, e134, h⟩ := bO_some h
  refine ww_getR 134 X dX7_longForm_134 fG_X7_88 e134 ?_
  refine ww_iload_n 137 X dX7_longForm_137 1 rfl rfl ?_
  obtain ⟨_, f138, h⟩ := bO_some h
  obtain ⟨M138, e138, h⟩ := bO_some h
  refine ww_callVV0 138 X dX7_longForm_138 mY_X0_put mL_X7_160 (rcv_spec f138) ⟨_, _, rfl⟩ (by decide) (As := [.int l1]) (rest := []) rfl rfl ⟨Nat.le_of_ble_eq_true rfl, Nat.le_of_ble_eq_true rfl⟩ (Nat.le_of_ble_eq_true rfl) (fun l D A => c_X0_put l D A e138) ?_
  refine ww_aload_n 141 X dX7_longForm_141 0 rfl rfl ?_
  refine ww_dup 142 X dX7_longForm_142 rfl ?_
  obtain ⟨v143, e143, h⟩ := bO_some h
  refine ww_getI 143 X dX7_longForm_143 fG_X7_24 e143 ?_
  refine ww_iconst 146 X (v := (1 : Int32)) dX7_longForm_146 (by decide) ?_
  refine ww_iadd 147 X dX7_longForm_147 ?_
  obtain ⟨M148, e148, h⟩ := bO_some h
  refine ww_putI 148 X dX7_longForm_148 (fP_X7_24 _) e148 ?_
  refine ww_iconst 151 X (v := (0 : Int32)) dX7_longForm_151 (by decide) ?_
  refine ww_istore 152 X dX7_longForm_152 (lv' := [(0, .ref l0), (1, .int l1), (2, .int l2), (3, .int l3), (4, .int sk0), (5, .int (0 : Int32))]) (by decide) [1, 2, 3, 4, 5, 0] rfl ?_
  exact ww_sub [0, 2, 3, 4, 5] rfl (wB_X7_longForm_154 X hQ F _ _ _ _ _ _ h)
set_option maxHeartbeats 4000000 in
set_option maxRecDepth 100000 in
theorem wB_X7_longForm_98 {G : mG} {F : Nat} {x : mXT} {sz : Nat} {r0 : Int32} {M0 : mM} (X : mCX G RX7 cX7_longForm 7 (some .boolean) "longForm" rmX7_longForm x) (hQ : mQI x r0 M0 (sz, 0, 0)) {l0 : Nat} {l1 : Int32} {l2 : Int32} {sk0 : Int32} {M : mM} (h : B_X7_longForm_98 G F l0 l1 l2 sk0 M = some (r0, M0)) : WW x (sz, 0, 0) M 98 [(0, .ref l0), (1, .int l1), (2, .int l2)] [.int sk0] := by
  unfold B_X7_longForm_98 at h
  refine ww_istore_n 98 X dX7_longForm_98 (lv' := [(0, .ref l0), (1, .int l1), (2, .int l2), (3, .int sk0)]) rfl (by decide) [1, 2, 3, 0] rfl ?_
  refine ww_iload_n 99 X dX7_longForm_99 1 rfl rfl ?_
  refine ww_sipush 100 X (v := (237 : Int32)) dX7_longForm_100 (by decide) ?_
  refine ww_icmp_ne 103 112 X dX7_longForm_103 (by decide) (fun q => ?_) (fun q => ?_)
  · replace h := (if_neg q).symm.trans h
    refine ww_iload_n 112 X dX7_longForm_112 1 rfl rfl ?_
    refine ww_sipush 113 X (v := (244 : Int32)) dX7_longForm_113 (by decide) ?_
    refine ww_icmp_ne 116 125 X dX7_longForm_116 (by decide) (fun q => ?_) (fun q => ?_)
    · replace h := (if_neg q).symm.trans h
      refine ww_sipush 125 X (v := (191 : Int32)) dX7_longForm_125 (by decide) ?_
      exact (wB_X7_longForm_128 X hQ h)
    · replace h := (if_pos q).symm.trans h
      refine ww_sipush 119 X (v := (143 : Int32)) dX7_longForm_119 (by decide) ?_
      refine ww_goto 122 128 X dX7_longForm_122 (by decide) ?_
      exact (wB_X7_longForm_128 X hQ h)
  · replace h := (if_pos q).symm.trans h
    refine ww_sipush 106 X (v := (159 : Int32)) dX7_longForm_106 (by decide) ?_
    refine ww_goto 109 128 X dX7_longForm_109 (by decide) ?_
    exact (wB_X7_longForm_128 X hQ h)
set_option maxHeartbeats 4000000 in
set_option maxRecDepth 100000 in
theorem wB_X7_longForm_55 {G : mG} {F : Nat} {x : mXT} {sz : Nat} {r0 : Int32} {M0 : mM} (X : mCX G RX7 cX7_longForm 7 (some .boolean) "longForm" rmX7_longForm x) (hQ : mQI x r0 M0 (sz, 0, 0)) {l0 : Nat} {l1 : Int32} {sk0 : Int32} {M : mM} (h : B_X7_longForm_55 G F l0 l1 sk0 M = some (r0, M0)) : WW x (sz, 0, 0) M 55 [(0, .ref l0), (1, .int l1)] [.int sk0] := by
  unfold B_X7_longForm_55 at h
  refine ww_istore_n 55 X dX7_longForm_55 (lv' := [(0, .ref l0), (1, .int l1), (2, .int sk0)]) rfl (by decide) [1, 2, 0] rfl ?_
  refine ww_iload_n 56 X dX7_longForm_56 2 rfl rfl ?_
  refine ww_if_ne 57 69 X dX7_longForm_57 (by decide) (fun q => ?_) (fun q => ?_)
  · replace h := (if_neg q).symm.trans h
    refine ww_iload_n 69 X dX7_longForm_69 1 rfl rfl ?_
    refine ww_sipush 70 X (v := (224 : Int32)) dX7_longForm_70 (by decide) ?_
    refine ww_icmp_ne 73 82 X dX7_longForm_73 (by decide) (fun q => ?_) (fun q => ?_)
    · replace h := (if_neg q).symm.trans h
      refine ww_iload_n 82 X dX7_longForm_82 1 rfl rfl ?_
      refine ww_sipush 83 X (v := (240 : Int32)) dX7_longForm_83 (by decide) ?_
      refine ww_icmp_ne 86 95 X dX7_longForm_86 (by decide) (fun q => ?_) (fun q => ?_)
      · replace h := (if_neg q).symm.trans h
        refine ww_sipush 95 X (v := (128 : Int32)) dX7_longForm_95 (by decide) ?_
        exact (wB_X7_longForm_98 X hQ h)
      · replace h := (if_pos q).symm.trans h
        refine ww_sipush 89 X (v := (144 : Int32)) dX7_longForm_89 (by decide) ?_
        refine ww_goto 92 98 X dX7_longForm_92 (by decide) ?_
        exact (wB_X7_longForm_98 X hQ h)
    · replace h := (if_pos q).symm.trans h
      refine ww_sipush 76 X (v := (160 : Int32)) dX7_longForm_76 (by decide) ?_
      refine ww_goto 79 98 X dX7_longForm_79 (by decide) ?_
      exact (wB_X7_longForm_98 X hQ h)
  · replace h := (if_pos q).symm.trans h
    refine ww_aload_n 60 X dX7_longForm_60 0 rfl rfl ?_
    refine ww_aload_n 61 X dX7_longForm_61 0 rfl rfl ?_
    obtain ⟨v62, e62, h⟩ := bO_some h
    refine ww_getI 62 X dX7_longForm_62 fG_X7_24 e62 ?_
    obtain ⟨_, f65, h⟩ := bO_some h
    obtain ⟨v65, M65, e65, h⟩ := bP_some h
    refine ww_callVI0 65 X dX7_longForm_65 mY_X7_wrong mL_X7_66 (rcv_spec f65) ⟨_, _, rfl⟩ (by decide) (As := [.int v62]) (rest := []) rfl rfl ⟨Nat.le_of_ble_eq_true rfl, Nat.le_of_ble_eq_true rfl⟩ (Nat.le_of_ble_eq_true rfl) (fun l D A => c_X7_wrong l D A e65) ?_
    exact ww_zretE 68 X hQ dX7_longForm_68 h
set_option maxHeartbeats 4000000 in
set_option maxRecDepth 100000 in
theorem wB_X7_longForm_36 {G : mG} {F : Nat} {x : mXT} {sz : Nat} {r0 : Int32} {M0 : mM} (X : mCX G RX7 cX7_longForm 7 (some .boolean) "longForm" rmX7_longForm x) (hQ : mQI x r0 M0 (sz, 0, 0)) {l0 : Nat} {l1 : Int32} {M : mM} (h : B_X7_longForm_36 G F l0 l1 M = some (r0, M0)) : WW x (sz, 0, 0) M 36 [(0, .ref l0), (1, .int l1)] [] := by
  unfold B_X7_longForm_36 at h
  refine ww_iload_n 36 X dX7_longForm_36 1 rfl rfl ?_
  refine ww_sipush 37 X (v := (240 : Int32)) dX7_longForm_37 (by decide) ?_
  refine ww_icmp_lt 40 54 X dX7_longForm_40 (by decide) (fun q => ?_) (fun q => ?_)
  · replace h := (if_pos q).symm.trans h
    refine ww_iconst 54 X (v := (0 : Int32)) dX7_longForm_54 (by decide) ?_
    exact (wB_X7_longForm_55 X hQ h)
  · replace h := (if_neg q).symm.trans h
    refine ww_iload_n 43 X dX7_longForm_43 1 rfl rfl ?_
    refine ww_sipush 44 X (v := (244 : Int32)) dX7_longForm_44 (by decide) ?_
    refine ww_icmp_gt 47 54 X dX7_longForm_47 (by decide) (fun q => ?_) (fun q => ?_)
    · replace h := (if_pos q).symm.trans h
      refine ww_iconst 54 X (v := (0 : Int32)) dX7_longForm_54 (by decide) ?_
      exact (wB_X7_longForm_55 X hQ h)
    · replace h := (if_neg q).symm.trans h
      refine ww_iconst 50 X (v := (3 : Int32)) dX7_longForm_50 (by decide) ?_
      refine ww_goto 51 55 X dX7_longForm_51 (by decide) ?_
      exact (wB_X7_longForm_55 X hQ h)
set_option maxHeartbeats 4000000 in
set_option maxRecDepth 100000 in
theorem wP_X7_longForm {G : mG} {F : Nat} {x : mXT} {sz : Nat} {r0 : Int32} {M0 : mM} (X : mCX G RX7 cX7_longForm 7 (some .boolean) "longForm" rmX7_longForm x) (hQ : mQI x r0 M0 (sz, 0, 0)) {l0 : Nat} {l1 : Int32} {M : mM} (h : P_X7_longForm G F l0 l1 M = some (r0, M0)) : WW x (sz, 0, 0) M 0 [(0, .ref l0), (1, .int l1)] [] := by
  unfold P_X7_longForm at h
  refine ww_iload_n 0 X dX7_longForm_0 1 rfl rfl ?_
  refine ww_sipush 1 X (v := (194 : Int32)) dX7_longForm_1 (by decide) ?_
  refine ww_icmp_lt 4 18 X dX7_longForm_4 (by decide) (fun q => ?_) (fun q => ?_)
  · replace h := (if_pos q).symm.trans h
    refine ww_iload_n 18 X dX7_longForm_18 1 rfl rfl ?_
    refine ww_sipush 19 X (v := (224 : Int32)) dX7_longForm_19 (by decide) ?_
    refine ww_icmp_lt 22 36 X dX7_longForm_22 (by decide) (fun q => ?_) (fun q => ?_)
    · replace h := (if_pos q).symm.trans h
      exact (wB_X7_longForm_36 X hQ h)
    · replace h := (if_neg q).symm.trans h
      refine ww_iload_n 25 X dX7_longForm_25 1 rfl rfl ?_
      refine ww_sipush 26 X (v := (239 : Int32)) dX7_longForm_26 (by decide) ?_
      refine ww_icmp_gt 29 36 X dX7_longForm_29 (by decide) (fun q => ?_) (fun q => ?_)
      · replace h := (if_pos q).symm.trans h
        exact (wB_X7_longForm_36 X hQ h)
      · replace h := (if_neg q).symm.trans h
        refine ww_iconst 32 X (v := (2 : Int32)) dX7_longForm_32 (by decide) ?_
        refine ww_goto 33 55 X dX7_longForm_33 (by decide) ?_
        exact (wB_X7_longForm_55 X hQ h)
  · replace h := (if_neg q).symm.trans h
    refine ww_iload_n 7 X dX7_longForm_7 1 rfl rfl ?_
    refine ww_sipush 8 X (v := (223 : Int32)) dX7_longForm_8 (by decide) ?_
    refine ww_icmp_gt 11 18 X dX7_longForm_11 (by decide) (fun q => ?_) (fun q => ?_)
    · replace h := (if_pos q).symm.trans h
      refine ww_iload_n 18 X dX7_longForm_18 1 rfl rfl ?_
      refine ww_sipush 19 X (v := (224 : Int32)) dX7_longForm_19 (by decide) ?_
      refine ww_icmp_lt 22 36 X dX7_longForm_22 (by decide) (fun q => ?_) (fun q => ?_)
      · replace h := (if_pos q).symm.trans h
        exact (wB_X7_longForm_36 X hQ h)
      · replace h := (if_neg q).symm.trans h
        refine ww_iload_n 25 X dX7_longForm_25 1 rfl rfl ?_
        refine ww_sipush 26 X (v := (239 : Int32)) dX7_longForm_26 (by decide) ?_
        refine ww_icmp_gt 29 36 X dX7_longForm_29 (by decide) (fun q => ?_) (fun q => ?_)
        · replace h := (if_pos q).symm.trans h
          exact (wB_X7_longForm_36 X hQ h)
        · replace h := (if_neg q).symm.trans h
          refine ww_iconst 32 X (v := (2 : Int32)) dX7_longForm_32 (by decide) ?_
          refine ww_goto 33 55 X dX7_longForm_33 (by decide) ?_
          exact (wB_X7_longForm_55 X hQ h)
    · replace h := (if_neg q).symm.trans h
      refine ww_iconst 14 X (v := (1 : Int32)) dX7_longForm_14 (by decide) ?_
      refine ww_goto 15 55 X dX7_longForm_15 (by decide) ?_
      exact (wB_X7_longForm_55 X hQ h)
theorem c_X7_longForm {G : mG} {F sz : Nat} {r0 : Int32} {M0 : mM} (l : Launch) (D : mD) (A : Nat → Prop) {l0 : Nat} {l1 : Int32} {M : mM} (h : P_X7_longForm G F l0 l1 M = some (r0, M0)) : mMetI l D G A yX7_longForm cX7_longForm 7 (some .boolean) 1 21 0 0 [.ref l0, .int l1] M sz r0 M0 sz := mMetI_of l D G A (by decide) (Nat.le_of_ble_eq_true rfl) (fun x X hQ => wP_X7_longForm X hQ h)
/-! SealedTokens$Reader.string()Z -/
theorem dX7_string_0 : decode cX7_string 0 = .ok (.aload_n 0, 1) := by decide +kernel
theorem dX7_string_1 : decode cX7_string 1 = .ok (.dup, 1) := by decide +kernel
theorem dX7_string_2 : decode cX7_string 2 = .ok (.getfield 24, 3) := by decide +kernel
theorem dX7_string_5 : decode cX7_string 5 = .ok (.iconst 1, 1) := by decide +kernel
theorem dX7_string_6 : decode cX7_string 6 = .ok (.iadd, 1) := by decide +kernel
theorem dX7_string_7 : decode cX7_string 7 = .ok (.putfield 24, 3) := by decide +kernel
theorem dX7_string_10 : decode cX7_string 10 = .ok (.iconst 0, 1) := by decide +kernel
theorem dX7_string_11 : decode cX7_string 11 = .ok (.istore_n 1, 1) := by decide +kernel
theorem dX7_string_12 : decode cX7_string 12 = .ok (.iload_n 1, 1) := by decide +kernel
theorem dX7_string_13 : decode cX7_string 13 = .ok (.aload_n 0, 1) := by decide +kernel
theorem dX7_string_14 : decode cX7_string 14 = .ok (.getfield 9, 3) := by decide +kernel
theorem dX7_string_17 : decode cX7_string 17 = .ok (.getfield 40, 3) := by decide +kernel
theorem dX7_string_20 : decode cX7_string 20 = .ok (.if_icmp .gt 121, 3) := by decide +kernel
theorem dX7_string_23 : decode cX7_string 23 = .ok (.aload_n 0, 1) := by decide +kernel
theorem dX7_string_24 : decode cX7_string 24 = .ok (.getfield 9, 3) := by decide +kernel
theorem dX7_string_27 : decode cX7_string 27 = .ok (.aload_n 0, 1) := by decide +kernel
theorem dX7_string_28 : decode cX7_string 28 = .ok (.getfield 24, 3) := by decide +kernel
theorem dX7_string_31 : decode cX7_string 31 = .ok (.invokevirtual 48, 3) := by decide +kernel
theorem dX7_string_34 : decode cX7_string 34 = .ok (.istore_n 2, 1) := by decide +kernel
theorem dX7_string_35 : decode cX7_string 35 = .ok (.iload_n 2, 1) := by decide +kernel
theorem dX7_string_36 : decode cX7_string 36 = .ok (.bipush 34, 2) := by decide +kernel
theorem dX7_string_38 : decode cX7_string 38 = .ok (.if_icmp .ne 15, 3) := by decide +kernel
theorem dX7_string_41 : decode cX7_string 41 = .ok (.aload_n 0, 1) := by decide +kernel
theorem dX7_string_42 : decode cX7_string 42 = .ok (.dup, 1) := by decide +kernel
theorem dX7_string_43 : decode cX7_string 43 = .ok (.getfield 24, 3) := by decide +kernel
theorem dX7_string_46 : decode cX7_string 46 = .ok (.iconst 1, 1) := by decide +kernel
theorem dX7_string_47 : decode cX7_string 47 = .ok (.iadd, 1) := by decide +kernel
theorem dX7_string_48 : decode cX7_string 48 = .ok (.putfield 24, 3) := by decide +kernel
theorem dX7_string_51 : decode cX7_string 51 = .ok (.iconst 1, 1) := by decide +kernel
theorem dX7_string_52 : decode cX7_string 52 = .ok (.ireturn, 1) := by decide +kernel
theorem dX7_string_53 : decode cX7_string 53 = .ok (.iload_n 2, 1) := by decide +kernel
theorem dX7_string_54 : decode cX7_string 54 = .ok (.bipush 32, 2) := by decide +kernel
theorem dX7_string_56 : decode cX7_string 56 = .ok (.if_icmp .ge 12, 3) := by decide +kernel
theorem dX7_string_59 : decode cX7_string 59 = .ok (.aload_n 0, 1) := by decide +kernel
theorem dX7_string_60 : decode cX7_string 60 = .ok (.aload_n 0, 1) := by decide +kernel
theorem dX7_string_61 : decode cX7_string 61 = .ok (.getfield 24, 3) := by decide +kernel
theorem dX7_string_64 : decode cX7_string 64 = .ok (.invokevirtual 66, 3) := by decide +kernel
theorem dX7_string_67 : decode cX7_string 67 = .ok (.ireturn, 1) := by decide +kernel
theorem dX7_string_68 : decode cX7_string 68 = .ok (.iload_n 2, 1) := by decide +kernel
theorem dX7_string_69 : decode cX7_string 69 = .ok (.bipush 92, 2) := by decide +kernel
theorem dX7_string_71 : decode cX7_string 71 = .ok (.if_icmp .ne 23, 3) := by decide +kernel
theorem dX7_string_74 : decode cX7_string 74 = .ok (.aload_n 0, 1) := by decide +kernel
theorem dX7_string_75 : decode cX7_string 75 = .ok (.invokevirtual 153, 3) := by decide +kernel
theorem dX7_string_78 : decode cX7_string 78 = .ok (.istore_n 3, 1) := by decide +kernel
theorem dX7_string_79 : decode cX7_string 79 = .ok (.iload_n 3, 1) := by decide +kernel
theorem dX7_string_80 : decode cX7_string 80 = .ok (.iconst (-1), 1) := by decide +kernel
theorem dX7_string_81 : decode cX7_string 81 = .ok (.if_icmp .ne 5, 3) := by decide +kernel
theorem dX7_string_84 : decode cX7_string 84 = .ok (.iconst 0, 1) := by decide +kernel
theorem dX7_string_85 : decode cX7_string 85 = .ok (.ireturn, 1) := by decide +kernel
theorem dX7_string_86 : decode cX7_string 86 = .ok (.aload_n 0, 1) := by decide +kernel
theorem dX7_string_87 : decode cX7_string 87 = .ok (.iload_n 3, 1) := by decide +kernel
theorem dX7_string_88 : decode cX7_string 88 = .ok (.invokevirtual 156, 3) := by decide +kernel
theorem dX7_string_91 : decode cX7_string 91 = .ok (.goto 44, 3) := by decide +kernel
theorem dX7_string_94 : decode cX7_string 94 = .ok (.iload_n 2, 1) := by decide +kernel
theorem dX7_string_95 : decode cX7_string 95 = .ok (.sipush 128, 3) := by decide +kernel
theorem dX7_string_98 : decode cX7_string 98 = .ok (.if_icmp .ge 27, 3) := by decide +kernel
theorem dX7_string_101 : decode cX7_string 101 = .ok (.aload_n 0, 1) := by decide +kernel
theorem dX7_string_102 : decode cX7_string 102 = .ok (.getfield 15, 3) := by decide +kernel
theorem dX7_string_105 : decode cX7_string 105 = .ok (.getfield 88, 3) := by decide +kernel
theorem dX7_string_108 : decode cX7_string 108 = .ok (.iload_n 2, 1) := by decide +kernel
theorem dX7_string_109 : decode cX7_string 109 = .ok (.invokevirtual 160, 3) := by decide +kernel
theorem dX7_string_112 : decode cX7_string 112 = .ok (.aload_n 0, 1) := by decide +kernel
theorem dX7_string_113 : decode cX7_string 113 = .ok (.dup, 1) := by decide +kernel
theorem dX7_string_114 : decode cX7_string 114 = .ok (.getfield 24, 3) := by decide +kernel
theorem dX7_string_117 : decode cX7_string 117 = .ok (.iconst 1, 1) := by decide +kernel
theorem dX7_string_118 : decode cX7_string 118 = .ok (.iadd, 1) := by decide +kernel
theorem dX7_string_119 : decode cX7_string 119 = .ok (.putfield 24, 3) := by decide +kernel
theorem dX7_string_122 : decode cX7_string 122 = .ok (.goto 13, 3) := by decide +kernel
theorem dX7_string_125 : decode cX7_string 125 = .ok (.aload_n 0, 1) := by decide +kernel
theorem dX7_string_126 : decode cX7_string 126 = .ok (.iload_n 2, 1) := by decide +kernel
theorem dX7_string_127 : decode cX7_string 127 = .ok (.invokevirtual 163, 3) := by decide +kernel
theorem dX7_string_130 : decode cX7_string 130 = .ok (.ifCond .ne 5, 3) := by decide +kernel
theorem dX7_string_133 : decode cX7_string 133 = .ok (.iconst 0, 1) := by decide +kernel
theorem dX7_string_134 : decode cX7_string 134 = .ok (.ireturn, 1) := by decide +kernel
theorem dX7_string_135 : decode cX7_string 135 = .ok (.iinc 1 1, 3) := by decide +kernel
theorem dX7_string_138 : decode cX7_string 138 = .ok (.goto (-126), 3) := by decide +kernel
theorem dX7_string_141 : decode cX7_string 141 = .ok (.aload_n 0, 1) := by decide +kernel
theorem dX7_string_142 : decode cX7_string 142 = .ok (.aload_n 0, 1) := by decide +kernel
theorem dX7_string_143 : decode cX7_string 143 = .ok (.getfield 24, 3) := by decide +kernel
theorem dX7_string_146 : decode cX7_string 146 = .ok (.invokevirtual 66, 3) := by decide +kernel
theorem dX7_string_149 : decode cX7_string 149 = .ok (.ireturn, 1) := by decide +kernel
abbrev rmX7_string : Room := { frames := 6, cells := 0, slots := 0, locals := 130 }
set_option maxHeartbeats 4000000 in
set_option maxRecDepth 100000 in
theorem wB_X7_string_12 {G : mG} {F : Nat} {x : mXT} {sz : Nat} {r0 : Int32} {M0 : mM} (X : mCX G RX7 cX7_string 4 (some .boolean) "string" rmX7_string x) (hQ : mQI x r0 M0 (sz, 0, 0)) : ∀ (n : Nat) (l0 : Nat) (l1 : Int32) (M : mM), B_X7_string_12 G F n l0 l1 M = some (r0, M0) → WW x (sz, 0, 0) M 12 [(0, .ref l0), (1, .int l1)] [] := by
  intro n
  induction n with
  | zero =>
    intro l0 l1 M h
    exact nomatch (show (none : Option (Int32 × mM)) = some (r0, M0) from h)
  | succ n ih =>
    intro l0 l1 M h
    rw [B_X7_string_12] at h
    refine ww_iload_n 12 X dX7_string_12 1 rfl rfl ?_
    refine ww_aload_n 13 X dX7_string_13 0 rfl rfl ?_
    obtain ⟨v14, e14, h⟩ := bO_some h
    refine ww_getR 14 X dX7_string_14 fG_X7_9 e14 ?_
    obtain ⟨v17, e17, h⟩ := bO_some h
    refine ww_getI 17 X dX7_string_17 fG_X7_40 e17 ?_
    refine ww_icmp_gt 20 141 X dX7_string_20 (by decide) (fun q => ?_) (fun q => ?_)
    · replace h := (if_pos q).symm.trans h
      refine ww_aload_n 141 X dX7_string_141 0 rfl rfl ?_
      refine ww_aload_n 142 X dX7_string_142 0 rfl rfl ?_
      obtain ⟨v143, e143, h⟩ := bO_some h
      refine ww_getI 143 X dX7_string_143 fG_X7_24 e143 ?_
      obtain ⟨_, f146, h⟩ := bO_some h
      obtain ⟨v146, M146, e146, h⟩ := bP_some h
      refine ww_callVI0 146 X dX7_string_146 mY_X7_wrong mL_X7_66 (rcv_spec f146) ⟨_, _, rfl⟩ (by decide) (As := [.int v143]) (rest := []) rfl rfl ⟨Nat.le_of_ble_eq_true rfl, Nat.le_of_ble_eq_true rfl⟩ (Nat.le_of_ble_eq_true rfl) (fun l D A => c_X7_wrong l D A e146) ?_
      exact ww_zretE 149 X hQ dX7_string_149 h
    · replace h := (if_neg q).symm.trans h
      refine ww_aload_n 23 X dX7_string_23 0 rfl rfl ?_
      obtain ⟨v24, e24, h⟩ := bO_some h
      refine ww_getR 24 X dX7_string_24 fG_X7_9 e24 ?_
      refine ww_aload_n 27 X dX7_string_27 0 rfl rfl ?_
      obtain ⟨v28, e28, h⟩ := bO_some h
      refine ww_getI 28 X dX7_string_28 fG_X7_24 e28 ?_
      obtain ⟨_, f31, h⟩ := bO_some h
      obtain ⟨v31, M31, e31, h⟩ := bP_some h
      refine ww_callVI0 31 X dX7_string_31 mY_X0_peek mL_X7_48 (rcv_spec f31) ⟨_, _, rfl⟩ (by decide) (As := [.int v28]) (rest := []) rfl rfl ⟨Nat.le_of_ble_eq_true rfl, Nat.le_of_ble_eq_true rfl⟩ (Nat.le_of_ble_eq_true rfl) (fun l D A => c_X0_peek l D A e31) ?_
      refine ww_istore_n 34 X dX7_string_34 (lv' := [(0, .ref l0), (1, .int l1), (2, .int v31)]) rfl (by decide) [1, 2, 0] rfl ?_
      refine ww_iload_n 35 X dX7_string_35 2 rfl rfl ?_
      refine ww_bipush 36 X (v := (34 : Int32)) dX7_string_36 (by decide) ?_
      refine ww_icmp_ne 38 53 X dX7_string_38 (by decide) (fun q => ?_) (fun q => ?_)
      · replace h := (if_neg q).symm.trans h
        refine ww_iload_n 53 X dX7_string_53 2 rfl rfl ?_
        refine ww_bipush 54 X (v := (32 : Int32)) dX7_string_54 (by decide) ?_
        refine ww_icmp_ge 56 68 X dX7_string_56 (by decide) (fun q => ?_) (fun q => ?_)
        · replace h := (if_pos q).symm.trans h
          refine ww_iload_n 68 X dX7_string_68 2 rfl rfl ?_
          refine ww_bipush 69 X (v := (92 : Int32)) dX7_string_69 (by decide) ?_
          refine ww_icmp_ne 71 94 X dX7_string_71 (by decide) (fun q => ?_) (fun q => ?_)
          · replace h := (if_neg q).symm.trans h
            refine ww_iload_n 94 X dX7_string_94 2 rfl rfl ?_
            refine ww_sipush 95 X (v := (128 : Int32)) dX7_string_95 (by decide) ?_
            refine ww_icmp_ge 98 125 X dX7_string_98 (by decide) (fun q => ?_) (fun q => ?_)
            · replace h := (if_pos q).symm.trans h
              refine ww_aload_n 125 X dX7_string_125 0 rfl rfl ?_
              refine ww_iload_n 126 X dX7_string_126 2 rfl rfl ?_
              obtain ⟨_, f127, h⟩ := bO_some h
              obtain ⟨v127, M127, e127, h⟩ := bP_some h
              refine ww_callVI0 127 X dX7_string_127 mY_X7_longForm mL_X7_163 (rcv_spec f127) ⟨_, _, rfl⟩ (by decide) (As := [.int v31]) (rest := []) rfl rfl ⟨Nat.le_of_ble_eq_true rfl, Nat.le_of_ble_eq_true rfl⟩ (Nat.le_of_ble_eq_true rfl) (fun l D A => c_X7_longForm l D A e127) ?_
              refine ww_if_ne 130 135 X dX7_string_130 (by decide) (fun q => ?_) (fun q => ?_)
              · replace h := (if_neg q).symm.trans h
                refine ww_iinc 135 X dX7_string_135 (lv' := [(0, .ref l0), (1, .int (l1 + 1)), (2, .int v31)]) 1 rfl rfl (by decide) [1, 0, 2] rfl ?_
                refine ww_goto 138 12 X dX7_string_138 (by decide) ?_
                exact ww_sub [0, 1] rfl (ih _ _ _ h)
              · replace h := (if_pos q).symm.trans h
                refine ww_iconst 133 X (v := (0 : Int32)) dX7_string_133 (by decide) ?_
                exact ww_zretE 134 X hQ dX7_string_134 h
            · replace h := (if_neg q).symm.trans h
              refine ww_aload_n 101 X dX7_string_101 0 rfl rfl ?_
              obtain ⟨v102, e102, h⟩ := bO_some h
              refine ww_getR 102 X dX7_string_102 fG_X7_15 e102 ?_
              obtain ⟨v105, e105, h⟩ := bO_some h
              refine ww_getR 105 X dX7_string_105 fG_X7_88 e105 ?_
              refine ww_iload_n 108 X dX7_string_108 2 rfl rfl ?_
              obtain ⟨_, f109, h⟩ := bO_some h
              obtain ⟨M109, e109, h⟩ := bO_some h
              refine ww_callVV0 109 X dX7_string_109 mY_X0_put mL_X7_160 (rcv_spec f109) ⟨_, _, rfl⟩ (by decide) (As := [.int v31]) (rest := []) rfl rfl ⟨Nat.le_of_ble_eq_true rfl, Nat.le_of_ble_eq_true rfl⟩ (Nat.le_of_ble_eq_true rfl) (fun l D A => c_X0_put l D A e109) ?_
              refine ww_aload_n 112 X dX7_string_112 0 rfl rfl ?_
              refine ww_dup 113 X dX7_string_113 rfl ?_
              obtain ⟨v114, e114, h⟩ := bO_some h
              refine ww_getI 114 X dX7_string_114 fG_X7_24 e114 ?_
              refine ww_iconst 117 X (v := (1 : Int32)) dX7_string_117 (by decide) ?_
              refine ww_iadd 118 X dX7_string_118 ?_
              obtain ⟨M119, e119, h⟩ := bO_some h
              refine ww_putI 119 X dX7_string_119 (fP_X7_24 _) e119 ?_
              refine ww_goto 122 135 X dX7_string_122 (by decide) ?_
              refine ww_iinc 135 X dX7_string_135 (lv' := [(0, .ref l0), (1, .int (l1 + 1)), (2, .int v31)]) 1 rfl rfl (by decide) [1, 0, 2] rfl ?_
              refine ww_goto 138 12 X dX7_string_138 (by decide) ?_
              exact ww_sub [0, 1] rfl (ih _ _ _ h)
          · replace h := (if_pos q).symm.trans h
            refine ww_aload_n 74 X dX7_string_74 0 rfl rfl ?_
            obtain ⟨_, f75, h⟩ := bO_some h
            obtain ⟨v75, M75, e75, h⟩ := bP_some h
            refine ww_callVI0 75 X dX7_string_75 mY_X7_escape mL_X7_153 (rcv_spec f75) ⟨_, _, rfl⟩ (by decide) (As := []) (rest := []) rfl rfl ⟨Nat.le_of_ble_eq_true rfl, Nat.le_of_ble_eq_true rfl⟩ (Nat.le_of_ble_eq_true rfl) (fun l D A => c_X7_escape l D A e75) ?_
            refine ww_istore_n 78 X dX7_string_78 (lv' := [(0, .ref l0), (1, .int l1), (2, .int v31), (3, .int v75)]) rfl (by decide) [1, 2, 3, 0] rfl ?_
            refine ww_iload_n 79 X dX7_string_79 3 rfl rfl ?_
            refine ww_iconst 80 X (v := (-1 : Int32)) dX7_string_80 (by decide) ?_
            refine ww_icmp_ne 81 86 X dX7_string_81 (by decide) (fun q => ?_) (fun q => ?_)
            · replace h := (if_neg q).symm.trans h
              refine ww_aload_n 86 X dX7_string_86 0 rfl rfl ?_
              refine ww_iload_n 87 X dX7_string_87 3 rfl rfl ?_
              obtain ⟨_, f88, h⟩ := bO_some h
              obtain ⟨M88, e88, h⟩ := bO_some h
              refine ww_callVV0 88 X dX7_string_88 mY_X7_putPoint mL_X7_156 (rcv_spec f88) ⟨_, _, rfl⟩ (by decide) (As := [.int v75]) (rest := []) rfl rfl ⟨Nat.le_of_ble_eq_true rfl, Nat.le_of_ble_eq_true rfl⟩ (Nat.le_of_ble_eq_true rfl) (fun l D A => c_X7_putPoint l D A e88) ?_
              refine ww_goto 91 135 X dX7_string_91 (by decide) ?_
              refine ww_iinc 135 X dX7_string_135 (lv' := [(0, .ref l0), (1, .int (l1 + 1)), (2, .int v31), (3, .int v75)]) 1 rfl rfl (by decide) [1, 0, 2, 3] rfl ?_
              refine ww_goto 138 12 X dX7_string_138 (by decide) ?_
              exact ww_sub [0, 1] rfl (ih _ _ _ h)
            · replace h := (if_pos q).symm.trans h
              refine ww_iconst 84 X (v := (0 : Int32)) dX7_string_84 (by decide) ?_
              exact ww_zretE 85 X hQ dX7_string_85 h
        · replace h := (if_neg q).symm.trans h
          refine ww_aload_n 59 X dX7_string_59 0 rfl rfl ?_
          refine ww_aload_n 60 X dX7_string_60 0 rfl rfl ?_
          obtain ⟨v61, e61, h⟩ := bO_some h
          refine ww_getI 61 X dX7_string_61 fG_X7_24 e61 ?_
          obtain ⟨_, f64, h⟩ := bO_some h
          obtain ⟨v64, M64, e64, h⟩ := bP_some h
          refine ww_callVI0 64 X dX7_string_64 mY_X7_wrong mL_X7_66 (rcv_spec f64) ⟨_, _, rfl⟩ (by decide) (As := [.int v61]) (rest := []) rfl rfl ⟨Nat.le_of_ble_eq_true rfl, Nat.le_of_ble_eq_true rfl⟩ (Nat.le_of_ble_eq_true rfl) (fun l D A => c_X7_wrong l D A e64) ?_
          exact ww_zretE 67 X hQ dX7_string_67 h
      · replace h := (if_pos q).symm.trans h
        refine ww_aload_n 41 X dX7_string_41 0 rfl rfl ?_
        refine ww_dup 42 X dX7_string_42 rfl ?_
        obtain ⟨v43, e43, h⟩ := bO_some h
        refine ww_getI 43 X dX7_string_43 fG_X7_24 e43 ?_
        refine ww_iconst 46 X (v := (1 : Int32)) dX7_string_46 (by decide) ?_
        refine ww_iadd 47 X dX7_string_47 ?_
        obtain ⟨M48, e48, h⟩ := bO_some h
        refine ww_putI 48 X dX7_string_48 (fP_X7_24 _) e48 ?_
        refine ww_iconst 51 X (v := (1 : Int32)) dX7_string_51 (by decide) ?_
        exact ww_zretE 52 X hQ dX7_string_52 h
set_option maxHeartbeats 4000000 in
set_option maxRecDepth 100000 in
theorem wP_X7_string {G : mG} {F : Nat} {x : mXT} {sz : Nat} {r0 : Int32} {M0 : mM} (X : mCX G RX7 cX7_string 4 (some .boolean) "string" rmX7_string x) (hQ : mQI x r0 M0 (sz, 0, 0)) {l0 : Nat} {M : mM} (h : P_X7_string G F l0 M = some (r0, M0)) : WW x (sz, 0, 0) M 0 [(0, .ref l0)] [] := by
  unfold P_X7_string at h
  refine ww_aload_n 0 X dX7_string_0 0 rfl rfl ?_
  refine ww_dup 1 X dX7_string_1 rfl ?_
  obtain ⟨v2, e2, h⟩ := bO_some h
  refine ww_getI 2 X dX7_string_2 fG_X7_24 e2 ?_
  refine ww_iconst 5 X (v := (1 : Int32)) dX7_string_5 (by decide) ?_
  refine ww_iadd 6 X dX7_string_6 ?_
  obtain ⟨M7, e7, h⟩ := bO_some h
  refine ww_putI 7 X dX7_string_7 (fP_X7_24 _) e7 ?_
  refine ww_iconst 10 X (v := (0 : Int32)) dX7_string_10 (by decide) ?_
  refine ww_istore_n 11 X dX7_string_11 (lv' := [(0, .ref l0), (1, .int (0 : Int32))]) rfl (by decide) [1, 0] rfl ?_
  exact (wB_X7_string_12 X hQ F _ _ _ h)
theorem c_X7_string {G : mG} {F sz : Nat} {r0 : Int32} {M0 : mM} (l : Launch) (D : mD) (A : Nat → Prop) {l0 : Nat} {M : mM} (h : P_X7_string G F l0 M = some (r0, M0)) : mMetI l D G A yX7_string cX7_string 4 (some .boolean) 6 130 0 0 [.ref l0] M sz r0 M0 sz := mMetI_of l D G A (by decide) (Nat.le_of_ble_eq_true rfl) (fun x X hQ => wP_X7_string X hQ h)
/-! SealedTokens$Reader.begin(I)Z -/
theorem dX7_begin_0 : decode cX7_begin 0 = .ok (.iload_n 1, 1) := by decide +kernel
theorem dX7_begin_1 : decode cX7_begin 1 = .ok (.invokestatic 104, 3) := by decide +kernel
theorem dX7_begin_4 : decode cX7_begin 4 = .ok (.istore_n 2, 1) := by decide +kernel
theorem dX7_begin_5 : decode cX7_begin 5 = .ok (.iload_n 2, 1) := by decide +kernel
theorem dX7_begin_6 : decode cX7_begin 6 = .ok (.iconst (-1), 1) := by decide +kernel
theorem dX7_begin_7 : decode cX7_begin 7 = .ok (.if_icmp .eq 30, 3) := by decide +kernel
theorem dX7_begin_10 : decode cX7_begin 10 = .ok (.aload_n 0, 1) := by decide +kernel
theorem dX7_begin_11 : decode cX7_begin 11 = .ok (.getfield 15, 3) := by decide +kernel
theorem dX7_begin_14 : decode cX7_begin 14 = .ok (.getfield 107, 3) := by decide +kernel
theorem dX7_begin_17 : decode cX7_begin 17 = .ok (.sipush 600, 3) := by decide +kernel
theorem dX7_begin_20 : decode cX7_begin 20 = .ok (.if_icmp .ge 17, 3) := by decide +kernel
theorem dX7_begin_23 : decode cX7_begin 23 = .ok (.iload_n 2, 1) := by decide +kernel
theorem dX7_begin_24 : decode cX7_begin 24 = .ok (.iconst 5, 1) := by decide +kernel
theorem dX7_begin_25 : decode cX7_begin 25 = .ok (.if_icmp .lt 21, 3) := by decide +kernel
theorem dX7_begin_28 : decode cX7_begin 28 = .ok (.aload_n 0, 1) := by decide +kernel
theorem dX7_begin_29 : decode cX7_begin 29 = .ok (.getfield 34, 3) := by decide +kernel
theorem dX7_begin_32 : decode cX7_begin 32 = .ok (.bipush 40, 2) := by decide +kernel
theorem dX7_begin_34 : decode cX7_begin 34 = .ok (.if_icmp .lt 12, 3) := by decide +kernel
theorem dX7_begin_37 : decode cX7_begin 37 = .ok (.aload_n 0, 1) := by decide +kernel
theorem dX7_begin_38 : decode cX7_begin 38 = .ok (.aload_n 0, 1) := by decide +kernel
theorem dX7_begin_39 : decode cX7_begin 39 = .ok (.getfield 24, 3) := by decide +kernel
theorem dX7_begin_42 : decode cX7_begin 42 = .ok (.invokevirtual 66, 3) := by decide +kernel
theorem dX7_begin_45 : decode cX7_begin 45 = .ok (.ireturn, 1) := by decide +kernel
theorem dX7_begin_46 : decode cX7_begin 46 = .ok (.aload_n 0, 1) := by decide +kernel
theorem dX7_begin_47 : decode cX7_begin 47 = .ok (.getfield 15, 3) := by decide +kernel
theorem dX7_begin_50 : decode cX7_begin 50 = .ok (.iload_n 2, 1) := by decide +kernel
theorem dX7_begin_51 : decode cX7_begin 51 = .ok (.aload_n 0, 1) := by decide +kernel
theorem dX7_begin_52 : decode cX7_begin 52 = .ok (.getfield 24, 3) := by decide +kernel
theorem dX7_begin_55 : decode cX7_begin 55 = .ok (.aload_n 0, 1) := by decide +kernel
theorem dX7_begin_56 : decode cX7_begin 56 = .ok (.getfield 31, 3) := by decide +kernel
theorem dX7_begin_59 : decode cX7_begin 59 = .ok (.invokevirtual 110, 3) := by decide +kernel
theorem dX7_begin_62 : decode cX7_begin 62 = .ok (.istore_n 3, 1) := by decide +kernel
theorem dX7_begin_63 : decode cX7_begin 63 = .ok (.aload_n 0, 1) := by decide +kernel
theorem dX7_begin_64 : decode cX7_begin 64 = .ok (.getfield 15, 3) := by decide +kernel
theorem dX7_begin_67 : decode cX7_begin 67 = .ok (.getfield 113, 3) := by decide +kernel
theorem dX7_begin_70 : decode cX7_begin 70 = .ok (.iload_n 3, 1) := by decide +kernel
theorem dX7_begin_71 : decode cX7_begin 71 = .ok (.aload_n 0, 1) := by decide +kernel
theorem dX7_begin_72 : decode cX7_begin 72 = .ok (.getfield 91, 3) := by decide +kernel
theorem dX7_begin_75 : decode cX7_begin 75 = .ok (.iastore, 1) := by decide +kernel
theorem dX7_begin_76 : decode cX7_begin 76 = .ok (.aload_n 0, 1) := by decide +kernel
theorem dX7_begin_77 : decode cX7_begin 77 = .ok (.getfield 15, 3) := by decide +kernel
theorem dX7_begin_80 : decode cX7_begin 80 = .ok (.getfield 115, 3) := by decide +kernel
theorem dX7_begin_83 : decode cX7_begin 83 = .ok (.iload_n 3, 1) := by decide +kernel
theorem dX7_begin_84 : decode cX7_begin 84 = .ok (.aload_n 0, 1) := by decide +kernel
theorem dX7_begin_85 : decode cX7_begin 85 = .ok (.getfield 97, 3) := by decide +kernel
theorem dX7_begin_88 : decode cX7_begin 88 = .ok (.iastore, 1) := by decide +kernel
theorem dX7_begin_89 : decode cX7_begin 89 = .ok (.iload_n 2, 1) := by decide +kernel
theorem dX7_begin_90 : decode cX7_begin 90 = .ok (.iconst 5, 1) := by decide +kernel
theorem dX7_begin_91 : decode cX7_begin 91 = .ok (.if_icmp .lt 33, 3) := by decide +kernel
theorem dX7_begin_94 : decode cX7_begin 94 = .ok (.aload_n 0, 1) := by decide +kernel
theorem dX7_begin_95 : decode cX7_begin 95 = .ok (.iload_n 3, 1) := by decide +kernel
theorem dX7_begin_96 : decode cX7_begin 96 = .ok (.putfield 31, 3) := by decide +kernel
theorem dX7_begin_99 : decode cX7_begin 99 = .ok (.aload_n 0, 1) := by decide +kernel
theorem dX7_begin_100 : decode cX7_begin 100 = .ok (.dup, 1) := by decide +kernel
theorem dX7_begin_101 : decode cX7_begin 101 = .ok (.getfield 34, 3) := by decide +kernel
theorem dX7_begin_104 : decode cX7_begin 104 = .ok (.iconst 1, 1) := by decide +kernel
theorem dX7_begin_105 : decode cX7_begin 105 = .ok (.iadd, 1) := by decide +kernel
theorem dX7_begin_106 : decode cX7_begin 106 = .ok (.putfield 34, 3) := by decide +kernel
theorem dX7_begin_109 : decode cX7_begin 109 = .ok (.aload_n 0, 1) := by decide +kernel
theorem dX7_begin_110 : decode cX7_begin 110 = .ok (.iload_n 2, 1) := by decide +kernel
theorem dX7_begin_111 : decode cX7_begin 111 = .ok (.iconst 5, 1) := by decide +kernel
theorem dX7_begin_112 : decode cX7_begin 112 = .ok (.if_icmp .ne 7, 3) := by decide +kernel
theorem dX7_begin_115 : decode cX7_begin 115 = .ok (.iconst 1, 1) := by decide +kernel
theorem dX7_begin_116 : decode cX7_begin 116 = .ok (.goto 4, 3) := by decide +kernel
theorem dX7_begin_119 : decode cX7_begin 119 = .ok (.iconst 3, 1) := by decide +kernel
theorem dX7_begin_120 : decode cX7_begin 120 = .ok (.invokevirtual 63, 3) := by decide +kernel
theorem dX7_begin_123 : decode cX7_begin 123 = .ok (.ireturn, 1) := by decide +kernel
theorem dX7_begin_124 : decode cX7_begin 124 = .ok (.iload_n 2, 1) := by decide +kernel
theorem dX7_begin_125 : decode cX7_begin 125 = .ok (.tableswitch 73 0 3 #[31, 42, 53, 64], 31) := by decide +kernel
theorem dX7_begin_156 : decode cX7_begin 156 = .ok (.aload_n 0, 1) := by decide +kernel
theorem dX7_begin_157 : decode cX7_begin 157 = .ok (.ldc 117, 2) := by decide +kernel
theorem dX7_begin_159 : decode cX7_begin 159 = .ok (.invokevirtual 119, 3) := by decide +kernel
theorem dX7_begin_162 : decode cX7_begin 162 = .ok (.istore 4, 2) := by decide +kernel
theorem dX7_begin_164 : decode cX7_begin 164 = .ok (.goto 40, 3) := by decide +kernel
theorem dX7_begin_167 : decode cX7_begin 167 = .ok (.aload_n 0, 1) := by decide +kernel
theorem dX7_begin_168 : decode cX7_begin 168 = .ok (.ldc 123, 2) := by decide +kernel
theorem dX7_begin_170 : decode cX7_begin 170 = .ok (.invokevirtual 119, 3) := by decide +kernel
theorem dX7_begin_173 : decode cX7_begin 173 = .ok (.istore 4, 2) := by decide +kernel
theorem dX7_begin_175 : decode cX7_begin 175 = .ok (.goto 29, 3) := by decide +kernel
theorem dX7_begin_178 : decode cX7_begin 178 = .ok (.aload_n 0, 1) := by decide +kernel
theorem dX7_begin_179 : decode cX7_begin 179 = .ok (.ldc 125, 2) := by decide +kernel
theorem dX7_begin_181 : decode cX7_begin 181 = .ok (.invokevirtual 119, 3) := by decide +kernel
theorem dX7_begin_184 : decode cX7_begin 184 = .ok (.istore 4, 2) := by decide +kernel
theorem dX7_begin_186 : decode cX7_begin 186 = .ok (.goto 18, 3) := by decide +kernel
theorem dX7_begin_189 : decode cX7_begin 189 = .ok (.aload_n 0, 1) := by decide +kernel
theorem dX7_begin_190 : decode cX7_begin 190 = .ok (.invokevirtual 127, 3) := by decide +kernel
theorem dX7_begin_193 : decode cX7_begin 193 = .ok (.istore 4, 2) := by decide +kernel
theorem dX7_begin_195 : decode cX7_begin 195 = .ok (.goto 9, 3) := by decide +kernel
theorem dX7_begin_198 : decode cX7_begin 198 = .ok (.aload_n 0, 1) := by decide +kernel
theorem dX7_begin_199 : decode cX7_begin 199 = .ok (.invokevirtual 94, 3) := by decide +kernel
theorem dX7_begin_202 : decode cX7_begin 202 = .ok (.istore 4, 2) := by decide +kernel
theorem dX7_begin_204 : decode cX7_begin 204 = .ok (.aload_n 0, 1) := by decide +kernel
theorem dX7_begin_205 : decode cX7_begin 205 = .ok (.getfield 15, 3) := by decide +kernel
theorem dX7_begin_208 : decode cX7_begin 208 = .ok (.getfield 130, 3) := by decide +kernel
theorem dX7_begin_211 : decode cX7_begin 211 = .ok (.iload_n 3, 1) := by decide +kernel
theorem dX7_begin_212 : decode cX7_begin 212 = .ok (.aload_n 0, 1) := by decide +kernel
theorem dX7_begin_213 : decode cX7_begin 213 = .ok (.getfield 15, 3) := by decide +kernel
theorem dX7_begin_216 : decode cX7_begin 216 = .ok (.getfield 88, 3) := by decide +kernel
theorem dX7_begin_219 : decode cX7_begin 219 = .ok (.getfield 40, 3) := by decide +kernel
theorem dX7_begin_222 : decode cX7_begin 222 = .ok (.aload_n 0, 1) := by decide +kernel
theorem dX7_begin_223 : decode cX7_begin 223 = .ok (.getfield 15, 3) := by decide +kernel
theorem dX7_begin_226 : decode cX7_begin 226 = .ok (.getfield 133, 3) := by decide +kernel
theorem dX7_begin_229 : decode cX7_begin 229 = .ok (.iload_n 3, 1) := by decide +kernel
theorem dX7_begin_230 : decode cX7_begin 230 = .ok (.iaload, 1) := by decide +kernel
theorem dX7_begin_231 : decode cX7_begin 231 = .ok (.isub, 1) := by decide +kernel
theorem dX7_begin_232 : decode cX7_begin 232 = .ok (.iastore, 1) := by decide +kernel
theorem dX7_begin_233 : decode cX7_begin 233 = .ok (.aload_n 0, 1) := by decide +kernel
theorem dX7_begin_234 : decode cX7_begin 234 = .ok (.iconst 5, 1) := by decide +kernel
theorem dX7_begin_235 : decode cX7_begin 235 = .ok (.putfield 37, 3) := by decide +kernel
theorem dX7_begin_238 : decode cX7_begin 238 = .ok (.iload 4, 2) := by decide +kernel
theorem dX7_begin_240 : decode cX7_begin 240 = .ok (.ireturn, 1) := by decide +kernel
abbrev rmX7_begin : Room := { frames := 7, cells := 0, slots := 0, locals := 153 }
set_option maxHeartbeats 4000000 in
set_option maxRecDepth 100000 in
theorem wB_X7_begin_204 {G : mG} {F : Nat} {x : mXT} {sz : Nat} {r0 : Int32} {M0 : mM} (X : mCX G RX7 cX7_begin 5 (some .boolean) "begin" rmX7_begin x) (hQ : mQI x r0 M0 (sz, 0, 0)) {l0 : Nat} {l3 : Int32} {l4 : Int32} {M : mM} (h : B_X7_begin_204 G F l0 l3 l4 M = some (r0, M0)) : WW x (sz, 0, 0) M 204 [(0, .ref l0), (3, .int l3), (4, .int l4)] [] := by
  unfold B_X7_begin_204 at h
  refine ww_aload_n 204 X dX7_begin_204 0 rfl rfl ?_
  obtain ⟨v205, e205, h⟩ := bO_some h
  refine ww_getR 205 X dX7_begin_205 fG_X7_15 e205 ?_
  obtain ⟨v208, e208, h⟩ := bO_some h
  refine ww_getR 208 X dX7_begin_208 fG_X7_130 e208 ?_
  refine ww_iload_n 211 X dX7_begin_211 1 rfl rfl ?_
  refine ww_aload_n 212 X dX7_begin_212 0 rfl rfl ?_
  obtain ⟨v213, e213, h⟩ := bO_some h
  refine ww_getR 213 X dX7_begin_213 fG_X7_15 e213 ?_
  obtain ⟨v216, e216, h⟩ := bO_some h
  refine ww_getR 216 X dX7_begin_216 fG_X7_88 e216 ?_
  obtain ⟨v219, e219, h⟩ := bO_some h
  refine ww_getI 219 X dX7_begin_219 fG_X7_40 e219 ?_
  refine ww_aload_n 222 X dX7_begin_222 0 rfl rfl ?_
  obtain ⟨v223, e223, h⟩ := bO_some h
  refine ww_getR 223 X dX7_begin_223 fG_X7_15 e223 ?_
  obtain ⟨v226, e226, h⟩ := bO_some h
  refine ww_getR 226 X dX7_begin_226 fG_X7_133 e226 ?_
  refine ww_iload_n 229 X dX7_begin_229 1 rfl rfl ?_
  obtain ⟨v230, e230, h⟩ := bO_some h
  refine ww_iald 230 X dX7_begin_230 e230 ?_
  refine ww_isub 231 X dX7_begin_231 ?_
  obtain ⟨M232, e232, h⟩ := bO_some h
  refine ww_iast 232 X dX7_begin_232 e232 ?_
  refine ww_aload_n 233 X dX7_begin_233 0 rfl rfl ?_
  refine ww_iconst 234 X (v := (5 : Int32)) dX7_begin_234 (by decide) ?_
  obtain ⟨M235, e235, h⟩ := bO_some h
  refine ww_putI 235 X dX7_begin_235 (fP_X7_37 _) e235 ?_
  refine ww_iload 238 X dX7_begin_238 2 rfl ?_
  exact ww_zretE 240 X hQ dX7_begin_240 h
set_option maxHeartbeats 4000000 in
set_option maxRecDepth 100000 in
theorem wB_X7_begin_46 {G : mG} {F : Nat} {x : mXT} {sz : Nat} {r0 : Int32} {M0 : mM} (X : mCX G RX7 cX7_begin 5 (some .boolean) "begin" rmX7_begin x) (hQ : mQI x r0 M0 (sz, 0, 0)) {l0 : Nat} {l2 : Int32} {M : mM} (h : B_X7_begin_46 G F l0 l2 M = some (r0, M0)) : WW x (sz, 0, 0) M 46 [(0, .ref l0), (2, .int l2)] [] := by
  unfold B_X7_begin_46 at h
  refine ww_aload_n 46 X dX7_begin_46 0 rfl rfl ?_
  obtain ⟨v47, e47, h⟩ := bO_some h
  refine ww_getR 47 X dX7_begin_47 fG_X7_15 e47 ?_
  refine ww_iload_n 50 X dX7_begin_50 1 rfl rfl ?_
  refine ww_aload_n 51 X dX7_begin_51 0 rfl rfl ?_
  obtain ⟨v52, e52, h⟩ := bO_some h
  refine ww_getI 52 X dX7_begin_52 fG_X7_24 e52 ?_
  refine ww_aload_n 55 X dX7_begin_55 0 rfl rfl ?_
  obtain ⟨v56, e56, h⟩ := bO_some h
  refine ww_getI 56 X dX7_begin_56 fG_X7_31 e56 ?_
  obtain ⟨_, f59, h⟩ := bO_some h
  obtain ⟨v59, M59, e59, h⟩ := bP_some h
  refine ww_callVI0 59 X dX7_begin_59 mY_X9_begin mL_X7_110 (rcv_spec f59) ⟨_, _, rfl⟩ (by decide) (As := [.int l2, .int v52, .int v56]) (rest := []) rfl rfl ⟨Nat.le_of_ble_eq_true rfl, Nat.le_of_ble_eq_true rfl⟩ (Nat.le_of_ble_eq_true rfl) (fun l D A => c_X9_begin l D A e59) ?_
  refine ww_istore_n 62 X dX7_begin_62 (lv' := [(0, .ref l0), (2, .int l2), (3, .int v59)]) rfl (by decide) [1, 2, 0] rfl ?_
  refine ww_aload_n 63 X dX7_begin_63 0 rfl rfl ?_
  obtain ⟨v64, e64, h⟩ := bO_some h
  refine ww_getR 64 X dX7_begin_64 fG_X7_15 e64 ?_
  obtain ⟨v67, e67, h⟩ := bO_some h
  refine ww_getR 67 X dX7_begin_67 fG_X7_113 e67 ?_
  refine ww_iload_n 70 X dX7_begin_70 2 rfl rfl ?_
  refine ww_aload_n 71 X dX7_begin_71 0 rfl rfl ?_
  obtain ⟨v72, e72, h⟩ := bO_some h
  refine ww_getI 72 X dX7_begin_72 fG_X7_91 e72 ?_
  obtain ⟨M75, e75, h⟩ := bO_some h
  refine ww_iast 75 X dX7_begin_75 e75 ?_
  refine ww_aload_n 76 X dX7_begin_76 0 rfl rfl ?_
  obtain ⟨v77, e77, h⟩ := bO_some h
  refine ww_getR 77 X dX7_begin_77 fG_X7_15 e77 ?_
  obtain ⟨v80, e80, h⟩ := bO_some h
  refine ww_getR 80 X dX7_begin_80 fG_X7_115 e80 ?_
  refine ww_iload_n 83 X dX7_begin_83 2 rfl rfl ?_
  refine ww_aload_n 84 X dX7_begin_84 0 rfl rfl ?_
  obtain ⟨v85, e85, h⟩ := bO_some h
  refine ww_getI 85 X dX7_begin_85 fG_X7_97 e85 ?_
  obtain ⟨M88, e88, h⟩ := bO_some h
  refine ww_iast 88 X dX7_begin_88 e88 ?_
  refine ww_iload_n 89 X dX7_begin_89 1 rfl rfl ?_
  refine ww_iconst 90 X (v := (5 : Int32)) dX7_begin_90 (by decide) ?_
  refine ww_icmp_lt 91 124 X dX7_begin_91 (by decide) (fun q => ?_) (fun q => ?_)
  · replace h := (if_pos q).symm.trans h
    refine ww_iload_n 124 X dX7_begin_124 1 rfl rfl ?_
    by_cases q0 : l2 = (0 : Int32)
    · replace h := (if_pos q0).symm.trans h
      refine ww_tableIn 125 156 X dX7_begin_125 (off := 31) (by rw [q0]; decide) (by rw [q0]; decide) (by rw [q0]; decide) (by decide) ?_
      refine ww_aload_n 156 X dX7_begin_156 0 rfl rfl ?_
      refine ww_lds 157 X (j := 7) dX7_begin_157 rfl ?_
      obtain ⟨_, f159, h⟩ := bO_some h
      obtain ⟨v159, M159, e159, h⟩ := bP_some h
      refine ww_callVI0 159 X dX7_begin_159 mY_X7_word mL_X7_119 (rcv_spec f159) ⟨_, _, rfl⟩ (by decide) (As := [.ref (G.1 7)]) (rest := []) rfl rfl ⟨Nat.le_of_ble_eq_true rfl, Nat.le_of_ble_eq_true rfl⟩ (Nat.le_of_ble_eq_true rfl) (fun l D A => c_X7_word l D A e159) ?_
      refine ww_istore 162 X dX7_begin_162 (lv' := [(0, .ref l0), (2, .int l2), (3, .int v59), (4, .int v159)]) (by decide) [1, 2, 3, 0] rfl ?_
      refine ww_goto 164 204 X dX7_begin_164 (by decide) ?_
      exact ww_sub [0, 2, 3] rfl (wB_X7_begin_204 X hQ h)
    · replace h := (if_neg q0).symm.trans h
      by_cases q1 : l2 = (1 : Int32)
      · replace h := (if_pos q1).symm.trans h
        refine ww_tableIn 125 167 X dX7_begin_125 (off := 42) (by rw [q1]; decide) (by rw [q1]; decide) (by rw [q1]; decide) (by decide) ?_
        refine ww_aload_n 167 X dX7_begin_167 0 rfl rfl ?_
        refine ww_lds 168 X (j := 8) dX7_begin_168 rfl ?_
        obtain ⟨_, f170, h⟩ := bO_some h
        obtain ⟨v170, M170, e170, h⟩ := bP_some h
        refine ww_callVI0 170 X dX7_begin_170 mY_X7_word mL_X7_119 (rcv_spec f170) ⟨_, _, rfl⟩ (by decide) (As := [.ref (G.1 8)]) (rest := []) rfl rfl ⟨Nat.le_of_ble_eq_true rfl, Nat.le_of_ble_eq_true rfl⟩ (Nat.le_of_ble_eq_true rfl) (fun l D A => c_X7_word l D A e170) ?_
        refine ww_istore 173 X dX7_begin_173 (lv' := [(0, .ref l0), (2, .int l2), (3, .int v59), (4, .int v170)]) (by decide) [1, 2, 3, 0] rfl ?_
        refine ww_goto 175 204 X dX7_begin_175 (by decide) ?_
        exact ww_sub [0, 2, 3] rfl (wB_X7_begin_204 X hQ h)
      · replace h := (if_neg q1).symm.trans h
        by_cases q2 : l2 = (2 : Int32)
        · replace h := (if_pos q2).symm.trans h
          refine ww_tableIn 125 178 X dX7_begin_125 (off := 53) (by rw [q2]; decide) (by rw [q2]; decide) (by rw [q2]; decide) (by decide) ?_
          refine ww_aload_n 178 X dX7_begin_178 0 rfl rfl ?_
          refine ww_lds 179 X (j := 9) dX7_begin_179 rfl ?_
          obtain ⟨_, f181, h⟩ := bO_some h
          obtain ⟨v181, M181, e181, h⟩ := bP_some h
          refine ww_callVI0 181 X dX7_begin_181 mY_X7_word mL_X7_119 (rcv_spec f181) ⟨_, _, rfl⟩ (by decide) (As := [.ref (G.1 9)]) (rest := []) rfl rfl ⟨Nat.le_of_ble_eq_true rfl, Nat.le_of_ble_eq_true rfl⟩ (Nat.le_of_ble_eq_true rfl) (fun l D A => c_X7_word l D A e181) ?_
          refine ww_istore 184 X dX7_begin_184 (lv' := [(0, .ref l0), (2, .int l2), (3, .int v59), (4, .int v181)]) (by decide) [1, 2, 3, 0] rfl ?_
          refine ww_goto 186 204 X dX7_begin_186 (by decide) ?_
          exact ww_sub [0, 2, 3] rfl (wB_X7_begin_204 X hQ h)
        · replace h := (if_neg q2).symm.trans h
          by_cases q3 : l2 = (3 : Int32)
          · replace h := (if_pos q3).symm.trans h
            refine ww_tableIn 125 189 X dX7_begin_125 (off := 64) (by rw [q3]; decide) (by rw [q3]; decide) (by rw [q3]; decide) (by decide) ?_
            refine ww_aload_n 189 X dX7_begin_189 0 rfl rfl ?_
            obtain ⟨_, f190, h⟩ := bO_some h
            obtain ⟨v190, M190, e190, h⟩ := bP_some h
            refine ww_callVI0 190 X dX7_begin_190 mY_X7_number mL_X7_127 (rcv_spec f190) ⟨_, _, rfl⟩ (by decide) (As := []) (rest := []) rfl rfl ⟨Nat.le_of_ble_eq_true rfl, Nat.le_of_ble_eq_true rfl⟩ (Nat.le_of_ble_eq_true rfl) (fun l D A => c_X7_number l D A e190) ?_
            refine ww_istore 193 X dX7_begin_193 (lv' := [(0, .ref l0), (2, .int l2), (3, .int v59), (4, .int v190)]) (by decide) [1, 2, 3, 0] rfl ?_
            refine ww_goto 195 204 X dX7_begin_195 (by decide) ?_
            exact ww_sub [0, 2, 3] rfl (wB_X7_begin_204 X hQ h)
          · replace h := (if_neg q3).symm.trans h
            have z0 := lv_neT q0 (show (0 : Int32).toInt = 0 by decide)
            have z1 := lv_neT q1 (show (1 : Int32).toInt = 1 by decide)
            have z2 := lv_neT q2 (show (2 : Int32).toInt = 2 by decide)
            have z3 := lv_neT q3 (show (3 : Int32).toInt = 3 by decide)
            refine ww_tableOut 125 198 X dX7_begin_125 (by omega) (by decide) ?_
            refine ww_aload_n 198 X dX7_begin_198 0 rfl rfl ?_
            obtain ⟨_, f199, h⟩ := bO_some h
            obtain ⟨v199, M199, e199, h⟩ := bP_some h
            refine ww_callVI0 199 X dX7_begin_199 mY_X7_string mL_X7_94 (rcv_spec f199) ⟨_, _, rfl⟩ (by decide) (As := []) (rest := []) rfl rfl ⟨Nat.le_of_ble_eq_true rfl, Nat.le_of_ble_eq_true rfl⟩ (Nat.le_of_ble_eq_true rfl) (fun l D A => c_X7_string l D A e199) ?_
            refine ww_istore 202 X dX7_begin_202 (lv' := [(0, .ref l0), (2, .int l2), (3, .int v59), (4, .int v199)]) (by decide) [1, 2, 3, 0] rfl ?_
            exact ww_sub [0, 2, 3] rfl (wB_X7_begin_204 X hQ h)
  · replace h := (if_neg q).symm.trans h
    refine ww_aload_n 94 X dX7_begin_94 0 rfl rfl ?_
    refine ww_iload_n 95 X dX7_begin_95 2 rfl rfl ?_
    obtain ⟨M96, e96, h⟩ := bO_some h
    refine ww_putI 96 X dX7_begin_96 (fP_X7_31 _) e96 ?_
    refine ww_aload_n 99 X dX7_begin_99 0 rfl rfl ?_
    refine ww_dup 100 X dX7_begin_100 rfl ?_
    obtain ⟨v101, e101, h⟩ := bO_some h
    refine ww_getI 101 X dX7_begin_101 fG_X7_34 e101 ?_
    refine ww_iconst 104 X (v := (1 : Int32)) dX7_begin_104 (by decide) ?_
    refine ww_iadd 105 X dX7_begin_105 ?_
    obtain ⟨M106, e106, h⟩ := bO_some h
    refine ww_putI 106 X dX7_begin_106 (fP_X7_34 _) e106 ?_
    refine ww_aload_n 109 X dX7_begin_109 0 rfl rfl ?_
    refine ww_iload_n 110 X dX7_begin_110 1 rfl rfl ?_
    refine ww_iconst 111 X (v := (5 : Int32)) dX7_begin_111 (by decide) ?_
    refine ww_icmp_ne 112 119 X dX7_begin_112 (by decide) (fun q => ?_) (fun q => ?_)
    · replace h := (if_neg q).symm.trans h
      refine ww_iconst 119 X (v := (3 : Int32)) dX7_begin_119 (by decide) ?_
      obtain ⟨_, f120, h⟩ := bO_some h
      obtain ⟨v120, M120, e120, h⟩ := bP_some h
      refine ww_callVI0 120 X dX7_begin_120 mY_X7_goOn mL_X7_63 (rcv_spec f120) ⟨_, _, rfl⟩ (by decide) (As := [.int (3 : Int32)]) (rest := []) rfl rfl ⟨Nat.le_of_ble_eq_true rfl, Nat.le_of_ble_eq_true rfl⟩ (Nat.le_of_ble_eq_true rfl) (fun l D A => c_X7_goOn l D A e120) ?_
      exact ww_zretE 123 X hQ dX7_begin_123 h
    · replace h := (if_pos q).symm.trans h
      refine ww_iconst 115 X (v := (1 : Int32)) dX7_begin_115 (by decide) ?_
      refine ww_goto 116 120 X dX7_begin_116 (by decide) ?_
      obtain ⟨_, f120, h⟩ := bO_some h
      obtain ⟨v120, M120, e120, h⟩ := bP_some h
      refine ww_callVI0 120 X dX7_begin_120 mY_X7_goOn mL_X7_63 (rcv_spec f120) ⟨_, _, rfl⟩ (by decide) (As := [.int (1 : Int32)]) (rest := []) rfl rfl ⟨Nat.le_of_ble_eq_true rfl, Nat.le_of_ble_eq_true rfl⟩ (Nat.le_of_ble_eq_true rfl) (fun l D A => c_X7_goOn l D A e120) ?_
      exact ww_zretE 123 X hQ dX7_begin_123 h
set_option maxHeartbeats 4000000 in
set_option maxRecDepth 100000 in
theorem wP_X7_begin {G : mG} {F : Nat} {x : mXT} {sz : Nat} {r0 : Int32} {M0 : mM} (X : mCX G RX7 cX7_begin 5 (some .boolean) "begin" rmX7_begin x) (hQ : mQI x r0 M0 (sz, 0, 0)) {l0 : Nat} {l1 : Int32} {M : mM} (h : P_X7_begin G F l0 l1 M = some (r0, M0)) : WW x (sz, 0, 0) M 0 [(0, .ref l0), (1, .int l1)] [] := by
  unfold P_X7_begin at h
  refine ww_iload_n 0 X dX7_begin_0 1 rfl rfl ?_
  obtain ⟨v1, M1, e1, h⟩ := bP_some h
  refine ww_callSI0 1 X dX7_begin_1 mY_X7_kindBegunBy mL_X7_104 (As := [.int l1]) (rest := []) rfl rfl ⟨Nat.le_of_ble_eq_true rfl, Nat.le_of_ble_eq_true rfl⟩ (Nat.le_of_ble_eq_true rfl) (fun l D A => c_X7_kindBegunBy l D A e1) ?_
  refine ww_istore_n 4 X dX7_begin_4 (lv' := [(0, .ref l0), (1, .int l1), (2, .int v1)]) rfl (by decide) [1, 2, 0] rfl ?_
  refine ww_iload_n 5 X dX7_begin_5 2 rfl rfl ?_
  refine ww_iconst 6 X (v := (-1 : Int32)) dX7_begin_6 (by decide) ?_
  refine ww_icmp_eq 7 37 X dX7_begin_7 (by decide) (fun q => ?_) (fun q => ?_)
  · replace h := (if_pos q).symm.trans h
    refine ww_aload_n 37 X dX7_begin_37 0 rfl rfl ?_
    refine ww_aload_n 38 X dX7_begin_38 0 rfl rfl ?_
    obtain ⟨v39, e39, h⟩ := bO_some h
    refine ww_getI 39 X dX7_begin_39 fG_X7_24 e39 ?_
    obtain ⟨_, f42, h⟩ := bO_some h
    obtain ⟨v42, M42, e42, h⟩ := bP_some h
    refine ww_callVI0 42 X dX7_begin_42 mY_X7_wrong mL_X7_66 (rcv_spec f42) ⟨_, _, rfl⟩ (by decide) (As := [.int v39]) (rest := []) rfl rfl ⟨Nat.le_of_ble_eq_true rfl, Nat.le_of_ble_eq_true rfl⟩ (Nat.le_of_ble_eq_true rfl) (fun l D A => c_X7_wrong l D A e42) ?_
    exact ww_zretE 45 X hQ dX7_begin_45 h
  · replace h := (if_neg q).symm.trans h
    refine ww_aload_n 10 X dX7_begin_10 0 rfl rfl ?_
    obtain ⟨v11, e11, h⟩ := bO_some h
    refine ww_getR 11 X dX7_begin_11 fG_X7_15 e11 ?_
    obtain ⟨v14, e14, h⟩ := bO_some h
    refine ww_getI 14 X dX7_begin_14 fG_X7_107 e14 ?_
    refine ww_sipush 17 X (v := (600 : Int32)) dX7_begin_17 (by decide) ?_
    refine ww_icmp_ge 20 37 X dX7_begin_20 (by decide) (fun q => ?_) (fun q => ?_)
    · replace h := (if_pos q).symm.trans h
      refine ww_aload_n 37 X dX7_begin_37 0 rfl rfl ?_
      refine ww_aload_n 38 X dX7_begin_38 0 rfl rfl ?_
      obtain ⟨v39, e39, h⟩ := bO_some h
      refine ww_getI 39 X dX7_begin_39 fG_X7_24 e39 ?_
      obtain ⟨_, f42, h⟩ := bO_some h
      obtain ⟨v42, M42, e42, h⟩ := bP_some h
      refine ww_callVI0 42 X dX7_begin_42 mY_X7_wrong mL_X7_66 (rcv_spec f42) ⟨_, _, rfl⟩ (by decide) (As := [.int v39]) (rest := []) rfl rfl ⟨Nat.le_of_ble_eq_true rfl, Nat.le_of_ble_eq_true rfl⟩ (Nat.le_of_ble_eq_true rfl) (fun l D A => c_X7_wrong l D A e42) ?_
      exact ww_zretE 45 X hQ dX7_begin_45 h
    · replace h := (if_neg q).symm.trans h
      refine ww_iload_n 23 X dX7_begin_23 2 rfl rfl ?_
      refine ww_iconst 24 X (v := (5 : Int32)) dX7_begin_24 (by decide) ?_
      refine ww_icmp_lt 25 46 X dX7_begin_25 (by decide) (fun q => ?_) (fun q => ?_)
      · replace h := (if_pos q).symm.trans h
        exact ww_sub [0, 2] rfl (wB_X7_begin_46 X hQ h)
      · replace h := (if_neg q).symm.trans h
        refine ww_aload_n 28 X dX7_begin_28 0 rfl rfl ?_
        obtain ⟨v29, e29, h⟩ := bO_some h
        refine ww_getI 29 X dX7_begin_29 fG_X7_34 e29 ?_
        refine ww_bipush 32 X (v := (40 : Int32)) dX7_begin_32 (by decide) ?_
        refine ww_icmp_lt 34 46 X dX7_begin_34 (by decide) (fun q => ?_) (fun q => ?_)
        · replace h := (if_pos q).symm.trans h
          exact ww_sub [0, 2] rfl (wB_X7_begin_46 X hQ h)
        · replace h := (if_neg q).symm.trans h
          refine ww_aload_n 37 X dX7_begin_37 0 rfl rfl ?_
          refine ww_aload_n 38 X dX7_begin_38 0 rfl rfl ?_
          obtain ⟨v39, e39, h⟩ := bO_some h
          refine ww_getI 39 X dX7_begin_39 fG_X7_24 e39 ?_
          obtain ⟨_, f42, h⟩ := bO_some h
          obtain ⟨v42, M42, e42, h⟩ := bP_some h
          refine ww_callVI0 42 X dX7_begin_42 mY_X7_wrong mL_X7_66 (rcv_spec f42) ⟨_, _, rfl⟩ (by decide) (As := [.int v39]) (rest := []) rfl rfl ⟨Nat.le_of_ble_eq_true rfl, Nat.le_of_ble_eq_true rfl⟩ (Nat.le_of_ble_eq_true rfl) (fun l D A => c_X7_wrong l D A e42) ?_
          exact ww_zretE 45 X hQ dX7_begin_45 h
theorem c_X7_begin {G : mG} {F sz : Nat} {r0 : Int32} {M0 : mM} (l : Launch) (D : mD) (A : Nat → Prop) {l0 : Nat} {l1 : Int32} {M : mM} (h : P_X7_begin G F l0 l1 M = some (r0, M0)) : mMetI l D G A yX7_begin cX7_begin 5 (some .boolean) 7 153 0 0 [.ref l0, .int l1] M sz r0 M0 sz := mMetI_of l D G A (by decide) (Nat.le_of_ble_eq_true rfl) (fun x X hQ => wP_X7_begin X hQ h)
