/-! SealedTokensModel.sumMark([BI[BII[BII)V -/
theorem dX13_sumMark_0 : decode cX13_sumMark 0 = .ok (.iconst 0, 1) := by decide +kernel
theorem dX13_sumMark_1 : decode cX13_sumMark 1 = .ok (.istore 9, 2) := by decide +kernel
theorem dX13_sumMark_3 : decode cX13_sumMark 3 = .ok (.iload 9, 2) := by decide +kernel
theorem dX13_sumMark_5 : decode cX13_sumMark 5 = .ok (.bipush 16, 2) := by decide +kernel
theorem dX13_sumMark_7 : decode cX13_sumMark 7 = .ok (.if_icmp .ge 17, 3) := by decide +kernel
theorem dX13_sumMark_10 : decode cX13_sumMark 10 = .ok (.aload_n 0, 1) := by decide +kernel
theorem dX13_sumMark_11 : decode cX13_sumMark 11 = .ok (.getfield 98, 3) := by decide +kernel
theorem dX13_sumMark_14 : decode cX13_sumMark 14 = .ok (.iload 9, 2) := by decide +kernel
theorem dX13_sumMark_16 : decode cX13_sumMark 16 = .ok (.iconst 0, 1) := by decide +kernel
theorem dX13_sumMark_17 : decode cX13_sumMark 17 = .ok (.iastore, 1) := by decide +kernel
theorem dX13_sumMark_18 : decode cX13_sumMark 18 = .ok (.iinc 9 1, 3) := by decide +kernel
theorem dX13_sumMark_21 : decode cX13_sumMark 21 = .ok (.goto (-18), 3) := by decide +kernel
theorem dX13_sumMark_24 : decode cX13_sumMark 24 = .ok (.aload_n 0, 1) := by decide +kernel
theorem dX13_sumMark_25 : decode cX13_sumMark 25 = .ok (.invokevirtual 611, 3) := by decide +kernel
theorem dX13_sumMark_28 : decode cX13_sumMark 28 = .ok (.aload_n 0, 1) := by decide +kernel
theorem dX13_sumMark_29 : decode cX13_sumMark 29 = .ok (.aload_n 0, 1) := by decide +kernel
theorem dX13_sumMark_30 : decode cX13_sumMark 30 = .ok (.getfield 104, 3) := by decide +kernel
theorem dX13_sumMark_33 : decode cX13_sumMark 33 = .ok (.iconst 0, 1) := by decide +kernel
theorem dX13_sumMark_34 : decode cX13_sumMark 34 = .ok (.invokevirtual 614, 3) := by decide +kernel
theorem dX13_sumMark_37 : decode cX13_sumMark 37 = .ok (.aload_n 0, 1) := by decide +kernel
theorem dX13_sumMark_38 : decode cX13_sumMark 38 = .ok (.aload_n 0, 1) := by decide +kernel
theorem dX13_sumMark_39 : decode cX13_sumMark 39 = .ok (.getfield 104, 3) := by decide +kernel
theorem dX13_sumMark_42 : decode cX13_sumMark 42 = .ok (.iconst 0, 1) := by decide +kernel
theorem dX13_sumMark_43 : decode cX13_sumMark 43 = .ok (.bipush 8, 2) := by decide +kernel
theorem dX13_sumMark_45 : decode cX13_sumMark 45 = .ok (.invokestatic 528, 3) := by decide +kernel
theorem dX13_sumMark_48 : decode cX13_sumMark 48 = .ok (.putfield 642, 3) := by decide +kernel
theorem dX13_sumMark_51 : decode cX13_sumMark 51 = .ok (.aload_n 0, 1) := by decide +kernel
theorem dX13_sumMark_52 : decode cX13_sumMark 52 = .ok (.aload_n 0, 1) := by decide +kernel
theorem dX13_sumMark_53 : decode cX13_sumMark 53 = .ok (.getfield 104, 3) := by decide +kernel
theorem dX13_sumMark_56 : decode cX13_sumMark 56 = .ok (.bipush 8, 2) := by decide +kernel
theorem dX13_sumMark_58 : decode cX13_sumMark 58 = .ok (.bipush 8, 2) := by decide +kernel
theorem dX13_sumMark_60 : decode cX13_sumMark 60 = .ok (.invokestatic 528, 3) := by decide +kernel
theorem dX13_sumMark_63 : decode cX13_sumMark 63 = .ok (.putfield 645, 3) := by decide +kernel
theorem dX13_sumMark_66 : decode cX13_sumMark 66 = .ok (.aload_n 0, 1) := by decide +kernel
theorem dX13_sumMark_67 : decode cX13_sumMark 67 = .ok (.lconst 0, 1) := by decide +kernel
theorem dX13_sumMark_68 : decode cX13_sumMark 68 = .ok (.putfield 635, 3) := by decide +kernel
theorem dX13_sumMark_71 : decode cX13_sumMark 71 = .ok (.aload_n 0, 1) := by decide +kernel
theorem dX13_sumMark_72 : decode cX13_sumMark 72 = .ok (.lconst 0, 1) := by decide +kernel
theorem dX13_sumMark_73 : decode cX13_sumMark 73 = .ok (.putfield 639, 3) := by decide +kernel
theorem dX13_sumMark_76 : decode cX13_sumMark 76 = .ok (.aload_n 0, 1) := by decide +kernel
theorem dX13_sumMark_77 : decode cX13_sumMark 77 = .ok (.aload_n 3, 1) := by decide +kernel
theorem dX13_sumMark_78 : decode cX13_sumMark 78 = .ok (.iload 4, 2) := by decide +kernel
theorem dX13_sumMark_80 : decode cX13_sumMark 80 = .ok (.iload 5, 2) := by decide +kernel
theorem dX13_sumMark_82 : decode cX13_sumMark 82 = .ok (.invokevirtual 653, 3) := by decide +kernel
theorem dX13_sumMark_85 : decode cX13_sumMark 85 = .ok (.aload_n 0, 1) := by decide +kernel
theorem dX13_sumMark_86 : decode cX13_sumMark 86 = .ok (.aload 6, 2) := by decide +kernel
theorem dX13_sumMark_88 : decode cX13_sumMark 88 = .ok (.iload 7, 2) := by decide +kernel
theorem dX13_sumMark_90 : decode cX13_sumMark 90 = .ok (.iload 8, 2) := by decide +kernel
theorem dX13_sumMark_92 : decode cX13_sumMark 92 = .ok (.invokevirtual 653, 3) := by decide +kernel
theorem dX13_sumMark_95 : decode cX13_sumMark 95 = .ok (.aload_n 0, 1) := by decide +kernel
theorem dX13_sumMark_96 : decode cX13_sumMark 96 = .ok (.getfield 104, 3) := by decide +kernel
theorem dX13_sumMark_99 : decode cX13_sumMark 99 = .ok (.iconst 0, 1) := by decide +kernel
theorem dX13_sumMark_100 : decode cX13_sumMark 100 = .ok (.bipush 8, 2) := by decide +kernel
theorem dX13_sumMark_102 : decode cX13_sumMark 102 = .ok (.ldc2_w 510, 3) := by decide +kernel
theorem dX13_sumMark_105 : decode cX13_sumMark 105 = .ok (.iload 5, 2) := by decide +kernel
theorem dX13_sumMark_107 : decode cX13_sumMark 107 = .ok (.i2l, 1) := by decide +kernel
theorem dX13_sumMark_108 : decode cX13_sumMark 108 = .ok (.lmul, 1) := by decide +kernel
theorem dX13_sumMark_109 : decode cX13_sumMark 109 = .ok (.invokestatic 328, 3) := by decide +kernel
theorem dX13_sumMark_112 : decode cX13_sumMark 112 = .ok (.aload_n 0, 1) := by decide +kernel
theorem dX13_sumMark_113 : decode cX13_sumMark 113 = .ok (.getfield 104, 3) := by decide +kernel
theorem dX13_sumMark_116 : decode cX13_sumMark 116 = .ok (.bipush 8, 2) := by decide +kernel
theorem dX13_sumMark_118 : decode cX13_sumMark 118 = .ok (.bipush 8, 2) := by decide +kernel
theorem dX13_sumMark_120 : decode cX13_sumMark 120 = .ok (.ldc2_w 510, 3) := by decide +kernel
theorem dX13_sumMark_123 : decode cX13_sumMark 123 = .ok (.iload 8, 2) := by decide +kernel
theorem dX13_sumMark_125 : decode cX13_sumMark 125 = .ok (.i2l, 1) := by decide +kernel
theorem dX13_sumMark_126 : decode cX13_sumMark 126 = .ok (.lmul, 1) := by decide +kernel
theorem dX13_sumMark_127 : decode cX13_sumMark 127 = .ok (.invokestatic 328, 3) := by decide +kernel
theorem dX13_sumMark_130 : decode cX13_sumMark 130 = .ok (.aload_n 0, 1) := by decide +kernel
theorem dX13_sumMark_131 : decode cX13_sumMark 131 = .ok (.aload_n 0, 1) := by decide +kernel
theorem dX13_sumMark_132 : decode cX13_sumMark 132 = .ok (.getfield 104, 3) := by decide +kernel
theorem dX13_sumMark_135 : decode cX13_sumMark 135 = .ok (.iconst 0, 1) := by decide +kernel
theorem dX13_sumMark_136 : decode cX13_sumMark 136 = .ok (.bipush 16, 2) := by decide +kernel
theorem dX13_sumMark_138 : decode cX13_sumMark 138 = .ok (.invokevirtual 650, 3) := by decide +kernel
theorem dX13_sumMark_141 : decode cX13_sumMark 141 = .ok (.aload_n 0, 1) := by decide +kernel
theorem dX13_sumMark_142 : decode cX13_sumMark 142 = .ok (.aload_n 1, 1) := by decide +kernel
theorem dX13_sumMark_143 : decode cX13_sumMark 143 = .ok (.iload_n 2, 1) := by decide +kernel
theorem dX13_sumMark_144 : decode cX13_sumMark 144 = .ok (.iconst 1, 1) := by decide +kernel
theorem dX13_sumMark_145 : decode cX13_sumMark 145 = .ok (.invokevirtual 656, 3) := by decide +kernel
theorem dX13_sumMark_148 : decode cX13_sumMark 148 = .ok (.aload_n 0, 1) := by decide +kernel
theorem dX13_sumMark_149 : decode cX13_sumMark 149 = .ok (.aload_n 0, 1) := by decide +kernel
theorem dX13_sumMark_150 : decode cX13_sumMark 150 = .ok (.getfield 116, 3) := by decide +kernel
theorem dX13_sumMark_153 : decode cX13_sumMark 153 = .ok (.iconst 0, 1) := by decide +kernel
theorem dX13_sumMark_154 : decode cX13_sumMark 154 = .ok (.invokevirtual 604, 3) := by decide +kernel
theorem dX13_sumMark_157 : decode cX13_sumMark 157 = .ok (.aload_n 0, 1) := by decide +kernel
theorem dX13_sumMark_158 : decode cX13_sumMark 158 = .ok (.invokevirtual 611, 3) := by decide +kernel
theorem dX13_sumMark_161 : decode cX13_sumMark 161 = .ok (.aload_n 0, 1) := by decide +kernel
theorem dX13_sumMark_162 : decode cX13_sumMark 162 = .ok (.aload_n 0, 1) := by decide +kernel
theorem dX13_sumMark_163 : decode cX13_sumMark 163 = .ok (.getfield 104, 3) := by decide +kernel
theorem dX13_sumMark_166 : decode cX13_sumMark 166 = .ok (.iconst 0, 1) := by decide +kernel
theorem dX13_sumMark_167 : decode cX13_sumMark 167 = .ok (.invokevirtual 614, 3) := by decide +kernel
theorem dX13_sumMark_170 : decode cX13_sumMark 170 = .ok (.aload_n 0, 1) := by decide +kernel
theorem dX13_sumMark_171 : decode cX13_sumMark 171 = .ok (.getfield 113, 3) := by decide +kernel
theorem dX13_sumMark_174 : decode cX13_sumMark 174 = .ok (.iconst 0, 1) := by decide +kernel
theorem dX13_sumMark_175 : decode cX13_sumMark 175 = .ok (.bipush 8, 2) := by decide +kernel
theorem dX13_sumMark_177 : decode cX13_sumMark 177 = .ok (.aload_n 0, 1) := by decide +kernel
theorem dX13_sumMark_178 : decode cX13_sumMark 178 = .ok (.getfield 104, 3) := by decide +kernel
theorem dX13_sumMark_181 : decode cX13_sumMark 181 = .ok (.iconst 0, 1) := by decide +kernel
theorem dX13_sumMark_182 : decode cX13_sumMark 182 = .ok (.bipush 8, 2) := by decide +kernel
theorem dX13_sumMark_184 : decode cX13_sumMark 184 = .ok (.invokestatic 528, 3) := by decide +kernel
theorem dX13_sumMark_187 : decode cX13_sumMark 187 = .ok (.aload_n 0, 1) := by decide +kernel
theorem dX13_sumMark_188 : decode cX13_sumMark 188 = .ok (.getfield 635, 3) := by decide +kernel
theorem dX13_sumMark_191 : decode cX13_sumMark 191 = .ok (.lxor, 1) := by decide +kernel
theorem dX13_sumMark_192 : decode cX13_sumMark 192 = .ok (.invokestatic 328, 3) := by decide +kernel
theorem dX13_sumMark_195 : decode cX13_sumMark 195 = .ok (.aload_n 0, 1) := by decide +kernel
theorem dX13_sumMark_196 : decode cX13_sumMark 196 = .ok (.getfield 113, 3) := by decide +kernel
theorem dX13_sumMark_199 : decode cX13_sumMark 199 = .ok (.bipush 8, 2) := by decide +kernel
theorem dX13_sumMark_201 : decode cX13_sumMark 201 = .ok (.bipush 8, 2) := by decide +kernel
theorem dX13_sumMark_203 : decode cX13_sumMark 203 = .ok (.aload_n 0, 1) := by decide +kernel
theorem dX13_sumMark_204 : decode cX13_sumMark 204 = .ok (.getfield 104, 3) := by decide +kernel
theorem dX13_sumMark_207 : decode cX13_sumMark 207 = .ok (.bipush 8, 2) := by decide +kernel
theorem dX13_sumMark_209 : decode cX13_sumMark 209 = .ok (.bipush 8, 2) := by decide +kernel
theorem dX13_sumMark_211 : decode cX13_sumMark 211 = .ok (.invokestatic 528, 3) := by decide +kernel
theorem dX13_sumMark_214 : decode cX13_sumMark 214 = .ok (.aload_n 0, 1) := by decide +kernel
theorem dX13_sumMark_215 : decode cX13_sumMark 215 = .ok (.getfield 639, 3) := by decide +kernel
theorem dX13_sumMark_218 : decode cX13_sumMark 218 = .ok (.lxor, 1) := by decide +kernel
theorem dX13_sumMark_219 : decode cX13_sumMark 219 = .ok (.invokestatic 328, 3) := by decide +kernel
theorem dX13_sumMark_222 : decode cX13_sumMark 222 = .ok (.return_, 1) := by decide +kernel
abbrev rmX13_sumMark : Room := { frames := 2, cells := 0, slots := 0, locals := 62 }
set_option maxHeartbeats 4000000 in
set_option maxRecDepth 100000 in
theorem wB_X13_sumMark_3 {G : mG} {F : Nat} {x : mXT} {sz : Nat} {M0 : mM} (X : mCX G RX13 cX13_sumMark 10 none "sumMark" rmX13_sumMark x) (hQ : mQV x M0 (sz, 0, 0)) : ∀ (n : Nat) (l0 : Nat) (l1 : Nat) (l2 : Int32) (l3 : Nat) (l4 : Int32) (l5 : Int32) (l6 : Nat) (l7 : Int32) (l8 : Int32) (l9 : Int32) (M : mM), B_X13_sumMark_3 G F n l0 l1 l2 l3 l4 l5 l6 l7 l8 l9 M = some M0 → WW x (sz, 0, 0) M 3 [(0, .ref l0), (1, .ref l1), (2, .int l2), (3, .ref l3), (4, .int l4), (5, .int l5), (6, .ref l6), (7, .int l7), (8, .int l8), (9, .int l9)] [] := by
  intro n
  induction n with
  | zero =>
    intro l0 l1 l2 l3 l4 l5 l6 l7 l8 l9 M h
    exact nomatch (show (none : Option mM) = some M0 from h)
  | succ n ih =>
    intro l0 l1 l2 l3 l4 l5 l6 l7 l8 l9 M h
    rw [B_X13_sumMark_3] at h
    refine ww_iload 3 X dX13_sumMark_3 9 rfl ?_
    refine ww_bipush 5 X (v := (16 : Int32)) dX13_sumMark_5 (by decide) ?_
    refine ww_icmp_ge 7 24 X dX13_sumMark_7 (by decide) (fun q => ?_) (fun q => ?_)
    · replace h := (if_pos q).symm.trans h
      refine ww_aload_n 24 X dX13_sumMark_24 0 rfl rfl ?_
      obtain ⟨_, f25, h⟩ := bO_some h
      obtain ⟨M25, e25, h⟩ := bO_some h
      refine ww_callVV0 25 X dX13_sumMark_25 mY_X13_forth mL_X13_611 (rcv_spec f25) ⟨_, _, rfl⟩ (by decide) (As := []) (rest := []) rfl rfl ⟨Nat.le_of_ble_eq_true rfl, Nat.le_of_ble_eq_true rfl⟩ (Nat.le_of_ble_eq_true rfl) (fun l D A => c_X13_forth l D A e25) ?_
      refine ww_aload_n 28 X dX13_sumMark_28 0 rfl rfl ?_
      refine ww_aload_n 29 X dX13_sumMark_29 0 rfl rfl ?_
      obtain ⟨v30, e30, h⟩ := bO_some h
      refine ww_getR 30 X dX13_sumMark_30 fG_X13_104 e30 ?_
      refine ww_iconst 33 X (v := (0 : Int32)) dX13_sumMark_33 (by decide) ?_
      obtain ⟨_, f34, h⟩ := bO_some h
      obtain ⟨M34, e34, h⟩ := bO_some h
      refine ww_callVV0 34 X dX13_sumMark_34 mY_X13_getCells mL_X13_614 (rcv_spec f34) ⟨_, _, rfl⟩ (by decide) (As := [.ref v30, .int (0 : Int32)]) (rest := []) rfl rfl ⟨Nat.le_of_ble_eq_true rfl, Nat.le_of_ble_eq_true rfl⟩ (Nat.le_of_ble_eq_true rfl) (fun l D A => c_X13_getCells l D A e34) ?_
      refine ww_aload_n 37 X dX13_sumMark_37 0 rfl rfl ?_
      refine ww_aload_n 38 X dX13_sumMark_38 0 rfl rfl ?_
      obtain ⟨v39, e39, h⟩ := bO_some h
      refine ww_getR 39 X dX13_sumMark_39 fG_X13_104 e39 ?_
      refine ww_iconst 42 X (v := (0 : Int32)) dX13_sumMark_42 (by decide) ?_
      refine ww_bipush 43 X (v := (8 : Int32)) dX13_sumMark_43 (by decide) ?_
      obtain ⟨v45, M45, e45, h⟩ := bP_some h
      refine ww_callSL0 45 X dX13_sumMark_45 mY_X13_longAt mL_X13_528 (As := [.ref v39, .int (0 : Int32), .int (8 : Int32)]) (rest := [.ref l0]) rfl rfl ⟨Nat.le_of_ble_eq_true rfl, Nat.le_of_ble_eq_true rfl⟩ (Nat.le_of_ble_eq_true rfl) (fun l D A => c_X13_longAt l D A e45) ?_
      obtain ⟨M48, e48, h⟩ := bO_some h
      refine ww_putL 48 X dX13_sumMark_48 (fP_X13_642 _) e48 ?_
      refine ww_aload_n 51 X dX13_sumMark_51 0 rfl rfl ?_
      refine ww_aload_n 52 X dX13_sumMark_52 0 rfl rfl ?_
      obtain ⟨v53, e53, h⟩ := bO_some h
      refine ww_getR 53 X dX13_sumMark_53 fG_X13_104 e53 ?_
      refine ww_bipush 56 X (v := (8 : Int32)) dX13_sumMark_56 (by decide) ?_
      refine ww_bipush 58 X (v := (8 : Int32)) dX13_sumMark_58 (by decide) ?_
      obtain ⟨v60, M60, e60, h⟩ := bP_some h
      refine ww_callSL0 60 X dX13_sumMark_60 mY_X13_longAt mL_X13_528 (As := [.ref v53, .int (8 : Int32), .int (8 : Int32)]) (rest := [.ref l0]) rfl rfl ⟨Nat.le_of_ble_eq_true rfl, Nat.le_of_ble_eq_true rfl⟩ (Nat.le_of_ble_eq_true rfl) (fun l D A => c_X13_longAt l D A e60) ?_
      obtain ⟨M63, e63, h⟩ := bO_some h
      refine ww_putL 63 X dX13_sumMark_63 (fP_X13_645 _) e63 ?_
      refine ww_aload_n 66 X dX13_sumMark_66 0 rfl rfl ?_
      refine ww_lconst 67 X (v := (0 : Int64)) dX13_sumMark_67 (by decide) ?_
      obtain ⟨M68, e68, h⟩ := bO_some h
      refine ww_putL 68 X dX13_sumMark_68 (fP_X13_635 _) e68 ?_
      refine ww_aload_n 71 X dX13_sumMark_71 0 rfl rfl ?_
      refine ww_lconst 72 X (v := (0 : Int64)) dX13_sumMark_72 (by decide) ?_
      obtain ⟨M73, e73, h⟩ := bO_some h
      refine ww_putL 73 X dX13_sumMark_73 (fP_X13_639 _) e73 ?_
      refine ww_aload_n 76 X dX13_sumMark_76 0 rfl rfl ?_
      refine ww_aload_n 77 X dX13_sumMark_77 3 rfl rfl ?_
      refine ww_iload 78 X dX13_sumMark_78 4 rfl ?_
      refine ww_iload 80 X dX13_sumMark_80 5 rfl ?_
      obtain ⟨_, f82, h⟩ := bO_some h
      obtain ⟨M82, e82, h⟩ := bO_some h
      refine ww_callVV0 82 X dX13_sumMark_82 mY_X13_gatherAll mL_X13_653 (rcv_spec f82) ⟨_, _, rfl⟩ (by decide) (As := [.ref l3, .int l4, .int l5]) (rest := []) rfl rfl ⟨Nat.le_of_ble_eq_true rfl, Nat.le_of_ble_eq_true rfl⟩ (Nat.le_of_ble_eq_true rfl) (fun l D A => c_X13_gatherAll l D A e82) ?_
      refine ww_aload_n 85 X dX13_sumMark_85 0 rfl rfl ?_
      refine ww_aload 86 X dX13_sumMark_86 6 rfl ?_
      refine ww_iload 88 X dX13_sumMark_88 7 rfl ?_
      refine ww_iload 90 X dX13_sumMark_90 8 rfl ?_
      obtain ⟨_, f92, h⟩ := bO_some h
      obtain ⟨M92, e92, h⟩ := bO_some h
      refine ww_callVV0 92 X dX13_sumMark_92 mY_X13_gatherAll mL_X13_653 (rcv_spec f92) ⟨_, _, rfl⟩ (by decide) (As := [.ref l6, .int l7, .int l8]) (rest := []) rfl rfl ⟨Nat.le_of_ble_eq_true rfl, Nat.le_of_ble_eq_true rfl⟩ (Nat.le_of_ble_eq_true rfl) (fun l D A => c_X13_gatherAll l D A e92) ?_
      refine ww_aload_n 95 X dX13_sumMark_95 0 rfl rfl ?_
      obtain ⟨v96, e96, h⟩ := bO_some h
      refine ww_getR 96 X dX13_sumMark_96 fG_X13_104 e96 ?_
      refine ww_iconst 99 X (v := (0 : Int32)) dX13_sumMark_99 (by decide) ?_
      refine ww_bipush 100 X (v := (8 : Int32)) dX13_sumMark_100 (by decide) ?_
      refine ww_ldc2 102 X (v := (8 : Int64)) dX13_sumMark_102 kL_X13_510 ?_
      refine ww_iload 105 X dX13_sumMark_105 5 rfl ?_
      refine ww_i2l 107 X dX13_sumMark_107 ?_
      refine ww_lmul 108 X dX13_sumMark_108 ?_
      obtain ⟨M109, e109, h⟩ := bO_some h
      refine ww_callSV0 109 X dX13_sumMark_109 mY_X13_put mL_X13_328 (As := [.ref v96, .int (0 : Int32), .int (8 : Int32), .long ((8 : Int64) * (l5.toInt64))]) (rest := []) rfl rfl ⟨Nat.le_of_ble_eq_true rfl, Nat.le_of_ble_eq_true rfl⟩ (Nat.le_of_ble_eq_true rfl) (fun l D A => c_X13_put l D A e109) ?_
      refine ww_aload_n 112 X dX13_sumMark_112 0 rfl rfl ?_
      obtain ⟨v113, e113, h⟩ := bO_some h
      refine ww_getR 113 X dX13_sumMark_113 fG_X13_104 e113 ?_
      refine ww_bipush 116 X (v := (8 : Int32)) dX13_sumMark_116 (by decide) ?_
      refine ww_bipush 118 X (v := (8 : Int32)) dX13_sumMark_118 (by decide) ?_
      refine ww_ldc2 120 X (v := (8 : Int64)) dX13_sumMark_120 kL_X13_510 ?_
      refine ww_iload 123 X dX13_sumMark_123 8 rfl ?_
      refine ww_i2l 125 X dX13_sumMark_125 ?_
      refine ww_lmul 126 X dX13_sumMark_126 ?_
      obtain ⟨M127, e127, h⟩ := bO_some h
      refine ww_callSV0 127 X dX13_sumMark_127 mY_X13_put mL_X13_328 (As := [.ref v113, .int (8 : Int32), .int (8 : Int32), .long ((8 : Int64) * (l8.toInt64))]) (rest := []) rfl rfl ⟨Nat.le_of_ble_eq_true rfl, Nat.le_of_ble_eq_true rfl⟩ (Nat.le_of_ble_eq_true rfl) (fun l D A => c_X13_put l D A e127) ?_
      refine ww_aload_n 130 X dX13_sumMark_130 0 rfl rfl ?_
      refine ww_aload_n 131 X dX13_sumMark_131 0 rfl rfl ?_
      obtain ⟨v132, e132, h⟩ := bO_some h
      refine ww_getR 132 X dX13_sumMark_132 fG_X13_104 e132 ?_
      refine ww_iconst 135 X (v := (0 : Int32)) dX13_sumMark_135 (by decide) ?_
      refine ww_bipush 136 X (v := (16 : Int32)) dX13_sumMark_136 (by decide) ?_
      obtain ⟨_, f138, h⟩ := bO_some h
      obtain ⟨M138, e138, h⟩ := bO_some h
      refine ww_callVV0 138 X dX13_sumMark_138 mY_X13_gather mL_X13_650 (rcv_spec f138) ⟨_, _, rfl⟩ (by decide) (As := [.ref v132, .int (0 : Int32), .int (16 : Int32)]) (rest := []) rfl rfl ⟨Nat.le_of_ble_eq_true rfl, Nat.le_of_ble_eq_true rfl⟩ (Nat.le_of_ble_eq_true rfl) (fun l D A => c_X13_gather l D A e138) ?_
      refine ww_aload_n 141 X dX13_sumMark_141 0 rfl rfl ?_
      refine ww_aload_n 142 X dX13_sumMark_142 1 rfl rfl ?_
      refine ww_iload_n 143 X dX13_sumMark_143 2 rfl rfl ?_
      refine ww_iconst 144 X (v := (1 : Int32)) dX13_sumMark_144 (by decide) ?_
      obtain ⟨_, f145, h⟩ := bO_some h
      obtain ⟨M145, e145, h⟩ := bO_some h
      refine ww_callVV0 145 X dX13_sumMark_145 mY_X13_setCounter mL_X13_656 (rcv_spec f145) ⟨_, _, rfl⟩ (by decide) (As := [.ref l1, .int l2, .int (1 : Int32)]) (rest := []) rfl rfl ⟨Nat.le_of_ble_eq_true rfl, Nat.le_of_ble_eq_true rfl⟩ (Nat.le_of_ble_eq_true rfl) (fun l D A => c_X13_setCounter l D A e145) ?_
      refine ww_aload_n 148 X dX13_sumMark_148 0 rfl rfl ?_
      refine ww_aload_n 149 X dX13_sumMark_149 0 rfl rfl ?_
      obtain ⟨v150, e150, h⟩ := bO_some h
      refine ww_getR 150 X dX13_sumMark_150 fG_X13_116 e150 ?_
      refine ww_iconst 153 X (v := (0 : Int32)) dX13_sumMark_153 (by decide) ?_
      obtain ⟨_, f154, h⟩ := bO_some h
      obtain ⟨M154, e154, h⟩ := bO_some h
      refine ww_callVV0 154 X dX13_sumMark_154 mY_X13_setCells mL_X13_604 (rcv_spec f154) ⟨_, _, rfl⟩ (by decide) (As := [.ref v150, .int (0 : Int32)]) (rest := []) rfl rfl ⟨Nat.le_of_ble_eq_true rfl, Nat.le_of_ble_eq_true rfl⟩ (Nat.le_of_ble_eq_true rfl) (fun l D A => c_X13_setCells l D A e154) ?_
      refine ww_aload_n 157 X dX13_sumMark_157 0 rfl rfl ?_
      obtain ⟨_, f158, h⟩ := bO_some h
      obtain ⟨M158, e158, h⟩ := bO_some h
      refine ww_callVV0 158 X dX13_sumMark_158 mY_X13_forth mL_X13_611 (rcv_spec f158) ⟨_, _, rfl⟩ (by decide) (As := []) (rest := []) rfl rfl ⟨Nat.le_of_ble_eq_true rfl, Nat.le_of_ble_eq_true rfl⟩ (Nat.le_of_ble_eq_true rfl) (fun l D A => c_X13_forth l D A e158) ?_
      refine ww_aload_n 161 X dX13_sumMark_161 0 rfl rfl ?_
      refine ww_aload_n 162 X dX13_sumMark_162 0 rfl rfl ?_
      obtain ⟨v163, e163, h⟩ := bO_some h
      refine ww_getR 163 X dX13_sumMark_163 fG_X13_104 e163 ?_
      refine ww_iconst 166 X (v := (0 : Int32)) dX13_sumMark_166 (by decide) ?_
      obtain ⟨_, f167, h⟩ := bO_some h
      obtain ⟨M167, e167, h⟩ := bO_some h
      refine ww_callVV0 167 X dX13_sumMark_167 mY_X13_getCells mL_X13_614 (rcv_spec f167) ⟨_, _, rfl⟩ (by decide) (As := [.ref v163, .int (0 : Int32)]) (rest := []) rfl rfl ⟨Nat.le_of_ble_eq_true rfl, Nat.le_of_ble_eq_true rfl⟩ (Nat.le_of_ble_eq_true rfl) (fun l D A => c_X13_getCells l D A e167) ?_
      refine ww_aload_n 170 X dX13_sumMark_170 0 rfl rfl ?_
      obtain ⟨v171, e171, h⟩ := bO_some h
      refine ww_getR 171 X dX13_sumMark_171 fG_X13_113 e171 ?_
      refine ww_iconst 174 X (v := (0 : Int32)) dX13_sumMark_174 (by decide) ?_
      refine ww_bipush 175 X (v := (8 : Int32)) dX13_sumMark_175 (by decide) ?_
      refine ww_aload_n 177 X dX13_sumMark_177 0 rfl rfl ?_
      obtain ⟨v178, e178, h⟩ := bO_some h
      refine ww_getR 178 X dX13_sumMark_178 fG_X13_104 e178 ?_
      refine ww_iconst 181 X (v := (0 : Int32)) dX13_sumMark_181 (by decide) ?_
      refine ww_bipush 182 X (v := (8 : Int32)) dX13_sumMark_182 (by decide) ?_
      obtain ⟨v184, M184, e184, h⟩ := bP_some h
      refine ww_callSL0 184 X dX13_sumMark_184 mY_X13_longAt mL_X13_528 (As := [.ref v178, .int (0 : Int32), .int (8 : Int32)]) (rest := [.int (8 : Int32), .int (0 : Int32), .ref v171]) rfl rfl ⟨Nat.le_of_ble_eq_true rfl, Nat.le_of_ble_eq_true rfl⟩ (Nat.le_of_ble_eq_true rfl) (fun l D A => c_X13_longAt l D A e184) ?_
      refine ww_aload_n 187 X dX13_sumMark_187 0 rfl rfl ?_
      obtain ⟨v188, e188, h⟩ := bO_some h
      refine ww_getL 188 X dX13_sumMark_188 fG_X13_635 e188 ?_
      refine ww_lxor 191 X dX13_sumMark_191 ?_
      obtain ⟨M192, e192, h⟩ := bO_some h
      refine ww_callSV0 192 X dX13_sumMark_192 mY_X13_put mL_X13_328 (As := [.ref v171, .int (0 : Int32), .int (8 : Int32), .long (v184 ^^^ v188)]) (rest := []) rfl rfl ⟨Nat.le_of_ble_eq_true rfl, Nat.le_of_ble_eq_true rfl⟩ (Nat.le_of_ble_eq_true rfl) (fun l D A => c_X13_put l D A e192) ?_
      refine ww_aload_n 195 X dX13_sumMark_195 0 rfl rfl ?_
      obtain ⟨v196, e196, h⟩ := bO_some h
      refine ww_getR 196 X dX13_sumMark_196 fG_X13_113 e196 ?_
      refine ww_bipush 199 X (v := (8 : Int32)) dX13_sumMark_199 (by decide) ?_
      refine ww_bipush 201 X (v := (8 : Int32)) dX13_sumMark_201 (by decide) ?_
      refine ww_aload_n 203 X dX13_sumMark_203 0 rfl rfl ?_
      obtain ⟨v204, e204, h⟩ := bO_some h
      refine ww_getR 204 X dX13_sumMark_204 fG_X13_104 e204 ?_
      refine ww_bipush 207 X (v := (8 : Int32)) dX13_sumMark_207 (by decide) ?_
      refine ww_bipush 209 X (v := (8 : Int32)) dX13_sumMark_209 (by decide) ?_
      obtain ⟨v211, M211, e211, h⟩ := bP_some h
      refine ww_callSL0 211 X dX13_sumMark_211 mY_X13_longAt mL_X13_528 (As := [.ref v204, .int (8 : Int32), .int (8 : Int32)]) (rest := [.int (8 : Int32), .int (8 : Int32), .ref v196]) rfl rfl ⟨Nat.le_of_ble_eq_true rfl, Nat.le_of_ble_eq_true rfl⟩ (Nat.le_of_ble_eq_true rfl) (fun l D A => c_X13_longAt l D A e211) ?_
      refine ww_aload_n 214 X dX13_sumMark_214 0 rfl rfl ?_
      obtain ⟨v215, e215, h⟩ := bO_some h
      refine ww_getL 215 X dX13_sumMark_215 fG_X13_639 e215 ?_
      refine ww_lxor 218 X dX13_sumMark_218 ?_
      obtain ⟨M219, e219, h⟩ := bO_some h
      refine ww_callSV0 219 X dX13_sumMark_219 mY_X13_put mL_X13_328 (As := [.ref v196, .int (8 : Int32), .int (8 : Int32), .long (v211 ^^^ v215)]) (rest := []) rfl rfl ⟨Nat.le_of_ble_eq_true rfl, Nat.le_of_ble_eq_true rfl⟩ (Nat.le_of_ble_eq_true rfl) (fun l D A => c_X13_put l D A e219) ?_
      exact ww_vretE 222 X hQ dX13_sumMark_222 h
    · replace h := (if_neg q).symm.trans h
      refine ww_aload_n 10 X dX13_sumMark_10 0 rfl rfl ?_
      obtain ⟨v11, e11, h⟩ := bO_some h
      refine ww_getR 11 X dX13_sumMark_11 fG_X13_98 e11 ?_
      refine ww_iload 14 X dX13_sumMark_14 9 rfl ?_
      refine ww_iconst 16 X (v := (0 : Int32)) dX13_sumMark_16 (by decide) ?_
      obtain ⟨M17, e17, h⟩ := bO_some h
      refine ww_iast 17 X dX13_sumMark_17 e17 ?_
      refine ww_iinc 18 X dX13_sumMark_18 (lv' := [(0, .ref l0), (1, .ref l1), (2, .int l2), (3, .ref l3), (4, .int l4), (5, .int l5), (6, .ref l6), (7, .int l7), (8, .int l8), (9, .int (l9 + 1))]) 9 rfl rfl (by decide) [1, 2, 3, 4, 5, 6, 7, 8, 9, 0] rfl ?_
      refine ww_goto 21 3 X dX13_sumMark_21 (by decide) ?_
      exact (ih _ _ _ _ _ _ _ _ _ _ _ h)
set_option maxHeartbeats 4000000 in
set_option maxRecDepth 100000 in
theorem wP_X13_sumMark {G : mG} {F : Nat} {x : mXT} {sz : Nat} {M0 : mM} (X : mCX G RX13 cX13_sumMark 10 none "sumMark" rmX13_sumMark x) (hQ : mQV x M0 (sz, 0, 0)) {l0 : Nat} {l1 : Nat} {l2 : Int32} {l3 : Nat} {l4 : Int32} {l5 : Int32} {l6 : Nat} {l7 : Int32} {l8 : Int32} {M : mM} (h : P_X13_sumMark G F l0 l1 l2 l3 l4 l5 l6 l7 l8 M = some M0) : WW x (sz, 0, 0) M 0 [(0, .ref l0), (1, .ref l1), (2, .int l2), (3, .ref l3), (4, .int l4), (5, .int l5), (6, .ref l6), (7, .int l7), (8, .int l8)] [] := by
  unfold P_X13_sumMark at h
  refine ww_iconst 0 X (v := (0 : Int32)) dX13_sumMark_0 (by decide) ?_
  refine ww_istore 1 X dX13_sumMark_1 (lv' := [(0, .ref l0), (1, .ref l1), (2, .int l2), (3, .ref l3), (4, .int l4), (5, .int l5), (6, .ref l6), (7, .int l7), (8, .int l8), (9, .int (0 : Int32))]) (by decide) [1, 2, 3, 4, 5, 6, 7, 8, 9, 0] rfl ?_
  exact (wB_X13_sumMark_3 X hQ F _ _ _ _ _ _ _ _ _ _ _ h)
theorem c_X13_sumMark {G : mG} {F sz : Nat} {M0 : mM} (l : Launch) (D : mD) (A : Nat → Prop) {l0 : Nat} {l1 : Nat} {l2 : Int32} {l3 : Nat} {l4 : Int32} {l5 : Int32} {l6 : Nat} {l7 : Int32} {l8 : Int32} {M : mM} (h : P_X13_sumMark G F l0 l1 l2 l3 l4 l5 l6 l7 l8 M = some M0) : mMetV l D G A yX13_sumMark cX13_sumMark 10 none 2 62 0 0 [.ref l0, .ref l1, .int l2, .ref l3, .int l4, .int l5, .ref l6, .int l7, .int l8] M sz M0 sz := mMetV_of l D G A (by decide) (Nat.le_of_ble_eq_true rfl) (fun x X hQ => wP_X13_sumMark X hQ h)
/-! SealedTokensModel.stream([BI[BII)V -/
theorem dX13_stream_0 : decode cX13_stream 0 = .ok (.iconst 0, 1) := by decide +kernel
theorem dX13_stream_1 : decode cX13_stream 1 = .ok (.istore 6, 2) := by decide +kernel
theorem dX13_stream_3 : decode cX13_stream 3 = .ok (.iload 6, 2) := by decide +kernel
theorem dX13_stream_5 : decode cX13_stream 5 = .ok (.iload 5, 2) := by decide +kernel
theorem dX13_stream_7 : decode cX13_stream 7 = .ok (.if_icmp .ge 69, 3) := by decide +kernel
theorem dX13_stream_10 : decode cX13_stream 10 = .ok (.iload 6, 2) := by decide +kernel
theorem dX13_stream_12 : decode cX13_stream 12 = .ok (.bipush 16, 2) := by decide +kernel
theorem dX13_stream_14 : decode cX13_stream 14 = .ok (.irem, 1) := by decide +kernel
theorem dX13_stream_15 : decode cX13_stream 15 = .ok (.ifCond .ne 29, 3) := by decide +kernel
theorem dX13_stream_18 : decode cX13_stream 18 = .ok (.aload_n 0, 1) := by decide +kernel
theorem dX13_stream_19 : decode cX13_stream 19 = .ok (.aload_n 1, 1) := by decide +kernel
theorem dX13_stream_20 : decode cX13_stream 20 = .ok (.iload_n 2, 1) := by decide +kernel
theorem dX13_stream_21 : decode cX13_stream 21 = .ok (.iconst 2, 1) := by decide +kernel
theorem dX13_stream_22 : decode cX13_stream 22 = .ok (.iload 6, 2) := by decide +kernel
theorem dX13_stream_24 : decode cX13_stream 24 = .ok (.bipush 16, 2) := by decide +kernel
theorem dX13_stream_26 : decode cX13_stream 26 = .ok (.idiv, 1) := by decide +kernel
theorem dX13_stream_27 : decode cX13_stream 27 = .ok (.iadd, 1) := by decide +kernel
theorem dX13_stream_28 : decode cX13_stream 28 = .ok (.invokevirtual 656, 3) := by decide +kernel
theorem dX13_stream_31 : decode cX13_stream 31 = .ok (.aload_n 0, 1) := by decide +kernel
theorem dX13_stream_32 : decode cX13_stream 32 = .ok (.aload_n 0, 1) := by decide +kernel
theorem dX13_stream_33 : decode cX13_stream 33 = .ok (.getfield 116, 3) := by decide +kernel
theorem dX13_stream_36 : decode cX13_stream 36 = .ok (.iconst 0, 1) := by decide +kernel
theorem dX13_stream_37 : decode cX13_stream 37 = .ok (.invokevirtual 604, 3) := by decide +kernel
theorem dX13_stream_40 : decode cX13_stream 40 = .ok (.aload_n 0, 1) := by decide +kernel
theorem dX13_stream_41 : decode cX13_stream 41 = .ok (.invokevirtual 611, 3) := by decide +kernel
theorem dX13_stream_44 : decode cX13_stream 44 = .ok (.aload_n 0, 1) := by decide +kernel
theorem dX13_stream_45 : decode cX13_stream 45 = .ok (.getfield 110, 3) := by decide +kernel
theorem dX13_stream_48 : decode cX13_stream 48 = .ok (.iload 6, 2) := by decide +kernel
theorem dX13_stream_50 : decode cX13_stream 50 = .ok (.aload_n 3, 1) := by decide +kernel
theorem dX13_stream_51 : decode cX13_stream 51 = .ok (.iload 4, 2) := by decide +kernel
theorem dX13_stream_53 : decode cX13_stream 53 = .ok (.iload 6, 2) := by decide +kernel
theorem dX13_stream_55 : decode cX13_stream 55 = .ok (.iadd, 1) := by decide +kernel
theorem dX13_stream_56 : decode cX13_stream 56 = .ok (.baload, 1) := by decide +kernel
theorem dX13_stream_57 : decode cX13_stream 57 = .ok (.aload_n 0, 1) := by decide +kernel
theorem dX13_stream_58 : decode cX13_stream 58 = .ok (.getfield 98, 3) := by decide +kernel
theorem dX13_stream_61 : decode cX13_stream 61 = .ok (.iload 6, 2) := by decide +kernel
theorem dX13_stream_63 : decode cX13_stream 63 = .ok (.bipush 16, 2) := by decide +kernel
theorem dX13_stream_65 : decode cX13_stream 65 = .ok (.irem, 1) := by decide +kernel
theorem dX13_stream_66 : decode cX13_stream 66 = .ok (.iaload, 1) := by decide +kernel
theorem dX13_stream_67 : decode cX13_stream 67 = .ok (.ixor, 1) := by decide +kernel
theorem dX13_stream_68 : decode cX13_stream 68 = .ok (.i2b, 1) := by decide +kernel
theorem dX13_stream_69 : decode cX13_stream 69 = .ok (.bastore, 1) := by decide +kernel
theorem dX13_stream_70 : decode cX13_stream 70 = .ok (.iinc 6 1, 3) := by decide +kernel
theorem dX13_stream_73 : decode cX13_stream 73 = .ok (.goto (-70), 3) := by decide +kernel
theorem dX13_stream_76 : decode cX13_stream 76 = .ok (.aload_n 0, 1) := by decide +kernel
theorem dX13_stream_77 : decode cX13_stream 77 = .ok (.iload 5, 2) := by decide +kernel
theorem dX13_stream_79 : decode cX13_stream 79 = .ok (.putfield 659, 3) := by decide +kernel
theorem dX13_stream_82 : decode cX13_stream 82 = .ok (.return_, 1) := by decide +kernel
abbrev rmX13_stream : Room := { frames := 2, cells := 0, slots := 0, locals := 48 }
set_option maxHeartbeats 4000000 in
set_option maxRecDepth 100000 in
theorem wB_X13_stream_44 {G : mG} {F : Nat} {x : mXT} {sz : Nat} {M0 : mM} (X : mCX G RX13 cX13_stream 7 none "stream" rmX13_stream x) (hQ : mQV x M0 (sz, 0, 0)) (r3 : Nat → Nat → Int32 → Nat → Int32 → Int32 → Int32 → mM → Option mM) (hr3 : ∀ (l0 : Nat) (l1 : Nat) (l2 : Int32) (l3 : Nat) (l4 : Int32) (l5 : Int32) (l6 : Int32) (M : mM), r3 l0 l1 l2 l3 l4 l5 l6 M = some M0 → WW x (sz, 0, 0) M 3 [(0, .ref l0), (1, .ref l1), (2, .int l2), (3, .ref l3), (4, .int l4), (5, .int l5), (6, .int l6)] []) {l0 : Nat} {l1 : Nat} {l2 : Int32} {l3 : Nat} {l4 : Int32} {l5 : Int32} {l6 : Int32} {M : mM} (h : B_X13_stream_44 G F r3 l0 l1 l2 l3 l4 l5 l6 M = some M0) : WW x (sz, 0, 0) M 44 [(0, .ref l0), (1, .ref l1), (2, .int l2), (3, .ref l3), (4, .int l4), (5, .int l5), (6, .int l6)] [] := by
  unfold B_X13_stream_44 at h
  refine ww_aload_n 44 X dX13_stream_44 0 rfl rfl ?_
  obtain ⟨v45, e45, h⟩ := bO_some h
  refine ww_getR 45 X dX13_stream_45 fG_X13_110 e45 ?_
  refine ww_iload 48 X dX13_stream_48 6 rfl ?_
  refine ww_aload_n 50 X dX13_stream_50 3 rfl rfl ?_
  refine ww_iload 51 X dX13_stream_51 4 rfl ?_
  refine ww_iload 53 X dX13_stream_53 6 rfl ?_
  refine ww_iadd 55 X dX13_stream_55 ?_
  obtain ⟨v56, e56, h⟩ := bO_some h
  refine ww_bald 56 X dX13_stream_56 e56 ?_
  refine ww_aload_n 57 X dX13_stream_57 0 rfl rfl ?_
  obtain ⟨v58, e58, h⟩ := bO_some h
  refine ww_getR 58 X dX13_stream_58 fG_X13_98 e58 ?_
  refine ww_iload 61 X dX13_stream_61 6 rfl ?_
  refine ww_bipush 63 X (v := (16 : Int32)) dX13_stream_63 (by decide) ?_
  refine ww_irem 65 X (v := (l6 - l6 / (16 : Int32) * (16 : Int32))) dX13_stream_65 rfl ?_
  obtain ⟨v66, e66, h⟩ := bO_some h
  refine ww_iald 66 X dX13_stream_66 e66 ?_
  refine ww_ixor 67 X dX13_stream_67 ?_
  refine ww_i2b 68 X dX13_stream_68 ?_
  obtain ⟨M69, e69, h⟩ := bO_some h
  refine ww_bast 69 X dX13_stream_69 e69 ?_
  refine ww_iinc 70 X dX13_stream_70 (lv' := [(0, .ref l0), (1, .ref l1), (2, .int l2), (3, .ref l3), (4, .int l4), (5, .int l5), (6, .int (l6 + 1))]) 6 rfl rfl (by decide) [1, 2, 3, 4, 5, 6, 0] rfl ?_
  refine ww_goto 73 3 X dX13_stream_73 (by decide) ?_
  exact (hr3 _ _ _ _ _ _ _ _ h)
set_option maxHeartbeats 4000000 in
set_option maxRecDepth 100000 in
theorem wB_X13_stream_3 {G : mG} {F : Nat} {x : mXT} {sz : Nat} {M0 : mM} (X : mCX G RX13 cX13_stream 7 none "stream" rmX13_stream x) (hQ : mQV x M0 (sz, 0, 0)) : ∀ (n : Nat) (l0 : Nat) (l1 : Nat) (l2 : Int32) (l3 : Nat) (l4 : Int32) (l5 : Int32) (l6 : Int32) (M : mM), B_X13_stream_3 G F n l0 l1 l2 l3 l4 l5 l6 M = some M0 → WW x (sz, 0, 0) M 3 [(0, .ref l0), (1, .ref l1), (2, .int l2), (3, .ref l3), (4, .int l4), (5, .int l5), (6, .int l6)] [] := by
  intro n
  induction n with
  | zero =>
    intro l0 l1 l2 l3 l4 l5 l6 M h
    exact nomatch (show (none : Option mM) = some M0 from h)
  | succ n ih =>
    intro l0 l1 l2 l3 l4 l5 l6 M h
    rw [B_X13_stream_3] at h
    refine ww_iload 3 X dX13_stream_3 6 rfl ?_
    refine ww_iload 5 X dX13_stream_5 5 rfl ?_
    refine ww_icmp_ge 7 76 X dX13_stream_7 (by decide) (fun q => ?_) (fun q => ?_)
    · replace h := (if_pos q).symm.trans h
      refine ww_aload_n 76 X dX13_stream_76 0 rfl rfl ?_
      refine ww_iload 77 X dX13_stream_77 5 rfl ?_
      obtain ⟨M79, e79, h⟩ := bO_some h
      refine ww_putI 79 X dX13_stream_79 (fP_X13_659 _) e79 ?_
      exact ww_vretE 82 X hQ dX13_stream_82 h
    · replace h := (if_neg q).symm.trans h
      refine ww_iload 10 X dX13_stream_10 6 rfl ?_
      refine ww_bipush 12 X (v := (16 : Int32)) dX13_stream_12 (by decide) ?_
      refine ww_irem 14 X (v := (l6 - l6 / (16 : Int32) * (16 : Int32))) dX13_stream_14 rfl ?_
      refine ww_if_ne 15 44 X dX13_stream_15 (by decide) (fun q => ?_) (fun q => ?_)
      · replace h := (if_neg q).symm.trans h
        exact (wB_X13_stream_44 X hQ _ ih h)
      · replace h := (if_pos q).symm.trans h
        refine ww_aload_n 18 X dX13_stream_18 0 rfl rfl ?_
        refine ww_aload_n 19 X dX13_stream_19 1 rfl rfl ?_
        refine ww_iload_n 20 X dX13_stream_20 2 rfl rfl ?_
        refine ww_iconst 21 X (v := (2 : Int32)) dX13_stream_21 (by decide) ?_
        refine ww_iload 22 X dX13_stream_22 6 rfl ?_
        refine ww_bipush 24 X (v := (16 : Int32)) dX13_stream_24 (by decide) ?_
        refine ww_idiv 26 X (v := (l6 / (16 : Int32))) dX13_stream_26 rfl ?_
        refine ww_iadd 27 X dX13_stream_27 ?_
        obtain ⟨_, f28, h⟩ := bO_some h
        obtain ⟨M28, e28, h⟩ := bO_some h
        refine ww_callVV0 28 X dX13_stream_28 mY_X13_setCounter mL_X13_656 (rcv_spec f28) ⟨_, _, rfl⟩ (by decide) (As := [.ref l1, .int l2, .int ((2 : Int32) + (l6 / (16 : Int32)))]) (rest := []) rfl rfl ⟨Nat.le_of_ble_eq_true rfl, Nat.le_of_ble_eq_true rfl⟩ (Nat.le_of_ble_eq_true rfl) (fun l D A => c_X13_setCounter l D A e28) ?_
        refine ww_aload_n 31 X dX13_stream_31 0 rfl rfl ?_
        refine ww_aload_n 32 X dX13_stream_32 0 rfl rfl ?_
        obtain ⟨v33, e33, h⟩ := bO_some h
        refine ww_getR 33 X dX13_stream_33 fG_X13_116 e33 ?_
        refine ww_iconst 36 X (v := (0 : Int32)) dX13_stream_36 (by decide) ?_
        obtain ⟨_, f37, h⟩ := bO_some h
        obtain ⟨M37, e37, h⟩ := bO_some h
        refine ww_callVV0 37 X dX13_stream_37 mY_X13_setCells mL_X13_604 (rcv_spec f37) ⟨_, _, rfl⟩ (by decide) (As := [.ref v33, .int (0 : Int32)]) (rest := []) rfl rfl ⟨Nat.le_of_ble_eq_true rfl, Nat.le_of_ble_eq_true rfl⟩ (Nat.le_of_ble_eq_true rfl) (fun l D A => c_X13_setCells l D A e37) ?_
        refine ww_aload_n 40 X dX13_stream_40 0 rfl rfl ?_
        obtain ⟨_, f41, h⟩ := bO_some h
        obtain ⟨M41, e41, h⟩ := bO_some h
        refine ww_callVV0 41 X dX13_stream_41 mY_X13_forth mL_X13_611 (rcv_spec f41) ⟨_, _, rfl⟩ (by decide) (As := []) (rest := []) rfl rfl ⟨Nat.le_of_ble_eq_true rfl, Nat.le_of_ble_eq_true rfl⟩ (Nat.le_of_ble_eq_true rfl) (fun l D A => c_X13_forth l D A e41) ?_
        exact (wB_X13_stream_44 X hQ _ ih h)
set_option maxHeartbeats 4000000 in
set_option maxRecDepth 100000 in
theorem wP_X13_stream {G : mG} {F : Nat} {x : mXT} {sz : Nat} {M0 : mM} (X : mCX G RX13 cX13_stream 7 none "stream" rmX13_stream x) (hQ : mQV x M0 (sz, 0, 0)) {l0 : Nat} {l1 : Nat} {l2 : Int32} {l3 : Nat} {l4 : Int32} {l5 : Int32} {M : mM} (h : P_X13_stream G F l0 l1 l2 l3 l4 l5 M = some M0) : WW x (sz, 0, 0) M 0 [(0, .ref l0), (1, .ref l1), (2, .int l2), (3, .ref l3), (4, .int l4), (5, .int l5)] [] := by
  unfold P_X13_stream at h
  refine ww_iconst 0 X (v := (0 : Int32)) dX13_stream_0 (by decide) ?_
  refine ww_istore 1 X dX13_stream_1 (lv' := [(0, .ref l0), (1, .ref l1), (2, .int l2), (3, .ref l3), (4, .int l4), (5, .int l5), (6, .int (0 : Int32))]) (by decide) [1, 2, 3, 4, 5, 6, 0] rfl ?_
  exact (wB_X13_stream_3 X hQ F _ _ _ _ _ _ _ _ h)
theorem c_X13_stream {G : mG} {F sz : Nat} {M0 : mM} (l : Launch) (D : mD) (A : Nat → Prop) {l0 : Nat} {l1 : Nat} {l2 : Int32} {l3 : Nat} {l4 : Int32} {l5 : Int32} {M : mM} (h : P_X13_stream G F l0 l1 l2 l3 l4 l5 M = some M0) : mMetV l D G A yX13_stream cX13_stream 7 none 2 48 0 0 [.ref l0, .ref l1, .int l2, .ref l3, .int l4, .int l5] M sz M0 sz := mMetV_of l D G A (by decide) (Nat.le_of_ble_eq_true rfl) (fun x X hQ => wP_X13_stream X hQ h)
/-! SealedTokensModel.sealIt(I[BI[BI[BII[BII)V -/
theorem dX13_sealIt_0 : decode cX13_sealIt 0 = .ok (.iload_n 1, 1) := by decide +kernel
theorem dX13_sealIt_1 : decode cX13_sealIt 1 = .ok (.iconst 1, 1) := by decide +kernel
theorem dX13_sealIt_2 : decode cX13_sealIt 2 = .ok (.if_icmp .le 49, 3) := by decide +kernel
theorem dX13_sealIt_5 : decode cX13_sealIt 5 = .ok (.aload_n 0, 1) := by decide +kernel
theorem dX13_sealIt_6 : decode cX13_sealIt 6 = .ok (.aload_n 2, 1) := by decide +kernel
theorem dX13_sealIt_7 : decode cX13_sealIt 7 = .ok (.iload_n 3, 1) := by decide +kernel
theorem dX13_sealIt_8 : decode cX13_sealIt 8 = .ok (.iload_n 1, 1) := by decide +kernel
theorem dX13_sealIt_9 : decode cX13_sealIt 9 = .ok (.invokestatic 629, 3) := by decide +kernel
theorem dX13_sealIt_12 : decode cX13_sealIt 12 = .ok (.invokevirtual 601, 3) := by decide +kernel
theorem dX13_sealIt_15 : decode cX13_sealIt 15 = .ok (.aload_n 0, 1) := by decide +kernel
theorem dX13_sealIt_16 : decode cX13_sealIt 16 = .ok (.aload 4, 2) := by decide +kernel
theorem dX13_sealIt_18 : decode cX13_sealIt 18 = .ok (.iload 5, 2) := by decide +kernel
theorem dX13_sealIt_20 : decode cX13_sealIt 20 = .ok (.aload 9, 2) := by decide +kernel
theorem dX13_sealIt_22 : decode cX13_sealIt 22 = .ok (.iload 10, 2) := by decide +kernel
theorem dX13_sealIt_24 : decode cX13_sealIt 24 = .ok (.iload 11, 2) := by decide +kernel
theorem dX13_sealIt_26 : decode cX13_sealIt 26 = .ok (.invokevirtual 662, 3) := by decide +kernel
theorem dX13_sealIt_29 : decode cX13_sealIt 29 = .ok (.aload_n 0, 1) := by decide +kernel
theorem dX13_sealIt_30 : decode cX13_sealIt 30 = .ok (.aload 4, 2) := by decide +kernel
theorem dX13_sealIt_32 : decode cX13_sealIt 32 = .ok (.iload 5, 2) := by decide +kernel
theorem dX13_sealIt_34 : decode cX13_sealIt 34 = .ok (.aload 6, 2) := by decide +kernel
theorem dX13_sealIt_36 : decode cX13_sealIt 36 = .ok (.iload 7, 2) := by decide +kernel
theorem dX13_sealIt_38 : decode cX13_sealIt 38 = .ok (.iload 8, 2) := by decide +kernel
theorem dX13_sealIt_40 : decode cX13_sealIt 40 = .ok (.aload_n 0, 1) := by decide +kernel
theorem dX13_sealIt_41 : decode cX13_sealIt 41 = .ok (.getfield 110, 3) := by decide +kernel
theorem dX13_sealIt_44 : decode cX13_sealIt 44 = .ok (.iconst 0, 1) := by decide +kernel
theorem dX13_sealIt_45 : decode cX13_sealIt 45 = .ok (.iload 11, 2) := by decide +kernel
theorem dX13_sealIt_47 : decode cX13_sealIt 47 = .ok (.invokevirtual 665, 3) := by decide +kernel
theorem dX13_sealIt_50 : decode cX13_sealIt 50 = .ok (.return_, 1) := by decide +kernel
theorem dX13_sealIt_51 : decode cX13_sealIt 51 = .ok (.iload_n 1, 1) := by decide +kernel
theorem dX13_sealIt_52 : decode cX13_sealIt 52 = .ok (.invokestatic 629, 3) := by decide +kernel
theorem dX13_sealIt_55 : decode cX13_sealIt 55 = .ok (.iconst 2, 1) := by decide +kernel
theorem dX13_sealIt_56 : decode cX13_sealIt 56 = .ok (.idiv, 1) := by decide +kernel
theorem dX13_sealIt_57 : decode cX13_sealIt 57 = .ok (.istore 12, 2) := by decide +kernel
theorem dX13_sealIt_59 : decode cX13_sealIt 59 = .ok (.aload_n 0, 1) := by decide +kernel
theorem dX13_sealIt_60 : decode cX13_sealIt 60 = .ok (.aload_n 2, 1) := by decide +kernel
theorem dX13_sealIt_61 : decode cX13_sealIt 61 = .ok (.iload_n 3, 1) := by decide +kernel
theorem dX13_sealIt_62 : decode cX13_sealIt 62 = .ok (.iload 12, 2) := by decide +kernel
theorem dX13_sealIt_64 : decode cX13_sealIt 64 = .ok (.iadd, 1) := by decide +kernel
theorem dX13_sealIt_65 : decode cX13_sealIt 65 = .ok (.iload 12, 2) := by decide +kernel
theorem dX13_sealIt_67 : decode cX13_sealIt 67 = .ok (.invokevirtual 601, 3) := by decide +kernel
theorem dX13_sealIt_70 : decode cX13_sealIt 70 = .ok (.iload 11, 2) := by decide +kernel
theorem dX13_sealIt_72 : decode cX13_sealIt 72 = .ok (.bipush 16, 2) := by decide +kernel
theorem dX13_sealIt_74 : decode cX13_sealIt 74 = .ok (.iadd, 1) := by decide +kernel
theorem dX13_sealIt_75 : decode cX13_sealIt 75 = .ok (.iload 11, 2) := by decide +kernel
theorem dX13_sealIt_77 : decode cX13_sealIt 77 = .ok (.bipush 16, 2) := by decide +kernel
theorem dX13_sealIt_79 : decode cX13_sealIt 79 = .ok (.irem, 1) := by decide +kernel
theorem dX13_sealIt_80 : decode cX13_sealIt 80 = .ok (.isub, 1) := by decide +kernel
theorem dX13_sealIt_81 : decode cX13_sealIt 81 = .ok (.istore 13, 2) := by decide +kernel
theorem dX13_sealIt_83 : decode cX13_sealIt 83 = .ok (.iconst 0, 1) := by decide +kernel
theorem dX13_sealIt_84 : decode cX13_sealIt 84 = .ok (.istore 14, 2) := by decide +kernel
theorem dX13_sealIt_86 : decode cX13_sealIt 86 = .ok (.iload 14, 2) := by decide +kernel
theorem dX13_sealIt_88 : decode cX13_sealIt 88 = .ok (.iload 13, 2) := by decide +kernel
theorem dX13_sealIt_90 : decode cX13_sealIt 90 = .ok (.if_icmp .ge 113, 3) := by decide +kernel
theorem dX13_sealIt_93 : decode cX13_sealIt 93 = .ok (.iconst 0, 1) := by decide +kernel
theorem dX13_sealIt_94 : decode cX13_sealIt 94 = .ok (.istore 15, 2) := by decide +kernel
theorem dX13_sealIt_96 : decode cX13_sealIt 96 = .ok (.iload 15, 2) := by decide +kernel
theorem dX13_sealIt_98 : decode cX13_sealIt 98 = .ok (.bipush 16, 2) := by decide +kernel
theorem dX13_sealIt_100 : decode cX13_sealIt 100 = .ok (.if_icmp .ge 83, 3) := by decide +kernel
theorem dX13_sealIt_103 : decode cX13_sealIt 103 = .ok (.iload 14, 2) := by decide +kernel
theorem dX13_sealIt_105 : decode cX13_sealIt 105 = .ok (.iload 15, 2) := by decide +kernel
theorem dX13_sealIt_107 : decode cX13_sealIt 107 = .ok (.iadd, 1) := by decide +kernel
theorem dX13_sealIt_108 : decode cX13_sealIt 108 = .ok (.iload 11, 2) := by decide +kernel
theorem dX13_sealIt_110 : decode cX13_sealIt 110 = .ok (.if_icmp .ge 17, 3) := by decide +kernel
theorem dX13_sealIt_113 : decode cX13_sealIt 113 = .ok (.aload 9, 2) := by decide +kernel
theorem dX13_sealIt_115 : decode cX13_sealIt 115 = .ok (.iload 10, 2) := by decide +kernel
theorem dX13_sealIt_117 : decode cX13_sealIt 117 = .ok (.iload 14, 2) := by decide +kernel
theorem dX13_sealIt_119 : decode cX13_sealIt 119 = .ok (.iadd, 1) := by decide +kernel
theorem dX13_sealIt_120 : decode cX13_sealIt 120 = .ok (.iload 15, 2) := by decide +kernel
theorem dX13_sealIt_122 : decode cX13_sealIt 122 = .ok (.iadd, 1) := by decide +kernel
theorem dX13_sealIt_123 : decode cX13_sealIt 123 = .ok (.baload, 1) := by decide +kernel
theorem dX13_sealIt_124 : decode cX13_sealIt 124 = .ok (.goto 8, 3) := by decide +kernel
theorem dX13_sealIt_127 : decode cX13_sealIt 127 = .ok (.iload 13, 2) := by decide +kernel
theorem dX13_sealIt_129 : decode cX13_sealIt 129 = .ok (.iload 11, 2) := by decide +kernel
theorem dX13_sealIt_131 : decode cX13_sealIt 131 = .ok (.isub, 1) := by decide +kernel
theorem dX13_sealIt_132 : decode cX13_sealIt 132 = .ok (.istore 16, 2) := by decide +kernel
theorem dX13_sealIt_134 : decode cX13_sealIt 134 = .ok (.aload_n 0, 1) := by decide +kernel
theorem dX13_sealIt_135 : decode cX13_sealIt 135 = .ok (.getfield 98, 3) := by decide +kernel
theorem dX13_sealIt_138 : decode cX13_sealIt 138 = .ok (.iload 15, 2) := by decide +kernel
theorem dX13_sealIt_140 : decode cX13_sealIt 140 = .ok (.iload 16, 2) := by decide +kernel
theorem dX13_sealIt_142 : decode cX13_sealIt 142 = .ok (.iload 14, 2) := by decide +kernel
theorem dX13_sealIt_144 : decode cX13_sealIt 144 = .ok (.ifCond .ne 14, 3) := by decide +kernel
theorem dX13_sealIt_147 : decode cX13_sealIt 147 = .ok (.aload 4, 2) := by decide +kernel
theorem dX13_sealIt_149 : decode cX13_sealIt 149 = .ok (.iload 5, 2) := by decide +kernel
theorem dX13_sealIt_151 : decode cX13_sealIt 151 = .ok (.iload 15, 2) := by decide +kernel
theorem dX13_sealIt_153 : decode cX13_sealIt 153 = .ok (.iadd, 1) := by decide +kernel
theorem dX13_sealIt_154 : decode cX13_sealIt 154 = .ok (.baload, 1) := by decide +kernel
theorem dX13_sealIt_155 : decode cX13_sealIt 155 = .ok (.goto 16, 3) := by decide +kernel
theorem dX13_sealIt_158 : decode cX13_sealIt 158 = .ok (.aload_n 0, 1) := by decide +kernel
theorem dX13_sealIt_159 : decode cX13_sealIt 159 = .ok (.getfield 110, 3) := by decide +kernel
theorem dX13_sealIt_162 : decode cX13_sealIt 162 = .ok (.iload 14, 2) := by decide +kernel
theorem dX13_sealIt_164 : decode cX13_sealIt 164 = .ok (.bipush 16, 2) := by decide +kernel
theorem dX13_sealIt_166 : decode cX13_sealIt 166 = .ok (.isub, 1) := by decide +kernel
theorem dX13_sealIt_167 : decode cX13_sealIt 167 = .ok (.iload 15, 2) := by decide +kernel
theorem dX13_sealIt_169 : decode cX13_sealIt 169 = .ok (.iadd, 1) := by decide +kernel
theorem dX13_sealIt_170 : decode cX13_sealIt 170 = .ok (.baload, 1) := by decide +kernel
theorem dX13_sealIt_171 : decode cX13_sealIt 171 = .ok (.ixor, 1) := by decide +kernel
theorem dX13_sealIt_172 : decode cX13_sealIt 172 = .ok (.sipush 255, 3) := by decide +kernel
theorem dX13_sealIt_175 : decode cX13_sealIt 175 = .ok (.iand, 1) := by decide +kernel
theorem dX13_sealIt_176 : decode cX13_sealIt 176 = .ok (.iastore, 1) := by decide +kernel
theorem dX13_sealIt_177 : decode cX13_sealIt 177 = .ok (.iinc 15 1, 3) := by decide +kernel
theorem dX13_sealIt_180 : decode cX13_sealIt 180 = .ok (.goto (-84), 3) := by decide +kernel
theorem dX13_sealIt_183 : decode cX13_sealIt 183 = .ok (.aload_n 0, 1) := by decide +kernel
theorem dX13_sealIt_184 : decode cX13_sealIt 184 = .ok (.invokevirtual 611, 3) := by decide +kernel
theorem dX13_sealIt_187 : decode cX13_sealIt 187 = .ok (.aload_n 0, 1) := by decide +kernel
theorem dX13_sealIt_188 : decode cX13_sealIt 188 = .ok (.aload_n 0, 1) := by decide +kernel
theorem dX13_sealIt_189 : decode cX13_sealIt 189 = .ok (.getfield 110, 3) := by decide +kernel
theorem dX13_sealIt_192 : decode cX13_sealIt 192 = .ok (.iload 14, 2) := by decide +kernel
theorem dX13_sealIt_194 : decode cX13_sealIt 194 = .ok (.invokevirtual 614, 3) := by decide +kernel
theorem dX13_sealIt_197 : decode cX13_sealIt 197 = .ok (.iinc 14 16, 3) := by decide +kernel
theorem dX13_sealIt_200 : decode cX13_sealIt 200 = .ok (.goto (-114), 3) := by decide +kernel
theorem dX13_sealIt_203 : decode cX13_sealIt 203 = .ok (.aload_n 0, 1) := by decide +kernel
theorem dX13_sealIt_204 : decode cX13_sealIt 204 = .ok (.iload 13, 2) := by decide +kernel
theorem dX13_sealIt_206 : decode cX13_sealIt 206 = .ok (.putfield 659, 3) := by decide +kernel
theorem dX13_sealIt_209 : decode cX13_sealIt 209 = .ok (.aload_n 0, 1) := by decide +kernel
theorem dX13_sealIt_210 : decode cX13_sealIt 210 = .ok (.iload_n 1, 1) := by decide +kernel
theorem dX13_sealIt_211 : decode cX13_sealIt 211 = .ok (.aload_n 2, 1) := by decide +kernel
theorem dX13_sealIt_212 : decode cX13_sealIt 212 = .ok (.iload_n 3, 1) := by decide +kernel
theorem dX13_sealIt_213 : decode cX13_sealIt 213 = .ok (.aload 4, 2) := by decide +kernel
theorem dX13_sealIt_215 : decode cX13_sealIt 215 = .ok (.iload 5, 2) := by decide +kernel
theorem dX13_sealIt_217 : decode cX13_sealIt 217 = .ok (.aload 6, 2) := by decide +kernel
theorem dX13_sealIt_219 : decode cX13_sealIt 219 = .ok (.iload 7, 2) := by decide +kernel
theorem dX13_sealIt_221 : decode cX13_sealIt 221 = .ok (.iload 8, 2) := by decide +kernel
theorem dX13_sealIt_223 : decode cX13_sealIt 223 = .ok (.aload_n 0, 1) := by decide +kernel
theorem dX13_sealIt_224 : decode cX13_sealIt 224 = .ok (.getfield 110, 3) := by decide +kernel
theorem dX13_sealIt_227 : decode cX13_sealIt 227 = .ok (.iconst 0, 1) := by decide +kernel
theorem dX13_sealIt_228 : decode cX13_sealIt 228 = .ok (.iload 13, 2) := by decide +kernel
theorem dX13_sealIt_230 : decode cX13_sealIt 230 = .ok (.invokevirtual 669, 3) := by decide +kernel
theorem dX13_sealIt_233 : decode cX13_sealIt 233 = .ok (.return_, 1) := by decide +kernel
abbrev rmX13_sealIt : Room := { frames := 7, cells := 0, slots := 0, locals := 175 }
set_option maxHeartbeats 4000000 in
set_option maxRecDepth 100000 in
theorem wB_X13_sealIt_132 {G : mG} {F : Nat} {x : mXT} {sz : Nat} {M0 : mM} (X : mCX G RX13 cX13_sealIt 17 none "sealIt" rmX13_sealIt x) (hQ : mQV x M0 (sz, 0, 0)) (r86 : Nat → Int32 → Nat → Int32 → Nat → Int32 → Nat → Int32 → Int32 → Nat → Int32 → Int32 → Int32 → Int32 → mM → Option mM) (hr86 : ∀ (l0 : Nat) (l1 : Int32) (l2 : Nat) (l3 : Int32) (l4 : Nat) (l5 : Int32) (l6 : Nat) (l7 : Int32) (l8 : Int32) (l9 : Nat) (l10 : Int32) (l11 : Int32) (l13 : Int32) (l14 : Int32) (M : mM), r86 l0 l1 l2 l3 l4 l5 l6 l7 l8 l9 l10 l11 l13 l14 M = some M0 → WW x (sz, 0, 0) M 86 [(0, .ref l0), (1, .int l1), (2, .ref l2), (3, .int l3), (4, .ref l4), (5, .int l5), (6, .ref l6), (7, .int l7), (8, .int l8), (9, .ref l9), (10, .int l10), (11, .int l11), (13, .int l13), (14, .int l14)] []) (r96 : Nat → Int32 → Nat → Int32 → Nat → Int32 → Nat → Int32 → Int32 → Nat → Int32 → Int32 → Int32 → Int32 → Int32 → mM → Option mM) (hr96 : ∀ (l0 : Nat) (l1 : Int32) (l2 : Nat) (l3 : Int32) (l4 : Nat) (l5 : Int32) (l6 : Nat) (l7 : Int32) (l8 : Int32) (l9 : Nat) (l10 : Int32) (l11 : Int32) (l13 : Int32) (l14 : Int32) (l15 : Int32) (M : mM), r96 l0 l1 l2 l3 l4 l5 l6 l7 l8 l9 l10 l11 l13 l14 l15 M = some M0 → WW x (sz, 0, 0) M 96 [(0, .ref l0), (1, .int l1), (2, .ref l2), (3, .int l3), (4, .ref l4), (5, .int l5), (6, .ref l6), (7, .int l7), (8, .int l8), (9, .ref l9), (10, .int l10), (11, .int l11), (13, .int l13), (14, .int l14), (15, .int l15)] []) {l0 : Nat} {l1 : Int32} {l2 : Nat} {l3 : Int32} {l4 : Nat} {l5 : Int32} {l6 : Nat} {l7 : Int32} {l8 : Int32} {l9 : Nat} {l10 : Int32} {l11 : Int32} {l13 : Int32} {l14 : Int32} {l15 : Int32} {sk0 : Int32} {M : mM} (h : B_X13_sealIt_132 G F r86 r96 l0 l1 l2 l3 l4 l5 l6 l7 l8 l9 l10 l11 l13 l14 l15 sk0 M = some M0) : WW x (sz, 0, 0) M 132 [(0, .ref l0), (1, .int l1), (2, .ref l2), (3, .int l3), (4, .ref l4), (5, .int l5), (6, .ref l6), (7, .int l7), (8, .int l8), (9, .ref l9), (10, .int l10), (11, .int l11), (13, .int l13), (14, .int l14), (15, .int l15)] [.int sk0] := by
  unfold B_X13_sealIt_132 at h
  refine ww_istore 132 X dX13_sealIt_132 (lv' := [(0, .ref l0), (1, .int l1), (2, .ref l2), (3, .int l3), (4, .ref l4), (5, .int l5), (6, .ref l6), (7, .int l7), (8, .int l8), (9, .ref l9), (10, .int l10), (11, .int l11), (13, .int l13), (14, .int l14), (15, .int l15), (16, .int sk0)]) (by decide) [1, 2, 3, 4, 5, 6, 7, 8, 9, 10, 11, 12, 13, 14, 15, 0] rfl ?_
  refine ww_aload_n 134 X dX13_sealIt_134 0 rfl rfl ?_
  obtain ⟨v135, e135, h⟩ := bO_some h
  refine ww_getR 135 X dX13_sealIt_135 fG_X13_98 e135 ?_
  refine ww_iload 138 X dX13_sealIt_138 14 rfl ?_
  refine ww_iload 140 X dX13_sealIt_140 15 rfl ?_
  refine ww_iload 142 X dX13_sealIt_142 13 rfl ?_
  refine ww_if_ne 144 158 X dX13_sealIt_144 (by decide) (fun q => ?_) (fun q => ?_)
  · replace h := (if_neg q).symm.trans h
    refine ww_aload_n 158 X dX13_sealIt_158 0 rfl rfl ?_
    obtain ⟨v159, e159, h⟩ := bO_some h
    refine ww_getR 159 X dX13_sealIt_159 fG_X13_110 e159 ?_
    refine ww_iload 162 X dX13_sealIt_162 13 rfl ?_
    refine ww_bipush 164 X (v := (16 : Int32)) dX13_sealIt_164 (by decide) ?_
    refine ww_isub 166 X dX13_sealIt_166 ?_
    refine ww_iload 167 X dX13_sealIt_167 14 rfl ?_
    refine ww_iadd 169 X dX13_sealIt_169 ?_
    obtain ⟨v170, e170, h⟩ := bO_some h
    refine ww_bald 170 X dX13_sealIt_170 e170 ?_
    refine ww_ixor 171 X dX13_sealIt_171 ?_
    refine ww_sipush 172 X (v := (255 : Int32)) dX13_sealIt_172 (by decide) ?_
    refine ww_iand 175 X dX13_sealIt_175 ?_
    obtain ⟨M176, e176, h⟩ := bO_some h
    refine ww_iast 176 X dX13_sealIt_176 e176 ?_
    refine ww_iinc 177 X dX13_sealIt_177 (lv' := [(0, .ref l0), (1, .int l1), (2, .ref l2), (3, .int l3), (4, .ref l4), (5, .int l5), (6, .ref l6), (7, .int l7), (8, .int l8), (9, .ref l9), (10, .int l10), (11, .int l11), (13, .int l13), (14, .int l14), (15, .int (l15 + 1)), (16, .int sk0)]) 14 rfl rfl (by decide) [1, 2, 3, 4, 5, 6, 7, 8, 9, 10, 11, 12, 13, 14, 0, 15] rfl ?_
    refine ww_goto 180 96 X dX13_sealIt_180 (by decide) ?_
    exact ww_sub [0, 1, 2, 3, 4, 5, 6, 7, 8, 9, 10, 11, 12, 13, 14] rfl (hr96 _ _ _ _ _ _ _ _ _ _ _ _ _ _ _ _ h)
  · replace h := (if_pos q).symm.trans h
    refine ww_aload 147 X dX13_sealIt_147 4 rfl ?_
    refine ww_iload 149 X dX13_sealIt_149 5 rfl ?_
    refine ww_iload 151 X dX13_sealIt_151 14 rfl ?_
    refine ww_iadd 153 X dX13_sealIt_153 ?_
    obtain ⟨v154, e154, h⟩ := bO_some h
    refine ww_bald 154 X dX13_sealIt_154 e154 ?_
    refine ww_goto 155 171 X dX13_sealIt_155 (by decide) ?_
    refine ww_ixor 171 X dX13_sealIt_171 ?_
    refine ww_sipush 172 X (v := (255 : Int32)) dX13_sealIt_172 (by decide) ?_
    refine ww_iand 175 X dX13_sealIt_175 ?_
    obtain ⟨M176, e176, h⟩ := bO_some h
    refine ww_iast 176 X dX13_sealIt_176 e176 ?_
    refine ww_iinc 177 X dX13_sealIt_177 (lv' := [(0, .ref l0), (1, .int l1), (2, .ref l2), (3, .int l3), (4, .ref l4), (5, .int l5), (6, .ref l6), (7, .int l7), (8, .int l8), (9, .ref l9), (10, .int l10), (11, .int l11), (13, .int l13), (14, .int l14), (15, .int (l15 + 1)), (16, .int sk0)]) 14 rfl rfl (by decide) [1, 2, 3, 4, 5, 6, 7, 8, 9, 10, 11, 12, 13, 14, 0, 15] rfl ?_
    refine ww_goto 180 96 X dX13_sealIt_180 (by decide) ?_
    exact ww_sub [0, 1, 2, 3, 4, 5, 6, 7, 8, 9, 10, 11, 12, 13, 14] rfl (hr96 _ _ _ _ _ _ _ _ _ _ _ _ _ _ _ _ h)
set_option maxHeartbeats 4000000 in
set_option maxRecDepth 100000 in
theorem wB_X13_sealIt_96 {G : mG} {F : Nat} {x : mXT} {sz : Nat} {M0 : mM} (X : mCX G RX13 cX13_sealIt 17 none "sealIt" rmX13_sealIt x) (hQ : mQV x M0 (sz, 0, 0)) (r86 : Nat → Int32 → Nat → Int32 → Nat → Int32 → Nat → Int32 → Int32 → Nat → Int32 → Int32 → Int32 → Int32 → mM → Option mM) (hr86 : ∀ (l0 : Nat) (l1 : Int32) (l2 : Nat) (l3 : Int32) (l4 : Nat) (l5 : Int32) (l6 : Nat) (l7 : Int32) (l8 : Int32) (l9 : Nat) (l10 : Int32) (l11 : Int32) (l13 : Int32) (l14 : Int32) (M : mM), r86 l0 l1 l2 l3 l4 l5 l6 l7 l8 l9 l10 l11 l13 l14 M = some M0 → WW x (sz, 0, 0) M 86 [(0, .ref l0), (1, .int l1), (2, .ref l2), (3, .int l3), (4, .ref l4), (5, .int l5), (6, .ref l6), (7, .int l7), (8, .int l8), (9, .ref l9), (10, .int l10), (11, .int l11), (13, .int l13), (14, .int l14)] []) : ∀ (n : Nat) (l0 : Nat) (l1 : Int32) (l2 : Nat) (l3 : Int32) (l4 : Nat) (l5 : Int32) (l6 : Nat) (l7 : Int32) (l8 : Int32) (l9 : Nat) (l10 : Int32) (l11 : Int32) (l13 : Int32) (l14 : Int32) (l15 : Int32) (M : mM), B_X13_sealIt_96 G F r86 n l0 l1 l2 l3 l4 l5 l6 l7 l8 l9 l10 l11 l13 l14 l15 M = some M0 → WW x (sz, 0, 0) M 96 [(0, .ref l0), (1, .int l1), (2, .ref l2), (3, .int l3), (4, .ref l4), (5, .int l5), (6, .ref l6), (7, .int l7), (8, .int l8), (9, .ref l9), (10, .int l10), (11, .int l11), (13, .int l13), (14, .int l14), (15, .int l15)] [] := by
  intro n
  induction n with
  | zero =>
    intro l0 l1 l2 l3 l4 l5 l6 l7 l8 l9 l10 l11 l13 l14 l15 M h
    exact nomatch (show (none : Option mM) = some M0 from h)
  | succ n ih =>
    intro l0 l1 l2 l3 l4 l5 l6 l7 l8 l9 l10 l11 l13 l14 l15 M h
    rw [B_X13_sealIt_96] at h
    refine ww_iload 96 X dX13_sealIt_96 14 rfl ?_
    refine ww_bipush 98 X (v := (16 : Int32)) dX13_sealIt_98 (by decide) ?_
    refine ww_icmp_ge 100 183 X dX13_sealIt_100 (by decide) (fun q => ?_) (fun q => ?_)
    · replace h := (if_pos q).symm.trans h
      refine ww_aload_n 183 X dX13_sealIt_183 0 rfl rfl ?_
      obtain ⟨_, f184, h⟩ := bO_some h
      obtain ⟨M184, e184, h⟩ := bO_some h
      refine ww_callVV0 184 X dX13_sealIt_184 mY_X13_forth mL_X13_611 (rcv_spec f184) ⟨_, _, rfl⟩ (by decide) (As := []) (rest := []) rfl rfl ⟨Nat.le_of_ble_eq_true rfl, Nat.le_of_ble_eq_true rfl⟩ (Nat.le_of_ble_eq_true rfl) (fun l D A => c_X13_forth l D A e184) ?_
      refine ww_aload_n 187 X dX13_sealIt_187 0 rfl rfl ?_
      refine ww_aload_n 188 X dX13_sealIt_188 0 rfl rfl ?_
      obtain ⟨v189, e189, h⟩ := bO_some h
      refine ww_getR 189 X dX13_sealIt_189 fG_X13_110 e189 ?_
      refine ww_iload 192 X dX13_sealIt_192 13 rfl ?_
      obtain ⟨_, f194, h⟩ := bO_some h
      obtain ⟨M194, e194, h⟩ := bO_some h
      refine ww_callVV0 194 X dX13_sealIt_194 mY_X13_getCells mL_X13_614 (rcv_spec f194) ⟨_, _, rfl⟩ (by decide) (As := [.ref v189, .int l14]) (rest := []) rfl rfl ⟨Nat.le_of_ble_eq_true rfl, Nat.le_of_ble_eq_true rfl⟩ (Nat.le_of_ble_eq_true rfl) (fun l D A => c_X13_getCells l D A e194) ?_
      refine ww_iinc 197 X dX13_sealIt_197 (lv' := [(0, .ref l0), (1, .int l1), (2, .ref l2), (3, .int l3), (4, .ref l4), (5, .int l5), (6, .ref l6), (7, .int l7), (8, .int l8), (9, .ref l9), (10, .int l10), (11, .int l11), (13, .int l13), (14, .int (l14 + 16)), (15, .int l15)]) 13 rfl rfl (by decide) [1, 2, 3, 4, 5, 6, 7, 8, 9, 10, 11, 12, 13, 0, 14] rfl ?_
      refine ww_goto 200 86 X dX13_sealIt_200 (by decide) ?_
      exact ww_sub [0, 1, 2, 3, 4, 5, 6, 7, 8, 9, 10, 11, 12, 13] rfl (hr86 _ _ _ _ _ _ _ _ _ _ _ _ _ _ _ h)
    · replace h := (if_neg q).symm.trans h
      refine ww_iload 103 X dX13_sealIt_103 13 rfl ?_
      refine ww_iload 105 X dX13_sealIt_105 14 rfl ?_
      refine ww_iadd 107 X dX13_sealIt_107 ?_
      refine ww_iload 108 X dX13_sealIt_108 11 rfl ?_
      refine ww_icmp_ge 110 127 X dX13_sealIt_110 (by decide) (fun q => ?_) (fun q => ?_)
      · replace h := (if_pos q).symm.trans h
        refine ww_iload 127 X dX13_sealIt_127 12 rfl ?_
        refine ww_iload 129 X dX13_sealIt_129 11 rfl ?_
        refine ww_isub 131 X dX13_sealIt_131 ?_
        exact (wB_X13_sealIt_132 X hQ _ hr86 _ ih h)
      · replace h := (if_neg q).symm.trans h
        refine ww_aload 113 X dX13_sealIt_113 9 rfl ?_
        refine ww_iload 115 X dX13_sealIt_115 10 rfl ?_
        refine ww_iload 117 X dX13_sealIt_117 13 rfl ?_
        refine ww_iadd 119 X dX13_sealIt_119 ?_
        refine ww_iload 120 X dX13_sealIt_120 14 rfl ?_
        refine ww_iadd 122 X dX13_sealIt_122 ?_
        obtain ⟨v123, e123, h⟩ := bO_some h
        refine ww_bald 123 X dX13_sealIt_123 e123 ?_
        refine ww_goto 124 132 X dX13_sealIt_124 (by decide) ?_
        exact (wB_X13_sealIt_132 X hQ _ hr86 _ ih h)
set_option maxHeartbeats 4000000 in
set_option maxRecDepth 100000 in
theorem wB_X13_sealIt_86 {G : mG} {F : Nat} {x : mXT} {sz : Nat} {M0 : mM} (X : mCX G RX13 cX13_sealIt 17 none "sealIt" rmX13_sealIt x) (hQ : mQV x M0 (sz, 0, 0)) : ∀ (n : Nat) (l0 : Nat) (l1 : Int32) (l2 : Nat) (l3 : Int32) (l4 : Nat) (l5 : Int32) (l6 : Nat) (l7 : Int32) (l8 : Int32) (l9 : Nat) (l10 : Int32) (l11 : Int32) (l13 : Int32) (l14 : Int32) (M : mM), B_X13_sealIt_86 G F n l0 l1 l2 l3 l4 l5 l6 l7 l8 l9 l10 l11 l13 l14 M = some M0 → WW x (sz, 0, 0) M 86 [(0, .ref l0), (1, .int l1), (2, .ref l2), (3, .int l3), (4, .ref l4), (5, .int l5), (6, .ref l6), (7, .int l7), (8, .int l8), (9, .ref l9), (10, .int l10), (11, .int l11), (13, .int l13), (14, .int l14)] [] := by
  intro n
  induction n with
  | zero =>
    intro l0 l1 l2 l3 l4 l5 l6 l7 l8 l9 l10 l11 l13 l14 M h
    exact nomatch (show (none : Option mM) = some M0 from h)
  | succ n ih =>
    intro l0 l1 l2 l3 l4 l5 l6 l7 l8 l9 l10 l11 l13 l14 M h
    rw [B_X13_sealIt_86] at h
    refine ww_iload 86 X dX13_sealIt_86 13 rfl ?_
    refine ww_iload 88 X dX13_sealIt_88 12 rfl ?_
    refine ww_icmp_ge 90 203 X dX13_sealIt_90 (by decide) (fun q => ?_) (fun q => ?_)
    · replace h := (if_pos q).symm.trans h
      refine ww_aload_n 203 X dX13_sealIt_203 0 rfl rfl ?_
      refine ww_iload 204 X dX13_sealIt_204 12 rfl ?_
      obtain ⟨M206, e206, h⟩ := bO_some h
      refine ww_putI 206 X dX13_sealIt_206 (fP_X13_659 _) e206 ?_
      refine ww_aload_n 209 X dX13_sealIt_209 0 rfl rfl ?_
      refine ww_iload_n 210 X dX13_sealIt_210 1 rfl rfl ?_
      refine ww_aload_n 211 X dX13_sealIt_211 2 rfl rfl ?_
      refine ww_iload_n 212 X dX13_sealIt_212 3 rfl rfl ?_
      refine ww_aload 213 X dX13_sealIt_213 4 rfl ?_
      refine ww_iload 215 X dX13_sealIt_215 5 rfl ?_
      refine ww_aload 217 X dX13_sealIt_217 6 rfl ?_
      refine ww_iload 219 X dX13_sealIt_219 7 rfl ?_
      refine ww_iload 221 X dX13_sealIt_221 8 rfl ?_
      refine ww_aload_n 223 X dX13_sealIt_223 0 rfl rfl ?_
      obtain ⟨v224, e224, h⟩ := bO_some h
      refine ww_getR 224 X dX13_sealIt_224 fG_X13_110 e224 ?_
      refine ww_iconst 227 X (v := (0 : Int32)) dX13_sealIt_227 (by decide) ?_
      refine ww_iload 228 X dX13_sealIt_228 12 rfl ?_
      obtain ⟨_, f230, h⟩ := bO_some h
      obtain ⟨M230, e230, h⟩ := bO_some h
      refine ww_callVV0 230 X dX13_sealIt_230 mY_X13_codeMark mL_X13_669 (rcv_spec f230) ⟨_, _, rfl⟩ (by decide) (As := [.int l1, .ref l2, .int l3, .ref l4, .int l5, .ref l6, .int l7, .int l8, .ref v224, .int (0 : Int32), .int l13]) (rest := []) rfl rfl ⟨Nat.le_of_ble_eq_true rfl, Nat.le_of_ble_eq_true rfl⟩ (Nat.le_of_ble_eq_true rfl) (fun l D A => c_X13_codeMark l D A e230) ?_
      exact ww_vretE 233 X hQ dX13_sealIt_233 h
    · replace h := (if_neg q).symm.trans h
      refine ww_iconst 93 X (v := (0 : Int32)) dX13_sealIt_93 (by decide) ?_
      refine ww_istore 94 X dX13_sealIt_94 (lv' := [(0, .ref l0), (1, .int l1), (2, .ref l2), (3, .int l3), (4, .ref l4), (5, .int l5), (6, .ref l6), (7, .int l7), (8, .int l8), (9, .ref l9), (10, .int l10), (11, .int l11), (13, .int l13), (14, .int l14), (15, .int (0 : Int32))]) (by decide) [1, 2, 3, 4, 5, 6, 7, 8, 9, 10, 11, 12, 13, 14, 0] rfl ?_
      exact (wB_X13_sealIt_96 X hQ _ ih F _ _ _ _ _ _ _ _ _ _ _ _ _ _ _ _ h)
set_option maxHeartbeats 4000000 in
set_option maxRecDepth 100000 in
theorem wP_X13_sealIt {G : mG} {F : Nat} {x : mXT} {sz : Nat} {M0 : mM} (X : mCX G RX13 cX13_sealIt 17 none "sealIt" rmX13_sealIt x) (hQ : mQV x M0 (sz, 0, 0)) {l0 : Nat} {l1 : Int32} {l2 : Nat} {l3 : Int32} {l4 : Nat} {l5 : Int32} {l6 : Nat} {l7 : Int32} {l8 : Int32} {l9 : Nat} {l10 : Int32} {l11 : Int32} {M : mM} (h : P_X13_sealIt G F l0 l1 l2 l3 l4 l5 l6 l7 l8 l9 l10 l11 M = some M0) : WW x (sz, 0, 0) M 0 [(0, .ref l0), (1, .int l1), (2, .ref l2), (3, .int l3), (4, .ref l4), (5, .int l5), (6, .ref l6), (7, .int l7), (8, .int l8), (9, .ref l9), (10, .int l10), (11, .int l11)] [] := by
  unfold P_X13_sealIt at h
  refine ww_iload_n 0 X dX13_sealIt_0 1 rfl rfl ?_
  refine ww_iconst 1 X (v := (1 : Int32)) dX13_sealIt_1 (by decide) ?_
  refine ww_icmp_le 2 51 X dX13_sealIt_2 (by decide) (fun q => ?_) (fun q => ?_)
  · replace h := (if_pos q).symm.trans h
    refine ww_iload_n 51 X dX13_sealIt_51 1 rfl rfl ?_
    obtain ⟨v52, M52, e52, h⟩ := bP_some h
    refine ww_callSI0 52 X dX13_sealIt_52 mY_X13_keyOf mL_X13_629 (As := [.int l1]) (rest := []) rfl rfl ⟨Nat.le_of_ble_eq_true rfl, Nat.le_of_ble_eq_true rfl⟩ (Nat.le_of_ble_eq_true rfl) (fun l D A => c_X13_keyOf l D A e52) ?_
    refine ww_iconst 55 X (v := (2 : Int32)) dX13_sealIt_55 (by decide) ?_
    refine ww_idiv 56 X (v := (v52 / (2 : Int32))) dX13_sealIt_56 rfl ?_
    refine ww_istore 57 X dX13_sealIt_57 (lv' := [(0, .ref l0), (1, .int l1), (2, .ref l2), (3, .int l3), (4, .ref l4), (5, .int l5), (6, .ref l6), (7, .int l7), (8, .int l8), (9, .ref l9), (10, .int l10), (11, .int l11), (12, .int (v52 / (2 : Int32)))]) (by decide) [1, 2, 3, 4, 5, 6, 7, 8, 9, 10, 11, 12, 0] rfl ?_
    refine ww_aload_n 59 X dX13_sealIt_59 0 rfl rfl ?_
    refine ww_aload_n 60 X dX13_sealIt_60 2 rfl rfl ?_
    refine ww_iload_n 61 X dX13_sealIt_61 3 rfl rfl ?_
    refine ww_iload 62 X dX13_sealIt_62 12 rfl ?_
    refine ww_iadd 64 X dX13_sealIt_64 ?_
    refine ww_iload 65 X dX13_sealIt_65 12 rfl ?_
    obtain ⟨_, f67, h⟩ := bO_some h
    obtain ⟨M67, e67, h⟩ := bO_some h
    refine ww_callVV0 67 X dX13_sealIt_67 mY_X13_setKey mL_X13_601 (rcv_spec f67) ⟨_, _, rfl⟩ (by decide) (As := [.ref l2, .int (l3 + (v52 / (2 : Int32))), .int (v52 / (2 : Int32))]) (rest := []) rfl rfl ⟨Nat.le_of_ble_eq_true rfl, Nat.le_of_ble_eq_true rfl⟩ (Nat.le_of_ble_eq_true rfl) (fun l D A => c_X13_setKey l D A e67) ?_
    refine ww_iload 70 X dX13_sealIt_70 11 rfl ?_
    refine ww_bipush 72 X (v := (16 : Int32)) dX13_sealIt_72 (by decide) ?_
    refine ww_iadd 74 X dX13_sealIt_74 ?_
    refine ww_iload 75 X dX13_sealIt_75 11 rfl ?_
    refine ww_bipush 77 X (v := (16 : Int32)) dX13_sealIt_77 (by decide) ?_
    refine ww_irem 79 X (v := (l11 - l11 / (16 : Int32) * (16 : Int32))) dX13_sealIt_79 rfl ?_
    refine ww_isub 80 X dX13_sealIt_80 ?_
    refine ww_istore 81 X dX13_sealIt_81 (lv' := [(0, .ref l0), (1, .int l1), (2, .ref l2), (3, .int l3), (4, .ref l4), (5, .int l5), (6, .ref l6), (7, .int l7), (8, .int l8), (9, .ref l9), (10, .int l10), (11, .int l11), (12, .int (v52 / (2 : Int32))), (13, .int ((l11 + (16 : Int32)) - (l11 - l11 / (16 : Int32) * (16 : Int32))))]) (by decide) [1, 2, 3, 4, 5, 6, 7, 8, 9, 10, 11, 12, 13, 0] rfl ?_
    refine ww_iconst 83 X (v := (0 : Int32)) dX13_sealIt_83 (by decide) ?_
    refine ww_istore 84 X dX13_sealIt_84 (lv' := [(0, .ref l0), (1, .int l1), (2, .ref l2), (3, .int l3), (4, .ref l4), (5, .int l5), (6, .ref l6), (7, .int l7), (8, .int l8), (9, .ref l9), (10, .int l10), (11, .int l11), (12, .int (v52 / (2 : Int32))), (13, .int ((l11 + (16 : Int32)) - (l11 - l11 / (16 : Int32) * (16 : Int32)))), (14, .int (0 : Int32))]) (by decide) [1, 2, 3, 4, 5, 6, 7, 8, 9, 10, 11, 12, 13, 14, 0] rfl ?_
    exact ww_sub [0, 1, 2, 3, 4, 5, 6, 7, 8, 9, 10, 11, 13, 14] rfl (wB_X13_sealIt_86 X hQ F _ _ _ _ _ _ _ _ _ _ _ _ _ _ _ h)
  · replace h := (if_neg q).symm.trans h
    refine ww_aload_n 5 X dX13_sealIt_5 0 rfl rfl ?_
    refine ww_aload_n 6 X dX13_sealIt_6 2 rfl rfl ?_
    refine ww_iload_n 7 X dX13_sealIt_7 3 rfl rfl ?_
    refine ww_iload_n 8 X dX13_sealIt_8 1 rfl rfl ?_
    obtain ⟨v9, M9, e9, h⟩ := bP_some h
    refine ww_callSI0 9 X dX13_sealIt_9 mY_X13_keyOf mL_X13_629 (As := [.int l1]) (rest := [.int l3, .ref l2, .ref l0]) rfl rfl ⟨Nat.le_of_ble_eq_true rfl, Nat.le_of_ble_eq_true rfl⟩ (Nat.le_of_ble_eq_true rfl) (fun l D A => c_X13_keyOf l D A e9) ?_
    obtain ⟨_, f12, h⟩ := bO_some h
    obtain ⟨M12, e12, h⟩ := bO_some h
    refine ww_callVV0 12 X dX13_sealIt_12 mY_X13_setKey mL_X13_601 (rcv_spec f12) ⟨_, _, rfl⟩ (by decide) (As := [.ref l2, .int l3, .int v9]) (rest := []) rfl rfl ⟨Nat.le_of_ble_eq_true rfl, Nat.le_of_ble_eq_true rfl⟩ (Nat.le_of_ble_eq_true rfl) (fun l D A => c_X13_setKey l D A e12) ?_
    refine ww_aload_n 15 X dX13_sealIt_15 0 rfl rfl ?_
    refine ww_aload 16 X dX13_sealIt_16 4 rfl ?_
    refine ww_iload 18 X dX13_sealIt_18 5 rfl ?_
    refine ww_aload 20 X dX13_sealIt_20 9 rfl ?_
    refine ww_iload 22 X dX13_sealIt_22 10 rfl ?_
    refine ww_iload 24 X dX13_sealIt_24 11 rfl ?_
    obtain ⟨_, f26, h⟩ := bO_some h
    obtain ⟨M26, e26, h⟩ := bO_some h
    refine ww_callVV0 26 X dX13_sealIt_26 mY_X13_stream mL_X13_662 (rcv_spec f26) ⟨_, _, rfl⟩ (by decide) (As := [.ref l4, .int l5, .ref l9, .int l10, .int l11]) (rest := []) rfl rfl ⟨Nat.le_of_ble_eq_true rfl, Nat.le_of_ble_eq_true rfl⟩ (Nat.le_of_ble_eq_true rfl) (fun l D A => c_X13_stream l D A e26) ?_
    refine ww_aload_n 29 X dX13_sealIt_29 0 rfl rfl ?_
    refine ww_aload 30 X dX13_sealIt_30 4 rfl ?_
    refine ww_iload 32 X dX13_sealIt_32 5 rfl ?_
    refine ww_aload 34 X dX13_sealIt_34 6 rfl ?_
    refine ww_iload 36 X dX13_sealIt_36 7 rfl ?_
    refine ww_iload 38 X dX13_sealIt_38 8 rfl ?_
    refine ww_aload_n 40 X dX13_sealIt_40 0 rfl rfl ?_
    obtain ⟨v41, e41, h⟩ := bO_some h
    refine ww_getR 41 X dX13_sealIt_41 fG_X13_110 e41 ?_
    refine ww_iconst 44 X (v := (0 : Int32)) dX13_sealIt_44 (by decide) ?_
    refine ww_iload 45 X dX13_sealIt_45 11 rfl ?_
    obtain ⟨_, f47, h⟩ := bO_some h
    obtain ⟨M47, e47, h⟩ := bO_some h
    refine ww_callVV0 47 X dX13_sealIt_47 mY_X13_sumMark mL_X13_665 (rcv_spec f47) ⟨_, _, rfl⟩ (by decide) (As := [.ref l4, .int l5, .ref l6, .int l7, .int l8, .ref v41, .int (0 : Int32), .int l11]) (rest := []) rfl rfl ⟨Nat.le_of_ble_eq_true rfl, Nat.le_of_ble_eq_true rfl⟩ (Nat.le_of_ble_eq_true rfl) (fun l D A => c_X13_sumMark l D A e47) ?_
    exact ww_vretE 50 X hQ dX13_sealIt_50 h
theorem c_X13_sealIt {G : mG} {F sz : Nat} {M0 : mM} (l : Launch) (D : mD) (A : Nat → Prop) {l0 : Nat} {l1 : Int32} {l2 : Nat} {l3 : Int32} {l4 : Nat} {l5 : Int32} {l6 : Nat} {l7 : Int32} {l8 : Int32} {l9 : Nat} {l10 : Int32} {l11 : Int32} {M : mM} (h : P_X13_sealIt G F l0 l1 l2 l3 l4 l5 l6 l7 l8 l9 l10 l11 M = some M0) : mMetV l D G A yX13_sealIt cX13_sealIt 17 none 7 175 0 0 [.ref l0, .int l1, .ref l2, .int l3, .ref l4, .int l5, .ref l6, .int l7, .int l8, .ref l9, .int l10, .int l11] M sz M0 sz := mMetV_of l D G A (by decide) (Nat.le_of_ble_eq_true rfl) (fun x X hQ => wP_X13_sealIt X hQ h)
/-! SealedTokensModel.openIt(I[BI[BI[BII[BII[BI)Z -/
theorem dX13_openIt_0 : decode cX13_openIt 0 = .ok (.iload_n 1, 1) := by decide +kernel
theorem dX13_openIt_1 : decode cX13_openIt 1 = .ok (.iconst 1, 1) := by decide +kernel
theorem dX13_openIt_2 : decode cX13_openIt 2 = .ok (.if_icmp .le 68, 3) := by decide +kernel
theorem dX13_openIt_5 : decode cX13_openIt 5 = .ok (.aload_n 0, 1) := by decide +kernel
theorem dX13_openIt_6 : decode cX13_openIt 6 = .ok (.aload_n 2, 1) := by decide +kernel
theorem dX13_openIt_7 : decode cX13_openIt 7 = .ok (.iload_n 3, 1) := by decide +kernel
theorem dX13_openIt_8 : decode cX13_openIt 8 = .ok (.iload_n 1, 1) := by decide +kernel
theorem dX13_openIt_9 : decode cX13_openIt 9 = .ok (.invokestatic 629, 3) := by decide +kernel
theorem dX13_openIt_12 : decode cX13_openIt 12 = .ok (.invokevirtual 601, 3) := by decide +kernel
theorem dX13_openIt_15 : decode cX13_openIt 15 = .ok (.aload_n 0, 1) := by decide +kernel
theorem dX13_openIt_16 : decode cX13_openIt 16 = .ok (.aload 4, 2) := by decide +kernel
theorem dX13_openIt_18 : decode cX13_openIt 18 = .ok (.iload 5, 2) := by decide +kernel
theorem dX13_openIt_20 : decode cX13_openIt 20 = .ok (.aload 6, 2) := by decide +kernel
theorem dX13_openIt_22 : decode cX13_openIt 22 = .ok (.iload 7, 2) := by decide +kernel
theorem dX13_openIt_24 : decode cX13_openIt 24 = .ok (.iload 8, 2) := by decide +kernel
theorem dX13_openIt_26 : decode cX13_openIt 26 = .ok (.aload 9, 2) := by decide +kernel
theorem dX13_openIt_28 : decode cX13_openIt 28 = .ok (.iload 10, 2) := by decide +kernel
theorem dX13_openIt_30 : decode cX13_openIt 30 = .ok (.iload 11, 2) := by decide +kernel
theorem dX13_openIt_32 : decode cX13_openIt 32 = .ok (.invokevirtual 665, 3) := by decide +kernel
theorem dX13_openIt_35 : decode cX13_openIt 35 = .ok (.aload_n 0, 1) := by decide +kernel
theorem dX13_openIt_36 : decode cX13_openIt 36 = .ok (.getfield 113, 3) := by decide +kernel
theorem dX13_openIt_39 : decode cX13_openIt 39 = .ok (.iconst 0, 1) := by decide +kernel
theorem dX13_openIt_40 : decode cX13_openIt 40 = .ok (.aload 12, 2) := by decide +kernel
theorem dX13_openIt_42 : decode cX13_openIt 42 = .ok (.iload 13, 2) := by decide +kernel
theorem dX13_openIt_44 : decode cX13_openIt 44 = .ok (.bipush 16, 2) := by decide +kernel
theorem dX13_openIt_46 : decode cX13_openIt 46 = .ok (.invokestatic 420, 3) := by decide +kernel
theorem dX13_openIt_49 : decode cX13_openIt 49 = .ok (.ifCond .ne 5, 3) := by decide +kernel
theorem dX13_openIt_52 : decode cX13_openIt 52 = .ok (.iconst 0, 1) := by decide +kernel
theorem dX13_openIt_53 : decode cX13_openIt 53 = .ok (.ireturn, 1) := by decide +kernel
theorem dX13_openIt_54 : decode cX13_openIt 54 = .ok (.aload_n 0, 1) := by decide +kernel
theorem dX13_openIt_55 : decode cX13_openIt 55 = .ok (.aload 4, 2) := by decide +kernel
theorem dX13_openIt_57 : decode cX13_openIt 57 = .ok (.iload 5, 2) := by decide +kernel
theorem dX13_openIt_59 : decode cX13_openIt 59 = .ok (.aload 9, 2) := by decide +kernel
theorem dX13_openIt_61 : decode cX13_openIt 61 = .ok (.iload 10, 2) := by decide +kernel
theorem dX13_openIt_63 : decode cX13_openIt 63 = .ok (.iload 11, 2) := by decide +kernel
theorem dX13_openIt_65 : decode cX13_openIt 65 = .ok (.invokevirtual 662, 3) := by decide +kernel
theorem dX13_openIt_68 : decode cX13_openIt 68 = .ok (.iconst 1, 1) := by decide +kernel
theorem dX13_openIt_69 : decode cX13_openIt 69 = .ok (.ireturn, 1) := by decide +kernel
theorem dX13_openIt_70 : decode cX13_openIt 70 = .ok (.aload_n 0, 1) := by decide +kernel
theorem dX13_openIt_71 : decode cX13_openIt 71 = .ok (.iload_n 1, 1) := by decide +kernel
theorem dX13_openIt_72 : decode cX13_openIt 72 = .ok (.aload_n 2, 1) := by decide +kernel
theorem dX13_openIt_73 : decode cX13_openIt 73 = .ok (.iload_n 3, 1) := by decide +kernel
theorem dX13_openIt_74 : decode cX13_openIt 74 = .ok (.aload 4, 2) := by decide +kernel
theorem dX13_openIt_76 : decode cX13_openIt 76 = .ok (.iload 5, 2) := by decide +kernel
theorem dX13_openIt_78 : decode cX13_openIt 78 = .ok (.aload 6, 2) := by decide +kernel
theorem dX13_openIt_80 : decode cX13_openIt 80 = .ok (.iload 7, 2) := by decide +kernel
theorem dX13_openIt_82 : decode cX13_openIt 82 = .ok (.iload 8, 2) := by decide +kernel
theorem dX13_openIt_84 : decode cX13_openIt 84 = .ok (.aload 9, 2) := by decide +kernel
theorem dX13_openIt_86 : decode cX13_openIt 86 = .ok (.iload 10, 2) := by decide +kernel
theorem dX13_openIt_88 : decode cX13_openIt 88 = .ok (.iload 11, 2) := by decide +kernel
theorem dX13_openIt_90 : decode cX13_openIt 90 = .ok (.invokevirtual 669, 3) := by decide +kernel
theorem dX13_openIt_93 : decode cX13_openIt 93 = .ok (.aload_n 0, 1) := by decide +kernel
theorem dX13_openIt_94 : decode cX13_openIt 94 = .ok (.getfield 113, 3) := by decide +kernel
theorem dX13_openIt_97 : decode cX13_openIt 97 = .ok (.iconst 0, 1) := by decide +kernel
theorem dX13_openIt_98 : decode cX13_openIt 98 = .ok (.aload 12, 2) := by decide +kernel
theorem dX13_openIt_100 : decode cX13_openIt 100 = .ok (.iload 13, 2) := by decide +kernel
theorem dX13_openIt_102 : decode cX13_openIt 102 = .ok (.iload_n 1, 1) := by decide +kernel
theorem dX13_openIt_103 : decode cX13_openIt 103 = .ok (.invokestatic 632, 3) := by decide +kernel
theorem dX13_openIt_106 : decode cX13_openIt 106 = .ok (.invokestatic 420, 3) := by decide +kernel
theorem dX13_openIt_109 : decode cX13_openIt 109 = .ok (.ifCond .eq 16, 3) := by decide +kernel
theorem dX13_openIt_112 : decode cX13_openIt 112 = .ok (.iload 11, 2) := by decide +kernel
theorem dX13_openIt_114 : decode cX13_openIt 114 = .ok (.ifCond .eq 11, 3) := by decide +kernel
theorem dX13_openIt_117 : decode cX13_openIt 117 = .ok (.iload 11, 2) := by decide +kernel
theorem dX13_openIt_119 : decode cX13_openIt 119 = .ok (.bipush 16, 2) := by decide +kernel
theorem dX13_openIt_121 : decode cX13_openIt 121 = .ok (.irem, 1) := by decide +kernel
theorem dX13_openIt_122 : decode cX13_openIt 122 = .ok (.ifCond .eq 5, 3) := by decide +kernel
theorem dX13_openIt_125 : decode cX13_openIt 125 = .ok (.iconst 0, 1) := by decide +kernel
theorem dX13_openIt_126 : decode cX13_openIt 126 = .ok (.ireturn, 1) := by decide +kernel
theorem dX13_openIt_127 : decode cX13_openIt 127 = .ok (.iload_n 1, 1) := by decide +kernel
theorem dX13_openIt_128 : decode cX13_openIt 128 = .ok (.invokestatic 629, 3) := by decide +kernel
theorem dX13_openIt_131 : decode cX13_openIt 131 = .ok (.iconst 2, 1) := by decide +kernel
theorem dX13_openIt_132 : decode cX13_openIt 132 = .ok (.idiv, 1) := by decide +kernel
theorem dX13_openIt_133 : decode cX13_openIt 133 = .ok (.istore 14, 2) := by decide +kernel
theorem dX13_openIt_135 : decode cX13_openIt 135 = .ok (.aload_n 0, 1) := by decide +kernel
theorem dX13_openIt_136 : decode cX13_openIt 136 = .ok (.aload_n 2, 1) := by decide +kernel
theorem dX13_openIt_137 : decode cX13_openIt 137 = .ok (.iload_n 3, 1) := by decide +kernel
theorem dX13_openIt_138 : decode cX13_openIt 138 = .ok (.iload 14, 2) := by decide +kernel
theorem dX13_openIt_140 : decode cX13_openIt 140 = .ok (.iadd, 1) := by decide +kernel
theorem dX13_openIt_141 : decode cX13_openIt 141 = .ok (.iload 14, 2) := by decide +kernel
theorem dX13_openIt_143 : decode cX13_openIt 143 = .ok (.invokevirtual 601, 3) := by decide +kernel
theorem dX13_openIt_146 : decode cX13_openIt 146 = .ok (.iconst 0, 1) := by decide +kernel
theorem dX13_openIt_147 : decode cX13_openIt 147 = .ok (.istore 15, 2) := by decide +kernel
theorem dX13_openIt_149 : decode cX13_openIt 149 = .ok (.iload 15, 2) := by decide +kernel
theorem dX13_openIt_151 : decode cX13_openIt 151 = .ok (.iload 11, 2) := by decide +kernel
theorem dX13_openIt_153 : decode cX13_openIt 153 = .ok (.if_icmp .ge 89, 3) := by decide +kernel
theorem dX13_openIt_156 : decode cX13_openIt 156 = .ok (.aload_n 0, 1) := by decide +kernel
theorem dX13_openIt_157 : decode cX13_openIt 157 = .ok (.aload 9, 2) := by decide +kernel
theorem dX13_openIt_159 : decode cX13_openIt 159 = .ok (.iload 10, 2) := by decide +kernel
theorem dX13_openIt_161 : decode cX13_openIt 161 = .ok (.iload 15, 2) := by decide +kernel
theorem dX13_openIt_163 : decode cX13_openIt 163 = .ok (.iadd, 1) := by decide +kernel
theorem dX13_openIt_164 : decode cX13_openIt 164 = .ok (.invokevirtual 604, 3) := by decide +kernel
theorem dX13_openIt_167 : decode cX13_openIt 167 = .ok (.aload_n 0, 1) := by decide +kernel
theorem dX13_openIt_168 : decode cX13_openIt 168 = .ok (.invokevirtual 608, 3) := by decide +kernel
theorem dX13_openIt_171 : decode cX13_openIt 171 = .ok (.iconst 0, 1) := by decide +kernel
theorem dX13_openIt_172 : decode cX13_openIt 172 = .ok (.istore 16, 2) := by decide +kernel
theorem dX13_openIt_174 : decode cX13_openIt 174 = .ok (.iload 16, 2) := by decide +kernel
theorem dX13_openIt_176 : decode cX13_openIt 176 = .ok (.bipush 16, 2) := by decide +kernel
theorem dX13_openIt_178 : decode cX13_openIt 178 = .ok (.if_icmp .ge 58, 3) := by decide +kernel
theorem dX13_openIt_181 : decode cX13_openIt 181 = .ok (.aload_n 0, 1) := by decide +kernel
theorem dX13_openIt_182 : decode cX13_openIt 182 = .ok (.getfield 110, 3) := by decide +kernel
theorem dX13_openIt_185 : decode cX13_openIt 185 = .ok (.iload 15, 2) := by decide +kernel
theorem dX13_openIt_187 : decode cX13_openIt 187 = .ok (.iload 16, 2) := by decide +kernel
theorem dX13_openIt_189 : decode cX13_openIt 189 = .ok (.iadd, 1) := by decide +kernel
theorem dX13_openIt_190 : decode cX13_openIt 190 = .ok (.aload_n 0, 1) := by decide +kernel
theorem dX13_openIt_191 : decode cX13_openIt 191 = .ok (.getfield 98, 3) := by decide +kernel
theorem dX13_openIt_194 : decode cX13_openIt 194 = .ok (.iload 16, 2) := by decide +kernel
theorem dX13_openIt_196 : decode cX13_openIt 196 = .ok (.iaload, 1) := by decide +kernel
theorem dX13_openIt_197 : decode cX13_openIt 197 = .ok (.iload 15, 2) := by decide +kernel
theorem dX13_openIt_199 : decode cX13_openIt 199 = .ok (.ifCond .ne 14, 3) := by decide +kernel
theorem dX13_openIt_202 : decode cX13_openIt 202 = .ok (.aload 4, 2) := by decide +kernel
theorem dX13_openIt_204 : decode cX13_openIt 204 = .ok (.iload 5, 2) := by decide +kernel
theorem dX13_openIt_206 : decode cX13_openIt 206 = .ok (.iload 16, 2) := by decide +kernel
theorem dX13_openIt_208 : decode cX13_openIt 208 = .ok (.iadd, 1) := by decide +kernel
theorem dX13_openIt_209 : decode cX13_openIt 209 = .ok (.baload, 1) := by decide +kernel
theorem dX13_openIt_210 : decode cX13_openIt 210 = .ok (.goto 17, 3) := by decide +kernel
theorem dX13_openIt_213 : decode cX13_openIt 213 = .ok (.aload 9, 2) := by decide +kernel
theorem dX13_openIt_215 : decode cX13_openIt 215 = .ok (.iload 10, 2) := by decide +kernel
theorem dX13_openIt_217 : decode cX13_openIt 217 = .ok (.iload 15, 2) := by decide +kernel
theorem dX13_openIt_219 : decode cX13_openIt 219 = .ok (.iadd, 1) := by decide +kernel
theorem dX13_openIt_220 : decode cX13_openIt 220 = .ok (.bipush 16, 2) := by decide +kernel
theorem dX13_openIt_222 : decode cX13_openIt 222 = .ok (.isub, 1) := by decide +kernel
theorem dX13_openIt_223 : decode cX13_openIt 223 = .ok (.iload 16, 2) := by decide +kernel
theorem dX13_openIt_225 : decode cX13_openIt 225 = .ok (.iadd, 1) := by decide +kernel
theorem dX13_openIt_226 : decode cX13_openIt 226 = .ok (.baload, 1) := by decide +kernel
theorem dX13_openIt_227 : decode cX13_openIt 227 = .ok (.ixor, 1) := by decide +kernel
theorem dX13_openIt_228 : decode cX13_openIt 228 = .ok (.i2b, 1) := by decide +kernel
theorem dX13_openIt_229 : decode cX13_openIt 229 = .ok (.bastore, 1) := by decide +kernel
theorem dX13_openIt_230 : decode cX13_openIt 230 = .ok (.iinc 16 1, 3) := by decide +kernel
theorem dX13_openIt_233 : decode cX13_openIt 233 = .ok (.goto (-59), 3) := by decide +kernel
theorem dX13_openIt_236 : decode cX13_openIt 236 = .ok (.iinc 15 16, 3) := by decide +kernel
theorem dX13_openIt_239 : decode cX13_openIt 239 = .ok (.goto (-90), 3) := by decide +kernel
theorem dX13_openIt_242 : decode cX13_openIt 242 = .ok (.aload_n 0, 1) := by decide +kernel
theorem dX13_openIt_243 : decode cX13_openIt 243 = .ok (.getfield 110, 3) := by decide +kernel
theorem dX13_openIt_246 : decode cX13_openIt 246 = .ok (.iload 11, 2) := by decide +kernel
theorem dX13_openIt_248 : decode cX13_openIt 248 = .ok (.iconst 1, 1) := by decide +kernel
theorem dX13_openIt_249 : decode cX13_openIt 249 = .ok (.isub, 1) := by decide +kernel
theorem dX13_openIt_250 : decode cX13_openIt 250 = .ok (.baload, 1) := by decide +kernel
theorem dX13_openIt_251 : decode cX13_openIt 251 = .ok (.sipush 255, 3) := by decide +kernel
theorem dX13_openIt_254 : decode cX13_openIt 254 = .ok (.iand, 1) := by decide +kernel
theorem dX13_openIt_255 : decode cX13_openIt 255 = .ok (.istore 15, 2) := by decide +kernel
theorem dX13_openIt_257 : decode cX13_openIt 257 = .ok (.iload 15, 2) := by decide +kernel
theorem dX13_openIt_259 : decode cX13_openIt 259 = .ok (.iconst 1, 1) := by decide +kernel
theorem dX13_openIt_260 : decode cX13_openIt 260 = .ok (.if_icmp .lt 14, 3) := by decide +kernel
theorem dX13_openIt_263 : decode cX13_openIt 263 = .ok (.iload 15, 2) := by decide +kernel
theorem dX13_openIt_265 : decode cX13_openIt 265 = .ok (.bipush 16, 2) := by decide +kernel
theorem dX13_openIt_267 : decode cX13_openIt 267 = .ok (.if_icmp .gt 7, 3) := by decide +kernel
theorem dX13_openIt_270 : decode cX13_openIt 270 = .ok (.iconst 1, 1) := by decide +kernel
theorem dX13_openIt_271 : decode cX13_openIt 271 = .ok (.goto 4, 3) := by decide +kernel
theorem dX13_openIt_274 : decode cX13_openIt 274 = .ok (.iconst 0, 1) := by decide +kernel
theorem dX13_openIt_275 : decode cX13_openIt 275 = .ok (.istore 16, 2) := by decide +kernel
theorem dX13_openIt_277 : decode cX13_openIt 277 = .ok (.iload 11, 2) := by decide +kernel
theorem dX13_openIt_279 : decode cX13_openIt 279 = .ok (.iload 15, 2) := by decide +kernel
theorem dX13_openIt_281 : decode cX13_openIt 281 = .ok (.isub, 1) := by decide +kernel
theorem dX13_openIt_282 : decode cX13_openIt 282 = .ok (.istore 17, 2) := by decide +kernel
theorem dX13_openIt_284 : decode cX13_openIt 284 = .ok (.iload 17, 2) := by decide +kernel
theorem dX13_openIt_286 : decode cX13_openIt 286 = .ok (.iload 11, 2) := by decide +kernel
theorem dX13_openIt_288 : decode cX13_openIt 288 = .ok (.if_icmp .ge 37, 3) := by decide +kernel
theorem dX13_openIt_291 : decode cX13_openIt 291 = .ok (.iload 16, 2) := by decide +kernel
theorem dX13_openIt_293 : decode cX13_openIt 293 = .ok (.ifCond .eq 32, 3) := by decide +kernel
theorem dX13_openIt_296 : decode cX13_openIt 296 = .ok (.aload_n 0, 1) := by decide +kernel
theorem dX13_openIt_297 : decode cX13_openIt 297 = .ok (.getfield 110, 3) := by decide +kernel
theorem dX13_openIt_300 : decode cX13_openIt 300 = .ok (.iload 17, 2) := by decide +kernel
theorem dX13_openIt_302 : decode cX13_openIt 302 = .ok (.baload, 1) := by decide +kernel
theorem dX13_openIt_303 : decode cX13_openIt 303 = .ok (.sipush 255, 3) := by decide +kernel
theorem dX13_openIt_306 : decode cX13_openIt 306 = .ok (.iand, 1) := by decide +kernel
theorem dX13_openIt_307 : decode cX13_openIt 307 = .ok (.iload 15, 2) := by decide +kernel
theorem dX13_openIt_309 : decode cX13_openIt 309 = .ok (.if_icmp .ne 7, 3) := by decide +kernel
theorem dX13_openIt_312 : decode cX13_openIt 312 = .ok (.iconst 1, 1) := by decide +kernel
theorem dX13_openIt_313 : decode cX13_openIt 313 = .ok (.goto 4, 3) := by decide +kernel
theorem dX13_openIt_316 : decode cX13_openIt 316 = .ok (.iconst 0, 1) := by decide +kernel
theorem dX13_openIt_317 : decode cX13_openIt 317 = .ok (.istore 16, 2) := by decide +kernel
theorem dX13_openIt_319 : decode cX13_openIt 319 = .ok (.iinc 17 1, 3) := by decide +kernel
theorem dX13_openIt_322 : decode cX13_openIt 322 = .ok (.goto (-38), 3) := by decide +kernel
theorem dX13_openIt_325 : decode cX13_openIt 325 = .ok (.aload_n 0, 1) := by decide +kernel
theorem dX13_openIt_326 : decode cX13_openIt 326 = .ok (.iload 11, 2) := by decide +kernel
theorem dX13_openIt_328 : decode cX13_openIt 328 = .ok (.iload 15, 2) := by decide +kernel
theorem dX13_openIt_330 : decode cX13_openIt 330 = .ok (.isub, 1) := by decide +kernel
theorem dX13_openIt_331 : decode cX13_openIt 331 = .ok (.putfield 659, 3) := by decide +kernel
theorem dX13_openIt_334 : decode cX13_openIt 334 = .ok (.iload 16, 2) := by decide +kernel
theorem dX13_openIt_336 : decode cX13_openIt 336 = .ok (.ireturn, 1) := by decide +kernel
abbrev rmX13_openIt : Room := { frames := 7, cells := 0, slots := 0, locals := 175 }
set_option maxHeartbeats 4000000 in
set_option maxRecDepth 100000 in
theorem wB_X13_openIt_284 {G : mG} {F : Nat} {x : mXT} {sz : Nat} {r0 : Int32} {M0 : mM} (X : mCX G RX13 cX13_openIt 18 (some .boolean) "openIt" rmX13_openIt x) (hQ : mQI x r0 M0 (sz, 0, 0)) : ∀ (n : Nat) (l0 : Nat) (l11 : Int32) (l15 : Int32) (l16 : Int32) (l17 : Int32) (M : mM), B_X13_openIt_284 G F n l0 l11 l15 l16 l17 M = some (r0, M0) → WW x (sz, 0, 0) M 284 [(0, .ref l0), (11, .int l11), (15, .int l15), (16, .int l16), (17, .int l17)] [] := by
  intro n
  induction n with
  | zero =>
    intro l0 l11 l15 l16 l17 M h
    exact nomatch (show (none : Option (Int32 × mM)) = some (r0, M0) from h)
  | succ n ih =>
    intro l0 l11 l15 l16 l17 M h
    rw [B_X13_openIt_284] at h
    refine ww_iload 284 X dX13_openIt_284 4 rfl ?_
    refine ww_iload 286 X dX13_openIt_286 1 rfl ?_
    refine ww_icmp_ge 288 325 X dX13_openIt_288 (by decide) (fun q => ?_) (fun q => ?_)
    · replace h := (if_pos q).symm.trans h
      refine ww_aload_n 325 X dX13_openIt_325 0 rfl rfl ?_
      refine ww_iload 326 X dX13_openIt_326 1 rfl ?_
      refine ww_iload 328 X dX13_openIt_328 2 rfl ?_
      refine ww_isub 330 X dX13_openIt_330 ?_
      obtain ⟨M331, e331, h⟩ := bO_some h
      refine ww_putI 331 X dX13_openIt_331 (fP_X13_659 _) e331 ?_
      refine ww_iload 334 X dX13_openIt_334 3 rfl ?_
      exact ww_zretE 336 X hQ dX13_openIt_336 h
    · replace h := (if_neg q).symm.trans h
      refine ww_iload 291 X dX13_openIt_291 3 rfl ?_
      refine ww_if_eq 293 325 X dX13_openIt_293 (by decide) (fun q => ?_) (fun q => ?_)
      · replace h := (if_pos q).symm.trans h
        refine ww_aload_n 325 X dX13_openIt_325 0 rfl rfl ?_
        refine ww_iload 326 X dX13_openIt_326 1 rfl ?_
        refine ww_iload 328 X dX13_openIt_328 2 rfl ?_
        refine ww_isub 330 X dX13_openIt_330 ?_
        obtain ⟨M331, e331, h⟩ := bO_some h
        refine ww_putI 331 X dX13_openIt_331 (fP_X13_659 _) e331 ?_
        refine ww_iload 334 X dX13_openIt_334 3 rfl ?_
        exact ww_zretE 336 X hQ dX13_openIt_336 h
      · replace h := (if_neg q).symm.trans h
        refine ww_aload_n 296 X dX13_openIt_296 0 rfl rfl ?_
        obtain ⟨v297, e297, h⟩ := bO_some h
        refine ww_getR 297 X dX13_openIt_297 fG_X13_110 e297 ?_
        refine ww_iload 300 X dX13_openIt_300 4 rfl ?_
        obtain ⟨v302, e302, h⟩ := bO_some h
        refine ww_bald 302 X dX13_openIt_302 e302 ?_
        refine ww_sipush 303 X (v := (255 : Int32)) dX13_openIt_303 (by decide) ?_
        refine ww_iand 306 X dX13_openIt_306 ?_
        refine ww_iload 307 X dX13_openIt_307 2 rfl ?_
        refine ww_icmp_ne 309 316 X dX13_openIt_309 (by decide) (fun q => ?_) (fun q => ?_)
        · replace h := (if_neg q).symm.trans h
          refine ww_iconst 316 X (v := (0 : Int32)) dX13_openIt_316 (by decide) ?_
          refine ww_istore 317 X dX13_openIt_317 (lv' := [(0, .ref l0), (11, .int l11), (15, .int l15), (16, .int (0 : Int32)), (17, .int l17)]) (by decide) [1, 2, 3, 0, 4] rfl ?_
          refine ww_iinc 319 X dX13_openIt_319 (lv' := [(0, .ref l0), (11, .int l11), (15, .int l15), (16, .int (0 : Int32)), (17, .int (l17 + 1))]) 4 rfl rfl (by decide) [1, 2, 3, 4, 0] rfl ?_
          refine ww_goto 322 284 X dX13_openIt_322 (by decide) ?_
          exact (ih _ _ _ _ _ _ h)
        · replace h := (if_pos q).symm.trans h
          refine ww_iconst 312 X (v := (1 : Int32)) dX13_openIt_312 (by decide) ?_
          refine ww_goto 313 317 X dX13_openIt_313 (by decide) ?_
          refine ww_istore 317 X dX13_openIt_317 (lv' := [(0, .ref l0), (11, .int l11), (15, .int l15), (16, .int (1 : Int32)), (17, .int l17)]) (by decide) [1, 2, 3, 0, 4] rfl ?_
          refine ww_iinc 319 X dX13_openIt_319 (lv' := [(0, .ref l0), (11, .int l11), (15, .int l15), (16, .int (1 : Int32)), (17, .int (l17 + 1))]) 4 rfl rfl (by decide) [1, 2, 3, 4, 0] rfl ?_
          refine ww_goto 322 284 X dX13_openIt_322 (by decide) ?_
          exact (ih _ _ _ _ _ _ h)
set_option maxHeartbeats 4000000 in
set_option maxRecDepth 100000 in
theorem wB_X13_openIt_174 {G : mG} {F : Nat} {x : mXT} {sz : Nat} {r0 : Int32} {M0 : mM} (X : mCX G RX13 cX13_openIt 18 (some .boolean) "openIt" rmX13_openIt x) (hQ : mQI x r0 M0 (sz, 0, 0)) (r149 : Nat → Nat → Int32 → Nat → Int32 → Int32 → Int32 → mM → Option (Int32 × mM)) (hr149 : ∀ (l0 : Nat) (l4 : Nat) (l5 : Int32) (l9 : Nat) (l10 : Int32) (l11 : Int32) (l15 : Int32) (M : mM), r149 l0 l4 l5 l9 l10 l11 l15 M = some (r0, M0) → WW x (sz, 0, 0) M 149 [(0, .ref l0), (4, .ref l4), (5, .int l5), (9, .ref l9), (10, .int l10), (11, .int l11), (15, .int l15)] []) : ∀ (n : Nat) (l0 : Nat) (l4 : Nat) (l5 : Int32) (l9 : Nat) (l10 : Int32) (l11 : Int32) (l15 : Int32) (l16 : Int32) (M : mM), B_X13_openIt_174 G F r149 n l0 l4 l5 l9 l10 l11 l15 l16 M = some (r0, M0) → WW x (sz, 0, 0) M 174 [(0, .ref l0), (4, .ref l4), (5, .int l5), (9, .ref l9), (10, .int l10), (11, .int l11), (15, .int l15), (16, .int l16)] [] := by
  intro n
  induction n with
  | zero =>
    intro l0 l4 l5 l9 l10 l11 l15 l16 M h
    exact nomatch (show (none : Option (Int32 × mM)) = some (r0, M0) from h)
  | succ n ih =>
    intro l0 l4 l5 l9 l10 l11 l15 l16 M h
    rw [B_X13_openIt_174] at h
    refine ww_iload 174 X dX13_openIt_174 7 rfl ?_
    refine ww_bipush 176 X (v := (16 : Int32)) dX13_openIt_176 (by decide) ?_
    refine ww_icmp_ge 178 236 X dX13_openIt_178 (by decide) (fun q => ?_) (fun q => ?_)
    · replace h := (if_pos q).symm.trans h
      refine ww_iinc 236 X dX13_openIt_236 (lv' := [(0, .ref l0), (4, .ref l4), (5, .int l5), (9, .ref l9), (10, .int l10), (11, .int l11), (15, .int (l15 + 16)), (16, .int l16)]) 6 rfl rfl (by decide) [1, 2, 3, 4, 5, 6, 0, 7] rfl ?_
      refine ww_goto 239 149 X dX13_openIt_239 (by decide) ?_
      exact ww_sub [0, 1, 2, 3, 4, 5, 6] rfl (hr149 _ _ _ _ _ _ _ _ h)
    · replace h := (if_neg q).symm.trans h
      refine ww_aload_n 181 X dX13_openIt_181 0 rfl rfl ?_
      obtain ⟨v182, e182, h⟩ := bO_some h
      refine ww_getR 182 X dX13_openIt_182 fG_X13_110 e182 ?_
      refine ww_iload 185 X dX13_openIt_185 6 rfl ?_
      refine ww_iload 187 X dX13_openIt_187 7 rfl ?_
      refine ww_iadd 189 X dX13_openIt_189 ?_
      refine ww_aload_n 190 X dX13_openIt_190 0 rfl rfl ?_
      obtain ⟨v191, e191, h⟩ := bO_some h
      refine ww_getR 191 X dX13_openIt_191 fG_X13_98 e191 ?_
      refine ww_iload 194 X dX13_openIt_194 7 rfl ?_
      obtain ⟨v196, e196, h⟩ := bO_some h
      refine ww_iald 196 X dX13_openIt_196 e196 ?_
      refine ww_iload 197 X dX13_openIt_197 6 rfl ?_
      refine ww_if_ne 199 213 X dX13_openIt_199 (by decide) (fun q => ?_) (fun q => ?_)
      · replace h := (if_neg q).symm.trans h
        refine ww_aload 213 X dX13_openIt_213 3 rfl ?_
        refine ww_iload 215 X dX13_openIt_215 4 rfl ?_
        refine ww_iload 217 X dX13_openIt_217 6 rfl ?_
        refine ww_iadd 219 X dX13_openIt_219 ?_
        refine ww_bipush 220 X (v := (16 : Int32)) dX13_openIt_220 (by decide) ?_
        refine ww_isub 222 X dX13_openIt_222 ?_
        refine ww_iload 223 X dX13_openIt_223 7 rfl ?_
        refine ww_iadd 225 X dX13_openIt_225 ?_
        obtain ⟨v226, e226, h⟩ := bO_some h
        refine ww_bald 226 X dX13_openIt_226 e226 ?_
        refine ww_ixor 227 X dX13_openIt_227 ?_
        refine ww_i2b 228 X dX13_openIt_228 ?_
        obtain ⟨M229, e229, h⟩ := bO_some h
        refine ww_bast 229 X dX13_openIt_229 e229 ?_
        refine ww_iinc 230 X dX13_openIt_230 (lv' := [(0, .ref l0), (4, .ref l4), (5, .int l5), (9, .ref l9), (10, .int l10), (11, .int l11), (15, .int l15), (16, .int (l16 + 1))]) 7 rfl rfl (by decide) [1, 2, 3, 4, 5, 6, 7, 0] rfl ?_
        refine ww_goto 233 174 X dX13_openIt_233 (by decide) ?_
        exact (ih _ _ _ _ _ _ _ _ _ h)
      · replace h := (if_pos q).symm.trans h
        refine ww_aload 202 X dX13_openIt_202 1 rfl ?_
        refine ww_iload 204 X dX13_openIt_204 2 rfl ?_
        refine ww_iload 206 X dX13_openIt_206 7 rfl ?_
        refine ww_iadd 208 X dX13_openIt_208 ?_
        obtain ⟨v209, e209, h⟩ := bO_some h
        refine ww_bald 209 X dX13_openIt_209 e209 ?_
        refine ww_goto 210 227 X dX13_openIt_210 (by decide) ?_
        refine ww_ixor 227 X dX13_openIt_227 ?_
        refine ww_i2b 228 X dX13_openIt_228 ?_
        obtain ⟨M229, e229, h⟩ := bO_some h
        refine ww_bast 229 X dX13_openIt_229 e229 ?_
        refine ww_iinc 230 X dX13_openIt_230 (lv' := [(0, .ref l0), (4, .ref l4), (5, .int l5), (9, .ref l9), (10, .int l10), (11, .int l11), (15, .int l15), (16, .int (l16 + 1))]) 7 rfl rfl (by decide) [1, 2, 3, 4, 5, 6, 7, 0] rfl ?_
        refine ww_goto 233 174 X dX13_openIt_233 (by decide) ?_
        exact (ih _ _ _ _ _ _ _ _ _ h)
set_option maxHeartbeats 4000000 in
set_option maxRecDepth 100000 in
theorem wB_X13_openIt_149 {G : mG} {F : Nat} {x : mXT} {sz : Nat} {r0 : Int32} {M0 : mM} (X : mCX G RX13 cX13_openIt 18 (some .boolean) "openIt" rmX13_openIt x) (hQ : mQI x r0 M0 (sz, 0, 0)) : ∀ (n : Nat) (l0 : Nat) (l4 : Nat) (l5 : Int32) (l9 : Nat) (l10 : Int32) (l11 : Int32) (l15 : Int32) (M : mM), B_X13_openIt_149 G F n l0 l4 l5 l9 l10 l11 l15 M = some (r0, M0) → WW x (sz, 0, 0) M 149 [(0, .ref l0), (4, .ref l4), (5, .int l5), (9, .ref l9), (10, .int l10), (11, .int l11), (15, .int l15)] [] := by
  intro n
  induction n with
  | zero =>
    intro l0 l4 l5 l9 l10 l11 l15 M h
    exact nomatch (show (none : Option (Int32 × mM)) = some (r0, M0) from h)
  | succ n ih =>
    intro l0 l4 l5 l9 l10 l11 l15 M h
    rw [B_X13_openIt_149] at h
    refine ww_iload 149 X dX13_openIt_149 6 rfl ?_
    refine ww_iload 151 X dX13_openIt_151 5 rfl ?_
    refine ww_icmp_ge 153 242 X dX13_openIt_153 (by decide) (fun q => ?_) (fun q => ?_)
    · replace h := (if_pos q).symm.trans h
      refine ww_aload_n 242 X dX13_openIt_242 0 rfl rfl ?_
      obtain ⟨v243, e243, h⟩ := bO_some h
      refine ww_getR 243 X dX13_openIt_243 fG_X13_110 e243 ?_
      refine ww_iload 246 X dX13_openIt_246 5 rfl ?_
      refine ww_iconst 248 X (v := (1 : Int32)) dX13_openIt_248 (by decide) ?_
      refine ww_isub 249 X dX13_openIt_249 ?_
      obtain ⟨v250, e250, h⟩ := bO_some h
      refine ww_bald 250 X dX13_openIt_250 e250 ?_
      refine ww_sipush 251 X (v := (255 : Int32)) dX13_openIt_251 (by decide) ?_
      refine ww_iand 254 X dX13_openIt_254 ?_
      refine ww_istore 255 X dX13_openIt_255 (lv' := [(0, .ref l0), (4, .ref l4), (5, .int l5), (9, .ref l9), (10, .int l10), (11, .int l11), (15, .int (v250 &&& (255 : Int32)))]) (by decide) [1, 2, 3, 4, 5, 6, 0] rfl ?_
      refine ww_iload 257 X dX13_openIt_257 6 rfl ?_
      refine ww_iconst 259 X (v := (1 : Int32)) dX13_openIt_259 (by decide) ?_
      refine ww_icmp_lt 260 274 X dX13_openIt_260 (by decide) (fun q => ?_) (fun q => ?_)
      · replace h := (if_pos q).symm.trans h
        refine ww_iconst 274 X (v := (0 : Int32)) dX13_openIt_274 (by decide) ?_
        refine ww_istore 275 X dX13_openIt_275 (lv' := [(0, .ref l0), (4, .ref l4), (5, .int l5), (9, .ref l9), (10, .int l10), (11, .int l11), (15, .int (v250 &&& (255 : Int32))), (16, .int (0 : Int32))]) (by decide) [1, 2, 3, 4, 5, 6, 7, 0] rfl ?_
        refine ww_iload 277 X dX13_openIt_277 5 rfl ?_
        refine ww_iload 279 X dX13_openIt_279 6 rfl ?_
        refine ww_isub 281 X dX13_openIt_281 ?_
        refine ww_istore 282 X dX13_openIt_282 (lv' := [(0, .ref l0), (4, .ref l4), (5, .int l5), (9, .ref l9), (10, .int l10), (11, .int l11), (15, .int (v250 &&& (255 : Int32))), (16, .int (0 : Int32)), (17, .int (l11 - (v250 &&& (255 : Int32))))]) (by decide) [1, 2, 3, 4, 5, 6, 7, 8, 0] rfl ?_
        exact ww_sub [0, 5, 6, 7, 8] rfl (wB_X13_openIt_284 X hQ F _ _ _ _ _ _ h)
      · replace h := (if_neg q).symm.trans h
        refine ww_iload 263 X dX13_openIt_263 6 rfl ?_
        refine ww_bipush 265 X (v := (16 : Int32)) dX13_openIt_265 (by decide) ?_
        refine ww_icmp_gt 267 274 X dX13_openIt_267 (by decide) (fun q => ?_) (fun q => ?_)
        · replace h := (if_pos q).symm.trans h
          refine ww_iconst 274 X (v := (0 : Int32)) dX13_openIt_274 (by decide) ?_
          refine ww_istore 275 X dX13_openIt_275 (lv' := [(0, .ref l0), (4, .ref l4), (5, .int l5), (9, .ref l9), (10, .int l10), (11, .int l11), (15, .int (v250 &&& (255 : Int32))), (16, .int (0 : Int32))]) (by decide) [1, 2, 3, 4, 5, 6, 7, 0] rfl ?_
          refine ww_iload 277 X dX13_openIt_277 5 rfl ?_
          refine ww_iload 279 X dX13_openIt_279 6 rfl ?_
          refine ww_isub 281 X dX13_openIt_281 ?_
          refine ww_istore 282 X dX13_openIt_282 (lv' := [(0, .ref l0), (4, .ref l4), (5, .int l5), (9, .ref l9), (10, .int l10), (11, .int l11), (15, .int (v250 &&& (255 : Int32))), (16, .int (0 : Int32)), (17, .int (l11 - (v250 &&& (255 : Int32))))]) (by decide) [1, 2, 3, 4, 5, 6, 7, 8, 0] rfl ?_
          exact ww_sub [0, 5, 6, 7, 8] rfl (wB_X13_openIt_284 X hQ F _ _ _ _ _ _ h)
        · replace h := (if_neg q).symm.trans h
          refine ww_iconst 270 X (v := (1 : Int32)) dX13_openIt_270 (by decide) ?_
          refine ww_goto 271 275 X dX13_openIt_271 (by decide) ?_
          refine ww_istore 275 X dX13_openIt_275 (lv' := [(0, .ref l0), (4, .ref l4), (5, .int l5), (9, .ref l9), (10, .int l10), (11, .int l11), (15, .int (v250 &&& (255 : Int32))), (16, .int (1 : Int32))]) (by decide) [1, 2, 3, 4, 5, 6, 7, 0] rfl ?_
          refine ww_iload 277 X dX13_openIt_277 5 rfl ?_
          refine ww_iload 279 X dX13_openIt_279 6 rfl ?_
          refine ww_isub 281 X dX13_openIt_281 ?_
          refine ww_istore 282 X dX13_openIt_282 (lv' := [(0, .ref l0), (4, .ref l4), (5, .int l5), (9, .ref l9), (10, .int l10), (11, .int l11), (15, .int (v250 &&& (255 : Int32))), (16, .int (1 : Int32)), (17, .int (l11 - (v250 &&& (255 : Int32))))]) (by decide) [1, 2, 3, 4, 5, 6, 7, 8, 0] rfl ?_
          exact ww_sub [0, 5, 6, 7, 8] rfl (wB_X13_openIt_284 X hQ F _ _ _ _ _ _ h)
    · replace h := (if_neg q).symm.trans h
      refine ww_aload_n 156 X dX13_openIt_156 0 rfl rfl ?_
      refine ww_aload 157 X dX13_openIt_157 3 rfl ?_
      refine ww_iload 159 X dX13_openIt_159 4 rfl ?_
      refine ww_iload 161 X dX13_openIt_161 6 rfl ?_
      refine ww_iadd 163 X dX13_openIt_163 ?_
      obtain ⟨_, f164, h⟩ := bO_some h
      obtain ⟨M164, e164, h⟩ := bO_some h
      refine ww_callVV0 164 X dX13_openIt_164 mY_X13_setCells mL_X13_604 (rcv_spec f164) ⟨_, _, rfl⟩ (by decide) (As := [.ref l9, .int (l10 + l15)]) (rest := []) rfl rfl ⟨Nat.le_of_ble_eq_true rfl, Nat.le_of_ble_eq_true rfl⟩ (Nat.le_of_ble_eq_true rfl) (fun l D A => c_X13_setCells l D A e164) ?_
      refine ww_aload_n 167 X dX13_openIt_167 0 rfl rfl ?_
      obtain ⟨_, f168, h⟩ := bO_some h
      obtain ⟨M168, e168, h⟩ := bO_some h
      refine ww_callVV0 168 X dX13_openIt_168 mY_X13_back mL_X13_608 (rcv_spec f168) ⟨_, _, rfl⟩ (by decide) (As := []) (rest := []) rfl rfl ⟨Nat.le_of_ble_eq_true rfl, Nat.le_of_ble_eq_true rfl⟩ (Nat.le_of_ble_eq_true rfl) (fun l D A => c_X13_back l D A e168) ?_
      refine ww_iconst 171 X (v := (0 : Int32)) dX13_openIt_171 (by decide) ?_
      refine ww_istore 172 X dX13_openIt_172 (lv' := [(0, .ref l0), (4, .ref l4), (5, .int l5), (9, .ref l9), (10, .int l10), (11, .int l11), (15, .int l15), (16, .int (0 : Int32))]) (by decide) [1, 2, 3, 4, 5, 6, 7, 0] rfl ?_
      exact (wB_X13_openIt_174 X hQ _ ih F _ _ _ _ _ _ _ _ _ h)
set_option maxHeartbeats 4000000 in
set_option maxRecDepth 100000 in
theorem wP_X13_openIt {G : mG} {F : Nat} {x : mXT} {sz : Nat} {r0 : Int32} {M0 : mM} (X : mCX G RX13 cX13_openIt 18 (some .boolean) "openIt" rmX13_openIt x) (hQ : mQI x r0 M0 (sz, 0, 0)) {l0 : Nat} {l1 : Int32} {l2 : Nat} {l3 : Int32} {l4 : Nat} {l5 : Int32} {l6 : Nat} {l7 : Int32} {l8 : Int32} {l9 : Nat} {l10 : Int32} {l11 : Int32} {l12 : Nat} {l13 : Int32} {M : mM} (h : P_X13_openIt G F l0 l1 l2 l3 l4 l5 l6 l7 l8 l9 l10 l11 l12 l13 M = some (r0, M0)) : WW x (sz, 0, 0) M 0 [(0, .ref l0), (1, .int l1), (2, .ref l2), (3, .int l3), (4, .ref l4), (5, .int l5), (6, .ref l6), (7, .int l7), (8, .int l8), (9, .ref l9), (10, .int l10), (11, .int l11), (12, .ref l12), (13, .int l13)] [] := by
  unfold P_X13_openIt at h
  refine ww_iload_n 0 X dX13_openIt_0 1 rfl rfl ?_
  refine ww_iconst 1 X (v := (1 : Int32)) dX13_openIt_1 (by decide) ?_
  refine ww_icmp_le 2 70 X dX13_openIt_2 (by decide) (fun q => ?_) (fun q => ?_)
  · replace h := (if_pos q).symm.trans h
    refine ww_aload_n 70 X dX13_openIt_70 0 rfl rfl ?_
    refine ww_iload_n 71 X dX13_openIt_71 1 rfl rfl ?_
    refine ww_aload_n 72 X dX13_openIt_72 2 rfl rfl ?_
    refine ww_iload_n 73 X dX13_openIt_73 3 rfl rfl ?_
    refine ww_aload 74 X dX13_openIt_74 4 rfl ?_
    refine ww_iload 76 X dX13_openIt_76 5 rfl ?_
    refine ww_aload 78 X dX13_openIt_78 6 rfl ?_
    refine ww_iload 80 X dX13_openIt_80 7 rfl ?_
    refine ww_iload 82 X dX13_openIt_82 8 rfl ?_
    refine ww_aload 84 X dX13_openIt_84 9 rfl ?_
    refine ww_iload 86 X dX13_openIt_86 10 rfl ?_
    refine ww_iload 88 X dX13_openIt_88 11 rfl ?_
    obtain ⟨_, f90, h⟩ := bO_some h
    obtain ⟨M90, e90, h⟩ := bO_some h
    refine ww_callVV0 90 X dX13_openIt_90 mY_X13_codeMark mL_X13_669 (rcv_spec f90) ⟨_, _, rfl⟩ (by decide) (As := [.int l1, .ref l2, .int l3, .ref l4, .int l5, .ref l6, .int l7, .int l8, .ref l9, .int l10, .int l11]) (rest := []) rfl rfl ⟨Nat.le_of_ble_eq_true rfl, Nat.le_of_ble_eq_true rfl⟩ (Nat.le_of_ble_eq_true rfl) (fun l D A => c_X13_codeMark l D A e90) ?_
    refine ww_aload_n 93 X dX13_openIt_93 0 rfl rfl ?_
    obtain ⟨v94, e94, h⟩ := bO_some h
    refine ww_getR 94 X dX13_openIt_94 fG_X13_113 e94 ?_
    refine ww_iconst 97 X (v := (0 : Int32)) dX13_openIt_97 (by decide) ?_
    refine ww_aload 98 X dX13_openIt_98 12 rfl ?_
    refine ww_iload 100 X dX13_openIt_100 13 rfl ?_
    refine ww_iload_n 102 X dX13_openIt_102 1 rfl rfl ?_
    obtain ⟨v103, M103, e103, h⟩ := bP_some h
    refine ww_callSI0 103 X dX13_openIt_103 mY_X13_markOf mL_X13_632 (As := [.int l1]) (rest := [.int l13, .ref l12, .int (0 : Int32), .ref v94]) rfl rfl ⟨Nat.le_of_ble_eq_true rfl, Nat.le_of_ble_eq_true rfl⟩ (Nat.le_of_ble_eq_true rfl) (fun l D A => c_X13_markOf l D A e103) ?_
    obtain ⟨v106, M106, e106, h⟩ := bP_some h
    refine ww_callSI0 106 X dX13_openIt_106 mY_X13_same mL_X13_420 (As := [.ref v94, .int (0 : Int32), .ref l12, .int l13, .int v103]) (rest := []) rfl rfl ⟨Nat.le_of_ble_eq_true rfl, Nat.le_of_ble_eq_true rfl⟩ (Nat.le_of_ble_eq_true rfl) (fun l D A => c_X13_same l D A e106) ?_
    refine ww_if_eq 109 125 X dX13_openIt_109 (by decide) (fun q => ?_) (fun q => ?_)
    · replace h := (if_pos q).symm.trans h
      refine ww_iconst 125 X (v := (0 : Int32)) dX13_openIt_125 (by decide) ?_
      exact ww_zretE 126 X hQ dX13_openIt_126 h
    · replace h := (if_neg q).symm.trans h
      refine ww_iload 112 X dX13_openIt_112 11 rfl ?_
      refine ww_if_eq 114 125 X dX13_openIt_114 (by decide) (fun q => ?_) (fun q => ?_)
      · replace h := (if_pos q).symm.trans h
        refine ww_iconst 125 X (v := (0 : Int32)) dX13_openIt_125 (by decide) ?_
        exact ww_zretE 126 X hQ dX13_openIt_126 h
      · replace h := (if_neg q).symm.trans h
        refine ww_iload 117 X dX13_openIt_117 11 rfl ?_
        refine ww_bipush 119 X (v := (16 : Int32)) dX13_openIt_119 (by decide) ?_
        refine ww_irem 121 X (v := (l11 - l11 / (16 : Int32) * (16 : Int32))) dX13_openIt_121 rfl ?_
        refine ww_if_eq 122 127 X dX13_openIt_122 (by decide) (fun q => ?_) (fun q => ?_)
        · replace h := (if_pos q).symm.trans h
          refine ww_iload_n 127 X dX13_openIt_127 1 rfl rfl ?_
          obtain ⟨v128, M128, e128, h⟩ := bP_some h
          refine ww_callSI0 128 X dX13_openIt_128 mY_X13_keyOf mL_X13_629 (As := [.int l1]) (rest := []) rfl rfl ⟨Nat.le_of_ble_eq_true rfl, Nat.le_of_ble_eq_true rfl⟩ (Nat.le_of_ble_eq_true rfl) (fun l D A => c_X13_keyOf l D A e128) ?_
          refine ww_iconst 131 X (v := (2 : Int32)) dX13_openIt_131 (by decide) ?_
          refine ww_idiv 132 X (v := (v128 / (2 : Int32))) dX13_openIt_132 rfl ?_
          refine ww_istore 133 X dX13_openIt_133 (lv' := [(0, .ref l0), (1, .int l1), (2, .ref l2), (3, .int l3), (4, .ref l4), (5, .int l5), (6, .ref l6), (7, .int l7), (8, .int l8), (9, .ref l9), (10, .int l10), (11, .int l11), (12, .ref l12), (13, .int l13), (14, .int (v128 / (2 : Int32)))]) (by decide) [1, 2, 3, 4, 5, 6, 7, 8, 9, 10, 11, 12, 13, 14, 0] rfl ?_
          refine ww_aload_n 135 X dX13_openIt_135 0 rfl rfl ?_
          refine ww_aload_n 136 X dX13_openIt_136 2 rfl rfl ?_
          refine ww_iload_n 137 X dX13_openIt_137 3 rfl rfl ?_
          refine ww_iload 138 X dX13_openIt_138 14 rfl ?_
          refine ww_iadd 140 X dX13_openIt_140 ?_
          refine ww_iload 141 X dX13_openIt_141 14 rfl ?_
          obtain ⟨_, f143, h⟩ := bO_some h
          obtain ⟨M143, e143, h⟩ := bO_some h
          refine ww_callVV0 143 X dX13_openIt_143 mY_X13_setKey mL_X13_601 (rcv_spec f143) ⟨_, _, rfl⟩ (by decide) (As := [.ref l2, .int (l3 + (v128 / (2 : Int32))), .int (v128 / (2 : Int32))]) (rest := []) rfl rfl ⟨Nat.le_of_ble_eq_true rfl, Nat.le_of_ble_eq_true rfl⟩ (Nat.le_of_ble_eq_true rfl) (fun l D A => c_X13_setKey l D A e143) ?_
          refine ww_iconst 146 X (v := (0 : Int32)) dX13_openIt_146 (by decide) ?_
          refine ww_istore 147 X dX13_openIt_147 (lv' := [(0, .ref l0), (1, .int l1), (2, .ref l2), (3, .int l3), (4, .ref l4), (5, .int l5), (6, .ref l6), (7, .int l7), (8, .int l8), (9, .ref l9), (10, .int l10), (11, .int l11), (12, .ref l12), (13, .int l13), (14, .int (v128 / (2 : Int32))), (15, .int (0 : Int32))]) (by decide) [1, 2, 3, 4, 5, 6, 7, 8, 9, 10, 11, 12, 13, 14, 15, 0] rfl ?_
          exact ww_sub [0, 4, 5, 9, 10, 11, 15] rfl (wB_X13_openIt_149 X hQ F _ _ _ _ _ _ _ _ h)
        · replace h := (if_neg q).symm.trans h
          refine ww_iconst 125 X (v := (0 : Int32)) dX13_openIt_125 (by decide) ?_
          exact ww_zretE 126 X hQ dX13_openIt_126 h
  · replace h := (if_neg q).symm.trans h
    refine ww_aload_n 5 X dX13_openIt_5 0 rfl rfl ?_
    refine ww_aload_n 6 X dX13_openIt_6 2 rfl rfl ?_
    refine ww_iload_n 7 X dX13_openIt_7 3 rfl rfl ?_
    refine ww_iload_n 8 X dX13_openIt_8 1 rfl rfl ?_
    obtain ⟨v9, M9, e9, h⟩ := bP_some h
    refine ww_callSI0 9 X dX13_openIt_9 mY_X13_keyOf mL_X13_629 (As := [.int l1]) (rest := [.int l3, .ref l2, .ref l0]) rfl rfl ⟨Nat.le_of_ble_eq_true rfl, Nat.le_of_ble_eq_true rfl⟩ (Nat.le_of_ble_eq_true rfl) (fun l D A => c_X13_keyOf l D A e9) ?_
    obtain ⟨_, f12, h⟩ := bO_some h
    obtain ⟨M12, e12, h⟩ := bO_some h
    refine ww_callVV0 12 X dX13_openIt_12 mY_X13_setKey mL_X13_601 (rcv_spec f12) ⟨_, _, rfl⟩ (by decide) (As := [.ref l2, .int l3, .int v9]) (rest := []) rfl rfl ⟨Nat.le_of_ble_eq_true rfl, Nat.le_of_ble_eq_true rfl⟩ (Nat.le_of_ble_eq_true rfl) (fun l D A => c_X13_setKey l D A e12) ?_
    refine ww_aload_n 15 X dX13_openIt_15 0 rfl rfl ?_
    refine ww_aload 16 X dX13_openIt_16 4 rfl ?_
    refine ww_iload 18 X dX13_openIt_18 5 rfl ?_
    refine ww_aload 20 X dX13_openIt_20 6 rfl ?_
    refine ww_iload 22 X dX13_openIt_22 7 rfl ?_
    refine ww_iload 24 X dX13_openIt_24 8 rfl ?_
    refine ww_aload 26 X dX13_openIt_26 9 rfl ?_
    refine ww_iload 28 X dX13_openIt_28 10 rfl ?_
    refine ww_iload 30 X dX13_openIt_30 11 rfl ?_
    obtain ⟨_, f32, h⟩ := bO_some h
    obtain ⟨M32, e32, h⟩ := bO_some h
    refine ww_callVV0 32 X dX13_openIt_32 mY_X13_sumMark mL_X13_665 (rcv_spec f32) ⟨_, _, rfl⟩ (by decide) (As := [.ref l4, .int l5, .ref l6, .int l7, .int l8, .ref l9, .int l10, .int l11]) (rest := []) rfl rfl ⟨Nat.le_of_ble_eq_true rfl, Nat.le_of_ble_eq_true rfl⟩ (Nat.le_of_ble_eq_true rfl) (fun l D A => c_X13_sumMark l D A e32) ?_
    refine ww_aload_n 35 X dX13_openIt_35 0 rfl rfl ?_
    obtain ⟨v36, e36, h⟩ := bO_some h
    refine ww_getR 36 X dX13_openIt_36 fG_X13_113 e36 ?_
    refine ww_iconst 39 X (v := (0 : Int32)) dX13_openIt_39 (by decide) ?_
    refine ww_aload 40 X dX13_openIt_40 12 rfl ?_
    refine ww_iload 42 X dX13_openIt_42 13 rfl ?_
    refine ww_bipush 44 X (v := (16 : Int32)) dX13_openIt_44 (by decide) ?_
    obtain ⟨v46, M46, e46, h⟩ := bP_some h
    refine ww_callSI0 46 X dX13_openIt_46 mY_X13_same mL_X13_420 (As := [.ref v36, .int (0 : Int32), .ref l12, .int l13, .int (16 : Int32)]) (rest := []) rfl rfl ⟨Nat.le_of_ble_eq_true rfl, Nat.le_of_ble_eq_true rfl⟩ (Nat.le_of_ble_eq_true rfl) (fun l D A => c_X13_same l D A e46) ?_
    refine ww_if_ne 49 54 X dX13_openIt_49 (by decide) (fun q => ?_) (fun q => ?_)
    · replace h := (if_neg q).symm.trans h
      refine ww_aload_n 54 X dX13_openIt_54 0 rfl rfl ?_
      refine ww_aload 55 X dX13_openIt_55 4 rfl ?_
      refine ww_iload 57 X dX13_openIt_57 5 rfl ?_
      refine ww_aload 59 X dX13_openIt_59 9 rfl ?_
      refine ww_iload 61 X dX13_openIt_61 10 rfl ?_
      refine ww_iload 63 X dX13_openIt_63 11 rfl ?_
      obtain ⟨_, f65, h⟩ := bO_some h
      obtain ⟨M65, e65, h⟩ := bO_some h
      refine ww_callVV0 65 X dX13_openIt_65 mY_X13_stream mL_X13_662 (rcv_spec f65) ⟨_, _, rfl⟩ (by decide) (As := [.ref l4, .int l5, .ref l9, .int l10, .int l11]) (rest := []) rfl rfl ⟨Nat.le_of_ble_eq_true rfl, Nat.le_of_ble_eq_true rfl⟩ (Nat.le_of_ble_eq_true rfl) (fun l D A => c_X13_stream l D A e65) ?_
      refine ww_iconst 68 X (v := (1 : Int32)) dX13_openIt_68 (by decide) ?_
      exact ww_zretE 69 X hQ dX13_openIt_69 h
    · replace h := (if_pos q).symm.trans h
      refine ww_iconst 52 X (v := (0 : Int32)) dX13_openIt_52 (by decide) ?_
      exact ww_zretE 53 X hQ dX13_openIt_53 h
theorem c_X13_openIt {G : mG} {F sz : Nat} {r0 : Int32} {M0 : mM} (l : Launch) (D : mD) (A : Nat → Prop) {l0 : Nat} {l1 : Int32} {l2 : Nat} {l3 : Int32} {l4 : Nat} {l5 : Int32} {l6 : Nat} {l7 : Int32} {l8 : Int32} {l9 : Nat} {l10 : Int32} {l11 : Int32} {l12 : Nat} {l13 : Int32} {M : mM} (h : P_X13_openIt G F l0 l1 l2 l3 l4 l5 l6 l7 l8 l9 l10 l11 l12 l13 M = some (r0, M0)) : mMetI l D G A yX13_openIt cX13_openIt 18 (some .boolean) 7 175 0 0 [.ref l0, .int l1, .ref l2, .int l3, .ref l4, .int l5, .ref l6, .int l7, .int l8, .ref l9, .int l10, .int l11, .ref l12, .int l13] M sz r0 M0 sz := mMetI_of l D G A (by decide) (Nat.le_of_ble_eq_true rfl) (fun x X hQ => wP_X13_openIt X hQ h)
/-! SealedTokensModel.isContent(IIIII)Z -/
theorem dX13_isContent_0 : decode cX13_isContent 0 = .ok (.iload_n 1, 1) := by decide +kernel
theorem dX13_isContent_1 : decode cX13_isContent 1 = .ok (.ifCond .lt 68, 3) := by decide +kernel
theorem dX13_isContent_4 : decode cX13_isContent 4 = .ok (.iload_n 1, 1) := by decide +kernel
theorem dX13_isContent_5 : decode cX13_isContent 5 = .ok (.iconst 4, 1) := by decide +kernel
theorem dX13_isContent_6 : decode cX13_isContent 6 = .ok (.if_icmp .ge 63, 3) := by decide +kernel
theorem dX13_isContent_9 : decode cX13_isContent 9 = .ok (.iload_n 2, 1) := by decide +kernel
theorem dX13_isContent_10 : decode cX13_isContent 10 = .ok (.invokestatic 332, 3) := by decide +kernel
theorem dX13_isContent_13 : decode cX13_isContent 13 = .ok (.ifCond .eq 56, 3) := by decide +kernel
theorem dX13_isContent_16 : decode cX13_isContent 16 = .ok (.iload_n 3, 1) := by decide +kernel
theorem dX13_isContent_17 : decode cX13_isContent 17 = .ok (.invokestatic 332, 3) := by decide +kernel
theorem dX13_isContent_20 : decode cX13_isContent 20 = .ok (.ifCond .eq 49, 3) := by decide +kernel
theorem dX13_isContent_23 : decode cX13_isContent 23 = .ok (.iload 4, 2) := by decide +kernel
theorem dX13_isContent_25 : decode cX13_isContent 25 = .ok (.invokestatic 332, 3) := by decide +kernel
theorem dX13_isContent_28 : decode cX13_isContent 28 = .ok (.ifCond .eq 41, 3) := by decide +kernel
theorem dX13_isContent_31 : decode cX13_isContent 31 = .ok (.iload 5, 2) := by decide +kernel
theorem dX13_isContent_33 : decode cX13_isContent 33 = .ok (.invokestatic 332, 3) := by decide +kernel
theorem dX13_isContent_36 : decode cX13_isContent 36 = .ok (.ifCond .eq 33, 3) := by decide +kernel
theorem dX13_isContent_39 : decode cX13_isContent 39 = .ok (.aload_n 0, 1) := by decide +kernel
theorem dX13_isContent_40 : decode cX13_isContent 40 = .ok (.getfield 17, 3) := by decide +kernel
theorem dX13_isContent_43 : decode cX13_isContent 43 = .ok (.iload_n 2, 1) := by decide +kernel
theorem dX13_isContent_44 : decode cX13_isContent 44 = .ok (.iaload, 1) := by decide +kernel
theorem dX13_isContent_45 : decode cX13_isContent 45 = .ok (.iload_n 1, 1) := by decide +kernel
theorem dX13_isContent_46 : decode cX13_isContent 46 = .ok (.invokestatic 629, 3) := by decide +kernel
theorem dX13_isContent_49 : decode cX13_isContent 49 = .ok (.if_icmp .ne 20, 3) := by decide +kernel
theorem dX13_isContent_52 : decode cX13_isContent 52 = .ok (.aload_n 0, 1) := by decide +kernel
theorem dX13_isContent_53 : decode cX13_isContent 53 = .ok (.getfield 17, 3) := by decide +kernel
theorem dX13_isContent_56 : decode cX13_isContent 56 = .ok (.iload_n 3, 1) := by decide +kernel
theorem dX13_isContent_57 : decode cX13_isContent 57 = .ok (.iaload, 1) := by decide +kernel
theorem dX13_isContent_58 : decode cX13_isContent 58 = .ok (.iload_n 1, 1) := by decide +kernel
theorem dX13_isContent_59 : decode cX13_isContent 59 = .ok (.invokestatic 673, 3) := by decide +kernel
theorem dX13_isContent_62 : decode cX13_isContent 62 = .ok (.if_icmp .ne 7, 3) := by decide +kernel
theorem dX13_isContent_65 : decode cX13_isContent 65 = .ok (.iconst 1, 1) := by decide +kernel
theorem dX13_isContent_66 : decode cX13_isContent 66 = .ok (.goto 4, 3) := by decide +kernel
theorem dX13_isContent_69 : decode cX13_isContent 69 = .ok (.iconst 0, 1) := by decide +kernel
theorem dX13_isContent_70 : decode cX13_isContent 70 = .ok (.ireturn, 1) := by decide +kernel
abbrev rmX13_isContent : Room := { frames := 1, cells := 0, slots := 0, locals := 20 }
set_option maxHeartbeats 4000000 in
set_option maxRecDepth 100000 in
theorem wP_X13_isContent {G : mG} {F : Nat} {x : mXT} {sz : Nat} {r0 : Int32} {M0 : mM} (X : mCX G RX13 cX13_isContent 6 (some .boolean) "isContent" rmX13_isContent x) (hQ : mQI x r0 M0 (sz, 0, 0)) {l0 : Nat} {l1 : Int32} {l2 : Int32} {l3 : Int32} {l4 : Int32} {l5 : Int32} {M : mM} (h : P_X13_isContent G F l0 l1 l2 l3 l4 l5 M = some (r0, M0)) : WW x (sz, 0, 0) M 0 [(0, .ref l0), (1, .int l1), (2, .int l2), (3, .int l3), (4, .int l4), (5, .int l5)] [] := by
  unfold P_X13_isContent at h
  refine ww_iload_n 0 X dX13_isContent_0 1 rfl rfl ?_
  refine ww_if_lt 1 69 X dX13_isContent_1 (by decide) (fun q => ?_) (fun q => ?_)
  · replace h := (if_pos q).symm.trans h
    refine ww_iconst 69 X (v := (0 : Int32)) dX13_isContent_69 (by decide) ?_
    exact ww_zretE 70 X hQ dX13_isContent_70 h
  · replace h := (if_neg q).symm.trans h
    refine ww_iload_n 4 X dX13_isContent_4 1 rfl rfl ?_
    refine ww_iconst 5 X (v := (4 : Int32)) dX13_isContent_5 (by decide) ?_
    refine ww_icmp_ge 6 69 X dX13_isContent_6 (by decide) (fun q => ?_) (fun q => ?_)
    · replace h := (if_pos q).symm.trans h
      refine ww_iconst 69 X (v := (0 : Int32)) dX13_isContent_69 (by decide) ?_
      exact ww_zretE 70 X hQ dX13_isContent_70 h
    · replace h := (if_neg q).symm.trans h
      refine ww_iload_n 9 X dX13_isContent_9 2 rfl rfl ?_
      obtain ⟨v10, M10, e10, h⟩ := bP_some h
      refine ww_callSI0 10 X dX13_isContent_10 mY_X13_isRow mL_X13_332 (As := [.int l2]) (rest := []) rfl rfl ⟨Nat.le_of_ble_eq_true rfl, Nat.le_of_ble_eq_true rfl⟩ (Nat.le_of_ble_eq_true rfl) (fun l D A => c_X13_isRow l D A e10) ?_
      refine ww_if_eq 13 69 X dX13_isContent_13 (by decide) (fun q => ?_) (fun q => ?_)
      · replace h := (if_pos q).symm.trans h
        refine ww_iconst 69 X (v := (0 : Int32)) dX13_isContent_69 (by decide) ?_
        exact ww_zretE 70 X hQ dX13_isContent_70 h
      · replace h := (if_neg q).symm.trans h
        refine ww_iload_n 16 X dX13_isContent_16 3 rfl rfl ?_
        obtain ⟨v17, M17, e17, h⟩ := bP_some h
        refine ww_callSI0 17 X dX13_isContent_17 mY_X13_isRow mL_X13_332 (As := [.int l3]) (rest := []) rfl rfl ⟨Nat.le_of_ble_eq_true rfl, Nat.le_of_ble_eq_true rfl⟩ (Nat.le_of_ble_eq_true rfl) (fun l D A => c_X13_isRow l D A e17) ?_
        refine ww_if_eq 20 69 X dX13_isContent_20 (by decide) (fun q => ?_) (fun q => ?_)
        · replace h := (if_pos q).symm.trans h
          refine ww_iconst 69 X (v := (0 : Int32)) dX13_isContent_69 (by decide) ?_
          exact ww_zretE 70 X hQ dX13_isContent_70 h
        · replace h := (if_neg q).symm.trans h
          refine ww_iload 23 X dX13_isContent_23 4 rfl ?_
          obtain ⟨v25, M25, e25, h⟩ := bP_some h
          refine ww_callSI0 25 X dX13_isContent_25 mY_X13_isRow mL_X13_332 (As := [.int l4]) (rest := []) rfl rfl ⟨Nat.le_of_ble_eq_true rfl, Nat.le_of_ble_eq_true rfl⟩ (Nat.le_of_ble_eq_true rfl) (fun l D A => c_X13_isRow l D A e25) ?_
          refine ww_if_eq 28 69 X dX13_isContent_28 (by decide) (fun q => ?_) (fun q => ?_)
          · replace h := (if_pos q).symm.trans h
            refine ww_iconst 69 X (v := (0 : Int32)) dX13_isContent_69 (by decide) ?_
            exact ww_zretE 70 X hQ dX13_isContent_70 h
          · replace h := (if_neg q).symm.trans h
            refine ww_iload 31 X dX13_isContent_31 5 rfl ?_
            obtain ⟨v33, M33, e33, h⟩ := bP_some h
            refine ww_callSI0 33 X dX13_isContent_33 mY_X13_isRow mL_X13_332 (As := [.int l5]) (rest := []) rfl rfl ⟨Nat.le_of_ble_eq_true rfl, Nat.le_of_ble_eq_true rfl⟩ (Nat.le_of_ble_eq_true rfl) (fun l D A => c_X13_isRow l D A e33) ?_
            refine ww_if_eq 36 69 X dX13_isContent_36 (by decide) (fun q => ?_) (fun q => ?_)
            · replace h := (if_pos q).symm.trans h
              refine ww_iconst 69 X (v := (0 : Int32)) dX13_isContent_69 (by decide) ?_
              exact ww_zretE 70 X hQ dX13_isContent_70 h
            · replace h := (if_neg q).symm.trans h
              refine ww_aload_n 39 X dX13_isContent_39 0 rfl rfl ?_
              obtain ⟨v40, e40, h⟩ := bO_some h
              refine ww_getR 40 X dX13_isContent_40 fG_X13_17 e40 ?_
              refine ww_iload_n 43 X dX13_isContent_43 2 rfl rfl ?_
              obtain ⟨v44, e44, h⟩ := bO_some h
              refine ww_iald 44 X dX13_isContent_44 e44 ?_
              refine ww_iload_n 45 X dX13_isContent_45 1 rfl rfl ?_
              obtain ⟨v46, M46, e46, h⟩ := bP_some h
              refine ww_callSI0 46 X dX13_isContent_46 mY_X13_keyOf mL_X13_629 (As := [.int l1]) (rest := [.int v44]) rfl rfl ⟨Nat.le_of_ble_eq_true rfl, Nat.le_of_ble_eq_true rfl⟩ (Nat.le_of_ble_eq_true rfl) (fun l D A => c_X13_keyOf l D A e46) ?_
              refine ww_icmp_ne 49 69 X dX13_isContent_49 (by decide) (fun q => ?_) (fun q => ?_)
              · replace h := (if_neg q).symm.trans h
                refine ww_iconst 69 X (v := (0 : Int32)) dX13_isContent_69 (by decide) ?_
                exact ww_zretE 70 X hQ dX13_isContent_70 h
              · replace h := (if_pos q).symm.trans h
                refine ww_aload_n 52 X dX13_isContent_52 0 rfl rfl ?_
                obtain ⟨v53, e53, h⟩ := bO_some h
                refine ww_getR 53 X dX13_isContent_53 fG_X13_17 e53 ?_
                refine ww_iload_n 56 X dX13_isContent_56 3 rfl rfl ?_
                obtain ⟨v57, e57, h⟩ := bO_some h
                refine ww_iald 57 X dX13_isContent_57 e57 ?_
                refine ww_iload_n 58 X dX13_isContent_58 1 rfl rfl ?_
                obtain ⟨v59, M59, e59, h⟩ := bP_some h
                refine ww_callSI0 59 X dX13_isContent_59 mY_X13_beginningOf mL_X13_673 (As := [.int l1]) (rest := [.int v57]) rfl rfl ⟨Nat.le_of_ble_eq_true rfl, Nat.le_of_ble_eq_true rfl⟩ (Nat.le_of_ble_eq_true rfl) (fun l D A => c_X13_beginningOf l D A e59) ?_
                refine ww_icmp_ne 62 69 X dX13_isContent_62 (by decide) (fun q => ?_) (fun q => ?_)
                · replace h := (if_neg q).symm.trans h
                  refine ww_iconst 69 X (v := (0 : Int32)) dX13_isContent_69 (by decide) ?_
                  exact ww_zretE 70 X hQ dX13_isContent_70 h
                · replace h := (if_pos q).symm.trans h
                  refine ww_iconst 65 X (v := (1 : Int32)) dX13_isContent_65 (by decide) ?_
                  refine ww_goto 66 70 X dX13_isContent_66 (by decide) ?_
                  exact ww_zretE 70 X hQ dX13_isContent_70 h
theorem c_X13_isContent {G : mG} {F sz : Nat} {r0 : Int32} {M0 : mM} (l : Launch) (D : mD) (A : Nat → Prop) {l0 : Nat} {l1 : Int32} {l2 : Int32} {l3 : Int32} {l4 : Int32} {l5 : Int32} {M : mM} (h : P_X13_isContent G F l0 l1 l2 l3 l4 l5 M = some (r0, M0)) : mMetI l D G A yX13_isContent cX13_isContent 6 (some .boolean) 1 20 0 0 [.ref l0, .int l1, .int l2, .int l3, .int l4, .int l5] M sz r0 M0 sz := mMetI_of l D G A (by decide) (Nat.le_of_ble_eq_true rfl) (fun x X hQ => wP_X13_isContent X hQ h)
/-! SealedTokensModel.seal(IIIII)I -/
theorem dX13_seal_0 : decode cX13_seal 0 = .ok (.aload_n 0, 1) := by decide +kernel
theorem dX13_seal_1 : decode cX13_seal 1 = .ok (.iload_n 1, 1) := by decide +kernel
theorem dX13_seal_2 : decode cX13_seal 2 = .ok (.iload_n 2, 1) := by decide +kernel
theorem dX13_seal_3 : decode cX13_seal 3 = .ok (.iload_n 3, 1) := by decide +kernel
theorem dX13_seal_4 : decode cX13_seal 4 = .ok (.iload 4, 2) := by decide +kernel
theorem dX13_seal_6 : decode cX13_seal 6 = .ok (.iload 5, 2) := by decide +kernel
theorem dX13_seal_8 : decode cX13_seal 8 = .ok (.invokevirtual 676, 3) := by decide +kernel
theorem dX13_seal_11 : decode cX13_seal 11 = .ok (.ifCond .ne 6, 3) := by decide +kernel
theorem dX13_seal_14 : decode cX13_seal 14 = .ok (.bipush (-2), 2) := by decide +kernel
theorem dX13_seal_16 : decode cX13_seal 16 = .ok (.ireturn, 1) := by decide +kernel
theorem dX13_seal_17 : decode cX13_seal 17 = .ok (.aload_n 0, 1) := by decide +kernel
theorem dX13_seal_18 : decode cX13_seal 18 = .ok (.getfield 17, 3) := by decide +kernel
theorem dX13_seal_21 : decode cX13_seal 21 = .ok (.iload 5, 2) := by decide +kernel
theorem dX13_seal_23 : decode cX13_seal 23 = .ok (.iaload, 1) := by decide +kernel
theorem dX13_seal_24 : decode cX13_seal 24 = .ok (.istore 6, 2) := by decide +kernel
theorem dX13_seal_26 : decode cX13_seal 26 = .ok (.iload_n 1, 1) := by decide +kernel
theorem dX13_seal_27 : decode cX13_seal 27 = .ok (.iconst 2, 1) := by decide +kernel
theorem dX13_seal_28 : decode cX13_seal 28 = .ok (.if_icmp .ge 17, 3) := by decide +kernel
theorem dX13_seal_31 : decode cX13_seal 31 = .ok (.iload 6, 2) := by decide +kernel
theorem dX13_seal_33 : decode cX13_seal 33 = .ok (.bipush 16, 2) := by decide +kernel
theorem dX13_seal_35 : decode cX13_seal 35 = .ok (.iadd, 1) := by decide +kernel
theorem dX13_seal_36 : decode cX13_seal 36 = .ok (.iload 6, 2) := by decide +kernel
theorem dX13_seal_38 : decode cX13_seal 38 = .ok (.bipush 16, 2) := by decide +kernel
theorem dX13_seal_40 : decode cX13_seal 40 = .ok (.irem, 1) := by decide +kernel
theorem dX13_seal_41 : decode cX13_seal 41 = .ok (.isub, 1) := by decide +kernel
theorem dX13_seal_42 : decode cX13_seal 42 = .ok (.goto 5, 3) := by decide +kernel
theorem dX13_seal_45 : decode cX13_seal 45 = .ok (.iload 6, 2) := by decide +kernel
theorem dX13_seal_47 : decode cX13_seal 47 = .ok (.iload_n 1, 1) := by decide +kernel
theorem dX13_seal_48 : decode cX13_seal 48 = .ok (.invokestatic 632, 3) := by decide +kernel
theorem dX13_seal_51 : decode cX13_seal 51 = .ok (.iadd, 1) := by decide +kernel
theorem dX13_seal_52 : decode cX13_seal 52 = .ok (.sipush 8192, 3) := by decide +kernel
theorem dX13_seal_55 : decode cX13_seal 55 = .ok (.if_icmp .le 6, 3) := by decide +kernel
theorem dX13_seal_58 : decode cX13_seal 58 = .ok (.bipush (-3), 2) := by decide +kernel
theorem dX13_seal_60 : decode cX13_seal 60 = .ok (.ireturn, 1) := by decide +kernel
theorem dX13_seal_61 : decode cX13_seal 61 = .ok (.aload_n 0, 1) := by decide +kernel
theorem dX13_seal_62 : decode cX13_seal 62 = .ok (.iload_n 1, 1) := by decide +kernel
theorem dX13_seal_63 : decode cX13_seal 63 = .ok (.aload_n 0, 1) := by decide +kernel
theorem dX13_seal_64 : decode cX13_seal 64 = .ok (.getfield 14, 3) := by decide +kernel
theorem dX13_seal_67 : decode cX13_seal 67 = .ok (.sipush 8192, 3) := by decide +kernel
theorem dX13_seal_70 : decode cX13_seal 70 = .ok (.iload_n 2, 1) := by decide +kernel
theorem dX13_seal_71 : decode cX13_seal 71 = .ok (.imul, 1) := by decide +kernel
theorem dX13_seal_72 : decode cX13_seal 72 = .ok (.aload_n 0, 1) := by decide +kernel
theorem dX13_seal_73 : decode cX13_seal 73 = .ok (.getfield 14, 3) := by decide +kernel
theorem dX13_seal_76 : decode cX13_seal 76 = .ok (.sipush 8192, 3) := by decide +kernel
theorem dX13_seal_79 : decode cX13_seal 79 = .ok (.iload_n 3, 1) := by decide +kernel
theorem dX13_seal_80 : decode cX13_seal 80 = .ok (.imul, 1) := by decide +kernel
theorem dX13_seal_81 : decode cX13_seal 81 = .ok (.aload_n 0, 1) := by decide +kernel
theorem dX13_seal_82 : decode cX13_seal 82 = .ok (.getfield 14, 3) := by decide +kernel
theorem dX13_seal_85 : decode cX13_seal 85 = .ok (.sipush 8192, 3) := by decide +kernel
theorem dX13_seal_88 : decode cX13_seal 88 = .ok (.iload 4, 2) := by decide +kernel
theorem dX13_seal_90 : decode cX13_seal 90 = .ok (.imul, 1) := by decide +kernel
theorem dX13_seal_91 : decode cX13_seal 91 = .ok (.aload_n 0, 1) := by decide +kernel
theorem dX13_seal_92 : decode cX13_seal 92 = .ok (.getfield 17, 3) := by decide +kernel
theorem dX13_seal_95 : decode cX13_seal 95 = .ok (.iload 4, 2) := by decide +kernel
theorem dX13_seal_97 : decode cX13_seal 97 = .ok (.iaload, 1) := by decide +kernel
theorem dX13_seal_98 : decode cX13_seal 98 = .ok (.aload_n 0, 1) := by decide +kernel
theorem dX13_seal_99 : decode cX13_seal 99 = .ok (.getfield 14, 3) := by decide +kernel
theorem dX13_seal_102 : decode cX13_seal 102 = .ok (.sipush 8192, 3) := by decide +kernel
theorem dX13_seal_105 : decode cX13_seal 105 = .ok (.iload 5, 2) := by decide +kernel
theorem dX13_seal_107 : decode cX13_seal 107 = .ok (.imul, 1) := by decide +kernel
theorem dX13_seal_108 : decode cX13_seal 108 = .ok (.iload 6, 2) := by decide +kernel
theorem dX13_seal_110 : decode cX13_seal 110 = .ok (.invokevirtual 680, 3) := by decide +kernel
theorem dX13_seal_113 : decode cX13_seal 113 = .ok (.aload_n 0, 1) := by decide +kernel
theorem dX13_seal_114 : decode cX13_seal 114 = .ok (.getfield 113, 3) := by decide +kernel
theorem dX13_seal_117 : decode cX13_seal 117 = .ok (.iconst 0, 1) := by decide +kernel
theorem dX13_seal_118 : decode cX13_seal 118 = .ok (.aload_n 0, 1) := by decide +kernel
theorem dX13_seal_119 : decode cX13_seal 119 = .ok (.getfield 110, 3) := by decide +kernel
theorem dX13_seal_122 : decode cX13_seal 122 = .ok (.aload_n 0, 1) := by decide +kernel
theorem dX13_seal_123 : decode cX13_seal 123 = .ok (.getfield 659, 3) := by decide +kernel
theorem dX13_seal_126 : decode cX13_seal 126 = .ok (.iload_n 1, 1) := by decide +kernel
theorem dX13_seal_127 : decode cX13_seal 127 = .ok (.invokestatic 632, 3) := by decide +kernel
theorem dX13_seal_130 : decode cX13_seal 130 = .ok (.invokestatic 317, 3) := by decide +kernel
theorem dX13_seal_133 : decode cX13_seal 133 = .ok (.aload_n 0, 1) := by decide +kernel
theorem dX13_seal_134 : decode cX13_seal 134 = .ok (.aload_n 0, 1) := by decide +kernel
theorem dX13_seal_135 : decode cX13_seal 135 = .ok (.getfield 110, 3) := by decide +kernel
theorem dX13_seal_138 : decode cX13_seal 138 = .ok (.iconst 0, 1) := by decide +kernel
theorem dX13_seal_139 : decode cX13_seal 139 = .ok (.aload_n 0, 1) := by decide +kernel
theorem dX13_seal_140 : decode cX13_seal 140 = .ok (.getfield 659, 3) := by decide +kernel
theorem dX13_seal_143 : decode cX13_seal 143 = .ok (.iload_n 1, 1) := by decide +kernel
theorem dX13_seal_144 : decode cX13_seal 144 = .ok (.invokestatic 632, 3) := by decide +kernel
theorem dX13_seal_147 : decode cX13_seal 147 = .ok (.iadd, 1) := by decide +kernel
theorem dX13_seal_148 : decode cX13_seal 148 = .ok (.invokevirtual 463, 3) := by decide +kernel
theorem dX13_seal_151 : decode cX13_seal 151 = .ok (.ireturn, 1) := by decide +kernel
abbrev rmX13_seal : Room := { frames := 8, cells := 0, slots := 0, locals := 211 }
set_option maxHeartbeats 4000000 in
set_option maxRecDepth 100000 in
theorem wB_X13_seal_47 {G : mG} {F : Nat} {x : mXT} {sz : Nat} {r0 : Int32} {M0 : mM} (X : mCX G RX13 cX13_seal 7 (some .int) "seal" rmX13_seal x) (hQ : mQI x r0 M0 (sz, 0, 0)) {l0 : Nat} {l1 : Int32} {l2 : Int32} {l3 : Int32} {l4 : Int32} {l5 : Int32} {l6 : Int32} {sk0 : Int32} {M : mM} (h : B_X13_seal_47 G F l0 l1 l2 l3 l4 l5 l6 sk0 M = some (r0, M0)) : WW x (sz, 0, 0) M 47 [(0, .ref l0), (1, .int l1), (2, .int l2), (3, .int l3), (4, .int l4), (5, .int l5), (6, .int l6)] [.int sk0] := by
  unfold B_X13_seal_47 at h
  refine ww_iload_n 47 X dX13_seal_47 1 rfl rfl ?_
  obtain ⟨v48, M48, e48, h⟩ := bP_some h
  refine ww_callSI0 48 X dX13_seal_48 mY_X13_markOf mL_X13_632 (As := [.int l1]) (rest := [.int sk0]) rfl rfl ⟨Nat.le_of_ble_eq_true rfl, Nat.le_of_ble_eq_true rfl⟩ (Nat.le_of_ble_eq_true rfl) (fun l D A => c_X13_markOf l D A e48) ?_
  refine ww_iadd 51 X dX13_seal_51 ?_
  refine ww_sipush 52 X (v := (8192 : Int32)) dX13_seal_52 (by decide) ?_
  refine ww_icmp_le 55 61 X dX13_seal_55 (by decide) (fun q => ?_) (fun q => ?_)
  · replace h := (if_pos q).symm.trans h
    refine ww_aload_n 61 X dX13_seal_61 0 rfl rfl ?_
    refine ww_iload_n 62 X dX13_seal_62 1 rfl rfl ?_
    refine ww_aload_n 63 X dX13_seal_63 0 rfl rfl ?_
    obtain ⟨v64, e64, h⟩ := bO_some h
    refine ww_getR 64 X dX13_seal_64 fG_X13_14 e64 ?_
    refine ww_sipush 67 X (v := (8192 : Int32)) dX13_seal_67 (by decide) ?_
    refine ww_iload_n 70 X dX13_seal_70 2 rfl rfl ?_
    refine ww_imul 71 X dX13_seal_71 ?_
    refine ww_aload_n 72 X dX13_seal_72 0 rfl rfl ?_
    obtain ⟨v73, e73, h⟩ := bO_some h
    refine ww_getR 73 X dX13_seal_73 fG_X13_14 e73 ?_
    refine ww_sipush 76 X (v := (8192 : Int32)) dX13_seal_76 (by decide) ?_
    refine ww_iload_n 79 X dX13_seal_79 3 rfl rfl ?_
    refine ww_imul 80 X dX13_seal_80 ?_
    refine ww_aload_n 81 X dX13_seal_81 0 rfl rfl ?_
    obtain ⟨v82, e82, h⟩ := bO_some h
    refine ww_getR 82 X dX13_seal_82 fG_X13_14 e82 ?_
    refine ww_sipush 85 X (v := (8192 : Int32)) dX13_seal_85 (by decide) ?_
    refine ww_iload 88 X dX13_seal_88 4 rfl ?_
    refine ww_imul 90 X dX13_seal_90 ?_
    refine ww_aload_n 91 X dX13_seal_91 0 rfl rfl ?_
    obtain ⟨v92, e92, h⟩ := bO_some h
    refine ww_getR 92 X dX13_seal_92 fG_X13_17 e92 ?_
    refine ww_iload 95 X dX13_seal_95 4 rfl ?_
    obtain ⟨v97, e97, h⟩ := bO_some h
    refine ww_iald 97 X dX13_seal_97 e97 ?_
    refine ww_aload_n 98 X dX13_seal_98 0 rfl rfl ?_
    obtain ⟨v99, e99, h⟩ := bO_some h
    refine ww_getR 99 X dX13_seal_99 fG_X13_14 e99 ?_
    refine ww_sipush 102 X (v := (8192 : Int32)) dX13_seal_102 (by decide) ?_
    refine ww_iload 105 X dX13_seal_105 5 rfl ?_
    refine ww_imul 107 X dX13_seal_107 ?_
    refine ww_iload 108 X dX13_seal_108 6 rfl ?_
    obtain ⟨_, f110, h⟩ := bO_some h
    obtain ⟨M110, e110, h⟩ := bO_some h
    refine ww_callVV0 110 X dX13_seal_110 mY_X13_sealIt mL_X13_680 (rcv_spec f110) ⟨_, _, rfl⟩ (by decide) (As := [.int l1, .ref v64, .int ((8192 : Int32) * l2), .ref v73, .int ((8192 : Int32) * l3), .ref v82, .int ((8192 : Int32) * l4), .int v97, .ref v99, .int ((8192 : Int32) * l5), .int l6]) (rest := []) rfl rfl ⟨Nat.le_of_ble_eq_true rfl, Nat.le_of_ble_eq_true rfl⟩ (Nat.le_of_ble_eq_true rfl) (fun l D A => c_X13_sealIt l D A e110) ?_
    refine ww_aload_n 113 X dX13_seal_113 0 rfl rfl ?_
    obtain ⟨v114, e114, h⟩ := bO_some h
    refine ww_getR 114 X dX13_seal_114 fG_X13_113 e114 ?_
    refine ww_iconst 117 X (v := (0 : Int32)) dX13_seal_117 (by decide) ?_
    refine ww_aload_n 118 X dX13_seal_118 0 rfl rfl ?_
    obtain ⟨v119, e119, h⟩ := bO_some h
    refine ww_getR 119 X dX13_seal_119 fG_X13_110 e119 ?_
    refine ww_aload_n 122 X dX13_seal_122 0 rfl rfl ?_
    obtain ⟨v123, e123, h⟩ := bO_some h
    refine ww_getI 123 X dX13_seal_123 fG_X13_659 e123 ?_
    refine ww_iload_n 126 X dX13_seal_126 1 rfl rfl ?_
    obtain ⟨v127, M127, e127, h⟩ := bP_some h
    refine ww_callSI0 127 X dX13_seal_127 mY_X13_markOf mL_X13_632 (As := [.int l1]) (rest := [.int v123, .ref v119, .int (0 : Int32), .ref v114]) rfl rfl ⟨Nat.le_of_ble_eq_true rfl, Nat.le_of_ble_eq_true rfl⟩ (Nat.le_of_ble_eq_true rfl) (fun l D A => c_X13_markOf l D A e127) ?_
    obtain ⟨M130, e130, h⟩ := bO_some h
    refine ww_callSV0 130 X dX13_seal_130 mY_X13_move mL_X13_317 (As := [.ref v114, .int (0 : Int32), .ref v119, .int v123, .int v127]) (rest := []) rfl rfl ⟨Nat.le_of_ble_eq_true rfl, Nat.le_of_ble_eq_true rfl⟩ (Nat.le_of_ble_eq_true rfl) (fun l D A => c_X13_move l D A e130) ?_
    refine ww_aload_n 133 X dX13_seal_133 0 rfl rfl ?_
    refine ww_aload_n 134 X dX13_seal_134 0 rfl rfl ?_
    obtain ⟨v135, e135, h⟩ := bO_some h
    refine ww_getR 135 X dX13_seal_135 fG_X13_110 e135 ?_
    refine ww_iconst 138 X (v := (0 : Int32)) dX13_seal_138 (by decide) ?_
    refine ww_aload_n 139 X dX13_seal_139 0 rfl rfl ?_
    obtain ⟨v140, e140, h⟩ := bO_some h
    refine ww_getI 140 X dX13_seal_140 fG_X13_659 e140 ?_
    refine ww_iload_n 143 X dX13_seal_143 1 rfl rfl ?_
    obtain ⟨v144, M144, e144, h⟩ := bP_some h
    refine ww_callSI0 144 X dX13_seal_144 mY_X13_markOf mL_X13_632 (As := [.int l1]) (rest := [.int v140, .int (0 : Int32), .ref v135, .ref l0]) rfl rfl ⟨Nat.le_of_ble_eq_true rfl, Nat.le_of_ble_eq_true rfl⟩ (Nat.le_of_ble_eq_true rfl) (fun l D A => c_X13_markOf l D A e144) ?_
    refine ww_iadd 147 X dX13_seal_147 ?_
    obtain ⟨_, f148, h⟩ := bO_some h
    obtain ⟨v148, M148, e148, h⟩ := bP_some h
    refine ww_callVI0 148 X dX13_seal_148 mY_X13_tell mL_X13_463 (rcv_spec f148) ⟨_, _, rfl⟩ (by decide) (As := [.ref v135, .int (0 : Int32), .int (v140 + v144)]) (rest := []) rfl rfl ⟨Nat.le_of_ble_eq_true rfl, Nat.le_of_ble_eq_true rfl⟩ (Nat.le_of_ble_eq_true rfl) (fun l D A => c_X13_tell l D A e148) ?_
    exact ww_iretE 151 X hQ dX13_seal_151 h
  · replace h := (if_neg q).symm.trans h
    refine ww_bipush 58 X (v := (-3 : Int32)) dX13_seal_58 (by decide) ?_
    exact ww_iretE 60 X hQ dX13_seal_60 h
set_option maxHeartbeats 4000000 in
set_option maxRecDepth 100000 in
theorem wP_X13_seal {G : mG} {F : Nat} {x : mXT} {sz : Nat} {r0 : Int32} {M0 : mM} (X : mCX G RX13 cX13_seal 7 (some .int) "seal" rmX13_seal x) (hQ : mQI x r0 M0 (sz, 0, 0)) {l0 : Nat} {l1 : Int32} {l2 : Int32} {l3 : Int32} {l4 : Int32} {l5 : Int32} {M : mM} (h : P_X13_seal G F l0 l1 l2 l3 l4 l5 M = some (r0, M0)) : WW x (sz, 0, 0) M 0 [(0, .ref l0), (1, .int l1), (2, .int l2), (3, .int l3), (4, .int l4), (5, .int l5)] [] := by
  unfold P_X13_seal at h
  refine ww_aload_n 0 X dX13_seal_0 0 rfl rfl ?_
  refine ww_iload_n 1 X dX13_seal_1 1 rfl rfl ?_
  refine ww_iload_n 2 X dX13_seal_2 2 rfl rfl ?_
  refine ww_iload_n 3 X dX13_seal_3 3 rfl rfl ?_
  refine ww_iload 4 X dX13_seal_4 4 rfl ?_
  refine ww_iload 6 X dX13_seal_6 5 rfl ?_
  obtain ⟨_, f8, h⟩ := bO_some h
  obtain ⟨v8, M8, e8, h⟩ := bP_some h
  refine ww_callVI0 8 X dX13_seal_8 mY_X13_isContent mL_X13_676 (rcv_spec f8) ⟨_, _, rfl⟩ (by decide) (As := [.int l1, .int l2, .int l3, .int l4, .int l5]) (rest := []) rfl rfl ⟨Nat.le_of_ble_eq_true rfl, Nat.le_of_ble_eq_true rfl⟩ (Nat.le_of_ble_eq_true rfl) (fun l D A => c_X13_isContent l D A e8) ?_
  refine ww_if_ne 11 17 X dX13_seal_11 (by decide) (fun q => ?_) (fun q => ?_)
  · replace h := (if_neg q).symm.trans h
    refine ww_aload_n 17 X dX13_seal_17 0 rfl rfl ?_
    obtain ⟨v18, e18, h⟩ := bO_some h
    refine ww_getR 18 X dX13_seal_18 fG_X13_17 e18 ?_
    refine ww_iload 21 X dX13_seal_21 5 rfl ?_
    obtain ⟨v23, e23, h⟩ := bO_some h
    refine ww_iald 23 X dX13_seal_23 e23 ?_
    refine ww_istore 24 X dX13_seal_24 (lv' := [(0, .ref l0), (1, .int l1), (2, .int l2), (3, .int l3), (4, .int l4), (5, .int l5), (6, .int v23)]) (by decide) [1, 2, 3, 4, 5, 6, 0] rfl ?_
    refine ww_iload_n 26 X dX13_seal_26 1 rfl rfl ?_
    refine ww_iconst 27 X (v := (2 : Int32)) dX13_seal_27 (by decide) ?_
    refine ww_icmp_ge 28 45 X dX13_seal_28 (by decide) (fun q => ?_) (fun q => ?_)
    · replace h := (if_pos q).symm.trans h
      refine ww_iload 45 X dX13_seal_45 6 rfl ?_
      exact (wB_X13_seal_47 X hQ h)
    · replace h := (if_neg q).symm.trans h
      refine ww_iload 31 X dX13_seal_31 6 rfl ?_
      refine ww_bipush 33 X (v := (16 : Int32)) dX13_seal_33 (by decide) ?_
      refine ww_iadd 35 X dX13_seal_35 ?_
      refine ww_iload 36 X dX13_seal_36 6 rfl ?_
      refine ww_bipush 38 X (v := (16 : Int32)) dX13_seal_38 (by decide) ?_
      refine ww_irem 40 X (v := (v23 - v23 / (16 : Int32) * (16 : Int32))) dX13_seal_40 rfl ?_
      refine ww_isub 41 X dX13_seal_41 ?_
      refine ww_goto 42 47 X dX13_seal_42 (by decide) ?_
      exact (wB_X13_seal_47 X hQ h)
  · replace h := (if_pos q).symm.trans h
    refine ww_bipush 14 X (v := (-2 : Int32)) dX13_seal_14 (by decide) ?_
    exact ww_iretE 16 X hQ dX13_seal_16 h
theorem c_X13_seal {G : mG} {F sz : Nat} {r0 : Int32} {M0 : mM} (l : Launch) (D : mD) (A : Nat → Prop) {l0 : Nat} {l1 : Int32} {l2 : Int32} {l3 : Int32} {l4 : Int32} {l5 : Int32} {M : mM} (h : P_X13_seal G F l0 l1 l2 l3 l4 l5 M = some (r0, M0)) : mMetI l D G A yX13_seal cX13_seal 7 (some .int) 8 211 0 0 [.ref l0, .int l1, .int l2, .int l3, .int l4, .int l5] M sz r0 M0 sz := mMetI_of l D G A (by decide) (Nat.le_of_ble_eq_true rfl) (fun x X hQ => wP_X13_seal X hQ h)
/-! SealedTokensModel.open(IIIII)I -/
theorem dX13_open_0 : decode cX13_open 0 = .ok (.aload_n 0, 1) := by decide +kernel
theorem dX13_open_1 : decode cX13_open 1 = .ok (.iload_n 1, 1) := by decide +kernel
theorem dX13_open_2 : decode cX13_open 2 = .ok (.iload_n 2, 1) := by decide +kernel
theorem dX13_open_3 : decode cX13_open 3 = .ok (.iload_n 3, 1) := by decide +kernel
theorem dX13_open_4 : decode cX13_open 4 = .ok (.iload 4, 2) := by decide +kernel
theorem dX13_open_6 : decode cX13_open 6 = .ok (.iload 5, 2) := by decide +kernel
theorem dX13_open_8 : decode cX13_open 8 = .ok (.invokevirtual 676, 3) := by decide +kernel
theorem dX13_open_11 : decode cX13_open 11 = .ok (.ifCond .ne 6, 3) := by decide +kernel
theorem dX13_open_14 : decode cX13_open 14 = .ok (.bipush (-2), 2) := by decide +kernel
theorem dX13_open_16 : decode cX13_open 16 = .ok (.ireturn, 1) := by decide +kernel
theorem dX13_open_17 : decode cX13_open 17 = .ok (.aload_n 0, 1) := by decide +kernel
theorem dX13_open_18 : decode cX13_open 18 = .ok (.getfield 17, 3) := by decide +kernel
theorem dX13_open_21 : decode cX13_open 21 = .ok (.iload 5, 2) := by decide +kernel
theorem dX13_open_23 : decode cX13_open 23 = .ok (.iaload, 1) := by decide +kernel
theorem dX13_open_24 : decode cX13_open 24 = .ok (.iload_n 1, 1) := by decide +kernel
theorem dX13_open_25 : decode cX13_open 25 = .ok (.invokestatic 632, 3) := by decide +kernel
theorem dX13_open_28 : decode cX13_open 28 = .ok (.isub, 1) := by decide +kernel
theorem dX13_open_29 : decode cX13_open 29 = .ok (.istore 6, 2) := by decide +kernel
theorem dX13_open_31 : decode cX13_open 31 = .ok (.iload 6, 2) := by decide +kernel
theorem dX13_open_33 : decode cX13_open 33 = .ok (.ifCond .lt 75, 3) := by decide +kernel
theorem dX13_open_36 : decode cX13_open 36 = .ok (.aload_n 0, 1) := by decide +kernel
theorem dX13_open_37 : decode cX13_open 37 = .ok (.iload_n 1, 1) := by decide +kernel
theorem dX13_open_38 : decode cX13_open 38 = .ok (.aload_n 0, 1) := by decide +kernel
theorem dX13_open_39 : decode cX13_open 39 = .ok (.getfield 14, 3) := by decide +kernel
theorem dX13_open_42 : decode cX13_open 42 = .ok (.sipush 8192, 3) := by decide +kernel
theorem dX13_open_45 : decode cX13_open 45 = .ok (.iload_n 2, 1) := by decide +kernel
theorem dX13_open_46 : decode cX13_open 46 = .ok (.imul, 1) := by decide +kernel
theorem dX13_open_47 : decode cX13_open 47 = .ok (.aload_n 0, 1) := by decide +kernel
theorem dX13_open_48 : decode cX13_open 48 = .ok (.getfield 14, 3) := by decide +kernel
theorem dX13_open_51 : decode cX13_open 51 = .ok (.sipush 8192, 3) := by decide +kernel
theorem dX13_open_54 : decode cX13_open 54 = .ok (.iload_n 3, 1) := by decide +kernel
theorem dX13_open_55 : decode cX13_open 55 = .ok (.imul, 1) := by decide +kernel
theorem dX13_open_56 : decode cX13_open 56 = .ok (.aload_n 0, 1) := by decide +kernel
theorem dX13_open_57 : decode cX13_open 57 = .ok (.getfield 14, 3) := by decide +kernel
theorem dX13_open_60 : decode cX13_open 60 = .ok (.sipush 8192, 3) := by decide +kernel
theorem dX13_open_63 : decode cX13_open 63 = .ok (.iload 4, 2) := by decide +kernel
theorem dX13_open_65 : decode cX13_open 65 = .ok (.imul, 1) := by decide +kernel
theorem dX13_open_66 : decode cX13_open 66 = .ok (.aload_n 0, 1) := by decide +kernel
theorem dX13_open_67 : decode cX13_open 67 = .ok (.getfield 17, 3) := by decide +kernel
theorem dX13_open_70 : decode cX13_open 70 = .ok (.iload 4, 2) := by decide +kernel
theorem dX13_open_72 : decode cX13_open 72 = .ok (.iaload, 1) := by decide +kernel
theorem dX13_open_73 : decode cX13_open 73 = .ok (.aload_n 0, 1) := by decide +kernel
theorem dX13_open_74 : decode cX13_open 74 = .ok (.getfield 14, 3) := by decide +kernel
theorem dX13_open_77 : decode cX13_open 77 = .ok (.sipush 8192, 3) := by decide +kernel
theorem dX13_open_80 : decode cX13_open 80 = .ok (.iload 5, 2) := by decide +kernel
theorem dX13_open_82 : decode cX13_open 82 = .ok (.imul, 1) := by decide +kernel
theorem dX13_open_83 : decode cX13_open 83 = .ok (.iload 6, 2) := by decide +kernel
theorem dX13_open_85 : decode cX13_open 85 = .ok (.aload_n 0, 1) := by decide +kernel
theorem dX13_open_86 : decode cX13_open 86 = .ok (.getfield 14, 3) := by decide +kernel
theorem dX13_open_89 : decode cX13_open 89 = .ok (.sipush 8192, 3) := by decide +kernel
theorem dX13_open_92 : decode cX13_open 92 = .ok (.iload 5, 2) := by decide +kernel
theorem dX13_open_94 : decode cX13_open 94 = .ok (.imul, 1) := by decide +kernel
theorem dX13_open_95 : decode cX13_open 95 = .ok (.iload 6, 2) := by decide +kernel
theorem dX13_open_97 : decode cX13_open 97 = .ok (.iadd, 1) := by decide +kernel
theorem dX13_open_98 : decode cX13_open 98 = .ok (.invokevirtual 683, 3) := by decide +kernel
theorem dX13_open_101 : decode cX13_open 101 = .ok (.ifCond .eq 7, 3) := by decide +kernel
theorem dX13_open_104 : decode cX13_open 104 = .ok (.iconst 1, 1) := by decide +kernel
theorem dX13_open_105 : decode cX13_open 105 = .ok (.goto 4, 3) := by decide +kernel
theorem dX13_open_108 : decode cX13_open 108 = .ok (.iconst 0, 1) := by decide +kernel
theorem dX13_open_109 : decode cX13_open 109 = .ok (.istore 7, 2) := by decide +kernel
theorem dX13_open_111 : decode cX13_open 111 = .ok (.iload 7, 2) := by decide +kernel
theorem dX13_open_113 : decode cX13_open 113 = .ok (.ifCond .eq 19, 3) := by decide +kernel
theorem dX13_open_116 : decode cX13_open 116 = .ok (.aload_n 0, 1) := by decide +kernel
theorem dX13_open_117 : decode cX13_open 117 = .ok (.aload_n 0, 1) := by decide +kernel
theorem dX13_open_118 : decode cX13_open 118 = .ok (.getfield 110, 3) := by decide +kernel
theorem dX13_open_121 : decode cX13_open 121 = .ok (.iconst 0, 1) := by decide +kernel
theorem dX13_open_122 : decode cX13_open 122 = .ok (.aload_n 0, 1) := by decide +kernel
theorem dX13_open_123 : decode cX13_open 123 = .ok (.getfield 659, 3) := by decide +kernel
theorem dX13_open_126 : decode cX13_open 126 = .ok (.invokevirtual 463, 3) := by decide +kernel
theorem dX13_open_129 : decode cX13_open 129 = .ok (.goto 4, 3) := by decide +kernel
theorem dX13_open_132 : decode cX13_open 132 = .ok (.iconst (-1), 1) := by decide +kernel
theorem dX13_open_133 : decode cX13_open 133 = .ok (.ireturn, 1) := by decide +kernel
abbrev rmX13_open : Room := { frames := 8, cells := 0, slots := 0, locals := 212 }
set_option maxHeartbeats 4000000 in
set_option maxRecDepth 100000 in
theorem wB_X13_open_109 {G : mG} {F : Nat} {x : mXT} {sz : Nat} {r0 : Int32} {M0 : mM} (X : mCX G RX13 cX13_open 8 (some .int) "open" rmX13_open x) (hQ : mQI x r0 M0 (sz, 0, 0)) {l0 : Nat} {sk0 : Int32} {M : mM} (h : B_X13_open_109 G F l0 sk0 M = some (r0, M0)) : WW x (sz, 0, 0) M 109 [(0, .ref l0)] [.int sk0] := by
  unfold B_X13_open_109 at h
  refine ww_istore 109 X dX13_open_109 (lv' := [(0, .ref l0), (7, .int sk0)]) (by decide) [1, 0] rfl ?_
  refine ww_iload 111 X dX13_open_111 1 rfl ?_
  refine ww_if_eq 113 132 X dX13_open_113 (by decide) (fun q => ?_) (fun q => ?_)
  · replace h := (if_pos q).symm.trans h
    refine ww_iconst 132 X (v := (-1 : Int32)) dX13_open_132 (by decide) ?_
    exact ww_iretE 133 X hQ dX13_open_133 h
  · replace h := (if_neg q).symm.trans h
    refine ww_aload_n 116 X dX13_open_116 0 rfl rfl ?_
    refine ww_aload_n 117 X dX13_open_117 0 rfl rfl ?_
    obtain ⟨v118, e118, h⟩ := bO_some h
    refine ww_getR 118 X dX13_open_118 fG_X13_110 e118 ?_
    refine ww_iconst 121 X (v := (0 : Int32)) dX13_open_121 (by decide) ?_
    refine ww_aload_n 122 X dX13_open_122 0 rfl rfl ?_
    obtain ⟨v123, e123, h⟩ := bO_some h
    refine ww_getI 123 X dX13_open_123 fG_X13_659 e123 ?_
    obtain ⟨_, f126, h⟩ := bO_some h
    obtain ⟨v126, M126, e126, h⟩ := bP_some h
    refine ww_callVI0 126 X dX13_open_126 mY_X13_tell mL_X13_463 (rcv_spec f126) ⟨_, _, rfl⟩ (by decide) (As := [.ref v118, .int (0 : Int32), .int v123]) (rest := []) rfl rfl ⟨Nat.le_of_ble_eq_true rfl, Nat.le_of_ble_eq_true rfl⟩ (Nat.le_of_ble_eq_true rfl) (fun l D A => c_X13_tell l D A e126) ?_
    refine ww_goto 129 133 X dX13_open_129 (by decide) ?_
    exact ww_iretE 133 X hQ dX13_open_133 h
set_option maxHeartbeats 4000000 in
set_option maxRecDepth 100000 in
theorem wP_X13_open {G : mG} {F : Nat} {x : mXT} {sz : Nat} {r0 : Int32} {M0 : mM} (X : mCX G RX13 cX13_open 8 (some .int) "open" rmX13_open x) (hQ : mQI x r0 M0 (sz, 0, 0)) {l0 : Nat} {l1 : Int32} {l2 : Int32} {l3 : Int32} {l4 : Int32} {l5 : Int32} {M : mM} (h : P_X13_open G F l0 l1 l2 l3 l4 l5 M = some (r0, M0)) : WW x (sz, 0, 0) M 0 [(0, .ref l0), (1, .int l1), (2, .int l2), (3, .int l3), (4, .int l4), (5, .int l5)] [] := by
  unfold P_X13_open at h
  refine ww_aload_n 0 X dX13_open_0 0 rfl rfl ?_
  refine ww_iload_n 1 X dX13_open_1 1 rfl rfl ?_
  refine ww_iload_n 2 X dX13_open_2 2 rfl rfl ?_
  refine ww_iload_n 3 X dX13_open_3 3 rfl rfl ?_
  refine ww_iload 4 X dX13_open_4 4 rfl ?_
  refine ww_iload 6 X dX13_open_6 5 rfl ?_
  obtain ⟨_, f8, h⟩ := bO_some h
  obtain ⟨v8, M8, e8, h⟩ := bP_some h
  refine ww_callVI0 8 X dX13_open_8 mY_X13_isContent mL_X13_676 (rcv_spec f8) ⟨_, _, rfl⟩ (by decide) (As := [.int l1, .int l2, .int l3, .int l4, .int l5]) (rest := []) rfl rfl ⟨Nat.le_of_ble_eq_true rfl, Nat.le_of_ble_eq_true rfl⟩ (Nat.le_of_ble_eq_true rfl) (fun l D A => c_X13_isContent l D A e8) ?_
  refine ww_if_ne 11 17 X dX13_open_11 (by decide) (fun q => ?_) (fun q => ?_)
  · replace h := (if_neg q).symm.trans h
    refine ww_aload_n 17 X dX13_open_17 0 rfl rfl ?_
    obtain ⟨v18, e18, h⟩ := bO_some h
    refine ww_getR 18 X dX13_open_18 fG_X13_17 e18 ?_
    refine ww_iload 21 X dX13_open_21 5 rfl ?_
    obtain ⟨v23, e23, h⟩ := bO_some h
    refine ww_iald 23 X dX13_open_23 e23 ?_
    refine ww_iload_n 24 X dX13_open_24 1 rfl rfl ?_
    obtain ⟨v25, M25, e25, h⟩ := bP_some h
    refine ww_callSI0 25 X dX13_open_25 mY_X13_markOf mL_X13_632 (As := [.int l1]) (rest := [.int v23]) rfl rfl ⟨Nat.le_of_ble_eq_true rfl, Nat.le_of_ble_eq_true rfl⟩ (Nat.le_of_ble_eq_true rfl) (fun l D A => c_X13_markOf l D A e25) ?_
    refine ww_isub 28 X dX13_open_28 ?_
    refine ww_istore 29 X dX13_open_29 (lv' := [(0, .ref l0), (1, .int l1), (2, .int l2), (3, .int l3), (4, .int l4), (5, .int l5), (6, .int (v23 - v25))]) (by decide) [1, 2, 3, 4, 5, 6, 0] rfl ?_
    refine ww_iload 31 X dX13_open_31 6 rfl ?_
    refine ww_if_lt 33 108 X dX13_open_33 (by decide) (fun q => ?_) (fun q => ?_)
    · replace h := (if_pos q).symm.trans h
      refine ww_iconst 108 X (v := (0 : Int32)) dX13_open_108 (by decide) ?_
      exact ww_sub [0] rfl (wB_X13_open_109 X hQ h)
    · replace h := (if_neg q).symm.trans h
      refine ww_aload_n 36 X dX13_open_36 0 rfl rfl ?_
      refine ww_iload_n 37 X dX13_open_37 1 rfl rfl ?_
      refine ww_aload_n 38 X dX13_open_38 0 rfl rfl ?_
      obtain ⟨v39, e39, h⟩ := bO_some h
      refine ww_getR 39 X dX13_open_39 fG_X13_14 e39 ?_
      refine ww_sipush 42 X (v := (8192 : Int32)) dX13_open_42 (by decide) ?_
      refine ww_iload_n 45 X dX13_open_45 2 rfl rfl ?_
      refine ww_imul 46 X dX13_open_46 ?_
      refine ww_aload_n 47 X dX13_open_47 0 rfl rfl ?_
      obtain ⟨v48, e48, h⟩ := bO_some h
      refine ww_getR 48 X dX13_open_48 fG_X13_14 e48 ?_
      refine ww_sipush 51 X (v := (8192 : Int32)) dX13_open_51 (by decide) ?_
      refine ww_iload_n 54 X dX13_open_54 3 rfl rfl ?_
      refine ww_imul 55 X dX13_open_55 ?_
      refine ww_aload_n 56 X dX13_open_56 0 rfl rfl ?_
      obtain ⟨v57, e57, h⟩ := bO_some h
      refine ww_getR 57 X dX13_open_57 fG_X13_14 e57 ?_
      refine ww_sipush 60 X (v := (8192 : Int32)) dX13_open_60 (by decide) ?_
      refine ww_iload 63 X dX13_open_63 4 rfl ?_
      refine ww_imul 65 X dX13_open_65 ?_
      refine ww_aload_n 66 X dX13_open_66 0 rfl rfl ?_
      obtain ⟨v67, e67, h⟩ := bO_some h
      refine ww_getR 67 X dX13_open_67 fG_X13_17 e67 ?_
      refine ww_iload 70 X dX13_open_70 4 rfl ?_
      obtain ⟨v72, e72, h⟩ := bO_some h
      refine ww_iald 72 X dX13_open_72 e72 ?_
      refine ww_aload_n 73 X dX13_open_73 0 rfl rfl ?_
      obtain ⟨v74, e74, h⟩ := bO_some h
      refine ww_getR 74 X dX13_open_74 fG_X13_14 e74 ?_
      refine ww_sipush 77 X (v := (8192 : Int32)) dX13_open_77 (by decide) ?_
      refine ww_iload 80 X dX13_open_80 5 rfl ?_
      refine ww_imul 82 X dX13_open_82 ?_
      refine ww_iload 83 X dX13_open_83 6 rfl ?_
      refine ww_aload_n 85 X dX13_open_85 0 rfl rfl ?_
      obtain ⟨v86, e86, h⟩ := bO_some h
      refine ww_getR 86 X dX13_open_86 fG_X13_14 e86 ?_
      refine ww_sipush 89 X (v := (8192 : Int32)) dX13_open_89 (by decide) ?_
      refine ww_iload 92 X dX13_open_92 5 rfl ?_
      refine ww_imul 94 X dX13_open_94 ?_
      refine ww_iload 95 X dX13_open_95 6 rfl ?_
      refine ww_iadd 97 X dX13_open_97 ?_
      obtain ⟨_, f98, h⟩ := bO_some h
      obtain ⟨v98, M98, e98, h⟩ := bP_some h
      refine ww_callVI0 98 X dX13_open_98 mY_X13_openIt mL_X13_683 (rcv_spec f98) ⟨_, _, rfl⟩ (by decide) (As := [.int l1, .ref v39, .int ((8192 : Int32) * l2), .ref v48, .int ((8192 : Int32) * l3), .ref v57, .int ((8192 : Int32) * l4), .int v72, .ref v74, .int ((8192 : Int32) * l5), .int (v23 - v25), .ref v86, .int (((8192 : Int32) * l5) + (v23 - v25))]) (rest := []) rfl rfl ⟨Nat.le_of_ble_eq_true rfl, Nat.le_of_ble_eq_true rfl⟩ (Nat.le_of_ble_eq_true rfl) (fun l D A => c_X13_openIt l D A e98) ?_
      refine ww_if_eq 101 108 X dX13_open_101 (by decide) (fun q => ?_) (fun q => ?_)
      · replace h := (if_pos q).symm.trans h
        refine ww_iconst 108 X (v := (0 : Int32)) dX13_open_108 (by decide) ?_
        exact ww_sub [0] rfl (wB_X13_open_109 X hQ h)
      · replace h := (if_neg q).symm.trans h
        refine ww_iconst 104 X (v := (1 : Int32)) dX13_open_104 (by decide) ?_
        refine ww_goto 105 109 X dX13_open_105 (by decide) ?_
        exact ww_sub [0] rfl (wB_X13_open_109 X hQ h)
  · replace h := (if_pos q).symm.trans h
    refine ww_bipush 14 X (v := (-2 : Int32)) dX13_open_14 (by decide) ?_
    exact ww_iretE 16 X hQ dX13_open_16 h
theorem c_X13_open {G : mG} {F sz : Nat} {r0 : Int32} {M0 : mM} (l : Launch) (D : mD) (A : Nat → Prop) {l0 : Nat} {l1 : Int32} {l2 : Int32} {l3 : Int32} {l4 : Int32} {l5 : Int32} {M : mM} (h : P_X13_open G F l0 l1 l2 l3 l4 l5 M = some (r0, M0)) : mMetI l D G A yX13_open cX13_open 8 (some .int) 8 212 0 0 [.ref l0, .int l1, .int l2, .int l3, .int l4, .int l5] M sz r0 M0 sz := mMetI_of l D G A (by decide) (Nat.le_of_ble_eq_true rfl) (fun x X hQ => wP_X13_open X hQ h)
/-! SealedTokensModel.raise([BII[BII[BII)V -/
theorem dX13_raise_0 : decode cX13_raise 0 = .ok (.aload_n 0, 1) := by decide +kernel
theorem dX13_raise_1 : decode cX13_raise 1 = .ok (.getfield 122, 3) := by decide +kernel
theorem dX13_raise_4 : decode cX13_raise 4 = .ok (.aload 7, 2) := by decide +kernel
theorem dX13_raise_6 : decode cX13_raise 6 = .ok (.iload 8, 2) := by decide +kernel
theorem dX13_raise_8 : decode cX13_raise 8 = .ok (.iload 9, 2) := by decide +kernel
theorem dX13_raise_10 : decode cX13_raise 10 = .ok (.invokevirtual 687, 3) := by decide +kernel
theorem dX13_raise_13 : decode cX13_raise 13 = .ok (.aload_n 0, 1) := by decide +kernel
theorem dX13_raise_14 : decode cX13_raise 14 = .ok (.getfield 122, 3) := by decide +kernel
theorem dX13_raise_17 : decode cX13_raise 17 = .ok (.aload_n 1, 1) := by decide +kernel
theorem dX13_raise_18 : decode cX13_raise 18 = .ok (.iload_n 2, 1) := by decide +kernel
theorem dX13_raise_19 : decode cX13_raise 19 = .ok (.iload_n 3, 1) := by decide +kernel
theorem dX13_raise_20 : decode cX13_raise 20 = .ok (.aload_n 0, 1) := by decide +kernel
theorem dX13_raise_21 : decode cX13_raise 21 = .ok (.getfield 132, 3) := by decide +kernel
theorem dX13_raise_24 : decode cX13_raise 24 = .ok (.invokevirtual 690, 3) := by decide +kernel
theorem dX13_raise_27 : decode cX13_raise 27 = .ok (.aload_n 0, 1) := by decide +kernel
theorem dX13_raise_28 : decode cX13_raise 28 = .ok (.getfield 122, 3) := by decide +kernel
theorem dX13_raise_31 : decode cX13_raise 31 = .ok (.aload_n 0, 1) := by decide +kernel
theorem dX13_raise_32 : decode cX13_raise 32 = .ok (.getfield 132, 3) := by decide +kernel
theorem dX13_raise_35 : decode cX13_raise 35 = .ok (.aload_n 0, 1) := by decide +kernel
theorem dX13_raise_36 : decode cX13_raise 36 = .ok (.getfield 132, 3) := by decide +kernel
theorem dX13_raise_39 : decode cX13_raise 39 = .ok (.invokevirtual 694, 3) := by decide +kernel
theorem dX13_raise_42 : decode cX13_raise 42 = .ok (.aload_n 0, 1) := by decide +kernel
theorem dX13_raise_43 : decode cX13_raise 43 = .ok (.getfield 122, 3) := by decide +kernel
theorem dX13_raise_46 : decode cX13_raise 46 = .ok (.aload_n 0, 1) := by decide +kernel
theorem dX13_raise_47 : decode cX13_raise 47 = .ok (.getfield 132, 3) := by decide +kernel
theorem dX13_raise_50 : decode cX13_raise 50 = .ok (.aload 4, 2) := by decide +kernel
theorem dX13_raise_52 : decode cX13_raise 52 = .ok (.iload 5, 2) := by decide +kernel
theorem dX13_raise_54 : decode cX13_raise 54 = .ok (.iload 6, 2) := by decide +kernel
theorem dX13_raise_56 : decode cX13_raise 56 = .ok (.aload_n 0, 1) := by decide +kernel
theorem dX13_raise_57 : decode cX13_raise 57 = .ok (.getfield 135, 3) := by decide +kernel
theorem dX13_raise_60 : decode cX13_raise 60 = .ok (.invokevirtual 698, 3) := by decide +kernel
theorem dX13_raise_63 : decode cX13_raise 63 = .ok (.aload_n 0, 1) := by decide +kernel
theorem dX13_raise_64 : decode cX13_raise 64 = .ok (.getfield 122, 3) := by decide +kernel
theorem dX13_raise_67 : decode cX13_raise 67 = .ok (.aload_n 0, 1) := by decide +kernel
theorem dX13_raise_68 : decode cX13_raise 68 = .ok (.getfield 135, 3) := by decide +kernel
theorem dX13_raise_71 : decode cX13_raise 71 = .ok (.aload_n 0, 1) := by decide +kernel
theorem dX13_raise_72 : decode cX13_raise 72 = .ok (.getfield 135, 3) := by decide +kernel
theorem dX13_raise_75 : decode cX13_raise 75 = .ok (.invokevirtual 702, 3) := by decide +kernel
theorem dX13_raise_78 : decode cX13_raise 78 = .ok (.aload_n 0, 1) := by decide +kernel
theorem dX13_raise_79 : decode cX13_raise 79 = .ok (.getfield 122, 3) := by decide +kernel
theorem dX13_raise_82 : decode cX13_raise 82 = .ok (.aload_n 0, 1) := by decide +kernel
theorem dX13_raise_83 : decode cX13_raise 83 = .ok (.getfield 135, 3) := by decide +kernel
theorem dX13_raise_86 : decode cX13_raise 86 = .ok (.aload_n 0, 1) := by decide +kernel
theorem dX13_raise_87 : decode cX13_raise 87 = .ok (.getfield 138, 3) := by decide +kernel
theorem dX13_raise_90 : decode cX13_raise 90 = .ok (.iconst 0, 1) := by decide +kernel
theorem dX13_raise_91 : decode cX13_raise 91 = .ok (.iload 9, 2) := by decide +kernel
theorem dX13_raise_93 : decode cX13_raise 93 = .ok (.invokevirtual 705, 3) := by decide +kernel
theorem dX13_raise_96 : decode cX13_raise 96 = .ok (.return_, 1) := by decide +kernel
abbrev rmX13_raise : Room := { frames := 3, cells := 0, slots := 0, locals := 85 }
set_option maxHeartbeats 4000000 in
set_option maxRecDepth 100000 in
theorem wP_X13_raise {G : mG} {F : Nat} {x : mXT} {sz : Nat} {M0 : mM} (X : mCX G RX13 cX13_raise 10 none "raise" rmX13_raise x) (hQ : mQV x M0 (sz, 0, 0)) {l0 : Nat} {l1 : Nat} {l2 : Int32} {l3 : Int32} {l4 : Nat} {l5 : Int32} {l6 : Int32} {l7 : Nat} {l8 : Int32} {l9 : Int32} {M : mM} (h : P_X13_raise G F l0 l1 l2 l3 l4 l5 l6 l7 l8 l9 M = some M0) : WW x (sz, 0, 0) M 0 [(0, .ref l0), (1, .ref l1), (2, .int l2), (3, .int l3), (4, .ref l4), (5, .int l5), (6, .int l6), (7, .ref l7), (8, .int l8), (9, .int l9)] [] := by
  unfold P_X13_raise at h
  refine ww_aload_n 0 X dX13_raise_0 0 rfl rfl ?_
  obtain ⟨v1, e1, h⟩ := bO_some h
  refine ww_getR 1 X dX13_raise_1 fG_X13_122 e1 ?_
  refine ww_aload 4 X dX13_raise_4 7 rfl ?_
  refine ww_iload 6 X dX13_raise_6 8 rfl ?_
  refine ww_iload 8 X dX13_raise_8 9 rfl ?_
  obtain ⟨_, f10, h⟩ := bO_some h
  obtain ⟨M10, e10, h⟩ := bO_some h
  refine ww_callVV0 10 X dX13_raise_10 mY_X12_set mL_X13_687 (rcv_spec f10) ⟨_, _, rfl⟩ (by decide) (As := [.ref l7, .int l8, .int l9]) (rest := []) rfl rfl ⟨Nat.le_of_ble_eq_true rfl, Nat.le_of_ble_eq_true rfl⟩ (Nat.le_of_ble_eq_true rfl) (fun l D A => c_X12_set l D A e10) ?_
  refine ww_aload_n 13 X dX13_raise_13 0 rfl rfl ?_
  obtain ⟨v14, e14, h⟩ := bO_some h
  refine ww_getR 14 X dX13_raise_14 fG_X13_122 e14 ?_
  refine ww_aload_n 17 X dX13_raise_17 1 rfl rfl ?_
  refine ww_iload_n 18 X dX13_raise_18 2 rfl rfl ?_
  refine ww_iload_n 19 X dX13_raise_19 3 rfl rfl ?_
  refine ww_aload_n 20 X dX13_raise_20 0 rfl rfl ?_
  obtain ⟨v21, e21, h⟩ := bO_some h
  refine ww_getR 21 X dX13_raise_21 fG_X13_132 e21 ?_
  obtain ⟨_, f24, h⟩ := bO_some h
  obtain ⟨M24, e24, h⟩ := bO_some h
  refine ww_callVV0 24 X dX13_raise_24 mY_X12_reduce mL_X13_690 (rcv_spec f24) ⟨_, _, rfl⟩ (by decide) (As := [.ref l1, .int l2, .int l3, .ref v21]) (rest := []) rfl rfl ⟨Nat.le_of_ble_eq_true rfl, Nat.le_of_ble_eq_true rfl⟩ (Nat.le_of_ble_eq_true rfl) (fun l D A => c_X12_reduce l D A e24) ?_
  refine ww_aload_n 27 X dX13_raise_27 0 rfl rfl ?_
  obtain ⟨v28, e28, h⟩ := bO_some h
  refine ww_getR 28 X dX13_raise_28 fG_X13_122 e28 ?_
  refine ww_aload_n 31 X dX13_raise_31 0 rfl rfl ?_
  obtain ⟨v32, e32, h⟩ := bO_some h
  refine ww_getR 32 X dX13_raise_32 fG_X13_132 e32 ?_
  refine ww_aload_n 35 X dX13_raise_35 0 rfl rfl ?_
  obtain ⟨v36, e36, h⟩ := bO_some h
  refine ww_getR 36 X dX13_raise_36 fG_X13_132 e36 ?_
  obtain ⟨_, f39, h⟩ := bO_some h
  obtain ⟨M39, e39, h⟩ := bO_some h
  refine ww_callVV0 39 X dX13_raise_39 mY_X12_into mL_X13_694 (rcv_spec f39) ⟨_, _, rfl⟩ (by decide) (As := [.ref v32, .ref v36]) (rest := []) rfl rfl ⟨Nat.le_of_ble_eq_true rfl, Nat.le_of_ble_eq_true rfl⟩ (Nat.le_of_ble_eq_true rfl) (fun l D A => c_X12_into l D A e39) ?_
  refine ww_aload_n 42 X dX13_raise_42 0 rfl rfl ?_
  obtain ⟨v43, e43, h⟩ := bO_some h
  refine ww_getR 43 X dX13_raise_43 fG_X13_122 e43 ?_
  refine ww_aload_n 46 X dX13_raise_46 0 rfl rfl ?_
  obtain ⟨v47, e47, h⟩ := bO_some h
  refine ww_getR 47 X dX13_raise_47 fG_X13_132 e47 ?_
  refine ww_aload 50 X dX13_raise_50 4 rfl ?_
  refine ww_iload 52 X dX13_raise_52 5 rfl ?_
  refine ww_iload 54 X dX13_raise_54 6 rfl ?_
  refine ww_aload_n 56 X dX13_raise_56 0 rfl rfl ?_
  obtain ⟨v57, e57, h⟩ := bO_some h
  refine ww_getR 57 X dX13_raise_57 fG_X13_135 e57 ?_
  obtain ⟨_, f60, h⟩ := bO_some h
  obtain ⟨M60, e60, h⟩ := bO_some h
  refine ww_callVV0 60 X dX13_raise_60 mY_X12_power mL_X13_698 (rcv_spec f60) ⟨_, _, rfl⟩ (by decide) (As := [.ref v47, .ref l4, .int l5, .int l6, .ref v57]) (rest := []) rfl rfl ⟨Nat.le_of_ble_eq_true rfl, Nat.le_of_ble_eq_true rfl⟩ (Nat.le_of_ble_eq_true rfl) (fun l D A => c_X12_power l D A e60) ?_
  refine ww_aload_n 63 X dX13_raise_63 0 rfl rfl ?_
  obtain ⟨v64, e64, h⟩ := bO_some h
  refine ww_getR 64 X dX13_raise_64 fG_X13_122 e64 ?_
  refine ww_aload_n 67 X dX13_raise_67 0 rfl rfl ?_
  obtain ⟨v68, e68, h⟩ := bO_some h
  refine ww_getR 68 X dX13_raise_68 fG_X13_135 e68 ?_
  refine ww_aload_n 71 X dX13_raise_71 0 rfl rfl ?_
  obtain ⟨v72, e72, h⟩ := bO_some h
  refine ww_getR 72 X dX13_raise_72 fG_X13_135 e72 ?_
  obtain ⟨_, f75, h⟩ := bO_some h
  obtain ⟨M75, e75, h⟩ := bO_some h
  refine ww_callVV0 75 X dX13_raise_75 mY_X12_outOf mL_X13_702 (rcv_spec f75) ⟨_, _, rfl⟩ (by decide) (As := [.ref v68, .ref v72]) (rest := []) rfl rfl ⟨Nat.le_of_ble_eq_true rfl, Nat.le_of_ble_eq_true rfl⟩ (Nat.le_of_ble_eq_true rfl) (fun l D A => c_X12_outOf l D A e75) ?_
  refine ww_aload_n 78 X dX13_raise_78 0 rfl rfl ?_
  obtain ⟨v79, e79, h⟩ := bO_some h
  refine ww_getR 79 X dX13_raise_79 fG_X13_122 e79 ?_
  refine ww_aload_n 82 X dX13_raise_82 0 rfl rfl ?_
  obtain ⟨v83, e83, h⟩ := bO_some h
  refine ww_getR 83 X dX13_raise_83 fG_X13_135 e83 ?_
  refine ww_aload_n 86 X dX13_raise_86 0 rfl rfl ?_
  obtain ⟨v87, e87, h⟩ := bO_some h
  refine ww_getR 87 X dX13_raise_87 fG_X13_138 e87 ?_
  refine ww_iconst 90 X (v := (0 : Int32)) dX13_raise_90 (by decide) ?_
  refine ww_iload 91 X dX13_raise_91 9 rfl ?_
  obtain ⟨_, f93, h⟩ := bO_some h
  obtain ⟨M93, e93, h⟩ := bO_some h
  refine ww_callVV0 93 X dX13_raise_93 mY_X12_store mL_X13_705 (rcv_spec f93) ⟨_, _, rfl⟩ (by decide) (As := [.ref v83, .ref v87, .int (0 : Int32), .int l9]) (rest := []) rfl rfl ⟨Nat.le_of_ble_eq_true rfl, Nat.le_of_ble_eq_true rfl⟩ (Nat.le_of_ble_eq_true rfl) (fun l D A => c_X12_store l D A e93) ?_
  exact ww_vretE 96 X hQ dX13_raise_96 h
theorem c_X13_raise {G : mG} {F sz : Nat} {M0 : mM} (l : Launch) (D : mD) (A : Nat → Prop) {l0 : Nat} {l1 : Nat} {l2 : Int32} {l3 : Int32} {l4 : Nat} {l5 : Int32} {l6 : Int32} {l7 : Nat} {l8 : Int32} {l9 : Int32} {M : mM} (h : P_X13_raise G F l0 l1 l2 l3 l4 l5 l6 l7 l8 l9 M = some M0) : mMetV l D G A yX13_raise cX13_raise 10 none 3 85 0 0 [.ref l0, .ref l1, .int l2, .int l3, .ref l4, .int l5, .int l6, .ref l7, .int l8, .int l9] M sz M0 sz := mMetV_of l D G A (by decide) (Nat.le_of_ble_eq_true rfl) (fun x X hQ => wP_X13_raise X hQ h)
/-! SealedTokensModel.power(III)I -/
theorem dX13_power_0 : decode cX13_power 0 = .ok (.iload_n 1, 1) := by decide +kernel
theorem dX13_power_1 : decode cX13_power 1 = .ok (.invokestatic 332, 3) := by decide +kernel
theorem dX13_power_4 : decode cX13_power 4 = .ok (.ifCond .eq 63, 3) := by decide +kernel
theorem dX13_power_7 : decode cX13_power 7 = .ok (.iload_n 2, 1) := by decide +kernel
theorem dX13_power_8 : decode cX13_power 8 = .ok (.invokestatic 332, 3) := by decide +kernel
theorem dX13_power_11 : decode cX13_power 11 = .ok (.ifCond .eq 56, 3) := by decide +kernel
theorem dX13_power_14 : decode cX13_power 14 = .ok (.iload_n 3, 1) := by decide +kernel
theorem dX13_power_15 : decode cX13_power 15 = .ok (.invokestatic 332, 3) := by decide +kernel
theorem dX13_power_18 : decode cX13_power 18 = .ok (.ifCond .eq 49, 3) := by decide +kernel
theorem dX13_power_21 : decode cX13_power 21 = .ok (.aload_n 0, 1) := by decide +kernel
theorem dX13_power_22 : decode cX13_power 22 = .ok (.getfield 17, 3) := by decide +kernel
theorem dX13_power_25 : decode cX13_power 25 = .ok (.iload_n 1, 1) := by decide +kernel
theorem dX13_power_26 : decode cX13_power 26 = .ok (.iaload, 1) := by decide +kernel
theorem dX13_power_27 : decode cX13_power 27 = .ok (.sipush 128, 3) := by decide +kernel
theorem dX13_power_30 : decode cX13_power 30 = .ok (.if_icmp .gt 37, 3) := by decide +kernel
theorem dX13_power_33 : decode cX13_power 33 = .ok (.aload_n 0, 1) := by decide +kernel
theorem dX13_power_34 : decode cX13_power 34 = .ok (.getfield 17, 3) := by decide +kernel
theorem dX13_power_37 : decode cX13_power 37 = .ok (.iload_n 2, 1) := by decide +kernel
theorem dX13_power_38 : decode cX13_power 38 = .ok (.iaload, 1) := by decide +kernel
theorem dX13_power_39 : decode cX13_power 39 = .ok (.sipush 128, 3) := by decide +kernel
theorem dX13_power_42 : decode cX13_power 42 = .ok (.if_icmp .gt 25, 3) := by decide +kernel
theorem dX13_power_45 : decode cX13_power 45 = .ok (.aload_n 0, 1) := by decide +kernel
theorem dX13_power_46 : decode cX13_power 46 = .ok (.getfield 17, 3) := by decide +kernel
theorem dX13_power_49 : decode cX13_power 49 = .ok (.iload_n 3, 1) := by decide +kernel
theorem dX13_power_50 : decode cX13_power 50 = .ok (.iaload, 1) := by decide +kernel
theorem dX13_power_51 : decode cX13_power 51 = .ok (.iconst 1, 1) := by decide +kernel
theorem dX13_power_52 : decode cX13_power 52 = .ok (.if_icmp .lt 15, 3) := by decide +kernel
theorem dX13_power_55 : decode cX13_power 55 = .ok (.aload_n 0, 1) := by decide +kernel
theorem dX13_power_56 : decode cX13_power 56 = .ok (.getfield 17, 3) := by decide +kernel
theorem dX13_power_59 : decode cX13_power 59 = .ok (.iload_n 3, 1) := by decide +kernel
theorem dX13_power_60 : decode cX13_power 60 = .ok (.iaload, 1) := by decide +kernel
theorem dX13_power_61 : decode cX13_power 61 = .ok (.sipush 128, 3) := by decide +kernel
theorem dX13_power_64 : decode cX13_power 64 = .ok (.if_icmp .le 6, 3) := by decide +kernel
theorem dX13_power_67 : decode cX13_power 67 = .ok (.bipush (-2), 2) := by decide +kernel
theorem dX13_power_69 : decode cX13_power 69 = .ok (.ireturn, 1) := by decide +kernel
theorem dX13_power_70 : decode cX13_power 70 = .ok (.sipush 8192, 3) := by decide +kernel
theorem dX13_power_73 : decode cX13_power 73 = .ok (.iload_n 3, 1) := by decide +kernel
theorem dX13_power_74 : decode cX13_power 74 = .ok (.imul, 1) := by decide +kernel
theorem dX13_power_75 : decode cX13_power 75 = .ok (.istore 4, 2) := by decide +kernel
theorem dX13_power_77 : decode cX13_power 77 = .ok (.aload_n 0, 1) := by decide +kernel
theorem dX13_power_78 : decode cX13_power 78 = .ok (.getfield 17, 3) := by decide +kernel
theorem dX13_power_81 : decode cX13_power 81 = .ok (.iload_n 3, 1) := by decide +kernel
theorem dX13_power_82 : decode cX13_power 82 = .ok (.iaload, 1) := by decide +kernel
theorem dX13_power_83 : decode cX13_power 83 = .ok (.istore 5, 2) := by decide +kernel
theorem dX13_power_85 : decode cX13_power 85 = .ok (.aload_n 0, 1) := by decide +kernel
theorem dX13_power_86 : decode cX13_power 86 = .ok (.getfield 14, 3) := by decide +kernel
theorem dX13_power_89 : decode cX13_power 89 = .ok (.iload 4, 2) := by decide +kernel
theorem dX13_power_91 : decode cX13_power 91 = .ok (.baload, 1) := by decide +kernel
theorem dX13_power_92 : decode cX13_power 92 = .ok (.ifCond .eq 37, 3) := by decide +kernel
theorem dX13_power_95 : decode cX13_power 95 = .ok (.aload_n 0, 1) := by decide +kernel
theorem dX13_power_96 : decode cX13_power 96 = .ok (.getfield 14, 3) := by decide +kernel
theorem dX13_power_99 : decode cX13_power 99 = .ok (.iload 4, 2) := by decide +kernel
theorem dX13_power_101 : decode cX13_power 101 = .ok (.iload 5, 2) := by decide +kernel
theorem dX13_power_103 : decode cX13_power 103 = .ok (.iadd, 1) := by decide +kernel
theorem dX13_power_104 : decode cX13_power 104 = .ok (.iconst 1, 1) := by decide +kernel
theorem dX13_power_105 : decode cX13_power 105 = .ok (.isub, 1) := by decide +kernel
theorem dX13_power_106 : decode cX13_power 106 = .ok (.baload, 1) := by decide +kernel
theorem dX13_power_107 : decode cX13_power 107 = .ok (.iconst 2, 1) := by decide +kernel
theorem dX13_power_108 : decode cX13_power 108 = .ok (.irem, 1) := by decide +kernel
theorem dX13_power_109 : decode cX13_power 109 = .ok (.ifCond .eq 20, 3) := by decide +kernel
theorem dX13_power_112 : decode cX13_power 112 = .ok (.iload 5, 2) := by decide +kernel
theorem dX13_power_114 : decode cX13_power 114 = .ok (.iconst 1, 1) := by decide +kernel
theorem dX13_power_115 : decode cX13_power 115 = .ok (.if_icmp .ne 17, 3) := by decide +kernel
theorem dX13_power_118 : decode cX13_power 118 = .ok (.aload_n 0, 1) := by decide +kernel
theorem dX13_power_119 : decode cX13_power 119 = .ok (.getfield 14, 3) := by decide +kernel
theorem dX13_power_122 : decode cX13_power 122 = .ok (.iload 4, 2) := by decide +kernel
theorem dX13_power_124 : decode cX13_power 124 = .ok (.baload, 1) := by decide +kernel
theorem dX13_power_125 : decode cX13_power 125 = .ok (.iconst 1, 1) := by decide +kernel
theorem dX13_power_126 : decode cX13_power 126 = .ok (.if_icmp .ne 6, 3) := by decide +kernel
theorem dX13_power_129 : decode cX13_power 129 = .ok (.bipush (-2), 2) := by decide +kernel
theorem dX13_power_131 : decode cX13_power 131 = .ok (.ireturn, 1) := by decide +kernel
theorem dX13_power_132 : decode cX13_power 132 = .ok (.aload_n 0, 1) := by decide +kernel
theorem dX13_power_133 : decode cX13_power 133 = .ok (.aload_n 0, 1) := by decide +kernel
theorem dX13_power_134 : decode cX13_power 134 = .ok (.getfield 14, 3) := by decide +kernel
theorem dX13_power_137 : decode cX13_power 137 = .ok (.sipush 8192, 3) := by decide +kernel
theorem dX13_power_140 : decode cX13_power 140 = .ok (.iload_n 1, 1) := by decide +kernel
theorem dX13_power_141 : decode cX13_power 141 = .ok (.imul, 1) := by decide +kernel
theorem dX13_power_142 : decode cX13_power 142 = .ok (.aload_n 0, 1) := by decide +kernel
theorem dX13_power_143 : decode cX13_power 143 = .ok (.getfield 17, 3) := by decide +kernel
theorem dX13_power_146 : decode cX13_power 146 = .ok (.iload_n 1, 1) := by decide +kernel
theorem dX13_power_147 : decode cX13_power 147 = .ok (.iaload, 1) := by decide +kernel
theorem dX13_power_148 : decode cX13_power 148 = .ok (.aload_n 0, 1) := by decide +kernel
theorem dX13_power_149 : decode cX13_power 149 = .ok (.getfield 14, 3) := by decide +kernel
theorem dX13_power_152 : decode cX13_power 152 = .ok (.sipush 8192, 3) := by decide +kernel
theorem dX13_power_155 : decode cX13_power 155 = .ok (.iload_n 2, 1) := by decide +kernel
theorem dX13_power_156 : decode cX13_power 156 = .ok (.imul, 1) := by decide +kernel
theorem dX13_power_157 : decode cX13_power 157 = .ok (.aload_n 0, 1) := by decide +kernel
theorem dX13_power_158 : decode cX13_power 158 = .ok (.getfield 17, 3) := by decide +kernel
theorem dX13_power_161 : decode cX13_power 161 = .ok (.iload_n 2, 1) := by decide +kernel
theorem dX13_power_162 : decode cX13_power 162 = .ok (.iaload, 1) := by decide +kernel
theorem dX13_power_163 : decode cX13_power 163 = .ok (.aload_n 0, 1) := by decide +kernel
theorem dX13_power_164 : decode cX13_power 164 = .ok (.getfield 14, 3) := by decide +kernel
theorem dX13_power_167 : decode cX13_power 167 = .ok (.iload 4, 2) := by decide +kernel
theorem dX13_power_169 : decode cX13_power 169 = .ok (.iload 5, 2) := by decide +kernel
theorem dX13_power_171 : decode cX13_power 171 = .ok (.invokevirtual 709, 3) := by decide +kernel
theorem dX13_power_174 : decode cX13_power 174 = .ok (.aload_n 0, 1) := by decide +kernel
theorem dX13_power_175 : decode cX13_power 175 = .ok (.aload_n 0, 1) := by decide +kernel
theorem dX13_power_176 : decode cX13_power 176 = .ok (.getfield 138, 3) := by decide +kernel
theorem dX13_power_179 : decode cX13_power 179 = .ok (.iconst 0, 1) := by decide +kernel
theorem dX13_power_180 : decode cX13_power 180 = .ok (.iload 5, 2) := by decide +kernel
theorem dX13_power_182 : decode cX13_power 182 = .ok (.invokevirtual 463, 3) := by decide +kernel
theorem dX13_power_185 : decode cX13_power 185 = .ok (.ireturn, 1) := by decide +kernel
abbrev rmX13_power : Room := { frames := 4, cells := 0, slots := 0, locals := 114 }
set_option maxHeartbeats 4000000 in
set_option maxRecDepth 100000 in
theorem wB_X13_power_132 {G : mG} {F : Nat} {x : mXT} {sz : Nat} {r0 : Int32} {M0 : mM} (X : mCX G RX13 cX13_power 6 (some .int) "power" rmX13_power x) (hQ : mQI x r0 M0 (sz, 0, 0)) {l0 : Nat} {l1 : Int32} {l2 : Int32} {l4 : Int32} {l5 : Int32} {M : mM} (h : B_X13_power_132 G F l0 l1 l2 l4 l5 M = some (r0, M0)) : WW x (sz, 0, 0) M 132 [(0, .ref l0), (1, .int l1), (2, .int l2), (4, .int l4), (5, .int l5)] [] := by
  unfold B_X13_power_132 at h
  refine ww_aload_n 132 X dX13_power_132 0 rfl rfl ?_
  refine ww_aload_n 133 X dX13_power_133 0 rfl rfl ?_
  obtain ⟨v134, e134, h⟩ := bO_some h
  refine ww_getR 134 X dX13_power_134 fG_X13_14 e134 ?_
  refine ww_sipush 137 X (v := (8192 : Int32)) dX13_power_137 (by decide) ?_
  refine ww_iload_n 140 X dX13_power_140 1 rfl rfl ?_
  refine ww_imul 141 X dX13_power_141 ?_
  refine ww_aload_n 142 X dX13_power_142 0 rfl rfl ?_
  obtain ⟨v143, e143, h⟩ := bO_some h
  refine ww_getR 143 X dX13_power_143 fG_X13_17 e143 ?_
  refine ww_iload_n 146 X dX13_power_146 1 rfl rfl ?_
  obtain ⟨v147, e147, h⟩ := bO_some h
  refine ww_iald 147 X dX13_power_147 e147 ?_
  refine ww_aload_n 148 X dX13_power_148 0 rfl rfl ?_
  obtain ⟨v149, e149, h⟩ := bO_some h
  refine ww_getR 149 X dX13_power_149 fG_X13_14 e149 ?_
  refine ww_sipush 152 X (v := (8192 : Int32)) dX13_power_152 (by decide) ?_
  refine ww_iload_n 155 X dX13_power_155 2 rfl rfl ?_
  refine ww_imul 156 X dX13_power_156 ?_
  refine ww_aload_n 157 X dX13_power_157 0 rfl rfl ?_
  obtain ⟨v158, e158, h⟩ := bO_some h
  refine ww_getR 158 X dX13_power_158 fG_X13_17 e158 ?_
  refine ww_iload_n 161 X dX13_power_161 2 rfl rfl ?_
  obtain ⟨v162, e162, h⟩ := bO_some h
  refine ww_iald 162 X dX13_power_162 e162 ?_
  refine ww_aload_n 163 X dX13_power_163 0 rfl rfl ?_
  obtain ⟨v164, e164, h⟩ := bO_some h
  refine ww_getR 164 X dX13_power_164 fG_X13_14 e164 ?_
  refine ww_iload 167 X dX13_power_167 3 rfl ?_
  refine ww_iload 169 X dX13_power_169 4 rfl ?_
  obtain ⟨_, f171, h⟩ := bO_some h
  obtain ⟨M171, e171, h⟩ := bO_some h
  refine ww_callVV0 171 X dX13_power_171 mY_X13_raise mL_X13_709 (rcv_spec f171) ⟨_, _, rfl⟩ (by decide) (As := [.ref v134, .int ((8192 : Int32) * l1), .int v147, .ref v149, .int ((8192 : Int32) * l2), .int v162, .ref v164, .int l4, .int l5]) (rest := []) rfl rfl ⟨Nat.le_of_ble_eq_true rfl, Nat.le_of_ble_eq_true rfl⟩ (Nat.le_of_ble_eq_true rfl) (fun l D A => c_X13_raise l D A e171) ?_
  refine ww_aload_n 174 X dX13_power_174 0 rfl rfl ?_
  refine ww_aload_n 175 X dX13_power_175 0 rfl rfl ?_
  obtain ⟨v176, e176, h⟩ := bO_some h
  refine ww_getR 176 X dX13_power_176 fG_X13_138 e176 ?_
  refine ww_iconst 179 X (v := (0 : Int32)) dX13_power_179 (by decide) ?_
  refine ww_iload 180 X dX13_power_180 4 rfl ?_
  obtain ⟨_, f182, h⟩ := bO_some h
  obtain ⟨v182, M182, e182, h⟩ := bP_some h
  refine ww_callVI0 182 X dX13_power_182 mY_X13_tell mL_X13_463 (rcv_spec f182) ⟨_, _, rfl⟩ (by decide) (As := [.ref v176, .int (0 : Int32), .int l5]) (rest := []) rfl rfl ⟨Nat.le_of_ble_eq_true rfl, Nat.le_of_ble_eq_true rfl⟩ (Nat.le_of_ble_eq_true rfl) (fun l D A => c_X13_tell l D A e182) ?_
  exact ww_iretE 185 X hQ dX13_power_185 h
set_option maxHeartbeats 4000000 in
set_option maxRecDepth 100000 in
theorem wP_X13_power {G : mG} {F : Nat} {x : mXT} {sz : Nat} {r0 : Int32} {M0 : mM} (X : mCX G RX13 cX13_power 6 (some .int) "power" rmX13_power x) (hQ : mQI x r0 M0 (sz, 0, 0)) {l0 : Nat} {l1 : Int32} {l2 : Int32} {l3 : Int32} {M : mM} (h : P_X13_power G F l0 l1 l2 l3 M = some (r0, M0)) : WW x (sz, 0, 0) M 0 [(0, .ref l0), (1, .int l1), (2, .int l2), (3, .int l3)] [] := by
  unfold P_X13_power at h
  refine ww_iload_n 0 X dX13_power_0 1 rfl rfl ?_
  obtain ⟨v1, M1, e1, h⟩ := bP_some h
  refine ww_callSI0 1 X dX13_power_1 mY_X13_isRow mL_X13_332 (As := [.int l1]) (rest := []) rfl rfl ⟨Nat.le_of_ble_eq_true rfl, Nat.le_of_ble_eq_true rfl⟩ (Nat.le_of_ble_eq_true rfl) (fun l D A => c_X13_isRow l D A e1) ?_
  refine ww_if_eq 4 67 X dX13_power_4 (by decide) (fun q => ?_) (fun q => ?_)
  · replace h := (if_pos q).symm.trans h
    refine ww_bipush 67 X (v := (-2 : Int32)) dX13_power_67 (by decide) ?_
    exact ww_iretE 69 X hQ dX13_power_69 h
  · replace h := (if_neg q).symm.trans h
    refine ww_iload_n 7 X dX13_power_7 2 rfl rfl ?_
    obtain ⟨v8, M8, e8, h⟩ := bP_some h
    refine ww_callSI0 8 X dX13_power_8 mY_X13_isRow mL_X13_332 (As := [.int l2]) (rest := []) rfl rfl ⟨Nat.le_of_ble_eq_true rfl, Nat.le_of_ble_eq_true rfl⟩ (Nat.le_of_ble_eq_true rfl) (fun l D A => c_X13_isRow l D A e8) ?_
    refine ww_if_eq 11 67 X dX13_power_11 (by decide) (fun q => ?_) (fun q => ?_)
    · replace h := (if_pos q).symm.trans h
      refine ww_bipush 67 X (v := (-2 : Int32)) dX13_power_67 (by decide) ?_
      exact ww_iretE 69 X hQ dX13_power_69 h
    · replace h := (if_neg q).symm.trans h
      refine ww_iload_n 14 X dX13_power_14 3 rfl rfl ?_
      obtain ⟨v15, M15, e15, h⟩ := bP_some h
      refine ww_callSI0 15 X dX13_power_15 mY_X13_isRow mL_X13_332 (As := [.int l3]) (rest := []) rfl rfl ⟨Nat.le_of_ble_eq_true rfl, Nat.le_of_ble_eq_true rfl⟩ (Nat.le_of_ble_eq_true rfl) (fun l D A => c_X13_isRow l D A e15) ?_
      refine ww_if_eq 18 67 X dX13_power_18 (by decide) (fun q => ?_) (fun q => ?_)
      · replace h := (if_pos q).symm.trans h
        refine ww_bipush 67 X (v := (-2 : Int32)) dX13_power_67 (by decide) ?_
        exact ww_iretE 69 X hQ dX13_power_69 h
      · replace h := (if_neg q).symm.trans h
        refine ww_aload_n 21 X dX13_power_21 0 rfl rfl ?_
        obtain ⟨v22, e22, h⟩ := bO_some h
        refine ww_getR 22 X dX13_power_22 fG_X13_17 e22 ?_
        refine ww_iload_n 25 X dX13_power_25 1 rfl rfl ?_
        obtain ⟨v26, e26, h⟩ := bO_some h
        refine ww_iald 26 X dX13_power_26 e26 ?_
        refine ww_sipush 27 X (v := (128 : Int32)) dX13_power_27 (by decide) ?_
        refine ww_icmp_gt 30 67 X dX13_power_30 (by decide) (fun q => ?_) (fun q => ?_)
        · replace h := (if_pos q).symm.trans h
          refine ww_bipush 67 X (v := (-2 : Int32)) dX13_power_67 (by decide) ?_
          exact ww_iretE 69 X hQ dX13_power_69 h
        · replace h := (if_neg q).symm.trans h
          refine ww_aload_n 33 X dX13_power_33 0 rfl rfl ?_
          obtain ⟨v34, e34, h⟩ := bO_some h
          refine ww_getR 34 X dX13_power_34 fG_X13_17 e34 ?_
          refine ww_iload_n 37 X dX13_power_37 2 rfl rfl ?_
          obtain ⟨v38, e38, h⟩ := bO_some h
          refine ww_iald 38 X dX13_power_38 e38 ?_
          refine ww_sipush 39 X (v := (128 : Int32)) dX13_power_39 (by decide) ?_
          refine ww_icmp_gt 42 67 X dX13_power_42 (by decide) (fun q => ?_) (fun q => ?_)
          · replace h := (if_pos q).symm.trans h
            refine ww_bipush 67 X (v := (-2 : Int32)) dX13_power_67 (by decide) ?_
            exact ww_iretE 69 X hQ dX13_power_69 h
          · replace h := (if_neg q).symm.trans h
            refine ww_aload_n 45 X dX13_power_45 0 rfl rfl ?_
            obtain ⟨v46, e46, h⟩ := bO_some h
            refine ww_getR 46 X dX13_power_46 fG_X13_17 e46 ?_
            refine ww_iload_n 49 X dX13_power_49 3 rfl rfl ?_
            obtain ⟨v50, e50, h⟩ := bO_some h
            refine ww_iald 50 X dX13_power_50 e50 ?_
            refine ww_iconst 51 X (v := (1 : Int32)) dX13_power_51 (by decide) ?_
            refine ww_icmp_lt 52 67 X dX13_power_52 (by decide) (fun q => ?_) (fun q => ?_)
            · replace h := (if_pos q).symm.trans h
              refine ww_bipush 67 X (v := (-2 : Int32)) dX13_power_67 (by decide) ?_
              exact ww_iretE 69 X hQ dX13_power_69 h
            · replace h := (if_neg q).symm.trans h
              refine ww_aload_n 55 X dX13_power_55 0 rfl rfl ?_
              obtain ⟨v56, e56, h⟩ := bO_some h
              refine ww_getR 56 X dX13_power_56 fG_X13_17 e56 ?_
              refine ww_iload_n 59 X dX13_power_59 3 rfl rfl ?_
              obtain ⟨v60, e60, h⟩ := bO_some h
              refine ww_iald 60 X dX13_power_60 e60 ?_
              refine ww_sipush 61 X (v := (128 : Int32)) dX13_power_61 (by decide) ?_
              refine ww_icmp_le 64 70 X dX13_power_64 (by decide) (fun q => ?_) (fun q => ?_)
              · replace h := (if_pos q).symm.trans h
                refine ww_sipush 70 X (v := (8192 : Int32)) dX13_power_70 (by decide) ?_
                refine ww_iload_n 73 X dX13_power_73 3 rfl rfl ?_
                refine ww_imul 74 X dX13_power_74 ?_
                refine ww_istore 75 X dX13_power_75 (lv' := [(0, .ref l0), (1, .int l1), (2, .int l2), (3, .int l3), (4, .int ((8192 : Int32) * l3))]) (by decide) [1, 2, 3, 4, 0] rfl ?_
                refine ww_aload_n 77 X dX13_power_77 0 rfl rfl ?_
                obtain ⟨v78, e78, h⟩ := bO_some h
                refine ww_getR 78 X dX13_power_78 fG_X13_17 e78 ?_
                refine ww_iload_n 81 X dX13_power_81 3 rfl rfl ?_
                obtain ⟨v82, e82, h⟩ := bO_some h
                refine ww_iald 82 X dX13_power_82 e82 ?_
                refine ww_istore 83 X dX13_power_83 (lv' := [(0, .ref l0), (1, .int l1), (2, .int l2), (3, .int l3), (4, .int ((8192 : Int32) * l3)), (5, .int v82)]) (by decide) [1, 2, 3, 4, 5, 0] rfl ?_
                refine ww_aload_n 85 X dX13_power_85 0 rfl rfl ?_
                obtain ⟨v86, e86, h⟩ := bO_some h
                refine ww_getR 86 X dX13_power_86 fG_X13_14 e86 ?_
                refine ww_iload 89 X dX13_power_89 4 rfl ?_
                obtain ⟨v91, e91, h⟩ := bO_some h
                refine ww_bald 91 X dX13_power_91 e91 ?_
                refine ww_if_eq 92 129 X dX13_power_92 (by decide) (fun q => ?_) (fun q => ?_)
                · replace h := (if_pos q).symm.trans h
                  refine ww_bipush 129 X (v := (-2 : Int32)) dX13_power_129 (by decide) ?_
                  exact ww_iretE 131 X hQ dX13_power_131 h
                · replace h := (if_neg q).symm.trans h
                  refine ww_aload_n 95 X dX13_power_95 0 rfl rfl ?_
                  obtain ⟨v96, e96, h⟩ := bO_some h
                  refine ww_getR 96 X dX13_power_96 fG_X13_14 e96 ?_
                  refine ww_iload 99 X dX13_power_99 4 rfl ?_
                  refine ww_iload 101 X dX13_power_101 5 rfl ?_
                  refine ww_iadd 103 X dX13_power_103 ?_
                  refine ww_iconst 104 X (v := (1 : Int32)) dX13_power_104 (by decide) ?_
                  refine ww_isub 105 X dX13_power_105 ?_
                  obtain ⟨v106, e106, h⟩ := bO_some h
                  refine ww_bald 106 X dX13_power_106 e106 ?_
                  refine ww_iconst 107 X (v := (2 : Int32)) dX13_power_107 (by decide) ?_
                  refine ww_irem 108 X (v := (v106 - v106 / (2 : Int32) * (2 : Int32))) dX13_power_108 rfl ?_
                  refine ww_if_eq 109 129 X dX13_power_109 (by decide) (fun q => ?_) (fun q => ?_)
                  · replace h := (if_pos q).symm.trans h
                    refine ww_bipush 129 X (v := (-2 : Int32)) dX13_power_129 (by decide) ?_
                    exact ww_iretE 131 X hQ dX13_power_131 h
                  · replace h := (if_neg q).symm.trans h
                    refine ww_iload 112 X dX13_power_112 5 rfl ?_
                    refine ww_iconst 114 X (v := (1 : Int32)) dX13_power_114 (by decide) ?_
                    refine ww_icmp_ne 115 132 X dX13_power_115 (by decide) (fun q => ?_) (fun q => ?_)
                    · replace h := (if_neg q).symm.trans h
                      exact ww_sub [0, 1, 2, 4, 5] rfl (wB_X13_power_132 X hQ h)
                    · replace h := (if_pos q).symm.trans h
                      refine ww_aload_n 118 X dX13_power_118 0 rfl rfl ?_
                      obtain ⟨v119, e119, h⟩ := bO_some h
                      refine ww_getR 119 X dX13_power_119 fG_X13_14 e119 ?_
                      refine ww_iload 122 X dX13_power_122 4 rfl ?_
                      obtain ⟨v124, e124, h⟩ := bO_some h
                      refine ww_bald 124 X dX13_power_124 e124 ?_
                      refine ww_iconst 125 X (v := (1 : Int32)) dX13_power_125 (by decide) ?_
                      refine ww_icmp_ne 126 132 X dX13_power_126 (by decide) (fun q => ?_) (fun q => ?_)
                      · replace h := (if_neg q).symm.trans h
                        exact ww_sub [0, 1, 2, 4, 5] rfl (wB_X13_power_132 X hQ h)
                      · replace h := (if_pos q).symm.trans h
                        refine ww_bipush 129 X (v := (-2 : Int32)) dX13_power_129 (by decide) ?_
                        exact ww_iretE 131 X hQ dX13_power_131 h
              · replace h := (if_neg q).symm.trans h
                refine ww_bipush 67 X (v := (-2 : Int32)) dX13_power_67 (by decide) ?_
                exact ww_iretE 69 X hQ dX13_power_69 h
theorem c_X13_power {G : mG} {F sz : Nat} {r0 : Int32} {M0 : mM} (l : Launch) (D : mD) (A : Nat → Prop) {l0 : Nat} {l1 : Int32} {l2 : Int32} {l3 : Int32} {M : mM} (h : P_X13_power G F l0 l1 l2 l3 M = some (r0, M0)) : mMetI l D G A yX13_power cX13_power 6 (some .int) 4 114 0 0 [.ref l0, .int l1, .int l2, .int l3] M sz r0 M0 sz := mMetI_of l D G A (by decide) (Nat.le_of_ble_eq_true rfl) (fun x X hQ => wP_X13_power X hQ h)
/-! SealedTokensModel.setLessTwo([B)V -/
theorem dX13_setLessTwo_0 : decode cX13_setLessTwo 0 = .ok (.aload_n 1, 1) := by decide +kernel
theorem dX13_setLessTwo_1 : decode cX13_setLessTwo 1 = .ok (.iconst 0, 1) := by decide +kernel
theorem dX13_setLessTwo_2 : decode cX13_setLessTwo 2 = .ok (.aload_n 0, 1) := by decide +kernel
theorem dX13_setLessTwo_3 : decode cX13_setLessTwo 3 = .ok (.getfield 153, 3) := by decide +kernel
theorem dX13_setLessTwo_6 : decode cX13_setLessTwo 6 = .ok (.iconst 0, 1) := by decide +kernel
theorem dX13_setLessTwo_7 : decode cX13_setLessTwo 7 = .ok (.bipush 32, 2) := by decide +kernel
theorem dX13_setLessTwo_9 : decode cX13_setLessTwo 9 = .ok (.invokestatic 317, 3) := by decide +kernel
theorem dX13_setLessTwo_12 : decode cX13_setLessTwo 12 = .ok (.aload_n 0, 1) := by decide +kernel
theorem dX13_setLessTwo_13 : decode cX13_setLessTwo 13 = .ok (.getfield 153, 3) := by decide +kernel
theorem dX13_setLessTwo_16 : decode cX13_setLessTwo 16 = .ok (.bipush 31, 2) := by decide +kernel
theorem dX13_setLessTwo_18 : decode cX13_setLessTwo 18 = .ok (.aload_n 0, 1) := by decide +kernel
theorem dX13_setLessTwo_19 : decode cX13_setLessTwo 19 = .ok (.getfield 153, 3) := by decide +kernel
theorem dX13_setLessTwo_22 : decode cX13_setLessTwo 22 = .ok (.bipush 31, 2) := by decide +kernel
theorem dX13_setLessTwo_24 : decode cX13_setLessTwo 24 = .ok (.baload, 1) := by decide +kernel
theorem dX13_setLessTwo_25 : decode cX13_setLessTwo 25 = .ok (.iconst 2, 1) := by decide +kernel
theorem dX13_setLessTwo_26 : decode cX13_setLessTwo 26 = .ok (.isub, 1) := by decide +kernel
theorem dX13_setLessTwo_27 : decode cX13_setLessTwo 27 = .ok (.i2b, 1) := by decide +kernel
theorem dX13_setLessTwo_28 : decode cX13_setLessTwo 28 = .ok (.bastore, 1) := by decide +kernel
theorem dX13_setLessTwo_29 : decode cX13_setLessTwo 29 = .ok (.return_, 1) := by decide +kernel
abbrev rmX13_setLessTwo : Room := { frames := 1, cells := 0, slots := 0, locals := 25 }
set_option maxHeartbeats 4000000 in
set_option maxRecDepth 100000 in
theorem wP_X13_setLessTwo {G : mG} {F : Nat} {x : mXT} {sz : Nat} {M0 : mM} (X : mCX G RX13 cX13_setLessTwo 2 none "setLessTwo" rmX13_setLessTwo x) (hQ : mQV x M0 (sz, 0, 0)) {l0 : Nat} {l1 : Nat} {M : mM} (h : P_X13_setLessTwo G F l0 l1 M = some M0) : WW x (sz, 0, 0) M 0 [(0, .ref l0), (1, .ref l1)] [] := by
  unfold P_X13_setLessTwo at h
  refine ww_aload_n 0 X dX13_setLessTwo_0 1 rfl rfl ?_
  refine ww_iconst 1 X (v := (0 : Int32)) dX13_setLessTwo_1 (by decide) ?_
  refine ww_aload_n 2 X dX13_setLessTwo_2 0 rfl rfl ?_
  obtain ⟨v3, e3, h⟩ := bO_some h
  refine ww_getR 3 X dX13_setLessTwo_3 fG_X13_153 e3 ?_
  refine ww_iconst 6 X (v := (0 : Int32)) dX13_setLessTwo_6 (by decide) ?_
  refine ww_bipush 7 X (v := (32 : Int32)) dX13_setLessTwo_7 (by decide) ?_
  obtain ⟨M9, e9, h⟩ := bO_some h
  refine ww_callSV0 9 X dX13_setLessTwo_9 mY_X13_move mL_X13_317 (As := [.ref l1, .int (0 : Int32), .ref v3, .int (0 : Int32), .int (32 : Int32)]) (rest := []) rfl rfl ⟨Nat.le_of_ble_eq_true rfl, Nat.le_of_ble_eq_true rfl⟩ (Nat.le_of_ble_eq_true rfl) (fun l D A => c_X13_move l D A e9) ?_
  refine ww_aload_n 12 X dX13_setLessTwo_12 0 rfl rfl ?_
  obtain ⟨v13, e13, h⟩ := bO_some h
  refine ww_getR 13 X dX13_setLessTwo_13 fG_X13_153 e13 ?_
  refine ww_bipush 16 X (v := (31 : Int32)) dX13_setLessTwo_16 (by decide) ?_
  refine ww_aload_n 18 X dX13_setLessTwo_18 0 rfl rfl ?_
  obtain ⟨v19, e19, h⟩ := bO_some h
  refine ww_getR 19 X dX13_setLessTwo_19 fG_X13_153 e19 ?_
  refine ww_bipush 22 X (v := (31 : Int32)) dX13_setLessTwo_22 (by decide) ?_
  obtain ⟨v24, e24, h⟩ := bO_some h
  refine ww_bald 24 X dX13_setLessTwo_24 e24 ?_
  refine ww_iconst 25 X (v := (2 : Int32)) dX13_setLessTwo_25 (by decide) ?_
  refine ww_isub 26 X dX13_setLessTwo_26 ?_
  refine ww_i2b 27 X dX13_setLessTwo_27 ?_
  obtain ⟨M28, e28, h⟩ := bO_some h
  refine ww_bast 28 X dX13_setLessTwo_28 e28 ?_
  exact ww_vretE 29 X hQ dX13_setLessTwo_29 h
theorem c_X13_setLessTwo {G : mG} {F sz : Nat} {M0 : mM} (l : Launch) (D : mD) (A : Nat → Prop) {l0 : Nat} {l1 : Nat} {M : mM} (h : P_X13_setLessTwo G F l0 l1 M = some M0) : mMetV l D G A yX13_setLessTwo cX13_setLessTwo 2 none 1 25 0 0 [.ref l0, .ref l1] M sz M0 sz := mMetV_of l D G A (by decide) (Nat.le_of_ble_eq_true rfl) (fun x X hQ => wP_X13_setLessTwo X hQ h)
/-! SealedTokensModel.setPoint([BI)Z -/
theorem dX13_setPoint_0 : decode cX13_setPoint 0 = .ok (.aload_n 0, 1) := by decide +kernel
theorem dX13_setPoint_1 : decode cX13_setPoint 1 = .ok (.getfield 126, 3) := by decide +kernel
theorem dX13_setPoint_4 : decode cX13_setPoint 4 = .ok (.aload_n 1, 1) := by decide +kernel
theorem dX13_setPoint_5 : decode cX13_setPoint 5 = .ok (.iload_n 2, 1) := by decide +kernel
theorem dX13_setPoint_6 : decode cX13_setPoint 6 = .ok (.bipush 32, 2) := by decide +kernel
theorem dX13_setPoint_8 : decode cX13_setPoint 8 = .ok (.aload_n 0, 1) := by decide +kernel
theorem dX13_setPoint_9 : decode cX13_setPoint 9 = .ok (.getfield 156, 3) := by decide +kernel
theorem dX13_setPoint_12 : decode cX13_setPoint 12 = .ok (.invokevirtual 726, 3) := by decide +kernel
theorem dX13_setPoint_15 : decode cX13_setPoint 15 = .ok (.aload_n 0, 1) := by decide +kernel
theorem dX13_setPoint_16 : decode cX13_setPoint 16 = .ok (.getfield 126, 3) := by decide +kernel
theorem dX13_setPoint_19 : decode cX13_setPoint 19 = .ok (.aload_n 1, 1) := by decide +kernel
theorem dX13_setPoint_20 : decode cX13_setPoint 20 = .ok (.iload_n 2, 1) := by decide +kernel
theorem dX13_setPoint_21 : decode cX13_setPoint 21 = .ok (.bipush 32, 2) := by decide +kernel
theorem dX13_setPoint_23 : decode cX13_setPoint 23 = .ok (.iadd, 1) := by decide +kernel
theorem dX13_setPoint_24 : decode cX13_setPoint 24 = .ok (.bipush 32, 2) := by decide +kernel
theorem dX13_setPoint_26 : decode cX13_setPoint 26 = .ok (.aload_n 0, 1) := by decide +kernel
theorem dX13_setPoint_27 : decode cX13_setPoint 27 = .ok (.getfield 159, 3) := by decide +kernel
theorem dX13_setPoint_30 : decode cX13_setPoint 30 = .ok (.invokevirtual 726, 3) := by decide +kernel
theorem dX13_setPoint_33 : decode cX13_setPoint 33 = .ok (.aload_n 0, 1) := by decide +kernel
theorem dX13_setPoint_34 : decode cX13_setPoint 34 = .ok (.getfield 126, 3) := by decide +kernel
theorem dX13_setPoint_37 : decode cX13_setPoint 37 = .ok (.aload_n 0, 1) := by decide +kernel
theorem dX13_setPoint_38 : decode cX13_setPoint 38 = .ok (.getfield 156, 3) := by decide +kernel
theorem dX13_setPoint_41 : decode cX13_setPoint 41 = .ok (.aload_n 0, 1) := by decide +kernel
theorem dX13_setPoint_42 : decode cX13_setPoint 42 = .ok (.getfield 126, 3) := by decide +kernel
theorem dX13_setPoint_45 : decode cX13_setPoint 45 = .ok (.getfield 729, 3) := by decide +kernel
theorem dX13_setPoint_48 : decode cX13_setPoint 48 = .ok (.invokevirtual 732, 3) := by decide +kernel
theorem dX13_setPoint_51 : decode cX13_setPoint 51 = .ok (.ifCond .ge 24, 3) := by decide +kernel
theorem dX13_setPoint_54 : decode cX13_setPoint 54 = .ok (.aload_n 0, 1) := by decide +kernel
theorem dX13_setPoint_55 : decode cX13_setPoint 55 = .ok (.getfield 126, 3) := by decide +kernel
theorem dX13_setPoint_58 : decode cX13_setPoint 58 = .ok (.aload_n 0, 1) := by decide +kernel
theorem dX13_setPoint_59 : decode cX13_setPoint 59 = .ok (.getfield 159, 3) := by decide +kernel
theorem dX13_setPoint_62 : decode cX13_setPoint 62 = .ok (.aload_n 0, 1) := by decide +kernel
theorem dX13_setPoint_63 : decode cX13_setPoint 63 = .ok (.getfield 126, 3) := by decide +kernel
theorem dX13_setPoint_66 : decode cX13_setPoint 66 = .ok (.getfield 729, 3) := by decide +kernel
theorem dX13_setPoint_69 : decode cX13_setPoint 69 = .ok (.invokevirtual 732, 3) := by decide +kernel
theorem dX13_setPoint_72 : decode cX13_setPoint 72 = .ok (.ifCond .lt 5, 3) := by decide +kernel
theorem dX13_setPoint_75 : decode cX13_setPoint 75 = .ok (.iconst 0, 1) := by decide +kernel
theorem dX13_setPoint_76 : decode cX13_setPoint 76 = .ok (.ireturn, 1) := by decide +kernel
theorem dX13_setPoint_77 : decode cX13_setPoint 77 = .ok (.aload_n 0, 1) := by decide +kernel
theorem dX13_setPoint_78 : decode cX13_setPoint 78 = .ok (.getfield 126, 3) := by decide +kernel
theorem dX13_setPoint_81 : decode cX13_setPoint 81 = .ok (.aload_n 0, 1) := by decide +kernel
theorem dX13_setPoint_82 : decode cX13_setPoint 82 = .ok (.getfield 156, 3) := by decide +kernel
theorem dX13_setPoint_85 : decode cX13_setPoint 85 = .ok (.aload_n 0, 1) := by decide +kernel
theorem dX13_setPoint_86 : decode cX13_setPoint 86 = .ok (.getfield 156, 3) := by decide +kernel
theorem dX13_setPoint_89 : decode cX13_setPoint 89 = .ok (.invokevirtual 694, 3) := by decide +kernel
theorem dX13_setPoint_92 : decode cX13_setPoint 92 = .ok (.aload_n 0, 1) := by decide +kernel
theorem dX13_setPoint_93 : decode cX13_setPoint 93 = .ok (.getfield 126, 3) := by decide +kernel
theorem dX13_setPoint_96 : decode cX13_setPoint 96 = .ok (.aload_n 0, 1) := by decide +kernel
theorem dX13_setPoint_97 : decode cX13_setPoint 97 = .ok (.getfield 159, 3) := by decide +kernel
theorem dX13_setPoint_100 : decode cX13_setPoint 100 = .ok (.aload_n 0, 1) := by decide +kernel
theorem dX13_setPoint_101 : decode cX13_setPoint 101 = .ok (.getfield 159, 3) := by decide +kernel
theorem dX13_setPoint_104 : decode cX13_setPoint 104 = .ok (.invokevirtual 694, 3) := by decide +kernel
theorem dX13_setPoint_107 : decode cX13_setPoint 107 = .ok (.aload_n 0, 1) := by decide +kernel
theorem dX13_setPoint_108 : decode cX13_setPoint 108 = .ok (.getfield 126, 3) := by decide +kernel
theorem dX13_setPoint_111 : decode cX13_setPoint 111 = .ok (.aload_n 0, 1) := by decide +kernel
theorem dX13_setPoint_112 : decode cX13_setPoint 112 = .ok (.getfield 156, 3) := by decide +kernel
theorem dX13_setPoint_115 : decode cX13_setPoint 115 = .ok (.aload_n 0, 1) := by decide +kernel
theorem dX13_setPoint_116 : decode cX13_setPoint 116 = .ok (.getfield 156, 3) := by decide +kernel
theorem dX13_setPoint_119 : decode cX13_setPoint 119 = .ok (.aload_n 0, 1) := by decide +kernel
theorem dX13_setPoint_120 : decode cX13_setPoint 120 = .ok (.getfield 171, 3) := by decide +kernel
theorem dX13_setPoint_123 : decode cX13_setPoint 123 = .ok (.invokevirtual 736, 3) := by decide +kernel
theorem dX13_setPoint_126 : decode cX13_setPoint 126 = .ok (.aload_n 0, 1) := by decide +kernel
theorem dX13_setPoint_127 : decode cX13_setPoint 127 = .ok (.getfield 126, 3) := by decide +kernel
theorem dX13_setPoint_130 : decode cX13_setPoint 130 = .ok (.aload_n 0, 1) := by decide +kernel
theorem dX13_setPoint_131 : decode cX13_setPoint 131 = .ok (.getfield 171, 3) := by decide +kernel
theorem dX13_setPoint_134 : decode cX13_setPoint 134 = .ok (.aload_n 0, 1) := by decide +kernel
theorem dX13_setPoint_135 : decode cX13_setPoint 135 = .ok (.getfield 156, 3) := by decide +kernel
theorem dX13_setPoint_138 : decode cX13_setPoint 138 = .ok (.aload_n 0, 1) := by decide +kernel
theorem dX13_setPoint_139 : decode cX13_setPoint 139 = .ok (.getfield 171, 3) := by decide +kernel
theorem dX13_setPoint_142 : decode cX13_setPoint 142 = .ok (.invokevirtual 736, 3) := by decide +kernel
theorem dX13_setPoint_145 : decode cX13_setPoint 145 = .ok (.aload_n 0, 1) := by decide +kernel
theorem dX13_setPoint_146 : decode cX13_setPoint 146 = .ok (.getfield 126, 3) := by decide +kernel
theorem dX13_setPoint_149 : decode cX13_setPoint 149 = .ok (.aload_n 0, 1) := by decide +kernel
theorem dX13_setPoint_150 : decode cX13_setPoint 150 = .ok (.getfield 171, 3) := by decide +kernel
theorem dX13_setPoint_153 : decode cX13_setPoint 153 = .ok (.aload_n 0, 1) := by decide +kernel
theorem dX13_setPoint_154 : decode cX13_setPoint 154 = .ok (.getfield 150, 3) := by decide +kernel
theorem dX13_setPoint_157 : decode cX13_setPoint 157 = .ok (.aload_n 0, 1) := by decide +kernel
theorem dX13_setPoint_158 : decode cX13_setPoint 158 = .ok (.getfield 171, 3) := by decide +kernel
theorem dX13_setPoint_161 : decode cX13_setPoint 161 = .ok (.invokevirtual 740, 3) := by decide +kernel
theorem dX13_setPoint_164 : decode cX13_setPoint 164 = .ok (.iconst 0, 1) := by decide +kernel
theorem dX13_setPoint_165 : decode cX13_setPoint 165 = .ok (.istore_n 3, 1) := by decide +kernel
theorem dX13_setPoint_166 : decode cX13_setPoint 166 = .ok (.iload_n 3, 1) := by decide +kernel
theorem dX13_setPoint_167 : decode cX13_setPoint 167 = .ok (.iconst 3, 1) := by decide +kernel
theorem dX13_setPoint_168 : decode cX13_setPoint 168 = .ok (.if_icmp .ge 28, 3) := by decide +kernel
theorem dX13_setPoint_171 : decode cX13_setPoint 171 = .ok (.aload_n 0, 1) := by decide +kernel
theorem dX13_setPoint_172 : decode cX13_setPoint 172 = .ok (.getfield 126, 3) := by decide +kernel
theorem dX13_setPoint_175 : decode cX13_setPoint 175 = .ok (.aload_n 0, 1) := by decide +kernel
theorem dX13_setPoint_176 : decode cX13_setPoint 176 = .ok (.getfield 171, 3) := by decide +kernel
theorem dX13_setPoint_179 : decode cX13_setPoint 179 = .ok (.aload_n 0, 1) := by decide +kernel
theorem dX13_setPoint_180 : decode cX13_setPoint 180 = .ok (.getfield 156, 3) := by decide +kernel
theorem dX13_setPoint_183 : decode cX13_setPoint 183 = .ok (.aload_n 0, 1) := by decide +kernel
theorem dX13_setPoint_184 : decode cX13_setPoint 184 = .ok (.getfield 171, 3) := by decide +kernel
theorem dX13_setPoint_187 : decode cX13_setPoint 187 = .ok (.invokevirtual 743, 3) := by decide +kernel
theorem dX13_setPoint_190 : decode cX13_setPoint 190 = .ok (.iinc 3 1, 3) := by decide +kernel
theorem dX13_setPoint_193 : decode cX13_setPoint 193 = .ok (.goto (-27), 3) := by decide +kernel
theorem dX13_setPoint_196 : decode cX13_setPoint 196 = .ok (.aload_n 0, 1) := by decide +kernel
theorem dX13_setPoint_197 : decode cX13_setPoint 197 = .ok (.getfield 126, 3) := by decide +kernel
theorem dX13_setPoint_200 : decode cX13_setPoint 200 = .ok (.aload_n 0, 1) := by decide +kernel
theorem dX13_setPoint_201 : decode cX13_setPoint 201 = .ok (.getfield 159, 3) := by decide +kernel
theorem dX13_setPoint_204 : decode cX13_setPoint 204 = .ok (.aload_n 0, 1) := by decide +kernel
theorem dX13_setPoint_205 : decode cX13_setPoint 205 = .ok (.getfield 159, 3) := by decide +kernel
theorem dX13_setPoint_208 : decode cX13_setPoint 208 = .ok (.aload_n 0, 1) := by decide +kernel
theorem dX13_setPoint_209 : decode cX13_setPoint 209 = .ok (.getfield 174, 3) := by decide +kernel
theorem dX13_setPoint_212 : decode cX13_setPoint 212 = .ok (.invokevirtual 736, 3) := by decide +kernel
theorem dX13_setPoint_215 : decode cX13_setPoint 215 = .ok (.aload_n 0, 1) := by decide +kernel
theorem dX13_setPoint_216 : decode cX13_setPoint 216 = .ok (.getfield 126, 3) := by decide +kernel
theorem dX13_setPoint_219 : decode cX13_setPoint 219 = .ok (.aload_n 0, 1) := by decide +kernel
theorem dX13_setPoint_220 : decode cX13_setPoint 220 = .ok (.getfield 171, 3) := by decide +kernel
theorem dX13_setPoint_223 : decode cX13_setPoint 223 = .ok (.aload_n 0, 1) := by decide +kernel
theorem dX13_setPoint_224 : decode cX13_setPoint 224 = .ok (.getfield 174, 3) := by decide +kernel
theorem dX13_setPoint_227 : decode cX13_setPoint 227 = .ok (.invokevirtual 732, 3) := by decide +kernel
theorem dX13_setPoint_230 : decode cX13_setPoint 230 = .ok (.ifCond .ne 7, 3) := by decide +kernel
theorem dX13_setPoint_233 : decode cX13_setPoint 233 = .ok (.iconst 1, 1) := by decide +kernel
theorem dX13_setPoint_234 : decode cX13_setPoint 234 = .ok (.goto 4, 3) := by decide +kernel
theorem dX13_setPoint_237 : decode cX13_setPoint 237 = .ok (.iconst 0, 1) := by decide +kernel
theorem dX13_setPoint_238 : decode cX13_setPoint 238 = .ok (.ireturn, 1) := by decide +kernel
abbrev rmX13_setPoint : Room := { frames := 3, cells := 0, slots := 0, locals := 81 }
set_option maxHeartbeats 4000000 in
set_option maxRecDepth 100000 in
theorem wB_X13_setPoint_166 {G : mG} {F : Nat} {x : mXT} {sz : Nat} {r0 : Int32} {M0 : mM} (X : mCX G RX13 cX13_setPoint 4 (some .boolean) "setPoint" rmX13_setPoint x) (hQ : mQI x r0 M0 (sz, 0, 0)) : ∀ (n : Nat) (l0 : Nat) (l3 : Int32) (M : mM), B_X13_setPoint_166 G F n l0 l3 M = some (r0, M0) → WW x (sz, 0, 0) M 166 [(0, .ref l0), (3, .int l3)] [] := by
  intro n
  induction n with
  | zero =>
    intro l0 l3 M h
    exact nomatch (show (none : Option (Int32 × mM)) = some (r0, M0) from h)
  | succ n ih =>
    intro l0 l3 M h
    rw [B_X13_setPoint_166] at h
    refine ww_iload_n 166 X dX13_setPoint_166 1 rfl rfl ?_
    refine ww_iconst 167 X (v := (3 : Int32)) dX13_setPoint_167 (by decide) ?_
    refine ww_icmp_ge 168 196 X dX13_setPoint_168 (by decide) (fun q => ?_) (fun q => ?_)
    · replace h := (if_pos q).symm.trans h
      refine ww_aload_n 196 X dX13_setPoint_196 0 rfl rfl ?_
      obtain ⟨v197, e197, h⟩ := bO_some h
      refine ww_getR 197 X dX13_setPoint_197 fG_X13_126 e197 ?_
      refine ww_aload_n 200 X dX13_setPoint_200 0 rfl rfl ?_
      obtain ⟨v201, e201, h⟩ := bO_some h
      refine ww_getR 201 X dX13_setPoint_201 fG_X13_159 e201 ?_
      refine ww_aload_n 204 X dX13_setPoint_204 0 rfl rfl ?_
      obtain ⟨v205, e205, h⟩ := bO_some h
      refine ww_getR 205 X dX13_setPoint_205 fG_X13_159 e205 ?_
      refine ww_aload_n 208 X dX13_setPoint_208 0 rfl rfl ?_
      obtain ⟨v209, e209, h⟩ := bO_some h
      refine ww_getR 209 X dX13_setPoint_209 fG_X13_174 e209 ?_
      obtain ⟨_, f212, h⟩ := bO_some h
      obtain ⟨M212, e212, h⟩ := bO_some h
      refine ww_callVV0 212 X dX13_setPoint_212 mY_X12_product mL_X13_736 (rcv_spec f212) ⟨_, _, rfl⟩ (by decide) (As := [.ref v201, .ref v205, .ref v209]) (rest := []) rfl rfl ⟨Nat.le_of_ble_eq_true rfl, Nat.le_of_ble_eq_true rfl⟩ (Nat.le_of_ble_eq_true rfl) (fun l D A => c_X12_product l D A e212) ?_
      refine ww_aload_n 215 X dX13_setPoint_215 0 rfl rfl ?_
      obtain ⟨v216, e216, h⟩ := bO_some h
      refine ww_getR 216 X dX13_setPoint_216 fG_X13_126 e216 ?_
      refine ww_aload_n 219 X dX13_setPoint_219 0 rfl rfl ?_
      obtain ⟨v220, e220, h⟩ := bO_some h
      refine ww_getR 220 X dX13_setPoint_220 fG_X13_171 e220 ?_
      refine ww_aload_n 223 X dX13_setPoint_223 0 rfl rfl ?_
      obtain ⟨v224, e224, h⟩ := bO_some h
      refine ww_getR 224 X dX13_setPoint_224 fG_X13_174 e224 ?_
      obtain ⟨_, f227, h⟩ := bO_some h
      obtain ⟨v227, M227, e227, h⟩ := bP_some h
      refine ww_callVI0 227 X dX13_setPoint_227 mY_X12_order mL_X13_732 (rcv_spec f227) ⟨_, _, rfl⟩ (by decide) (As := [.ref v220, .ref v224]) (rest := []) rfl rfl ⟨Nat.le_of_ble_eq_true rfl, Nat.le_of_ble_eq_true rfl⟩ (Nat.le_of_ble_eq_true rfl) (fun l D A => c_X12_order l D A e227) ?_
      refine ww_if_ne 230 237 X dX13_setPoint_230 (by decide) (fun q => ?_) (fun q => ?_)
      · replace h := (if_neg q).symm.trans h
        refine ww_iconst 237 X (v := (0 : Int32)) dX13_setPoint_237 (by decide) ?_
        exact ww_zretE 238 X hQ dX13_setPoint_238 h
      · replace h := (if_pos q).symm.trans h
        refine ww_iconst 233 X (v := (1 : Int32)) dX13_setPoint_233 (by decide) ?_
        refine ww_goto 234 238 X dX13_setPoint_234 (by decide) ?_
        exact ww_zretE 238 X hQ dX13_setPoint_238 h
    · replace h := (if_neg q).symm.trans h
      refine ww_aload_n 171 X dX13_setPoint_171 0 rfl rfl ?_
      obtain ⟨v172, e172, h⟩ := bO_some h
      refine ww_getR 172 X dX13_setPoint_172 fG_X13_126 e172 ?_
      refine ww_aload_n 175 X dX13_setPoint_175 0 rfl rfl ?_
      obtain ⟨v176, e176, h⟩ := bO_some h
      refine ww_getR 176 X dX13_setPoint_176 fG_X13_171 e176 ?_
      refine ww_aload_n 179 X dX13_setPoint_179 0 rfl rfl ?_
      obtain ⟨v180, e180, h⟩ := bO_some h
      refine ww_getR 180 X dX13_setPoint_180 fG_X13_156 e180 ?_
      refine ww_aload_n 183 X dX13_setPoint_183 0 rfl rfl ?_
      obtain ⟨v184, e184, h⟩ := bO_some h
      refine ww_getR 184 X dX13_setPoint_184 fG_X13_171 e184 ?_
      obtain ⟨_, f187, h⟩ := bO_some h
      obtain ⟨M187, e187, h⟩ := bO_some h
      refine ww_callVV0 187 X dX13_setPoint_187 mY_X12_subtract mL_X13_743 (rcv_spec f187) ⟨_, _, rfl⟩ (by decide) (As := [.ref v176, .ref v180, .ref v184]) (rest := []) rfl rfl ⟨Nat.le_of_ble_eq_true rfl, Nat.le_of_ble_eq_true rfl⟩ (Nat.le_of_ble_eq_true rfl) (fun l D A => c_X12_subtract l D A e187) ?_
      refine ww_iinc 190 X dX13_setPoint_190 (lv' := [(0, .ref l0), (3, .int (l3 + 1))]) 1 rfl rfl (by decide) [1, 0] rfl ?_
      refine ww_goto 193 166 X dX13_setPoint_193 (by decide) ?_
      exact (ih _ _ _ h)
set_option maxHeartbeats 4000000 in
set_option maxRecDepth 100000 in
theorem wP_X13_setPoint {G : mG} {F : Nat} {x : mXT} {sz : Nat} {r0 : Int32} {M0 : mM} (X : mCX G RX13 cX13_setPoint 4 (some .boolean) "setPoint" rmX13_setPoint x) (hQ : mQI x r0 M0 (sz, 0, 0)) {l0 : Nat} {l1 : Nat} {l2 : Int32} {M : mM} (h : P_X13_setPoint G F l0 l1 l2 M = some (r0, M0)) : WW x (sz, 0, 0) M 0 [(0, .ref l0), (1, .ref l1), (2, .int l2)] [] := by
  unfold P_X13_setPoint at h
  refine ww_aload_n 0 X dX13_setPoint_0 0 rfl rfl ?_
  obtain ⟨v1, e1, h⟩ := bO_some h
  refine ww_getR 1 X dX13_setPoint_1 fG_X13_126 e1 ?_
  refine ww_aload_n 4 X dX13_setPoint_4 1 rfl rfl ?_
  refine ww_iload_n 5 X dX13_setPoint_5 2 rfl rfl ?_
  refine ww_bipush 6 X (v := (32 : Int32)) dX13_setPoint_6 (by decide) ?_
  refine ww_aload_n 8 X dX13_setPoint_8 0 rfl rfl ?_
  obtain ⟨v9, e9, h⟩ := bO_some h
  refine ww_getR 9 X dX13_setPoint_9 fG_X13_156 e9 ?_
  obtain ⟨_, f12, h⟩ := bO_some h
  obtain ⟨M12, e12, h⟩ := bO_some h
  refine ww_callVV0 12 X dX13_setPoint_12 mY_X12_load mL_X13_726 (rcv_spec f12) ⟨_, _, rfl⟩ (by decide) (As := [.ref l1, .int l2, .int (32 : Int32), .ref v9]) (rest := []) rfl rfl ⟨Nat.le_of_ble_eq_true rfl, Nat.le_of_ble_eq_true rfl⟩ (Nat.le_of_ble_eq_true rfl) (fun l D A => c_X12_load l D A e12) ?_
  refine ww_aload_n 15 X dX13_setPoint_15 0 rfl rfl ?_
  obtain ⟨v16, e16, h⟩ := bO_some h
  refine ww_getR 16 X dX13_setPoint_16 fG_X13_126 e16 ?_
  refine ww_aload_n 19 X dX13_setPoint_19 1 rfl rfl ?_
  refine ww_iload_n 20 X dX13_setPoint_20 2 rfl rfl ?_
  refine ww_bipush 21 X (v := (32 : Int32)) dX13_setPoint_21 (by decide) ?_
  refine ww_iadd 23 X dX13_setPoint_23 ?_
  refine ww_bipush 24 X (v := (32 : Int32)) dX13_setPoint_24 (by decide) ?_
  refine ww_aload_n 26 X dX13_setPoint_26 0 rfl rfl ?_
  obtain ⟨v27, e27, h⟩ := bO_some h
  refine ww_getR 27 X dX13_setPoint_27 fG_X13_159 e27 ?_
  obtain ⟨_, f30, h⟩ := bO_some h
  obtain ⟨M30, e30, h⟩ := bO_some h
  refine ww_callVV0 30 X dX13_setPoint_30 mY_X12_load mL_X13_726 (rcv_spec f30) ⟨_, _, rfl⟩ (by decide) (As := [.ref l1, .int (l2 + (32 : Int32)), .int (32 : Int32), .ref v27]) (rest := []) rfl rfl ⟨Nat.le_of_ble_eq_true rfl, Nat.le_of_ble_eq_true rfl⟩ (Nat.le_of_ble_eq_true rfl) (fun l D A => c_X12_load l D A e30) ?_
  refine ww_aload_n 33 X dX13_setPoint_33 0 rfl rfl ?_
  obtain ⟨v34, e34, h⟩ := bO_some h
  refine ww_getR 34 X dX13_setPoint_34 fG_X13_126 e34 ?_
  refine ww_aload_n 37 X dX13_setPoint_37 0 rfl rfl ?_
  obtain ⟨v38, e38, h⟩ := bO_some h
  refine ww_getR 38 X dX13_setPoint_38 fG_X13_156 e38 ?_
  refine ww_aload_n 41 X dX13_setPoint_41 0 rfl rfl ?_
  obtain ⟨v42, e42, h⟩ := bO_some h
  refine ww_getR 42 X dX13_setPoint_42 fG_X13_126 e42 ?_
  obtain ⟨v45, e45, h⟩ := bO_some h
  refine ww_getR 45 X dX13_setPoint_45 fG_X13_729 e45 ?_
  obtain ⟨_, f48, h⟩ := bO_some h
  obtain ⟨v48, M48, e48, h⟩ := bP_some h
  refine ww_callVI0 48 X dX13_setPoint_48 mY_X12_order mL_X13_732 (rcv_spec f48) ⟨_, _, rfl⟩ (by decide) (As := [.ref v38, .ref v45]) (rest := []) rfl rfl ⟨Nat.le_of_ble_eq_true rfl, Nat.le_of_ble_eq_true rfl⟩ (Nat.le_of_ble_eq_true rfl) (fun l D A => c_X12_order l D A e48) ?_
  refine ww_if_ge 51 75 X dX13_setPoint_51 (by decide) (fun q => ?_) (fun q => ?_)
  · replace h := (if_pos q).symm.trans h
    refine ww_iconst 75 X (v := (0 : Int32)) dX13_setPoint_75 (by decide) ?_
    exact ww_zretE 76 X hQ dX13_setPoint_76 h
  · replace h := (if_neg q).symm.trans h
    refine ww_aload_n 54 X dX13_setPoint_54 0 rfl rfl ?_
    obtain ⟨v55, e55, h⟩ := bO_some h
    refine ww_getR 55 X dX13_setPoint_55 fG_X13_126 e55 ?_
    refine ww_aload_n 58 X dX13_setPoint_58 0 rfl rfl ?_
    obtain ⟨v59, e59, h⟩ := bO_some h
    refine ww_getR 59 X dX13_setPoint_59 fG_X13_159 e59 ?_
    refine ww_aload_n 62 X dX13_setPoint_62 0 rfl rfl ?_
    obtain ⟨v63, e63, h⟩ := bO_some h
    refine ww_getR 63 X dX13_setPoint_63 fG_X13_126 e63 ?_
    obtain ⟨v66, e66, h⟩ := bO_some h
    refine ww_getR 66 X dX13_setPoint_66 fG_X13_729 e66 ?_
    obtain ⟨_, f69, h⟩ := bO_some h
    obtain ⟨v69, M69, e69, h⟩ := bP_some h
    refine ww_callVI0 69 X dX13_setPoint_69 mY_X12_order mL_X13_732 (rcv_spec f69) ⟨_, _, rfl⟩ (by decide) (As := [.ref v59, .ref v66]) (rest := []) rfl rfl ⟨Nat.le_of_ble_eq_true rfl, Nat.le_of_ble_eq_true rfl⟩ (Nat.le_of_ble_eq_true rfl) (fun l D A => c_X12_order l D A e69) ?_
    refine ww_if_lt 72 77 X dX13_setPoint_72 (by decide) (fun q => ?_) (fun q => ?_)
    · replace h := (if_pos q).symm.trans h
      refine ww_aload_n 77 X dX13_setPoint_77 0 rfl rfl ?_
      obtain ⟨v78, e78, h⟩ := bO_some h
      refine ww_getR 78 X dX13_setPoint_78 fG_X13_126 e78 ?_
      refine ww_aload_n 81 X dX13_setPoint_81 0 rfl rfl ?_
      obtain ⟨v82, e82, h⟩ := bO_some h
      refine ww_getR 82 X dX13_setPoint_82 fG_X13_156 e82 ?_
      refine ww_aload_n 85 X dX13_setPoint_85 0 rfl rfl ?_
      obtain ⟨v86, e86, h⟩ := bO_some h
      refine ww_getR 86 X dX13_setPoint_86 fG_X13_156 e86 ?_
      obtain ⟨_, f89, h⟩ := bO_some h
      obtain ⟨M89, e89, h⟩ := bO_some h
      refine ww_callVV0 89 X dX13_setPoint_89 mY_X12_into mL_X13_694 (rcv_spec f89) ⟨_, _, rfl⟩ (by decide) (As := [.ref v82, .ref v86]) (rest := []) rfl rfl ⟨Nat.le_of_ble_eq_true rfl, Nat.le_of_ble_eq_true rfl⟩ (Nat.le_of_ble_eq_true rfl) (fun l D A => c_X12_into l D A e89) ?_
      refine ww_aload_n 92 X dX13_setPoint_92 0 rfl rfl ?_
      obtain ⟨v93, e93, h⟩ := bO_some h
      refine ww_getR 93 X dX13_setPoint_93 fG_X13_126 e93 ?_
      refine ww_aload_n 96 X dX13_setPoint_96 0 rfl rfl ?_
      obtain ⟨v97, e97, h⟩ := bO_some h
      refine ww_getR 97 X dX13_setPoint_97 fG_X13_159 e97 ?_
      refine ww_aload_n 100 X dX13_setPoint_100 0 rfl rfl ?_
      obtain ⟨v101, e101, h⟩ := bO_some h
      refine ww_getR 101 X dX13_setPoint_101 fG_X13_159 e101 ?_
      obtain ⟨_, f104, h⟩ := bO_some h
      obtain ⟨M104, e104, h⟩ := bO_some h
      refine ww_callVV0 104 X dX13_setPoint_104 mY_X12_into mL_X13_694 (rcv_spec f104) ⟨_, _, rfl⟩ (by decide) (As := [.ref v97, .ref v101]) (rest := []) rfl rfl ⟨Nat.le_of_ble_eq_true rfl, Nat.le_of_ble_eq_true rfl⟩ (Nat.le_of_ble_eq_true rfl) (fun l D A => c_X12_into l D A e104) ?_
      refine ww_aload_n 107 X dX13_setPoint_107 0 rfl rfl ?_
      obtain ⟨v108, e108, h⟩ := bO_some h
      refine ww_getR 108 X dX13_setPoint_108 fG_X13_126 e108 ?_
      refine ww_aload_n 111 X dX13_setPoint_111 0 rfl rfl ?_
      obtain ⟨v112, e112, h⟩ := bO_some h
      refine ww_getR 112 X dX13_setPoint_112 fG_X13_156 e112 ?_
      refine ww_aload_n 115 X dX13_setPoint_115 0 rfl rfl ?_
      obtain ⟨v116, e116, h⟩ := bO_some h
      refine ww_getR 116 X dX13_setPoint_116 fG_X13_156 e116 ?_
      refine ww_aload_n 119 X dX13_setPoint_119 0 rfl rfl ?_
      obtain ⟨v120, e120, h⟩ := bO_some h
      refine ww_getR 120 X dX13_setPoint_120 fG_X13_171 e120 ?_
      obtain ⟨_, f123, h⟩ := bO_some h
      obtain ⟨M123, e123, h⟩ := bO_some h
      refine ww_callVV0 123 X dX13_setPoint_123 mY_X12_product mL_X13_736 (rcv_spec f123) ⟨_, _, rfl⟩ (by decide) (As := [.ref v112, .ref v116, .ref v120]) (rest := []) rfl rfl ⟨Nat.le_of_ble_eq_true rfl, Nat.le_of_ble_eq_true rfl⟩ (Nat.le_of_ble_eq_true rfl) (fun l D A => c_X12_product l D A e123) ?_
      refine ww_aload_n 126 X dX13_setPoint_126 0 rfl rfl ?_
      obtain ⟨v127, e127, h⟩ := bO_some h
      refine ww_getR 127 X dX13_setPoint_127 fG_X13_126 e127 ?_
      refine ww_aload_n 130 X dX13_setPoint_130 0 rfl rfl ?_
      obtain ⟨v131, e131, h⟩ := bO_some h
      refine ww_getR 131 X dX13_setPoint_131 fG_X13_171 e131 ?_
      refine ww_aload_n 134 X dX13_setPoint_134 0 rfl rfl ?_
      obtain ⟨v135, e135, h⟩ := bO_some h
      refine ww_getR 135 X dX13_setPoint_135 fG_X13_156 e135 ?_
      refine ww_aload_n 138 X dX13_setPoint_138 0 rfl rfl ?_
      obtain ⟨v139, e139, h⟩ := bO_some h
      refine ww_getR 139 X dX13_setPoint_139 fG_X13_171 e139 ?_
      obtain ⟨_, f142, h⟩ := bO_some h
      obtain ⟨M142, e142, h⟩ := bO_some h
      refine ww_callVV0 142 X dX13_setPoint_142 mY_X12_product mL_X13_736 (rcv_spec f142) ⟨_, _, rfl⟩ (by decide) (As := [.ref v131, .ref v135, .ref v139]) (rest := []) rfl rfl ⟨Nat.le_of_ble_eq_true rfl, Nat.le_of_ble_eq_true rfl⟩ (Nat.le_of_ble_eq_true rfl) (fun l D A => c_X12_product l D A e142) ?_
      refine ww_aload_n 145 X dX13_setPoint_145 0 rfl rfl ?_
      obtain ⟨v146, e146, h⟩ := bO_some h
      refine ww_getR 146 X dX13_setPoint_146 fG_X13_126 e146 ?_
      refine ww_aload_n 149 X dX13_setPoint_149 0 rfl rfl ?_
      obtain ⟨v150, e150, h⟩ := bO_some h
      refine ww_getR 150 X dX13_setPoint_150 fG_X13_171 e150 ?_
      refine ww_aload_n 153 X dX13_setPoint_153 0 rfl rfl ?_
      obtain ⟨v154, e154, h⟩ := bO_some h
      refine ww_getR 154 X dX13_setPoint_154 fG_X13_150 e154 ?_
      refine ww_aload_n 157 X dX13_setPoint_157 0 rfl rfl ?_
      obtain ⟨v158, e158, h⟩ := bO_some h
      refine ww_getR 158 X dX13_setPoint_158 fG_X13_171 e158 ?_
      obtain ⟨_, f161, h⟩ := bO_some h
      obtain ⟨M161, e161, h⟩ := bO_some h
      refine ww_callVV0 161 X dX13_setPoint_161 mY_X12_add mL_X13_740 (rcv_spec f161) ⟨_, _, rfl⟩ (by decide) (As := [.ref v150, .ref v154, .ref v158]) (rest := []) rfl rfl ⟨Nat.le_of_ble_eq_true rfl, Nat.le_of_ble_eq_true rfl⟩ (Nat.le_of_ble_eq_true rfl) (fun l D A => c_X12_add l D A e161) ?_
      refine ww_iconst 164 X (v := (0 : Int32)) dX13_setPoint_164 (by decide) ?_
      refine ww_istore_n 165 X dX13_setPoint_165 (lv' := [(0, .ref l0), (1, .ref l1), (2, .int l2), (3, .int (0 : Int32))]) rfl (by decide) [1, 2, 3, 0] rfl ?_
      exact ww_sub [0, 3] rfl (wB_X13_setPoint_166 X hQ F _ _ _ h)
    · replace h := (if_neg q).symm.trans h
      refine ww_iconst 75 X (v := (0 : Int32)) dX13_setPoint_75 (by decide) ?_
      exact ww_zretE 76 X hQ dX13_setPoint_76 h
theorem c_X13_setPoint {G : mG} {F sz : Nat} {r0 : Int32} {M0 : mM} (l : Launch) (D : mD) (A : Nat → Prop) {l0 : Nat} {l1 : Nat} {l2 : Int32} {M : mM} (h : P_X13_setPoint G F l0 l1 l2 M = some (r0, M0)) : mMetI l D G A yX13_setPoint cX13_setPoint 4 (some .boolean) 3 81 0 0 [.ref l0, .ref l1, .int l2] M sz r0 M0 sz := mMetI_of l D G A (by decide) (Nat.le_of_ble_eq_true rfl) (fun x X hQ => wP_X13_setPoint X hQ h)
/-! SealedTokensModel.twicePoint()V -/
theorem dX13_twicePoint_0 : decode cX13_twicePoint 0 = .ok (.aload_n 0, 1) := by decide +kernel
theorem dX13_twicePoint_1 : decode cX13_twicePoint 1 = .ok (.getfield 746, 3) := by decide +kernel
theorem dX13_twicePoint_4 : decode cX13_twicePoint 4 = .ok (.ifCond .eq 4, 3) := by decide +kernel
theorem dX13_twicePoint_7 : decode cX13_twicePoint 7 = .ok (.return_, 1) := by decide +kernel
theorem dX13_twicePoint_8 : decode cX13_twicePoint 8 = .ok (.aload_n 0, 1) := by decide +kernel
theorem dX13_twicePoint_9 : decode cX13_twicePoint 9 = .ok (.getfield 126, 3) := by decide +kernel
theorem dX13_twicePoint_12 : decode cX13_twicePoint 12 = .ok (.aload_n 0, 1) := by decide +kernel
theorem dX13_twicePoint_13 : decode cX13_twicePoint 13 = .ok (.getfield 168, 3) := by decide +kernel
theorem dX13_twicePoint_16 : decode cX13_twicePoint 16 = .ok (.aload_n 0, 1) := by decide +kernel
theorem dX13_twicePoint_17 : decode cX13_twicePoint 17 = .ok (.getfield 168, 3) := by decide +kernel
theorem dX13_twicePoint_20 : decode cX13_twicePoint 20 = .ok (.aload_n 0, 1) := by decide +kernel
theorem dX13_twicePoint_21 : decode cX13_twicePoint 21 = .ok (.getfield 180, 3) := by decide +kernel
theorem dX13_twicePoint_24 : decode cX13_twicePoint 24 = .ok (.invokevirtual 736, 3) := by decide +kernel
theorem dX13_twicePoint_27 : decode cX13_twicePoint 27 = .ok (.aload_n 0, 1) := by decide +kernel
theorem dX13_twicePoint_28 : decode cX13_twicePoint 28 = .ok (.getfield 126, 3) := by decide +kernel
theorem dX13_twicePoint_31 : decode cX13_twicePoint 31 = .ok (.aload_n 0, 1) := by decide +kernel
theorem dX13_twicePoint_32 : decode cX13_twicePoint 32 = .ok (.getfield 162, 3) := by decide +kernel
theorem dX13_twicePoint_35 : decode cX13_twicePoint 35 = .ok (.aload_n 0, 1) := by decide +kernel
theorem dX13_twicePoint_36 : decode cX13_twicePoint 36 = .ok (.getfield 180, 3) := by decide +kernel
theorem dX13_twicePoint_39 : decode cX13_twicePoint 39 = .ok (.aload_n 0, 1) := by decide +kernel
theorem dX13_twicePoint_40 : decode cX13_twicePoint 40 = .ok (.getfield 183, 3) := by decide +kernel
theorem dX13_twicePoint_43 : decode cX13_twicePoint 43 = .ok (.invokevirtual 743, 3) := by decide +kernel
theorem dX13_twicePoint_46 : decode cX13_twicePoint 46 = .ok (.aload_n 0, 1) := by decide +kernel
theorem dX13_twicePoint_47 : decode cX13_twicePoint 47 = .ok (.getfield 126, 3) := by decide +kernel
theorem dX13_twicePoint_50 : decode cX13_twicePoint 50 = .ok (.aload_n 0, 1) := by decide +kernel
theorem dX13_twicePoint_51 : decode cX13_twicePoint 51 = .ok (.getfield 162, 3) := by decide +kernel
theorem dX13_twicePoint_54 : decode cX13_twicePoint 54 = .ok (.aload_n 0, 1) := by decide +kernel
theorem dX13_twicePoint_55 : decode cX13_twicePoint 55 = .ok (.getfield 180, 3) := by decide +kernel
theorem dX13_twicePoint_58 : decode cX13_twicePoint 58 = .ok (.aload_n 0, 1) := by decide +kernel
theorem dX13_twicePoint_59 : decode cX13_twicePoint 59 = .ok (.getfield 180, 3) := by decide +kernel
theorem dX13_twicePoint_62 : decode cX13_twicePoint 62 = .ok (.invokevirtual 740, 3) := by decide +kernel
theorem dX13_twicePoint_65 : decode cX13_twicePoint 65 = .ok (.aload_n 0, 1) := by decide +kernel
theorem dX13_twicePoint_66 : decode cX13_twicePoint 66 = .ok (.getfield 126, 3) := by decide +kernel
theorem dX13_twicePoint_69 : decode cX13_twicePoint 69 = .ok (.aload_n 0, 1) := by decide +kernel
theorem dX13_twicePoint_70 : decode cX13_twicePoint 70 = .ok (.getfield 180, 3) := by decide +kernel
theorem dX13_twicePoint_73 : decode cX13_twicePoint 73 = .ok (.aload_n 0, 1) := by decide +kernel
theorem dX13_twicePoint_74 : decode cX13_twicePoint 74 = .ok (.getfield 183, 3) := by decide +kernel
theorem dX13_twicePoint_77 : decode cX13_twicePoint 77 = .ok (.aload_n 0, 1) := by decide +kernel
theorem dX13_twicePoint_78 : decode cX13_twicePoint 78 = .ok (.getfield 180, 3) := by decide +kernel
theorem dX13_twicePoint_81 : decode cX13_twicePoint 81 = .ok (.invokevirtual 736, 3) := by decide +kernel
theorem dX13_twicePoint_84 : decode cX13_twicePoint 84 = .ok (.aload_n 0, 1) := by decide +kernel
theorem dX13_twicePoint_85 : decode cX13_twicePoint 85 = .ok (.getfield 126, 3) := by decide +kernel
theorem dX13_twicePoint_88 : decode cX13_twicePoint 88 = .ok (.aload_n 0, 1) := by decide +kernel
theorem dX13_twicePoint_89 : decode cX13_twicePoint 89 = .ok (.getfield 180, 3) := by decide +kernel
theorem dX13_twicePoint_92 : decode cX13_twicePoint 92 = .ok (.aload_n 0, 1) := by decide +kernel
theorem dX13_twicePoint_93 : decode cX13_twicePoint 93 = .ok (.getfield 180, 3) := by decide +kernel
theorem dX13_twicePoint_96 : decode cX13_twicePoint 96 = .ok (.aload_n 0, 1) := by decide +kernel
theorem dX13_twicePoint_97 : decode cX13_twicePoint 97 = .ok (.getfield 177, 3) := by decide +kernel
theorem dX13_twicePoint_100 : decode cX13_twicePoint 100 = .ok (.invokevirtual 740, 3) := by decide +kernel
theorem dX13_twicePoint_103 : decode cX13_twicePoint 103 = .ok (.aload_n 0, 1) := by decide +kernel
theorem dX13_twicePoint_104 : decode cX13_twicePoint 104 = .ok (.getfield 126, 3) := by decide +kernel
theorem dX13_twicePoint_107 : decode cX13_twicePoint 107 = .ok (.aload_n 0, 1) := by decide +kernel
theorem dX13_twicePoint_108 : decode cX13_twicePoint 108 = .ok (.getfield 177, 3) := by decide +kernel
theorem dX13_twicePoint_111 : decode cX13_twicePoint 111 = .ok (.aload_n 0, 1) := by decide +kernel
theorem dX13_twicePoint_112 : decode cX13_twicePoint 112 = .ok (.getfield 180, 3) := by decide +kernel
theorem dX13_twicePoint_115 : decode cX13_twicePoint 115 = .ok (.aload_n 0, 1) := by decide +kernel
theorem dX13_twicePoint_116 : decode cX13_twicePoint 116 = .ok (.getfield 177, 3) := by decide +kernel
theorem dX13_twicePoint_119 : decode cX13_twicePoint 119 = .ok (.invokevirtual 740, 3) := by decide +kernel
theorem dX13_twicePoint_122 : decode cX13_twicePoint 122 = .ok (.aload_n 0, 1) := by decide +kernel
theorem dX13_twicePoint_123 : decode cX13_twicePoint 123 = .ok (.getfield 126, 3) := by decide +kernel
theorem dX13_twicePoint_126 : decode cX13_twicePoint 126 = .ok (.aload_n 0, 1) := by decide +kernel
theorem dX13_twicePoint_127 : decode cX13_twicePoint 127 = .ok (.getfield 165, 3) := by decide +kernel
theorem dX13_twicePoint_130 : decode cX13_twicePoint 130 = .ok (.aload_n 0, 1) := by decide +kernel
theorem dX13_twicePoint_131 : decode cX13_twicePoint 131 = .ok (.getfield 168, 3) := by decide +kernel
theorem dX13_twicePoint_134 : decode cX13_twicePoint 134 = .ok (.aload_n 0, 1) := by decide +kernel
theorem dX13_twicePoint_135 : decode cX13_twicePoint 135 = .ok (.getfield 168, 3) := by decide +kernel
theorem dX13_twicePoint_138 : decode cX13_twicePoint 138 = .ok (.invokevirtual 736, 3) := by decide +kernel
theorem dX13_twicePoint_141 : decode cX13_twicePoint 141 = .ok (.aload_n 0, 1) := by decide +kernel
theorem dX13_twicePoint_142 : decode cX13_twicePoint 142 = .ok (.getfield 126, 3) := by decide +kernel
theorem dX13_twicePoint_145 : decode cX13_twicePoint 145 = .ok (.aload_n 0, 1) := by decide +kernel
theorem dX13_twicePoint_146 : decode cX13_twicePoint 146 = .ok (.getfield 168, 3) := by decide +kernel
theorem dX13_twicePoint_149 : decode cX13_twicePoint 149 = .ok (.aload_n 0, 1) := by decide +kernel
theorem dX13_twicePoint_150 : decode cX13_twicePoint 150 = .ok (.getfield 168, 3) := by decide +kernel
theorem dX13_twicePoint_153 : decode cX13_twicePoint 153 = .ok (.aload_n 0, 1) := by decide +kernel
theorem dX13_twicePoint_154 : decode cX13_twicePoint 154 = .ok (.getfield 168, 3) := by decide +kernel
theorem dX13_twicePoint_157 : decode cX13_twicePoint 157 = .ok (.invokevirtual 740, 3) := by decide +kernel
theorem dX13_twicePoint_160 : decode cX13_twicePoint 160 = .ok (.aload_n 0, 1) := by decide +kernel
theorem dX13_twicePoint_161 : decode cX13_twicePoint 161 = .ok (.getfield 126, 3) := by decide +kernel
theorem dX13_twicePoint_164 : decode cX13_twicePoint 164 = .ok (.aload_n 0, 1) := by decide +kernel
theorem dX13_twicePoint_165 : decode cX13_twicePoint 165 = .ok (.getfield 165, 3) := by decide +kernel
theorem dX13_twicePoint_168 : decode cX13_twicePoint 168 = .ok (.aload_n 0, 1) := by decide +kernel
theorem dX13_twicePoint_169 : decode cX13_twicePoint 169 = .ok (.getfield 165, 3) := by decide +kernel
theorem dX13_twicePoint_172 : decode cX13_twicePoint 172 = .ok (.aload_n 0, 1) := by decide +kernel
theorem dX13_twicePoint_173 : decode cX13_twicePoint 173 = .ok (.getfield 171, 3) := by decide +kernel
theorem dX13_twicePoint_176 : decode cX13_twicePoint 176 = .ok (.invokevirtual 736, 3) := by decide +kernel
theorem dX13_twicePoint_179 : decode cX13_twicePoint 179 = .ok (.aload_n 0, 1) := by decide +kernel
theorem dX13_twicePoint_180 : decode cX13_twicePoint 180 = .ok (.getfield 126, 3) := by decide +kernel
theorem dX13_twicePoint_183 : decode cX13_twicePoint 183 = .ok (.aload_n 0, 1) := by decide +kernel
theorem dX13_twicePoint_184 : decode cX13_twicePoint 184 = .ok (.getfield 162, 3) := by decide +kernel
theorem dX13_twicePoint_187 : decode cX13_twicePoint 187 = .ok (.aload_n 0, 1) := by decide +kernel
theorem dX13_twicePoint_188 : decode cX13_twicePoint 188 = .ok (.getfield 171, 3) := by decide +kernel
theorem dX13_twicePoint_191 : decode cX13_twicePoint 191 = .ok (.aload_n 0, 1) := by decide +kernel
theorem dX13_twicePoint_192 : decode cX13_twicePoint 192 = .ok (.getfield 174, 3) := by decide +kernel
theorem dX13_twicePoint_195 : decode cX13_twicePoint 195 = .ok (.invokevirtual 736, 3) := by decide +kernel
theorem dX13_twicePoint_198 : decode cX13_twicePoint 198 = .ok (.aload_n 0, 1) := by decide +kernel
theorem dX13_twicePoint_199 : decode cX13_twicePoint 199 = .ok (.getfield 126, 3) := by decide +kernel
theorem dX13_twicePoint_202 : decode cX13_twicePoint 202 = .ok (.aload_n 0, 1) := by decide +kernel
theorem dX13_twicePoint_203 : decode cX13_twicePoint 203 = .ok (.getfield 174, 3) := by decide +kernel
theorem dX13_twicePoint_206 : decode cX13_twicePoint 206 = .ok (.aload_n 0, 1) := by decide +kernel
theorem dX13_twicePoint_207 : decode cX13_twicePoint 207 = .ok (.getfield 174, 3) := by decide +kernel
theorem dX13_twicePoint_210 : decode cX13_twicePoint 210 = .ok (.aload_n 0, 1) := by decide +kernel
theorem dX13_twicePoint_211 : decode cX13_twicePoint 211 = .ok (.getfield 174, 3) := by decide +kernel
theorem dX13_twicePoint_214 : decode cX13_twicePoint 214 = .ok (.invokevirtual 740, 3) := by decide +kernel
theorem dX13_twicePoint_217 : decode cX13_twicePoint 217 = .ok (.aload_n 0, 1) := by decide +kernel
theorem dX13_twicePoint_218 : decode cX13_twicePoint 218 = .ok (.getfield 126, 3) := by decide +kernel
theorem dX13_twicePoint_221 : decode cX13_twicePoint 221 = .ok (.aload_n 0, 1) := by decide +kernel
theorem dX13_twicePoint_222 : decode cX13_twicePoint 222 = .ok (.getfield 174, 3) := by decide +kernel
theorem dX13_twicePoint_225 : decode cX13_twicePoint 225 = .ok (.aload_n 0, 1) := by decide +kernel
theorem dX13_twicePoint_226 : decode cX13_twicePoint 226 = .ok (.getfield 174, 3) := by decide +kernel
theorem dX13_twicePoint_229 : decode cX13_twicePoint 229 = .ok (.aload_n 0, 1) := by decide +kernel
theorem dX13_twicePoint_230 : decode cX13_twicePoint 230 = .ok (.getfield 174, 3) := by decide +kernel
theorem dX13_twicePoint_233 : decode cX13_twicePoint 233 = .ok (.invokevirtual 740, 3) := by decide +kernel
theorem dX13_twicePoint_236 : decode cX13_twicePoint 236 = .ok (.aload_n 0, 1) := by decide +kernel
theorem dX13_twicePoint_237 : decode cX13_twicePoint 237 = .ok (.getfield 126, 3) := by decide +kernel
theorem dX13_twicePoint_240 : decode cX13_twicePoint 240 = .ok (.aload_n 0, 1) := by decide +kernel
theorem dX13_twicePoint_241 : decode cX13_twicePoint 241 = .ok (.getfield 177, 3) := by decide +kernel
theorem dX13_twicePoint_244 : decode cX13_twicePoint 244 = .ok (.aload_n 0, 1) := by decide +kernel
theorem dX13_twicePoint_245 : decode cX13_twicePoint 245 = .ok (.getfield 177, 3) := by decide +kernel
theorem dX13_twicePoint_248 : decode cX13_twicePoint 248 = .ok (.aload_n 0, 1) := by decide +kernel
theorem dX13_twicePoint_249 : decode cX13_twicePoint 249 = .ok (.getfield 162, 3) := by decide +kernel
theorem dX13_twicePoint_252 : decode cX13_twicePoint 252 = .ok (.invokevirtual 736, 3) := by decide +kernel
theorem dX13_twicePoint_255 : decode cX13_twicePoint 255 = .ok (.aload_n 0, 1) := by decide +kernel
theorem dX13_twicePoint_256 : decode cX13_twicePoint 256 = .ok (.getfield 126, 3) := by decide +kernel
theorem dX13_twicePoint_259 : decode cX13_twicePoint 259 = .ok (.aload_n 0, 1) := by decide +kernel
theorem dX13_twicePoint_260 : decode cX13_twicePoint 260 = .ok (.getfield 162, 3) := by decide +kernel
theorem dX13_twicePoint_263 : decode cX13_twicePoint 263 = .ok (.aload_n 0, 1) := by decide +kernel
theorem dX13_twicePoint_264 : decode cX13_twicePoint 264 = .ok (.getfield 174, 3) := by decide +kernel
theorem dX13_twicePoint_267 : decode cX13_twicePoint 267 = .ok (.aload_n 0, 1) := by decide +kernel
theorem dX13_twicePoint_268 : decode cX13_twicePoint 268 = .ok (.getfield 162, 3) := by decide +kernel
theorem dX13_twicePoint_271 : decode cX13_twicePoint 271 = .ok (.invokevirtual 743, 3) := by decide +kernel
theorem dX13_twicePoint_274 : decode cX13_twicePoint 274 = .ok (.aload_n 0, 1) := by decide +kernel
theorem dX13_twicePoint_275 : decode cX13_twicePoint 275 = .ok (.getfield 126, 3) := by decide +kernel
theorem dX13_twicePoint_278 : decode cX13_twicePoint 278 = .ok (.aload_n 0, 1) := by decide +kernel
theorem dX13_twicePoint_279 : decode cX13_twicePoint 279 = .ok (.getfield 162, 3) := by decide +kernel
theorem dX13_twicePoint_282 : decode cX13_twicePoint 282 = .ok (.aload_n 0, 1) := by decide +kernel
theorem dX13_twicePoint_283 : decode cX13_twicePoint 283 = .ok (.getfield 174, 3) := by decide +kernel
theorem dX13_twicePoint_286 : decode cX13_twicePoint 286 = .ok (.aload_n 0, 1) := by decide +kernel
theorem dX13_twicePoint_287 : decode cX13_twicePoint 287 = .ok (.getfield 162, 3) := by decide +kernel
theorem dX13_twicePoint_290 : decode cX13_twicePoint 290 = .ok (.invokevirtual 743, 3) := by decide +kernel
theorem dX13_twicePoint_293 : decode cX13_twicePoint 293 = .ok (.aload_n 0, 1) := by decide +kernel
theorem dX13_twicePoint_294 : decode cX13_twicePoint 294 = .ok (.getfield 126, 3) := by decide +kernel
theorem dX13_twicePoint_297 : decode cX13_twicePoint 297 = .ok (.aload_n 0, 1) := by decide +kernel
theorem dX13_twicePoint_298 : decode cX13_twicePoint 298 = .ok (.getfield 171, 3) := by decide +kernel
theorem dX13_twicePoint_301 : decode cX13_twicePoint 301 = .ok (.aload_n 0, 1) := by decide +kernel
theorem dX13_twicePoint_302 : decode cX13_twicePoint 302 = .ok (.getfield 171, 3) := by decide +kernel
theorem dX13_twicePoint_305 : decode cX13_twicePoint 305 = .ok (.aload_n 0, 1) := by decide +kernel
theorem dX13_twicePoint_306 : decode cX13_twicePoint 306 = .ok (.getfield 171, 3) := by decide +kernel
theorem dX13_twicePoint_309 : decode cX13_twicePoint 309 = .ok (.invokevirtual 736, 3) := by decide +kernel
theorem dX13_twicePoint_312 : decode cX13_twicePoint 312 = .ok (.aload_n 0, 1) := by decide +kernel
theorem dX13_twicePoint_313 : decode cX13_twicePoint 313 = .ok (.getfield 126, 3) := by decide +kernel
theorem dX13_twicePoint_316 : decode cX13_twicePoint 316 = .ok (.aload_n 0, 1) := by decide +kernel
theorem dX13_twicePoint_317 : decode cX13_twicePoint 317 = .ok (.getfield 171, 3) := by decide +kernel
theorem dX13_twicePoint_320 : decode cX13_twicePoint 320 = .ok (.aload_n 0, 1) := by decide +kernel
theorem dX13_twicePoint_321 : decode cX13_twicePoint 321 = .ok (.getfield 171, 3) := by decide +kernel
theorem dX13_twicePoint_324 : decode cX13_twicePoint 324 = .ok (.aload_n 0, 1) := by decide +kernel
theorem dX13_twicePoint_325 : decode cX13_twicePoint 325 = .ok (.getfield 171, 3) := by decide +kernel
theorem dX13_twicePoint_328 : decode cX13_twicePoint 328 = .ok (.invokevirtual 740, 3) := by decide +kernel
theorem dX13_twicePoint_331 : decode cX13_twicePoint 331 = .ok (.aload_n 0, 1) := by decide +kernel
theorem dX13_twicePoint_332 : decode cX13_twicePoint 332 = .ok (.getfield 126, 3) := by decide +kernel
theorem dX13_twicePoint_335 : decode cX13_twicePoint 335 = .ok (.aload_n 0, 1) := by decide +kernel
theorem dX13_twicePoint_336 : decode cX13_twicePoint 336 = .ok (.getfield 171, 3) := by decide +kernel
theorem dX13_twicePoint_339 : decode cX13_twicePoint 339 = .ok (.aload_n 0, 1) := by decide +kernel
theorem dX13_twicePoint_340 : decode cX13_twicePoint 340 = .ok (.getfield 171, 3) := by decide +kernel
theorem dX13_twicePoint_343 : decode cX13_twicePoint 343 = .ok (.aload_n 0, 1) := by decide +kernel
theorem dX13_twicePoint_344 : decode cX13_twicePoint 344 = .ok (.getfield 171, 3) := by decide +kernel
theorem dX13_twicePoint_347 : decode cX13_twicePoint 347 = .ok (.invokevirtual 740, 3) := by decide +kernel
theorem dX13_twicePoint_350 : decode cX13_twicePoint 350 = .ok (.aload_n 0, 1) := by decide +kernel
theorem dX13_twicePoint_351 : decode cX13_twicePoint 351 = .ok (.getfield 126, 3) := by decide +kernel
theorem dX13_twicePoint_354 : decode cX13_twicePoint 354 = .ok (.aload_n 0, 1) := by decide +kernel
theorem dX13_twicePoint_355 : decode cX13_twicePoint 355 = .ok (.getfield 171, 3) := by decide +kernel
theorem dX13_twicePoint_358 : decode cX13_twicePoint 358 = .ok (.aload_n 0, 1) := by decide +kernel
theorem dX13_twicePoint_359 : decode cX13_twicePoint 359 = .ok (.getfield 171, 3) := by decide +kernel
theorem dX13_twicePoint_362 : decode cX13_twicePoint 362 = .ok (.aload_n 0, 1) := by decide +kernel
theorem dX13_twicePoint_363 : decode cX13_twicePoint 363 = .ok (.getfield 171, 3) := by decide +kernel
theorem dX13_twicePoint_366 : decode cX13_twicePoint 366 = .ok (.invokevirtual 740, 3) := by decide +kernel
theorem dX13_twicePoint_369 : decode cX13_twicePoint 369 = .ok (.aload_n 0, 1) := by decide +kernel
theorem dX13_twicePoint_370 : decode cX13_twicePoint 370 = .ok (.getfield 126, 3) := by decide +kernel
theorem dX13_twicePoint_373 : decode cX13_twicePoint 373 = .ok (.aload_n 0, 1) := by decide +kernel
theorem dX13_twicePoint_374 : decode cX13_twicePoint 374 = .ok (.getfield 174, 3) := by decide +kernel
theorem dX13_twicePoint_377 : decode cX13_twicePoint 377 = .ok (.aload_n 0, 1) := by decide +kernel
theorem dX13_twicePoint_378 : decode cX13_twicePoint 378 = .ok (.getfield 162, 3) := by decide +kernel
theorem dX13_twicePoint_381 : decode cX13_twicePoint 381 = .ok (.aload_n 0, 1) := by decide +kernel
theorem dX13_twicePoint_382 : decode cX13_twicePoint 382 = .ok (.getfield 174, 3) := by decide +kernel
theorem dX13_twicePoint_385 : decode cX13_twicePoint 385 = .ok (.invokevirtual 743, 3) := by decide +kernel
theorem dX13_twicePoint_388 : decode cX13_twicePoint 388 = .ok (.aload_n 0, 1) := by decide +kernel
theorem dX13_twicePoint_389 : decode cX13_twicePoint 389 = .ok (.getfield 126, 3) := by decide +kernel
theorem dX13_twicePoint_392 : decode cX13_twicePoint 392 = .ok (.aload_n 0, 1) := by decide +kernel
theorem dX13_twicePoint_393 : decode cX13_twicePoint 393 = .ok (.getfield 177, 3) := by decide +kernel
theorem dX13_twicePoint_396 : decode cX13_twicePoint 396 = .ok (.aload_n 0, 1) := by decide +kernel
theorem dX13_twicePoint_397 : decode cX13_twicePoint 397 = .ok (.getfield 174, 3) := by decide +kernel
theorem dX13_twicePoint_400 : decode cX13_twicePoint 400 = .ok (.aload_n 0, 1) := by decide +kernel
theorem dX13_twicePoint_401 : decode cX13_twicePoint 401 = .ok (.getfield 165, 3) := by decide +kernel
theorem dX13_twicePoint_404 : decode cX13_twicePoint 404 = .ok (.invokevirtual 736, 3) := by decide +kernel
theorem dX13_twicePoint_407 : decode cX13_twicePoint 407 = .ok (.aload_n 0, 1) := by decide +kernel
theorem dX13_twicePoint_408 : decode cX13_twicePoint 408 = .ok (.getfield 126, 3) := by decide +kernel
theorem dX13_twicePoint_411 : decode cX13_twicePoint 411 = .ok (.aload_n 0, 1) := by decide +kernel
theorem dX13_twicePoint_412 : decode cX13_twicePoint 412 = .ok (.getfield 165, 3) := by decide +kernel
theorem dX13_twicePoint_415 : decode cX13_twicePoint 415 = .ok (.aload_n 0, 1) := by decide +kernel
theorem dX13_twicePoint_416 : decode cX13_twicePoint 416 = .ok (.getfield 171, 3) := by decide +kernel
theorem dX13_twicePoint_419 : decode cX13_twicePoint 419 = .ok (.aload_n 0, 1) := by decide +kernel
theorem dX13_twicePoint_420 : decode cX13_twicePoint 420 = .ok (.getfield 165, 3) := by decide +kernel
theorem dX13_twicePoint_423 : decode cX13_twicePoint 423 = .ok (.invokevirtual 743, 3) := by decide +kernel
theorem dX13_twicePoint_426 : decode cX13_twicePoint 426 = .ok (.aload_n 0, 1) := by decide +kernel
theorem dX13_twicePoint_427 : decode cX13_twicePoint 427 = .ok (.aload_n 0, 1) := by decide +kernel
theorem dX13_twicePoint_428 : decode cX13_twicePoint 428 = .ok (.getfield 126, 3) := by decide +kernel
theorem dX13_twicePoint_431 : decode cX13_twicePoint 431 = .ok (.aload_n 0, 1) := by decide +kernel
theorem dX13_twicePoint_432 : decode cX13_twicePoint 432 = .ok (.getfield 168, 3) := by decide +kernel
theorem dX13_twicePoint_435 : decode cX13_twicePoint 435 = .ok (.invokevirtual 749, 3) := by decide +kernel
theorem dX13_twicePoint_438 : decode cX13_twicePoint 438 = .ok (.putfield 746, 3) := by decide +kernel
theorem dX13_twicePoint_441 : decode cX13_twicePoint 441 = .ok (.return_, 1) := by decide +kernel
abbrev rmX13_twicePoint : Room := { frames := 2, cells := 0, slots := 0, locals := 59 }
set_option maxHeartbeats 4000000 in
set_option maxRecDepth 100000 in
theorem wP_X13_twicePoint {G : mG} {F : Nat} {x : mXT} {sz : Nat} {M0 : mM} (X : mCX G RX13 cX13_twicePoint 1 none "twicePoint" rmX13_twicePoint x) (hQ : mQV x M0 (sz, 0, 0)) {l0 : Nat} {M : mM} (h : P_X13_twicePoint G F l0 M = some M0) : WW x (sz, 0, 0) M 0 [(0, .ref l0)] [] := by
  unfold P_X13_twicePoint at h
  refine ww_aload_n 0 X dX13_twicePoint_0 0 rfl rfl ?_
  obtain ⟨v1, e1, h⟩ := bO_some h
  refine ww_getI 1 X dX13_twicePoint_1 fG_X13_746 e1 ?_
  refine ww_if_eq 4 8 X dX13_twicePoint_4 (by decide) (fun q => ?_) (fun q => ?_)
  · replace h := (if_pos q).symm.trans h
    refine ww_aload_n 8 X dX13_twicePoint_8 0 rfl rfl ?_
    obtain ⟨v9, e9, h⟩ := bO_some h
    refine ww_getR 9 X dX13_twicePoint_9 fG_X13_126 e9 ?_
    refine ww_aload_n 12 X dX13_twicePoint_12 0 rfl rfl ?_
    obtain ⟨v13, e13, h⟩ := bO_some h
    refine ww_getR 13 X dX13_twicePoint_13 fG_X13_168 e13 ?_
    refine ww_aload_n 16 X dX13_twicePoint_16 0 rfl rfl ?_
    obtain ⟨v17, e17, h⟩ := bO_some h
    refine ww_getR 17 X dX13_twicePoint_17 fG_X13_168 e17 ?_
    refine ww_aload_n 20 X dX13_twicePoint_20 0 rfl rfl ?_
    obtain ⟨v21, e21, h⟩ := bO_some h
    refine ww_getR 21 X dX13_twicePoint_21 fG_X13_180 e21 ?_
    obtain ⟨_, f24, h⟩ := bO_some h
    obtain ⟨M24, e24, h⟩ := bO_some h
    refine ww_callVV0 24 X dX13_twicePoint_24 mY_X12_product mL_X13_736 (rcv_spec f24) ⟨_, _, rfl⟩ (by decide) (As := [.ref v13, .ref v17, .ref v21]) (rest := []) rfl rfl ⟨Nat.le_of_ble_eq_true rfl, Nat.le_of_ble_eq_true rfl⟩ (Nat.le_of_ble_eq_true rfl) (fun l D A => c_X12_product l D A e24) ?_
    refine ww_aload_n 27 X dX13_twicePoint_27 0 rfl rfl ?_
    obtain ⟨v28, e28, h⟩ := bO_some h
    refine ww_getR 28 X dX13_twicePoint_28 fG_X13_126 e28 ?_
    refine ww_aload_n 31 X dX13_twicePoint_31 0 rfl rfl ?_
    obtain ⟨v32, e32, h⟩ := bO_some h
    refine ww_getR 32 X dX13_twicePoint_32 fG_X13_162 e32 ?_
    refine ww_aload_n 35 X dX13_twicePoint_35 0 rfl rfl ?_
    obtain ⟨v36, e36, h⟩ := bO_some h
    refine ww_getR 36 X dX13_twicePoint_36 fG_X13_180 e36 ?_
    refine ww_aload_n 39 X dX13_twicePoint_39 0 rfl rfl ?_
    obtain ⟨v40, e40, h⟩ := bO_some h
    refine ww_getR 40 X dX13_twicePoint_40 fG_X13_183 e40 ?_
    obtain ⟨_, f43, h⟩ := bO_some h
    obtain ⟨M43, e43, h⟩ := bO_some h
    refine ww_callVV0 43 X dX13_twicePoint_43 mY_X12_subtract mL_X13_743 (rcv_spec f43) ⟨_, _, rfl⟩ (by decide) (As := [.ref v32, .ref v36, .ref v40]) (rest := []) rfl rfl ⟨Nat.le_of_ble_eq_true rfl, Nat.le_of_ble_eq_true rfl⟩ (Nat.le_of_ble_eq_true rfl) (fun l D A => c_X12_subtract l D A e43) ?_
    refine ww_aload_n 46 X dX13_twicePoint_46 0 rfl rfl ?_
    obtain ⟨v47, e47, h⟩ := bO_some h
    refine ww_getR 47 X dX13_twicePoint_47 fG_X13_126 e47 ?_
    refine ww_aload_n 50 X dX13_twicePoint_50 0 rfl rfl ?_
    obtain ⟨v51, e51, h⟩ := bO_some h
    refine ww_getR 51 X dX13_twicePoint_51 fG_X13_162 e51 ?_
    refine ww_aload_n 54 X dX13_twicePoint_54 0 rfl rfl ?_
    obtain ⟨v55, e55, h⟩ := bO_some h
    refine ww_getR 55 X dX13_twicePoint_55 fG_X13_180 e55 ?_
    refine ww_aload_n 58 X dX13_twicePoint_58 0 rfl rfl ?_
    obtain ⟨v59, e59, h⟩ := bO_some h
    refine ww_getR 59 X dX13_twicePoint_59 fG_X13_180 e59 ?_
    obtain ⟨_, f62, h⟩ := bO_some h
    obtain ⟨M62, e62, h⟩ := bO_some h
    refine ww_callVV0 62 X dX13_twicePoint_62 mY_X12_add mL_X13_740 (rcv_spec f62) ⟨_, _, rfl⟩ (by decide) (As := [.ref v51, .ref v55, .ref v59]) (rest := []) rfl rfl ⟨Nat.le_of_ble_eq_true rfl, Nat.le_of_ble_eq_true rfl⟩ (Nat.le_of_ble_eq_true rfl) (fun l D A => c_X12_add l D A e62) ?_
    refine ww_aload_n 65 X dX13_twicePoint_65 0 rfl rfl ?_
    obtain ⟨v66, e66, h⟩ := bO_some h
    refine ww_getR 66 X dX13_twicePoint_66 fG_X13_126 e66 ?_
    refine ww_aload_n 69 X dX13_twicePoint_69 0 rfl rfl ?_
    obtain ⟨v70, e70, h⟩ := bO_some h
    refine ww_getR 70 X dX13_twicePoint_70 fG_X13_180 e70 ?_
    refine ww_aload_n 73 X dX13_twicePoint_73 0 rfl rfl ?_
    obtain ⟨v74, e74, h⟩ := bO_some h
    refine ww_getR 74 X dX13_twicePoint_74 fG_X13_183 e74 ?_
    refine ww_aload_n 77 X dX13_twicePoint_77 0 rfl rfl ?_
    obtain ⟨v78, e78, h⟩ := bO_some h
    refine ww_getR 78 X dX13_twicePoint_78 fG_X13_180 e78 ?_
    obtain ⟨_, f81, h⟩ := bO_some h
    obtain ⟨M81, e81, h⟩ := bO_some h
    refine ww_callVV0 81 X dX13_twicePoint_81 mY_X12_product mL_X13_736 (rcv_spec f81) ⟨_, _, rfl⟩ (by decide) (As := [.ref v70, .ref v74, .ref v78]) (rest := []) rfl rfl ⟨Nat.le_of_ble_eq_true rfl, Nat.le_of_ble_eq_true rfl⟩ (Nat.le_of_ble_eq_true rfl) (fun l D A => c_X12_product l D A e81) ?_
    refine ww_aload_n 84 X dX13_twicePoint_84 0 rfl rfl ?_
    obtain ⟨v85, e85, h⟩ := bO_some h
    refine ww_getR 85 X dX13_twicePoint_85 fG_X13_126 e85 ?_
    refine ww_aload_n 88 X dX13_twicePoint_88 0 rfl rfl ?_
    obtain ⟨v89, e89, h⟩ := bO_some h
    refine ww_getR 89 X dX13_twicePoint_89 fG_X13_180 e89 ?_
    refine ww_aload_n 92 X dX13_twicePoint_92 0 rfl rfl ?_
    obtain ⟨v93, e93, h⟩ := bO_some h
    refine ww_getR 93 X dX13_twicePoint_93 fG_X13_180 e93 ?_
    refine ww_aload_n 96 X dX13_twicePoint_96 0 rfl rfl ?_
    obtain ⟨v97, e97, h⟩ := bO_some h
    refine ww_getR 97 X dX13_twicePoint_97 fG_X13_177 e97 ?_
    obtain ⟨_, f100, h⟩ := bO_some h
    obtain ⟨M100, e100, h⟩ := bO_some h
    refine ww_callVV0 100 X dX13_twicePoint_100 mY_X12_add mL_X13_740 (rcv_spec f100) ⟨_, _, rfl⟩ (by decide) (As := [.ref v89, .ref v93, .ref v97]) (rest := []) rfl rfl ⟨Nat.le_of_ble_eq_true rfl, Nat.le_of_ble_eq_true rfl⟩ (Nat.le_of_ble_eq_true rfl) (fun l D A => c_X12_add l D A e100) ?_
    refine ww_aload_n 103 X dX13_twicePoint_103 0 rfl rfl ?_
    obtain ⟨v104, e104, h⟩ := bO_some h
    refine ww_getR 104 X dX13_twicePoint_104 fG_X13_126 e104 ?_
    refine ww_aload_n 107 X dX13_twicePoint_107 0 rfl rfl ?_
    obtain ⟨v108, e108, h⟩ := bO_some h
    refine ww_getR 108 X dX13_twicePoint_108 fG_X13_177 e108 ?_
    refine ww_aload_n 111 X dX13_twicePoint_111 0 rfl rfl ?_
    obtain ⟨v112, e112, h⟩ := bO_some h
    refine ww_getR 112 X dX13_twicePoint_112 fG_X13_180 e112 ?_
    refine ww_aload_n 115 X dX13_twicePoint_115 0 rfl rfl ?_
    obtain ⟨v116, e116, h⟩ := bO_some h
    refine ww_getR 116 X dX13_twicePoint_116 fG_X13_177 e116 ?_
    obtain ⟨_, f119, h⟩ := bO_some h
    obtain ⟨M119, e119, h⟩ := bO_some h
    refine ww_callVV0 119 X dX13_twicePoint_119 mY_X12_add mL_X13_740 (rcv_spec f119) ⟨_, _, rfl⟩ (by decide) (As := [.ref v108, .ref v112, .ref v116]) (rest := []) rfl rfl ⟨Nat.le_of_ble_eq_true rfl, Nat.le_of_ble_eq_true rfl⟩ (Nat.le_of_ble_eq_true rfl) (fun l D A => c_X12_add l D A e119) ?_
    refine ww_aload_n 122 X dX13_twicePoint_122 0 rfl rfl ?_
    obtain ⟨v123, e123, h⟩ := bO_some h
    refine ww_getR 123 X dX13_twicePoint_123 fG_X13_126 e123 ?_
    refine ww_aload_n 126 X dX13_twicePoint_126 0 rfl rfl ?_
    obtain ⟨v127, e127, h⟩ := bO_some h
    refine ww_getR 127 X dX13_twicePoint_127 fG_X13_165 e127 ?_
    refine ww_aload_n 130 X dX13_twicePoint_130 0 rfl rfl ?_
    obtain ⟨v131, e131, h⟩ := bO_some h
    refine ww_getR 131 X dX13_twicePoint_131 fG_X13_168 e131 ?_
    refine ww_aload_n 134 X dX13_twicePoint_134 0 rfl rfl ?_
    obtain ⟨v135, e135, h⟩ := bO_some h
    refine ww_getR 135 X dX13_twicePoint_135 fG_X13_168 e135 ?_
    obtain ⟨_, f138, h⟩ := bO_some h
    obtain ⟨M138, e138, h⟩ := bO_some h
    refine ww_callVV0 138 X dX13_twicePoint_138 mY_X12_product mL_X13_736 (rcv_spec f138) ⟨_, _, rfl⟩ (by decide) (As := [.ref v127, .ref v131, .ref v135]) (rest := []) rfl rfl ⟨Nat.le_of_ble_eq_true rfl, Nat.le_of_ble_eq_true rfl⟩ (Nat.le_of_ble_eq_true rfl) (fun l D A => c_X12_product l D A e138) ?_
    refine ww_aload_n 141 X dX13_twicePoint_141 0 rfl rfl ?_
    obtain ⟨v142, e142, h⟩ := bO_some h
    refine ww_getR 142 X dX13_twicePoint_142 fG_X13_126 e142 ?_
    refine ww_aload_n 145 X dX13_twicePoint_145 0 rfl rfl ?_
    obtain ⟨v146, e146, h⟩ := bO_some h
    refine ww_getR 146 X dX13_twicePoint_146 fG_X13_168 e146 ?_
    refine ww_aload_n 149 X dX13_twicePoint_149 0 rfl rfl ?_
    obtain ⟨v150, e150, h⟩ := bO_some h
    refine ww_getR 150 X dX13_twicePoint_150 fG_X13_168 e150 ?_
    refine ww_aload_n 153 X dX13_twicePoint_153 0 rfl rfl ?_
    obtain ⟨v154, e154, h⟩ := bO_some h
    refine ww_getR 154 X dX13_twicePoint_154 fG_X13_168 e154 ?_
    obtain ⟨_, f157, h⟩ := bO_some h
    obtain ⟨M157, e157, h⟩ := bO_some h
    refine ww_callVV0 157 X dX13_twicePoint_157 mY_X12_add mL_X13_740 (rcv_spec f157) ⟨_, _, rfl⟩ (by decide) (As := [.ref v146, .ref v150, .ref v154]) (rest := []) rfl rfl ⟨Nat.le_of_ble_eq_true rfl, Nat.le_of_ble_eq_true rfl⟩ (Nat.le_of_ble_eq_true rfl) (fun l D A => c_X12_add l D A e157) ?_
    refine ww_aload_n 160 X dX13_twicePoint_160 0 rfl rfl ?_
    obtain ⟨v161, e161, h⟩ := bO_some h
    refine ww_getR 161 X dX13_twicePoint_161 fG_X13_126 e161 ?_
    refine ww_aload_n 164 X dX13_twicePoint_164 0 rfl rfl ?_
    obtain ⟨v165, e165, h⟩ := bO_some h
    refine ww_getR 165 X dX13_twicePoint_165 fG_X13_165 e165 ?_
    refine ww_aload_n 168 X dX13_twicePoint_168 0 rfl rfl ?_
    obtain ⟨v169, e169, h⟩ := bO_some h
    refine ww_getR 169 X dX13_twicePoint_169 fG_X13_165 e169 ?_
    refine ww_aload_n 172 X dX13_twicePoint_172 0 rfl rfl ?_
    obtain ⟨v173, e173, h⟩ := bO_some h
    refine ww_getR 173 X dX13_twicePoint_173 fG_X13_171 e173 ?_
    obtain ⟨_, f176, h⟩ := bO_some h
    obtain ⟨M176, e176, h⟩ := bO_some h
    refine ww_callVV0 176 X dX13_twicePoint_176 mY_X12_product mL_X13_736 (rcv_spec f176) ⟨_, _, rfl⟩ (by decide) (As := [.ref v165, .ref v169, .ref v173]) (rest := []) rfl rfl ⟨Nat.le_of_ble_eq_true rfl, Nat.le_of_ble_eq_true rfl⟩ (Nat.le_of_ble_eq_true rfl) (fun l D A => c_X12_product l D A e176) ?_
    refine ww_aload_n 179 X dX13_twicePoint_179 0 rfl rfl ?_
    obtain ⟨v180, e180, h⟩ := bO_some h
    refine ww_getR 180 X dX13_twicePoint_180 fG_X13_126 e180 ?_
    refine ww_aload_n 183 X dX13_twicePoint_183 0 rfl rfl ?_
    obtain ⟨v184, e184, h⟩ := bO_some h
    refine ww_getR 184 X dX13_twicePoint_184 fG_X13_162 e184 ?_
    refine ww_aload_n 187 X dX13_twicePoint_187 0 rfl rfl ?_
    obtain ⟨v188, e188, h⟩ := bO_some h
    refine ww_getR 188 X dX13_twicePoint_188 fG_X13_171 e188 ?_
    refine ww_aload_n 191 X dX13_twicePoint_191 0 rfl rfl ?_
    obtain ⟨v192, e192, h⟩ := bO_some h
    refine ww_getR 192 X dX13_twicePoint_192 fG_X13_174 e192 ?_
    obtain ⟨_, f195, h⟩ := bO_some h
    obtain ⟨M195, e195, h⟩ := bO_some h
    refine ww_callVV0 195 X dX13_twicePoint_195 mY_X12_product mL_X13_736 (rcv_spec f195) ⟨_, _, rfl⟩ (by decide) (As := [.ref v184, .ref v188, .ref v192]) (rest := []) rfl rfl ⟨Nat.le_of_ble_eq_true rfl, Nat.le_of_ble_eq_true rfl⟩ (Nat.le_of_ble_eq_true rfl) (fun l D A => c_X12_product l D A e195) ?_
    refine ww_aload_n 198 X dX13_twicePoint_198 0 rfl rfl ?_
    obtain ⟨v199, e199, h⟩ := bO_some h
    refine ww_getR 199 X dX13_twicePoint_199 fG_X13_126 e199 ?_
    refine ww_aload_n 202 X dX13_twicePoint_202 0 rfl rfl ?_
    obtain ⟨v203, e203, h⟩ := bO_some h
    refine ww_getR 203 X dX13_twicePoint_203 fG_X13_174 e203 ?_
    refine ww_aload_n 206 X dX13_twicePoint_206 0 rfl rfl ?_
    obtain ⟨v207, e207, h⟩ := bO_some h
    refine ww_getR 207 X dX13_twicePoint_207 fG_X13_174 e207 ?_
    refine ww_aload_n 210 X dX13_twicePoint_210 0 rfl rfl ?_
    obtain ⟨v211, e211, h⟩ := bO_some h
    refine ww_getR 211 X dX13_twicePoint_211 fG_X13_174 e211 ?_
    obtain ⟨_, f214, h⟩ := bO_some h
    obtain ⟨M214, e214, h⟩ := bO_some h
    refine ww_callVV0 214 X dX13_twicePoint_214 mY_X12_add mL_X13_740 (rcv_spec f214) ⟨_, _, rfl⟩ (by decide) (As := [.ref v203, .ref v207, .ref v211]) (rest := []) rfl rfl ⟨Nat.le_of_ble_eq_true rfl, Nat.le_of_ble_eq_true rfl⟩ (Nat.le_of_ble_eq_true rfl) (fun l D A => c_X12_add l D A e214) ?_
    refine ww_aload_n 217 X dX13_twicePoint_217 0 rfl rfl ?_
    obtain ⟨v218, e218, h⟩ := bO_some h
    refine ww_getR 218 X dX13_twicePoint_218 fG_X13_126 e218 ?_
    refine ww_aload_n 221 X dX13_twicePoint_221 0 rfl rfl ?_
    obtain ⟨v222, e222, h⟩ := bO_some h
    refine ww_getR 222 X dX13_twicePoint_222 fG_X13_174 e222 ?_
    refine ww_aload_n 225 X dX13_twicePoint_225 0 rfl rfl ?_
    obtain ⟨v226, e226, h⟩ := bO_some h
    refine ww_getR 226 X dX13_twicePoint_226 fG_X13_174 e226 ?_
    refine ww_aload_n 229 X dX13_twicePoint_229 0 rfl rfl ?_
    obtain ⟨v230, e230, h⟩ := bO_some h
    refine ww_getR 230 X dX13_twicePoint_230 fG_X13_174 e230 ?_
    obtain ⟨_, f233, h⟩ := bO_some h
    obtain ⟨M233, e233, h⟩ := bO_some h
    refine ww_callVV0 233 X dX13_twicePoint_233 mY_X12_add mL_X13_740 (rcv_spec f233) ⟨_, _, rfl⟩ (by decide) (As := [.ref v222, .ref v226, .ref v230]) (rest := []) rfl rfl ⟨Nat.le_of_ble_eq_true rfl, Nat.le_of_ble_eq_true rfl⟩ (Nat.le_of_ble_eq_true rfl) (fun l D A => c_X12_add l D A e233) ?_
    refine ww_aload_n 236 X dX13_twicePoint_236 0 rfl rfl ?_
    obtain ⟨v237, e237, h⟩ := bO_some h
    refine ww_getR 237 X dX13_twicePoint_237 fG_X13_126 e237 ?_
    refine ww_aload_n 240 X dX13_twicePoint_240 0 rfl rfl ?_
    obtain ⟨v241, e241, h⟩ := bO_some h
    refine ww_getR 241 X dX13_twicePoint_241 fG_X13_177 e241 ?_
    refine ww_aload_n 244 X dX13_twicePoint_244 0 rfl rfl ?_
    obtain ⟨v245, e245, h⟩ := bO_some h
    refine ww_getR 245 X dX13_twicePoint_245 fG_X13_177 e245 ?_
    refine ww_aload_n 248 X dX13_twicePoint_248 0 rfl rfl ?_
    obtain ⟨v249, e249, h⟩ := bO_some h
    refine ww_getR 249 X dX13_twicePoint_249 fG_X13_162 e249 ?_
    obtain ⟨_, f252, h⟩ := bO_some h
    obtain ⟨M252, e252, h⟩ := bO_some h
    refine ww_callVV0 252 X dX13_twicePoint_252 mY_X12_product mL_X13_736 (rcv_spec f252) ⟨_, _, rfl⟩ (by decide) (As := [.ref v241, .ref v245, .ref v249]) (rest := []) rfl rfl ⟨Nat.le_of_ble_eq_true rfl, Nat.le_of_ble_eq_true rfl⟩ (Nat.le_of_ble_eq_true rfl) (fun l D A => c_X12_product l D A e252) ?_
    refine ww_aload_n 255 X dX13_twicePoint_255 0 rfl rfl ?_
    obtain ⟨v256, e256, h⟩ := bO_some h
    refine ww_getR 256 X dX13_twicePoint_256 fG_X13_126 e256 ?_
    refine ww_aload_n 259 X dX13_twicePoint_259 0 rfl rfl ?_
    obtain ⟨v260, e260, h⟩ := bO_some h
    refine ww_getR 260 X dX13_twicePoint_260 fG_X13_162 e260 ?_
    refine ww_aload_n 263 X dX13_twicePoint_263 0 rfl rfl ?_
    obtain ⟨v264, e264, h⟩ := bO_some h
    refine ww_getR 264 X dX13_twicePoint_264 fG_X13_174 e264 ?_
    refine ww_aload_n 267 X dX13_twicePoint_267 0 rfl rfl ?_
    obtain ⟨v268, e268, h⟩ := bO_some h
    refine ww_getR 268 X dX13_twicePoint_268 fG_X13_162 e268 ?_
    obtain ⟨_, f271, h⟩ := bO_some h
    obtain ⟨M271, e271, h⟩ := bO_some h
    refine ww_callVV0 271 X dX13_twicePoint_271 mY_X12_subtract mL_X13_743 (rcv_spec f271) ⟨_, _, rfl⟩ (by decide) (As := [.ref v260, .ref v264, .ref v268]) (rest := []) rfl rfl ⟨Nat.le_of_ble_eq_true rfl, Nat.le_of_ble_eq_true rfl⟩ (Nat.le_of_ble_eq_true rfl) (fun l D A => c_X12_subtract l D A e271) ?_
    refine ww_aload_n 274 X dX13_twicePoint_274 0 rfl rfl ?_
    obtain ⟨v275, e275, h⟩ := bO_some h
    refine ww_getR 275 X dX13_twicePoint_275 fG_X13_126 e275 ?_
    refine ww_aload_n 278 X dX13_twicePoint_278 0 rfl rfl ?_
    obtain ⟨v279, e279, h⟩ := bO_some h
    refine ww_getR 279 X dX13_twicePoint_279 fG_X13_162 e279 ?_
    refine ww_aload_n 282 X dX13_twicePoint_282 0 rfl rfl ?_
    obtain ⟨v283, e283, h⟩ := bO_some h
    refine ww_getR 283 X dX13_twicePoint_283 fG_X13_174 e283 ?_
    refine ww_aload_n 286 X dX13_twicePoint_286 0 rfl rfl ?_
    obtain ⟨v287, e287, h⟩ := bO_some h
    refine ww_getR 287 X dX13_twicePoint_287 fG_X13_162 e287 ?_
    obtain ⟨_, f290, h⟩ := bO_some h
    obtain ⟨M290, e290, h⟩ := bO_some h
    refine ww_callVV0 290 X dX13_twicePoint_290 mY_X12_subtract mL_X13_743 (rcv_spec f290) ⟨_, _, rfl⟩ (by decide) (As := [.ref v279, .ref v283, .ref v287]) (rest := []) rfl rfl ⟨Nat.le_of_ble_eq_true rfl, Nat.le_of_ble_eq_true rfl⟩ (Nat.le_of_ble_eq_true rfl) (fun l D A => c_X12_subtract l D A e290) ?_
    refine ww_aload_n 293 X dX13_twicePoint_293 0 rfl rfl ?_
    obtain ⟨v294, e294, h⟩ := bO_some h
    refine ww_getR 294 X dX13_twicePoint_294 fG_X13_126 e294 ?_
    refine ww_aload_n 297 X dX13_twicePoint_297 0 rfl rfl ?_
    obtain ⟨v298, e298, h⟩ := bO_some h
    refine ww_getR 298 X dX13_twicePoint_298 fG_X13_171 e298 ?_
    refine ww_aload_n 301 X dX13_twicePoint_301 0 rfl rfl ?_
    obtain ⟨v302, e302, h⟩ := bO_some h
    refine ww_getR 302 X dX13_twicePoint_302 fG_X13_171 e302 ?_
    refine ww_aload_n 305 X dX13_twicePoint_305 0 rfl rfl ?_
    obtain ⟨v306, e306, h⟩ := bO_some h
    refine ww_getR 306 X dX13_twicePoint_306 fG_X13_171 e306 ?_
    obtain ⟨_, f309, h⟩ := bO_some h
    obtain ⟨M309, e309, h⟩ := bO_some h
    refine ww_callVV0 309 X dX13_twicePoint_309 mY_X12_product mL_X13_736 (rcv_spec f309) ⟨_, _, rfl⟩ (by decide) (As := [.ref v298, .ref v302, .ref v306]) (rest := []) rfl rfl ⟨Nat.le_of_ble_eq_true rfl, Nat.le_of_ble_eq_true rfl⟩ (Nat.le_of_ble_eq_true rfl) (fun l D A => c_X12_product l D A e309) ?_
    refine ww_aload_n 312 X dX13_twicePoint_312 0 rfl rfl ?_
    obtain ⟨v313, e313, h⟩ := bO_some h
    refine ww_getR 313 X dX13_twicePoint_313 fG_X13_126 e313 ?_
    refine ww_aload_n 316 X dX13_twicePoint_316 0 rfl rfl ?_
    obtain ⟨v317, e317, h⟩ := bO_some h
    refine ww_getR 317 X dX13_twicePoint_317 fG_X13_171 e317 ?_
    refine ww_aload_n 320 X dX13_twicePoint_320 0 rfl rfl ?_
    obtain ⟨v321, e321, h⟩ := bO_some h
    refine ww_getR 321 X dX13_twicePoint_321 fG_X13_171 e321 ?_
    refine ww_aload_n 324 X dX13_twicePoint_324 0 rfl rfl ?_
    obtain ⟨v325, e325, h⟩ := bO_some h
    refine ww_getR 325 X dX13_twicePoint_325 fG_X13_171 e325 ?_
    obtain ⟨_, f328, h⟩ := bO_some h
    obtain ⟨M328, e328, h⟩ := bO_some h
    refine ww_callVV0 328 X dX13_twicePoint_328 mY_X12_add mL_X13_740 (rcv_spec f328) ⟨_, _, rfl⟩ (by decide) (As := [.ref v317, .ref v321, .ref v325]) (rest := []) rfl rfl ⟨Nat.le_of_ble_eq_true rfl, Nat.le_of_ble_eq_true rfl⟩ (Nat.le_of_ble_eq_true rfl) (fun l D A => c_X12_add l D A e328) ?_
    refine ww_aload_n 331 X dX13_twicePoint_331 0 rfl rfl ?_
    obtain ⟨v332, e332, h⟩ := bO_some h
    refine ww_getR 332 X dX13_twicePoint_332 fG_X13_126 e332 ?_
    refine ww_aload_n 335 X dX13_twicePoint_335 0 rfl rfl ?_
    obtain ⟨v336, e336, h⟩ := bO_some h
    refine ww_getR 336 X dX13_twicePoint_336 fG_X13_171 e336 ?_
    refine ww_aload_n 339 X dX13_twicePoint_339 0 rfl rfl ?_
    obtain ⟨v340, e340, h⟩ := bO_some h
    refine ww_getR 340 X dX13_twicePoint_340 fG_X13_171 e340 ?_
    refine ww_aload_n 343 X dX13_twicePoint_343 0 rfl rfl ?_
    obtain ⟨v344, e344, h⟩ := bO_some h
    refine ww_getR 344 X dX13_twicePoint_344 fG_X13_171 e344 ?_
    obtain ⟨_, f347, h⟩ := bO_some h
    obtain ⟨M347, e347, h⟩ := bO_some h
    refine ww_callVV0 347 X dX13_twicePoint_347 mY_X12_add mL_X13_740 (rcv_spec f347) ⟨_, _, rfl⟩ (by decide) (As := [.ref v336, .ref v340, .ref v344]) (rest := []) rfl rfl ⟨Nat.le_of_ble_eq_true rfl, Nat.le_of_ble_eq_true rfl⟩ (Nat.le_of_ble_eq_true rfl) (fun l D A => c_X12_add l D A e347) ?_
    refine ww_aload_n 350 X dX13_twicePoint_350 0 rfl rfl ?_
    obtain ⟨v351, e351, h⟩ := bO_some h
    refine ww_getR 351 X dX13_twicePoint_351 fG_X13_126 e351 ?_
    refine ww_aload_n 354 X dX13_twicePoint_354 0 rfl rfl ?_
    obtain ⟨v355, e355, h⟩ := bO_some h
    refine ww_getR 355 X dX13_twicePoint_355 fG_X13_171 e355 ?_
    refine ww_aload_n 358 X dX13_twicePoint_358 0 rfl rfl ?_
    obtain ⟨v359, e359, h⟩ := bO_some h
    refine ww_getR 359 X dX13_twicePoint_359 fG_X13_171 e359 ?_
    refine ww_aload_n 362 X dX13_twicePoint_362 0 rfl rfl ?_
    obtain ⟨v363, e363, h⟩ := bO_some h
    refine ww_getR 363 X dX13_twicePoint_363 fG_X13_171 e363 ?_
    obtain ⟨_, f366, h⟩ := bO_some h
    obtain ⟨M366, e366, h⟩ := bO_some h
    refine ww_callVV0 366 X dX13_twicePoint_366 mY_X12_add mL_X13_740 (rcv_spec f366) ⟨_, _, rfl⟩ (by decide) (As := [.ref v355, .ref v359, .ref v363]) (rest := []) rfl rfl ⟨Nat.le_of_ble_eq_true rfl, Nat.le_of_ble_eq_true rfl⟩ (Nat.le_of_ble_eq_true rfl) (fun l D A => c_X12_add l D A e366) ?_
    refine ww_aload_n 369 X dX13_twicePoint_369 0 rfl rfl ?_
    obtain ⟨v370, e370, h⟩ := bO_some h
    refine ww_getR 370 X dX13_twicePoint_370 fG_X13_126 e370 ?_
    refine ww_aload_n 373 X dX13_twicePoint_373 0 rfl rfl ?_
    obtain ⟨v374, e374, h⟩ := bO_some h
    refine ww_getR 374 X dX13_twicePoint_374 fG_X13_174 e374 ?_
    refine ww_aload_n 377 X dX13_twicePoint_377 0 rfl rfl ?_
    obtain ⟨v378, e378, h⟩ := bO_some h
    refine ww_getR 378 X dX13_twicePoint_378 fG_X13_162 e378 ?_
    refine ww_aload_n 381 X dX13_twicePoint_381 0 rfl rfl ?_
    obtain ⟨v382, e382, h⟩ := bO_some h
    refine ww_getR 382 X dX13_twicePoint_382 fG_X13_174 e382 ?_
    obtain ⟨_, f385, h⟩ := bO_some h
    obtain ⟨M385, e385, h⟩ := bO_some h
    refine ww_callVV0 385 X dX13_twicePoint_385 mY_X12_subtract mL_X13_743 (rcv_spec f385) ⟨_, _, rfl⟩ (by decide) (As := [.ref v374, .ref v378, .ref v382]) (rest := []) rfl rfl ⟨Nat.le_of_ble_eq_true rfl, Nat.le_of_ble_eq_true rfl⟩ (Nat.le_of_ble_eq_true rfl) (fun l D A => c_X12_subtract l D A e385) ?_
    refine ww_aload_n 388 X dX13_twicePoint_388 0 rfl rfl ?_
    obtain ⟨v389, e389, h⟩ := bO_some h
    refine ww_getR 389 X dX13_twicePoint_389 fG_X13_126 e389 ?_
    refine ww_aload_n 392 X dX13_twicePoint_392 0 rfl rfl ?_
    obtain ⟨v393, e393, h⟩ := bO_some h
    refine ww_getR 393 X dX13_twicePoint_393 fG_X13_177 e393 ?_
    refine ww_aload_n 396 X dX13_twicePoint_396 0 rfl rfl ?_
    obtain ⟨v397, e397, h⟩ := bO_some h
    refine ww_getR 397 X dX13_twicePoint_397 fG_X13_174 e397 ?_
    refine ww_aload_n 400 X dX13_twicePoint_400 0 rfl rfl ?_
    obtain ⟨v401, e401, h⟩ := bO_some h
    refine ww_getR 401 X dX13_twicePoint_401 fG_X13_165 e401 ?_
    obtain ⟨_, f404, h⟩ := bO_some h
    obtain ⟨M404, e404, h⟩ := bO_some h
    refine ww_callVV0 404 X dX13_twicePoint_404 mY_X12_product mL_X13_736 (rcv_spec f404) ⟨_, _, rfl⟩ (by decide) (As := [.ref v393, .ref v397, .ref v401]) (rest := []) rfl rfl ⟨Nat.le_of_ble_eq_true rfl, Nat.le_of_ble_eq_true rfl⟩ (Nat.le_of_ble_eq_true rfl) (fun l D A => c_X12_product l D A e404) ?_
    refine ww_aload_n 407 X dX13_twicePoint_407 0 rfl rfl ?_
    obtain ⟨v408, e408, h⟩ := bO_some h
    refine ww_getR 408 X dX13_twicePoint_408 fG_X13_126 e408 ?_
    refine ww_aload_n 411 X dX13_twicePoint_411 0 rfl rfl ?_
    obtain ⟨v412, e412, h⟩ := bO_some h
    refine ww_getR 412 X dX13_twicePoint_412 fG_X13_165 e412 ?_
    refine ww_aload_n 415 X dX13_twicePoint_415 0 rfl rfl ?_
    obtain ⟨v416, e416, h⟩ := bO_some h
    refine ww_getR 416 X dX13_twicePoint_416 fG_X13_171 e416 ?_
    refine ww_aload_n 419 X dX13_twicePoint_419 0 rfl rfl ?_
    obtain ⟨v420, e420, h⟩ := bO_some h
    refine ww_getR 420 X dX13_twicePoint_420 fG_X13_165 e420 ?_
    obtain ⟨_, f423, h⟩ := bO_some h
    obtain ⟨M423, e423, h⟩ := bO_some h
    refine ww_callVV0 423 X dX13_twicePoint_423 mY_X12_subtract mL_X13_743 (rcv_spec f423) ⟨_, _, rfl⟩ (by decide) (As := [.ref v412, .ref v416, .ref v420]) (rest := []) rfl rfl ⟨Nat.le_of_ble_eq_true rfl, Nat.le_of_ble_eq_true rfl⟩ (Nat.le_of_ble_eq_true rfl) (fun l D A => c_X12_subtract l D A e423) ?_
    refine ww_aload_n 426 X dX13_twicePoint_426 0 rfl rfl ?_
    refine ww_aload_n 427 X dX13_twicePoint_427 0 rfl rfl ?_
    obtain ⟨v428, e428, h⟩ := bO_some h
    refine ww_getR 428 X dX13_twicePoint_428 fG_X13_126 e428 ?_
    refine ww_aload_n 431 X dX13_twicePoint_431 0 rfl rfl ?_
    obtain ⟨v432, e432, h⟩ := bO_some h
    refine ww_getR 432 X dX13_twicePoint_432 fG_X13_168 e432 ?_
    obtain ⟨_, f435, h⟩ := bO_some h
    obtain ⟨v435, M435, e435, h⟩ := bP_some h
    refine ww_callVI0 435 X dX13_twicePoint_435 mY_X12_isZero mL_X13_749 (rcv_spec f435) ⟨_, _, rfl⟩ (by decide) (As := [.ref v432]) (rest := [.ref l0]) rfl rfl ⟨Nat.le_of_ble_eq_true rfl, Nat.le_of_ble_eq_true rfl⟩ (Nat.le_of_ble_eq_true rfl) (fun l D A => c_X12_isZero l D A e435) ?_
    obtain ⟨M438, e438, h⟩ := bO_some h
    refine ww_putZ 438 X dX13_twicePoint_438 (fP_X13_746 _) e438 ?_
    exact ww_vretE 441 X hQ dX13_twicePoint_441 h
  · replace h := (if_neg q).symm.trans h
    exact ww_vretE 7 X hQ dX13_twicePoint_7 h
theorem c_X13_twicePoint {G : mG} {F sz : Nat} {M0 : mM} (l : Launch) (D : mD) (A : Nat → Prop) {l0 : Nat} {M : mM} (h : P_X13_twicePoint G F l0 M = some M0) : mMetV l D G A yX13_twicePoint cX13_twicePoint 1 none 2 59 0 0 [.ref l0] M sz M0 sz := mMetV_of l D G A (by decide) (Nat.le_of_ble_eq_true rfl) (fun x X hQ => wP_X13_twicePoint X hQ h)
/-! SealedTokensModel.addPoint()V -/
theorem dX13_addPoint_0 : decode cX13_addPoint 0 = .ok (.aload_n 0, 1) := by decide +kernel
theorem dX13_addPoint_1 : decode cX13_addPoint 1 = .ok (.getfield 746, 3) := by decide +kernel
theorem dX13_addPoint_4 : decode cX13_addPoint 4 = .ok (.ifCond .eq 62, 3) := by decide +kernel
theorem dX13_addPoint_7 : decode cX13_addPoint 7 = .ok (.iconst 0, 1) := by decide +kernel
theorem dX13_addPoint_8 : decode cX13_addPoint 8 = .ok (.istore_n 1, 1) := by decide +kernel
theorem dX13_addPoint_9 : decode cX13_addPoint 9 = .ok (.iload_n 1, 1) := by decide +kernel
theorem dX13_addPoint_10 : decode cX13_addPoint 10 = .ok (.bipush 8, 2) := by decide +kernel
theorem dX13_addPoint_12 : decode cX13_addPoint 12 = .ok (.if_icmp .ge 48, 3) := by decide +kernel
theorem dX13_addPoint_15 : decode cX13_addPoint 15 = .ok (.aload_n 0, 1) := by decide +kernel
theorem dX13_addPoint_16 : decode cX13_addPoint 16 = .ok (.getfield 162, 3) := by decide +kernel
theorem dX13_addPoint_19 : decode cX13_addPoint 19 = .ok (.iload_n 1, 1) := by decide +kernel
theorem dX13_addPoint_20 : decode cX13_addPoint 20 = .ok (.aload_n 0, 1) := by decide +kernel
theorem dX13_addPoint_21 : decode cX13_addPoint 21 = .ok (.getfield 156, 3) := by decide +kernel
theorem dX13_addPoint_24 : decode cX13_addPoint 24 = .ok (.iload_n 1, 1) := by decide +kernel
theorem dX13_addPoint_25 : decode cX13_addPoint 25 = .ok (.iaload, 1) := by decide +kernel
theorem dX13_addPoint_26 : decode cX13_addPoint 26 = .ok (.iastore, 1) := by decide +kernel
theorem dX13_addPoint_27 : decode cX13_addPoint 27 = .ok (.aload_n 0, 1) := by decide +kernel
theorem dX13_addPoint_28 : decode cX13_addPoint 28 = .ok (.getfield 165, 3) := by decide +kernel
theorem dX13_addPoint_31 : decode cX13_addPoint 31 = .ok (.iload_n 1, 1) := by decide +kernel
theorem dX13_addPoint_32 : decode cX13_addPoint 32 = .ok (.aload_n 0, 1) := by decide +kernel
theorem dX13_addPoint_33 : decode cX13_addPoint 33 = .ok (.getfield 159, 3) := by decide +kernel
theorem dX13_addPoint_36 : decode cX13_addPoint 36 = .ok (.iload_n 1, 1) := by decide +kernel
theorem dX13_addPoint_37 : decode cX13_addPoint 37 = .ok (.iaload, 1) := by decide +kernel
theorem dX13_addPoint_38 : decode cX13_addPoint 38 = .ok (.iastore, 1) := by decide +kernel
theorem dX13_addPoint_39 : decode cX13_addPoint 39 = .ok (.aload_n 0, 1) := by decide +kernel
theorem dX13_addPoint_40 : decode cX13_addPoint 40 = .ok (.getfield 168, 3) := by decide +kernel
theorem dX13_addPoint_43 : decode cX13_addPoint 43 = .ok (.iload_n 1, 1) := by decide +kernel
theorem dX13_addPoint_44 : decode cX13_addPoint 44 = .ok (.aload_n 0, 1) := by decide +kernel
theorem dX13_addPoint_45 : decode cX13_addPoint 45 = .ok (.getfield 126, 3) := by decide +kernel
theorem dX13_addPoint_48 : decode cX13_addPoint 48 = .ok (.getfield 753, 3) := by decide +kernel
theorem dX13_addPoint_51 : decode cX13_addPoint 51 = .ok (.iload_n 1, 1) := by decide +kernel
theorem dX13_addPoint_52 : decode cX13_addPoint 52 = .ok (.iaload, 1) := by decide +kernel
theorem dX13_addPoint_53 : decode cX13_addPoint 53 = .ok (.iastore, 1) := by decide +kernel
theorem dX13_addPoint_54 : decode cX13_addPoint 54 = .ok (.iinc 1 1, 3) := by decide +kernel
theorem dX13_addPoint_57 : decode cX13_addPoint 57 = .ok (.goto (-48), 3) := by decide +kernel
theorem dX13_addPoint_60 : decode cX13_addPoint 60 = .ok (.aload_n 0, 1) := by decide +kernel
theorem dX13_addPoint_61 : decode cX13_addPoint 61 = .ok (.iconst 0, 1) := by decide +kernel
theorem dX13_addPoint_62 : decode cX13_addPoint 62 = .ok (.putfield 746, 3) := by decide +kernel
theorem dX13_addPoint_65 : decode cX13_addPoint 65 = .ok (.return_, 1) := by decide +kernel
theorem dX13_addPoint_66 : decode cX13_addPoint 66 = .ok (.aload_n 0, 1) := by decide +kernel
theorem dX13_addPoint_67 : decode cX13_addPoint 67 = .ok (.getfield 126, 3) := by decide +kernel
theorem dX13_addPoint_70 : decode cX13_addPoint 70 = .ok (.aload_n 0, 1) := by decide +kernel
theorem dX13_addPoint_71 : decode cX13_addPoint 71 = .ok (.getfield 168, 3) := by decide +kernel
theorem dX13_addPoint_74 : decode cX13_addPoint 74 = .ok (.aload_n 0, 1) := by decide +kernel
theorem dX13_addPoint_75 : decode cX13_addPoint 75 = .ok (.getfield 168, 3) := by decide +kernel
theorem dX13_addPoint_78 : decode cX13_addPoint 78 = .ok (.aload_n 0, 1) := by decide +kernel
theorem dX13_addPoint_79 : decode cX13_addPoint 79 = .ok (.getfield 171, 3) := by decide +kernel
theorem dX13_addPoint_82 : decode cX13_addPoint 82 = .ok (.invokevirtual 736, 3) := by decide +kernel
theorem dX13_addPoint_85 : decode cX13_addPoint 85 = .ok (.aload_n 0, 1) := by decide +kernel
theorem dX13_addPoint_86 : decode cX13_addPoint 86 = .ok (.getfield 126, 3) := by decide +kernel
theorem dX13_addPoint_89 : decode cX13_addPoint 89 = .ok (.aload_n 0, 1) := by decide +kernel
theorem dX13_addPoint_90 : decode cX13_addPoint 90 = .ok (.getfield 156, 3) := by decide +kernel
theorem dX13_addPoint_93 : decode cX13_addPoint 93 = .ok (.aload_n 0, 1) := by decide +kernel
theorem dX13_addPoint_94 : decode cX13_addPoint 94 = .ok (.getfield 171, 3) := by decide +kernel
theorem dX13_addPoint_97 : decode cX13_addPoint 97 = .ok (.aload_n 0, 1) := by decide +kernel
theorem dX13_addPoint_98 : decode cX13_addPoint 98 = .ok (.getfield 174, 3) := by decide +kernel
theorem dX13_addPoint_101 : decode cX13_addPoint 101 = .ok (.invokevirtual 736, 3) := by decide +kernel
theorem dX13_addPoint_104 : decode cX13_addPoint 104 = .ok (.aload_n 0, 1) := by decide +kernel
theorem dX13_addPoint_105 : decode cX13_addPoint 105 = .ok (.getfield 126, 3) := by decide +kernel
theorem dX13_addPoint_108 : decode cX13_addPoint 108 = .ok (.aload_n 0, 1) := by decide +kernel
theorem dX13_addPoint_109 : decode cX13_addPoint 109 = .ok (.getfield 171, 3) := by decide +kernel
theorem dX13_addPoint_112 : decode cX13_addPoint 112 = .ok (.aload_n 0, 1) := by decide +kernel
theorem dX13_addPoint_113 : decode cX13_addPoint 113 = .ok (.getfield 168, 3) := by decide +kernel
theorem dX13_addPoint_116 : decode cX13_addPoint 116 = .ok (.aload_n 0, 1) := by decide +kernel
theorem dX13_addPoint_117 : decode cX13_addPoint 117 = .ok (.getfield 171, 3) := by decide +kernel
theorem dX13_addPoint_120 : decode cX13_addPoint 120 = .ok (.invokevirtual 736, 3) := by decide +kernel
theorem dX13_addPoint_123 : decode cX13_addPoint 123 = .ok (.aload_n 0, 1) := by decide +kernel
theorem dX13_addPoint_124 : decode cX13_addPoint 124 = .ok (.getfield 126, 3) := by decide +kernel
theorem dX13_addPoint_127 : decode cX13_addPoint 127 = .ok (.aload_n 0, 1) := by decide +kernel
theorem dX13_addPoint_128 : decode cX13_addPoint 128 = .ok (.getfield 159, 3) := by decide +kernel
theorem dX13_addPoint_131 : decode cX13_addPoint 131 = .ok (.aload_n 0, 1) := by decide +kernel
theorem dX13_addPoint_132 : decode cX13_addPoint 132 = .ok (.getfield 171, 3) := by decide +kernel
theorem dX13_addPoint_135 : decode cX13_addPoint 135 = .ok (.aload_n 0, 1) := by decide +kernel
theorem dX13_addPoint_136 : decode cX13_addPoint 136 = .ok (.getfield 177, 3) := by decide +kernel
theorem dX13_addPoint_139 : decode cX13_addPoint 139 = .ok (.invokevirtual 736, 3) := by decide +kernel
theorem dX13_addPoint_142 : decode cX13_addPoint 142 = .ok (.aload_n 0, 1) := by decide +kernel
theorem dX13_addPoint_143 : decode cX13_addPoint 143 = .ok (.getfield 126, 3) := by decide +kernel
theorem dX13_addPoint_146 : decode cX13_addPoint 146 = .ok (.aload_n 0, 1) := by decide +kernel
theorem dX13_addPoint_147 : decode cX13_addPoint 147 = .ok (.getfield 174, 3) := by decide +kernel
theorem dX13_addPoint_150 : decode cX13_addPoint 150 = .ok (.aload_n 0, 1) := by decide +kernel
theorem dX13_addPoint_151 : decode cX13_addPoint 151 = .ok (.getfield 162, 3) := by decide +kernel
theorem dX13_addPoint_154 : decode cX13_addPoint 154 = .ok (.aload_n 0, 1) := by decide +kernel
theorem dX13_addPoint_155 : decode cX13_addPoint 155 = .ok (.getfield 174, 3) := by decide +kernel
theorem dX13_addPoint_158 : decode cX13_addPoint 158 = .ok (.invokevirtual 743, 3) := by decide +kernel
theorem dX13_addPoint_161 : decode cX13_addPoint 161 = .ok (.aload_n 0, 1) := by decide +kernel
theorem dX13_addPoint_162 : decode cX13_addPoint 162 = .ok (.getfield 126, 3) := by decide +kernel
theorem dX13_addPoint_165 : decode cX13_addPoint 165 = .ok (.aload_n 0, 1) := by decide +kernel
theorem dX13_addPoint_166 : decode cX13_addPoint 166 = .ok (.getfield 177, 3) := by decide +kernel
theorem dX13_addPoint_169 : decode cX13_addPoint 169 = .ok (.aload_n 0, 1) := by decide +kernel
theorem dX13_addPoint_170 : decode cX13_addPoint 170 = .ok (.getfield 165, 3) := by decide +kernel
theorem dX13_addPoint_173 : decode cX13_addPoint 173 = .ok (.aload_n 0, 1) := by decide +kernel
theorem dX13_addPoint_174 : decode cX13_addPoint 174 = .ok (.getfield 177, 3) := by decide +kernel
theorem dX13_addPoint_177 : decode cX13_addPoint 177 = .ok (.invokevirtual 743, 3) := by decide +kernel
theorem dX13_addPoint_180 : decode cX13_addPoint 180 = .ok (.aload_n 0, 1) := by decide +kernel
theorem dX13_addPoint_181 : decode cX13_addPoint 181 = .ok (.getfield 126, 3) := by decide +kernel
theorem dX13_addPoint_184 : decode cX13_addPoint 184 = .ok (.aload_n 0, 1) := by decide +kernel
theorem dX13_addPoint_185 : decode cX13_addPoint 185 = .ok (.getfield 174, 3) := by decide +kernel
theorem dX13_addPoint_188 : decode cX13_addPoint 188 = .ok (.invokevirtual 749, 3) := by decide +kernel
theorem dX13_addPoint_191 : decode cX13_addPoint 191 = .ok (.ifCond .eq 30, 3) := by decide +kernel
theorem dX13_addPoint_194 : decode cX13_addPoint 194 = .ok (.aload_n 0, 1) := by decide +kernel
theorem dX13_addPoint_195 : decode cX13_addPoint 195 = .ok (.getfield 126, 3) := by decide +kernel
theorem dX13_addPoint_198 : decode cX13_addPoint 198 = .ok (.aload_n 0, 1) := by decide +kernel
theorem dX13_addPoint_199 : decode cX13_addPoint 199 = .ok (.getfield 177, 3) := by decide +kernel
theorem dX13_addPoint_202 : decode cX13_addPoint 202 = .ok (.invokevirtual 749, 3) := by decide +kernel
theorem dX13_addPoint_205 : decode cX13_addPoint 205 = .ok (.ifCond .eq 10, 3) := by decide +kernel
theorem dX13_addPoint_208 : decode cX13_addPoint 208 = .ok (.aload_n 0, 1) := by decide +kernel
theorem dX13_addPoint_209 : decode cX13_addPoint 209 = .ok (.invokevirtual 756, 3) := by decide +kernel
theorem dX13_addPoint_212 : decode cX13_addPoint 212 = .ok (.goto 8, 3) := by decide +kernel
theorem dX13_addPoint_215 : decode cX13_addPoint 215 = .ok (.aload_n 0, 1) := by decide +kernel
theorem dX13_addPoint_216 : decode cX13_addPoint 216 = .ok (.iconst 1, 1) := by decide +kernel
theorem dX13_addPoint_217 : decode cX13_addPoint 217 = .ok (.putfield 746, 3) := by decide +kernel
theorem dX13_addPoint_220 : decode cX13_addPoint 220 = .ok (.return_, 1) := by decide +kernel
theorem dX13_addPoint_221 : decode cX13_addPoint 221 = .ok (.aload_n 0, 1) := by decide +kernel
theorem dX13_addPoint_222 : decode cX13_addPoint 222 = .ok (.getfield 126, 3) := by decide +kernel
theorem dX13_addPoint_225 : decode cX13_addPoint 225 = .ok (.aload_n 0, 1) := by decide +kernel
theorem dX13_addPoint_226 : decode cX13_addPoint 226 = .ok (.getfield 168, 3) := by decide +kernel
theorem dX13_addPoint_229 : decode cX13_addPoint 229 = .ok (.aload_n 0, 1) := by decide +kernel
theorem dX13_addPoint_230 : decode cX13_addPoint 230 = .ok (.getfield 174, 3) := by decide +kernel
theorem dX13_addPoint_233 : decode cX13_addPoint 233 = .ok (.aload_n 0, 1) := by decide +kernel
theorem dX13_addPoint_234 : decode cX13_addPoint 234 = .ok (.getfield 168, 3) := by decide +kernel
theorem dX13_addPoint_237 : decode cX13_addPoint 237 = .ok (.invokevirtual 736, 3) := by decide +kernel
theorem dX13_addPoint_240 : decode cX13_addPoint 240 = .ok (.aload_n 0, 1) := by decide +kernel
theorem dX13_addPoint_241 : decode cX13_addPoint 241 = .ok (.getfield 126, 3) := by decide +kernel
theorem dX13_addPoint_244 : decode cX13_addPoint 244 = .ok (.aload_n 0, 1) := by decide +kernel
theorem dX13_addPoint_245 : decode cX13_addPoint 245 = .ok (.getfield 174, 3) := by decide +kernel
theorem dX13_addPoint_248 : decode cX13_addPoint 248 = .ok (.aload_n 0, 1) := by decide +kernel
theorem dX13_addPoint_249 : decode cX13_addPoint 249 = .ok (.getfield 174, 3) := by decide +kernel
theorem dX13_addPoint_252 : decode cX13_addPoint 252 = .ok (.aload_n 0, 1) := by decide +kernel
theorem dX13_addPoint_253 : decode cX13_addPoint 253 = .ok (.getfield 180, 3) := by decide +kernel
theorem dX13_addPoint_256 : decode cX13_addPoint 256 = .ok (.invokevirtual 736, 3) := by decide +kernel
theorem dX13_addPoint_259 : decode cX13_addPoint 259 = .ok (.aload_n 0, 1) := by decide +kernel
theorem dX13_addPoint_260 : decode cX13_addPoint 260 = .ok (.getfield 126, 3) := by decide +kernel
theorem dX13_addPoint_263 : decode cX13_addPoint 263 = .ok (.aload_n 0, 1) := by decide +kernel
theorem dX13_addPoint_264 : decode cX13_addPoint 264 = .ok (.getfield 180, 3) := by decide +kernel
theorem dX13_addPoint_267 : decode cX13_addPoint 267 = .ok (.aload_n 0, 1) := by decide +kernel
theorem dX13_addPoint_268 : decode cX13_addPoint 268 = .ok (.getfield 174, 3) := by decide +kernel
theorem dX13_addPoint_271 : decode cX13_addPoint 271 = .ok (.aload_n 0, 1) := by decide +kernel
theorem dX13_addPoint_272 : decode cX13_addPoint 272 = .ok (.getfield 183, 3) := by decide +kernel
theorem dX13_addPoint_275 : decode cX13_addPoint 275 = .ok (.invokevirtual 736, 3) := by decide +kernel
theorem dX13_addPoint_278 : decode cX13_addPoint 278 = .ok (.aload_n 0, 1) := by decide +kernel
theorem dX13_addPoint_279 : decode cX13_addPoint 279 = .ok (.getfield 126, 3) := by decide +kernel
theorem dX13_addPoint_282 : decode cX13_addPoint 282 = .ok (.aload_n 0, 1) := by decide +kernel
theorem dX13_addPoint_283 : decode cX13_addPoint 283 = .ok (.getfield 162, 3) := by decide +kernel
theorem dX13_addPoint_286 : decode cX13_addPoint 286 = .ok (.aload_n 0, 1) := by decide +kernel
theorem dX13_addPoint_287 : decode cX13_addPoint 287 = .ok (.getfield 180, 3) := by decide +kernel
theorem dX13_addPoint_290 : decode cX13_addPoint 290 = .ok (.aload_n 0, 1) := by decide +kernel
theorem dX13_addPoint_291 : decode cX13_addPoint 291 = .ok (.getfield 180, 3) := by decide +kernel
theorem dX13_addPoint_294 : decode cX13_addPoint 294 = .ok (.invokevirtual 736, 3) := by decide +kernel
theorem dX13_addPoint_297 : decode cX13_addPoint 297 = .ok (.aload_n 0, 1) := by decide +kernel
theorem dX13_addPoint_298 : decode cX13_addPoint 298 = .ok (.getfield 126, 3) := by decide +kernel
theorem dX13_addPoint_301 : decode cX13_addPoint 301 = .ok (.aload_n 0, 1) := by decide +kernel
theorem dX13_addPoint_302 : decode cX13_addPoint 302 = .ok (.getfield 177, 3) := by decide +kernel
theorem dX13_addPoint_305 : decode cX13_addPoint 305 = .ok (.aload_n 0, 1) := by decide +kernel
theorem dX13_addPoint_306 : decode cX13_addPoint 306 = .ok (.getfield 177, 3) := by decide +kernel
theorem dX13_addPoint_309 : decode cX13_addPoint 309 = .ok (.aload_n 0, 1) := by decide +kernel
theorem dX13_addPoint_310 : decode cX13_addPoint 310 = .ok (.getfield 162, 3) := by decide +kernel
theorem dX13_addPoint_313 : decode cX13_addPoint 313 = .ok (.invokevirtual 736, 3) := by decide +kernel
theorem dX13_addPoint_316 : decode cX13_addPoint 316 = .ok (.aload_n 0, 1) := by decide +kernel
theorem dX13_addPoint_317 : decode cX13_addPoint 317 = .ok (.getfield 126, 3) := by decide +kernel
theorem dX13_addPoint_320 : decode cX13_addPoint 320 = .ok (.aload_n 0, 1) := by decide +kernel
theorem dX13_addPoint_321 : decode cX13_addPoint 321 = .ok (.getfield 162, 3) := by decide +kernel
theorem dX13_addPoint_324 : decode cX13_addPoint 324 = .ok (.aload_n 0, 1) := by decide +kernel
theorem dX13_addPoint_325 : decode cX13_addPoint 325 = .ok (.getfield 183, 3) := by decide +kernel
theorem dX13_addPoint_328 : decode cX13_addPoint 328 = .ok (.aload_n 0, 1) := by decide +kernel
theorem dX13_addPoint_329 : decode cX13_addPoint 329 = .ok (.getfield 162, 3) := by decide +kernel
theorem dX13_addPoint_332 : decode cX13_addPoint 332 = .ok (.invokevirtual 743, 3) := by decide +kernel
theorem dX13_addPoint_335 : decode cX13_addPoint 335 = .ok (.aload_n 0, 1) := by decide +kernel
theorem dX13_addPoint_336 : decode cX13_addPoint 336 = .ok (.getfield 126, 3) := by decide +kernel
theorem dX13_addPoint_339 : decode cX13_addPoint 339 = .ok (.aload_n 0, 1) := by decide +kernel
theorem dX13_addPoint_340 : decode cX13_addPoint 340 = .ok (.getfield 162, 3) := by decide +kernel
theorem dX13_addPoint_343 : decode cX13_addPoint 343 = .ok (.aload_n 0, 1) := by decide +kernel
theorem dX13_addPoint_344 : decode cX13_addPoint 344 = .ok (.getfield 180, 3) := by decide +kernel
theorem dX13_addPoint_347 : decode cX13_addPoint 347 = .ok (.aload_n 0, 1) := by decide +kernel
theorem dX13_addPoint_348 : decode cX13_addPoint 348 = .ok (.getfield 162, 3) := by decide +kernel
theorem dX13_addPoint_351 : decode cX13_addPoint 351 = .ok (.invokevirtual 743, 3) := by decide +kernel
theorem dX13_addPoint_354 : decode cX13_addPoint 354 = .ok (.aload_n 0, 1) := by decide +kernel
theorem dX13_addPoint_355 : decode cX13_addPoint 355 = .ok (.getfield 126, 3) := by decide +kernel
theorem dX13_addPoint_358 : decode cX13_addPoint 358 = .ok (.aload_n 0, 1) := by decide +kernel
theorem dX13_addPoint_359 : decode cX13_addPoint 359 = .ok (.getfield 162, 3) := by decide +kernel
theorem dX13_addPoint_362 : decode cX13_addPoint 362 = .ok (.aload_n 0, 1) := by decide +kernel
theorem dX13_addPoint_363 : decode cX13_addPoint 363 = .ok (.getfield 180, 3) := by decide +kernel
theorem dX13_addPoint_366 : decode cX13_addPoint 366 = .ok (.aload_n 0, 1) := by decide +kernel
theorem dX13_addPoint_367 : decode cX13_addPoint 367 = .ok (.getfield 162, 3) := by decide +kernel
theorem dX13_addPoint_370 : decode cX13_addPoint 370 = .ok (.invokevirtual 743, 3) := by decide +kernel
theorem dX13_addPoint_373 : decode cX13_addPoint 373 = .ok (.aload_n 0, 1) := by decide +kernel
theorem dX13_addPoint_374 : decode cX13_addPoint 374 = .ok (.getfield 126, 3) := by decide +kernel
theorem dX13_addPoint_377 : decode cX13_addPoint 377 = .ok (.aload_n 0, 1) := by decide +kernel
theorem dX13_addPoint_378 : decode cX13_addPoint 378 = .ok (.getfield 165, 3) := by decide +kernel
theorem dX13_addPoint_381 : decode cX13_addPoint 381 = .ok (.aload_n 0, 1) := by decide +kernel
theorem dX13_addPoint_382 : decode cX13_addPoint 382 = .ok (.getfield 183, 3) := by decide +kernel
theorem dX13_addPoint_385 : decode cX13_addPoint 385 = .ok (.aload_n 0, 1) := by decide +kernel
theorem dX13_addPoint_386 : decode cX13_addPoint 386 = .ok (.getfield 183, 3) := by decide +kernel
theorem dX13_addPoint_389 : decode cX13_addPoint 389 = .ok (.invokevirtual 736, 3) := by decide +kernel
theorem dX13_addPoint_392 : decode cX13_addPoint 392 = .ok (.aload_n 0, 1) := by decide +kernel
theorem dX13_addPoint_393 : decode cX13_addPoint 393 = .ok (.getfield 126, 3) := by decide +kernel
theorem dX13_addPoint_396 : decode cX13_addPoint 396 = .ok (.aload_n 0, 1) := by decide +kernel
theorem dX13_addPoint_397 : decode cX13_addPoint 397 = .ok (.getfield 180, 3) := by decide +kernel
theorem dX13_addPoint_400 : decode cX13_addPoint 400 = .ok (.aload_n 0, 1) := by decide +kernel
theorem dX13_addPoint_401 : decode cX13_addPoint 401 = .ok (.getfield 162, 3) := by decide +kernel
theorem dX13_addPoint_404 : decode cX13_addPoint 404 = .ok (.aload_n 0, 1) := by decide +kernel
theorem dX13_addPoint_405 : decode cX13_addPoint 405 = .ok (.getfield 180, 3) := by decide +kernel
theorem dX13_addPoint_408 : decode cX13_addPoint 408 = .ok (.invokevirtual 743, 3) := by decide +kernel
theorem dX13_addPoint_411 : decode cX13_addPoint 411 = .ok (.aload_n 0, 1) := by decide +kernel
theorem dX13_addPoint_412 : decode cX13_addPoint 412 = .ok (.getfield 126, 3) := by decide +kernel
theorem dX13_addPoint_415 : decode cX13_addPoint 415 = .ok (.aload_n 0, 1) := by decide +kernel
theorem dX13_addPoint_416 : decode cX13_addPoint 416 = .ok (.getfield 177, 3) := by decide +kernel
theorem dX13_addPoint_419 : decode cX13_addPoint 419 = .ok (.aload_n 0, 1) := by decide +kernel
theorem dX13_addPoint_420 : decode cX13_addPoint 420 = .ok (.getfield 180, 3) := by decide +kernel
theorem dX13_addPoint_423 : decode cX13_addPoint 423 = .ok (.aload_n 0, 1) := by decide +kernel
theorem dX13_addPoint_424 : decode cX13_addPoint 424 = .ok (.getfield 165, 3) := by decide +kernel
theorem dX13_addPoint_427 : decode cX13_addPoint 427 = .ok (.invokevirtual 736, 3) := by decide +kernel
theorem dX13_addPoint_430 : decode cX13_addPoint 430 = .ok (.aload_n 0, 1) := by decide +kernel
theorem dX13_addPoint_431 : decode cX13_addPoint 431 = .ok (.getfield 126, 3) := by decide +kernel
theorem dX13_addPoint_434 : decode cX13_addPoint 434 = .ok (.aload_n 0, 1) := by decide +kernel
theorem dX13_addPoint_435 : decode cX13_addPoint 435 = .ok (.getfield 165, 3) := by decide +kernel
theorem dX13_addPoint_438 : decode cX13_addPoint 438 = .ok (.aload_n 0, 1) := by decide +kernel
theorem dX13_addPoint_439 : decode cX13_addPoint 439 = .ok (.getfield 183, 3) := by decide +kernel
theorem dX13_addPoint_442 : decode cX13_addPoint 442 = .ok (.aload_n 0, 1) := by decide +kernel
theorem dX13_addPoint_443 : decode cX13_addPoint 443 = .ok (.getfield 165, 3) := by decide +kernel
theorem dX13_addPoint_446 : decode cX13_addPoint 446 = .ok (.invokevirtual 743, 3) := by decide +kernel
theorem dX13_addPoint_449 : decode cX13_addPoint 449 = .ok (.return_, 1) := by decide +kernel
abbrev rmX13_addPoint : Room := { frames := 3, cells := 0, slots := 0, locals := 79 }
set_option maxHeartbeats 4000000 in
set_option maxRecDepth 100000 in
theorem wB_X13_addPoint_9 {G : mG} {F : Nat} {x : mXT} {sz : Nat} {M0 : mM} (X : mCX G RX13 cX13_addPoint 2 none "addPoint" rmX13_addPoint x) (hQ : mQV x M0 (sz, 0, 0)) : ∀ (n : Nat) (l0 : Nat) (l1 : Int32) (M : mM), B_X13_addPoint_9 G F n l0 l1 M = some M0 → WW x (sz, 0, 0) M 9 [(0, .ref l0), (1, .int l1)] [] := by
  intro n
  induction n with
  | zero =>
    intro l0 l1 M h
    exact nomatch (show (none : Option mM) = some M0 from h)
  | succ n ih =>
    intro l0 l1 M h
    rw [B_X13_addPoint_9] at h
    refine ww_iload_n 9 X dX13_addPoint_9 1 rfl rfl ?_
    refine ww_bipush 10 X (v := (8 : Int32)) dX13_addPoint_10 (by decide) ?_
    refine ww_icmp_ge 12 60 X dX13_addPoint_12 (by decide) (fun q => ?_) (fun q => ?_)
    · replace h := (if_pos q).symm.trans h
      refine ww_aload_n 60 X dX13_addPoint_60 0 rfl rfl ?_
      refine ww_iconst 61 X (v := (0 : Int32)) dX13_addPoint_61 (by decide) ?_
      obtain ⟨M62, e62, h⟩ := bO_some h
      refine ww_putZ 62 X dX13_addPoint_62 (fP_X13_746 _) e62 ?_
      exact ww_vretE 65 X hQ dX13_addPoint_65 h
    · replace h := (if_neg q).symm.trans h
      refine ww_aload_n 15 X dX13_addPoint_15 0 rfl rfl ?_
      obtain ⟨v16, e16, h⟩ := bO_some h
      refine ww_getR 16 X dX13_addPoint_16 fG_X13_162 e16 ?_
      refine ww_iload_n 19 X dX13_addPoint_19 1 rfl rfl ?_
      refine ww_aload_n 20 X dX13_addPoint_20 0 rfl rfl ?_
      obtain ⟨v21, e21, h⟩ := bO_some h
      refine ww_getR 21 X dX13_addPoint_21 fG_X13_156 e21 ?_
      refine ww_iload_n 24 X dX13_addPoint_24 1 rfl rfl ?_
      obtain ⟨v25, e25, h⟩ := bO_some h
      refine ww_iald 25 X dX13_addPoint_25 e25 ?_
      obtain ⟨M26, e26, h⟩ := bO_some h
      refine ww_iast 26 X dX13_addPoint_26 e26 ?_
      refine ww_aload_n 27 X dX13_addPoint_27 0 rfl rfl ?_
      obtain ⟨v28, e28, h⟩ := bO_some h
      refine ww_getR 28 X dX13_addPoint_28 fG_X13_165 e28 ?_
      refine ww_iload_n 31 X dX13_addPoint_31 1 rfl rfl ?_
      refine ww_aload_n 32 X dX13_addPoint_32 0 rfl rfl ?_
      obtain ⟨v33, e33, h⟩ := bO_some h
      refine ww_getR 33 X dX13_addPoint_33 fG_X13_159 e33 ?_
      refine ww_iload_n 36 X dX13_addPoint_36 1 rfl rfl ?_
      obtain ⟨v37, e37, h⟩ := bO_some h
      refine ww_iald 37 X dX13_addPoint_37 e37 ?_
      obtain ⟨M38, e38, h⟩ := bO_some h
      refine ww_iast 38 X dX13_addPoint_38 e38 ?_
      refine ww_aload_n 39 X dX13_addPoint_39 0 rfl rfl ?_
      obtain ⟨v40, e40, h⟩ := bO_some h
      refine ww_getR 40 X dX13_addPoint_40 fG_X13_168 e40 ?_
      refine ww_iload_n 43 X dX13_addPoint_43 1 rfl rfl ?_
      refine ww_aload_n 44 X dX13_addPoint_44 0 rfl rfl ?_
      obtain ⟨v45, e45, h⟩ := bO_some h
      refine ww_getR 45 X dX13_addPoint_45 fG_X13_126 e45 ?_
      obtain ⟨v48, e48, h⟩ := bO_some h
      refine ww_getR 48 X dX13_addPoint_48 fG_X13_753 e48 ?_
      refine ww_iload_n 51 X dX13_addPoint_51 1 rfl rfl ?_
      obtain ⟨v52, e52, h⟩ := bO_some h
      refine ww_iald 52 X dX13_addPoint_52 e52 ?_
      obtain ⟨M53, e53, h⟩ := bO_some h
      refine ww_iast 53 X dX13_addPoint_53 e53 ?_
      refine ww_iinc 54 X dX13_addPoint_54 (lv' := [(0, .ref l0), (1, .int (l1 + 1))]) 1 rfl rfl (by decide) [1, 0] rfl ?_
      refine ww_goto 57 9 X dX13_addPoint_57 (by decide) ?_
      exact (ih _ _ _ h)
set_option maxHeartbeats 4000000 in
set_option maxRecDepth 100000 in
theorem wP_X13_addPoint {G : mG} {F : Nat} {x : mXT} {sz : Nat} {M0 : mM} (X : mCX G RX13 cX13_addPoint 2 none "addPoint" rmX13_addPoint x) (hQ : mQV x M0 (sz, 0, 0)) {l0 : Nat} {M : mM} (h : P_X13_addPoint G F l0 M = some M0) : WW x (sz, 0, 0) M 0 [(0, .ref l0)] [] := by
  unfold P_X13_addPoint at h
  refine ww_aload_n 0 X dX13_addPoint_0 0 rfl rfl ?_
  obtain ⟨v1, e1, h⟩ := bO_some h
  refine ww_getI 1 X dX13_addPoint_1 fG_X13_746 e1 ?_
  refine ww_if_eq 4 66 X dX13_addPoint_4 (by decide) (fun q => ?_) (fun q => ?_)
  · replace h := (if_pos q).symm.trans h
    refine ww_aload_n 66 X dX13_addPoint_66 0 rfl rfl ?_
    obtain ⟨v67, e67, h⟩ := bO_some h
    refine ww_getR 67 X dX13_addPoint_67 fG_X13_126 e67 ?_
    refine ww_aload_n 70 X dX13_addPoint_70 0 rfl rfl ?_
    obtain ⟨v71, e71, h⟩ := bO_some h
    refine ww_getR 71 X dX13_addPoint_71 fG_X13_168 e71 ?_
    refine ww_aload_n 74 X dX13_addPoint_74 0 rfl rfl ?_
    obtain ⟨v75, e75, h⟩ := bO_some h
    refine ww_getR 75 X dX13_addPoint_75 fG_X13_168 e75 ?_
    refine ww_aload_n 78 X dX13_addPoint_78 0 rfl rfl ?_
    obtain ⟨v79, e79, h⟩ := bO_some h
    refine ww_getR 79 X dX13_addPoint_79 fG_X13_171 e79 ?_
    obtain ⟨_, f82, h⟩ := bO_some h
    obtain ⟨M82, e82, h⟩ := bO_some h
    refine ww_callVV0 82 X dX13_addPoint_82 mY_X12_product mL_X13_736 (rcv_spec f82) ⟨_, _, rfl⟩ (by decide) (As := [.ref v71, .ref v75, .ref v79]) (rest := []) rfl rfl ⟨Nat.le_of_ble_eq_true rfl, Nat.le_of_ble_eq_true rfl⟩ (Nat.le_of_ble_eq_true rfl) (fun l D A => c_X12_product l D A e82) ?_
    refine ww_aload_n 85 X dX13_addPoint_85 0 rfl rfl ?_
    obtain ⟨v86, e86, h⟩ := bO_some h
    refine ww_getR 86 X dX13_addPoint_86 fG_X13_126 e86 ?_
    refine ww_aload_n 89 X dX13_addPoint_89 0 rfl rfl ?_
    obtain ⟨v90, e90, h⟩ := bO_some h
    refine ww_getR 90 X dX13_addPoint_90 fG_X13_156 e90 ?_
    refine ww_aload_n 93 X dX13_addPoint_93 0 rfl rfl ?_
    obtain ⟨v94, e94, h⟩ := bO_some h
    refine ww_getR 94 X dX13_addPoint_94 fG_X13_171 e94 ?_
    refine ww_aload_n 97 X dX13_addPoint_97 0 rfl rfl ?_
    obtain ⟨v98, e98, h⟩ := bO_some h
    refine ww_getR 98 X dX13_addPoint_98 fG_X13_174 e98 ?_
    obtain ⟨_, f101, h⟩ := bO_some h
    obtain ⟨M101, e101, h⟩ := bO_some h
    refine ww_callVV0 101 X dX13_addPoint_101 mY_X12_product mL_X13_736 (rcv_spec f101) ⟨_, _, rfl⟩ (by decide) (As := [.ref v90, .ref v94, .ref v98]) (rest := []) rfl rfl ⟨Nat.le_of_ble_eq_true rfl, Nat.le_of_ble_eq_true rfl⟩ (Nat.le_of_ble_eq_true rfl) (fun l D A => c_X12_product l D A e101) ?_
    refine ww_aload_n 104 X dX13_addPoint_104 0 rfl rfl ?_
    obtain ⟨v105, e105, h⟩ := bO_some h
    refine ww_getR 105 X dX13_addPoint_105 fG_X13_126 e105 ?_
    refine ww_aload_n 108 X dX13_addPoint_108 0 rfl rfl ?_
    obtain ⟨v109, e109, h⟩ := bO_some h
    refine ww_getR 109 X dX13_addPoint_109 fG_X13_171 e109 ?_
    refine ww_aload_n 112 X dX13_addPoint_112 0 rfl rfl ?_
    obtain ⟨v113, e113, h⟩ := bO_some h
    refine ww_getR 113 X dX13_addPoint_113 fG_X13_168 e113 ?_
    refine ww_aload_n 116 X dX13_addPoint_116 0 rfl rfl ?_
    obtain ⟨v117, e117, h⟩ := bO_some h
    refine ww_getR 117 X dX13_addPoint_117 fG_X13_171 e117 ?_
    obtain ⟨_, f120, h⟩ := bO_some h
    obtain ⟨M120, e120, h⟩ := bO_some h
    refine ww_callVV0 120 X dX13_addPoint_120 mY_X12_product mL_X13_736 (rcv_spec f120) ⟨_, _, rfl⟩ (by decide) (As := [.ref v109, .ref v113, .ref v117]) (rest := []) rfl rfl ⟨Nat.le_of_ble_eq_true rfl, Nat.le_of_ble_eq_true rfl⟩ (Nat.le_of_ble_eq_true rfl) (fun l D A => c_X12_product l D A e120) ?_
    refine ww_aload_n 123 X dX13_addPoint_123 0 rfl rfl ?_
    obtain ⟨v124, e124, h⟩ := bO_some h
    refine ww_getR 124 X dX13_addPoint_124 fG_X13_126 e124 ?_
    refine ww_aload_n 127 X dX13_addPoint_127 0 rfl rfl ?_
    obtain ⟨v128, e128, h⟩ := bO_some h
    refine ww_getR 128 X dX13_addPoint_128 fG_X13_159 e128 ?_
    refine ww_aload_n 131 X dX13_addPoint_131 0 rfl rfl ?_
    obtain ⟨v132, e132, h⟩ := bO_some h
    refine ww_getR 132 X dX13_addPoint_132 fG_X13_171 e132 ?_
    refine ww_aload_n 135 X dX13_addPoint_135 0 rfl rfl ?_
    obtain ⟨v136, e136, h⟩ := bO_some h
    refine ww_getR 136 X dX13_addPoint_136 fG_X13_177 e136 ?_
    obtain ⟨_, f139, h⟩ := bO_some h
    obtain ⟨M139, e139, h⟩ := bO_some h
    refine ww_callVV0 139 X dX13_addPoint_139 mY_X12_product mL_X13_736 (rcv_spec f139) ⟨_, _, rfl⟩ (by decide) (As := [.ref v128, .ref v132, .ref v136]) (rest := []) rfl rfl ⟨Nat.le_of_ble_eq_true rfl, Nat.le_of_ble_eq_true rfl⟩ (Nat.le_of_ble_eq_true rfl) (fun l D A => c_X12_product l D A e139) ?_
    refine ww_aload_n 142 X dX13_addPoint_142 0 rfl rfl ?_
    obtain ⟨v143, e143, h⟩ := bO_some h
    refine ww_getR 143 X dX13_addPoint_143 fG_X13_126 e143 ?_
    refine ww_aload_n 146 X dX13_addPoint_146 0 rfl rfl ?_
    obtain ⟨v147, e147, h⟩ := bO_some h
    refine ww_getR 147 X dX13_addPoint_147 fG_X13_174 e147 ?_
    refine ww_aload_n 150 X dX13_addPoint_150 0 rfl rfl ?_
    obtain ⟨v151, e151, h⟩ := bO_some h
    refine ww_getR 151 X dX13_addPoint_151 fG_X13_162 e151 ?_
    refine ww_aload_n 154 X dX13_addPoint_154 0 rfl rfl ?_
    obtain ⟨v155, e155, h⟩ := bO_some h
    refine ww_getR 155 X dX13_addPoint_155 fG_X13_174 e155 ?_
    obtain ⟨_, f158, h⟩ := bO_some h
    obtain ⟨M158, e158, h⟩ := bO_some h
    refine ww_callVV0 158 X dX13_addPoint_158 mY_X12_subtract mL_X13_743 (rcv_spec f158) ⟨_, _, rfl⟩ (by decide) (As := [.ref v147, .ref v151, .ref v155]) (rest := []) rfl rfl ⟨Nat.le_of_ble_eq_true rfl, Nat.le_of_ble_eq_true rfl⟩ (Nat.le_of_ble_eq_true rfl) (fun l D A => c_X12_subtract l D A e158) ?_
    refine ww_aload_n 161 X dX13_addPoint_161 0 rfl rfl ?_
    obtain ⟨v162, e162, h⟩ := bO_some h
    refine ww_getR 162 X dX13_addPoint_162 fG_X13_126 e162 ?_
    refine ww_aload_n 165 X dX13_addPoint_165 0 rfl rfl ?_
    obtain ⟨v166, e166, h⟩ := bO_some h
    refine ww_getR 166 X dX13_addPoint_166 fG_X13_177 e166 ?_
    refine ww_aload_n 169 X dX13_addPoint_169 0 rfl rfl ?_
    obtain ⟨v170, e170, h⟩ := bO_some h
    refine ww_getR 170 X dX13_addPoint_170 fG_X13_165 e170 ?_
    refine ww_aload_n 173 X dX13_addPoint_173 0 rfl rfl ?_
    obtain ⟨v174, e174, h⟩ := bO_some h
    refine ww_getR 174 X dX13_addPoint_174 fG_X13_177 e174 ?_
    obtain ⟨_, f177, h⟩ := bO_some h
    obtain ⟨M177, e177, h⟩ := bO_some h
    refine ww_callVV0 177 X dX13_addPoint_177 mY_X12_subtract mL_X13_743 (rcv_spec f177) ⟨_, _, rfl⟩ (by decide) (As := [.ref v166, .ref v170, .ref v174]) (rest := []) rfl rfl ⟨Nat.le_of_ble_eq_true rfl, Nat.le_of_ble_eq_true rfl⟩ (Nat.le_of_ble_eq_true rfl) (fun l D A => c_X12_subtract l D A e177) ?_
    refine ww_aload_n 180 X dX13_addPoint_180 0 rfl rfl ?_
    obtain ⟨v181, e181, h⟩ := bO_some h
    refine ww_getR 181 X dX13_addPoint_181 fG_X13_126 e181 ?_
    refine ww_aload_n 184 X dX13_addPoint_184 0 rfl rfl ?_
    obtain ⟨v185, e185, h⟩ := bO_some h
    refine ww_getR 185 X dX13_addPoint_185 fG_X13_174 e185 ?_
    obtain ⟨_, f188, h⟩ := bO_some h
    obtain ⟨v188, M188, e188, h⟩ := bP_some h
    refine ww_callVI0 188 X dX13_addPoint_188 mY_X12_isZero mL_X13_749 (rcv_spec f188) ⟨_, _, rfl⟩ (by decide) (As := [.ref v185]) (rest := []) rfl rfl ⟨Nat.le_of_ble_eq_true rfl, Nat.le_of_ble_eq_true rfl⟩ (Nat.le_of_ble_eq_true rfl) (fun l D A => c_X12_isZero l D A e188) ?_
    refine ww_if_eq 191 221 X dX13_addPoint_191 (by decide) (fun q => ?_) (fun q => ?_)
    · replace h := (if_pos q).symm.trans h
      refine ww_aload_n 221 X dX13_addPoint_221 0 rfl rfl ?_
      obtain ⟨v222, e222, h⟩ := bO_some h
      refine ww_getR 222 X dX13_addPoint_222 fG_X13_126 e222 ?_
      refine ww_aload_n 225 X dX13_addPoint_225 0 rfl rfl ?_
      obtain ⟨v226, e226, h⟩ := bO_some h
      refine ww_getR 226 X dX13_addPoint_226 fG_X13_168 e226 ?_
      refine ww_aload_n 229 X dX13_addPoint_229 0 rfl rfl ?_
      obtain ⟨v230, e230, h⟩ := bO_some h
      refine ww_getR 230 X dX13_addPoint_230 fG_X13_174 e230 ?_
      refine ww_aload_n 233 X dX13_addPoint_233 0 rfl rfl ?_
      obtain ⟨v234, e234, h⟩ := bO_some h
      refine ww_getR 234 X dX13_addPoint_234 fG_X13_168 e234 ?_
      obtain ⟨_, f237, h⟩ := bO_some h
      obtain ⟨M237, e237, h⟩ := bO_some h
      refine ww_callVV0 237 X dX13_addPoint_237 mY_X12_product mL_X13_736 (rcv_spec f237) ⟨_, _, rfl⟩ (by decide) (As := [.ref v226, .ref v230, .ref v234]) (rest := []) rfl rfl ⟨Nat.le_of_ble_eq_true rfl, Nat.le_of_ble_eq_true rfl⟩ (Nat.le_of_ble_eq_true rfl) (fun l D A => c_X12_product l D A e237) ?_
      refine ww_aload_n 240 X dX13_addPoint_240 0 rfl rfl ?_
      obtain ⟨v241, e241, h⟩ := bO_some h
      refine ww_getR 241 X dX13_addPoint_241 fG_X13_126 e241 ?_
      refine ww_aload_n 244 X dX13_addPoint_244 0 rfl rfl ?_
      obtain ⟨v245, e245, h⟩ := bO_some h
      refine ww_getR 245 X dX13_addPoint_245 fG_X13_174 e245 ?_
      refine ww_aload_n 248 X dX13_addPoint_248 0 rfl rfl ?_
      obtain ⟨v249, e249, h⟩ := bO_some h
      refine ww_getR 249 X dX13_addPoint_249 fG_X13_174 e249 ?_
      refine ww_aload_n 252 X dX13_addPoint_252 0 rfl rfl ?_
      obtain ⟨v253, e253, h⟩ := bO_some h
      refine ww_getR 253 X dX13_addPoint_253 fG_X13_180 e253 ?_
      obtain ⟨_, f256, h⟩ := bO_some h
      obtain ⟨M256, e256, h⟩ := bO_some h
      refine ww_callVV0 256 X dX13_addPoint_256 mY_X12_product mL_X13_736 (rcv_spec f256) ⟨_, _, rfl⟩ (by decide) (As := [.ref v245, .ref v249, .ref v253]) (rest := []) rfl rfl ⟨Nat.le_of_ble_eq_true rfl, Nat.le_of_ble_eq_true rfl⟩ (Nat.le_of_ble_eq_true rfl) (fun l D A => c_X12_product l D A e256) ?_
      refine ww_aload_n 259 X dX13_addPoint_259 0 rfl rfl ?_
      obtain ⟨v260, e260, h⟩ := bO_some h
      refine ww_getR 260 X dX13_addPoint_260 fG_X13_126 e260 ?_
      refine ww_aload_n 263 X dX13_addPoint_263 0 rfl rfl ?_
      obtain ⟨v264, e264, h⟩ := bO_some h
      refine ww_getR 264 X dX13_addPoint_264 fG_X13_180 e264 ?_
      refine ww_aload_n 267 X dX13_addPoint_267 0 rfl rfl ?_
      obtain ⟨v268, e268, h⟩ := bO_some h
      refine ww_getR 268 X dX13_addPoint_268 fG_X13_174 e268 ?_
      refine ww_aload_n 271 X dX13_addPoint_271 0 rfl rfl ?_
      obtain ⟨v272, e272, h⟩ := bO_some h
      refine ww_getR 272 X dX13_addPoint_272 fG_X13_183 e272 ?_
      obtain ⟨_, f275, h⟩ := bO_some h
      obtain ⟨M275, e275, h⟩ := bO_some h
      refine ww_callVV0 275 X dX13_addPoint_275 mY_X12_product mL_X13_736 (rcv_spec f275) ⟨_, _, rfl⟩ (by decide) (As := [.ref v264, .ref v268, .ref v272]) (rest := []) rfl rfl ⟨Nat.le_of_ble_eq_true rfl, Nat.le_of_ble_eq_true rfl⟩ (Nat.le_of_ble_eq_true rfl) (fun l D A => c_X12_product l D A e275) ?_
      refine ww_aload_n 278 X dX13_addPoint_278 0 rfl rfl ?_
      obtain ⟨v279, e279, h⟩ := bO_some h
      refine ww_getR 279 X dX13_addPoint_279 fG_X13_126 e279 ?_
      refine ww_aload_n 282 X dX13_addPoint_282 0 rfl rfl ?_
      obtain ⟨v283, e283, h⟩ := bO_some h
      refine ww_getR 283 X dX13_addPoint_283 fG_X13_162 e283 ?_
      refine ww_aload_n 286 X dX13_addPoint_286 0 rfl rfl ?_
      obtain ⟨v287, e287, h⟩ := bO_some h
      refine ww_getR 287 X dX13_addPoint_287 fG_X13_180 e287 ?_
      refine ww_aload_n 290 X dX13_addPoint_290 0 rfl rfl ?_
      obtain ⟨v291, e291, h⟩ := bO_some h
      refine ww_getR 291 X dX13_addPoint_291 fG_X13_180 e291 ?_
      obtain ⟨_, f294, h⟩ := bO_some h
      obtain ⟨M294, e294, h⟩ := bO_some h
      refine ww_callVV0 294 X dX13_addPoint_294 mY_X12_product mL_X13_736 (rcv_spec f294) ⟨_, _, rfl⟩ (by decide) (As := [.ref v283, .ref v287, .ref v291]) (rest := []) rfl rfl ⟨Nat.le_of_ble_eq_true rfl, Nat.le_of_ble_eq_true rfl⟩ (Nat.le_of_ble_eq_true rfl) (fun l D A => c_X12_product l D A e294) ?_
      refine ww_aload_n 297 X dX13_addPoint_297 0 rfl rfl ?_
      obtain ⟨v298, e298, h⟩ := bO_some h
      refine ww_getR 298 X dX13_addPoint_298 fG_X13_126 e298 ?_
      refine ww_aload_n 301 X dX13_addPoint_301 0 rfl rfl ?_
      obtain ⟨v302, e302, h⟩ := bO_some h
      refine ww_getR 302 X dX13_addPoint_302 fG_X13_177 e302 ?_
      refine ww_aload_n 305 X dX13_addPoint_305 0 rfl rfl ?_
      obtain ⟨v306, e306, h⟩ := bO_some h
      refine ww_getR 306 X dX13_addPoint_306 fG_X13_177 e306 ?_
      refine ww_aload_n 309 X dX13_addPoint_309 0 rfl rfl ?_
      obtain ⟨v310, e310, h⟩ := bO_some h
      refine ww_getR 310 X dX13_addPoint_310 fG_X13_162 e310 ?_
      obtain ⟨_, f313, h⟩ := bO_some h
      obtain ⟨M313, e313, h⟩ := bO_some h
      refine ww_callVV0 313 X dX13_addPoint_313 mY_X12_product mL_X13_736 (rcv_spec f313) ⟨_, _, rfl⟩ (by decide) (As := [.ref v302, .ref v306, .ref v310]) (rest := []) rfl rfl ⟨Nat.le_of_ble_eq_true rfl, Nat.le_of_ble_eq_true rfl⟩ (Nat.le_of_ble_eq_true rfl) (fun l D A => c_X12_product l D A e313) ?_
      refine ww_aload_n 316 X dX13_addPoint_316 0 rfl rfl ?_
      obtain ⟨v317, e317, h⟩ := bO_some h
      refine ww_getR 317 X dX13_addPoint_317 fG_X13_126 e317 ?_
      refine ww_aload_n 320 X dX13_addPoint_320 0 rfl rfl ?_
      obtain ⟨v321, e321, h⟩ := bO_some h
      refine ww_getR 321 X dX13_addPoint_321 fG_X13_162 e321 ?_
      refine ww_aload_n 324 X dX13_addPoint_324 0 rfl rfl ?_
      obtain ⟨v325, e325, h⟩ := bO_some h
      refine ww_getR 325 X dX13_addPoint_325 fG_X13_183 e325 ?_
      refine ww_aload_n 328 X dX13_addPoint_328 0 rfl rfl ?_
      obtain ⟨v329, e329, h⟩ := bO_some h
      refine ww_getR 329 X dX13_addPoint_329 fG_X13_162 e329 ?_
      obtain ⟨_, f332, h⟩ := bO_some h
      obtain ⟨M332, e332, h⟩ := bO_some h
      refine ww_callVV0 332 X dX13_addPoint_332 mY_X12_subtract mL_X13_743 (rcv_spec f332) ⟨_, _, rfl⟩ (by decide) (As := [.ref v321, .ref v325, .ref v329]) (rest := []) rfl rfl ⟨Nat.le_of_ble_eq_true rfl, Nat.le_of_ble_eq_true rfl⟩ (Nat.le_of_ble_eq_true rfl) (fun l D A => c_X12_subtract l D A e332) ?_
      refine ww_aload_n 335 X dX13_addPoint_335 0 rfl rfl ?_
      obtain ⟨v336, e336, h⟩ := bO_some h
      refine ww_getR 336 X dX13_addPoint_336 fG_X13_126 e336 ?_
      refine ww_aload_n 339 X dX13_addPoint_339 0 rfl rfl ?_
      obtain ⟨v340, e340, h⟩ := bO_some h
      refine ww_getR 340 X dX13_addPoint_340 fG_X13_162 e340 ?_
      refine ww_aload_n 343 X dX13_addPoint_343 0 rfl rfl ?_
      obtain ⟨v344, e344, h⟩ := bO_some h
      refine ww_getR 344 X dX13_addPoint_344 fG_X13_180 e344 ?_
      refine ww_aload_n 347 X dX13_addPoint_347 0 rfl rfl ?_
      obtain ⟨v348, e348, h⟩ := bO_some h
      refine ww_getR 348 X dX13_addPoint_348 fG_X13_162 e348 ?_
      obtain ⟨_, f351, h⟩ := bO_some h
      obtain ⟨M351, e351, h⟩ := bO_some h
      refine ww_callVV0 351 X dX13_addPoint_351 mY_X12_subtract mL_X13_743 (rcv_spec f351) ⟨_, _, rfl⟩ (by decide) (As := [.ref v340, .ref v344, .ref v348]) (rest := []) rfl rfl ⟨Nat.le_of_ble_eq_true rfl, Nat.le_of_ble_eq_true rfl⟩ (Nat.le_of_ble_eq_true rfl) (fun l D A => c_X12_subtract l D A e351) ?_
      refine ww_aload_n 354 X dX13_addPoint_354 0 rfl rfl ?_
      obtain ⟨v355, e355, h⟩ := bO_some h
      refine ww_getR 355 X dX13_addPoint_355 fG_X13_126 e355 ?_
      refine ww_aload_n 358 X dX13_addPoint_358 0 rfl rfl ?_
      obtain ⟨v359, e359, h⟩ := bO_some h
      refine ww_getR 359 X dX13_addPoint_359 fG_X13_162 e359 ?_
      refine ww_aload_n 362 X dX13_addPoint_362 0 rfl rfl ?_
      obtain ⟨v363, e363, h⟩ := bO_some h
      refine ww_getR 363 X dX13_addPoint_363 fG_X13_180 e363 ?_
      refine ww_aload_n 366 X dX13_addPoint_366 0 rfl rfl ?_
      obtain ⟨v367, e367, h⟩ := bO_some h
      refine ww_getR 367 X dX13_addPoint_367 fG_X13_162 e367 ?_
      obtain ⟨_, f370, h⟩ := bO_some h
      obtain ⟨M370, e370, h⟩ := bO_some h
      refine ww_callVV0 370 X dX13_addPoint_370 mY_X12_subtract mL_X13_743 (rcv_spec f370) ⟨_, _, rfl⟩ (by decide) (As := [.ref v359, .ref v363, .ref v367]) (rest := []) rfl rfl ⟨Nat.le_of_ble_eq_true rfl, Nat.le_of_ble_eq_true rfl⟩ (Nat.le_of_ble_eq_true rfl) (fun l D A => c_X12_subtract l D A e370) ?_
      refine ww_aload_n 373 X dX13_addPoint_373 0 rfl rfl ?_
      obtain ⟨v374, e374, h⟩ := bO_some h
      refine ww_getR 374 X dX13_addPoint_374 fG_X13_126 e374 ?_
      refine ww_aload_n 377 X dX13_addPoint_377 0 rfl rfl ?_
      obtain ⟨v378, e378, h⟩ := bO_some h
      refine ww_getR 378 X dX13_addPoint_378 fG_X13_165 e378 ?_
      refine ww_aload_n 381 X dX13_addPoint_381 0 rfl rfl ?_
      obtain ⟨v382, e382, h⟩ := bO_some h
      refine ww_getR 382 X dX13_addPoint_382 fG_X13_183 e382 ?_
      refine ww_aload_n 385 X dX13_addPoint_385 0 rfl rfl ?_
      obtain ⟨v386, e386, h⟩ := bO_some h
      refine ww_getR 386 X dX13_addPoint_386 fG_X13_183 e386 ?_
      obtain ⟨_, f389, h⟩ := bO_some h
      obtain ⟨M389, e389, h⟩ := bO_some h
      refine ww_callVV0 389 X dX13_addPoint_389 mY_X12_product mL_X13_736 (rcv_spec f389) ⟨_, _, rfl⟩ (by decide) (As := [.ref v378, .ref v382, .ref v386]) (rest := []) rfl rfl ⟨Nat.le_of_ble_eq_true rfl, Nat.le_of_ble_eq_true rfl⟩ (Nat.le_of_ble_eq_true rfl) (fun l D A => c_X12_product l D A e389) ?_
      refine ww_aload_n 392 X dX13_addPoint_392 0 rfl rfl ?_
      obtain ⟨v393, e393, h⟩ := bO_some h
      refine ww_getR 393 X dX13_addPoint_393 fG_X13_126 e393 ?_
      refine ww_aload_n 396 X dX13_addPoint_396 0 rfl rfl ?_
      obtain ⟨v397, e397, h⟩ := bO_some h
      refine ww_getR 397 X dX13_addPoint_397 fG_X13_180 e397 ?_
      refine ww_aload_n 400 X dX13_addPoint_400 0 rfl rfl ?_
      obtain ⟨v401, e401, h⟩ := bO_some h
      refine ww_getR 401 X dX13_addPoint_401 fG_X13_162 e401 ?_
      refine ww_aload_n 404 X dX13_addPoint_404 0 rfl rfl ?_
      obtain ⟨v405, e405, h⟩ := bO_some h
      refine ww_getR 405 X dX13_addPoint_405 fG_X13_180 e405 ?_
      obtain ⟨_, f408, h⟩ := bO_some h
      obtain ⟨M408, e408, h⟩ := bO_some h
      refine ww_callVV0 408 X dX13_addPoint_408 mY_X12_subtract mL_X13_743 (rcv_spec f408) ⟨_, _, rfl⟩ (by decide) (As := [.ref v397, .ref v401, .ref v405]) (rest := []) rfl rfl ⟨Nat.le_of_ble_eq_true rfl, Nat.le_of_ble_eq_true rfl⟩ (Nat.le_of_ble_eq_true rfl) (fun l D A => c_X12_subtract l D A e408) ?_
      refine ww_aload_n 411 X dX13_addPoint_411 0 rfl rfl ?_
      obtain ⟨v412, e412, h⟩ := bO_some h
      refine ww_getR 412 X dX13_addPoint_412 fG_X13_126 e412 ?_
      refine ww_aload_n 415 X dX13_addPoint_415 0 rfl rfl ?_
      obtain ⟨v416, e416, h⟩ := bO_some h
      refine ww_getR 416 X dX13_addPoint_416 fG_X13_177 e416 ?_
      refine ww_aload_n 419 X dX13_addPoint_419 0 rfl rfl ?_
      obtain ⟨v420, e420, h⟩ := bO_some h
      refine ww_getR 420 X dX13_addPoint_420 fG_X13_180 e420 ?_
      refine ww_aload_n 423 X dX13_addPoint_423 0 rfl rfl ?_
      obtain ⟨v424, e424, h⟩ := bO_some h
      refine ww_getR 424 X dX13_addPoint_424 fG_X13_165 e424 ?_
      obtain ⟨_, f427, h⟩ := bO_some h
      obtain ⟨M427, e427, h⟩ := bO_some h
      refine ww_callVV0 427 X dX13_addPoint_427 mY_X12_product mL_X13_736 (rcv_spec f427) ⟨_, _, rfl⟩ (by decide) (As := [.ref v416, .ref v420, .ref v424]) (rest := []) rfl rfl ⟨Nat.le_of_ble_eq_true rfl, Nat.le_of_ble_eq_true rfl⟩ (Nat.le_of_ble_eq_true rfl) (fun l D A => c_X12_product l D A e427) ?_
      refine ww_aload_n 430 X dX13_addPoint_430 0 rfl rfl ?_
      obtain ⟨v431, e431, h⟩ := bO_some h
      refine ww_getR 431 X dX13_addPoint_431 fG_X13_126 e431 ?_
      refine ww_aload_n 434 X dX13_addPoint_434 0 rfl rfl ?_
      obtain ⟨v435, e435, h⟩ := bO_some h
      refine ww_getR 435 X dX13_addPoint_435 fG_X13_165 e435 ?_
      refine ww_aload_n 438 X dX13_addPoint_438 0 rfl rfl ?_
      obtain ⟨v439, e439, h⟩ := bO_some h
      refine ww_getR 439 X dX13_addPoint_439 fG_X13_183 e439 ?_
      refine ww_aload_n 442 X dX13_addPoint_442 0 rfl rfl ?_
      obtain ⟨v443, e443, h⟩ := bO_some h
      refine ww_getR 443 X dX13_addPoint_443 fG_X13_165 e443 ?_
      obtain ⟨_, f446, h⟩ := bO_some h
      obtain ⟨M446, e446, h⟩ := bO_some h
      refine ww_callVV0 446 X dX13_addPoint_446 mY_X12_subtract mL_X13_743 (rcv_spec f446) ⟨_, _, rfl⟩ (by decide) (As := [.ref v435, .ref v439, .ref v443]) (rest := []) rfl rfl ⟨Nat.le_of_ble_eq_true rfl, Nat.le_of_ble_eq_true rfl⟩ (Nat.le_of_ble_eq_true rfl) (fun l D A => c_X12_subtract l D A e446) ?_
      exact ww_vretE 449 X hQ dX13_addPoint_449 h
    · replace h := (if_neg q).symm.trans h
      refine ww_aload_n 194 X dX13_addPoint_194 0 rfl rfl ?_
      obtain ⟨v195, e195, h⟩ := bO_some h
      refine ww_getR 195 X dX13_addPoint_195 fG_X13_126 e195 ?_
      refine ww_aload_n 198 X dX13_addPoint_198 0 rfl rfl ?_
      obtain ⟨v199, e199, h⟩ := bO_some h
      refine ww_getR 199 X dX13_addPoint_199 fG_X13_177 e199 ?_
      obtain ⟨_, f202, h⟩ := bO_some h
      obtain ⟨v202, M202, e202, h⟩ := bP_some h
      refine ww_callVI0 202 X dX13_addPoint_202 mY_X12_isZero mL_X13_749 (rcv_spec f202) ⟨_, _, rfl⟩ (by decide) (As := [.ref v199]) (rest := []) rfl rfl ⟨Nat.le_of_ble_eq_true rfl, Nat.le_of_ble_eq_true rfl⟩ (Nat.le_of_ble_eq_true rfl) (fun l D A => c_X12_isZero l D A e202) ?_
      refine ww_if_eq 205 215 X dX13_addPoint_205 (by decide) (fun q => ?_) (fun q => ?_)
      · replace h := (if_pos q).symm.trans h
        refine ww_aload_n 215 X dX13_addPoint_215 0 rfl rfl ?_
        refine ww_iconst 216 X (v := (1 : Int32)) dX13_addPoint_216 (by decide) ?_
        obtain ⟨M217, e217, h⟩ := bO_some h
        refine ww_putZ 217 X dX13_addPoint_217 (fP_X13_746 _) e217 ?_
        exact ww_vretE 220 X hQ dX13_addPoint_220 h
      · replace h := (if_neg q).symm.trans h
        refine ww_aload_n 208 X dX13_addPoint_208 0 rfl rfl ?_
        obtain ⟨_, f209, h⟩ := bO_some h
        obtain ⟨M209, e209, h⟩ := bO_some h
        refine ww_callVV0 209 X dX13_addPoint_209 mY_X13_twicePoint mL_X13_756 (rcv_spec f209) ⟨_, _, rfl⟩ (by decide) (As := []) (rest := []) rfl rfl ⟨Nat.le_of_ble_eq_true rfl, Nat.le_of_ble_eq_true rfl⟩ (Nat.le_of_ble_eq_true rfl) (fun l D A => c_X13_twicePoint l D A e209) ?_
        refine ww_goto 212 220 X dX13_addPoint_212 (by decide) ?_
        exact ww_vretE 220 X hQ dX13_addPoint_220 h
  · replace h := (if_neg q).symm.trans h
    refine ww_iconst 7 X (v := (0 : Int32)) dX13_addPoint_7 (by decide) ?_
    refine ww_istore_n 8 X dX13_addPoint_8 (lv' := [(0, .ref l0), (1, .int (0 : Int32))]) rfl (by decide) [1, 0] rfl ?_
    exact (wB_X13_addPoint_9 X hQ F _ _ _ h)
theorem c_X13_addPoint {G : mG} {F sz : Nat} {M0 : mM} (l : Launch) (D : mD) (A : Nat → Prop) {l0 : Nat} {M : mM} (h : P_X13_addPoint G F l0 M = some M0) : mMetV l D G A yX13_addPoint cX13_addPoint 2 none 3 79 0 0 [.ref l0] M sz M0 sz := mMetV_of l D G A (by decide) (Nat.le_of_ble_eq_true rfl) (fun x X hQ => wP_X13_addPoint X hQ h)
/-! SealedTokensModel.times([BI)V -/
theorem dX13_times__0 : decode cX13_times_ 0 = .ok (.aload_n 0, 1) := by decide +kernel
theorem dX13_times__1 : decode cX13_times_ 1 = .ok (.iconst 1, 1) := by decide +kernel
theorem dX13_times__2 : decode cX13_times_ 2 = .ok (.putfield 746, 3) := by decide +kernel
theorem dX13_times__5 : decode cX13_times_ 5 = .ok (.iconst 0, 1) := by decide +kernel
theorem dX13_times__6 : decode cX13_times_ 6 = .ok (.istore_n 3, 1) := by decide +kernel
theorem dX13_times__7 : decode cX13_times_ 7 = .ok (.iload_n 3, 1) := by decide +kernel
theorem dX13_times__8 : decode cX13_times_ 8 = .ok (.sipush 256, 3) := by decide +kernel
theorem dX13_times__11 : decode cX13_times_ 11 = .ok (.if_icmp .ge 39, 3) := by decide +kernel
theorem dX13_times__14 : decode cX13_times_ 14 = .ok (.aload_n 0, 1) := by decide +kernel
theorem dX13_times__15 : decode cX13_times_ 15 = .ok (.invokevirtual 756, 3) := by decide +kernel
theorem dX13_times__18 : decode cX13_times_ 18 = .ok (.aload_n 1, 1) := by decide +kernel
theorem dX13_times__19 : decode cX13_times_ 19 = .ok (.iload_n 2, 1) := by decide +kernel
theorem dX13_times__20 : decode cX13_times_ 20 = .ok (.iload_n 3, 1) := by decide +kernel
theorem dX13_times__21 : decode cX13_times_ 21 = .ok (.bipush 8, 2) := by decide +kernel
theorem dX13_times__23 : decode cX13_times_ 23 = .ok (.idiv, 1) := by decide +kernel
theorem dX13_times__24 : decode cX13_times_ 24 = .ok (.iadd, 1) := by decide +kernel
theorem dX13_times__25 : decode cX13_times_ 25 = .ok (.baload, 1) := by decide +kernel
theorem dX13_times__26 : decode cX13_times_ 26 = .ok (.bipush 7, 2) := by decide +kernel
theorem dX13_times__28 : decode cX13_times_ 28 = .ok (.iload_n 3, 1) := by decide +kernel
theorem dX13_times__29 : decode cX13_times_ 29 = .ok (.bipush 8, 2) := by decide +kernel
theorem dX13_times__31 : decode cX13_times_ 31 = .ok (.irem, 1) := by decide +kernel
theorem dX13_times__32 : decode cX13_times_ 32 = .ok (.isub, 1) := by decide +kernel
theorem dX13_times__33 : decode cX13_times_ 33 = .ok (.ishr, 1) := by decide +kernel
theorem dX13_times__34 : decode cX13_times_ 34 = .ok (.iconst 1, 1) := by decide +kernel
theorem dX13_times__35 : decode cX13_times_ 35 = .ok (.iand, 1) := by decide +kernel
theorem dX13_times__36 : decode cX13_times_ 36 = .ok (.iconst 1, 1) := by decide +kernel
theorem dX13_times__37 : decode cX13_times_ 37 = .ok (.if_icmp .ne 7, 3) := by decide +kernel
theorem dX13_times__40 : decode cX13_times_ 40 = .ok (.aload_n 0, 1) := by decide +kernel
theorem dX13_times__41 : decode cX13_times_ 41 = .ok (.invokevirtual 759, 3) := by decide +kernel
theorem dX13_times__44 : decode cX13_times_ 44 = .ok (.iinc 3 1, 3) := by decide +kernel
theorem dX13_times__47 : decode cX13_times_ 47 = .ok (.goto (-40), 3) := by decide +kernel
theorem dX13_times__50 : decode cX13_times_ 50 = .ok (.return_, 1) := by decide +kernel
abbrev rmX13_times_ : Room := { frames := 4, cells := 0, slots := 0, locals := 100 }
set_option maxHeartbeats 4000000 in
set_option maxRecDepth 100000 in
theorem wB_X13_times__7 {G : mG} {F : Nat} {x : mXT} {sz : Nat} {M0 : mM} (X : mCX G RX13 cX13_times_ 4 none "times" rmX13_times_ x) (hQ : mQV x M0 (sz, 0, 0)) : ∀ (n : Nat) (l0 : Nat) (l1 : Nat) (l2 : Int32) (l3 : Int32) (M : mM), B_X13_times__7 G F n l0 l1 l2 l3 M = some M0 → WW x (sz, 0, 0) M 7 [(0, .ref l0), (1, .ref l1), (2, .int l2), (3, .int l3)] [] := by
  intro n
  induction n with
  | zero =>
    intro l0 l1 l2 l3 M h
    exact nomatch (show (none : Option mM) = some M0 from h)
  | succ n ih =>
    intro l0 l1 l2 l3 M h
    rw [B_X13_times__7] at h
    refine ww_iload_n 7 X dX13_times__7 3 rfl rfl ?_
    refine ww_sipush 8 X (v := (256 : Int32)) dX13_times__8 (by decide) ?_
    refine ww_icmp_ge 11 50 X dX13_times__11 (by decide) (fun q => ?_) (fun q => ?_)
    · replace h := (if_pos q).symm.trans h
      exact ww_vretE 50 X hQ dX13_times__50 h
    · replace h := (if_neg q).symm.trans h
      refine ww_aload_n 14 X dX13_times__14 0 rfl rfl ?_
      obtain ⟨_, f15, h⟩ := bO_some h
      obtain ⟨M15, e15, h⟩ := bO_some h
      refine ww_callVV0 15 X dX13_times__15 mY_X13_twicePoint mL_X13_756 (rcv_spec f15) ⟨_, _, rfl⟩ (by decide) (As := []) (rest := []) rfl rfl ⟨Nat.le_of_ble_eq_true rfl, Nat.le_of_ble_eq_true rfl⟩ (Nat.le_of_ble_eq_true rfl) (fun l D A => c_X13_twicePoint l D A e15) ?_
      refine ww_aload_n 18 X dX13_times__18 1 rfl rfl ?_
      refine ww_iload_n 19 X dX13_times__19 2 rfl rfl ?_
      refine ww_iload_n 20 X dX13_times__20 3 rfl rfl ?_
      refine ww_bipush 21 X (v := (8 : Int32)) dX13_times__21 (by decide) ?_
      refine ww_idiv 23 X (v := (l3 / (8 : Int32))) dX13_times__23 rfl ?_
      refine ww_iadd 24 X dX13_times__24 ?_
      obtain ⟨v25, e25, h⟩ := bO_some h
      refine ww_bald 25 X dX13_times__25 e25 ?_
      refine ww_bipush 26 X (v := (7 : Int32)) dX13_times__26 (by decide) ?_
      refine ww_iload_n 28 X dX13_times__28 3 rfl rfl ?_
      refine ww_bipush 29 X (v := (8 : Int32)) dX13_times__29 (by decide) ?_
      refine ww_irem 31 X (v := (l3 - l3 / (8 : Int32) * (8 : Int32))) dX13_times__31 rfl ?_
      refine ww_isub 32 X dX13_times__32 ?_
      refine ww_ishr 33 X dX13_times__33 ?_
      refine ww_iconst 34 X (v := (1 : Int32)) dX13_times__34 (by decide) ?_
      refine ww_iand 35 X dX13_times__35 ?_
      refine ww_iconst 36 X (v := (1 : Int32)) dX13_times__36 (by decide) ?_
      refine ww_icmp_ne 37 44 X dX13_times__37 (by decide) (fun q => ?_) (fun q => ?_)
      · replace h := (if_neg q).symm.trans h
        refine ww_iinc 44 X dX13_times__44 (lv' := [(0, .ref l0), (1, .ref l1), (2, .int l2), (3, .int (l3 + 1))]) 3 rfl rfl (by decide) [1, 2, 3, 0] rfl ?_
        refine ww_goto 47 7 X dX13_times__47 (by decide) ?_
        exact (ih _ _ _ _ _ h)
      · replace h := (if_pos q).symm.trans h
        refine ww_aload_n 40 X dX13_times__40 0 rfl rfl ?_
        obtain ⟨_, f41, h⟩ := bO_some h
        obtain ⟨M41, e41, h⟩ := bO_some h
        refine ww_callVV0 41 X dX13_times__41 mY_X13_addPoint mL_X13_759 (rcv_spec f41) ⟨_, _, rfl⟩ (by decide) (As := []) (rest := []) rfl rfl ⟨Nat.le_of_ble_eq_true rfl, Nat.le_of_ble_eq_true rfl⟩ (Nat.le_of_ble_eq_true rfl) (fun l D A => c_X13_addPoint l D A e41) ?_
        refine ww_iinc 44 X dX13_times__44 (lv' := [(0, .ref l0), (1, .ref l1), (2, .int l2), (3, .int (l3 + 1))]) 3 rfl rfl (by decide) [1, 2, 3, 0] rfl ?_
        refine ww_goto 47 7 X dX13_times__47 (by decide) ?_
        exact (ih _ _ _ _ _ h)
set_option maxHeartbeats 4000000 in
set_option maxRecDepth 100000 in
theorem wP_X13_times_ {G : mG} {F : Nat} {x : mXT} {sz : Nat} {M0 : mM} (X : mCX G RX13 cX13_times_ 4 none "times" rmX13_times_ x) (hQ : mQV x M0 (sz, 0, 0)) {l0 : Nat} {l1 : Nat} {l2 : Int32} {M : mM} (h : P_X13_times_ G F l0 l1 l2 M = some M0) : WW x (sz, 0, 0) M 0 [(0, .ref l0), (1, .ref l1), (2, .int l2)] [] := by
  unfold P_X13_times_ at h
  refine ww_aload_n 0 X dX13_times__0 0 rfl rfl ?_
  refine ww_iconst 1 X (v := (1 : Int32)) dX13_times__1 (by decide) ?_
  obtain ⟨M2, e2, h⟩ := bO_some h
  refine ww_putZ 2 X dX13_times__2 (fP_X13_746 _) e2 ?_
  refine ww_iconst 5 X (v := (0 : Int32)) dX13_times__5 (by decide) ?_
  refine ww_istore_n 6 X dX13_times__6 (lv' := [(0, .ref l0), (1, .ref l1), (2, .int l2), (3, .int (0 : Int32))]) rfl (by decide) [1, 2, 3, 0] rfl ?_
  exact (wB_X13_times__7 X hQ F _ _ _ _ _ h)
theorem c_X13_times_ {G : mG} {F sz : Nat} {M0 : mM} (l : Launch) (D : mD) (A : Nat → Prop) {l0 : Nat} {l1 : Nat} {l2 : Int32} {M : mM} (h : P_X13_times_ G F l0 l1 l2 M = some M0) : mMetV l D G A yX13_times_ cX13_times_ 4 none 4 100 0 0 [.ref l0, .ref l1, .int l2] M sz M0 sz := mMetV_of l D G A (by decide) (Nat.le_of_ble_eq_true rfl) (fun x X hQ => wP_X13_times_ X hQ h)
/-! SealedTokensModel.getPoint([BI)Z -/
theorem dX13_getPoint_0 : decode cX13_getPoint 0 = .ok (.aload_n 0, 1) := by decide +kernel
theorem dX13_getPoint_1 : decode cX13_getPoint 1 = .ok (.getfield 746, 3) := by decide +kernel
theorem dX13_getPoint_4 : decode cX13_getPoint 4 = .ok (.ifCond .eq 5, 3) := by decide +kernel
theorem dX13_getPoint_7 : decode cX13_getPoint 7 = .ok (.iconst 0, 1) := by decide +kernel
theorem dX13_getPoint_8 : decode cX13_getPoint 8 = .ok (.ireturn, 1) := by decide +kernel
theorem dX13_getPoint_9 : decode cX13_getPoint 9 = .ok (.aload_n 0, 1) := by decide +kernel
theorem dX13_getPoint_10 : decode cX13_getPoint 10 = .ok (.aload_n 0, 1) := by decide +kernel
theorem dX13_getPoint_11 : decode cX13_getPoint 11 = .ok (.getfield 141, 3) := by decide +kernel
theorem dX13_getPoint_14 : decode cX13_getPoint 14 = .ok (.invokevirtual 762, 3) := by decide +kernel
theorem dX13_getPoint_17 : decode cX13_getPoint 17 = .ok (.aload_n 0, 1) := by decide +kernel
theorem dX13_getPoint_18 : decode cX13_getPoint 18 = .ok (.getfield 126, 3) := by decide +kernel
theorem dX13_getPoint_21 : decode cX13_getPoint 21 = .ok (.aload_n 0, 1) := by decide +kernel
theorem dX13_getPoint_22 : decode cX13_getPoint 22 = .ok (.getfield 168, 3) := by decide +kernel
theorem dX13_getPoint_25 : decode cX13_getPoint 25 = .ok (.aload_n 0, 1) := by decide +kernel
theorem dX13_getPoint_26 : decode cX13_getPoint 26 = .ok (.getfield 153, 3) := by decide +kernel
theorem dX13_getPoint_29 : decode cX13_getPoint 29 = .ok (.iconst 0, 1) := by decide +kernel
theorem dX13_getPoint_30 : decode cX13_getPoint 30 = .ok (.bipush 32, 2) := by decide +kernel
theorem dX13_getPoint_32 : decode cX13_getPoint 32 = .ok (.aload_n 0, 1) := by decide +kernel
theorem dX13_getPoint_33 : decode cX13_getPoint 33 = .ok (.getfield 171, 3) := by decide +kernel
theorem dX13_getPoint_36 : decode cX13_getPoint 36 = .ok (.invokevirtual 698, 3) := by decide +kernel
theorem dX13_getPoint_39 : decode cX13_getPoint 39 = .ok (.aload_n 0, 1) := by decide +kernel
theorem dX13_getPoint_40 : decode cX13_getPoint 40 = .ok (.getfield 126, 3) := by decide +kernel
theorem dX13_getPoint_43 : decode cX13_getPoint 43 = .ok (.aload_n 0, 1) := by decide +kernel
theorem dX13_getPoint_44 : decode cX13_getPoint 44 = .ok (.getfield 171, 3) := by decide +kernel
theorem dX13_getPoint_47 : decode cX13_getPoint 47 = .ok (.aload_n 0, 1) := by decide +kernel
theorem dX13_getPoint_48 : decode cX13_getPoint 48 = .ok (.getfield 171, 3) := by decide +kernel
theorem dX13_getPoint_51 : decode cX13_getPoint 51 = .ok (.aload_n 0, 1) := by decide +kernel
theorem dX13_getPoint_52 : decode cX13_getPoint 52 = .ok (.getfield 174, 3) := by decide +kernel
theorem dX13_getPoint_55 : decode cX13_getPoint 55 = .ok (.invokevirtual 736, 3) := by decide +kernel
theorem dX13_getPoint_58 : decode cX13_getPoint 58 = .ok (.aload_n 0, 1) := by decide +kernel
theorem dX13_getPoint_59 : decode cX13_getPoint 59 = .ok (.getfield 126, 3) := by decide +kernel
theorem dX13_getPoint_62 : decode cX13_getPoint 62 = .ok (.aload_n 0, 1) := by decide +kernel
theorem dX13_getPoint_63 : decode cX13_getPoint 63 = .ok (.getfield 162, 3) := by decide +kernel
theorem dX13_getPoint_66 : decode cX13_getPoint 66 = .ok (.aload_n 0, 1) := by decide +kernel
theorem dX13_getPoint_67 : decode cX13_getPoint 67 = .ok (.getfield 174, 3) := by decide +kernel
theorem dX13_getPoint_70 : decode cX13_getPoint 70 = .ok (.aload_n 0, 1) := by decide +kernel
theorem dX13_getPoint_71 : decode cX13_getPoint 71 = .ok (.getfield 177, 3) := by decide +kernel
theorem dX13_getPoint_74 : decode cX13_getPoint 74 = .ok (.invokevirtual 736, 3) := by decide +kernel
theorem dX13_getPoint_77 : decode cX13_getPoint 77 = .ok (.aload_n 0, 1) := by decide +kernel
theorem dX13_getPoint_78 : decode cX13_getPoint 78 = .ok (.getfield 126, 3) := by decide +kernel
theorem dX13_getPoint_81 : decode cX13_getPoint 81 = .ok (.aload_n 0, 1) := by decide +kernel
theorem dX13_getPoint_82 : decode cX13_getPoint 82 = .ok (.getfield 174, 3) := by decide +kernel
theorem dX13_getPoint_85 : decode cX13_getPoint 85 = .ok (.aload_n 0, 1) := by decide +kernel
theorem dX13_getPoint_86 : decode cX13_getPoint 86 = .ok (.getfield 171, 3) := by decide +kernel
theorem dX13_getPoint_89 : decode cX13_getPoint 89 = .ok (.aload_n 0, 1) := by decide +kernel
theorem dX13_getPoint_90 : decode cX13_getPoint 90 = .ok (.getfield 174, 3) := by decide +kernel
theorem dX13_getPoint_93 : decode cX13_getPoint 93 = .ok (.invokevirtual 736, 3) := by decide +kernel
theorem dX13_getPoint_96 : decode cX13_getPoint 96 = .ok (.aload_n 0, 1) := by decide +kernel
theorem dX13_getPoint_97 : decode cX13_getPoint 97 = .ok (.getfield 126, 3) := by decide +kernel
theorem dX13_getPoint_100 : decode cX13_getPoint 100 = .ok (.aload_n 0, 1) := by decide +kernel
theorem dX13_getPoint_101 : decode cX13_getPoint 101 = .ok (.getfield 165, 3) := by decide +kernel
theorem dX13_getPoint_104 : decode cX13_getPoint 104 = .ok (.aload_n 0, 1) := by decide +kernel
theorem dX13_getPoint_105 : decode cX13_getPoint 105 = .ok (.getfield 174, 3) := by decide +kernel
theorem dX13_getPoint_108 : decode cX13_getPoint 108 = .ok (.aload_n 0, 1) := by decide +kernel
theorem dX13_getPoint_109 : decode cX13_getPoint 109 = .ok (.getfield 180, 3) := by decide +kernel
theorem dX13_getPoint_112 : decode cX13_getPoint 112 = .ok (.invokevirtual 736, 3) := by decide +kernel
theorem dX13_getPoint_115 : decode cX13_getPoint 115 = .ok (.aload_n 0, 1) := by decide +kernel
theorem dX13_getPoint_116 : decode cX13_getPoint 116 = .ok (.getfield 126, 3) := by decide +kernel
theorem dX13_getPoint_119 : decode cX13_getPoint 119 = .ok (.aload_n 0, 1) := by decide +kernel
theorem dX13_getPoint_120 : decode cX13_getPoint 120 = .ok (.getfield 177, 3) := by decide +kernel
theorem dX13_getPoint_123 : decode cX13_getPoint 123 = .ok (.aload_n 0, 1) := by decide +kernel
theorem dX13_getPoint_124 : decode cX13_getPoint 124 = .ok (.getfield 177, 3) := by decide +kernel
theorem dX13_getPoint_127 : decode cX13_getPoint 127 = .ok (.invokevirtual 702, 3) := by decide +kernel
theorem dX13_getPoint_130 : decode cX13_getPoint 130 = .ok (.aload_n 0, 1) := by decide +kernel
theorem dX13_getPoint_131 : decode cX13_getPoint 131 = .ok (.getfield 126, 3) := by decide +kernel
theorem dX13_getPoint_134 : decode cX13_getPoint 134 = .ok (.aload_n 0, 1) := by decide +kernel
theorem dX13_getPoint_135 : decode cX13_getPoint 135 = .ok (.getfield 180, 3) := by decide +kernel
theorem dX13_getPoint_138 : decode cX13_getPoint 138 = .ok (.aload_n 0, 1) := by decide +kernel
theorem dX13_getPoint_139 : decode cX13_getPoint 139 = .ok (.getfield 180, 3) := by decide +kernel
theorem dX13_getPoint_142 : decode cX13_getPoint 142 = .ok (.invokevirtual 702, 3) := by decide +kernel
theorem dX13_getPoint_145 : decode cX13_getPoint 145 = .ok (.aload_n 0, 1) := by decide +kernel
theorem dX13_getPoint_146 : decode cX13_getPoint 146 = .ok (.getfield 126, 3) := by decide +kernel
theorem dX13_getPoint_149 : decode cX13_getPoint 149 = .ok (.aload_n 0, 1) := by decide +kernel
theorem dX13_getPoint_150 : decode cX13_getPoint 150 = .ok (.getfield 177, 3) := by decide +kernel
theorem dX13_getPoint_153 : decode cX13_getPoint 153 = .ok (.aload_n 1, 1) := by decide +kernel
theorem dX13_getPoint_154 : decode cX13_getPoint 154 = .ok (.iload_n 2, 1) := by decide +kernel
theorem dX13_getPoint_155 : decode cX13_getPoint 155 = .ok (.bipush 32, 2) := by decide +kernel
theorem dX13_getPoint_157 : decode cX13_getPoint 157 = .ok (.invokevirtual 705, 3) := by decide +kernel
theorem dX13_getPoint_160 : decode cX13_getPoint 160 = .ok (.aload_n 0, 1) := by decide +kernel
theorem dX13_getPoint_161 : decode cX13_getPoint 161 = .ok (.getfield 126, 3) := by decide +kernel
theorem dX13_getPoint_164 : decode cX13_getPoint 164 = .ok (.aload_n 0, 1) := by decide +kernel
theorem dX13_getPoint_165 : decode cX13_getPoint 165 = .ok (.getfield 180, 3) := by decide +kernel
theorem dX13_getPoint_168 : decode cX13_getPoint 168 = .ok (.aload_n 1, 1) := by decide +kernel
theorem dX13_getPoint_169 : decode cX13_getPoint 169 = .ok (.iload_n 2, 1) := by decide +kernel
theorem dX13_getPoint_170 : decode cX13_getPoint 170 = .ok (.bipush 32, 2) := by decide +kernel
theorem dX13_getPoint_172 : decode cX13_getPoint 172 = .ok (.iadd, 1) := by decide +kernel
theorem dX13_getPoint_173 : decode cX13_getPoint 173 = .ok (.bipush 32, 2) := by decide +kernel
theorem dX13_getPoint_175 : decode cX13_getPoint 175 = .ok (.invokevirtual 705, 3) := by decide +kernel
theorem dX13_getPoint_178 : decode cX13_getPoint 178 = .ok (.iconst 1, 1) := by decide +kernel
theorem dX13_getPoint_179 : decode cX13_getPoint 179 = .ok (.ireturn, 1) := by decide +kernel
abbrev rmX13_getPoint : Room := { frames := 3, cells := 0, slots := 0, locals := 85 }
set_option maxHeartbeats 4000000 in
set_option maxRecDepth 100000 in
theorem wP_X13_getPoint {G : mG} {F : Nat} {x : mXT} {sz : Nat} {r0 : Int32} {M0 : mM} (X : mCX G RX13 cX13_getPoint 3 (some .boolean) "getPoint" rmX13_getPoint x) (hQ : mQI x r0 M0 (sz, 0, 0)) {l0 : Nat} {l1 : Nat} {l2 : Int32} {M : mM} (h : P_X13_getPoint G F l0 l1 l2 M = some (r0, M0)) : WW x (sz, 0, 0) M 0 [(0, .ref l0), (1, .ref l1), (2, .int l2)] [] := by
  unfold P_X13_getPoint at h
  refine ww_aload_n 0 X dX13_getPoint_0 0 rfl rfl ?_
  obtain ⟨v1, e1, h⟩ := bO_some h
  refine ww_getI 1 X dX13_getPoint_1 fG_X13_746 e1 ?_
  refine ww_if_eq 4 9 X dX13_getPoint_4 (by decide) (fun q => ?_) (fun q => ?_)
  · replace h := (if_pos q).symm.trans h
    refine ww_aload_n 9 X dX13_getPoint_9 0 rfl rfl ?_
    refine ww_aload_n 10 X dX13_getPoint_10 0 rfl rfl ?_
    obtain ⟨v11, e11, h⟩ := bO_some h
    refine ww_getR 11 X dX13_getPoint_11 fG_X13_141 e11 ?_
    obtain ⟨_, f14, h⟩ := bO_some h
    obtain ⟨M14, e14, h⟩ := bO_some h
    refine ww_callVV0 14 X dX13_getPoint_14 mY_X13_setLessTwo mL_X13_762 (rcv_spec f14) ⟨_, _, rfl⟩ (by decide) (As := [.ref v11]) (rest := []) rfl rfl ⟨Nat.le_of_ble_eq_true rfl, Nat.le_of_ble_eq_true rfl⟩ (Nat.le_of_ble_eq_true rfl) (fun l D A => c_X13_setLessTwo l D A e14) ?_
    refine ww_aload_n 17 X dX13_getPoint_17 0 rfl rfl ?_
    obtain ⟨v18, e18, h⟩ := bO_some h
    refine ww_getR 18 X dX13_getPoint_18 fG_X13_126 e18 ?_
    refine ww_aload_n 21 X dX13_getPoint_21 0 rfl rfl ?_
    obtain ⟨v22, e22, h⟩ := bO_some h
    refine ww_getR 22 X dX13_getPoint_22 fG_X13_168 e22 ?_
    refine ww_aload_n 25 X dX13_getPoint_25 0 rfl rfl ?_
    obtain ⟨v26, e26, h⟩ := bO_some h
    refine ww_getR 26 X dX13_getPoint_26 fG_X13_153 e26 ?_
    refine ww_iconst 29 X (v := (0 : Int32)) dX13_getPoint_29 (by decide) ?_
    refine ww_bipush 30 X (v := (32 : Int32)) dX13_getPoint_30 (by decide) ?_
    refine ww_aload_n 32 X dX13_getPoint_32 0 rfl rfl ?_
    obtain ⟨v33, e33, h⟩ := bO_some h
    refine ww_getR 33 X dX13_getPoint_33 fG_X13_171 e33 ?_
    obtain ⟨_, f36, h⟩ := bO_some h
    obtain ⟨M36, e36, h⟩ := bO_some h
    refine ww_callVV0 36 X dX13_getPoint_36 mY_X12_power mL_X13_698 (rcv_spec f36) ⟨_, _, rfl⟩ (by decide) (As := [.ref v22, .ref v26, .int (0 : Int32), .int (32 : Int32), .ref v33]) (rest := []) rfl rfl ⟨Nat.le_of_ble_eq_true rfl, Nat.le_of_ble_eq_true rfl⟩ (Nat.le_of_ble_eq_true rfl) (fun l D A => c_X12_power l D A e36) ?_
    refine ww_aload_n 39 X dX13_getPoint_39 0 rfl rfl ?_
    obtain ⟨v40, e40, h⟩ := bO_some h
    refine ww_getR 40 X dX13_getPoint_40 fG_X13_126 e40 ?_
    refine ww_aload_n 43 X dX13_getPoint_43 0 rfl rfl ?_
    obtain ⟨v44, e44, h⟩ := bO_some h
    refine ww_getR 44 X dX13_getPoint_44 fG_X13_171 e44 ?_
    refine ww_aload_n 47 X dX13_getPoint_47 0 rfl rfl ?_
    obtain ⟨v48, e48, h⟩ := bO_some h
    refine ww_getR 48 X dX13_getPoint_48 fG_X13_171 e48 ?_
    refine ww_aload_n 51 X dX13_getPoint_51 0 rfl rfl ?_
    obtain ⟨v52, e52, h⟩ := bO_some h
    refine ww_getR 52 X dX13_getPoint_52 fG_X13_174 e52 ?_
    obtain ⟨_, f55, h⟩ := bO_some h
    obtain ⟨M55, e55, h⟩ := bO_some h
    refine ww_callVV0 55 X dX13_getPoint_55 mY_X12_product mL_X13_736 (rcv_spec f55) ⟨_, _, rfl⟩ (by decide) (As := [.ref v44, .ref v48, .ref v52]) (rest := []) rfl rfl ⟨Nat.le_of_ble_eq_true rfl, Nat.le_of_ble_eq_true rfl⟩ (Nat.le_of_ble_eq_true rfl) (fun l D A => c_X12_product l D A e55) ?_
    refine ww_aload_n 58 X dX13_getPoint_58 0 rfl rfl ?_
    obtain ⟨v59, e59, h⟩ := bO_some h
    refine ww_getR 59 X dX13_getPoint_59 fG_X13_126 e59 ?_
    refine ww_aload_n 62 X dX13_getPoint_62 0 rfl rfl ?_
    obtain ⟨v63, e63, h⟩ := bO_some h
    refine ww_getR 63 X dX13_getPoint_63 fG_X13_162 e63 ?_
    refine ww_aload_n 66 X dX13_getPoint_66 0 rfl rfl ?_
    obtain ⟨v67, e67, h⟩ := bO_some h
    refine ww_getR 67 X dX13_getPoint_67 fG_X13_174 e67 ?_
    refine ww_aload_n 70 X dX13_getPoint_70 0 rfl rfl ?_
    obtain ⟨v71, e71, h⟩ := bO_some h
    refine ww_getR 71 X dX13_getPoint_71 fG_X13_177 e71 ?_
    obtain ⟨_, f74, h⟩ := bO_some h
    obtain ⟨M74, e74, h⟩ := bO_some h
    refine ww_callVV0 74 X dX13_getPoint_74 mY_X12_product mL_X13_736 (rcv_spec f74) ⟨_, _, rfl⟩ (by decide) (As := [.ref v63, .ref v67, .ref v71]) (rest := []) rfl rfl ⟨Nat.le_of_ble_eq_true rfl, Nat.le_of_ble_eq_true rfl⟩ (Nat.le_of_ble_eq_true rfl) (fun l D A => c_X12_product l D A e74) ?_
    refine ww_aload_n 77 X dX13_getPoint_77 0 rfl rfl ?_
    obtain ⟨v78, e78, h⟩ := bO_some h
    refine ww_getR 78 X dX13_getPoint_78 fG_X13_126 e78 ?_
    refine ww_aload_n 81 X dX13_getPoint_81 0 rfl rfl ?_
    obtain ⟨v82, e82, h⟩ := bO_some h
    refine ww_getR 82 X dX13_getPoint_82 fG_X13_174 e82 ?_
    refine ww_aload_n 85 X dX13_getPoint_85 0 rfl rfl ?_
    obtain ⟨v86, e86, h⟩ := bO_some h
    refine ww_getR 86 X dX13_getPoint_86 fG_X13_171 e86 ?_
    refine ww_aload_n 89 X dX13_getPoint_89 0 rfl rfl ?_
    obtain ⟨v90, e90, h⟩ := bO_some h
    refine ww_getR 90 X dX13_getPoint_90 fG_X13_174 e90 ?_
    obtain ⟨_, f93, h⟩ := bO_some h
    obtain ⟨M93, e93, h⟩ := bO_some h
    refine ww_callVV0 93 X dX13_getPoint_93 mY_X12_product mL_X13_736 (rcv_spec f93) ⟨_, _, rfl⟩ (by decide) (As := [.ref v82, .ref v86, .ref v90]) (rest := []) rfl rfl ⟨Nat.le_of_ble_eq_true rfl, Nat.le_of_ble_eq_true rfl⟩ (Nat.le_of_ble_eq_true rfl) (fun l D A => c_X12_product l D A e93) ?_
    refine ww_aload_n 96 X dX13_getPoint_96 0 rfl rfl ?_
    obtain ⟨v97, e97, h⟩ := bO_some h
    refine ww_getR 97 X dX13_getPoint_97 fG_X13_126 e97 ?_
    refine ww_aload_n 100 X dX13_getPoint_100 0 rfl rfl ?_
    obtain ⟨v101, e101, h⟩ := bO_some h
    refine ww_getR 101 X dX13_getPoint_101 fG_X13_165 e101 ?_
    refine ww_aload_n 104 X dX13_getPoint_104 0 rfl rfl ?_
    obtain ⟨v105, e105, h⟩ := bO_some h
    refine ww_getR 105 X dX13_getPoint_105 fG_X13_174 e105 ?_
    refine ww_aload_n 108 X dX13_getPoint_108 0 rfl rfl ?_
    obtain ⟨v109, e109, h⟩ := bO_some h
    refine ww_getR 109 X dX13_getPoint_109 fG_X13_180 e109 ?_
    obtain ⟨_, f112, h⟩ := bO_some h
    obtain ⟨M112, e112, h⟩ := bO_some h
    refine ww_callVV0 112 X dX13_getPoint_112 mY_X12_product mL_X13_736 (rcv_spec f112) ⟨_, _, rfl⟩ (by decide) (As := [.ref v101, .ref v105, .ref v109]) (rest := []) rfl rfl ⟨Nat.le_of_ble_eq_true rfl, Nat.le_of_ble_eq_true rfl⟩ (Nat.le_of_ble_eq_true rfl) (fun l D A => c_X12_product l D A e112) ?_
    refine ww_aload_n 115 X dX13_getPoint_115 0 rfl rfl ?_
    obtain ⟨v116, e116, h⟩ := bO_some h
    refine ww_getR 116 X dX13_getPoint_116 fG_X13_126 e116 ?_
    refine ww_aload_n 119 X dX13_getPoint_119 0 rfl rfl ?_
    obtain ⟨v120, e120, h⟩ := bO_some h
    refine ww_getR 120 X dX13_getPoint_120 fG_X13_177 e120 ?_
    refine ww_aload_n 123 X dX13_getPoint_123 0 rfl rfl ?_
    obtain ⟨v124, e124, h⟩ := bO_some h
    refine ww_getR 124 X dX13_getPoint_124 fG_X13_177 e124 ?_
    obtain ⟨_, f127, h⟩ := bO_some h
    obtain ⟨M127, e127, h⟩ := bO_some h
    refine ww_callVV0 127 X dX13_getPoint_127 mY_X12_outOf mL_X13_702 (rcv_spec f127) ⟨_, _, rfl⟩ (by decide) (As := [.ref v120, .ref v124]) (rest := []) rfl rfl ⟨Nat.le_of_ble_eq_true rfl, Nat.le_of_ble_eq_true rfl⟩ (Nat.le_of_ble_eq_true rfl) (fun l D A => c_X12_outOf l D A e127) ?_
    refine ww_aload_n 130 X dX13_getPoint_130 0 rfl rfl ?_
    obtain ⟨v131, e131, h⟩ := bO_some h
    refine ww_getR 131 X dX13_getPoint_131 fG_X13_126 e131 ?_
    refine ww_aload_n 134 X dX13_getPoint_134 0 rfl rfl ?_
    obtain ⟨v135, e135, h⟩ := bO_some h
    refine ww_getR 135 X dX13_getPoint_135 fG_X13_180 e135 ?_
    refine ww_aload_n 138 X dX13_getPoint_138 0 rfl rfl ?_
    obtain ⟨v139, e139, h⟩ := bO_some h
    refine ww_getR 139 X dX13_getPoint_139 fG_X13_180 e139 ?_
    obtain ⟨_, f142, h⟩ := bO_some h
    obtain ⟨M142, e142, h⟩ := bO_some h
    refine ww_callVV0 142 X dX13_getPoint_142 mY_X12_outOf mL_X13_702 (rcv_spec f142) ⟨_, _, rfl⟩ (by decide) (As := [.ref v135, .ref v139]) (rest := []) rfl rfl ⟨Nat.le_of_ble_eq_true rfl, Nat.le_of_ble_eq_true rfl⟩ (Nat.le_of_ble_eq_true rfl) (fun l D A => c_X12_outOf l D A e142) ?_
    refine ww_aload_n 145 X dX13_getPoint_145 0 rfl rfl ?_
    obtain ⟨v146, e146, h⟩ := bO_some h
    refine ww_getR 146 X dX13_getPoint_146 fG_X13_126 e146 ?_
    refine ww_aload_n 149 X dX13_getPoint_149 0 rfl rfl ?_
    obtain ⟨v150, e150, h⟩ := bO_some h
    refine ww_getR 150 X dX13_getPoint_150 fG_X13_177 e150 ?_
    refine ww_aload_n 153 X dX13_getPoint_153 1 rfl rfl ?_
    refine ww_iload_n 154 X dX13_getPoint_154 2 rfl rfl ?_
    refine ww_bipush 155 X (v := (32 : Int32)) dX13_getPoint_155 (by decide) ?_
    obtain ⟨_, f157, h⟩ := bO_some h
    obtain ⟨M157, e157, h⟩ := bO_some h
    refine ww_callVV0 157 X dX13_getPoint_157 mY_X12_store mL_X13_705 (rcv_spec f157) ⟨_, _, rfl⟩ (by decide) (As := [.ref v150, .ref l1, .int l2, .int (32 : Int32)]) (rest := []) rfl rfl ⟨Nat.le_of_ble_eq_true rfl, Nat.le_of_ble_eq_true rfl⟩ (Nat.le_of_ble_eq_true rfl) (fun l D A => c_X12_store l D A e157) ?_
    refine ww_aload_n 160 X dX13_getPoint_160 0 rfl rfl ?_
    obtain ⟨v161, e161, h⟩ := bO_some h
    refine ww_getR 161 X dX13_getPoint_161 fG_X13_126 e161 ?_
    refine ww_aload_n 164 X dX13_getPoint_164 0 rfl rfl ?_
    obtain ⟨v165, e165, h⟩ := bO_some h
    refine ww_getR 165 X dX13_getPoint_165 fG_X13_180 e165 ?_
    refine ww_aload_n 168 X dX13_getPoint_168 1 rfl rfl ?_
    refine ww_iload_n 169 X dX13_getPoint_169 2 rfl rfl ?_
    refine ww_bipush 170 X (v := (32 : Int32)) dX13_getPoint_170 (by decide) ?_
    refine ww_iadd 172 X dX13_getPoint_172 ?_
    refine ww_bipush 173 X (v := (32 : Int32)) dX13_getPoint_173 (by decide) ?_
    obtain ⟨_, f175, h⟩ := bO_some h
    obtain ⟨M175, e175, h⟩ := bO_some h
    refine ww_callVV0 175 X dX13_getPoint_175 mY_X12_store mL_X13_705 (rcv_spec f175) ⟨_, _, rfl⟩ (by decide) (As := [.ref v165, .ref l1, .int (l2 + (32 : Int32)), .int (32 : Int32)]) (rest := []) rfl rfl ⟨Nat.le_of_ble_eq_true rfl, Nat.le_of_ble_eq_true rfl⟩ (Nat.le_of_ble_eq_true rfl) (fun l D A => c_X12_store l D A e175) ?_
    refine ww_iconst 178 X (v := (1 : Int32)) dX13_getPoint_178 (by decide) ?_
    exact ww_zretE 179 X hQ dX13_getPoint_179 h
  · replace h := (if_neg q).symm.trans h
    refine ww_iconst 7 X (v := (0 : Int32)) dX13_getPoint_7 (by decide) ?_
    exact ww_zretE 8 X hQ dX13_getPoint_8 h
theorem c_X13_getPoint {G : mG} {F sz : Nat} {r0 : Int32} {M0 : mM} (l : Launch) (D : mD) (A : Nat → Prop) {l0 : Nat} {l1 : Nat} {l2 : Int32} {M : mM} (h : P_X13_getPoint G F l0 l1 l2 M = some (r0, M0)) : mMetI l D G A yX13_getPoint cX13_getPoint 3 (some .boolean) 3 85 0 0 [.ref l0, .ref l1, .int l2] M sz r0 M0 sz := mMetI_of l D G A (by decide) (Nat.le_of_ble_eq_true rfl) (fun x X hQ => wP_X13_getPoint X hQ h)
