/-! SealedTokensModel$Mod.subtract([I[I[I)V -/
theorem dX12_subtract_0 : decode cX12_subtract 0 = .ok (.lconst 0, 1) := by decide +kernel
theorem dX12_subtract_1 : decode cX12_subtract 1 = .ok (.lstore 4, 2) := by decide +kernel
theorem dX12_subtract_3 : decode cX12_subtract 3 = .ok (.iconst 0, 1) := by decide +kernel
theorem dX12_subtract_4 : decode cX12_subtract 4 = .ok (.istore 6, 2) := by decide +kernel
theorem dX12_subtract_6 : decode cX12_subtract 6 = .ok (.iload 6, 2) := by decide +kernel
theorem dX12_subtract_8 : decode cX12_subtract 8 = .ok (.aload_n 0, 1) := by decide +kernel
theorem dX12_subtract_9 : decode cX12_subtract 9 = .ok (.getfield 31, 3) := by decide +kernel
theorem dX12_subtract_12 : decode cX12_subtract 12 = .ok (.if_icmp .ge 54, 3) := by decide +kernel
theorem dX12_subtract_15 : decode cX12_subtract 15 = .ok (.aload_n 1, 1) := by decide +kernel
theorem dX12_subtract_16 : decode cX12_subtract 16 = .ok (.iload 6, 2) := by decide +kernel
theorem dX12_subtract_18 : decode cX12_subtract 18 = .ok (.iaload, 1) := by decide +kernel
theorem dX12_subtract_19 : decode cX12_subtract 19 = .ok (.i2l, 1) := by decide +kernel
theorem dX12_subtract_20 : decode cX12_subtract 20 = .ok (.ldc2_w 47, 3) := by decide +kernel
theorem dX12_subtract_23 : decode cX12_subtract 23 = .ok (.land, 1) := by decide +kernel
theorem dX12_subtract_24 : decode cX12_subtract 24 = .ok (.aload_n 2, 1) := by decide +kernel
theorem dX12_subtract_25 : decode cX12_subtract 25 = .ok (.iload 6, 2) := by decide +kernel
theorem dX12_subtract_27 : decode cX12_subtract 27 = .ok (.iaload, 1) := by decide +kernel
theorem dX12_subtract_28 : decode cX12_subtract 28 = .ok (.i2l, 1) := by decide +kernel
theorem dX12_subtract_29 : decode cX12_subtract 29 = .ok (.ldc2_w 47, 3) := by decide +kernel
theorem dX12_subtract_32 : decode cX12_subtract 32 = .ok (.land, 1) := by decide +kernel
theorem dX12_subtract_33 : decode cX12_subtract 33 = .ok (.lsub, 1) := by decide +kernel
theorem dX12_subtract_34 : decode cX12_subtract 34 = .ok (.lload 4, 2) := by decide +kernel
theorem dX12_subtract_36 : decode cX12_subtract 36 = .ok (.lsub, 1) := by decide +kernel
theorem dX12_subtract_37 : decode cX12_subtract 37 = .ok (.lstore 7, 2) := by decide +kernel
theorem dX12_subtract_39 : decode cX12_subtract 39 = .ok (.aload_n 3, 1) := by decide +kernel
theorem dX12_subtract_40 : decode cX12_subtract 40 = .ok (.iload 6, 2) := by decide +kernel
theorem dX12_subtract_42 : decode cX12_subtract 42 = .ok (.lload 7, 2) := by decide +kernel
theorem dX12_subtract_44 : decode cX12_subtract 44 = .ok (.l2i, 1) := by decide +kernel
theorem dX12_subtract_45 : decode cX12_subtract 45 = .ok (.iastore, 1) := by decide +kernel
theorem dX12_subtract_46 : decode cX12_subtract 46 = .ok (.lload 7, 2) := by decide +kernel
theorem dX12_subtract_48 : decode cX12_subtract 48 = .ok (.lconst 0, 1) := by decide +kernel
theorem dX12_subtract_49 : decode cX12_subtract 49 = .ok (.lcmp, 1) := by decide +kernel
theorem dX12_subtract_50 : decode cX12_subtract 50 = .ok (.ifCond .ge 7, 3) := by decide +kernel
theorem dX12_subtract_53 : decode cX12_subtract 53 = .ok (.lconst 1, 1) := by decide +kernel
theorem dX12_subtract_54 : decode cX12_subtract 54 = .ok (.goto 4, 3) := by decide +kernel
theorem dX12_subtract_57 : decode cX12_subtract 57 = .ok (.lconst 0, 1) := by decide +kernel
theorem dX12_subtract_58 : decode cX12_subtract 58 = .ok (.lstore 4, 2) := by decide +kernel
theorem dX12_subtract_60 : decode cX12_subtract 60 = .ok (.iinc 6 1, 3) := by decide +kernel
theorem dX12_subtract_63 : decode cX12_subtract 63 = .ok (.goto (-57), 3) := by decide +kernel
theorem dX12_subtract_66 : decode cX12_subtract 66 = .ok (.lconst 0, 1) := by decide +kernel
theorem dX12_subtract_67 : decode cX12_subtract 67 = .ok (.lstore 6, 2) := by decide +kernel
theorem dX12_subtract_69 : decode cX12_subtract 69 = .ok (.iconst 0, 1) := by decide +kernel
theorem dX12_subtract_70 : decode cX12_subtract 70 = .ok (.istore 8, 2) := by decide +kernel
theorem dX12_subtract_72 : decode cX12_subtract 72 = .ok (.iload 8, 2) := by decide +kernel
theorem dX12_subtract_74 : decode cX12_subtract 74 = .ok (.aload_n 0, 1) := by decide +kernel
theorem dX12_subtract_75 : decode cX12_subtract 75 = .ok (.getfield 31, 3) := by decide +kernel
theorem dX12_subtract_78 : decode cX12_subtract 78 = .ok (.if_icmp .ge 57, 3) := by decide +kernel
theorem dX12_subtract_81 : decode cX12_subtract 81 = .ok (.lload 4, 2) := by decide +kernel
theorem dX12_subtract_83 : decode cX12_subtract 83 = .ok (.lconst 1, 1) := by decide +kernel
theorem dX12_subtract_84 : decode cX12_subtract 84 = .ok (.lcmp, 1) := by decide +kernel
theorem dX12_subtract_85 : decode cX12_subtract 85 = .ok (.ifCond .ne 50, 3) := by decide +kernel
theorem dX12_subtract_88 : decode cX12_subtract 88 = .ok (.aload_n 3, 1) := by decide +kernel
theorem dX12_subtract_89 : decode cX12_subtract 89 = .ok (.iload 8, 2) := by decide +kernel
theorem dX12_subtract_91 : decode cX12_subtract 91 = .ok (.iaload, 1) := by decide +kernel
theorem dX12_subtract_92 : decode cX12_subtract 92 = .ok (.i2l, 1) := by decide +kernel
theorem dX12_subtract_93 : decode cX12_subtract 93 = .ok (.ldc2_w 47, 3) := by decide +kernel
theorem dX12_subtract_96 : decode cX12_subtract 96 = .ok (.land, 1) := by decide +kernel
theorem dX12_subtract_97 : decode cX12_subtract 97 = .ok (.aload_n 0, 1) := by decide +kernel
theorem dX12_subtract_98 : decode cX12_subtract 98 = .ok (.getfield 7, 3) := by decide +kernel
theorem dX12_subtract_101 : decode cX12_subtract 101 = .ok (.iload 8, 2) := by decide +kernel
theorem dX12_subtract_103 : decode cX12_subtract 103 = .ok (.iaload, 1) := by decide +kernel
theorem dX12_subtract_104 : decode cX12_subtract 104 = .ok (.i2l, 1) := by decide +kernel
theorem dX12_subtract_105 : decode cX12_subtract 105 = .ok (.ldc2_w 47, 3) := by decide +kernel
theorem dX12_subtract_108 : decode cX12_subtract 108 = .ok (.land, 1) := by decide +kernel
theorem dX12_subtract_109 : decode cX12_subtract 109 = .ok (.ladd, 1) := by decide +kernel
theorem dX12_subtract_110 : decode cX12_subtract 110 = .ok (.lload 6, 2) := by decide +kernel
theorem dX12_subtract_112 : decode cX12_subtract 112 = .ok (.ladd, 1) := by decide +kernel
theorem dX12_subtract_113 : decode cX12_subtract 113 = .ok (.lstore 9, 2) := by decide +kernel
theorem dX12_subtract_115 : decode cX12_subtract 115 = .ok (.aload_n 3, 1) := by decide +kernel
theorem dX12_subtract_116 : decode cX12_subtract 116 = .ok (.iload 8, 2) := by decide +kernel
theorem dX12_subtract_118 : decode cX12_subtract 118 = .ok (.lload 9, 2) := by decide +kernel
theorem dX12_subtract_120 : decode cX12_subtract 120 = .ok (.l2i, 1) := by decide +kernel
theorem dX12_subtract_121 : decode cX12_subtract 121 = .ok (.iastore, 1) := by decide +kernel
theorem dX12_subtract_122 : decode cX12_subtract 122 = .ok (.lload 9, 2) := by decide +kernel
theorem dX12_subtract_124 : decode cX12_subtract 124 = .ok (.bipush 32, 2) := by decide +kernel
theorem dX12_subtract_126 : decode cX12_subtract 126 = .ok (.lushr, 1) := by decide +kernel
theorem dX12_subtract_127 : decode cX12_subtract 127 = .ok (.lstore 6, 2) := by decide +kernel
theorem dX12_subtract_129 : decode cX12_subtract 129 = .ok (.iinc 8 1, 3) := by decide +kernel
theorem dX12_subtract_132 : decode cX12_subtract 132 = .ok (.goto (-60), 3) := by decide +kernel
theorem dX12_subtract_135 : decode cX12_subtract 135 = .ok (.return_, 1) := by decide +kernel
abbrev rmX12_subtract : Room := { frames := 0, cells := 0, slots := 0, locals := 0 }
set_option maxHeartbeats 4000000 in
set_option maxRecDepth 100000 in
theorem wB_X12_subtract_72 {G : mG} {F : Nat} {x : mXT} {sz : Nat} {M0 : mM} (X : mCX G RX12 cX12_subtract 11 none "subtract" rmX12_subtract x) (hQ : mQV x M0 (sz, 0, 0)) : ∀ (n : Nat) (l0 : Nat) (l3 : Nat) (l4 : Int64) (l6 : Int64) (l8 : Int32) (M : mM), B_X12_subtract_72 G F n l0 l3 l4 l6 l8 M = some M0 → WW x (sz, 0, 0) M 72 [(0, .ref l0), (3, .ref l3), (4, .long l4), (6, .long l6), (8, .int l8)] [] := by
  intro n
  induction n with
  | zero =>
    intro l0 l3 l4 l6 l8 M h
    exact nomatch (show (none : Option mM) = some M0 from h)
  | succ n ih =>
    intro l0 l3 l4 l6 l8 M h
    rw [B_X12_subtract_72] at h
    refine ww_iload 72 X dX12_subtract_72 4 rfl ?_
    refine ww_aload_n 74 X dX12_subtract_74 0 rfl rfl ?_
    obtain ⟨v75, e75, h⟩ := bO_some h
    refine ww_getI 75 X dX12_subtract_75 fG_X12_31 e75 ?_
    refine ww_icmp_ge 78 135 X dX12_subtract_78 (by decide) (fun q => ?_) (fun q => ?_)
    · replace h := (if_pos q).symm.trans h
      exact ww_vretE 135 X hQ dX12_subtract_135 h
    · replace h := (if_neg q).symm.trans h
      refine ww_lload 81 X dX12_subtract_81 2 rfl ?_
      refine ww_lconst 83 X (v := (1 : Int64)) dX12_subtract_83 (by decide) ?_
      refine ww_lcmp 84 X dX12_subtract_84 ?_
      refine ww_if_ne 85 135 X dX12_subtract_85 (by decide) (fun q => ?_) (fun q => ?_)
      · replace h := (if_neg q).symm.trans h
        exact ww_vretE 135 X hQ dX12_subtract_135 h
      · replace h := (if_pos q).symm.trans h
        refine ww_aload_n 88 X dX12_subtract_88 1 rfl rfl ?_
        refine ww_iload 89 X dX12_subtract_89 4 rfl ?_
        obtain ⟨v91, e91, h⟩ := bO_some h
        refine ww_iald 91 X dX12_subtract_91 e91 ?_
        refine ww_i2l 92 X dX12_subtract_92 ?_
        refine ww_ldc2 93 X (v := (4294967295 : Int64)) dX12_subtract_93 kL_X12_47 ?_
        refine ww_land 96 X dX12_subtract_96 ?_
        refine ww_aload_n 97 X dX12_subtract_97 0 rfl rfl ?_
        obtain ⟨v98, e98, h⟩ := bO_some h
        refine ww_getR 98 X dX12_subtract_98 fG_X12_7 e98 ?_
        refine ww_iload 101 X dX12_subtract_101 4 rfl ?_
        obtain ⟨v103, e103, h⟩ := bO_some h
        refine ww_iald 103 X dX12_subtract_103 e103 ?_
        refine ww_i2l 104 X dX12_subtract_104 ?_
        refine ww_ldc2 105 X (v := (4294967295 : Int64)) dX12_subtract_105 kL_X12_47 ?_
        refine ww_land 108 X dX12_subtract_108 ?_
        refine ww_ladd 109 X dX12_subtract_109 ?_
        refine ww_lload 110 X dX12_subtract_110 3 rfl ?_
        refine ww_ladd 112 X dX12_subtract_112 ?_
        refine ww_lstore 113 X dX12_subtract_113 (lv' := [(0, .ref l0), (3, .ref l3), (4, .long l4), (6, .long l6), (8, .int l8), (9, .long ((((v91.toInt64) &&& (4294967295 : Int64)) + ((v103.toInt64) &&& (4294967295 : Int64))) + l6))]) (by decide) [1, 2, 3, 4, 5, 0] rfl ?_
        refine ww_aload_n 115 X dX12_subtract_115 1 rfl rfl ?_
        refine ww_iload 116 X dX12_subtract_116 4 rfl ?_
        refine ww_lload 118 X dX12_subtract_118 5 rfl ?_
        refine ww_l2i 120 X dX12_subtract_120 ?_
        obtain ⟨M121, e121, h⟩ := bO_some h
        refine ww_iast 121 X dX12_subtract_121 e121 ?_
        refine ww_lload 122 X dX12_subtract_122 5 rfl ?_
        refine ww_bipush 124 X (v := (32 : Int32)) dX12_subtract_124 (by decide) ?_
        refine ww_lushr 126 X dX12_subtract_126 ?_
        refine ww_lstore 127 X dX12_subtract_127 (lv' := [(0, .ref l0), (3, .ref l3), (4, .long l4), (6, .long (ushL ((((v91.toInt64) &&& (4294967295 : Int64)) + ((v103.toInt64) &&& (4294967295 : Int64))) + l6) (32 : Int32))), (8, .int l8), (9, .long ((((v91.toInt64) &&& (4294967295 : Int64)) + ((v103.toInt64) &&& (4294967295 : Int64))) + l6))]) (by decide) [1, 2, 3, 0, 4, 5] rfl ?_
        refine ww_iinc 129 X dX12_subtract_129 (lv' := [(0, .ref l0), (3, .ref l3), (4, .long l4), (6, .long (ushL ((((v91.toInt64) &&& (4294967295 : Int64)) + ((v103.toInt64) &&& (4294967295 : Int64))) + l6) (32 : Int32))), (8, .int (l8 + 1)), (9, .long ((((v91.toInt64) &&& (4294967295 : Int64)) + ((v103.toInt64) &&& (4294967295 : Int64))) + l6))]) 4 rfl rfl (by decide) [1, 2, 3, 4, 0, 5] rfl ?_
        refine ww_goto 132 72 X dX12_subtract_132 (by decide) ?_
        exact ww_sub [0, 1, 2, 3, 4] rfl (ih _ _ _ _ _ _ h)
set_option maxHeartbeats 4000000 in
set_option maxRecDepth 100000 in
theorem wB_X12_subtract_6 {G : mG} {F : Nat} {x : mXT} {sz : Nat} {M0 : mM} (X : mCX G RX12 cX12_subtract 11 none "subtract" rmX12_subtract x) (hQ : mQV x M0 (sz, 0, 0)) : ∀ (n : Nat) (l0 : Nat) (l1 : Nat) (l2 : Nat) (l3 : Nat) (l4 : Int64) (l6 : Int32) (M : mM), B_X12_subtract_6 G F n l0 l1 l2 l3 l4 l6 M = some M0 → WW x (sz, 0, 0) M 6 [(0, .ref l0), (1, .ref l1), (2, .ref l2), (3, .ref l3), (4, .long l4), (6, .int l6)] [] := by
  intro n
  induction n with
  | zero =>
    intro l0 l1 l2 l3 l4 l6 M h
    exact nomatch (show (none : Option mM) = some M0 from h)
  | succ n ih =>
    intro l0 l1 l2 l3 l4 l6 M h
    rw [B_X12_subtract_6] at h
    refine ww_iload 6 X dX12_subtract_6 5 rfl ?_
    refine ww_aload_n 8 X dX12_subtract_8 0 rfl rfl ?_
    obtain ⟨v9, e9, h⟩ := bO_some h
    refine ww_getI 9 X dX12_subtract_9 fG_X12_31 e9 ?_
    refine ww_icmp_ge 12 66 X dX12_subtract_12 (by decide) (fun q => ?_) (fun q => ?_)
    · replace h := (if_pos q).symm.trans h
      refine ww_lconst 66 X (v := (0 : Int64)) dX12_subtract_66 (by decide) ?_
      refine ww_lstore 67 X dX12_subtract_67 (lv' := [(0, .ref l0), (1, .ref l1), (2, .ref l2), (3, .ref l3), (4, .long l4), (6, .long (0 : Int64))]) (by decide) [1, 2, 3, 4, 5, 0] rfl ?_
      refine ww_iconst 69 X (v := (0 : Int32)) dX12_subtract_69 (by decide) ?_
      refine ww_istore 70 X dX12_subtract_70 (lv' := [(0, .ref l0), (1, .ref l1), (2, .ref l2), (3, .ref l3), (4, .long l4), (6, .long (0 : Int64)), (8, .int (0 : Int32))]) (by decide) [1, 2, 3, 4, 5, 6, 0] rfl ?_
      exact ww_sub [0, 3, 4, 5, 6] rfl (wB_X12_subtract_72 X hQ F _ _ _ _ _ _ h)
    · replace h := (if_neg q).symm.trans h
      refine ww_aload_n 15 X dX12_subtract_15 1 rfl rfl ?_
      refine ww_iload 16 X dX12_subtract_16 5 rfl ?_
      obtain ⟨v18, e18, h⟩ := bO_some h
      refine ww_iald 18 X dX12_subtract_18 e18 ?_
      refine ww_i2l 19 X dX12_subtract_19 ?_
      refine ww_ldc2 20 X (v := (4294967295 : Int64)) dX12_subtract_20 kL_X12_47 ?_
      refine ww_land 23 X dX12_subtract_23 ?_
      refine ww_aload_n 24 X dX12_subtract_24 2 rfl rfl ?_
      refine ww_iload 25 X dX12_subtract_25 5 rfl ?_
      obtain ⟨v27, e27, h⟩ := bO_some h
      refine ww_iald 27 X dX12_subtract_27 e27 ?_
      refine ww_i2l 28 X dX12_subtract_28 ?_
      refine ww_ldc2 29 X (v := (4294967295 : Int64)) dX12_subtract_29 kL_X12_47 ?_
      refine ww_land 32 X dX12_subtract_32 ?_
      refine ww_lsub 33 X dX12_subtract_33 ?_
      refine ww_lload 34 X dX12_subtract_34 4 rfl ?_
      refine ww_lsub 36 X dX12_subtract_36 ?_
      refine ww_lstore 37 X dX12_subtract_37 (lv' := [(0, .ref l0), (1, .ref l1), (2, .ref l2), (3, .ref l3), (4, .long l4), (6, .int l6), (7, .long ((((v18.toInt64) &&& (4294967295 : Int64)) - ((v27.toInt64) &&& (4294967295 : Int64))) - l4))]) (by decide) [1, 2, 3, 4, 5, 6, 0] rfl ?_
      refine ww_aload_n 39 X dX12_subtract_39 3 rfl rfl ?_
      refine ww_iload 40 X dX12_subtract_40 5 rfl ?_
      refine ww_lload 42 X dX12_subtract_42 6 rfl ?_
      refine ww_l2i 44 X dX12_subtract_44 ?_
      obtain ⟨M45, e45, h⟩ := bO_some h
      refine ww_iast 45 X dX12_subtract_45 e45 ?_
      refine ww_lload 46 X dX12_subtract_46 6 rfl ?_
      refine ww_lconst 48 X (v := (0 : Int64)) dX12_subtract_48 (by decide) ?_
      refine ww_lcmp 49 X dX12_subtract_49 ?_
      refine ww_if_ge 50 57 X dX12_subtract_50 (by decide) (fun q => ?_) (fun q => ?_)
      · replace h := (if_pos q).symm.trans h
        refine ww_lconst 57 X (v := (0 : Int64)) dX12_subtract_57 (by decide) ?_
        refine ww_lstore 58 X dX12_subtract_58 (lv' := [(0, .ref l0), (1, .ref l1), (2, .ref l2), (3, .ref l3), (4, .long (0 : Int64)), (6, .int l6), (7, .long ((((v18.toInt64) &&& (4294967295 : Int64)) - ((v27.toInt64) &&& (4294967295 : Int64))) - l4))]) (by decide) [1, 2, 3, 4, 0, 5, 6] rfl ?_
        refine ww_iinc 60 X dX12_subtract_60 (lv' := [(0, .ref l0), (1, .ref l1), (2, .ref l2), (3, .ref l3), (4, .long (0 : Int64)), (6, .int (l6 + 1)), (7, .long ((((v18.toInt64) &&& (4294967295 : Int64)) - ((v27.toInt64) &&& (4294967295 : Int64))) - l4))]) 5 rfl rfl (by decide) [1, 2, 3, 4, 5, 0, 6] rfl ?_
        refine ww_goto 63 6 X dX12_subtract_63 (by decide) ?_
        exact ww_sub [0, 1, 2, 3, 4, 5] rfl (ih _ _ _ _ _ _ _ h)
      · replace h := (if_neg q).symm.trans h
        refine ww_lconst 53 X (v := (1 : Int64)) dX12_subtract_53 (by decide) ?_
        refine ww_goto 54 58 X dX12_subtract_54 (by decide) ?_
        refine ww_lstore 58 X dX12_subtract_58 (lv' := [(0, .ref l0), (1, .ref l1), (2, .ref l2), (3, .ref l3), (4, .long (1 : Int64)), (6, .int l6), (7, .long ((((v18.toInt64) &&& (4294967295 : Int64)) - ((v27.toInt64) &&& (4294967295 : Int64))) - l4))]) (by decide) [1, 2, 3, 4, 0, 5, 6] rfl ?_
        refine ww_iinc 60 X dX12_subtract_60 (lv' := [(0, .ref l0), (1, .ref l1), (2, .ref l2), (3, .ref l3), (4, .long (1 : Int64)), (6, .int (l6 + 1)), (7, .long ((((v18.toInt64) &&& (4294967295 : Int64)) - ((v27.toInt64) &&& (4294967295 : Int64))) - l4))]) 5 rfl rfl (by decide) [1, 2, 3, 4, 5, 0, 6] rfl ?_
        refine ww_goto 63 6 X dX12_subtract_63 (by decide) ?_
        exact ww_sub [0, 1, 2, 3, 4, 5] rfl (ih _ _ _ _ _ _ _ h)
set_option maxHeartbeats 4000000 in
set_option maxRecDepth 100000 in
theorem wP_X12_subtract {G : mG} {F : Nat} {x : mXT} {sz : Nat} {M0 : mM} (X : mCX G RX12 cX12_subtract 11 none "subtract" rmX12_subtract x) (hQ : mQV x M0 (sz, 0, 0)) {l0 : Nat} {l1 : Nat} {l2 : Nat} {l3 : Nat} {M : mM} (h : P_X12_subtract G F l0 l1 l2 l3 M = some M0) : WW x (sz, 0, 0) M 0 [(0, .ref l0), (1, .ref l1), (2, .ref l2), (3, .ref l3)] [] := by
  unfold P_X12_subtract at h
  refine ww_lconst 0 X (v := (0 : Int64)) dX12_subtract_0 (by decide) ?_
  refine ww_lstore 1 X dX12_subtract_1 (lv' := [(0, .ref l0), (1, .ref l1), (2, .ref l2), (3, .ref l3), (4, .long (0 : Int64))]) (by decide) [1, 2, 3, 4, 0] rfl ?_
  refine ww_iconst 3 X (v := (0 : Int32)) dX12_subtract_3 (by decide) ?_
  refine ww_istore 4 X dX12_subtract_4 (lv' := [(0, .ref l0), (1, .ref l1), (2, .ref l2), (3, .ref l3), (4, .long (0 : Int64)), (6, .int (0 : Int32))]) (by decide) [1, 2, 3, 4, 5, 0] rfl ?_
  exact (wB_X12_subtract_6 X hQ F _ _ _ _ _ _ _ h)
theorem c_X12_subtract {G : mG} {F sz : Nat} {M0 : mM} (l : Launch) (D : mD) (A : Nat → Prop) {l0 : Nat} {l1 : Nat} {l2 : Nat} {l3 : Nat} {M : mM} (h : P_X12_subtract G F l0 l1 l2 l3 M = some M0) : mMetV l D G A yX12_subtract cX12_subtract 11 none 0 0 0 0 [.ref l0, .ref l1, .ref l2, .ref l3] M sz M0 sz := mMetV_of l D G A (by decide) (Nat.le_of_ble_eq_true rfl) (fun x X hQ => wP_X12_subtract X hQ h)
/-! SealedTokensModel$Mod.product([I[I[I)V -/
theorem dX12_product_0 : decode cX12_product 0 = .ok (.iconst 0, 1) := by decide +kernel
theorem dX12_product_1 : decode cX12_product 1 = .ok (.istore 4, 2) := by decide +kernel
theorem dX12_product_3 : decode cX12_product 3 = .ok (.iload 4, 2) := by decide +kernel
theorem dX12_product_5 : decode cX12_product 5 = .ok (.aload_n 0, 1) := by decide +kernel
theorem dX12_product_6 : decode cX12_product 6 = .ok (.getfield 31, 3) := by decide +kernel
theorem dX12_product_9 : decode cX12_product 9 = .ok (.iconst 1, 1) := by decide +kernel
theorem dX12_product_10 : decode cX12_product 10 = .ok (.iadd, 1) := by decide +kernel
theorem dX12_product_11 : decode cX12_product 11 = .ok (.if_icmp .gt 17, 3) := by decide +kernel
theorem dX12_product_14 : decode cX12_product 14 = .ok (.aload_n 0, 1) := by decide +kernel
theorem dX12_product_15 : decode cX12_product 15 = .ok (.getfield 19, 3) := by decide +kernel
theorem dX12_product_18 : decode cX12_product 18 = .ok (.iload 4, 2) := by decide +kernel
theorem dX12_product_20 : decode cX12_product 20 = .ok (.iconst 0, 1) := by decide +kernel
theorem dX12_product_21 : decode cX12_product 21 = .ok (.iastore, 1) := by decide +kernel
theorem dX12_product_22 : decode cX12_product 22 = .ok (.iinc 4 1, 3) := by decide +kernel
theorem dX12_product_25 : decode cX12_product 25 = .ok (.goto (-22), 3) := by decide +kernel
theorem dX12_product_28 : decode cX12_product 28 = .ok (.iconst 0, 1) := by decide +kernel
theorem dX12_product_29 : decode cX12_product 29 = .ok (.istore 4, 2) := by decide +kernel
theorem dX12_product_31 : decode cX12_product 31 = .ok (.iload 4, 2) := by decide +kernel
theorem dX12_product_33 : decode cX12_product 33 = .ok (.aload_n 0, 1) := by decide +kernel
theorem dX12_product_34 : decode cX12_product 34 = .ok (.getfield 31, 3) := by decide +kernel
theorem dX12_product_37 : decode cX12_product 37 = .ok (.if_icmp .ge 315, 3) := by decide +kernel
theorem dX12_product_40 : decode cX12_product 40 = .ok (.lconst 0, 1) := by decide +kernel
theorem dX12_product_41 : decode cX12_product 41 = .ok (.lstore 5, 2) := by decide +kernel
theorem dX12_product_43 : decode cX12_product 43 = .ok (.aload_n 1, 1) := by decide +kernel
theorem dX12_product_44 : decode cX12_product 44 = .ok (.iload 4, 2) := by decide +kernel
theorem dX12_product_46 : decode cX12_product 46 = .ok (.iaload, 1) := by decide +kernel
theorem dX12_product_47 : decode cX12_product 47 = .ok (.i2l, 1) := by decide +kernel
theorem dX12_product_48 : decode cX12_product 48 = .ok (.ldc2_w 47, 3) := by decide +kernel
theorem dX12_product_51 : decode cX12_product 51 = .ok (.land, 1) := by decide +kernel
theorem dX12_product_52 : decode cX12_product 52 = .ok (.lstore 7, 2) := by decide +kernel
theorem dX12_product_54 : decode cX12_product 54 = .ok (.iconst 0, 1) := by decide +kernel
theorem dX12_product_55 : decode cX12_product 55 = .ok (.istore 9, 2) := by decide +kernel
theorem dX12_product_57 : decode cX12_product 57 = .ok (.iload 9, 2) := by decide +kernel
theorem dX12_product_59 : decode cX12_product 59 = .ok (.aload_n 0, 1) := by decide +kernel
theorem dX12_product_60 : decode cX12_product 60 = .ok (.getfield 31, 3) := by decide +kernel
theorem dX12_product_63 : decode cX12_product 63 = .ok (.if_icmp .ge 56, 3) := by decide +kernel
theorem dX12_product_66 : decode cX12_product 66 = .ok (.aload_n 0, 1) := by decide +kernel
theorem dX12_product_67 : decode cX12_product 67 = .ok (.getfield 19, 3) := by decide +kernel
theorem dX12_product_70 : decode cX12_product 70 = .ok (.iload 9, 2) := by decide +kernel
theorem dX12_product_72 : decode cX12_product 72 = .ok (.iaload, 1) := by decide +kernel
theorem dX12_product_73 : decode cX12_product 73 = .ok (.i2l, 1) := by decide +kernel
theorem dX12_product_74 : decode cX12_product 74 = .ok (.ldc2_w 47, 3) := by decide +kernel
theorem dX12_product_77 : decode cX12_product 77 = .ok (.land, 1) := by decide +kernel
theorem dX12_product_78 : decode cX12_product 78 = .ok (.lload 7, 2) := by decide +kernel
theorem dX12_product_80 : decode cX12_product 80 = .ok (.aload_n 2, 1) := by decide +kernel
theorem dX12_product_81 : decode cX12_product 81 = .ok (.iload 9, 2) := by decide +kernel
theorem dX12_product_83 : decode cX12_product 83 = .ok (.iaload, 1) := by decide +kernel
theorem dX12_product_84 : decode cX12_product 84 = .ok (.i2l, 1) := by decide +kernel
theorem dX12_product_85 : decode cX12_product 85 = .ok (.ldc2_w 47, 3) := by decide +kernel
theorem dX12_product_88 : decode cX12_product 88 = .ok (.land, 1) := by decide +kernel
theorem dX12_product_89 : decode cX12_product 89 = .ok (.lmul, 1) := by decide +kernel
theorem dX12_product_90 : decode cX12_product 90 = .ok (.ladd, 1) := by decide +kernel
theorem dX12_product_91 : decode cX12_product 91 = .ok (.lload 5, 2) := by decide +kernel
theorem dX12_product_93 : decode cX12_product 93 = .ok (.ladd, 1) := by decide +kernel
theorem dX12_product_94 : decode cX12_product 94 = .ok (.lstore 10, 2) := by decide +kernel
theorem dX12_product_96 : decode cX12_product 96 = .ok (.aload_n 0, 1) := by decide +kernel
theorem dX12_product_97 : decode cX12_product 97 = .ok (.getfield 19, 3) := by decide +kernel
theorem dX12_product_100 : decode cX12_product 100 = .ok (.iload 9, 2) := by decide +kernel
theorem dX12_product_102 : decode cX12_product 102 = .ok (.lload 10, 2) := by decide +kernel
theorem dX12_product_104 : decode cX12_product 104 = .ok (.l2i, 1) := by decide +kernel
theorem dX12_product_105 : decode cX12_product 105 = .ok (.iastore, 1) := by decide +kernel
theorem dX12_product_106 : decode cX12_product 106 = .ok (.lload 10, 2) := by decide +kernel
theorem dX12_product_108 : decode cX12_product 108 = .ok (.bipush 32, 2) := by decide +kernel
theorem dX12_product_110 : decode cX12_product 110 = .ok (.lushr, 1) := by decide +kernel
theorem dX12_product_111 : decode cX12_product 111 = .ok (.lstore 5, 2) := by decide +kernel
theorem dX12_product_113 : decode cX12_product 113 = .ok (.iinc 9 1, 3) := by decide +kernel
theorem dX12_product_116 : decode cX12_product 116 = .ok (.goto (-59), 3) := by decide +kernel
theorem dX12_product_119 : decode cX12_product 119 = .ok (.aload_n 0, 1) := by decide +kernel
theorem dX12_product_120 : decode cX12_product 120 = .ok (.getfield 19, 3) := by decide +kernel
theorem dX12_product_123 : decode cX12_product 123 = .ok (.aload_n 0, 1) := by decide +kernel
theorem dX12_product_124 : decode cX12_product 124 = .ok (.getfield 31, 3) := by decide +kernel
theorem dX12_product_127 : decode cX12_product 127 = .ok (.iaload, 1) := by decide +kernel
theorem dX12_product_128 : decode cX12_product 128 = .ok (.i2l, 1) := by decide +kernel
theorem dX12_product_129 : decode cX12_product 129 = .ok (.ldc2_w 47, 3) := by decide +kernel
theorem dX12_product_132 : decode cX12_product 132 = .ok (.land, 1) := by decide +kernel
theorem dX12_product_133 : decode cX12_product 133 = .ok (.lload 5, 2) := by decide +kernel
theorem dX12_product_135 : decode cX12_product 135 = .ok (.ladd, 1) := by decide +kernel
theorem dX12_product_136 : decode cX12_product 136 = .ok (.lstore 9, 2) := by decide +kernel
theorem dX12_product_138 : decode cX12_product 138 = .ok (.aload_n 0, 1) := by decide +kernel
theorem dX12_product_139 : decode cX12_product 139 = .ok (.getfield 19, 3) := by decide +kernel
theorem dX12_product_142 : decode cX12_product 142 = .ok (.aload_n 0, 1) := by decide +kernel
theorem dX12_product_143 : decode cX12_product 143 = .ok (.getfield 31, 3) := by decide +kernel
theorem dX12_product_146 : decode cX12_product 146 = .ok (.lload 9, 2) := by decide +kernel
theorem dX12_product_148 : decode cX12_product 148 = .ok (.l2i, 1) := by decide +kernel
theorem dX12_product_149 : decode cX12_product 149 = .ok (.iastore, 1) := by decide +kernel
theorem dX12_product_150 : decode cX12_product 150 = .ok (.aload_n 0, 1) := by decide +kernel
theorem dX12_product_151 : decode cX12_product 151 = .ok (.getfield 19, 3) := by decide +kernel
theorem dX12_product_154 : decode cX12_product 154 = .ok (.aload_n 0, 1) := by decide +kernel
theorem dX12_product_155 : decode cX12_product 155 = .ok (.getfield 31, 3) := by decide +kernel
theorem dX12_product_158 : decode cX12_product 158 = .ok (.iconst 1, 1) := by decide +kernel
theorem dX12_product_159 : decode cX12_product 159 = .ok (.iadd, 1) := by decide +kernel
theorem dX12_product_160 : decode cX12_product 160 = .ok (.lload 9, 2) := by decide +kernel
theorem dX12_product_162 : decode cX12_product 162 = .ok (.bipush 32, 2) := by decide +kernel
theorem dX12_product_164 : decode cX12_product 164 = .ok (.lushr, 1) := by decide +kernel
theorem dX12_product_165 : decode cX12_product 165 = .ok (.l2i, 1) := by decide +kernel
theorem dX12_product_166 : decode cX12_product 166 = .ok (.iastore, 1) := by decide +kernel
theorem dX12_product_167 : decode cX12_product 167 = .ok (.aload_n 0, 1) := by decide +kernel
theorem dX12_product_168 : decode cX12_product 168 = .ok (.getfield 19, 3) := by decide +kernel
theorem dX12_product_171 : decode cX12_product 171 = .ok (.iconst 0, 1) := by decide +kernel
theorem dX12_product_172 : decode cX12_product 172 = .ok (.iaload, 1) := by decide +kernel
theorem dX12_product_173 : decode cX12_product 173 = .ok (.aload_n 0, 1) := by decide +kernel
theorem dX12_product_174 : decode cX12_product 174 = .ok (.getfield 39, 3) := by decide +kernel
theorem dX12_product_177 : decode cX12_product 177 = .ok (.imul, 1) := by decide +kernel
theorem dX12_product_178 : decode cX12_product 178 = .ok (.i2l, 1) := by decide +kernel
theorem dX12_product_179 : decode cX12_product 179 = .ok (.ldc2_w 47, 3) := by decide +kernel
theorem dX12_product_182 : decode cX12_product 182 = .ok (.land, 1) := by decide +kernel
theorem dX12_product_183 : decode cX12_product 183 = .ok (.lstore 11, 2) := by decide +kernel
theorem dX12_product_185 : decode cX12_product 185 = .ok (.aload_n 0, 1) := by decide +kernel
theorem dX12_product_186 : decode cX12_product 186 = .ok (.getfield 19, 3) := by decide +kernel
theorem dX12_product_189 : decode cX12_product 189 = .ok (.iconst 0, 1) := by decide +kernel
theorem dX12_product_190 : decode cX12_product 190 = .ok (.iaload, 1) := by decide +kernel
theorem dX12_product_191 : decode cX12_product 191 = .ok (.i2l, 1) := by decide +kernel
theorem dX12_product_192 : decode cX12_product 192 = .ok (.ldc2_w 47, 3) := by decide +kernel
theorem dX12_product_195 : decode cX12_product 195 = .ok (.land, 1) := by decide +kernel
theorem dX12_product_196 : decode cX12_product 196 = .ok (.lload 11, 2) := by decide +kernel
theorem dX12_product_198 : decode cX12_product 198 = .ok (.aload_n 0, 1) := by decide +kernel
theorem dX12_product_199 : decode cX12_product 199 = .ok (.getfield 7, 3) := by decide +kernel
theorem dX12_product_202 : decode cX12_product 202 = .ok (.iconst 0, 1) := by decide +kernel
theorem dX12_product_203 : decode cX12_product 203 = .ok (.iaload, 1) := by decide +kernel
theorem dX12_product_204 : decode cX12_product 204 = .ok (.i2l, 1) := by decide +kernel
theorem dX12_product_205 : decode cX12_product 205 = .ok (.ldc2_w 47, 3) := by decide +kernel
theorem dX12_product_208 : decode cX12_product 208 = .ok (.land, 1) := by decide +kernel
theorem dX12_product_209 : decode cX12_product 209 = .ok (.lmul, 1) := by decide +kernel
theorem dX12_product_210 : decode cX12_product 210 = .ok (.ladd, 1) := by decide +kernel
theorem dX12_product_211 : decode cX12_product 211 = .ok (.bipush 32, 2) := by decide +kernel
theorem dX12_product_213 : decode cX12_product 213 = .ok (.lushr, 1) := by decide +kernel
theorem dX12_product_214 : decode cX12_product 214 = .ok (.lstore 5, 2) := by decide +kernel
theorem dX12_product_216 : decode cX12_product 216 = .ok (.iconst 1, 1) := by decide +kernel
theorem dX12_product_217 : decode cX12_product 217 = .ok (.istore 13, 2) := by decide +kernel
theorem dX12_product_219 : decode cX12_product 219 = .ok (.iload 13, 2) := by decide +kernel
theorem dX12_product_221 : decode cX12_product 221 = .ok (.aload_n 0, 1) := by decide +kernel
theorem dX12_product_222 : decode cX12_product 222 = .ok (.getfield 31, 3) := by decide +kernel
theorem dX12_product_225 : decode cX12_product 225 = .ok (.if_icmp .ge 61, 3) := by decide +kernel
theorem dX12_product_228 : decode cX12_product 228 = .ok (.aload_n 0, 1) := by decide +kernel
theorem dX12_product_229 : decode cX12_product 229 = .ok (.getfield 19, 3) := by decide +kernel
theorem dX12_product_232 : decode cX12_product 232 = .ok (.iload 13, 2) := by decide +kernel
theorem dX12_product_234 : decode cX12_product 234 = .ok (.iaload, 1) := by decide +kernel
theorem dX12_product_235 : decode cX12_product 235 = .ok (.i2l, 1) := by decide +kernel
theorem dX12_product_236 : decode cX12_product 236 = .ok (.ldc2_w 47, 3) := by decide +kernel
theorem dX12_product_239 : decode cX12_product 239 = .ok (.land, 1) := by decide +kernel
theorem dX12_product_240 : decode cX12_product 240 = .ok (.lload 11, 2) := by decide +kernel
theorem dX12_product_242 : decode cX12_product 242 = .ok (.aload_n 0, 1) := by decide +kernel
theorem dX12_product_243 : decode cX12_product 243 = .ok (.getfield 7, 3) := by decide +kernel
theorem dX12_product_246 : decode cX12_product 246 = .ok (.iload 13, 2) := by decide +kernel
theorem dX12_product_248 : decode cX12_product 248 = .ok (.iaload, 1) := by decide +kernel
theorem dX12_product_249 : decode cX12_product 249 = .ok (.i2l, 1) := by decide +kernel
theorem dX12_product_250 : decode cX12_product 250 = .ok (.ldc2_w 47, 3) := by decide +kernel
theorem dX12_product_253 : decode cX12_product 253 = .ok (.land, 1) := by decide +kernel
theorem dX12_product_254 : decode cX12_product 254 = .ok (.lmul, 1) := by decide +kernel
theorem dX12_product_255 : decode cX12_product 255 = .ok (.ladd, 1) := by decide +kernel
theorem dX12_product_256 : decode cX12_product 256 = .ok (.lload 5, 2) := by decide +kernel
theorem dX12_product_258 : decode cX12_product 258 = .ok (.ladd, 1) := by decide +kernel
theorem dX12_product_259 : decode cX12_product 259 = .ok (.lstore 9, 2) := by decide +kernel
theorem dX12_product_261 : decode cX12_product 261 = .ok (.aload_n 0, 1) := by decide +kernel
theorem dX12_product_262 : decode cX12_product 262 = .ok (.getfield 19, 3) := by decide +kernel
theorem dX12_product_265 : decode cX12_product 265 = .ok (.iload 13, 2) := by decide +kernel
theorem dX12_product_267 : decode cX12_product 267 = .ok (.iconst 1, 1) := by decide +kernel
theorem dX12_product_268 : decode cX12_product 268 = .ok (.isub, 1) := by decide +kernel
theorem dX12_product_269 : decode cX12_product 269 = .ok (.lload 9, 2) := by decide +kernel
theorem dX12_product_271 : decode cX12_product 271 = .ok (.l2i, 1) := by decide +kernel
theorem dX12_product_272 : decode cX12_product 272 = .ok (.iastore, 1) := by decide +kernel
theorem dX12_product_273 : decode cX12_product 273 = .ok (.lload 9, 2) := by decide +kernel
theorem dX12_product_275 : decode cX12_product 275 = .ok (.bipush 32, 2) := by decide +kernel
theorem dX12_product_277 : decode cX12_product 277 = .ok (.lushr, 1) := by decide +kernel
theorem dX12_product_278 : decode cX12_product 278 = .ok (.lstore 5, 2) := by decide +kernel
theorem dX12_product_280 : decode cX12_product 280 = .ok (.iinc 13 1, 3) := by decide +kernel
theorem dX12_product_283 : decode cX12_product 283 = .ok (.goto (-64), 3) := by decide +kernel
theorem dX12_product_286 : decode cX12_product 286 = .ok (.aload_n 0, 1) := by decide +kernel
theorem dX12_product_287 : decode cX12_product 287 = .ok (.getfield 19, 3) := by decide +kernel
theorem dX12_product_290 : decode cX12_product 290 = .ok (.aload_n 0, 1) := by decide +kernel
theorem dX12_product_291 : decode cX12_product 291 = .ok (.getfield 31, 3) := by decide +kernel
theorem dX12_product_294 : decode cX12_product 294 = .ok (.iaload, 1) := by decide +kernel
theorem dX12_product_295 : decode cX12_product 295 = .ok (.i2l, 1) := by decide +kernel
theorem dX12_product_296 : decode cX12_product 296 = .ok (.ldc2_w 47, 3) := by decide +kernel
theorem dX12_product_299 : decode cX12_product 299 = .ok (.land, 1) := by decide +kernel
theorem dX12_product_300 : decode cX12_product 300 = .ok (.lload 5, 2) := by decide +kernel
theorem dX12_product_302 : decode cX12_product 302 = .ok (.ladd, 1) := by decide +kernel
theorem dX12_product_303 : decode cX12_product 303 = .ok (.lstore 9, 2) := by decide +kernel
theorem dX12_product_305 : decode cX12_product 305 = .ok (.aload_n 0, 1) := by decide +kernel
theorem dX12_product_306 : decode cX12_product 306 = .ok (.getfield 19, 3) := by decide +kernel
theorem dX12_product_309 : decode cX12_product 309 = .ok (.aload_n 0, 1) := by decide +kernel
theorem dX12_product_310 : decode cX12_product 310 = .ok (.getfield 31, 3) := by decide +kernel
theorem dX12_product_313 : decode cX12_product 313 = .ok (.iconst 1, 1) := by decide +kernel
theorem dX12_product_314 : decode cX12_product 314 = .ok (.isub, 1) := by decide +kernel
theorem dX12_product_315 : decode cX12_product 315 = .ok (.lload 9, 2) := by decide +kernel
theorem dX12_product_317 : decode cX12_product 317 = .ok (.l2i, 1) := by decide +kernel
theorem dX12_product_318 : decode cX12_product 318 = .ok (.iastore, 1) := by decide +kernel
theorem dX12_product_319 : decode cX12_product 319 = .ok (.aload_n 0, 1) := by decide +kernel
theorem dX12_product_320 : decode cX12_product 320 = .ok (.getfield 19, 3) := by decide +kernel
theorem dX12_product_323 : decode cX12_product 323 = .ok (.aload_n 0, 1) := by decide +kernel
theorem dX12_product_324 : decode cX12_product 324 = .ok (.getfield 31, 3) := by decide +kernel
theorem dX12_product_327 : decode cX12_product 327 = .ok (.aload_n 0, 1) := by decide +kernel
theorem dX12_product_328 : decode cX12_product 328 = .ok (.getfield 19, 3) := by decide +kernel
theorem dX12_product_331 : decode cX12_product 331 = .ok (.aload_n 0, 1) := by decide +kernel
theorem dX12_product_332 : decode cX12_product 332 = .ok (.getfield 31, 3) := by decide +kernel
theorem dX12_product_335 : decode cX12_product 335 = .ok (.iconst 1, 1) := by decide +kernel
theorem dX12_product_336 : decode cX12_product 336 = .ok (.iadd, 1) := by decide +kernel
theorem dX12_product_337 : decode cX12_product 337 = .ok (.iaload, 1) := by decide +kernel
theorem dX12_product_338 : decode cX12_product 338 = .ok (.lload 9, 2) := by decide +kernel
theorem dX12_product_340 : decode cX12_product 340 = .ok (.bipush 32, 2) := by decide +kernel
theorem dX12_product_342 : decode cX12_product 342 = .ok (.lushr, 1) := by decide +kernel
theorem dX12_product_343 : decode cX12_product 343 = .ok (.l2i, 1) := by decide +kernel
theorem dX12_product_344 : decode cX12_product 344 = .ok (.iadd, 1) := by decide +kernel
theorem dX12_product_345 : decode cX12_product 345 = .ok (.iastore, 1) := by decide +kernel
theorem dX12_product_346 : decode cX12_product 346 = .ok (.iinc 4 1, 3) := by decide +kernel
theorem dX12_product_349 : decode cX12_product 349 = .ok (.goto (-318), 3) := by decide +kernel
theorem dX12_product_352 : decode cX12_product 352 = .ok (.aload_n 0, 1) := by decide +kernel
theorem dX12_product_353 : decode cX12_product 353 = .ok (.getfield 19, 3) := by decide +kernel
theorem dX12_product_356 : decode cX12_product 356 = .ok (.aload_n 0, 1) := by decide +kernel
theorem dX12_product_357 : decode cX12_product 357 = .ok (.getfield 31, 3) := by decide +kernel
theorem dX12_product_360 : decode cX12_product 360 = .ok (.iaload, 1) := by decide +kernel
theorem dX12_product_361 : decode cX12_product 361 = .ok (.ifCond .eq 7, 3) := by decide +kernel
theorem dX12_product_364 : decode cX12_product 364 = .ok (.iconst 1, 1) := by decide +kernel
theorem dX12_product_365 : decode cX12_product 365 = .ok (.goto 4, 3) := by decide +kernel
theorem dX12_product_368 : decode cX12_product 368 = .ok (.iconst 0, 1) := by decide +kernel
theorem dX12_product_369 : decode cX12_product 369 = .ok (.istore 4, 2) := by decide +kernel
theorem dX12_product_371 : decode cX12_product 371 = .ok (.iconst 0, 1) := by decide +kernel
theorem dX12_product_372 : decode cX12_product 372 = .ok (.istore 5, 2) := by decide +kernel
theorem dX12_product_374 : decode cX12_product 374 = .ok (.iload 5, 2) := by decide +kernel
theorem dX12_product_376 : decode cX12_product 376 = .ok (.aload_n 0, 1) := by decide +kernel
theorem dX12_product_377 : decode cX12_product 377 = .ok (.getfield 31, 3) := by decide +kernel
theorem dX12_product_380 : decode cX12_product 380 = .ok (.if_icmp .ge 20, 3) := by decide +kernel
theorem dX12_product_383 : decode cX12_product 383 = .ok (.aload_n 3, 1) := by decide +kernel
theorem dX12_product_384 : decode cX12_product 384 = .ok (.iload 5, 2) := by decide +kernel
theorem dX12_product_386 : decode cX12_product 386 = .ok (.aload_n 0, 1) := by decide +kernel
theorem dX12_product_387 : decode cX12_product 387 = .ok (.getfield 19, 3) := by decide +kernel
theorem dX12_product_390 : decode cX12_product 390 = .ok (.iload 5, 2) := by decide +kernel
theorem dX12_product_392 : decode cX12_product 392 = .ok (.iaload, 1) := by decide +kernel
theorem dX12_product_393 : decode cX12_product 393 = .ok (.iastore, 1) := by decide +kernel
theorem dX12_product_394 : decode cX12_product 394 = .ok (.iinc 5 1, 3) := by decide +kernel
theorem dX12_product_397 : decode cX12_product 397 = .ok (.goto (-23), 3) := by decide +kernel
theorem dX12_product_400 : decode cX12_product 400 = .ok (.iload 4, 2) := by decide +kernel
theorem dX12_product_402 : decode cX12_product 402 = .ok (.ifCond .ne 15, 3) := by decide +kernel
theorem dX12_product_405 : decode cX12_product 405 = .ok (.aload_n 0, 1) := by decide +kernel
theorem dX12_product_406 : decode cX12_product 406 = .ok (.aload_n 3, 1) := by decide +kernel
theorem dX12_product_407 : decode cX12_product 407 = .ok (.aload_n 0, 1) := by decide +kernel
theorem dX12_product_408 : decode cX12_product 408 = .ok (.getfield 7, 3) := by decide +kernel
theorem dX12_product_411 : decode cX12_product 411 = .ok (.invokevirtual 49, 3) := by decide +kernel
theorem dX12_product_414 : decode cX12_product 414 = .ok (.ifCond .lt 8, 3) := by decide +kernel
theorem dX12_product_417 : decode cX12_product 417 = .ok (.aload_n 0, 1) := by decide +kernel
theorem dX12_product_418 : decode cX12_product 418 = .ok (.aload_n 3, 1) := by decide +kernel
theorem dX12_product_419 : decode cX12_product 419 = .ok (.invokevirtual 53, 3) := by decide +kernel
theorem dX12_product_422 : decode cX12_product 422 = .ok (.return_, 1) := by decide +kernel
abbrev rmX12_product : Room := { frames := 1, cells := 0, slots := 0, locals := 26 }
set_option maxHeartbeats 4000000 in
set_option maxRecDepth 100000 in
theorem wB_X12_product_374 {G : mG} {F : Nat} {x : mXT} {sz : Nat} {M0 : mM} (X : mCX G RX12 cX12_product 14 none "product" rmX12_product x) (hQ : mQV x M0 (sz, 0, 0)) : ∀ (n : Nat) (l0 : Nat) (l3 : Nat) (l4 : Int32) (l5 : Int32) (M : mM), B_X12_product_374 G F n l0 l3 l4 l5 M = some M0 → WW x (sz, 0, 0) M 374 [(0, .ref l0), (3, .ref l3), (4, .int l4), (5, .int l5)] [] := by
  intro n
  induction n with
  | zero =>
    intro l0 l3 l4 l5 M h
    exact nomatch (show (none : Option mM) = some M0 from h)
  | succ n ih =>
    intro l0 l3 l4 l5 M h
    rw [B_X12_product_374] at h
    refine ww_iload 374 X dX12_product_374 3 rfl ?_
    refine ww_aload_n 376 X dX12_product_376 0 rfl rfl ?_
    obtain ⟨v377, e377, h⟩ := bO_some h
    refine ww_getI 377 X dX12_product_377 fG_X12_31 e377 ?_
    refine ww_icmp_ge 380 400 X dX12_product_380 (by decide) (fun q => ?_) (fun q => ?_)
    · replace h := (if_pos q).symm.trans h
      refine ww_iload 400 X dX12_product_400 2 rfl ?_
      refine ww_if_ne 402 417 X dX12_product_402 (by decide) (fun q => ?_) (fun q => ?_)
      · replace h := (if_neg q).symm.trans h
        refine ww_aload_n 417 X dX12_product_417 0 rfl rfl ?_
        refine ww_aload_n 418 X dX12_product_418 1 rfl rfl ?_
        obtain ⟨_, f419, h⟩ := bO_some h
        obtain ⟨M419, e419, h⟩ := bO_some h
        refine ww_callVV0 419 X dX12_product_419 mY_X12_less mL_X12_53 (rcv_spec f419) ⟨_, _, rfl⟩ (by decide) (As := [.ref l3]) (rest := []) rfl rfl ⟨Nat.le_of_ble_eq_true rfl, Nat.le_of_ble_eq_true rfl⟩ (Nat.le_of_ble_eq_true rfl) (fun l D A => c_X12_less l D A e419) ?_
        exact ww_vretE 422 X hQ dX12_product_422 h
      · replace h := (if_pos q).symm.trans h
        refine ww_aload_n 405 X dX12_product_405 0 rfl rfl ?_
        refine ww_aload_n 406 X dX12_product_406 1 rfl rfl ?_
        refine ww_aload_n 407 X dX12_product_407 0 rfl rfl ?_
        obtain ⟨v408, e408, h⟩ := bO_some h
        refine ww_getR 408 X dX12_product_408 fG_X12_7 e408 ?_
        obtain ⟨_, f411, h⟩ := bO_some h
        obtain ⟨v411, M411, e411, h⟩ := bP_some h
        refine ww_callVI0 411 X dX12_product_411 mY_X12_order mL_X12_49 (rcv_spec f411) ⟨_, _, rfl⟩ (by decide) (As := [.ref l3, .ref v408]) (rest := []) rfl rfl ⟨Nat.le_of_ble_eq_true rfl, Nat.le_of_ble_eq_true rfl⟩ (Nat.le_of_ble_eq_true rfl) (fun l D A => c_X12_order l D A e411) ?_
        refine ww_if_lt 414 422 X dX12_product_414 (by decide) (fun q => ?_) (fun q => ?_)
        · replace h := (if_pos q).symm.trans h
          exact ww_vretE 422 X hQ dX12_product_422 h
        · replace h := (if_neg q).symm.trans h
          refine ww_aload_n 417 X dX12_product_417 0 rfl rfl ?_
          refine ww_aload_n 418 X dX12_product_418 1 rfl rfl ?_
          obtain ⟨_, f419, h⟩ := bO_some h
          obtain ⟨M419, e419, h⟩ := bO_some h
          refine ww_callVV0 419 X dX12_product_419 mY_X12_less mL_X12_53 (rcv_spec f419) ⟨_, _, rfl⟩ (by decide) (As := [.ref l3]) (rest := []) rfl rfl ⟨Nat.le_of_ble_eq_true rfl, Nat.le_of_ble_eq_true rfl⟩ (Nat.le_of_ble_eq_true rfl) (fun l D A => c_X12_less l D A e419) ?_
          exact ww_vretE 422 X hQ dX12_product_422 h
    · replace h := (if_neg q).symm.trans h
      refine ww_aload_n 383 X dX12_product_383 1 rfl rfl ?_
      refine ww_iload 384 X dX12_product_384 3 rfl ?_
      refine ww_aload_n 386 X dX12_product_386 0 rfl rfl ?_
      obtain ⟨v387, e387, h⟩ := bO_some h
      refine ww_getR 387 X dX12_product_387 fG_X12_19 e387 ?_
      refine ww_iload 390 X dX12_product_390 3 rfl ?_
      obtain ⟨v392, e392, h⟩ := bO_some h
      refine ww_iald 392 X dX12_product_392 e392 ?_
      obtain ⟨M393, e393, h⟩ := bO_some h
      refine ww_iast 393 X dX12_product_393 e393 ?_
      refine ww_iinc 394 X dX12_product_394 (lv' := [(0, .ref l0), (3, .ref l3), (4, .int l4), (5, .int (l5 + 1))]) 3 rfl rfl (by decide) [1, 2, 3, 0] rfl ?_
      refine ww_goto 397 374 X dX12_product_397 (by decide) ?_
      exact (ih _ _ _ _ _ h)
set_option maxHeartbeats 4000000 in
set_option maxRecDepth 100000 in
theorem wB_X12_product_219 {G : mG} {F : Nat} {x : mXT} {sz : Nat} {M0 : mM} (X : mCX G RX12 cX12_product 14 none "product" rmX12_product x) (hQ : mQV x M0 (sz, 0, 0)) (r31 : Nat → Nat → Nat → Nat → Int32 → mM → Option mM) (hr31 : ∀ (l0 : Nat) (l1 : Nat) (l2 : Nat) (l3 : Nat) (l4 : Int32) (M : mM), r31 l0 l1 l2 l3 l4 M = some M0 → WW x (sz, 0, 0) M 31 [(0, .ref l0), (1, .ref l1), (2, .ref l2), (3, .ref l3), (4, .int l4)] []) : ∀ (n : Nat) (l0 : Nat) (l1 : Nat) (l2 : Nat) (l3 : Nat) (l4 : Int32) (l5 : Int64) (l11 : Int64) (l13 : Int32) (M : mM), B_X12_product_219 G F r31 n l0 l1 l2 l3 l4 l5 l11 l13 M = some M0 → WW x (sz, 0, 0) M 219 [(0, .ref l0), (1, .ref l1), (2, .ref l2), (3, .ref l3), (4, .int l4), (5, .long l5), (11, .long l11), (13, .int l13)] [] := by
  intro n
  induction n with
  | zero =>
    intro l0 l1 l2 l3 l4 l5 l11 l13 M h
    exact nomatch (show (none : Option mM) = some M0 from h)
  | succ n ih =>
    intro l0 l1 l2 l3 l4 l5 l11 l13 M h
    rw [B_X12_product_219] at h
    refine ww_iload 219 X dX12_product_219 7 rfl ?_
    refine ww_aload_n 221 X dX12_product_221 0 rfl rfl ?_
    obtain ⟨v222, e222, h⟩ := bO_some h
    refine ww_getI 222 X dX12_product_222 fG_X12_31 e222 ?_
    refine ww_icmp_ge 225 286 X dX12_product_225 (by decide) (fun q => ?_) (fun q => ?_)
    · replace h := (if_pos q).symm.trans h
      refine ww_aload_n 286 X dX12_product_286 0 rfl rfl ?_
      obtain ⟨v287, e287, h⟩ := bO_some h
      refine ww_getR 287 X dX12_product_287 fG_X12_19 e287 ?_
      refine ww_aload_n 290 X dX12_product_290 0 rfl rfl ?_
      obtain ⟨v291, e291, h⟩ := bO_some h
      refine ww_getI 291 X dX12_product_291 fG_X12_31 e291 ?_
      obtain ⟨v294, e294, h⟩ := bO_some h
      refine ww_iald 294 X dX12_product_294 e294 ?_
      refine ww_i2l 295 X dX12_product_295 ?_
      refine ww_ldc2 296 X (v := (4294967295 : Int64)) dX12_product_296 kL_X12_47 ?_
      refine ww_land 299 X dX12_product_299 ?_
      refine ww_lload 300 X dX12_product_300 5 rfl ?_
      refine ww_ladd 302 X dX12_product_302 ?_
      refine ww_lstore 303 X dX12_product_303 (lv' := [(0, .ref l0), (1, .ref l1), (2, .ref l2), (3, .ref l3), (4, .int l4), (5, .long l5), (9, .long (((v294.toInt64) &&& (4294967295 : Int64)) + l5)), (11, .long l11), (13, .int l13)]) (by decide) [1, 2, 3, 4, 5, 6, 0, 7, 8] rfl ?_
      refine ww_aload_n 305 X dX12_product_305 0 rfl rfl ?_
      obtain ⟨v306, e306, h⟩ := bO_some h
      refine ww_getR 306 X dX12_product_306 fG_X12_19 e306 ?_
      refine ww_aload_n 309 X dX12_product_309 0 rfl rfl ?_
      obtain ⟨v310, e310, h⟩ := bO_some h
      refine ww_getI 310 X dX12_product_310 fG_X12_31 e310 ?_
      refine ww_iconst 313 X (v := (1 : Int32)) dX12_product_313 (by decide) ?_
      refine ww_isub 314 X dX12_product_314 ?_
      refine ww_lload 315 X dX12_product_315 6 rfl ?_
      refine ww_l2i 317 X dX12_product_317 ?_
      obtain ⟨M318, e318, h⟩ := bO_some h
      refine ww_iast 318 X dX12_product_318 e318 ?_
      refine ww_aload_n 319 X dX12_product_319 0 rfl rfl ?_
      obtain ⟨v320, e320, h⟩ := bO_some h
      refine ww_getR 320 X dX12_product_320 fG_X12_19 e320 ?_
      refine ww_aload_n 323 X dX12_product_323 0 rfl rfl ?_
      obtain ⟨v324, e324, h⟩ := bO_some h
      refine ww_getI 324 X dX12_product_324 fG_X12_31 e324 ?_
      refine ww_aload_n 327 X dX12_product_327 0 rfl rfl ?_
      obtain ⟨v328, e328, h⟩ := bO_some h
      refine ww_getR 328 X dX12_product_328 fG_X12_19 e328 ?_
      refine ww_aload_n 331 X dX12_product_331 0 rfl rfl ?_
      obtain ⟨v332, e332, h⟩ := bO_some h
      refine ww_getI 332 X dX12_product_332 fG_X12_31 e332 ?_
      refine ww_iconst 335 X (v := (1 : Int32)) dX12_product_335 (by decide) ?_
      refine ww_iadd 336 X dX12_product_336 ?_
      obtain ⟨v337, e337, h⟩ := bO_some h
      refine ww_iald 337 X dX12_product_337 e337 ?_
      refine ww_lload 338 X dX12_product_338 6 rfl ?_
      refine ww_bipush 340 X (v := (32 : Int32)) dX12_product_340 (by decide) ?_
      refine ww_lushr 342 X dX12_product_342 ?_
      refine ww_l2i 343 X dX12_product_343 ?_
      refine ww_iadd 344 X dX12_product_344 ?_
      obtain ⟨M345, e345, h⟩ := bO_some h
      refine ww_iast 345 X dX12_product_345 e345 ?_
      refine ww_iinc 346 X dX12_product_346 (lv' := [(0, .ref l0), (1, .ref l1), (2, .ref l2), (3, .ref l3), (4, .int (l4 + 1)), (5, .long l5), (9, .long (((v294.toInt64) &&& (4294967295 : Int64)) + l5)), (11, .long l11), (13, .int l13)]) 4 rfl rfl (by decide) [1, 2, 3, 4, 0, 5, 6, 7, 8] rfl ?_
      refine ww_goto 349 31 X dX12_product_349 (by decide) ?_
      exact ww_sub [0, 1, 2, 3, 4] rfl (hr31 _ _ _ _ _ _ h)
    · replace h := (if_neg q).symm.trans h
      refine ww_aload_n 228 X dX12_product_228 0 rfl rfl ?_
      obtain ⟨v229, e229, h⟩ := bO_some h
      refine ww_getR 229 X dX12_product_229 fG_X12_19 e229 ?_
      refine ww_iload 232 X dX12_product_232 7 rfl ?_
      obtain ⟨v234, e234, h⟩ := bO_some h
      refine ww_iald 234 X dX12_product_234 e234 ?_
      refine ww_i2l 235 X dX12_product_235 ?_
      refine ww_ldc2 236 X (v := (4294967295 : Int64)) dX12_product_236 kL_X12_47 ?_
      refine ww_land 239 X dX12_product_239 ?_
      refine ww_lload 240 X dX12_product_240 6 rfl ?_
      refine ww_aload_n 242 X dX12_product_242 0 rfl rfl ?_
      obtain ⟨v243, e243, h⟩ := bO_some h
      refine ww_getR 243 X dX12_product_243 fG_X12_7 e243 ?_
      refine ww_iload 246 X dX12_product_246 7 rfl ?_
      obtain ⟨v248, e248, h⟩ := bO_some h
      refine ww_iald 248 X dX12_product_248 e248 ?_
      refine ww_i2l 249 X dX12_product_249 ?_
      refine ww_ldc2 250 X (v := (4294967295 : Int64)) dX12_product_250 kL_X12_47 ?_
      refine ww_land 253 X dX12_product_253 ?_
      refine ww_lmul 254 X dX12_product_254 ?_
      refine ww_ladd 255 X dX12_product_255 ?_
      refine ww_lload 256 X dX12_product_256 5 rfl ?_
      refine ww_ladd 258 X dX12_product_258 ?_
      refine ww_lstore 259 X dX12_product_259 (lv' := [(0, .ref l0), (1, .ref l1), (2, .ref l2), (3, .ref l3), (4, .int l4), (5, .long l5), (9, .long ((((v234.toInt64) &&& (4294967295 : Int64)) + (l11 * ((v248.toInt64) &&& (4294967295 : Int64)))) + l5)), (11, .long l11), (13, .int l13)]) (by decide) [1, 2, 3, 4, 5, 6, 0, 7, 8] rfl ?_
      refine ww_aload_n 261 X dX12_product_261 0 rfl rfl ?_
      obtain ⟨v262, e262, h⟩ := bO_some h
      refine ww_getR 262 X dX12_product_262 fG_X12_19 e262 ?_
      refine ww_iload 265 X dX12_product_265 8 rfl ?_
      refine ww_iconst 267 X (v := (1 : Int32)) dX12_product_267 (by decide) ?_
      refine ww_isub 268 X dX12_product_268 ?_
      refine ww_lload 269 X dX12_product_269 6 rfl ?_
      refine ww_l2i 271 X dX12_product_271 ?_
      obtain ⟨M272, e272, h⟩ := bO_some h
      refine ww_iast 272 X dX12_product_272 e272 ?_
      refine ww_lload 273 X dX12_product_273 6 rfl ?_
      refine ww_bipush 275 X (v := (32 : Int32)) dX12_product_275 (by decide) ?_
      refine ww_lushr 277 X dX12_product_277 ?_
      refine ww_lstore 278 X dX12_product_278 (lv' := [(0, .ref l0), (1, .ref l1), (2, .ref l2), (3, .ref l3), (4, .int l4), (5, .long (ushL ((((v234.toInt64) &&& (4294967295 : Int64)) + (l11 * ((v248.toInt64) &&& (4294967295 : Int64)))) + l5) (32 : Int32))), (9, .long ((((v234.toInt64) &&& (4294967295 : Int64)) + (l11 * ((v248.toInt64) &&& (4294967295 : Int64)))) + l5)), (11, .long l11), (13, .int l13)]) (by decide) [1, 2, 3, 4, 5, 0, 6, 7, 8] rfl ?_
      refine ww_iinc 280 X dX12_product_280 (lv' := [(0, .ref l0), (1, .ref l1), (2, .ref l2), (3, .ref l3), (4, .int l4), (5, .long (ushL ((((v234.toInt64) &&& (4294967295 : Int64)) + (l11 * ((v248.toInt64) &&& (4294967295 : Int64)))) + l5) (32 : Int32))), (9, .long ((((v234.toInt64) &&& (4294967295 : Int64)) + (l11 * ((v248.toInt64) &&& (4294967295 : Int64)))) + l5)), (11, .long l11), (13, .int (l13 + 1))]) 8 rfl rfl (by decide) [1, 2, 3, 4, 5, 6, 7, 8, 0] rfl ?_
      refine ww_goto 283 219 X dX12_product_283 (by decide) ?_
      exact ww_sub [0, 1, 2, 3, 4, 5, 7, 8] rfl (ih _ _ _ _ _ _ _ _ _ h)
set_option maxHeartbeats 4000000 in
set_option maxRecDepth 100000 in
theorem wB_X12_product_57 {G : mG} {F : Nat} {x : mXT} {sz : Nat} {M0 : mM} (X : mCX G RX12 cX12_product 14 none "product" rmX12_product x) (hQ : mQV x M0 (sz, 0, 0)) (r31 : Nat → Nat → Nat → Nat → Int32 → mM → Option mM) (hr31 : ∀ (l0 : Nat) (l1 : Nat) (l2 : Nat) (l3 : Nat) (l4 : Int32) (M : mM), r31 l0 l1 l2 l3 l4 M = some M0 → WW x (sz, 0, 0) M 31 [(0, .ref l0), (1, .ref l1), (2, .ref l2), (3, .ref l3), (4, .int l4)] []) : ∀ (n : Nat) (l0 : Nat) (l1 : Nat) (l2 : Nat) (l3 : Nat) (l4 : Int32) (l5 : Int64) (l7 : Int64) (l9 : Int32) (M : mM), B_X12_product_57 G F r31 n l0 l1 l2 l3 l4 l5 l7 l9 M = some M0 → WW x (sz, 0, 0) M 57 [(0, .ref l0), (1, .ref l1), (2, .ref l2), (3, .ref l3), (4, .int l4), (5, .long l5), (7, .long l7), (9, .int l9)] [] := by
  intro n
  induction n with
  | zero =>
    intro l0 l1 l2 l3 l4 l5 l7 l9 M h
    exact nomatch (show (none : Option mM) = some M0 from h)
  | succ n ih =>
    intro l0 l1 l2 l3 l4 l5 l7 l9 M h
    rw [B_X12_product_57] at h
    refine ww_iload 57 X dX12_product_57 7 rfl ?_
    refine ww_aload_n 59 X dX12_product_59 0 rfl rfl ?_
    obtain ⟨v60, e60, h⟩ := bO_some h
    refine ww_getI 60 X dX12_product_60 fG_X12_31 e60 ?_
    refine ww_icmp_ge 63 119 X dX12_product_63 (by decide) (fun q => ?_) (fun q => ?_)
    · replace h := (if_pos q).symm.trans h
      refine ww_aload_n 119 X dX12_product_119 0 rfl rfl ?_
      obtain ⟨v120, e120, h⟩ := bO_some h
      refine ww_getR 120 X dX12_product_120 fG_X12_19 e120 ?_
      refine ww_aload_n 123 X dX12_product_123 0 rfl rfl ?_
      obtain ⟨v124, e124, h⟩ := bO_some h
      refine ww_getI 124 X dX12_product_124 fG_X12_31 e124 ?_
      obtain ⟨v127, e127, h⟩ := bO_some h
      refine ww_iald 127 X dX12_product_127 e127 ?_
      refine ww_i2l 128 X dX12_product_128 ?_
      refine ww_ldc2 129 X (v := (4294967295 : Int64)) dX12_product_129 kL_X12_47 ?_
      refine ww_land 132 X dX12_product_132 ?_
      refine ww_lload 133 X dX12_product_133 5 rfl ?_
      refine ww_ladd 135 X dX12_product_135 ?_
      refine ww_lstore 136 X dX12_product_136 (lv' := [(0, .ref l0), (1, .ref l1), (2, .ref l2), (3, .ref l3), (4, .int l4), (5, .long l5), (7, .long l7), (9, .long (((v127.toInt64) &&& (4294967295 : Int64)) + l5))]) (by decide) [1, 2, 3, 4, 5, 6, 7, 0] rfl ?_
      refine ww_aload_n 138 X dX12_product_138 0 rfl rfl ?_
      obtain ⟨v139, e139, h⟩ := bO_some h
      refine ww_getR 139 X dX12_product_139 fG_X12_19 e139 ?_
      refine ww_aload_n 142 X dX12_product_142 0 rfl rfl ?_
      obtain ⟨v143, e143, h⟩ := bO_some h
      refine ww_getI 143 X dX12_product_143 fG_X12_31 e143 ?_
      refine ww_lload 146 X dX12_product_146 7 rfl ?_
      refine ww_l2i 148 X dX12_product_148 ?_
      obtain ⟨M149, e149, h⟩ := bO_some h
      refine ww_iast 149 X dX12_product_149 e149 ?_
      refine ww_aload_n 150 X dX12_product_150 0 rfl rfl ?_
      obtain ⟨v151, e151, h⟩ := bO_some h
      refine ww_getR 151 X dX12_product_151 fG_X12_19 e151 ?_
      refine ww_aload_n 154 X dX12_product_154 0 rfl rfl ?_
      obtain ⟨v155, e155, h⟩ := bO_some h
      refine ww_getI 155 X dX12_product_155 fG_X12_31 e155 ?_
      refine ww_iconst 158 X (v := (1 : Int32)) dX12_product_158 (by decide) ?_
      refine ww_iadd 159 X dX12_product_159 ?_
      refine ww_lload 160 X dX12_product_160 7 rfl ?_
      refine ww_bipush 162 X (v := (32 : Int32)) dX12_product_162 (by decide) ?_
      refine ww_lushr 164 X dX12_product_164 ?_
      refine ww_l2i 165 X dX12_product_165 ?_
      obtain ⟨M166, e166, h⟩ := bO_some h
      refine ww_iast 166 X dX12_product_166 e166 ?_
      refine ww_aload_n 167 X dX12_product_167 0 rfl rfl ?_
      obtain ⟨v168, e168, h⟩ := bO_some h
      refine ww_getR 168 X dX12_product_168 fG_X12_19 e168 ?_
      refine ww_iconst 171 X (v := (0 : Int32)) dX12_product_171 (by decide) ?_
      obtain ⟨v172, e172, h⟩ := bO_some h
      refine ww_iald 172 X dX12_product_172 e172 ?_
      refine ww_aload_n 173 X dX12_product_173 0 rfl rfl ?_
      obtain ⟨v174, e174, h⟩ := bO_some h
      refine ww_getI 174 X dX12_product_174 fG_X12_39 e174 ?_
      refine ww_imul 177 X dX12_product_177 ?_
      refine ww_i2l 178 X dX12_product_178 ?_
      refine ww_ldc2 179 X (v := (4294967295 : Int64)) dX12_product_179 kL_X12_47 ?_
      refine ww_land 182 X dX12_product_182 ?_
      refine ww_lstore 183 X dX12_product_183 (lv' := [(0, .ref l0), (1, .ref l1), (2, .ref l2), (3, .ref l3), (4, .int l4), (5, .long l5), (7, .long l7), (9, .long (((v127.toInt64) &&& (4294967295 : Int64)) + l5)), (11, .long (((v172 * v174).toInt64) &&& (4294967295 : Int64)))]) (by decide) [1, 2, 3, 4, 5, 6, 7, 8, 0] rfl ?_
      refine ww_aload_n 185 X dX12_product_185 0 rfl rfl ?_
      obtain ⟨v186, e186, h⟩ := bO_some h
      refine ww_getR 186 X dX12_product_186 fG_X12_19 e186 ?_
      refine ww_iconst 189 X (v := (0 : Int32)) dX12_product_189 (by decide) ?_
      obtain ⟨v190, e190, h⟩ := bO_some h
      refine ww_iald 190 X dX12_product_190 e190 ?_
      refine ww_i2l 191 X dX12_product_191 ?_
      refine ww_ldc2 192 X (v := (4294967295 : Int64)) dX12_product_192 kL_X12_47 ?_
      refine ww_land 195 X dX12_product_195 ?_
      refine ww_lload 196 X dX12_product_196 8 rfl ?_
      refine ww_aload_n 198 X dX12_product_198 0 rfl rfl ?_
      obtain ⟨v199, e199, h⟩ := bO_some h
      refine ww_getR 199 X dX12_product_199 fG_X12_7 e199 ?_
      refine ww_iconst 202 X (v := (0 : Int32)) dX12_product_202 (by decide) ?_
      obtain ⟨v203, e203, h⟩ := bO_some h
      refine ww_iald 203 X dX12_product_203 e203 ?_
      refine ww_i2l 204 X dX12_product_204 ?_
      refine ww_ldc2 205 X (v := (4294967295 : Int64)) dX12_product_205 kL_X12_47 ?_
      refine ww_land 208 X dX12_product_208 ?_
      refine ww_lmul 209 X dX12_product_209 ?_
      refine ww_ladd 210 X dX12_product_210 ?_
      refine ww_bipush 211 X (v := (32 : Int32)) dX12_product_211 (by decide) ?_
      refine ww_lushr 213 X dX12_product_213 ?_
      refine ww_lstore 214 X dX12_product_214 (lv' := [(0, .ref l0), (1, .ref l1), (2, .ref l2), (3, .ref l3), (4, .int l4), (5, .long (ushL (((v190.toInt64) &&& (4294967295 : Int64)) + ((((v172 * v174).toInt64) &&& (4294967295 : Int64)) * ((v203.toInt64) &&& (4294967295 : Int64)))) (32 : Int32))), (7, .long l7), (9, .long (((v127.toInt64) &&& (4294967295 : Int64)) + l5)), (11, .long (((v172 * v174).toInt64) &&& (4294967295 : Int64)))]) (by decide) [1, 2, 3, 4, 5, 0, 6, 7, 8] rfl ?_
      refine ww_iconst 216 X (v := (1 : Int32)) dX12_product_216 (by decide) ?_
      refine ww_istore 217 X dX12_product_217 (lv' := [(0, .ref l0), (1, .ref l1), (2, .ref l2), (3, .ref l3), (4, .int l4), (5, .long (ushL (((v190.toInt64) &&& (4294967295 : Int64)) + ((((v172 * v174).toInt64) &&& (4294967295 : Int64)) * ((v203.toInt64) &&& (4294967295 : Int64)))) (32 : Int32))), (7, .long l7), (9, .long (((v127.toInt64) &&& (4294967295 : Int64)) + l5)), (11, .long (((v172 * v174).toInt64) &&& (4294967295 : Int64))), (13, .int (1 : Int32))]) (by decide) [1, 2, 3, 4, 5, 6, 7, 8, 9, 0] rfl ?_
      exact ww_sub [0, 1, 2, 3, 4, 5, 8, 9] rfl (wB_X12_product_219 X hQ _ hr31 F _ _ _ _ _ _ _ _ _ h)
    · replace h := (if_neg q).symm.trans h
      refine ww_aload_n 66 X dX12_product_66 0 rfl rfl ?_
      obtain ⟨v67, e67, h⟩ := bO_some h
      refine ww_getR 67 X dX12_product_67 fG_X12_19 e67 ?_
      refine ww_iload 70 X dX12_product_70 7 rfl ?_
      obtain ⟨v72, e72, h⟩ := bO_some h
      refine ww_iald 72 X dX12_product_72 e72 ?_
      refine ww_i2l 73 X dX12_product_73 ?_
      refine ww_ldc2 74 X (v := (4294967295 : Int64)) dX12_product_74 kL_X12_47 ?_
      refine ww_land 77 X dX12_product_77 ?_
      refine ww_lload 78 X dX12_product_78 6 rfl ?_
      refine ww_aload_n 80 X dX12_product_80 2 rfl rfl ?_
      refine ww_iload 81 X dX12_product_81 7 rfl ?_
      obtain ⟨v83, e83, h⟩ := bO_some h
      refine ww_iald 83 X dX12_product_83 e83 ?_
      refine ww_i2l 84 X dX12_product_84 ?_
      refine ww_ldc2 85 X (v := (4294967295 : Int64)) dX12_product_85 kL_X12_47 ?_
      refine ww_land 88 X dX12_product_88 ?_
      refine ww_lmul 89 X dX12_product_89 ?_
      refine ww_ladd 90 X dX12_product_90 ?_
      refine ww_lload 91 X dX12_product_91 5 rfl ?_
      refine ww_ladd 93 X dX12_product_93 ?_
      refine ww_lstore 94 X dX12_product_94 (lv' := [(0, .ref l0), (1, .ref l1), (2, .ref l2), (3, .ref l3), (4, .int l4), (5, .long l5), (7, .long l7), (9, .int l9), (10, .long ((((v72.toInt64) &&& (4294967295 : Int64)) + (l7 * ((v83.toInt64) &&& (4294967295 : Int64)))) + l5))]) (by decide) [1, 2, 3, 4, 5, 6, 7, 8, 0] rfl ?_
      refine ww_aload_n 96 X dX12_product_96 0 rfl rfl ?_
      obtain ⟨v97, e97, h⟩ := bO_some h
      refine ww_getR 97 X dX12_product_97 fG_X12_19 e97 ?_
      refine ww_iload 100 X dX12_product_100 7 rfl ?_
      refine ww_lload 102 X dX12_product_102 8 rfl ?_
      refine ww_l2i 104 X dX12_product_104 ?_
      obtain ⟨M105, e105, h⟩ := bO_some h
      refine ww_iast 105 X dX12_product_105 e105 ?_
      refine ww_lload 106 X dX12_product_106 8 rfl ?_
      refine ww_bipush 108 X (v := (32 : Int32)) dX12_product_108 (by decide) ?_
      refine ww_lushr 110 X dX12_product_110 ?_
      refine ww_lstore 111 X dX12_product_111 (lv' := [(0, .ref l0), (1, .ref l1), (2, .ref l2), (3, .ref l3), (4, .int l4), (5, .long (ushL ((((v72.toInt64) &&& (4294967295 : Int64)) + (l7 * ((v83.toInt64) &&& (4294967295 : Int64)))) + l5) (32 : Int32))), (7, .long l7), (9, .int l9), (10, .long ((((v72.toInt64) &&& (4294967295 : Int64)) + (l7 * ((v83.toInt64) &&& (4294967295 : Int64)))) + l5))]) (by decide) [1, 2, 3, 4, 5, 0, 6, 7, 8] rfl ?_
      refine ww_iinc 113 X dX12_product_113 (lv' := [(0, .ref l0), (1, .ref l1), (2, .ref l2), (3, .ref l3), (4, .int l4), (5, .long (ushL ((((v72.toInt64) &&& (4294967295 : Int64)) + (l7 * ((v83.toInt64) &&& (4294967295 : Int64)))) + l5) (32 : Int32))), (7, .long l7), (9, .int (l9 + 1)), (10, .long ((((v72.toInt64) &&& (4294967295 : Int64)) + (l7 * ((v83.toInt64) &&& (4294967295 : Int64)))) + l5))]) 7 rfl rfl (by decide) [1, 2, 3, 4, 5, 6, 7, 0, 8] rfl ?_
      refine ww_goto 116 57 X dX12_product_116 (by decide) ?_
      exact ww_sub [0, 1, 2, 3, 4, 5, 6, 7] rfl (ih _ _ _ _ _ _ _ _ _ h)
set_option maxHeartbeats 4000000 in
set_option maxRecDepth 100000 in
theorem wB_X12_product_31 {G : mG} {F : Nat} {x : mXT} {sz : Nat} {M0 : mM} (X : mCX G RX12 cX12_product 14 none "product" rmX12_product x) (hQ : mQV x M0 (sz, 0, 0)) : ∀ (n : Nat) (l0 : Nat) (l1 : Nat) (l2 : Nat) (l3 : Nat) (l4 : Int32) (M : mM), B_X12_product_31 G F n l0 l1 l2 l3 l4 M = some M0 → WW x (sz, 0, 0) M 31 [(0, .ref l0), (1, .ref l1), (2, .ref l2), (3, .ref l3), (4, .int l4)] [] := by
  intro n
  induction n with
  | zero =>
    intro l0 l1 l2 l3 l4 M h
    exact nomatch (show (none : Option mM) = some M0 from h)
  | succ n ih =>
    intro l0 l1 l2 l3 l4 M h
    rw [B_X12_product_31] at h
    refine ww_iload 31 X dX12_product_31 4 rfl ?_
    refine ww_aload_n 33 X dX12_product_33 0 rfl rfl ?_
    obtain ⟨v34, e34, h⟩ := bO_some h
    refine ww_getI 34 X dX12_product_34 fG_X12_31 e34 ?_
    refine ww_icmp_ge 37 352 X dX12_product_37 (by decide) (fun q => ?_) (fun q => ?_)
    · replace h := (if_pos q).symm.trans h
      refine ww_aload_n 352 X dX12_product_352 0 rfl rfl ?_
      obtain ⟨v353, e353, h⟩ := bO_some h
      refine ww_getR 353 X dX12_product_353 fG_X12_19 e353 ?_
      refine ww_aload_n 356 X dX12_product_356 0 rfl rfl ?_
      obtain ⟨v357, e357, h⟩ := bO_some h
      refine ww_getI 357 X dX12_product_357 fG_X12_31 e357 ?_
      obtain ⟨v360, e360, h⟩ := bO_some h
      refine ww_iald 360 X dX12_product_360 e360 ?_
      refine ww_if_eq 361 368 X dX12_product_361 (by decide) (fun q => ?_) (fun q => ?_)
      · replace h := (if_pos q).symm.trans h
        refine ww_iconst 368 X (v := (0 : Int32)) dX12_product_368 (by decide) ?_
        refine ww_istore 369 X dX12_product_369 (lv' := [(0, .ref l0), (1, .ref l1), (2, .ref l2), (3, .ref l3), (4, .int (0 : Int32))]) (by decide) [1, 2, 3, 4, 0] rfl ?_
        refine ww_iconst 371 X (v := (0 : Int32)) dX12_product_371 (by decide) ?_
        refine ww_istore 372 X dX12_product_372 (lv' := [(0, .ref l0), (1, .ref l1), (2, .ref l2), (3, .ref l3), (4, .int (0 : Int32)), (5, .int (0 : Int32))]) (by decide) [1, 2, 3, 4, 5, 0] rfl ?_
        exact ww_sub [0, 3, 4, 5] rfl (wB_X12_product_374 X hQ F _ _ _ _ _ h)
      · replace h := (if_neg q).symm.trans h
        refine ww_iconst 364 X (v := (1 : Int32)) dX12_product_364 (by decide) ?_
        refine ww_goto 365 369 X dX12_product_365 (by decide) ?_
        refine ww_istore 369 X dX12_product_369 (lv' := [(0, .ref l0), (1, .ref l1), (2, .ref l2), (3, .ref l3), (4, .int (1 : Int32))]) (by decide) [1, 2, 3, 4, 0] rfl ?_
        refine ww_iconst 371 X (v := (0 : Int32)) dX12_product_371 (by decide) ?_
        refine ww_istore 372 X dX12_product_372 (lv' := [(0, .ref l0), (1, .ref l1), (2, .ref l2), (3, .ref l3), (4, .int (1 : Int32)), (5, .int (0 : Int32))]) (by decide) [1, 2, 3, 4, 5, 0] rfl ?_
        exact ww_sub [0, 3, 4, 5] rfl (wB_X12_product_374 X hQ F _ _ _ _ _ h)
    · replace h := (if_neg q).symm.trans h
      refine ww_lconst 40 X (v := (0 : Int64)) dX12_product_40 (by decide) ?_
      refine ww_lstore 41 X dX12_product_41 (lv' := [(0, .ref l0), (1, .ref l1), (2, .ref l2), (3, .ref l3), (4, .int l4), (5, .long (0 : Int64))]) (by decide) [1, 2, 3, 4, 5, 0] rfl ?_
      refine ww_aload_n 43 X dX12_product_43 1 rfl rfl ?_
      refine ww_iload 44 X dX12_product_44 4 rfl ?_
      obtain ⟨v46, e46, h⟩ := bO_some h
      refine ww_iald 46 X dX12_product_46 e46 ?_
      refine ww_i2l 47 X dX12_product_47 ?_
      refine ww_ldc2 48 X (v := (4294967295 : Int64)) dX12_product_48 kL_X12_47 ?_
      refine ww_land 51 X dX12_product_51 ?_
      refine ww_lstore 52 X dX12_product_52 (lv' := [(0, .ref l0), (1, .ref l1), (2, .ref l2), (3, .ref l3), (4, .int l4), (5, .long (0 : Int64)), (7, .long ((v46.toInt64) &&& (4294967295 : Int64)))]) (by decide) [1, 2, 3, 4, 5, 6, 0] rfl ?_
      refine ww_iconst 54 X (v := (0 : Int32)) dX12_product_54 (by decide) ?_
      refine ww_istore 55 X dX12_product_55 (lv' := [(0, .ref l0), (1, .ref l1), (2, .ref l2), (3, .ref l3), (4, .int l4), (5, .long (0 : Int64)), (7, .long ((v46.toInt64) &&& (4294967295 : Int64))), (9, .int (0 : Int32))]) (by decide) [1, 2, 3, 4, 5, 6, 7, 0] rfl ?_
      exact (wB_X12_product_57 X hQ _ ih F _ _ _ _ _ _ _ _ _ h)
set_option maxHeartbeats 4000000 in
set_option maxRecDepth 100000 in
theorem wB_X12_product_3 {G : mG} {F : Nat} {x : mXT} {sz : Nat} {M0 : mM} (X : mCX G RX12 cX12_product 14 none "product" rmX12_product x) (hQ : mQV x M0 (sz, 0, 0)) : ∀ (n : Nat) (l0 : Nat) (l1 : Nat) (l2 : Nat) (l3 : Nat) (l4 : Int32) (M : mM), B_X12_product_3 G F n l0 l1 l2 l3 l4 M = some M0 → WW x (sz, 0, 0) M 3 [(0, .ref l0), (1, .ref l1), (2, .ref l2), (3, .ref l3), (4, .int l4)] [] := by
  intro n
  induction n with
  | zero =>
    intro l0 l1 l2 l3 l4 M h
    exact nomatch (show (none : Option mM) = some M0 from h)
  | succ n ih =>
    intro l0 l1 l2 l3 l4 M h
    rw [B_X12_product_3] at h
    refine ww_iload 3 X dX12_product_3 4 rfl ?_
    refine ww_aload_n 5 X dX12_product_5 0 rfl rfl ?_
    obtain ⟨v6, e6, h⟩ := bO_some h
    refine ww_getI 6 X dX12_product_6 fG_X12_31 e6 ?_
    refine ww_iconst 9 X (v := (1 : Int32)) dX12_product_9 (by decide) ?_
    refine ww_iadd 10 X dX12_product_10 ?_
    refine ww_icmp_gt 11 28 X dX12_product_11 (by decide) (fun q => ?_) (fun q => ?_)
    · replace h := (if_pos q).symm.trans h
      refine ww_iconst 28 X (v := (0 : Int32)) dX12_product_28 (by decide) ?_
      refine ww_istore 29 X dX12_product_29 (lv' := [(0, .ref l0), (1, .ref l1), (2, .ref l2), (3, .ref l3), (4, .int (0 : Int32))]) (by decide) [1, 2, 3, 4, 0] rfl ?_
      exact (wB_X12_product_31 X hQ F _ _ _ _ _ _ h)
    · replace h := (if_neg q).symm.trans h
      refine ww_aload_n 14 X dX12_product_14 0 rfl rfl ?_
      obtain ⟨v15, e15, h⟩ := bO_some h
      refine ww_getR 15 X dX12_product_15 fG_X12_19 e15 ?_
      refine ww_iload 18 X dX12_product_18 4 rfl ?_
      refine ww_iconst 20 X (v := (0 : Int32)) dX12_product_20 (by decide) ?_
      obtain ⟨M21, e21, h⟩ := bO_some h
      refine ww_iast 21 X dX12_product_21 e21 ?_
      refine ww_iinc 22 X dX12_product_22 (lv' := [(0, .ref l0), (1, .ref l1), (2, .ref l2), (3, .ref l3), (4, .int (l4 + 1))]) 4 rfl rfl (by decide) [1, 2, 3, 4, 0] rfl ?_
      refine ww_goto 25 3 X dX12_product_25 (by decide) ?_
      exact (ih _ _ _ _ _ _ h)
set_option maxHeartbeats 4000000 in
set_option maxRecDepth 100000 in
theorem wP_X12_product {G : mG} {F : Nat} {x : mXT} {sz : Nat} {M0 : mM} (X : mCX G RX12 cX12_product 14 none "product" rmX12_product x) (hQ : mQV x M0 (sz, 0, 0)) {l0 : Nat} {l1 : Nat} {l2 : Nat} {l3 : Nat} {M : mM} (h : P_X12_product G F l0 l1 l2 l3 M = some M0) : WW x (sz, 0, 0) M 0 [(0, .ref l0), (1, .ref l1), (2, .ref l2), (3, .ref l3)] [] := by
  unfold P_X12_product at h
  refine ww_iconst 0 X (v := (0 : Int32)) dX12_product_0 (by decide) ?_
  refine ww_istore 1 X dX12_product_1 (lv' := [(0, .ref l0), (1, .ref l1), (2, .ref l2), (3, .ref l3), (4, .int (0 : Int32))]) (by decide) [1, 2, 3, 4, 0] rfl ?_
  exact (wB_X12_product_3 X hQ F _ _ _ _ _ _ h)
theorem c_X12_product {G : mG} {F sz : Nat} {M0 : mM} (l : Launch) (D : mD) (A : Nat → Prop) {l0 : Nat} {l1 : Nat} {l2 : Nat} {l3 : Nat} {M : mM} (h : P_X12_product G F l0 l1 l2 l3 M = some M0) : mMetV l D G A yX12_product cX12_product 14 none 1 26 0 0 [.ref l0, .ref l1, .ref l2, .ref l3] M sz M0 sz := mMetV_of l D G A (by decide) (Nat.le_of_ble_eq_true rfl) (fun x X hQ => wP_X12_product X hQ h)
/-! SealedTokensModel$Mod.into([I[I)V -/
theorem dX12_into_0 : decode cX12_into 0 = .ok (.aload_n 0, 1) := by decide +kernel
theorem dX12_into_1 : decode cX12_into 1 = .ok (.aload_n 1, 1) := by decide +kernel
theorem dX12_into_2 : decode cX12_into 2 = .ok (.aload_n 0, 1) := by decide +kernel
theorem dX12_into_3 : decode cX12_into 3 = .ok (.getfield 16, 3) := by decide +kernel
theorem dX12_into_6 : decode cX12_into 6 = .ok (.aload_n 2, 1) := by decide +kernel
theorem dX12_into_7 : decode cX12_into 7 = .ok (.invokevirtual 59, 3) := by decide +kernel
theorem dX12_into_10 : decode cX12_into 10 = .ok (.return_, 1) := by decide +kernel
abbrev rmX12_into : Room := { frames := 2, cells := 0, slots := 0, locals := 59 }
set_option maxHeartbeats 4000000 in
set_option maxRecDepth 100000 in
theorem wP_X12_into {G : mG} {F : Nat} {x : mXT} {sz : Nat} {M0 : mM} (X : mCX G RX12 cX12_into 3 none "into" rmX12_into x) (hQ : mQV x M0 (sz, 0, 0)) {l0 : Nat} {l1 : Nat} {l2 : Nat} {M : mM} (h : P_X12_into G F l0 l1 l2 M = some M0) : WW x (sz, 0, 0) M 0 [(0, .ref l0), (1, .ref l1), (2, .ref l2)] [] := by
  unfold P_X12_into at h
  refine ww_aload_n 0 X dX12_into_0 0 rfl rfl ?_
  refine ww_aload_n 1 X dX12_into_1 1 rfl rfl ?_
  refine ww_aload_n 2 X dX12_into_2 0 rfl rfl ?_
  obtain ⟨v3, e3, h⟩ := bO_some h
  refine ww_getR 3 X dX12_into_3 fG_X12_16 e3 ?_
  refine ww_aload_n 6 X dX12_into_6 2 rfl rfl ?_
  obtain ⟨_, f7, h⟩ := bO_some h
  obtain ⟨M7, e7, h⟩ := bO_some h
  refine ww_callVV0 7 X dX12_into_7 mY_X12_product mL_X12_59 (rcv_spec f7) ⟨_, _, rfl⟩ (by decide) (As := [.ref l1, .ref v3, .ref l2]) (rest := []) rfl rfl ⟨Nat.le_of_ble_eq_true rfl, Nat.le_of_ble_eq_true rfl⟩ (Nat.le_of_ble_eq_true rfl) (fun l D A => c_X12_product l D A e7) ?_
  exact ww_vretE 10 X hQ dX12_into_10 h
theorem c_X12_into {G : mG} {F sz : Nat} {M0 : mM} (l : Launch) (D : mD) (A : Nat → Prop) {l0 : Nat} {l1 : Nat} {l2 : Nat} {M : mM} (h : P_X12_into G F l0 l1 l2 M = some M0) : mMetV l D G A yX12_into cX12_into 3 none 2 59 0 0 [.ref l0, .ref l1, .ref l2] M sz M0 sz := mMetV_of l D G A (by decide) (Nat.le_of_ble_eq_true rfl) (fun x X hQ => wP_X12_into X hQ h)
/-! SealedTokensModel$Mod.outOf([I[I)V -/
theorem dX12_outOf_0 : decode cX12_outOf 0 = .ok (.iconst 0, 1) := by decide +kernel
theorem dX12_outOf_1 : decode cX12_outOf 1 = .ok (.istore_n 3, 1) := by decide +kernel
theorem dX12_outOf_2 : decode cX12_outOf 2 = .ok (.iload_n 3, 1) := by decide +kernel
theorem dX12_outOf_3 : decode cX12_outOf 3 = .ok (.aload_n 0, 1) := by decide +kernel
theorem dX12_outOf_4 : decode cX12_outOf 4 = .ok (.getfield 31, 3) := by decide +kernel
theorem dX12_outOf_7 : decode cX12_outOf 7 = .ok (.if_icmp .ge 16, 3) := by decide +kernel
theorem dX12_outOf_10 : decode cX12_outOf 10 = .ok (.aload_n 0, 1) := by decide +kernel
theorem dX12_outOf_11 : decode cX12_outOf 11 = .ok (.getfield 28, 3) := by decide +kernel
theorem dX12_outOf_14 : decode cX12_outOf 14 = .ok (.iload_n 3, 1) := by decide +kernel
theorem dX12_outOf_15 : decode cX12_outOf 15 = .ok (.iconst 0, 1) := by decide +kernel
theorem dX12_outOf_16 : decode cX12_outOf 16 = .ok (.iastore, 1) := by decide +kernel
theorem dX12_outOf_17 : decode cX12_outOf 17 = .ok (.iinc 3 1, 3) := by decide +kernel
theorem dX12_outOf_20 : decode cX12_outOf 20 = .ok (.goto (-18), 3) := by decide +kernel
theorem dX12_outOf_23 : decode cX12_outOf 23 = .ok (.aload_n 0, 1) := by decide +kernel
theorem dX12_outOf_24 : decode cX12_outOf 24 = .ok (.getfield 28, 3) := by decide +kernel
theorem dX12_outOf_27 : decode cX12_outOf 27 = .ok (.iconst 0, 1) := by decide +kernel
theorem dX12_outOf_28 : decode cX12_outOf 28 = .ok (.iconst 1, 1) := by decide +kernel
theorem dX12_outOf_29 : decode cX12_outOf 29 = .ok (.iastore, 1) := by decide +kernel
theorem dX12_outOf_30 : decode cX12_outOf 30 = .ok (.aload_n 0, 1) := by decide +kernel
theorem dX12_outOf_31 : decode cX12_outOf 31 = .ok (.aload_n 1, 1) := by decide +kernel
theorem dX12_outOf_32 : decode cX12_outOf 32 = .ok (.aload_n 0, 1) := by decide +kernel
theorem dX12_outOf_33 : decode cX12_outOf 33 = .ok (.getfield 28, 3) := by decide +kernel
theorem dX12_outOf_36 : decode cX12_outOf 36 = .ok (.aload_n 2, 1) := by decide +kernel
theorem dX12_outOf_37 : decode cX12_outOf 37 = .ok (.invokevirtual 59, 3) := by decide +kernel
theorem dX12_outOf_40 : decode cX12_outOf 40 = .ok (.return_, 1) := by decide +kernel
abbrev rmX12_outOf : Room := { frames := 2, cells := 0, slots := 0, locals := 59 }
set_option maxHeartbeats 4000000 in
set_option maxRecDepth 100000 in
theorem wB_X12_outOf_2 {G : mG} {F : Nat} {x : mXT} {sz : Nat} {M0 : mM} (X : mCX G RX12 cX12_outOf 4 none "outOf" rmX12_outOf x) (hQ : mQV x M0 (sz, 0, 0)) : ∀ (n : Nat) (l0 : Nat) (l1 : Nat) (l2 : Nat) (l3 : Int32) (M : mM), B_X12_outOf_2 G F n l0 l1 l2 l3 M = some M0 → WW x (sz, 0, 0) M 2 [(0, .ref l0), (1, .ref l1), (2, .ref l2), (3, .int l3)] [] := by
  intro n
  induction n with
  | zero =>
    intro l0 l1 l2 l3 M h
    exact nomatch (show (none : Option mM) = some M0 from h)
  | succ n ih =>
    intro l0 l1 l2 l3 M h
    rw [B_X12_outOf_2] at h
    refine ww_iload_n 2 X dX12_outOf_2 3 rfl rfl ?_
    refine ww_aload_n 3 X dX12_outOf_3 0 rfl rfl ?_
    obtain ⟨v4, e4, h⟩ := bO_some h
    refine ww_getI 4 X dX12_outOf_4 fG_X12_31 e4 ?_
    refine ww_icmp_ge 7 23 X dX12_outOf_7 (by decide) (fun q => ?_) (fun q => ?_)
    · replace h := (if_pos q).symm.trans h
      refine ww_aload_n 23 X dX12_outOf_23 0 rfl rfl ?_
      obtain ⟨v24, e24, h⟩ := bO_some h
      refine ww_getR 24 X dX12_outOf_24 fG_X12_28 e24 ?_
      refine ww_iconst 27 X (v := (0 : Int32)) dX12_outOf_27 (by decide) ?_
      refine ww_iconst 28 X (v := (1 : Int32)) dX12_outOf_28 (by decide) ?_
      obtain ⟨M29, e29, h⟩ := bO_some h
      refine ww_iast 29 X dX12_outOf_29 e29 ?_
      refine ww_aload_n 30 X dX12_outOf_30 0 rfl rfl ?_
      refine ww_aload_n 31 X dX12_outOf_31 1 rfl rfl ?_
      refine ww_aload_n 32 X dX12_outOf_32 0 rfl rfl ?_
      obtain ⟨v33, e33, h⟩ := bO_some h
      refine ww_getR 33 X dX12_outOf_33 fG_X12_28 e33 ?_
      refine ww_aload_n 36 X dX12_outOf_36 2 rfl rfl ?_
      obtain ⟨_, f37, h⟩ := bO_some h
      obtain ⟨M37, e37, h⟩ := bO_some h
      refine ww_callVV0 37 X dX12_outOf_37 mY_X12_product mL_X12_59 (rcv_spec f37) ⟨_, _, rfl⟩ (by decide) (As := [.ref l1, .ref v33, .ref l2]) (rest := []) rfl rfl ⟨Nat.le_of_ble_eq_true rfl, Nat.le_of_ble_eq_true rfl⟩ (Nat.le_of_ble_eq_true rfl) (fun l D A => c_X12_product l D A e37) ?_
      exact ww_vretE 40 X hQ dX12_outOf_40 h
    · replace h := (if_neg q).symm.trans h
      refine ww_aload_n 10 X dX12_outOf_10 0 rfl rfl ?_
      obtain ⟨v11, e11, h⟩ := bO_some h
      refine ww_getR 11 X dX12_outOf_11 fG_X12_28 e11 ?_
      refine ww_iload_n 14 X dX12_outOf_14 3 rfl rfl ?_
      refine ww_iconst 15 X (v := (0 : Int32)) dX12_outOf_15 (by decide) ?_
      obtain ⟨M16, e16, h⟩ := bO_some h
      refine ww_iast 16 X dX12_outOf_16 e16 ?_
      refine ww_iinc 17 X dX12_outOf_17 (lv' := [(0, .ref l0), (1, .ref l1), (2, .ref l2), (3, .int (l3 + 1))]) 3 rfl rfl (by decide) [1, 2, 3, 0] rfl ?_
      refine ww_goto 20 2 X dX12_outOf_20 (by decide) ?_
      exact (ih _ _ _ _ _ h)
set_option maxHeartbeats 4000000 in
set_option maxRecDepth 100000 in
theorem wP_X12_outOf {G : mG} {F : Nat} {x : mXT} {sz : Nat} {M0 : mM} (X : mCX G RX12 cX12_outOf 4 none "outOf" rmX12_outOf x) (hQ : mQV x M0 (sz, 0, 0)) {l0 : Nat} {l1 : Nat} {l2 : Nat} {M : mM} (h : P_X12_outOf G F l0 l1 l2 M = some M0) : WW x (sz, 0, 0) M 0 [(0, .ref l0), (1, .ref l1), (2, .ref l2)] [] := by
  unfold P_X12_outOf at h
  refine ww_iconst 0 X (v := (0 : Int32)) dX12_outOf_0 (by decide) ?_
  refine ww_istore_n 1 X dX12_outOf_1 (lv' := [(0, .ref l0), (1, .ref l1), (2, .ref l2), (3, .int (0 : Int32))]) rfl (by decide) [1, 2, 3, 0] rfl ?_
  exact (wB_X12_outOf_2 X hQ F _ _ _ _ _ h)
theorem c_X12_outOf {G : mG} {F sz : Nat} {M0 : mM} (l : Launch) (D : mD) (A : Nat → Prop) {l0 : Nat} {l1 : Nat} {l2 : Nat} {M : mM} (h : P_X12_outOf G F l0 l1 l2 M = some M0) : mMetV l D G A yX12_outOf cX12_outOf 4 none 2 59 0 0 [.ref l0, .ref l1, .ref l2] M sz M0 sz := mMetV_of l D G A (by decide) (Nat.le_of_ble_eq_true rfl) (fun x X hQ => wP_X12_outOf X hQ h)
/-! SealedTokensModel$Mod.power([I[BII[I)V -/
theorem dX12_power_0 : decode cX12_power 0 = .ok (.iconst 0, 1) := by decide +kernel
theorem dX12_power_1 : decode cX12_power 1 = .ok (.istore 6, 2) := by decide +kernel
theorem dX12_power_3 : decode cX12_power 3 = .ok (.iload 6, 2) := by decide +kernel
theorem dX12_power_5 : decode cX12_power 5 = .ok (.aload_n 0, 1) := by decide +kernel
theorem dX12_power_6 : decode cX12_power 6 = .ok (.getfield 31, 3) := by decide +kernel
theorem dX12_power_9 : decode cX12_power 9 = .ok (.if_icmp .ge 34, 3) := by decide +kernel
theorem dX12_power_12 : decode cX12_power 12 = .ok (.aload_n 0, 1) := by decide +kernel
theorem dX12_power_13 : decode cX12_power 13 = .ok (.getfield 22, 3) := by decide +kernel
theorem dX12_power_16 : decode cX12_power 16 = .ok (.iload 6, 2) := by decide +kernel
theorem dX12_power_18 : decode cX12_power 18 = .ok (.aload_n 1, 1) := by decide +kernel
theorem dX12_power_19 : decode cX12_power 19 = .ok (.iload 6, 2) := by decide +kernel
theorem dX12_power_21 : decode cX12_power 21 = .ok (.iaload, 1) := by decide +kernel
theorem dX12_power_22 : decode cX12_power 22 = .ok (.iastore, 1) := by decide +kernel
theorem dX12_power_23 : decode cX12_power 23 = .ok (.aload_n 0, 1) := by decide +kernel
theorem dX12_power_24 : decode cX12_power 24 = .ok (.getfield 25, 3) := by decide +kernel
theorem dX12_power_27 : decode cX12_power 27 = .ok (.iload 6, 2) := by decide +kernel
theorem dX12_power_29 : decode cX12_power 29 = .ok (.aload_n 0, 1) := by decide +kernel
theorem dX12_power_30 : decode cX12_power 30 = .ok (.getfield 13, 3) := by decide +kernel
theorem dX12_power_33 : decode cX12_power 33 = .ok (.iload 6, 2) := by decide +kernel
theorem dX12_power_35 : decode cX12_power 35 = .ok (.iaload, 1) := by decide +kernel
theorem dX12_power_36 : decode cX12_power 36 = .ok (.iastore, 1) := by decide +kernel
theorem dX12_power_37 : decode cX12_power 37 = .ok (.iinc 6 1, 3) := by decide +kernel
theorem dX12_power_40 : decode cX12_power 40 = .ok (.goto (-37), 3) := by decide +kernel
theorem dX12_power_43 : decode cX12_power 43 = .ok (.iconst 0, 1) := by decide +kernel
theorem dX12_power_44 : decode cX12_power 44 = .ok (.istore 6, 2) := by decide +kernel
theorem dX12_power_46 : decode cX12_power 46 = .ok (.iload 6, 2) := by decide +kernel
theorem dX12_power_48 : decode cX12_power 48 = .ok (.bipush 8, 2) := by decide +kernel
theorem dX12_power_50 : decode cX12_power 50 = .ok (.iload 4, 2) := by decide +kernel
theorem dX12_power_52 : decode cX12_power 52 = .ok (.imul, 1) := by decide +kernel
theorem dX12_power_53 : decode cX12_power 53 = .ok (.if_icmp .ge 65, 3) := by decide +kernel
theorem dX12_power_56 : decode cX12_power 56 = .ok (.aload_n 0, 1) := by decide +kernel
theorem dX12_power_57 : decode cX12_power 57 = .ok (.aload_n 0, 1) := by decide +kernel
theorem dX12_power_58 : decode cX12_power 58 = .ok (.getfield 25, 3) := by decide +kernel
theorem dX12_power_61 : decode cX12_power 61 = .ok (.aload_n 0, 1) := by decide +kernel
theorem dX12_power_62 : decode cX12_power 62 = .ok (.getfield 25, 3) := by decide +kernel
theorem dX12_power_65 : decode cX12_power 65 = .ok (.aload_n 0, 1) := by decide +kernel
theorem dX12_power_66 : decode cX12_power 66 = .ok (.getfield 25, 3) := by decide +kernel
theorem dX12_power_69 : decode cX12_power 69 = .ok (.invokevirtual 59, 3) := by decide +kernel
theorem dX12_power_72 : decode cX12_power 72 = .ok (.aload_n 2, 1) := by decide +kernel
theorem dX12_power_73 : decode cX12_power 73 = .ok (.iload_n 3, 1) := by decide +kernel
theorem dX12_power_74 : decode cX12_power 74 = .ok (.iload 6, 2) := by decide +kernel
theorem dX12_power_76 : decode cX12_power 76 = .ok (.bipush 8, 2) := by decide +kernel
theorem dX12_power_78 : decode cX12_power 78 = .ok (.idiv, 1) := by decide +kernel
theorem dX12_power_79 : decode cX12_power 79 = .ok (.iadd, 1) := by decide +kernel
theorem dX12_power_80 : decode cX12_power 80 = .ok (.baload, 1) := by decide +kernel
theorem dX12_power_81 : decode cX12_power 81 = .ok (.bipush 7, 2) := by decide +kernel
theorem dX12_power_83 : decode cX12_power 83 = .ok (.iload 6, 2) := by decide +kernel
theorem dX12_power_85 : decode cX12_power 85 = .ok (.bipush 8, 2) := by decide +kernel
theorem dX12_power_87 : decode cX12_power 87 = .ok (.irem, 1) := by decide +kernel
theorem dX12_power_88 : decode cX12_power 88 = .ok (.isub, 1) := by decide +kernel
theorem dX12_power_89 : decode cX12_power 89 = .ok (.ishr, 1) := by decide +kernel
theorem dX12_power_90 : decode cX12_power 90 = .ok (.iconst 1, 1) := by decide +kernel
theorem dX12_power_91 : decode cX12_power 91 = .ok (.iand, 1) := by decide +kernel
theorem dX12_power_92 : decode cX12_power 92 = .ok (.iconst 1, 1) := by decide +kernel
theorem dX12_power_93 : decode cX12_power 93 = .ok (.if_icmp .ne 19, 3) := by decide +kernel
theorem dX12_power_96 : decode cX12_power 96 = .ok (.aload_n 0, 1) := by decide +kernel
theorem dX12_power_97 : decode cX12_power 97 = .ok (.aload_n 0, 1) := by decide +kernel
theorem dX12_power_98 : decode cX12_power 98 = .ok (.getfield 25, 3) := by decide +kernel
theorem dX12_power_101 : decode cX12_power 101 = .ok (.aload_n 0, 1) := by decide +kernel
theorem dX12_power_102 : decode cX12_power 102 = .ok (.getfield 22, 3) := by decide +kernel
theorem dX12_power_105 : decode cX12_power 105 = .ok (.aload_n 0, 1) := by decide +kernel
theorem dX12_power_106 : decode cX12_power 106 = .ok (.getfield 25, 3) := by decide +kernel
theorem dX12_power_109 : decode cX12_power 109 = .ok (.invokevirtual 59, 3) := by decide +kernel
theorem dX12_power_112 : decode cX12_power 112 = .ok (.iinc 6 1, 3) := by decide +kernel
theorem dX12_power_115 : decode cX12_power 115 = .ok (.goto (-69), 3) := by decide +kernel
theorem dX12_power_118 : decode cX12_power 118 = .ok (.iconst 0, 1) := by decide +kernel
theorem dX12_power_119 : decode cX12_power 119 = .ok (.istore 6, 2) := by decide +kernel
theorem dX12_power_121 : decode cX12_power 121 = .ok (.iload 6, 2) := by decide +kernel
theorem dX12_power_123 : decode cX12_power 123 = .ok (.aload_n 0, 1) := by decide +kernel
theorem dX12_power_124 : decode cX12_power 124 = .ok (.getfield 31, 3) := by decide +kernel
theorem dX12_power_127 : decode cX12_power 127 = .ok (.if_icmp .ge 21, 3) := by decide +kernel
theorem dX12_power_130 : decode cX12_power 130 = .ok (.aload 5, 2) := by decide +kernel
theorem dX12_power_132 : decode cX12_power 132 = .ok (.iload 6, 2) := by decide +kernel
theorem dX12_power_134 : decode cX12_power 134 = .ok (.aload_n 0, 1) := by decide +kernel
theorem dX12_power_135 : decode cX12_power 135 = .ok (.getfield 25, 3) := by decide +kernel
theorem dX12_power_138 : decode cX12_power 138 = .ok (.iload 6, 2) := by decide +kernel
theorem dX12_power_140 : decode cX12_power 140 = .ok (.iaload, 1) := by decide +kernel
theorem dX12_power_141 : decode cX12_power 141 = .ok (.iastore, 1) := by decide +kernel
theorem dX12_power_142 : decode cX12_power 142 = .ok (.iinc 6 1, 3) := by decide +kernel
theorem dX12_power_145 : decode cX12_power 145 = .ok (.goto (-24), 3) := by decide +kernel
theorem dX12_power_148 : decode cX12_power 148 = .ok (.return_, 1) := by decide +kernel
abbrev rmX12_power : Room := { frames := 2, cells := 0, slots := 0, locals := 59 }
set_option maxHeartbeats 4000000 in
set_option maxRecDepth 100000 in
theorem wB_X12_power_121 {G : mG} {F : Nat} {x : mXT} {sz : Nat} {M0 : mM} (X : mCX G RX12 cX12_power 7 none "power" rmX12_power x) (hQ : mQV x M0 (sz, 0, 0)) : ∀ (n : Nat) (l0 : Nat) (l5 : Nat) (l6 : Int32) (M : mM), B_X12_power_121 G F n l0 l5 l6 M = some M0 → WW x (sz, 0, 0) M 121 [(0, .ref l0), (5, .ref l5), (6, .int l6)] [] := by
  intro n
  induction n with
  | zero =>
    intro l0 l5 l6 M h
    exact nomatch (show (none : Option mM) = some M0 from h)
  | succ n ih =>
    intro l0 l5 l6 M h
    rw [B_X12_power_121] at h
    refine ww_iload 121 X dX12_power_121 2 rfl ?_
    refine ww_aload_n 123 X dX12_power_123 0 rfl rfl ?_
    obtain ⟨v124, e124, h⟩ := bO_some h
    refine ww_getI 124 X dX12_power_124 fG_X12_31 e124 ?_
    refine ww_icmp_ge 127 148 X dX12_power_127 (by decide) (fun q => ?_) (fun q => ?_)
    · replace h := (if_pos q).symm.trans h
      exact ww_vretE 148 X hQ dX12_power_148 h
    · replace h := (if_neg q).symm.trans h
      refine ww_aload 130 X dX12_power_130 1 rfl ?_
      refine ww_iload 132 X dX12_power_132 2 rfl ?_
      refine ww_aload_n 134 X dX12_power_134 0 rfl rfl ?_
      obtain ⟨v135, e135, h⟩ := bO_some h
      refine ww_getR 135 X dX12_power_135 fG_X12_25 e135 ?_
      refine ww_iload 138 X dX12_power_138 2 rfl ?_
      obtain ⟨v140, e140, h⟩ := bO_some h
      refine ww_iald 140 X dX12_power_140 e140 ?_
      obtain ⟨M141, e141, h⟩ := bO_some h
      refine ww_iast 141 X dX12_power_141 e141 ?_
      refine ww_iinc 142 X dX12_power_142 (lv' := [(0, .ref l0), (5, .ref l5), (6, .int (l6 + 1))]) 2 rfl rfl (by decide) [1, 2, 0] rfl ?_
      refine ww_goto 145 121 X dX12_power_145 (by decide) ?_
      exact (ih _ _ _ _ h)
set_option maxHeartbeats 4000000 in
set_option maxRecDepth 100000 in
theorem wB_X12_power_46 {G : mG} {F : Nat} {x : mXT} {sz : Nat} {M0 : mM} (X : mCX G RX12 cX12_power 7 none "power" rmX12_power x) (hQ : mQV x M0 (sz, 0, 0)) : ∀ (n : Nat) (l0 : Nat) (l2 : Nat) (l3 : Int32) (l4 : Int32) (l5 : Nat) (l6 : Int32) (M : mM), B_X12_power_46 G F n l0 l2 l3 l4 l5 l6 M = some M0 → WW x (sz, 0, 0) M 46 [(0, .ref l0), (2, .ref l2), (3, .int l3), (4, .int l4), (5, .ref l5), (6, .int l6)] [] := by
  intro n
  induction n with
  | zero =>
    intro l0 l2 l3 l4 l5 l6 M h
    exact nomatch (show (none : Option mM) = some M0 from h)
  | succ n ih =>
    intro l0 l2 l3 l4 l5 l6 M h
    rw [B_X12_power_46] at h
    refine ww_iload 46 X dX12_power_46 5 rfl ?_
    refine ww_bipush 48 X (v := (8 : Int32)) dX12_power_48 (by decide) ?_
    refine ww_iload 50 X dX12_power_50 3 rfl ?_
    refine ww_imul 52 X dX12_power_52 ?_
    refine ww_icmp_ge 53 118 X dX12_power_53 (by decide) (fun q => ?_) (fun q => ?_)
    · replace h := (if_pos q).symm.trans h
      refine ww_iconst 118 X (v := (0 : Int32)) dX12_power_118 (by decide) ?_
      refine ww_istore 119 X dX12_power_119 (lv' := [(0, .ref l0), (2, .ref l2), (3, .int l3), (4, .int l4), (5, .ref l5), (6, .int (0 : Int32))]) (by decide) [1, 2, 3, 4, 5, 0] rfl ?_
      exact ww_sub [0, 4, 5] rfl (wB_X12_power_121 X hQ F _ _ _ _ h)
    · replace h := (if_neg q).symm.trans h
      refine ww_aload_n 56 X dX12_power_56 0 rfl rfl ?_
      refine ww_aload_n 57 X dX12_power_57 0 rfl rfl ?_
      obtain ⟨v58, e58, h⟩ := bO_some h
      refine ww_getR 58 X dX12_power_58 fG_X12_25 e58 ?_
      refine ww_aload_n 61 X dX12_power_61 0 rfl rfl ?_
      obtain ⟨v62, e62, h⟩ := bO_some h
      refine ww_getR 62 X dX12_power_62 fG_X12_25 e62 ?_
      refine ww_aload_n 65 X dX12_power_65 0 rfl rfl ?_
      obtain ⟨v66, e66, h⟩ := bO_some h
      refine ww_getR 66 X dX12_power_66 fG_X12_25 e66 ?_
      obtain ⟨_, f69, h⟩ := bO_some h
      obtain ⟨M69, e69, h⟩ := bO_some h
      refine ww_callVV0 69 X dX12_power_69 mY_X12_product mL_X12_59 (rcv_spec f69) ⟨_, _, rfl⟩ (by decide) (As := [.ref v58, .ref v62, .ref v66]) (rest := []) rfl rfl ⟨Nat.le_of_ble_eq_true rfl, Nat.le_of_ble_eq_true rfl⟩ (Nat.le_of_ble_eq_true rfl) (fun l D A => c_X12_product l D A e69) ?_
      refine ww_aload_n 72 X dX12_power_72 1 rfl rfl ?_
      refine ww_iload_n 73 X dX12_power_73 2 rfl rfl ?_
      refine ww_iload 74 X dX12_power_74 5 rfl ?_
      refine ww_bipush 76 X (v := (8 : Int32)) dX12_power_76 (by decide) ?_
      refine ww_idiv 78 X (v := (l6 / (8 : Int32))) dX12_power_78 rfl ?_
      refine ww_iadd 79 X dX12_power_79 ?_
      obtain ⟨v80, e80, h⟩ := bO_some h
      refine ww_bald 80 X dX12_power_80 e80 ?_
      refine ww_bipush 81 X (v := (7 : Int32)) dX12_power_81 (by decide) ?_
      refine ww_iload 83 X dX12_power_83 5 rfl ?_
      refine ww_bipush 85 X (v := (8 : Int32)) dX12_power_85 (by decide) ?_
      refine ww_irem 87 X (v := (l6 - l6 / (8 : Int32) * (8 : Int32))) dX12_power_87 rfl ?_
      refine ww_isub 88 X dX12_power_88 ?_
      refine ww_ishr 89 X dX12_power_89 ?_
      refine ww_iconst 90 X (v := (1 : Int32)) dX12_power_90 (by decide) ?_
      refine ww_iand 91 X dX12_power_91 ?_
      refine ww_iconst 92 X (v := (1 : Int32)) dX12_power_92 (by decide) ?_
      refine ww_icmp_ne 93 112 X dX12_power_93 (by decide) (fun q => ?_) (fun q => ?_)
      · replace h := (if_neg q).symm.trans h
        refine ww_iinc 112 X dX12_power_112 (lv' := [(0, .ref l0), (2, .ref l2), (3, .int l3), (4, .int l4), (5, .ref l5), (6, .int (l6 + 1))]) 5 rfl rfl (by decide) [1, 2, 3, 4, 5, 0] rfl ?_
        refine ww_goto 115 46 X dX12_power_115 (by decide) ?_
        exact (ih _ _ _ _ _ _ _ h)
      · replace h := (if_pos q).symm.trans h
        refine ww_aload_n 96 X dX12_power_96 0 rfl rfl ?_
        refine ww_aload_n 97 X dX12_power_97 0 rfl rfl ?_
        obtain ⟨v98, e98, h⟩ := bO_some h
        refine ww_getR 98 X dX12_power_98 fG_X12_25 e98 ?_
        refine ww_aload_n 101 X dX12_power_101 0 rfl rfl ?_
        obtain ⟨v102, e102, h⟩ := bO_some h
        refine ww_getR 102 X dX12_power_102 fG_X12_22 e102 ?_
        refine ww_aload_n 105 X dX12_power_105 0 rfl rfl ?_
        obtain ⟨v106, e106, h⟩ := bO_some h
        refine ww_getR 106 X dX12_power_106 fG_X12_25 e106 ?_
        obtain ⟨_, f109, h⟩ := bO_some h
        obtain ⟨M109, e109, h⟩ := bO_some h
        refine ww_callVV0 109 X dX12_power_109 mY_X12_product mL_X12_59 (rcv_spec f109) ⟨_, _, rfl⟩ (by decide) (As := [.ref v98, .ref v102, .ref v106]) (rest := []) rfl rfl ⟨Nat.le_of_ble_eq_true rfl, Nat.le_of_ble_eq_true rfl⟩ (Nat.le_of_ble_eq_true rfl) (fun l D A => c_X12_product l D A e109) ?_
        refine ww_iinc 112 X dX12_power_112 (lv' := [(0, .ref l0), (2, .ref l2), (3, .int l3), (4, .int l4), (5, .ref l5), (6, .int (l6 + 1))]) 5 rfl rfl (by decide) [1, 2, 3, 4, 5, 0] rfl ?_
        refine ww_goto 115 46 X dX12_power_115 (by decide) ?_
        exact (ih _ _ _ _ _ _ _ h)
set_option maxHeartbeats 4000000 in
set_option maxRecDepth 100000 in
theorem wB_X12_power_3 {G : mG} {F : Nat} {x : mXT} {sz : Nat} {M0 : mM} (X : mCX G RX12 cX12_power 7 none "power" rmX12_power x) (hQ : mQV x M0 (sz, 0, 0)) : ∀ (n : Nat) (l0 : Nat) (l1 : Nat) (l2 : Nat) (l3 : Int32) (l4 : Int32) (l5 : Nat) (l6 : Int32) (M : mM), B_X12_power_3 G F n l0 l1 l2 l3 l4 l5 l6 M = some M0 → WW x (sz, 0, 0) M 3 [(0, .ref l0), (1, .ref l1), (2, .ref l2), (3, .int l3), (4, .int l4), (5, .ref l5), (6, .int l6)] [] := by
  intro n
  induction n with
  | zero =>
    intro l0 l1 l2 l3 l4 l5 l6 M h
    exact nomatch (show (none : Option mM) = some M0 from h)
  | succ n ih =>
    intro l0 l1 l2 l3 l4 l5 l6 M h
    rw [B_X12_power_3] at h
    refine ww_iload 3 X dX12_power_3 6 rfl ?_
    refine ww_aload_n 5 X dX12_power_5 0 rfl rfl ?_
    obtain ⟨v6, e6, h⟩ := bO_some h
    refine ww_getI 6 X dX12_power_6 fG_X12_31 e6 ?_
    refine ww_icmp_ge 9 43 X dX12_power_9 (by decide) (fun q => ?_) (fun q => ?_)
    · replace h := (if_pos q).symm.trans h
      refine ww_iconst 43 X (v := (0 : Int32)) dX12_power_43 (by decide) ?_
      refine ww_istore 44 X dX12_power_44 (lv' := [(0, .ref l0), (1, .ref l1), (2, .ref l2), (3, .int l3), (4, .int l4), (5, .ref l5), (6, .int (0 : Int32))]) (by decide) [1, 2, 3, 4, 5, 6, 0] rfl ?_
      exact ww_sub [0, 2, 3, 4, 5, 6] rfl (wB_X12_power_46 X hQ F _ _ _ _ _ _ _ h)
    · replace h := (if_neg q).symm.trans h
      refine ww_aload_n 12 X dX12_power_12 0 rfl rfl ?_
      obtain ⟨v13, e13, h⟩ := bO_some h
      refine ww_getR 13 X dX12_power_13 fG_X12_22 e13 ?_
      refine ww_iload 16 X dX12_power_16 6 rfl ?_
      refine ww_aload_n 18 X dX12_power_18 1 rfl rfl ?_
      refine ww_iload 19 X dX12_power_19 6 rfl ?_
      obtain ⟨v21, e21, h⟩ := bO_some h
      refine ww_iald 21 X dX12_power_21 e21 ?_
      obtain ⟨M22, e22, h⟩ := bO_some h
      refine ww_iast 22 X dX12_power_22 e22 ?_
      refine ww_aload_n 23 X dX12_power_23 0 rfl rfl ?_
      obtain ⟨v24, e24, h⟩ := bO_some h
      refine ww_getR 24 X dX12_power_24 fG_X12_25 e24 ?_
      refine ww_iload 27 X dX12_power_27 6 rfl ?_
      refine ww_aload_n 29 X dX12_power_29 0 rfl rfl ?_
      obtain ⟨v30, e30, h⟩ := bO_some h
      refine ww_getR 30 X dX12_power_30 fG_X12_13 e30 ?_
      refine ww_iload 33 X dX12_power_33 6 rfl ?_
      obtain ⟨v35, e35, h⟩ := bO_some h
      refine ww_iald 35 X dX12_power_35 e35 ?_
      obtain ⟨M36, e36, h⟩ := bO_some h
      refine ww_iast 36 X dX12_power_36 e36 ?_
      refine ww_iinc 37 X dX12_power_37 (lv' := [(0, .ref l0), (1, .ref l1), (2, .ref l2), (3, .int l3), (4, .int l4), (5, .ref l5), (6, .int (l6 + 1))]) 6 rfl rfl (by decide) [1, 2, 3, 4, 5, 6, 0] rfl ?_
      refine ww_goto 40 3 X dX12_power_40 (by decide) ?_
      exact (ih _ _ _ _ _ _ _ _ h)
set_option maxHeartbeats 4000000 in
set_option maxRecDepth 100000 in
theorem wP_X12_power {G : mG} {F : Nat} {x : mXT} {sz : Nat} {M0 : mM} (X : mCX G RX12 cX12_power 7 none "power" rmX12_power x) (hQ : mQV x M0 (sz, 0, 0)) {l0 : Nat} {l1 : Nat} {l2 : Nat} {l3 : Int32} {l4 : Int32} {l5 : Nat} {M : mM} (h : P_X12_power G F l0 l1 l2 l3 l4 l5 M = some M0) : WW x (sz, 0, 0) M 0 [(0, .ref l0), (1, .ref l1), (2, .ref l2), (3, .int l3), (4, .int l4), (5, .ref l5)] [] := by
  unfold P_X12_power at h
  refine ww_iconst 0 X (v := (0 : Int32)) dX12_power_0 (by decide) ?_
  refine ww_istore 1 X dX12_power_1 (lv' := [(0, .ref l0), (1, .ref l1), (2, .ref l2), (3, .int l3), (4, .int l4), (5, .ref l5), (6, .int (0 : Int32))]) (by decide) [1, 2, 3, 4, 5, 6, 0] rfl ?_
  exact (wB_X12_power_3 X hQ F _ _ _ _ _ _ _ _ h)
theorem c_X12_power {G : mG} {F sz : Nat} {M0 : mM} (l : Launch) (D : mD) (A : Nat → Prop) {l0 : Nat} {l1 : Nat} {l2 : Nat} {l3 : Int32} {l4 : Int32} {l5 : Nat} {M : mM} (h : P_X12_power G F l0 l1 l2 l3 l4 l5 M = some M0) : mMetV l D G A yX12_power cX12_power 7 none 2 59 0 0 [.ref l0, .ref l1, .ref l2, .int l3, .int l4, .ref l5] M sz M0 sz := mMetV_of l D G A (by decide) (Nat.le_of_ble_eq_true rfl) (fun x X hQ => wP_X12_power X hQ h)
/-! SealedTokensModel.twice(I)I -/
theorem dX13_twice_0 : decode cX13_twice 0 = .ok (.iload_n 0, 1) := by decide +kernel
theorem dX13_twice_1 : decode cX13_twice 1 = .ok (.iconst 1, 1) := by decide +kernel
theorem dX13_twice_2 : decode cX13_twice 2 = .ok (.ishl, 1) := by decide +kernel
theorem dX13_twice_3 : decode cX13_twice 3 = .ok (.sipush 255, 3) := by decide +kernel
theorem dX13_twice_6 : decode cX13_twice 6 = .ok (.iand, 1) := by decide +kernel
theorem dX13_twice_7 : decode cX13_twice 7 = .ok (.iload_n 0, 1) := by decide +kernel
theorem dX13_twice_8 : decode cX13_twice 8 = .ok (.bipush 127, 2) := by decide +kernel
theorem dX13_twice_10 : decode cX13_twice 10 = .ok (.if_icmp .le 8, 3) := by decide +kernel
theorem dX13_twice_13 : decode cX13_twice 13 = .ok (.bipush 27, 2) := by decide +kernel
theorem dX13_twice_15 : decode cX13_twice 15 = .ok (.goto 4, 3) := by decide +kernel
theorem dX13_twice_18 : decode cX13_twice 18 = .ok (.iconst 0, 1) := by decide +kernel
theorem dX13_twice_19 : decode cX13_twice 19 = .ok (.ixor, 1) := by decide +kernel
theorem dX13_twice_20 : decode cX13_twice 20 = .ok (.ireturn, 1) := by decide +kernel
abbrev rmX13_twice : Room := { frames := 0, cells := 0, slots := 0, locals := 0 }
set_option maxHeartbeats 4000000 in
set_option maxRecDepth 100000 in
theorem wP_X13_twice {G : mG} {F : Nat} {x : mXT} {sz : Nat} {r0 : Int32} {M0 : mM} (X : mCX G RX13 cX13_twice 1 (some .int) "twice" rmX13_twice x) (hQ : mQI x r0 M0 (sz, 0, 0)) {l0 : Int32} {M : mM} (h : P_X13_twice G F l0 M = some (r0, M0)) : WW x (sz, 0, 0) M 0 [(0, .int l0)] [] := by
  unfold P_X13_twice at h
  refine ww_iload_n 0 X dX13_twice_0 0 rfl rfl ?_
  refine ww_iconst 1 X (v := (1 : Int32)) dX13_twice_1 (by decide) ?_
  refine ww_ishl 2 X dX13_twice_2 ?_
  refine ww_sipush 3 X (v := (255 : Int32)) dX13_twice_3 (by decide) ?_
  refine ww_iand 6 X dX13_twice_6 ?_
  refine ww_iload_n 7 X dX13_twice_7 0 rfl rfl ?_
  refine ww_bipush 8 X (v := (127 : Int32)) dX13_twice_8 (by decide) ?_
  refine ww_icmp_le 10 18 X dX13_twice_10 (by decide) (fun q => ?_) (fun q => ?_)
  · replace h := (if_pos q).symm.trans h
    refine ww_iconst 18 X (v := (0 : Int32)) dX13_twice_18 (by decide) ?_
    refine ww_ixor 19 X dX13_twice_19 ?_
    exact ww_iretE 20 X hQ dX13_twice_20 h
  · replace h := (if_neg q).symm.trans h
    refine ww_bipush 13 X (v := (27 : Int32)) dX13_twice_13 (by decide) ?_
    refine ww_goto 15 19 X dX13_twice_15 (by decide) ?_
    refine ww_ixor 19 X dX13_twice_19 ?_
    exact ww_iretE 20 X hQ dX13_twice_20 h
theorem c_X13_twice {G : mG} {F sz : Nat} {r0 : Int32} {M0 : mM} (l : Launch) (D : mD) (A : Nat → Prop) {l0 : Int32} {M : mM} (h : P_X13_twice G F l0 M = some (r0, M0)) : mMetI l D G A yX13_twice cX13_twice 1 (some .int) 0 0 0 0 [.int l0] M sz r0 M0 sz := mMetI_of l D G A (by decide) (Nat.le_of_ble_eq_true rfl) (fun x X hQ => wP_X13_twice X hQ h)
/-! SealedTokensModel.times(II)I -/
theorem dX13_times_0 : decode cX13_times 0 = .ok (.iload_n 0, 1) := by decide +kernel
theorem dX13_times_1 : decode cX13_times 1 = .ok (.istore_n 2, 1) := by decide +kernel
theorem dX13_times_2 : decode cX13_times 2 = .ok (.iconst 0, 1) := by decide +kernel
theorem dX13_times_3 : decode cX13_times 3 = .ok (.istore_n 3, 1) := by decide +kernel
theorem dX13_times_4 : decode cX13_times 4 = .ok (.iconst 0, 1) := by decide +kernel
theorem dX13_times_5 : decode cX13_times 5 = .ok (.istore 4, 2) := by decide +kernel
theorem dX13_times_7 : decode cX13_times 7 = .ok (.iload 4, 2) := by decide +kernel
theorem dX13_times_9 : decode cX13_times 9 = .ok (.bipush 8, 2) := by decide +kernel
theorem dX13_times_11 : decode cX13_times 11 = .ok (.if_icmp .ge 32, 3) := by decide +kernel
theorem dX13_times_14 : decode cX13_times 14 = .ok (.iload_n 1, 1) := by decide +kernel
theorem dX13_times_15 : decode cX13_times 15 = .ok (.iload 4, 2) := by decide +kernel
theorem dX13_times_17 : decode cX13_times 17 = .ok (.ishr, 1) := by decide +kernel
theorem dX13_times_18 : decode cX13_times 18 = .ok (.iconst 1, 1) := by decide +kernel
theorem dX13_times_19 : decode cX13_times 19 = .ok (.iand, 1) := by decide +kernel
theorem dX13_times_20 : decode cX13_times 20 = .ok (.iconst 1, 1) := by decide +kernel
theorem dX13_times_21 : decode cX13_times 21 = .ok (.if_icmp .ne 9, 3) := by decide +kernel
theorem dX13_times_24 : decode cX13_times 24 = .ok (.iload_n 3, 1) := by decide +kernel
theorem dX13_times_25 : decode cX13_times 25 = .ok (.iload_n 2, 1) := by decide +kernel
theorem dX13_times_26 : decode cX13_times 26 = .ok (.ixor, 1) := by decide +kernel
theorem dX13_times_27 : decode cX13_times 27 = .ok (.goto 4, 3) := by decide +kernel
theorem dX13_times_30 : decode cX13_times 30 = .ok (.iload_n 3, 1) := by decide +kernel
theorem dX13_times_31 : decode cX13_times 31 = .ok (.istore_n 3, 1) := by decide +kernel
theorem dX13_times_32 : decode cX13_times 32 = .ok (.iload_n 2, 1) := by decide +kernel
theorem dX13_times_33 : decode cX13_times 33 = .ok (.invokestatic 589, 3) := by decide +kernel
theorem dX13_times_36 : decode cX13_times 36 = .ok (.istore_n 2, 1) := by decide +kernel
theorem dX13_times_37 : decode cX13_times 37 = .ok (.iinc 4 1, 3) := by decide +kernel
theorem dX13_times_40 : decode cX13_times 40 = .ok (.goto (-33), 3) := by decide +kernel
theorem dX13_times_43 : decode cX13_times 43 = .ok (.iload_n 3, 1) := by decide +kernel
theorem dX13_times_44 : decode cX13_times 44 = .ok (.ireturn, 1) := by decide +kernel
abbrev rmX13_times : Room := { frames := 1, cells := 0, slots := 0, locals := 20 }
set_option maxHeartbeats 4000000 in
set_option maxRecDepth 100000 in
theorem wB_X13_times_7 {G : mG} {F : Nat} {x : mXT} {sz : Nat} {r0 : Int32} {M0 : mM} (X : mCX G RX13 cX13_times 5 (some .int) "times" rmX13_times x) (hQ : mQI x r0 M0 (sz, 0, 0)) : ∀ (n : Nat) (l1 : Int32) (l2 : Int32) (l3 : Int32) (l4 : Int32) (M : mM), B_X13_times_7 G F n l1 l2 l3 l4 M = some (r0, M0) → WW x (sz, 0, 0) M 7 [(1, .int l1), (2, .int l2), (3, .int l3), (4, .int l4)] [] := by
  intro n
  induction n with
  | zero =>
    intro l1 l2 l3 l4 M h
    exact nomatch (show (none : Option (Int32 × mM)) = some (r0, M0) from h)
  | succ n ih =>
    intro l1 l2 l3 l4 M h
    rw [B_X13_times_7] at h
    refine ww_iload 7 X dX13_times_7 3 rfl ?_
    refine ww_bipush 9 X (v := (8 : Int32)) dX13_times_9 (by decide) ?_
    refine ww_icmp_ge 11 43 X dX13_times_11 (by decide) (fun q => ?_) (fun q => ?_)
    · replace h := (if_pos q).symm.trans h
      refine ww_iload_n 43 X dX13_times_43 2 rfl rfl ?_
      exact ww_iretE 44 X hQ dX13_times_44 h
    · replace h := (if_neg q).symm.trans h
      refine ww_iload_n 14 X dX13_times_14 0 rfl rfl ?_
      refine ww_iload 15 X dX13_times_15 3 rfl ?_
      refine ww_ishr 17 X dX13_times_17 ?_
      refine ww_iconst 18 X (v := (1 : Int32)) dX13_times_18 (by decide) ?_
      refine ww_iand 19 X dX13_times_19 ?_
      refine ww_iconst 20 X (v := (1 : Int32)) dX13_times_20 (by decide) ?_
      refine ww_icmp_ne 21 30 X dX13_times_21 (by decide) (fun q => ?_) (fun q => ?_)
      · replace h := (if_neg q).symm.trans h
        refine ww_iload_n 30 X dX13_times_30 2 rfl rfl ?_
        refine ww_istore_n 31 X dX13_times_31 (lv' := [(1, .int l1), (2, .int l2), (3, .int l3), (4, .int l4)]) rfl (by decide) [1, 2, 0, 3] rfl ?_
        refine ww_iload_n 32 X dX13_times_32 1 rfl rfl ?_
        obtain ⟨v33, M33, e33, h⟩ := bP_some h
        refine ww_callSI0 33 X dX13_times_33 mY_X13_twice mL_X13_589 (As := [.int l2]) (rest := []) rfl rfl ⟨Nat.le_of_ble_eq_true rfl, Nat.le_of_ble_eq_true rfl⟩ (Nat.le_of_ble_eq_true rfl) (fun l D A => c_X13_twice l D A e33) ?_
        refine ww_istore_n 36 X dX13_times_36 (lv' := [(1, .int l1), (2, .int v33), (3, .int l3), (4, .int l4)]) rfl (by decide) [1, 0, 2, 3] rfl ?_
        refine ww_iinc 37 X dX13_times_37 (lv' := [(1, .int l1), (2, .int v33), (3, .int l3), (4, .int (l4 + 1))]) 3 rfl rfl (by decide) [1, 2, 3, 0] rfl ?_
        refine ww_goto 40 7 X dX13_times_40 (by decide) ?_
        exact (ih _ _ _ _ _ h)
      · replace h := (if_pos q).symm.trans h
        refine ww_iload_n 24 X dX13_times_24 2 rfl rfl ?_
        refine ww_iload_n 25 X dX13_times_25 1 rfl rfl ?_
        refine ww_ixor 26 X dX13_times_26 ?_
        refine ww_goto 27 31 X dX13_times_27 (by decide) ?_
        refine ww_istore_n 31 X dX13_times_31 (lv' := [(1, .int l1), (2, .int l2), (3, .int (l3 ^^^ l2)), (4, .int l4)]) rfl (by decide) [1, 2, 0, 3] rfl ?_
        refine ww_iload_n 32 X dX13_times_32 1 rfl rfl ?_
        obtain ⟨v33, M33, e33, h⟩ := bP_some h
        refine ww_callSI0 33 X dX13_times_33 mY_X13_twice mL_X13_589 (As := [.int l2]) (rest := []) rfl rfl ⟨Nat.le_of_ble_eq_true rfl, Nat.le_of_ble_eq_true rfl⟩ (Nat.le_of_ble_eq_true rfl) (fun l D A => c_X13_twice l D A e33) ?_
        refine ww_istore_n 36 X dX13_times_36 (lv' := [(1, .int l1), (2, .int v33), (3, .int (l3 ^^^ l2)), (4, .int l4)]) rfl (by decide) [1, 0, 2, 3] rfl ?_
        refine ww_iinc 37 X dX13_times_37 (lv' := [(1, .int l1), (2, .int v33), (3, .int (l3 ^^^ l2)), (4, .int (l4 + 1))]) 3 rfl rfl (by decide) [1, 2, 3, 0] rfl ?_
        refine ww_goto 40 7 X dX13_times_40 (by decide) ?_
        exact (ih _ _ _ _ _ h)
set_option maxHeartbeats 4000000 in
set_option maxRecDepth 100000 in
theorem wP_X13_times {G : mG} {F : Nat} {x : mXT} {sz : Nat} {r0 : Int32} {M0 : mM} (X : mCX G RX13 cX13_times 5 (some .int) "times" rmX13_times x) (hQ : mQI x r0 M0 (sz, 0, 0)) {l0 : Int32} {l1 : Int32} {M : mM} (h : P_X13_times G F l0 l1 M = some (r0, M0)) : WW x (sz, 0, 0) M 0 [(0, .int l0), (1, .int l1)] [] := by
  unfold P_X13_times at h
  refine ww_iload_n 0 X dX13_times_0 0 rfl rfl ?_
  refine ww_istore_n 1 X dX13_times_1 (lv' := [(0, .int l0), (1, .int l1), (2, .int l0)]) rfl (by decide) [1, 2, 0] rfl ?_
  refine ww_iconst 2 X (v := (0 : Int32)) dX13_times_2 (by decide) ?_
  refine ww_istore_n 3 X dX13_times_3 (lv' := [(0, .int l0), (1, .int l1), (2, .int l0), (3, .int (0 : Int32))]) rfl (by decide) [1, 2, 3, 0] rfl ?_
  refine ww_iconst 4 X (v := (0 : Int32)) dX13_times_4 (by decide) ?_
  refine ww_istore 5 X dX13_times_5 (lv' := [(0, .int l0), (1, .int l1), (2, .int l0), (3, .int (0 : Int32)), (4, .int (0 : Int32))]) (by decide) [1, 2, 3, 4, 0] rfl ?_
  exact ww_sub [1, 2, 3, 4] rfl (wB_X13_times_7 X hQ F _ _ _ _ _ h)
theorem c_X13_times {G : mG} {F sz : Nat} {r0 : Int32} {M0 : mM} (l : Launch) (D : mD) (A : Nat → Prop) {l0 : Int32} {l1 : Int32} {M : mM} (h : P_X13_times G F l0 l1 M = some (r0, M0)) : mMetI l D G A yX13_times cX13_times 5 (some .int) 1 20 0 0 [.int l0, .int l1] M sz r0 M0 sz := mMetI_of l D G A (by decide) (Nat.le_of_ble_eq_true rfl) (fun x X hQ => wP_X13_times X hQ h)
/-! SealedTokensModel.layCipher()V -/
theorem dX13_layCipher_0 : decode cX13_layCipher 0 = .ok (.iconst 0, 1) := by decide +kernel
theorem dX13_layCipher_1 : decode cX13_layCipher 1 = .ok (.istore_n 1, 1) := by decide +kernel
theorem dX13_layCipher_2 : decode cX13_layCipher 2 = .ok (.iload_n 1, 1) := by decide +kernel
theorem dX13_layCipher_3 : decode cX13_layCipher 3 = .ok (.sipush 256, 3) := by decide +kernel
theorem dX13_layCipher_6 : decode cX13_layCipher 6 = .ok (.if_icmp .ge 107, 3) := by decide +kernel
theorem dX13_layCipher_9 : decode cX13_layCipher 9 = .ok (.iconst 0, 1) := by decide +kernel
theorem dX13_layCipher_10 : decode cX13_layCipher 10 = .ok (.istore_n 2, 1) := by decide +kernel
theorem dX13_layCipher_11 : decode cX13_layCipher 11 = .ok (.iconst 1, 1) := by decide +kernel
theorem dX13_layCipher_12 : decode cX13_layCipher 12 = .ok (.istore_n 3, 1) := by decide +kernel
theorem dX13_layCipher_13 : decode cX13_layCipher 13 = .ok (.iload_n 3, 1) := by decide +kernel
theorem dX13_layCipher_14 : decode cX13_layCipher 14 = .ok (.sipush 256, 3) := by decide +kernel
theorem dX13_layCipher_17 : decode cX13_layCipher 17 = .ok (.if_icmp .ge 32, 3) := by decide +kernel
theorem dX13_layCipher_20 : decode cX13_layCipher 20 = .ok (.iload_n 1, 1) := by decide +kernel
theorem dX13_layCipher_21 : decode cX13_layCipher 21 = .ok (.ifCond .le 28, 3) := by decide +kernel
theorem dX13_layCipher_24 : decode cX13_layCipher 24 = .ok (.iload_n 2, 1) := by decide +kernel
theorem dX13_layCipher_25 : decode cX13_layCipher 25 = .ok (.ifCond .ne 24, 3) := by decide +kernel
theorem dX13_layCipher_28 : decode cX13_layCipher 28 = .ok (.iload_n 1, 1) := by decide +kernel
theorem dX13_layCipher_29 : decode cX13_layCipher 29 = .ok (.iload_n 3, 1) := by decide +kernel
theorem dX13_layCipher_30 : decode cX13_layCipher 30 = .ok (.invokestatic 592, 3) := by decide +kernel
theorem dX13_layCipher_33 : decode cX13_layCipher 33 = .ok (.iconst 1, 1) := by decide +kernel
theorem dX13_layCipher_34 : decode cX13_layCipher 34 = .ok (.if_icmp .ne 7, 3) := by decide +kernel
theorem dX13_layCipher_37 : decode cX13_layCipher 37 = .ok (.iload_n 3, 1) := by decide +kernel
theorem dX13_layCipher_38 : decode cX13_layCipher 38 = .ok (.goto 4, 3) := by decide +kernel
theorem dX13_layCipher_41 : decode cX13_layCipher 41 = .ok (.iconst 0, 1) := by decide +kernel
theorem dX13_layCipher_42 : decode cX13_layCipher 42 = .ok (.istore_n 2, 1) := by decide +kernel
theorem dX13_layCipher_43 : decode cX13_layCipher 43 = .ok (.iinc 3 1, 3) := by decide +kernel
theorem dX13_layCipher_46 : decode cX13_layCipher 46 = .ok (.goto (-33), 3) := by decide +kernel
theorem dX13_layCipher_49 : decode cX13_layCipher 49 = .ok (.iload_n 2, 1) := by decide +kernel
theorem dX13_layCipher_50 : decode cX13_layCipher 50 = .ok (.istore_n 3, 1) := by decide +kernel
theorem dX13_layCipher_51 : decode cX13_layCipher 51 = .ok (.iconst 1, 1) := by decide +kernel
theorem dX13_layCipher_52 : decode cX13_layCipher 52 = .ok (.istore 4, 2) := by decide +kernel
theorem dX13_layCipher_54 : decode cX13_layCipher 54 = .ok (.iload 4, 2) := by decide +kernel
theorem dX13_layCipher_56 : decode cX13_layCipher 56 = .ok (.iconst 5, 1) := by decide +kernel
theorem dX13_layCipher_57 : decode cX13_layCipher 57 = .ok (.if_icmp .ge 28, 3) := by decide +kernel
theorem dX13_layCipher_60 : decode cX13_layCipher 60 = .ok (.iload_n 3, 1) := by decide +kernel
theorem dX13_layCipher_61 : decode cX13_layCipher 61 = .ok (.iload_n 2, 1) := by decide +kernel
theorem dX13_layCipher_62 : decode cX13_layCipher 62 = .ok (.iload 4, 2) := by decide +kernel
theorem dX13_layCipher_64 : decode cX13_layCipher 64 = .ok (.ishl, 1) := by decide +kernel
theorem dX13_layCipher_65 : decode cX13_layCipher 65 = .ok (.iload_n 2, 1) := by decide +kernel
theorem dX13_layCipher_66 : decode cX13_layCipher 66 = .ok (.bipush 8, 2) := by decide +kernel
theorem dX13_layCipher_68 : decode cX13_layCipher 68 = .ok (.iload 4, 2) := by decide +kernel
theorem dX13_layCipher_70 : decode cX13_layCipher 70 = .ok (.isub, 1) := by decide +kernel
theorem dX13_layCipher_71 : decode cX13_layCipher 71 = .ok (.ishr, 1) := by decide +kernel
theorem dX13_layCipher_72 : decode cX13_layCipher 72 = .ok (.ior, 1) := by decide +kernel
theorem dX13_layCipher_73 : decode cX13_layCipher 73 = .ok (.sipush 255, 3) := by decide +kernel
theorem dX13_layCipher_76 : decode cX13_layCipher 76 = .ok (.iand, 1) := by decide +kernel
theorem dX13_layCipher_77 : decode cX13_layCipher 77 = .ok (.ixor, 1) := by decide +kernel
theorem dX13_layCipher_78 : decode cX13_layCipher 78 = .ok (.istore_n 3, 1) := by decide +kernel
theorem dX13_layCipher_79 : decode cX13_layCipher 79 = .ok (.iinc 4 1, 3) := by decide +kernel
theorem dX13_layCipher_82 : decode cX13_layCipher 82 = .ok (.goto (-28), 3) := by decide +kernel
theorem dX13_layCipher_85 : decode cX13_layCipher 85 = .ok (.aload_n 0, 1) := by decide +kernel
theorem dX13_layCipher_86 : decode cX13_layCipher 86 = .ok (.getfield 89, 3) := by decide +kernel
theorem dX13_layCipher_89 : decode cX13_layCipher 89 = .ok (.iload_n 1, 1) := by decide +kernel
theorem dX13_layCipher_90 : decode cX13_layCipher 90 = .ok (.iload_n 3, 1) := by decide +kernel
theorem dX13_layCipher_91 : decode cX13_layCipher 91 = .ok (.bipush 99, 2) := by decide +kernel
theorem dX13_layCipher_93 : decode cX13_layCipher 93 = .ok (.ixor, 1) := by decide +kernel
theorem dX13_layCipher_94 : decode cX13_layCipher 94 = .ok (.iastore, 1) := by decide +kernel
theorem dX13_layCipher_95 : decode cX13_layCipher 95 = .ok (.aload_n 0, 1) := by decide +kernel
theorem dX13_layCipher_96 : decode cX13_layCipher 96 = .ok (.getfield 92, 3) := by decide +kernel
theorem dX13_layCipher_99 : decode cX13_layCipher 99 = .ok (.aload_n 0, 1) := by decide +kernel
theorem dX13_layCipher_100 : decode cX13_layCipher 100 = .ok (.getfield 89, 3) := by decide +kernel
theorem dX13_layCipher_103 : decode cX13_layCipher 103 = .ok (.iload_n 1, 1) := by decide +kernel
theorem dX13_layCipher_104 : decode cX13_layCipher 104 = .ok (.iaload, 1) := by decide +kernel
theorem dX13_layCipher_105 : decode cX13_layCipher 105 = .ok (.iload_n 1, 1) := by decide +kernel
theorem dX13_layCipher_106 : decode cX13_layCipher 106 = .ok (.iastore, 1) := by decide +kernel
theorem dX13_layCipher_107 : decode cX13_layCipher 107 = .ok (.iinc 1 1, 3) := by decide +kernel
theorem dX13_layCipher_110 : decode cX13_layCipher 110 = .ok (.goto (-108), 3) := by decide +kernel
theorem dX13_layCipher_113 : decode cX13_layCipher 113 = .ok (.return_, 1) := by decide +kernel
abbrev rmX13_layCipher : Room := { frames := 2, cells := 0, slots := 0, locals := 44 }
set_option maxHeartbeats 4000000 in
set_option maxRecDepth 100000 in
theorem wB_X13_layCipher_54 {G : mG} {F : Nat} {x : mXT} {sz : Nat} {M0 : mM} (X : mCX G RX13 cX13_layCipher 5 none "layCipher" rmX13_layCipher x) (hQ : mQV x M0 (sz, 0, 0)) (r2 : Nat → Int32 → mM → Option mM) (hr2 : ∀ (l0 : Nat) (l1 : Int32) (M : mM), r2 l0 l1 M = some M0 → WW x (sz, 0, 0) M 2 [(0, .ref l0), (1, .int l1)] []) : ∀ (n : Nat) (l0 : Nat) (l1 : Int32) (l2 : Int32) (l3 : Int32) (l4 : Int32) (M : mM), B_X13_layCipher_54 G F r2 n l0 l1 l2 l3 l4 M = some M0 → WW x (sz, 0, 0) M 54 [(0, .ref l0), (1, .int l1), (2, .int l2), (3, .int l3), (4, .int l4)] [] := by
  intro n
  induction n with
  | zero =>
    intro l0 l1 l2 l3 l4 M h
    exact nomatch (show (none : Option mM) = some M0 from h)
  | succ n ih =>
    intro l0 l1 l2 l3 l4 M h
    rw [B_X13_layCipher_54] at h
    refine ww_iload 54 X dX13_layCipher_54 4 rfl ?_
    refine ww_iconst 56 X (v := (5 : Int32)) dX13_layCipher_56 (by decide) ?_
    refine ww_icmp_ge 57 85 X dX13_layCipher_57 (by decide) (fun q => ?_) (fun q => ?_)
    · replace h := (if_pos q).symm.trans h
      refine ww_aload_n 85 X dX13_layCipher_85 0 rfl rfl ?_
      obtain ⟨v86, e86, h⟩ := bO_some h
      refine ww_getR 86 X dX13_layCipher_86 fG_X13_89 e86 ?_
      refine ww_iload_n 89 X dX13_layCipher_89 1 rfl rfl ?_
      refine ww_iload_n 90 X dX13_layCipher_90 3 rfl rfl ?_
      refine ww_bipush 91 X (v := (99 : Int32)) dX13_layCipher_91 (by decide) ?_
      refine ww_ixor 93 X dX13_layCipher_93 ?_
      obtain ⟨M94, e94, h⟩ := bO_some h
      refine ww_iast 94 X dX13_layCipher_94 e94 ?_
      refine ww_aload_n 95 X dX13_layCipher_95 0 rfl rfl ?_
      obtain ⟨v96, e96, h⟩ := bO_some h
      refine ww_getR 96 X dX13_layCipher_96 fG_X13_92 e96 ?_
      refine ww_aload_n 99 X dX13_layCipher_99 0 rfl rfl ?_
      obtain ⟨v100, e100, h⟩ := bO_some h
      refine ww_getR 100 X dX13_layCipher_100 fG_X13_89 e100 ?_
      refine ww_iload_n 103 X dX13_layCipher_103 1 rfl rfl ?_
      obtain ⟨v104, e104, h⟩ := bO_some h
      refine ww_iald 104 X dX13_layCipher_104 e104 ?_
      refine ww_iload_n 105 X dX13_layCipher_105 1 rfl rfl ?_
      obtain ⟨M106, e106, h⟩ := bO_some h
      refine ww_iast 106 X dX13_layCipher_106 e106 ?_
      refine ww_iinc 107 X dX13_layCipher_107 (lv' := [(0, .ref l0), (1, .int (l1 + 1)), (2, .int l2), (3, .int l3), (4, .int l4)]) 1 rfl rfl (by decide) [1, 0, 2, 3, 4] rfl ?_
      refine ww_goto 110 2 X dX13_layCipher_110 (by decide) ?_
      exact ww_sub [0, 1] rfl (hr2 _ _ _ h)
    · replace h := (if_neg q).symm.trans h
      refine ww_iload_n 60 X dX13_layCipher_60 3 rfl rfl ?_
      refine ww_iload_n 61 X dX13_layCipher_61 2 rfl rfl ?_
      refine ww_iload 62 X dX13_layCipher_62 4 rfl ?_
      refine ww_ishl 64 X dX13_layCipher_64 ?_
      refine ww_iload_n 65 X dX13_layCipher_65 2 rfl rfl ?_
      refine ww_bipush 66 X (v := (8 : Int32)) dX13_layCipher_66 (by decide) ?_
      refine ww_iload 68 X dX13_layCipher_68 4 rfl ?_
      refine ww_isub 70 X dX13_layCipher_70 ?_
      refine ww_ishr 71 X dX13_layCipher_71 ?_
      refine ww_ior 72 X dX13_layCipher_72 ?_
      refine ww_sipush 73 X (v := (255 : Int32)) dX13_layCipher_73 (by decide) ?_
      refine ww_iand 76 X dX13_layCipher_76 ?_
      refine ww_ixor 77 X dX13_layCipher_77 ?_
      refine ww_istore_n 78 X dX13_layCipher_78 (lv' := [(0, .ref l0), (1, .int l1), (2, .int l2), (3, .int (l3 ^^^ (((l2 <<< (l4 &&& 31)) ||| (l2 >>> (((8 : Int32) - l4) &&& 31))) &&& (255 : Int32)))), (4, .int l4)]) rfl (by decide) [1, 2, 3, 0, 4] rfl ?_
      refine ww_iinc 79 X dX13_layCipher_79 (lv' := [(0, .ref l0), (1, .int l1), (2, .int l2), (3, .int (l3 ^^^ (((l2 <<< (l4 &&& 31)) ||| (l2 >>> (((8 : Int32) - l4) &&& 31))) &&& (255 : Int32)))), (4, .int (l4 + 1))]) 4 rfl rfl (by decide) [1, 2, 3, 4, 0] rfl ?_
      refine ww_goto 82 54 X dX13_layCipher_82 (by decide) ?_
      exact (ih _ _ _ _ _ _ h)
set_option maxHeartbeats 4000000 in
set_option maxRecDepth 100000 in
theorem wB_X13_layCipher_13 {G : mG} {F : Nat} {x : mXT} {sz : Nat} {M0 : mM} (X : mCX G RX13 cX13_layCipher 5 none "layCipher" rmX13_layCipher x) (hQ : mQV x M0 (sz, 0, 0)) (r2 : Nat → Int32 → mM → Option mM) (hr2 : ∀ (l0 : Nat) (l1 : Int32) (M : mM), r2 l0 l1 M = some M0 → WW x (sz, 0, 0) M 2 [(0, .ref l0), (1, .int l1)] []) : ∀ (n : Nat) (l0 : Nat) (l1 : Int32) (l2 : Int32) (l3 : Int32) (M : mM), B_X13_layCipher_13 G F r2 n l0 l1 l2 l3 M = some M0 → WW x (sz, 0, 0) M 13 [(0, .ref l0), (1, .int l1), (2, .int l2), (3, .int l3)] [] := by
  intro n
  induction n with
  | zero =>
    intro l0 l1 l2 l3 M h
    exact nomatch (show (none : Option mM) = some M0 from h)
  | succ n ih =>
    intro l0 l1 l2 l3 M h
    rw [B_X13_layCipher_13] at h
    refine ww_iload_n 13 X dX13_layCipher_13 3 rfl rfl ?_
    refine ww_sipush 14 X (v := (256 : Int32)) dX13_layCipher_14 (by decide) ?_
    refine ww_icmp_ge 17 49 X dX13_layCipher_17 (by decide) (fun q => ?_) (fun q => ?_)
    · replace h := (if_pos q).symm.trans h
      refine ww_iload_n 49 X dX13_layCipher_49 2 rfl rfl ?_
      refine ww_istore_n 50 X dX13_layCipher_50 (lv' := [(0, .ref l0), (1, .int l1), (2, .int l2), (3, .int l2)]) rfl (by decide) [1, 2, 3, 0] rfl ?_
      refine ww_iconst 51 X (v := (1 : Int32)) dX13_layCipher_51 (by decide) ?_
      refine ww_istore 52 X dX13_layCipher_52 (lv' := [(0, .ref l0), (1, .int l1), (2, .int l2), (3, .int l2), (4, .int (1 : Int32))]) (by decide) [1, 2, 3, 4, 0] rfl ?_
      exact (wB_X13_layCipher_54 X hQ _ hr2 F _ _ _ _ _ _ h)
    · replace h := (if_neg q).symm.trans h
      refine ww_iload_n 20 X dX13_layCipher_20 1 rfl rfl ?_
      refine ww_if_le 21 49 X dX13_layCipher_21 (by decide) (fun q => ?_) (fun q => ?_)
      · replace h := (if_pos q).symm.trans h
        refine ww_iload_n 49 X dX13_layCipher_49 2 rfl rfl ?_
        refine ww_istore_n 50 X dX13_layCipher_50 (lv' := [(0, .ref l0), (1, .int l1), (2, .int l2), (3, .int l2)]) rfl (by decide) [1, 2, 3, 0] rfl ?_
        refine ww_iconst 51 X (v := (1 : Int32)) dX13_layCipher_51 (by decide) ?_
        refine ww_istore 52 X dX13_layCipher_52 (lv' := [(0, .ref l0), (1, .int l1), (2, .int l2), (3, .int l2), (4, .int (1 : Int32))]) (by decide) [1, 2, 3, 4, 0] rfl ?_
        exact (wB_X13_layCipher_54 X hQ _ hr2 F _ _ _ _ _ _ h)
      · replace h := (if_neg q).symm.trans h
        refine ww_iload_n 24 X dX13_layCipher_24 2 rfl rfl ?_
        refine ww_if_ne 25 49 X dX13_layCipher_25 (by decide) (fun q => ?_) (fun q => ?_)
        · replace h := (if_neg q).symm.trans h
          refine ww_iload_n 49 X dX13_layCipher_49 2 rfl rfl ?_
          refine ww_istore_n 50 X dX13_layCipher_50 (lv' := [(0, .ref l0), (1, .int l1), (2, .int l2), (3, .int l2)]) rfl (by decide) [1, 2, 3, 0] rfl ?_
          refine ww_iconst 51 X (v := (1 : Int32)) dX13_layCipher_51 (by decide) ?_
          refine ww_istore 52 X dX13_layCipher_52 (lv' := [(0, .ref l0), (1, .int l1), (2, .int l2), (3, .int l2), (4, .int (1 : Int32))]) (by decide) [1, 2, 3, 4, 0] rfl ?_
          exact (wB_X13_layCipher_54 X hQ _ hr2 F _ _ _ _ _ _ h)
        · replace h := (if_pos q).symm.trans h
          refine ww_iload_n 28 X dX13_layCipher_28 1 rfl rfl ?_
          refine ww_iload_n 29 X dX13_layCipher_29 3 rfl rfl ?_
          obtain ⟨v30, M30, e30, h⟩ := bP_some h
          refine ww_callSI0 30 X dX13_layCipher_30 mY_X13_times mL_X13_592 (As := [.int l1, .int l3]) (rest := []) rfl rfl ⟨Nat.le_of_ble_eq_true rfl, Nat.le_of_ble_eq_true rfl⟩ (Nat.le_of_ble_eq_true rfl) (fun l D A => c_X13_times l D A e30) ?_
          refine ww_iconst 33 X (v := (1 : Int32)) dX13_layCipher_33 (by decide) ?_
          refine ww_icmp_ne 34 41 X dX13_layCipher_34 (by decide) (fun q => ?_) (fun q => ?_)
          · replace h := (if_neg q).symm.trans h
            refine ww_iconst 41 X (v := (0 : Int32)) dX13_layCipher_41 (by decide) ?_
            refine ww_istore_n 42 X dX13_layCipher_42 (lv' := [(0, .ref l0), (1, .int l1), (2, .int (0 : Int32)), (3, .int l3)]) rfl (by decide) [1, 2, 0, 3] rfl ?_
            refine ww_iinc 43 X dX13_layCipher_43 (lv' := [(0, .ref l0), (1, .int l1), (2, .int (0 : Int32)), (3, .int (l3 + 1))]) 3 rfl rfl (by decide) [1, 2, 3, 0] rfl ?_
            refine ww_goto 46 13 X dX13_layCipher_46 (by decide) ?_
            exact (ih _ _ _ _ _ h)
          · replace h := (if_pos q).symm.trans h
            refine ww_iload_n 37 X dX13_layCipher_37 3 rfl rfl ?_
            refine ww_goto 38 42 X dX13_layCipher_38 (by decide) ?_
            refine ww_istore_n 42 X dX13_layCipher_42 (lv' := [(0, .ref l0), (1, .int l1), (2, .int l3), (3, .int l3)]) rfl (by decide) [1, 2, 0, 3] rfl ?_
            refine ww_iinc 43 X dX13_layCipher_43 (lv' := [(0, .ref l0), (1, .int l1), (2, .int l3), (3, .int (l3 + 1))]) 3 rfl rfl (by decide) [1, 2, 3, 0] rfl ?_
            refine ww_goto 46 13 X dX13_layCipher_46 (by decide) ?_
            exact (ih _ _ _ _ _ h)
set_option maxHeartbeats 4000000 in
set_option maxRecDepth 100000 in
theorem wB_X13_layCipher_2 {G : mG} {F : Nat} {x : mXT} {sz : Nat} {M0 : mM} (X : mCX G RX13 cX13_layCipher 5 none "layCipher" rmX13_layCipher x) (hQ : mQV x M0 (sz, 0, 0)) : ∀ (n : Nat) (l0 : Nat) (l1 : Int32) (M : mM), B_X13_layCipher_2 G F n l0 l1 M = some M0 → WW x (sz, 0, 0) M 2 [(0, .ref l0), (1, .int l1)] [] := by
  intro n
  induction n with
  | zero =>
    intro l0 l1 M h
    exact nomatch (show (none : Option mM) = some M0 from h)
  | succ n ih =>
    intro l0 l1 M h
    rw [B_X13_layCipher_2] at h
    refine ww_iload_n 2 X dX13_layCipher_2 1 rfl rfl ?_
    refine ww_sipush 3 X (v := (256 : Int32)) dX13_layCipher_3 (by decide) ?_
    refine ww_icmp_ge 6 113 X dX13_layCipher_6 (by decide) (fun q => ?_) (fun q => ?_)
    · replace h := (if_pos q).symm.trans h
      exact ww_vretE 113 X hQ dX13_layCipher_113 h
    · replace h := (if_neg q).symm.trans h
      refine ww_iconst 9 X (v := (0 : Int32)) dX13_layCipher_9 (by decide) ?_
      refine ww_istore_n 10 X dX13_layCipher_10 (lv' := [(0, .ref l0), (1, .int l1), (2, .int (0 : Int32))]) rfl (by decide) [1, 2, 0] rfl ?_
      refine ww_iconst 11 X (v := (1 : Int32)) dX13_layCipher_11 (by decide) ?_
      refine ww_istore_n 12 X dX13_layCipher_12 (lv' := [(0, .ref l0), (1, .int l1), (2, .int (0 : Int32)), (3, .int (1 : Int32))]) rfl (by decide) [1, 2, 3, 0] rfl ?_
      exact (wB_X13_layCipher_13 X hQ _ ih F _ _ _ _ _ h)
set_option maxHeartbeats 4000000 in
set_option maxRecDepth 100000 in
theorem wP_X13_layCipher {G : mG} {F : Nat} {x : mXT} {sz : Nat} {M0 : mM} (X : mCX G RX13 cX13_layCipher 5 none "layCipher" rmX13_layCipher x) (hQ : mQV x M0 (sz, 0, 0)) {l0 : Nat} {M : mM} (h : P_X13_layCipher G F l0 M = some M0) : WW x (sz, 0, 0) M 0 [(0, .ref l0)] [] := by
  unfold P_X13_layCipher at h
  refine ww_iconst 0 X (v := (0 : Int32)) dX13_layCipher_0 (by decide) ?_
  refine ww_istore_n 1 X dX13_layCipher_1 (lv' := [(0, .ref l0), (1, .int (0 : Int32))]) rfl (by decide) [1, 0] rfl ?_
  exact (wB_X13_layCipher_2 X hQ F _ _ _ h)
theorem c_X13_layCipher {G : mG} {F sz : Nat} {M0 : mM} (l : Launch) (D : mD) (A : Nat → Prop) {l0 : Nat} {M : mM} (h : P_X13_layCipher G F l0 M = some M0) : mMetV l D G A yX13_layCipher cX13_layCipher 5 none 2 44 0 0 [.ref l0] M sz M0 sz := mMetV_of l D G A (by decide) (Nat.le_of_ble_eq_true rfl) (fun x X hQ => wP_X13_layCipher X hQ h)
/-! SealedTokensModel.isDigit(I)Z -/
theorem dX13_isDigit_0 : decode cX13_isDigit 0 = .ok (.iload_n 0, 1) := by decide +kernel
theorem dX13_isDigit_1 : decode cX13_isDigit 1 = .ok (.bipush 48, 2) := by decide +kernel
theorem dX13_isDigit_3 : decode cX13_isDigit 3 = .ok (.if_icmp .lt 13, 3) := by decide +kernel
theorem dX13_isDigit_6 : decode cX13_isDigit 6 = .ok (.iload_n 0, 1) := by decide +kernel
theorem dX13_isDigit_7 : decode cX13_isDigit 7 = .ok (.bipush 57, 2) := by decide +kernel
theorem dX13_isDigit_9 : decode cX13_isDigit 9 = .ok (.if_icmp .gt 7, 3) := by decide +kernel
theorem dX13_isDigit_12 : decode cX13_isDigit 12 = .ok (.iconst 1, 1) := by decide +kernel
theorem dX13_isDigit_13 : decode cX13_isDigit 13 = .ok (.goto 4, 3) := by decide +kernel
theorem dX13_isDigit_16 : decode cX13_isDigit 16 = .ok (.iconst 0, 1) := by decide +kernel
theorem dX13_isDigit_17 : decode cX13_isDigit 17 = .ok (.ireturn, 1) := by decide +kernel
abbrev rmX13_isDigit : Room := { frames := 0, cells := 0, slots := 0, locals := 0 }
set_option maxHeartbeats 4000000 in
set_option maxRecDepth 100000 in
theorem wP_X13_isDigit {G : mG} {F : Nat} {x : mXT} {sz : Nat} {r0 : Int32} {M0 : mM} (X : mCX G RX13 cX13_isDigit 1 (some .boolean) "isDigit" rmX13_isDigit x) (hQ : mQI x r0 M0 (sz, 0, 0)) {l0 : Int32} {M : mM} (h : P_X13_isDigit G F l0 M = some (r0, M0)) : WW x (sz, 0, 0) M 0 [(0, .int l0)] [] := by
  unfold P_X13_isDigit at h
  refine ww_iload_n 0 X dX13_isDigit_0 0 rfl rfl ?_
  refine ww_bipush 1 X (v := (48 : Int32)) dX13_isDigit_1 (by decide) ?_
  refine ww_icmp_lt 3 16 X dX13_isDigit_3 (by decide) (fun q => ?_) (fun q => ?_)
  · replace h := (if_pos q).symm.trans h
    refine ww_iconst 16 X (v := (0 : Int32)) dX13_isDigit_16 (by decide) ?_
    exact ww_zretE 17 X hQ dX13_isDigit_17 h
  · replace h := (if_neg q).symm.trans h
    refine ww_iload_n 6 X dX13_isDigit_6 0 rfl rfl ?_
    refine ww_bipush 7 X (v := (57 : Int32)) dX13_isDigit_7 (by decide) ?_
    refine ww_icmp_gt 9 16 X dX13_isDigit_9 (by decide) (fun q => ?_) (fun q => ?_)
    · replace h := (if_pos q).symm.trans h
      refine ww_iconst 16 X (v := (0 : Int32)) dX13_isDigit_16 (by decide) ?_
      exact ww_zretE 17 X hQ dX13_isDigit_17 h
    · replace h := (if_neg q).symm.trans h
      refine ww_iconst 12 X (v := (1 : Int32)) dX13_isDigit_12 (by decide) ?_
      refine ww_goto 13 17 X dX13_isDigit_13 (by decide) ?_
      exact ww_zretE 17 X hQ dX13_isDigit_17 h
theorem c_X13_isDigit {G : mG} {F sz : Nat} {r0 : Int32} {M0 : mM} (l : Launch) (D : mD) (A : Nat → Prop) {l0 : Int32} {M : mM} (h : P_X13_isDigit G F l0 M = some (r0, M0)) : mMetI l D G A yX13_isDigit cX13_isDigit 1 (some .boolean) 0 0 0 0 [.int l0] M sz r0 M0 sz := mMetI_of l D G A (by decide) (Nat.le_of_ble_eq_true rfl) (fun x X hQ => wP_X13_isDigit X hQ h)
/-! SealedTokensModel.hexOf(I)I -/
theorem dX13_hexOf_0 : decode cX13_hexOf 0 = .ok (.iload_n 0, 1) := by decide +kernel
theorem dX13_hexOf_1 : decode cX13_hexOf 1 = .ok (.invokestatic 379, 3) := by decide +kernel
theorem dX13_hexOf_4 : decode cX13_hexOf 4 = .ok (.ifCond .eq 10, 3) := by decide +kernel
theorem dX13_hexOf_7 : decode cX13_hexOf 7 = .ok (.iload_n 0, 1) := by decide +kernel
theorem dX13_hexOf_8 : decode cX13_hexOf 8 = .ok (.bipush 48, 2) := by decide +kernel
theorem dX13_hexOf_10 : decode cX13_hexOf 10 = .ok (.isub, 1) := by decide +kernel
theorem dX13_hexOf_11 : decode cX13_hexOf 11 = .ok (.goto 42, 3) := by decide +kernel
theorem dX13_hexOf_14 : decode cX13_hexOf 14 = .ok (.iload_n 0, 1) := by decide +kernel
theorem dX13_hexOf_15 : decode cX13_hexOf 15 = .ok (.bipush 97, 2) := by decide +kernel
theorem dX13_hexOf_17 : decode cX13_hexOf 17 = .ok (.if_icmp .lt 16, 3) := by decide +kernel
theorem dX13_hexOf_20 : decode cX13_hexOf 20 = .ok (.iload_n 0, 1) := by decide +kernel
theorem dX13_hexOf_21 : decode cX13_hexOf 21 = .ok (.bipush 102, 2) := by decide +kernel
theorem dX13_hexOf_23 : decode cX13_hexOf 23 = .ok (.if_icmp .gt 10, 3) := by decide +kernel
theorem dX13_hexOf_26 : decode cX13_hexOf 26 = .ok (.iload_n 0, 1) := by decide +kernel
theorem dX13_hexOf_27 : decode cX13_hexOf 27 = .ok (.bipush 87, 2) := by decide +kernel
theorem dX13_hexOf_29 : decode cX13_hexOf 29 = .ok (.isub, 1) := by decide +kernel
theorem dX13_hexOf_30 : decode cX13_hexOf 30 = .ok (.goto 23, 3) := by decide +kernel
theorem dX13_hexOf_33 : decode cX13_hexOf 33 = .ok (.iload_n 0, 1) := by decide +kernel
theorem dX13_hexOf_34 : decode cX13_hexOf 34 = .ok (.bipush 65, 2) := by decide +kernel
theorem dX13_hexOf_36 : decode cX13_hexOf 36 = .ok (.if_icmp .lt 16, 3) := by decide +kernel
theorem dX13_hexOf_39 : decode cX13_hexOf 39 = .ok (.iload_n 0, 1) := by decide +kernel
theorem dX13_hexOf_40 : decode cX13_hexOf 40 = .ok (.bipush 70, 2) := by decide +kernel
theorem dX13_hexOf_42 : decode cX13_hexOf 42 = .ok (.if_icmp .gt 10, 3) := by decide +kernel
theorem dX13_hexOf_45 : decode cX13_hexOf 45 = .ok (.iload_n 0, 1) := by decide +kernel
theorem dX13_hexOf_46 : decode cX13_hexOf 46 = .ok (.bipush 55, 2) := by decide +kernel
theorem dX13_hexOf_48 : decode cX13_hexOf 48 = .ok (.isub, 1) := by decide +kernel
theorem dX13_hexOf_49 : decode cX13_hexOf 49 = .ok (.goto 4, 3) := by decide +kernel
theorem dX13_hexOf_52 : decode cX13_hexOf 52 = .ok (.iconst (-1), 1) := by decide +kernel
theorem dX13_hexOf_53 : decode cX13_hexOf 53 = .ok (.ireturn, 1) := by decide +kernel
abbrev rmX13_hexOf : Room := { frames := 1, cells := 0, slots := 0, locals := 20 }
set_option maxHeartbeats 4000000 in
set_option maxRecDepth 100000 in
theorem wB_X13_hexOf_33 {G : mG} {F : Nat} {x : mXT} {sz : Nat} {r0 : Int32} {M0 : mM} (X : mCX G RX13 cX13_hexOf 1 (some .int) "hexOf" rmX13_hexOf x) (hQ : mQI x r0 M0 (sz, 0, 0)) {l0 : Int32} {M : mM} (h : B_X13_hexOf_33 G F l0 M = some (r0, M0)) : WW x (sz, 0, 0) M 33 [(0, .int l0)] [] := by
  unfold B_X13_hexOf_33 at h
  refine ww_iload_n 33 X dX13_hexOf_33 0 rfl rfl ?_
  refine ww_bipush 34 X (v := (65 : Int32)) dX13_hexOf_34 (by decide) ?_
  refine ww_icmp_lt 36 52 X dX13_hexOf_36 (by decide) (fun q => ?_) (fun q => ?_)
  · replace h := (if_pos q).symm.trans h
    refine ww_iconst 52 X (v := (-1 : Int32)) dX13_hexOf_52 (by decide) ?_
    exact ww_iretE 53 X hQ dX13_hexOf_53 h
  · replace h := (if_neg q).symm.trans h
    refine ww_iload_n 39 X dX13_hexOf_39 0 rfl rfl ?_
    refine ww_bipush 40 X (v := (70 : Int32)) dX13_hexOf_40 (by decide) ?_
    refine ww_icmp_gt 42 52 X dX13_hexOf_42 (by decide) (fun q => ?_) (fun q => ?_)
    · replace h := (if_pos q).symm.trans h
      refine ww_iconst 52 X (v := (-1 : Int32)) dX13_hexOf_52 (by decide) ?_
      exact ww_iretE 53 X hQ dX13_hexOf_53 h
    · replace h := (if_neg q).symm.trans h
      refine ww_iload_n 45 X dX13_hexOf_45 0 rfl rfl ?_
      refine ww_bipush 46 X (v := (55 : Int32)) dX13_hexOf_46 (by decide) ?_
      refine ww_isub 48 X dX13_hexOf_48 ?_
      refine ww_goto 49 53 X dX13_hexOf_49 (by decide) ?_
      exact ww_iretE 53 X hQ dX13_hexOf_53 h
set_option maxHeartbeats 4000000 in
set_option maxRecDepth 100000 in
theorem wP_X13_hexOf {G : mG} {F : Nat} {x : mXT} {sz : Nat} {r0 : Int32} {M0 : mM} (X : mCX G RX13 cX13_hexOf 1 (some .int) "hexOf" rmX13_hexOf x) (hQ : mQI x r0 M0 (sz, 0, 0)) {l0 : Int32} {M : mM} (h : P_X13_hexOf G F l0 M = some (r0, M0)) : WW x (sz, 0, 0) M 0 [(0, .int l0)] [] := by
  unfold P_X13_hexOf at h
  refine ww_iload_n 0 X dX13_hexOf_0 0 rfl rfl ?_
  obtain ⟨v1, M1, e1, h⟩ := bP_some h
  refine ww_callSI0 1 X dX13_hexOf_1 mY_X13_isDigit mL_X13_379 (As := [.int l0]) (rest := []) rfl rfl ⟨Nat.le_of_ble_eq_true rfl, Nat.le_of_ble_eq_true rfl⟩ (Nat.le_of_ble_eq_true rfl) (fun l D A => c_X13_isDigit l D A e1) ?_
  refine ww_if_eq 4 14 X dX13_hexOf_4 (by decide) (fun q => ?_) (fun q => ?_)
  · replace h := (if_pos q).symm.trans h
    refine ww_iload_n 14 X dX13_hexOf_14 0 rfl rfl ?_
    refine ww_bipush 15 X (v := (97 : Int32)) dX13_hexOf_15 (by decide) ?_
    refine ww_icmp_lt 17 33 X dX13_hexOf_17 (by decide) (fun q => ?_) (fun q => ?_)
    · replace h := (if_pos q).symm.trans h
      exact (wB_X13_hexOf_33 X hQ h)
    · replace h := (if_neg q).symm.trans h
      refine ww_iload_n 20 X dX13_hexOf_20 0 rfl rfl ?_
      refine ww_bipush 21 X (v := (102 : Int32)) dX13_hexOf_21 (by decide) ?_
      refine ww_icmp_gt 23 33 X dX13_hexOf_23 (by decide) (fun q => ?_) (fun q => ?_)
      · replace h := (if_pos q).symm.trans h
        exact (wB_X13_hexOf_33 X hQ h)
      · replace h := (if_neg q).symm.trans h
        refine ww_iload_n 26 X dX13_hexOf_26 0 rfl rfl ?_
        refine ww_bipush 27 X (v := (87 : Int32)) dX13_hexOf_27 (by decide) ?_
        refine ww_isub 29 X dX13_hexOf_29 ?_
        refine ww_goto 30 53 X dX13_hexOf_30 (by decide) ?_
        exact ww_iretE 53 X hQ dX13_hexOf_53 h
  · replace h := (if_neg q).symm.trans h
    refine ww_iload_n 7 X dX13_hexOf_7 0 rfl rfl ?_
    refine ww_bipush 8 X (v := (48 : Int32)) dX13_hexOf_8 (by decide) ?_
    refine ww_isub 10 X dX13_hexOf_10 ?_
    refine ww_goto 11 53 X dX13_hexOf_11 (by decide) ?_
    exact ww_iretE 53 X hQ dX13_hexOf_53 h
theorem c_X13_hexOf {G : mG} {F sz : Nat} {r0 : Int32} {M0 : mM} (l : Launch) (D : mD) (A : Nat → Prop) {l0 : Int32} {M : mM} (h : P_X13_hexOf G F l0 M = some (r0, M0)) : mMetI l D G A yX13_hexOf cX13_hexOf 1 (some .int) 1 20 0 0 [.int l0] M sz r0 M0 sz := mMetI_of l D G A (by decide) (Nat.le_of_ble_eq_true rfl) (fun x X hQ => wP_X13_hexOf X hQ h)
/-! SealedTokensModel.digits(Ljava/lang/String;[BI)V -/
theorem dX13_digits__0 : decode cX13_digits_ 0 = .ok (.iconst 0, 1) := by decide +kernel
theorem dX13_digits__1 : decode cX13_digits_ 1 = .ok (.istore_n 3, 1) := by decide +kernel
theorem dX13_digits__2 : decode cX13_digits_ 2 = .ok (.iload_n 3, 1) := by decide +kernel
theorem dX13_digits__3 : decode cX13_digits_ 3 = .ok (.bipush 32, 2) := by decide +kernel
theorem dX13_digits__5 : decode cX13_digits_ 5 = .ok (.if_icmp .ge 41, 3) := by decide +kernel
theorem dX13_digits__8 : decode cX13_digits_ 8 = .ok (.aload_n 1, 1) := by decide +kernel
theorem dX13_digits__9 : decode cX13_digits_ 9 = .ok (.iload_n 2, 1) := by decide +kernel
theorem dX13_digits__10 : decode cX13_digits_ 10 = .ok (.iload_n 3, 1) := by decide +kernel
theorem dX13_digits__11 : decode cX13_digits_ 11 = .ok (.iadd, 1) := by decide +kernel
theorem dX13_digits__12 : decode cX13_digits_ 12 = .ok (.bipush 16, 2) := by decide +kernel
theorem dX13_digits__14 : decode cX13_digits_ 14 = .ok (.aload_n 0, 1) := by decide +kernel
theorem dX13_digits__15 : decode cX13_digits_ 15 = .ok (.iconst 2, 1) := by decide +kernel
theorem dX13_digits__16 : decode cX13_digits_ 16 = .ok (.iload_n 3, 1) := by decide +kernel
theorem dX13_digits__17 : decode cX13_digits_ 17 = .ok (.imul, 1) := by decide +kernel
theorem dX13_digits__18 : decode cX13_digits_ 18 = .ok (.invokevirtual 410, 3) := by decide +kernel
theorem dX13_digits__21 : decode cX13_digits_ 21 = .ok (.invokestatic 446, 3) := by decide +kernel
theorem dX13_digits__24 : decode cX13_digits_ 24 = .ok (.imul, 1) := by decide +kernel
theorem dX13_digits__25 : decode cX13_digits_ 25 = .ok (.aload_n 0, 1) := by decide +kernel
theorem dX13_digits__26 : decode cX13_digits_ 26 = .ok (.iconst 2, 1) := by decide +kernel
theorem dX13_digits__27 : decode cX13_digits_ 27 = .ok (.iload_n 3, 1) := by decide +kernel
theorem dX13_digits__28 : decode cX13_digits_ 28 = .ok (.imul, 1) := by decide +kernel
theorem dX13_digits__29 : decode cX13_digits_ 29 = .ok (.iconst 1, 1) := by decide +kernel
theorem dX13_digits__30 : decode cX13_digits_ 30 = .ok (.iadd, 1) := by decide +kernel
theorem dX13_digits__31 : decode cX13_digits_ 31 = .ok (.invokevirtual 410, 3) := by decide +kernel
theorem dX13_digits__34 : decode cX13_digits_ 34 = .ok (.invokestatic 446, 3) := by decide +kernel
theorem dX13_digits__37 : decode cX13_digits_ 37 = .ok (.iadd, 1) := by decide +kernel
theorem dX13_digits__38 : decode cX13_digits_ 38 = .ok (.i2b, 1) := by decide +kernel
theorem dX13_digits__39 : decode cX13_digits_ 39 = .ok (.bastore, 1) := by decide +kernel
theorem dX13_digits__40 : decode cX13_digits_ 40 = .ok (.iinc 3 1, 3) := by decide +kernel
theorem dX13_digits__43 : decode cX13_digits_ 43 = .ok (.goto (-41), 3) := by decide +kernel
theorem dX13_digits__46 : decode cX13_digits_ 46 = .ok (.return_, 1) := by decide +kernel
abbrev rmX13_digits_ : Room := { frames := 4, cells := 0, slots := 0, locals := 85 }
set_option maxHeartbeats 4000000 in
set_option maxRecDepth 100000 in
theorem wB_X13_digits__2 {G : mG} {F : Nat} {x : mXT} {sz : Nat} {M0 : mM} (X : mCX G RX13 cX13_digits_ 4 none "digits" rmX13_digits_ x) (hQ : mQV x M0 (sz, 0, 0)) : ∀ (n : Nat) (l0 : Nat) (l1 : Nat) (l2 : Int32) (l3 : Int32) (M : mM), B_X13_digits__2 G F n l0 l1 l2 l3 M = some M0 → WW x (sz, 0, 0) M 2 [(0, .ref l0), (1, .ref l1), (2, .int l2), (3, .int l3)] [] := by
  intro n
  induction n with
  | zero =>
    intro l0 l1 l2 l3 M h
    exact nomatch (show (none : Option mM) = some M0 from h)
  | succ n ih =>
    intro l0 l1 l2 l3 M h
    rw [B_X13_digits__2] at h
    refine ww_iload_n 2 X dX13_digits__2 3 rfl rfl ?_
    refine ww_bipush 3 X (v := (32 : Int32)) dX13_digits__3 (by decide) ?_
    refine ww_icmp_ge 5 46 X dX13_digits__5 (by decide) (fun q => ?_) (fun q => ?_)
    · replace h := (if_pos q).symm.trans h
      exact ww_vretE 46 X hQ dX13_digits__46 h
    · replace h := (if_neg q).symm.trans h
      refine ww_aload_n 8 X dX13_digits__8 1 rfl rfl ?_
      refine ww_iload_n 9 X dX13_digits__9 2 rfl rfl ?_
      refine ww_iload_n 10 X dX13_digits__10 3 rfl rfl ?_
      refine ww_iadd 11 X dX13_digits__11 ?_
      refine ww_bipush 12 X (v := (16 : Int32)) dX13_digits__12 (by decide) ?_
      refine ww_aload_n 14 X dX13_digits__14 0 rfl rfl ?_
      refine ww_iconst 15 X (v := (2 : Int32)) dX13_digits__15 (by decide) ?_
      refine ww_iload_n 16 X dX13_digits__16 3 rfl rfl ?_
      refine ww_imul 17 X dX13_digits__17 ?_
      obtain ⟨_, f18, h⟩ := bO_some h
      obtain ⟨v18, M18, e18, h⟩ := bP_some h
      refine ww_callVIs 18 X dX13_digits__18 mY_J0_charAt_5068e mL_X13_410 (rcs_spec f18) rfl (As := [.int ((2 : Int32) * l3)]) (rest := [.int (16 : Int32), .int (l2 + l3), .ref l1]) rfl rfl ⟨Nat.le_of_ble_eq_true rfl, Nat.le_of_ble_eq_true rfl⟩ (Nat.le_of_ble_eq_true rfl) (fun l D A => c_J0_charAt_5068e l D A e18) ?_
      obtain ⟨v21, M21, e21, h⟩ := bP_some h
      refine ww_callSI0 21 X dX13_digits__21 mY_X13_hexOf mL_X13_446 (As := [.int v18]) (rest := [.int (16 : Int32), .int (l2 + l3), .ref l1]) rfl rfl ⟨Nat.le_of_ble_eq_true rfl, Nat.le_of_ble_eq_true rfl⟩ (Nat.le_of_ble_eq_true rfl) (fun l D A => c_X13_hexOf l D A e21) ?_
      refine ww_imul 24 X dX13_digits__24 ?_
      refine ww_aload_n 25 X dX13_digits__25 0 rfl rfl ?_
      refine ww_iconst 26 X (v := (2 : Int32)) dX13_digits__26 (by decide) ?_
      refine ww_iload_n 27 X dX13_digits__27 3 rfl rfl ?_
      refine ww_imul 28 X dX13_digits__28 ?_
      refine ww_iconst 29 X (v := (1 : Int32)) dX13_digits__29 (by decide) ?_
      refine ww_iadd 30 X dX13_digits__30 ?_
      obtain ⟨_, f31, h⟩ := bO_some h
      obtain ⟨v31, M31, e31, h⟩ := bP_some h
      refine ww_callVIs 31 X dX13_digits__31 mY_J0_charAt_5068e mL_X13_410 (rcs_spec f31) rfl (As := [.int (((2 : Int32) * l3) + (1 : Int32))]) (rest := [.int ((16 : Int32) * v21), .int (l2 + l3), .ref l1]) rfl rfl ⟨Nat.le_of_ble_eq_true rfl, Nat.le_of_ble_eq_true rfl⟩ (Nat.le_of_ble_eq_true rfl) (fun l D A => c_J0_charAt_5068e l D A e31) ?_
      obtain ⟨v34, M34, e34, h⟩ := bP_some h
      refine ww_callSI0 34 X dX13_digits__34 mY_X13_hexOf mL_X13_446 (As := [.int v31]) (rest := [.int ((16 : Int32) * v21), .int (l2 + l3), .ref l1]) rfl rfl ⟨Nat.le_of_ble_eq_true rfl, Nat.le_of_ble_eq_true rfl⟩ (Nat.le_of_ble_eq_true rfl) (fun l D A => c_X13_hexOf l D A e34) ?_
      refine ww_iadd 37 X dX13_digits__37 ?_
      refine ww_i2b 38 X dX13_digits__38 ?_
      obtain ⟨M39, e39, h⟩ := bO_some h
      refine ww_bast 39 X dX13_digits__39 e39 ?_
      refine ww_iinc 40 X dX13_digits__40 (lv' := [(0, .ref l0), (1, .ref l1), (2, .int l2), (3, .int (l3 + 1))]) 3 rfl rfl (by decide) [1, 2, 3, 0] rfl ?_
      refine ww_goto 43 2 X dX13_digits__43 (by decide) ?_
      exact (ih _ _ _ _ _ h)
set_option maxHeartbeats 4000000 in
set_option maxRecDepth 100000 in
theorem wP_X13_digits_ {G : mG} {F : Nat} {x : mXT} {sz : Nat} {M0 : mM} (X : mCX G RX13 cX13_digits_ 4 none "digits" rmX13_digits_ x) (hQ : mQV x M0 (sz, 0, 0)) {l0 : Nat} {l1 : Nat} {l2 : Int32} {M : mM} (h : P_X13_digits_ G F l0 l1 l2 M = some M0) : WW x (sz, 0, 0) M 0 [(0, .ref l0), (1, .ref l1), (2, .int l2)] [] := by
  unfold P_X13_digits_ at h
  refine ww_iconst 0 X (v := (0 : Int32)) dX13_digits__0 (by decide) ?_
  refine ww_istore_n 1 X dX13_digits__1 (lv' := [(0, .ref l0), (1, .ref l1), (2, .int l2), (3, .int (0 : Int32))]) rfl (by decide) [1, 2, 3, 0] rfl ?_
  exact (wB_X13_digits__2 X hQ F _ _ _ _ _ h)
theorem c_X13_digits_ {G : mG} {F sz : Nat} {M0 : mM} (l : Launch) (D : mD) (A : Nat → Prop) {l0 : Nat} {l1 : Nat} {l2 : Int32} {M : mM} (h : P_X13_digits_ G F l0 l1 l2 M = some M0) : mMetV l D G A yX13_digits_ cX13_digits_ 4 none 4 85 0 0 [.ref l0, .ref l1, .int l2] M sz M0 sz := mMetV_of l D G A (by decide) (Nat.le_of_ble_eq_true rfl) (fun x X hQ => wP_X13_digits_ X hQ h)
/-! SealedTokensModel.layCurve()V -/
theorem dX13_layCurve_0 : decode cX13_layCurve 0 = .ok (.ldc_w 713, 3) := by decide +kernel
theorem dX13_layCurve_3 : decode cX13_layCurve 3 = .ok (.aload_n 0, 1) := by decide +kernel
theorem dX13_layCurve_4 : decode cX13_layCurve 4 = .ok (.getfield 141, 3) := by decide +kernel
theorem dX13_layCurve_7 : decode cX13_layCurve 7 = .ok (.iconst 0, 1) := by decide +kernel
theorem dX13_layCurve_8 : decode cX13_layCurve 8 = .ok (.invokestatic 715, 3) := by decide +kernel
theorem dX13_layCurve_11 : decode cX13_layCurve 11 = .ok (.ldc_w 718, 3) := by decide +kernel
theorem dX13_layCurve_14 : decode cX13_layCurve 14 = .ok (.aload_n 0, 1) := by decide +kernel
theorem dX13_layCurve_15 : decode cX13_layCurve 15 = .ok (.getfield 144, 3) := by decide +kernel
theorem dX13_layCurve_18 : decode cX13_layCurve 18 = .ok (.iconst 0, 1) := by decide +kernel
theorem dX13_layCurve_19 : decode cX13_layCurve 19 = .ok (.invokestatic 715, 3) := by decide +kernel
theorem dX13_layCurve_22 : decode cX13_layCurve 22 = .ok (.ldc_w 720, 3) := by decide +kernel
theorem dX13_layCurve_25 : decode cX13_layCurve 25 = .ok (.aload_n 0, 1) := by decide +kernel
theorem dX13_layCurve_26 : decode cX13_layCurve 26 = .ok (.getfield 147, 3) := by decide +kernel
theorem dX13_layCurve_29 : decode cX13_layCurve 29 = .ok (.iconst 0, 1) := by decide +kernel
theorem dX13_layCurve_30 : decode cX13_layCurve 30 = .ok (.invokestatic 715, 3) := by decide +kernel
theorem dX13_layCurve_33 : decode cX13_layCurve 33 = .ok (.ldc_w 722, 3) := by decide +kernel
theorem dX13_layCurve_36 : decode cX13_layCurve 36 = .ok (.aload_n 0, 1) := by decide +kernel
theorem dX13_layCurve_37 : decode cX13_layCurve 37 = .ok (.getfield 147, 3) := by decide +kernel
theorem dX13_layCurve_40 : decode cX13_layCurve 40 = .ok (.bipush 32, 2) := by decide +kernel
theorem dX13_layCurve_42 : decode cX13_layCurve 42 = .ok (.invokestatic 715, 3) := by decide +kernel
theorem dX13_layCurve_45 : decode cX13_layCurve 45 = .ok (.aload_n 0, 1) := by decide +kernel
theorem dX13_layCurve_46 : decode cX13_layCurve 46 = .ok (.getfield 126, 3) := by decide +kernel
theorem dX13_layCurve_49 : decode cX13_layCurve 49 = .ok (.aload_n 0, 1) := by decide +kernel
theorem dX13_layCurve_50 : decode cX13_layCurve 50 = .ok (.getfield 141, 3) := by decide +kernel
theorem dX13_layCurve_53 : decode cX13_layCurve 53 = .ok (.iconst 0, 1) := by decide +kernel
theorem dX13_layCurve_54 : decode cX13_layCurve 54 = .ok (.bipush 32, 2) := by decide +kernel
theorem dX13_layCurve_56 : decode cX13_layCurve 56 = .ok (.invokevirtual 687, 3) := by decide +kernel
theorem dX13_layCurve_59 : decode cX13_layCurve 59 = .ok (.aload_n 0, 1) := by decide +kernel
theorem dX13_layCurve_60 : decode cX13_layCurve 60 = .ok (.getfield 129, 3) := by decide +kernel
theorem dX13_layCurve_63 : decode cX13_layCurve 63 = .ok (.aload_n 0, 1) := by decide +kernel
theorem dX13_layCurve_64 : decode cX13_layCurve 64 = .ok (.getfield 144, 3) := by decide +kernel
theorem dX13_layCurve_67 : decode cX13_layCurve 67 = .ok (.iconst 0, 1) := by decide +kernel
theorem dX13_layCurve_68 : decode cX13_layCurve 68 = .ok (.bipush 32, 2) := by decide +kernel
theorem dX13_layCurve_70 : decode cX13_layCurve 70 = .ok (.invokevirtual 687, 3) := by decide +kernel
theorem dX13_layCurve_73 : decode cX13_layCurve 73 = .ok (.ldc_w 724, 3) := by decide +kernel
theorem dX13_layCurve_76 : decode cX13_layCurve 76 = .ok (.aload_n 0, 1) := by decide +kernel
theorem dX13_layCurve_77 : decode cX13_layCurve 77 = .ok (.getfield 138, 3) := by decide +kernel
theorem dX13_layCurve_80 : decode cX13_layCurve 80 = .ok (.iconst 0, 1) := by decide +kernel
theorem dX13_layCurve_81 : decode cX13_layCurve 81 = .ok (.invokestatic 715, 3) := by decide +kernel
theorem dX13_layCurve_84 : decode cX13_layCurve 84 = .ok (.aload_n 0, 1) := by decide +kernel
theorem dX13_layCurve_85 : decode cX13_layCurve 85 = .ok (.getfield 126, 3) := by decide +kernel
theorem dX13_layCurve_88 : decode cX13_layCurve 88 = .ok (.aload_n 0, 1) := by decide +kernel
theorem dX13_layCurve_89 : decode cX13_layCurve 89 = .ok (.getfield 138, 3) := by decide +kernel
theorem dX13_layCurve_92 : decode cX13_layCurve 92 = .ok (.iconst 0, 1) := by decide +kernel
theorem dX13_layCurve_93 : decode cX13_layCurve 93 = .ok (.bipush 32, 2) := by decide +kernel
theorem dX13_layCurve_95 : decode cX13_layCurve 95 = .ok (.aload_n 0, 1) := by decide +kernel
theorem dX13_layCurve_96 : decode cX13_layCurve 96 = .ok (.getfield 150, 3) := by decide +kernel
theorem dX13_layCurve_99 : decode cX13_layCurve 99 = .ok (.invokevirtual 726, 3) := by decide +kernel
theorem dX13_layCurve_102 : decode cX13_layCurve 102 = .ok (.aload_n 0, 1) := by decide +kernel
theorem dX13_layCurve_103 : decode cX13_layCurve 103 = .ok (.getfield 126, 3) := by decide +kernel
theorem dX13_layCurve_106 : decode cX13_layCurve 106 = .ok (.aload_n 0, 1) := by decide +kernel
theorem dX13_layCurve_107 : decode cX13_layCurve 107 = .ok (.getfield 150, 3) := by decide +kernel
theorem dX13_layCurve_110 : decode cX13_layCurve 110 = .ok (.aload_n 0, 1) := by decide +kernel
theorem dX13_layCurve_111 : decode cX13_layCurve 111 = .ok (.getfield 150, 3) := by decide +kernel
theorem dX13_layCurve_114 : decode cX13_layCurve 114 = .ok (.invokevirtual 694, 3) := by decide +kernel
theorem dX13_layCurve_117 : decode cX13_layCurve 117 = .ok (.return_, 1) := by decide +kernel
abbrev rmX13_layCurve : Room := { frames := 5, cells := 0, slots := 0, locals := 108 }
set_option maxHeartbeats 4000000 in
set_option maxRecDepth 100000 in
theorem wP_X13_layCurve {G : mG} {F : Nat} {x : mXT} {sz : Nat} {M0 : mM} (X : mCX G RX13 cX13_layCurve 1 none "layCurve" rmX13_layCurve x) (hQ : mQV x M0 (sz, 0, 0)) {l0 : Nat} {M : mM} (h : P_X13_layCurve G F l0 M = some M0) : WW x (sz, 0, 0) M 0 [(0, .ref l0)] [] := by
  unfold P_X13_layCurve at h
  refine ww_ldsw 0 X (j := 73) dX13_layCurve_0 rfl ?_
  refine ww_aload_n 3 X dX13_layCurve_3 0 rfl rfl ?_
  obtain ⟨v4, e4, h⟩ := bO_some h
  refine ww_getR 4 X dX13_layCurve_4 fG_X13_141 e4 ?_
  refine ww_iconst 7 X (v := (0 : Int32)) dX13_layCurve_7 (by decide) ?_
  obtain ⟨M8, e8, h⟩ := bO_some h
  refine ww_callSV0 8 X dX13_layCurve_8 mY_X13_digits_ mL_X13_715 (As := [.ref (G.1 73), .ref v4, .int (0 : Int32)]) (rest := []) rfl rfl ⟨Nat.le_of_ble_eq_true rfl, Nat.le_of_ble_eq_true rfl⟩ (Nat.le_of_ble_eq_true rfl) (fun l D A => c_X13_digits_ l D A e8) ?_
  refine ww_ldsw 11 X (j := 74) dX13_layCurve_11 rfl ?_
  refine ww_aload_n 14 X dX13_layCurve_14 0 rfl rfl ?_
  obtain ⟨v15, e15, h⟩ := bO_some h
  refine ww_getR 15 X dX13_layCurve_15 fG_X13_144 e15 ?_
  refine ww_iconst 18 X (v := (0 : Int32)) dX13_layCurve_18 (by decide) ?_
  obtain ⟨M19, e19, h⟩ := bO_some h
  refine ww_callSV0 19 X dX13_layCurve_19 mY_X13_digits_ mL_X13_715 (As := [.ref (G.1 74), .ref v15, .int (0 : Int32)]) (rest := []) rfl rfl ⟨Nat.le_of_ble_eq_true rfl, Nat.le_of_ble_eq_true rfl⟩ (Nat.le_of_ble_eq_true rfl) (fun l D A => c_X13_digits_ l D A e19) ?_
  refine ww_ldsw 22 X (j := 75) dX13_layCurve_22 rfl ?_
  refine ww_aload_n 25 X dX13_layCurve_25 0 rfl rfl ?_
  obtain ⟨v26, e26, h⟩ := bO_some h
  refine ww_getR 26 X dX13_layCurve_26 fG_X13_147 e26 ?_
  refine ww_iconst 29 X (v := (0 : Int32)) dX13_layCurve_29 (by decide) ?_
  obtain ⟨M30, e30, h⟩ := bO_some h
  refine ww_callSV0 30 X dX13_layCurve_30 mY_X13_digits_ mL_X13_715 (As := [.ref (G.1 75), .ref v26, .int (0 : Int32)]) (rest := []) rfl rfl ⟨Nat.le_of_ble_eq_true rfl, Nat.le_of_ble_eq_true rfl⟩ (Nat.le_of_ble_eq_true rfl) (fun l D A => c_X13_digits_ l D A e30) ?_
  refine ww_ldsw 33 X (j := 76) dX13_layCurve_33 rfl ?_
  refine ww_aload_n 36 X dX13_layCurve_36 0 rfl rfl ?_
  obtain ⟨v37, e37, h⟩ := bO_some h
  refine ww_getR 37 X dX13_layCurve_37 fG_X13_147 e37 ?_
  refine ww_bipush 40 X (v := (32 : Int32)) dX13_layCurve_40 (by decide) ?_
  obtain ⟨M42, e42, h⟩ := bO_some h
  refine ww_callSV0 42 X dX13_layCurve_42 mY_X13_digits_ mL_X13_715 (As := [.ref (G.1 76), .ref v37, .int (32 : Int32)]) (rest := []) rfl rfl ⟨Nat.le_of_ble_eq_true rfl, Nat.le_of_ble_eq_true rfl⟩ (Nat.le_of_ble_eq_true rfl) (fun l D A => c_X13_digits_ l D A e42) ?_
  refine ww_aload_n 45 X dX13_layCurve_45 0 rfl rfl ?_
  obtain ⟨v46, e46, h⟩ := bO_some h
  refine ww_getR 46 X dX13_layCurve_46 fG_X13_126 e46 ?_
  refine ww_aload_n 49 X dX13_layCurve_49 0 rfl rfl ?_
  obtain ⟨v50, e50, h⟩ := bO_some h
  refine ww_getR 50 X dX13_layCurve_50 fG_X13_141 e50 ?_
  refine ww_iconst 53 X (v := (0 : Int32)) dX13_layCurve_53 (by decide) ?_
  refine ww_bipush 54 X (v := (32 : Int32)) dX13_layCurve_54 (by decide) ?_
  obtain ⟨_, f56, h⟩ := bO_some h
  obtain ⟨M56, e56, h⟩ := bO_some h
  refine ww_callVV0 56 X dX13_layCurve_56 mY_X12_set mL_X13_687 (rcv_spec f56) ⟨_, _, rfl⟩ (by decide) (As := [.ref v50, .int (0 : Int32), .int (32 : Int32)]) (rest := []) rfl rfl ⟨Nat.le_of_ble_eq_true rfl, Nat.le_of_ble_eq_true rfl⟩ (Nat.le_of_ble_eq_true rfl) (fun l D A => c_X12_set l D A e56) ?_
  refine ww_aload_n 59 X dX13_layCurve_59 0 rfl rfl ?_
  obtain ⟨v60, e60, h⟩ := bO_some h
  refine ww_getR 60 X dX13_layCurve_60 fG_X13_129 e60 ?_
  refine ww_aload_n 63 X dX13_layCurve_63 0 rfl rfl ?_
  obtain ⟨v64, e64, h⟩ := bO_some h
  refine ww_getR 64 X dX13_layCurve_64 fG_X13_144 e64 ?_
  refine ww_iconst 67 X (v := (0 : Int32)) dX13_layCurve_67 (by decide) ?_
  refine ww_bipush 68 X (v := (32 : Int32)) dX13_layCurve_68 (by decide) ?_
  obtain ⟨_, f70, h⟩ := bO_some h
  obtain ⟨M70, e70, h⟩ := bO_some h
  refine ww_callVV0 70 X dX13_layCurve_70 mY_X12_set mL_X13_687 (rcv_spec f70) ⟨_, _, rfl⟩ (by decide) (As := [.ref v64, .int (0 : Int32), .int (32 : Int32)]) (rest := []) rfl rfl ⟨Nat.le_of_ble_eq_true rfl, Nat.le_of_ble_eq_true rfl⟩ (Nat.le_of_ble_eq_true rfl) (fun l D A => c_X12_set l D A e70) ?_
  refine ww_ldsw 73 X (j := 77) dX13_layCurve_73 rfl ?_
  refine ww_aload_n 76 X dX13_layCurve_76 0 rfl rfl ?_
  obtain ⟨v77, e77, h⟩ := bO_some h
  refine ww_getR 77 X dX13_layCurve_77 fG_X13_138 e77 ?_
  refine ww_iconst 80 X (v := (0 : Int32)) dX13_layCurve_80 (by decide) ?_
  obtain ⟨M81, e81, h⟩ := bO_some h
  refine ww_callSV0 81 X dX13_layCurve_81 mY_X13_digits_ mL_X13_715 (As := [.ref (G.1 77), .ref v77, .int (0 : Int32)]) (rest := []) rfl rfl ⟨Nat.le_of_ble_eq_true rfl, Nat.le_of_ble_eq_true rfl⟩ (Nat.le_of_ble_eq_true rfl) (fun l D A => c_X13_digits_ l D A e81) ?_
  refine ww_aload_n 84 X dX13_layCurve_84 0 rfl rfl ?_
  obtain ⟨v85, e85, h⟩ := bO_some h
  refine ww_getR 85 X dX13_layCurve_85 fG_X13_126 e85 ?_
  refine ww_aload_n 88 X dX13_layCurve_88 0 rfl rfl ?_
  obtain ⟨v89, e89, h⟩ := bO_some h
  refine ww_getR 89 X dX13_layCurve_89 fG_X13_138 e89 ?_
  refine ww_iconst 92 X (v := (0 : Int32)) dX13_layCurve_92 (by decide) ?_
  refine ww_bipush 93 X (v := (32 : Int32)) dX13_layCurve_93 (by decide) ?_
  refine ww_aload_n 95 X dX13_layCurve_95 0 rfl rfl ?_
  obtain ⟨v96, e96, h⟩ := bO_some h
  refine ww_getR 96 X dX13_layCurve_96 fG_X13_150 e96 ?_
  obtain ⟨_, f99, h⟩ := bO_some h
  obtain ⟨M99, e99, h⟩ := bO_some h
  refine ww_callVV0 99 X dX13_layCurve_99 mY_X12_load mL_X13_726 (rcv_spec f99) ⟨_, _, rfl⟩ (by decide) (As := [.ref v89, .int (0 : Int32), .int (32 : Int32), .ref v96]) (rest := []) rfl rfl ⟨Nat.le_of_ble_eq_true rfl, Nat.le_of_ble_eq_true rfl⟩ (Nat.le_of_ble_eq_true rfl) (fun l D A => c_X12_load l D A e99) ?_
  refine ww_aload_n 102 X dX13_layCurve_102 0 rfl rfl ?_
  obtain ⟨v103, e103, h⟩ := bO_some h
  refine ww_getR 103 X dX13_layCurve_103 fG_X13_126 e103 ?_
  refine ww_aload_n 106 X dX13_layCurve_106 0 rfl rfl ?_
  obtain ⟨v107, e107, h⟩ := bO_some h
  refine ww_getR 107 X dX13_layCurve_107 fG_X13_150 e107 ?_
  refine ww_aload_n 110 X dX13_layCurve_110 0 rfl rfl ?_
  obtain ⟨v111, e111, h⟩ := bO_some h
  refine ww_getR 111 X dX13_layCurve_111 fG_X13_150 e111 ?_
  obtain ⟨_, f114, h⟩ := bO_some h
  obtain ⟨M114, e114, h⟩ := bO_some h
  refine ww_callVV0 114 X dX13_layCurve_114 mY_X12_into mL_X13_694 (rcv_spec f114) ⟨_, _, rfl⟩ (by decide) (As := [.ref v107, .ref v111]) (rest := []) rfl rfl ⟨Nat.le_of_ble_eq_true rfl, Nat.le_of_ble_eq_true rfl⟩ (Nat.le_of_ble_eq_true rfl) (fun l D A => c_X12_into l D A e114) ?_
  exact ww_vretE 117 X hQ dX13_layCurve_117 h
theorem c_X13_layCurve {G : mG} {F sz : Nat} {M0 : mM} (l : Launch) (D : mD) (A : Nat → Prop) {l0 : Nat} {M : mM} (h : P_X13_layCurve G F l0 M = some M0) : mMetV l D G A yX13_layCurve cX13_layCurve 1 none 5 108 0 0 [.ref l0] M sz M0 sz := mMetV_of l D G A (by decide) (Nat.le_of_ble_eq_true rfl) (fun x X hQ => wP_X13_layCurve X hQ h)
/-! SealedTokensModel.<init>()V -/
theorem dX13_init_0 : decode cX13_init 0 = .ok (.aload_n 0, 1) := by decide +kernel
theorem dX13_init_1 : decode cX13_init 1 = .ok (.invokespecial 1, 3) := by decide +kernel
theorem dX13_init_4 : decode cX13_init 4 = .ok (.aload_n 0, 1) := by decide +kernel
theorem dX13_init_5 : decode cX13_init 5 = .ok (.sipush 8192, 3) := by decide +kernel
theorem dX13_init_8 : decode cX13_init 8 = .ok (.newarray .byte, 2) := by decide +kernel
theorem dX13_init_10 : decode cX13_init 10 = .ok (.putfield 7, 3) := by decide +kernel
theorem dX13_init_13 : decode cX13_init 13 = .ok (.aload_n 0, 1) := by decide +kernel
theorem dX13_init_14 : decode cX13_init 14 = .ok (.ldc 13, 2) := by decide +kernel
theorem dX13_init_16 : decode cX13_init 16 = .ok (.newarray .byte, 2) := by decide +kernel
theorem dX13_init_18 : decode cX13_init 18 = .ok (.putfield 14, 3) := by decide +kernel
theorem dX13_init_21 : decode cX13_init 21 = .ok (.aload_n 0, 1) := by decide +kernel
theorem dX13_init_22 : decode cX13_init 22 = .ok (.bipush 8, 2) := by decide +kernel
theorem dX13_init_24 : decode cX13_init 24 = .ok (.newarray .int, 2) := by decide +kernel
theorem dX13_init_26 : decode cX13_init 26 = .ok (.putfield 17, 3) := by decide +kernel
theorem dX13_init_29 : decode cX13_init 29 = .ok (.aload_n 0, 1) := by decide +kernel
theorem dX13_init_30 : decode cX13_init 30 = .ok (.sipush 8192, 3) := by decide +kernel
theorem dX13_init_33 : decode cX13_init 33 = .ok (.newarray .byte, 2) := by decide +kernel
theorem dX13_init_35 : decode cX13_init 35 = .ok (.putfield 21, 3) := by decide +kernel
theorem dX13_init_38 : decode cX13_init 38 = .ok (.aload_n 0, 1) := by decide +kernel
theorem dX13_init_39 : decode cX13_init 39 = .ok (.sipush 1200, 3) := by decide +kernel
theorem dX13_init_42 : decode cX13_init 42 = .ok (.newarray .int, 2) := by decide +kernel
theorem dX13_init_44 : decode cX13_init 44 = .ok (.putfield 24, 3) := by decide +kernel
theorem dX13_init_47 : decode cX13_init 47 = .ok (.aload_n 0, 1) := by decide +kernel
theorem dX13_init_48 : decode cX13_init 48 = .ok (.sipush 1200, 3) := by decide +kernel
theorem dX13_init_51 : decode cX13_init 51 = .ok (.newarray .int, 2) := by decide +kernel
theorem dX13_init_53 : decode cX13_init 53 = .ok (.putfield 27, 3) := by decide +kernel
theorem dX13_init_56 : decode cX13_init 56 = .ok (.aload_n 0, 1) := by decide +kernel
theorem dX13_init_57 : decode cX13_init 57 = .ok (.sipush 1200, 3) := by decide +kernel
theorem dX13_init_60 : decode cX13_init 60 = .ok (.newarray .int, 2) := by decide +kernel
theorem dX13_init_62 : decode cX13_init 62 = .ok (.putfield 30, 3) := by decide +kernel
theorem dX13_init_65 : decode cX13_init 65 = .ok (.aload_n 0, 1) := by decide +kernel
theorem dX13_init_66 : decode cX13_init 66 = .ok (.sipush 1200, 3) := by decide +kernel
theorem dX13_init_69 : decode cX13_init 69 = .ok (.newarray .int, 2) := by decide +kernel
theorem dX13_init_71 : decode cX13_init 71 = .ok (.putfield 33, 3) := by decide +kernel
theorem dX13_init_74 : decode cX13_init 74 = .ok (.aload_n 0, 1) := by decide +kernel
theorem dX13_init_75 : decode cX13_init 75 = .ok (.sipush 1200, 3) := by decide +kernel
theorem dX13_init_78 : decode cX13_init 78 = .ok (.newarray .int, 2) := by decide +kernel
theorem dX13_init_80 : decode cX13_init 80 = .ok (.putfield 36, 3) := by decide +kernel
theorem dX13_init_83 : decode cX13_init 83 = .ok (.aload_n 0, 1) := by decide +kernel
theorem dX13_init_84 : decode cX13_init 84 = .ok (.sipush 1200, 3) := by decide +kernel
theorem dX13_init_87 : decode cX13_init 87 = .ok (.newarray .int, 2) := by decide +kernel
theorem dX13_init_89 : decode cX13_init 89 = .ok (.putfield 39, 3) := by decide +kernel
theorem dX13_init_92 : decode cX13_init 92 = .ok (.aload_n 0, 1) := by decide +kernel
theorem dX13_init_93 : decode cX13_init 93 = .ok (.sipush 1200, 3) := by decide +kernel
theorem dX13_init_96 : decode cX13_init 96 = .ok (.newarray .int, 2) := by decide +kernel
theorem dX13_init_98 : decode cX13_init 98 = .ok (.putfield 42, 3) := by decide +kernel
theorem dX13_init_101 : decode cX13_init 101 = .ok (.aload_n 0, 1) := by decide +kernel
theorem dX13_init_102 : decode cX13_init 102 = .ok (.sipush 1200, 3) := by decide +kernel
theorem dX13_init_105 : decode cX13_init 105 = .ok (.newarray .int, 2) := by decide +kernel
theorem dX13_init_107 : decode cX13_init 107 = .ok (.putfield 45, 3) := by decide +kernel
theorem dX13_init_110 : decode cX13_init 110 = .ok (.aload_n 0, 1) := by decide +kernel
theorem dX13_init_111 : decode cX13_init 111 = .ok (.sipush 1200, 3) := by decide +kernel
theorem dX13_init_114 : decode cX13_init 114 = .ok (.newarray .int, 2) := by decide +kernel
theorem dX13_init_116 : decode cX13_init 116 = .ok (.putfield 48, 3) := by decide +kernel
theorem dX13_init_119 : decode cX13_init 119 = .ok (.aload_n 0, 1) := by decide +kernel
theorem dX13_init_120 : decode cX13_init 120 = .ok (.sipush 16400, 3) := by decide +kernel
theorem dX13_init_123 : decode cX13_init 123 = .ok (.newarray .byte, 2) := by decide +kernel
theorem dX13_init_125 : decode cX13_init 125 = .ok (.putfield 51, 3) := by decide +kernel
theorem dX13_init_128 : decode cX13_init 128 = .ok (.aload_n 0, 1) := by decide +kernel
theorem dX13_init_129 : decode cX13_init 129 = .ok (.iconst 2, 1) := by decide +kernel
theorem dX13_init_130 : decode cX13_init 130 = .ok (.newarray .int, 2) := by decide +kernel
theorem dX13_init_132 : decode cX13_init 132 = .ok (.putfield 54, 3) := by decide +kernel
theorem dX13_init_135 : decode cX13_init 135 = .ok (.aload_n 0, 1) := by decide +kernel
theorem dX13_init_136 : decode cX13_init 136 = .ok (.sipush 8300, 3) := by decide +kernel
theorem dX13_init_139 : decode cX13_init 139 = .ok (.newarray .byte, 2) := by decide +kernel
theorem dX13_init_141 : decode cX13_init 141 = .ok (.putfield 57, 3) := by decide +kernel
theorem dX13_init_144 : decode cX13_init 144 = .ok (.aload_n 0, 1) := by decide +kernel
theorem dX13_init_145 : decode cX13_init 145 = .ok (.sipush 8200, 3) := by decide +kernel
theorem dX13_init_148 : decode cX13_init 148 = .ok (.newarray .byte, 2) := by decide +kernel
theorem dX13_init_150 : decode cX13_init 150 = .ok (.putfield 60, 3) := by decide +kernel
theorem dX13_init_153 : decode cX13_init 153 = .ok (.aload_n 0, 1) := by decide +kernel
theorem dX13_init_154 : decode cX13_init 154 = .ok (.bipush 64, 2) := by decide +kernel
theorem dX13_init_156 : decode cX13_init 156 = .ok (.newarray .int, 2) := by decide +kernel
theorem dX13_init_158 : decode cX13_init 158 = .ok (.putfield 63, 3) := by decide +kernel
theorem dX13_init_161 : decode cX13_init 161 = .ok (.aload_n 0, 1) := by decide +kernel
theorem dX13_init_162 : decode cX13_init 162 = .ok (.bipush 8, 2) := by decide +kernel
theorem dX13_init_164 : decode cX13_init 164 = .ok (.newarray .int, 2) := by decide +kernel
theorem dX13_init_166 : decode cX13_init 166 = .ok (.putfield 66, 3) := by decide +kernel
theorem dX13_init_169 : decode cX13_init 169 = .ok (.aload_n 0, 1) := by decide +kernel
theorem dX13_init_170 : decode cX13_init 170 = .ok (.bipush 80, 2) := by decide +kernel
theorem dX13_init_172 : decode cX13_init 172 = .ok (.newarray .long, 2) := by decide +kernel
theorem dX13_init_174 : decode cX13_init 174 = .ok (.putfield 69, 3) := by decide +kernel
theorem dX13_init_177 : decode cX13_init 177 = .ok (.aload_n 0, 1) := by decide +kernel
theorem dX13_init_178 : decode cX13_init 178 = .ok (.bipush 8, 2) := by decide +kernel
theorem dX13_init_180 : decode cX13_init 180 = .ok (.newarray .long, 2) := by decide +kernel
theorem dX13_init_182 : decode cX13_init 182 = .ok (.putfield 73, 3) := by decide +kernel
theorem dX13_init_185 : decode cX13_init 185 = .ok (.aload_n 0, 1) := by decide +kernel
theorem dX13_init_186 : decode cX13_init 186 = .ok (.bipush 64, 2) := by decide +kernel
theorem dX13_init_188 : decode cX13_init 188 = .ok (.newarray .byte, 2) := by decide +kernel
theorem dX13_init_190 : decode cX13_init 190 = .ok (.putfield 76, 3) := by decide +kernel
theorem dX13_init_193 : decode cX13_init 193 = .ok (.aload_n 0, 1) := by decide +kernel
theorem dX13_init_194 : decode cX13_init 194 = .ok (.ldc 79, 2) := by decide +kernel
theorem dX13_init_196 : decode cX13_init 196 = .ok (.newarray .byte, 2) := by decide +kernel
theorem dX13_init_198 : decode cX13_init 198 = .ok (.putfield 80, 3) := by decide +kernel
theorem dX13_init_201 : decode cX13_init 201 = .ok (.aload_n 0, 1) := by decide +kernel
theorem dX13_init_202 : decode cX13_init 202 = .ok (.sipush 25000, 3) := by decide +kernel
theorem dX13_init_205 : decode cX13_init 205 = .ok (.newarray .byte, 2) := by decide +kernel
theorem dX13_init_207 : decode cX13_init 207 = .ok (.putfield 83, 3) := by decide +kernel
theorem dX13_init_210 : decode cX13_init 210 = .ok (.aload_n 0, 1) := by decide +kernel
theorem dX13_init_211 : decode cX13_init 211 = .ok (.sipush 128, 3) := by decide +kernel
theorem dX13_init_214 : decode cX13_init 214 = .ok (.newarray .byte, 2) := by decide +kernel
theorem dX13_init_216 : decode cX13_init 216 = .ok (.putfield 86, 3) := by decide +kernel
theorem dX13_init_219 : decode cX13_init 219 = .ok (.aload_n 0, 1) := by decide +kernel
theorem dX13_init_220 : decode cX13_init 220 = .ok (.sipush 256, 3) := by decide +kernel
theorem dX13_init_223 : decode cX13_init 223 = .ok (.newarray .int, 2) := by decide +kernel
theorem dX13_init_225 : decode cX13_init 225 = .ok (.putfield 89, 3) := by decide +kernel
theorem dX13_init_228 : decode cX13_init 228 = .ok (.aload_n 0, 1) := by decide +kernel
theorem dX13_init_229 : decode cX13_init 229 = .ok (.sipush 256, 3) := by decide +kernel
theorem dX13_init_232 : decode cX13_init 232 = .ok (.newarray .int, 2) := by decide +kernel
theorem dX13_init_234 : decode cX13_init 234 = .ok (.putfield 92, 3) := by decide +kernel
theorem dX13_init_237 : decode cX13_init 237 = .ok (.aload_n 0, 1) := by decide +kernel
theorem dX13_init_238 : decode cX13_init 238 = .ok (.sipush 240, 3) := by decide +kernel
theorem dX13_init_241 : decode cX13_init 241 = .ok (.newarray .int, 2) := by decide +kernel
theorem dX13_init_243 : decode cX13_init 243 = .ok (.putfield 95, 3) := by decide +kernel
theorem dX13_init_246 : decode cX13_init 246 = .ok (.aload_n 0, 1) := by decide +kernel
theorem dX13_init_247 : decode cX13_init 247 = .ok (.bipush 16, 2) := by decide +kernel
theorem dX13_init_249 : decode cX13_init 249 = .ok (.newarray .int, 2) := by decide +kernel
theorem dX13_init_251 : decode cX13_init 251 = .ok (.putfield 98, 3) := by decide +kernel
theorem dX13_init_254 : decode cX13_init 254 = .ok (.aload_n 0, 1) := by decide +kernel
theorem dX13_init_255 : decode cX13_init 255 = .ok (.bipush 16, 2) := by decide +kernel
theorem dX13_init_257 : decode cX13_init 257 = .ok (.newarray .int, 2) := by decide +kernel
theorem dX13_init_259 : decode cX13_init 259 = .ok (.putfield 101, 3) := by decide +kernel
theorem dX13_init_262 : decode cX13_init 262 = .ok (.aload_n 0, 1) := by decide +kernel
theorem dX13_init_263 : decode cX13_init 263 = .ok (.bipush 16, 2) := by decide +kernel
theorem dX13_init_265 : decode cX13_init 265 = .ok (.newarray .byte, 2) := by decide +kernel
theorem dX13_init_267 : decode cX13_init 267 = .ok (.putfield 104, 3) := by decide +kernel
theorem dX13_init_270 : decode cX13_init 270 = .ok (.aload_n 0, 1) := by decide +kernel
theorem dX13_init_271 : decode cX13_init 271 = .ok (.bipush 80, 2) := by decide +kernel
theorem dX13_init_273 : decode cX13_init 273 = .ok (.newarray .byte, 2) := by decide +kernel
theorem dX13_init_275 : decode cX13_init 275 = .ok (.putfield 107, 3) := by decide +kernel
theorem dX13_init_278 : decode cX13_init 278 = .ok (.aload_n 0, 1) := by decide +kernel
theorem dX13_init_279 : decode cX13_init 279 = .ok (.sipush 8300, 3) := by decide +kernel
theorem dX13_init_282 : decode cX13_init 282 = .ok (.newarray .byte, 2) := by decide +kernel
theorem dX13_init_284 : decode cX13_init 284 = .ok (.putfield 110, 3) := by decide +kernel
theorem dX13_init_287 : decode cX13_init 287 = .ok (.aload_n 0, 1) := by decide +kernel
theorem dX13_init_288 : decode cX13_init 288 = .ok (.bipush 64, 2) := by decide +kernel
theorem dX13_init_290 : decode cX13_init 290 = .ok (.newarray .byte, 2) := by decide +kernel
theorem dX13_init_292 : decode cX13_init 292 = .ok (.putfield 113, 3) := by decide +kernel
theorem dX13_init_295 : decode cX13_init 295 = .ok (.aload_n 0, 1) := by decide +kernel
theorem dX13_init_296 : decode cX13_init 296 = .ok (.bipush 16, 2) := by decide +kernel
theorem dX13_init_298 : decode cX13_init 298 = .ok (.newarray .byte, 2) := by decide +kernel
theorem dX13_init_300 : decode cX13_init 300 = .ok (.putfield 116, 3) := by decide +kernel
theorem dX13_init_303 : decode cX13_init 303 = .ok (.aload_n 0, 1) := by decide +kernel
theorem dX13_init_304 : decode cX13_init 304 = .ok (.new 119, 3) := by decide +kernel
theorem dX13_init_307 : decode cX13_init 307 = .ok (.dup, 1) := by decide +kernel
theorem dX13_init_308 : decode cX13_init 308 = .ok (.invokespecial 121, 3) := by decide +kernel
theorem dX13_init_311 : decode cX13_init 311 = .ok (.putfield 122, 3) := by decide +kernel
theorem dX13_init_314 : decode cX13_init 314 = .ok (.aload_n 0, 1) := by decide +kernel
theorem dX13_init_315 : decode cX13_init 315 = .ok (.new 119, 3) := by decide +kernel
theorem dX13_init_318 : decode cX13_init 318 = .ok (.dup, 1) := by decide +kernel
theorem dX13_init_319 : decode cX13_init 319 = .ok (.invokespecial 121, 3) := by decide +kernel
theorem dX13_init_322 : decode cX13_init 322 = .ok (.putfield 126, 3) := by decide +kernel
theorem dX13_init_325 : decode cX13_init 325 = .ok (.aload_n 0, 1) := by decide +kernel
theorem dX13_init_326 : decode cX13_init 326 = .ok (.new 119, 3) := by decide +kernel
theorem dX13_init_329 : decode cX13_init 329 = .ok (.dup, 1) := by decide +kernel
theorem dX13_init_330 : decode cX13_init 330 = .ok (.invokespecial 121, 3) := by decide +kernel
theorem dX13_init_333 : decode cX13_init 333 = .ok (.putfield 129, 3) := by decide +kernel
theorem dX13_init_336 : decode cX13_init 336 = .ok (.aload_n 0, 1) := by decide +kernel
theorem dX13_init_337 : decode cX13_init 337 = .ok (.bipush 34, 2) := by decide +kernel
theorem dX13_init_339 : decode cX13_init 339 = .ok (.newarray .int, 2) := by decide +kernel
theorem dX13_init_341 : decode cX13_init 341 = .ok (.putfield 132, 3) := by decide +kernel
theorem dX13_init_344 : decode cX13_init 344 = .ok (.aload_n 0, 1) := by decide +kernel
theorem dX13_init_345 : decode cX13_init 345 = .ok (.bipush 34, 2) := by decide +kernel
theorem dX13_init_347 : decode cX13_init 347 = .ok (.newarray .int, 2) := by decide +kernel
theorem dX13_init_349 : decode cX13_init 349 = .ok (.putfield 135, 3) := by decide +kernel
theorem dX13_init_352 : decode cX13_init 352 = .ok (.aload_n 0, 1) := by decide +kernel
theorem dX13_init_353 : decode cX13_init 353 = .ok (.sipush 128, 3) := by decide +kernel
theorem dX13_init_356 : decode cX13_init 356 = .ok (.newarray .byte, 2) := by decide +kernel
theorem dX13_init_358 : decode cX13_init 358 = .ok (.putfield 138, 3) := by decide +kernel
theorem dX13_init_361 : decode cX13_init 361 = .ok (.aload_n 0, 1) := by decide +kernel
theorem dX13_init_362 : decode cX13_init 362 = .ok (.bipush 32, 2) := by decide +kernel
theorem dX13_init_364 : decode cX13_init 364 = .ok (.newarray .byte, 2) := by decide +kernel
theorem dX13_init_366 : decode cX13_init 366 = .ok (.putfield 141, 3) := by decide +kernel
theorem dX13_init_369 : decode cX13_init 369 = .ok (.aload_n 0, 1) := by decide +kernel
theorem dX13_init_370 : decode cX13_init 370 = .ok (.bipush 32, 2) := by decide +kernel
theorem dX13_init_372 : decode cX13_init 372 = .ok (.newarray .byte, 2) := by decide +kernel
theorem dX13_init_374 : decode cX13_init 374 = .ok (.putfield 144, 3) := by decide +kernel
theorem dX13_init_377 : decode cX13_init 377 = .ok (.aload_n 0, 1) := by decide +kernel
theorem dX13_init_378 : decode cX13_init 378 = .ok (.bipush 64, 2) := by decide +kernel
theorem dX13_init_380 : decode cX13_init 380 = .ok (.newarray .byte, 2) := by decide +kernel
theorem dX13_init_382 : decode cX13_init 382 = .ok (.putfield 147, 3) := by decide +kernel
theorem dX13_init_385 : decode cX13_init 385 = .ok (.aload_n 0, 1) := by decide +kernel
theorem dX13_init_386 : decode cX13_init 386 = .ok (.bipush 34, 2) := by decide +kernel
theorem dX13_init_388 : decode cX13_init 388 = .ok (.newarray .int, 2) := by decide +kernel
theorem dX13_init_390 : decode cX13_init 390 = .ok (.putfield 150, 3) := by decide +kernel
theorem dX13_init_393 : decode cX13_init 393 = .ok (.aload_n 0, 1) := by decide +kernel
theorem dX13_init_394 : decode cX13_init 394 = .ok (.bipush 32, 2) := by decide +kernel
theorem dX13_init_396 : decode cX13_init 396 = .ok (.newarray .byte, 2) := by decide +kernel
theorem dX13_init_398 : decode cX13_init 398 = .ok (.putfield 153, 3) := by decide +kernel
theorem dX13_init_401 : decode cX13_init 401 = .ok (.aload_n 0, 1) := by decide +kernel
theorem dX13_init_402 : decode cX13_init 402 = .ok (.bipush 34, 2) := by decide +kernel
theorem dX13_init_404 : decode cX13_init 404 = .ok (.newarray .int, 2) := by decide +kernel
theorem dX13_init_406 : decode cX13_init 406 = .ok (.putfield 156, 3) := by decide +kernel
theorem dX13_init_409 : decode cX13_init 409 = .ok (.aload_n 0, 1) := by decide +kernel
theorem dX13_init_410 : decode cX13_init 410 = .ok (.bipush 34, 2) := by decide +kernel
theorem dX13_init_412 : decode cX13_init 412 = .ok (.newarray .int, 2) := by decide +kernel
theorem dX13_init_414 : decode cX13_init 414 = .ok (.putfield 159, 3) := by decide +kernel
theorem dX13_init_417 : decode cX13_init 417 = .ok (.aload_n 0, 1) := by decide +kernel
theorem dX13_init_418 : decode cX13_init 418 = .ok (.bipush 34, 2) := by decide +kernel
theorem dX13_init_420 : decode cX13_init 420 = .ok (.newarray .int, 2) := by decide +kernel
theorem dX13_init_422 : decode cX13_init 422 = .ok (.putfield 162, 3) := by decide +kernel
theorem dX13_init_425 : decode cX13_init 425 = .ok (.aload_n 0, 1) := by decide +kernel
theorem dX13_init_426 : decode cX13_init 426 = .ok (.bipush 34, 2) := by decide +kernel
theorem dX13_init_428 : decode cX13_init 428 = .ok (.newarray .int, 2) := by decide +kernel
theorem dX13_init_430 : decode cX13_init 430 = .ok (.putfield 165, 3) := by decide +kernel
theorem dX13_init_433 : decode cX13_init 433 = .ok (.aload_n 0, 1) := by decide +kernel
theorem dX13_init_434 : decode cX13_init 434 = .ok (.bipush 34, 2) := by decide +kernel
theorem dX13_init_436 : decode cX13_init 436 = .ok (.newarray .int, 2) := by decide +kernel
theorem dX13_init_438 : decode cX13_init 438 = .ok (.putfield 168, 3) := by decide +kernel
theorem dX13_init_441 : decode cX13_init 441 = .ok (.aload_n 0, 1) := by decide +kernel
theorem dX13_init_442 : decode cX13_init 442 = .ok (.bipush 34, 2) := by decide +kernel
theorem dX13_init_444 : decode cX13_init 444 = .ok (.newarray .int, 2) := by decide +kernel
theorem dX13_init_446 : decode cX13_init 446 = .ok (.putfield 171, 3) := by decide +kernel
theorem dX13_init_449 : decode cX13_init 449 = .ok (.aload_n 0, 1) := by decide +kernel
theorem dX13_init_450 : decode cX13_init 450 = .ok (.bipush 34, 2) := by decide +kernel
theorem dX13_init_452 : decode cX13_init 452 = .ok (.newarray .int, 2) := by decide +kernel
theorem dX13_init_454 : decode cX13_init 454 = .ok (.putfield 174, 3) := by decide +kernel
theorem dX13_init_457 : decode cX13_init 457 = .ok (.aload_n 0, 1) := by decide +kernel
theorem dX13_init_458 : decode cX13_init 458 = .ok (.bipush 34, 2) := by decide +kernel
theorem dX13_init_460 : decode cX13_init 460 = .ok (.newarray .int, 2) := by decide +kernel
theorem dX13_init_462 : decode cX13_init 462 = .ok (.putfield 177, 3) := by decide +kernel
theorem dX13_init_465 : decode cX13_init 465 = .ok (.aload_n 0, 1) := by decide +kernel
theorem dX13_init_466 : decode cX13_init 466 = .ok (.bipush 34, 2) := by decide +kernel
theorem dX13_init_468 : decode cX13_init 468 = .ok (.newarray .int, 2) := by decide +kernel
theorem dX13_init_470 : decode cX13_init 470 = .ok (.putfield 180, 3) := by decide +kernel
theorem dX13_init_473 : decode cX13_init 473 = .ok (.aload_n 0, 1) := by decide +kernel
theorem dX13_init_474 : decode cX13_init 474 = .ok (.bipush 34, 2) := by decide +kernel
theorem dX13_init_476 : decode cX13_init 476 = .ok (.newarray .int, 2) := by decide +kernel
theorem dX13_init_478 : decode cX13_init 478 = .ok (.putfield 183, 3) := by decide +kernel
theorem dX13_init_481 : decode cX13_init 481 = .ok (.aload_n 0, 1) := by decide +kernel
theorem dX13_init_482 : decode cX13_init 482 = .ok (.bipush 64, 2) := by decide +kernel
theorem dX13_init_484 : decode cX13_init 484 = .ok (.newarray .byte, 2) := by decide +kernel
theorem dX13_init_486 : decode cX13_init 486 = .ok (.putfield 186, 3) := by decide +kernel
theorem dX13_init_489 : decode cX13_init 489 = .ok (.aload_n 0, 1) := by decide +kernel
theorem dX13_init_490 : decode cX13_init 490 = .ok (.bipush 64, 2) := by decide +kernel
theorem dX13_init_492 : decode cX13_init 492 = .ok (.newarray .byte, 2) := by decide +kernel
theorem dX13_init_494 : decode cX13_init 494 = .ok (.putfield 189, 3) := by decide +kernel
theorem dX13_init_497 : decode cX13_init 497 = .ok (.aload_n 0, 1) := by decide +kernel
theorem dX13_init_498 : decode cX13_init 498 = .ok (.sipush 128, 3) := by decide +kernel
theorem dX13_init_501 : decode cX13_init 501 = .ok (.newarray .byte, 2) := by decide +kernel
theorem dX13_init_503 : decode cX13_init 503 = .ok (.putfield 192, 3) := by decide +kernel
theorem dX13_init_506 : decode cX13_init 506 = .ok (.aload_n 0, 1) := by decide +kernel
theorem dX13_init_507 : decode cX13_init 507 = .ok (.sipush 128, 3) := by decide +kernel
theorem dX13_init_510 : decode cX13_init 510 = .ok (.newarray .byte, 2) := by decide +kernel
theorem dX13_init_512 : decode cX13_init 512 = .ok (.putfield 195, 3) := by decide +kernel
theorem dX13_init_515 : decode cX13_init 515 = .ok (.aload_n 0, 1) := by decide +kernel
theorem dX13_init_516 : decode cX13_init 516 = .ok (.bipush 16, 2) := by decide +kernel
theorem dX13_init_518 : decode cX13_init 518 = .ok (.newarray .boolean, 2) := by decide +kernel
theorem dX13_init_520 : decode cX13_init 520 = .ok (.putfield 198, 3) := by decide +kernel
theorem dX13_init_523 : decode cX13_init 523 = .ok (.aload_n 0, 1) := by decide +kernel
theorem dX13_init_524 : decode cX13_init 524 = .ok (.bipush 16, 2) := by decide +kernel
theorem dX13_init_526 : decode cX13_init 526 = .ok (.newarray .int, 2) := by decide +kernel
theorem dX13_init_528 : decode cX13_init 528 = .ok (.putfield 202, 3) := by decide +kernel
theorem dX13_init_531 : decode cX13_init 531 = .ok (.aload_n 0, 1) := by decide +kernel
theorem dX13_init_532 : decode cX13_init 532 = .ok (.sipush 2048, 3) := by decide +kernel
theorem dX13_init_535 : decode cX13_init 535 = .ok (.newarray .byte, 2) := by decide +kernel
theorem dX13_init_537 : decode cX13_init 537 = .ok (.putfield 205, 3) := by decide +kernel
theorem dX13_init_540 : decode cX13_init 540 = .ok (.aload_n 0, 1) := by decide +kernel
theorem dX13_init_541 : decode cX13_init 541 = .ok (.bipush 16, 2) := by decide +kernel
theorem dX13_init_543 : decode cX13_init 543 = .ok (.newarray .int, 2) := by decide +kernel
theorem dX13_init_545 : decode cX13_init 545 = .ok (.putfield 208, 3) := by decide +kernel
theorem dX13_init_548 : decode cX13_init 548 = .ok (.aload_n 0, 1) := by decide +kernel
theorem dX13_init_549 : decode cX13_init 549 = .ok (.sipush 2048, 3) := by decide +kernel
theorem dX13_init_552 : decode cX13_init 552 = .ok (.newarray .byte, 2) := by decide +kernel
theorem dX13_init_554 : decode cX13_init 554 = .ok (.putfield 211, 3) := by decide +kernel
theorem dX13_init_557 : decode cX13_init 557 = .ok (.aload_n 0, 1) := by decide +kernel
theorem dX13_init_558 : decode cX13_init 558 = .ok (.bipush 16, 2) := by decide +kernel
theorem dX13_init_560 : decode cX13_init 560 = .ok (.newarray .int, 2) := by decide +kernel
theorem dX13_init_562 : decode cX13_init 562 = .ok (.putfield 214, 3) := by decide +kernel
theorem dX13_init_565 : decode cX13_init 565 = .ok (.aload_n 0, 1) := by decide +kernel
theorem dX13_init_566 : decode cX13_init 566 = .ok (.sipush 2048, 3) := by decide +kernel
theorem dX13_init_569 : decode cX13_init 569 = .ok (.newarray .byte, 2) := by decide +kernel
theorem dX13_init_571 : decode cX13_init 571 = .ok (.putfield 217, 3) := by decide +kernel
theorem dX13_init_574 : decode cX13_init 574 = .ok (.aload_n 0, 1) := by decide +kernel
theorem dX13_init_575 : decode cX13_init 575 = .ok (.bipush 16, 2) := by decide +kernel
theorem dX13_init_577 : decode cX13_init 577 = .ok (.newarray .int, 2) := by decide +kernel
theorem dX13_init_579 : decode cX13_init 579 = .ok (.putfield 220, 3) := by decide +kernel
theorem dX13_init_582 : decode cX13_init 582 = .ok (.aload_n 0, 1) := by decide +kernel
theorem dX13_init_583 : decode cX13_init 583 = .ok (.bipush 16, 2) := by decide +kernel
theorem dX13_init_585 : decode cX13_init 585 = .ok (.newarray .int, 2) := by decide +kernel
theorem dX13_init_587 : decode cX13_init 587 = .ok (.putfield 223, 3) := by decide +kernel
theorem dX13_init_590 : decode cX13_init 590 = .ok (.aload_n 0, 1) := by decide +kernel
theorem dX13_init_591 : decode cX13_init 591 = .ok (.ldc 226, 2) := by decide +kernel
theorem dX13_init_593 : decode cX13_init 593 = .ok (.newarray .byte, 2) := by decide +kernel
theorem dX13_init_595 : decode cX13_init 595 = .ok (.putfield 227, 3) := by decide +kernel
theorem dX13_init_598 : decode cX13_init 598 = .ok (.aload_n 0, 1) := by decide +kernel
theorem dX13_init_599 : decode cX13_init 599 = .ok (.bipush 16, 2) := by decide +kernel
theorem dX13_init_601 : decode cX13_init 601 = .ok (.newarray .int, 2) := by decide +kernel
theorem dX13_init_603 : decode cX13_init 603 = .ok (.putfield 230, 3) := by decide +kernel
theorem dX13_init_606 : decode cX13_init 606 = .ok (.aload_n 0, 1) := by decide +kernel
theorem dX13_init_607 : decode cX13_init 607 = .ok (.ldc 226, 2) := by decide +kernel
theorem dX13_init_609 : decode cX13_init 609 = .ok (.newarray .byte, 2) := by decide +kernel
theorem dX13_init_611 : decode cX13_init 611 = .ok (.putfield 233, 3) := by decide +kernel
theorem dX13_init_614 : decode cX13_init 614 = .ok (.aload_n 0, 1) := by decide +kernel
theorem dX13_init_615 : decode cX13_init 615 = .ok (.bipush 16, 2) := by decide +kernel
theorem dX13_init_617 : decode cX13_init 617 = .ok (.newarray .int, 2) := by decide +kernel
theorem dX13_init_619 : decode cX13_init 619 = .ok (.putfield 236, 3) := by decide +kernel
theorem dX13_init_622 : decode cX13_init 622 = .ok (.aload_n 0, 1) := by decide +kernel
theorem dX13_init_623 : decode cX13_init 623 = .ok (.sipush 8200, 3) := by decide +kernel
theorem dX13_init_626 : decode cX13_init 626 = .ok (.newarray .byte, 2) := by decide +kernel
theorem dX13_init_628 : decode cX13_init 628 = .ok (.putfield 239, 3) := by decide +kernel
theorem dX13_init_631 : decode cX13_init 631 = .ok (.aload_n 0, 1) := by decide +kernel
theorem dX13_init_632 : decode cX13_init 632 = .ok (.sipush 8200, 3) := by decide +kernel
theorem dX13_init_635 : decode cX13_init 635 = .ok (.newarray .byte, 2) := by decide +kernel
theorem dX13_init_637 : decode cX13_init 637 = .ok (.putfield 242, 3) := by decide +kernel
theorem dX13_init_640 : decode cX13_init 640 = .ok (.aload_n 0, 1) := by decide +kernel
theorem dX13_init_641 : decode cX13_init 641 = .ok (.sipush 8200, 3) := by decide +kernel
theorem dX13_init_644 : decode cX13_init 644 = .ok (.newarray .byte, 2) := by decide +kernel
theorem dX13_init_646 : decode cX13_init 646 = .ok (.putfield 245, 3) := by decide +kernel
theorem dX13_init_649 : decode cX13_init 649 = .ok (.aload_n 0, 1) := by decide +kernel
theorem dX13_init_650 : decode cX13_init 650 = .ok (.bipush 64, 2) := by decide +kernel
theorem dX13_init_652 : decode cX13_init 652 = .ok (.newarray .byte, 2) := by decide +kernel
theorem dX13_init_654 : decode cX13_init 654 = .ok (.putfield 248, 3) := by decide +kernel
theorem dX13_init_657 : decode cX13_init 657 = .ok (.aload_n 0, 1) := by decide +kernel
theorem dX13_init_658 : decode cX13_init 658 = .ok (.sipush 8200, 3) := by decide +kernel
theorem dX13_init_661 : decode cX13_init 661 = .ok (.newarray .byte, 2) := by decide +kernel
theorem dX13_init_663 : decode cX13_init 663 = .ok (.putfield 251, 3) := by decide +kernel
theorem dX13_init_666 : decode cX13_init 666 = .ok (.aload_n 0, 1) := by decide +kernel
theorem dX13_init_667 : decode cX13_init 667 = .ok (.sipush 8200, 3) := by decide +kernel
theorem dX13_init_670 : decode cX13_init 670 = .ok (.newarray .byte, 2) := by decide +kernel
theorem dX13_init_672 : decode cX13_init 672 = .ok (.putfield 254, 3) := by decide +kernel
theorem dX13_init_675 : decode cX13_init 675 = .ok (.aload_n 0, 1) := by decide +kernel
theorem dX13_init_676 : decode cX13_init 676 = .ok (.sipush 8200, 3) := by decide +kernel
theorem dX13_init_679 : decode cX13_init 679 = .ok (.newarray .byte, 2) := by decide +kernel
theorem dX13_init_681 : decode cX13_init 681 = .ok (.putfield 257, 3) := by decide +kernel
theorem dX13_init_684 : decode cX13_init 684 = .ok (.aload_n 0, 1) := by decide +kernel
theorem dX13_init_685 : decode cX13_init 685 = .ok (.bipush 32, 2) := by decide +kernel
theorem dX13_init_687 : decode cX13_init 687 = .ok (.newarray .byte, 2) := by decide +kernel
theorem dX13_init_689 : decode cX13_init 689 = .ok (.putfield 260, 3) := by decide +kernel
theorem dX13_init_692 : decode cX13_init 692 = .ok (.aload_n 0, 1) := by decide +kernel
theorem dX13_init_693 : decode cX13_init 693 = .ok (.bipush 64, 2) := by decide +kernel
theorem dX13_init_695 : decode cX13_init 695 = .ok (.newarray .byte, 2) := by decide +kernel
theorem dX13_init_697 : decode cX13_init 697 = .ok (.putfield 263, 3) := by decide +kernel
theorem dX13_init_700 : decode cX13_init 700 = .ok (.aload_n 0, 1) := by decide +kernel
theorem dX13_init_701 : decode cX13_init 701 = .ok (.bipush 34, 2) := by decide +kernel
theorem dX13_init_703 : decode cX13_init 703 = .ok (.newarray .int, 2) := by decide +kernel
theorem dX13_init_705 : decode cX13_init 705 = .ok (.putfield 266, 3) := by decide +kernel
theorem dX13_init_708 : decode cX13_init 708 = .ok (.aload_n 0, 1) := by decide +kernel
theorem dX13_init_709 : decode cX13_init 709 = .ok (.bipush 34, 2) := by decide +kernel
theorem dX13_init_711 : decode cX13_init 711 = .ok (.newarray .int, 2) := by decide +kernel
theorem dX13_init_713 : decode cX13_init 713 = .ok (.putfield 269, 3) := by decide +kernel
theorem dX13_init_716 : decode cX13_init 716 = .ok (.aload_n 0, 1) := by decide +kernel
theorem dX13_init_717 : decode cX13_init 717 = .ok (.bipush 34, 2) := by decide +kernel
theorem dX13_init_719 : decode cX13_init 719 = .ok (.newarray .int, 2) := by decide +kernel
theorem dX13_init_721 : decode cX13_init 721 = .ok (.putfield 272, 3) := by decide +kernel
theorem dX13_init_724 : decode cX13_init 724 = .ok (.aload_n 0, 1) := by decide +kernel
theorem dX13_init_725 : decode cX13_init 725 = .ok (.sipush 8300, 3) := by decide +kernel
theorem dX13_init_728 : decode cX13_init 728 = .ok (.newarray .byte, 2) := by decide +kernel
theorem dX13_init_730 : decode cX13_init 730 = .ok (.putfield 275, 3) := by decide +kernel
theorem dX13_init_733 : decode cX13_init 733 = .ok (.aload_n 0, 1) := by decide +kernel
theorem dX13_init_734 : decode cX13_init 734 = .ok (.ldc_w 278, 3) := by decide +kernel
theorem dX13_init_737 : decode cX13_init 737 = .ok (.newarray .byte, 2) := by decide +kernel
theorem dX13_init_739 : decode cX13_init 739 = .ok (.putfield 279, 3) := by decide +kernel
theorem dX13_init_742 : decode cX13_init 742 = .ok (.aload_n 0, 1) := by decide +kernel
theorem dX13_init_743 : decode cX13_init 743 = .ok (.bipush 6, 2) := by decide +kernel
theorem dX13_init_745 : decode cX13_init 745 = .ok (.newarray .int, 2) := by decide +kernel
theorem dX13_init_747 : decode cX13_init 747 = .ok (.putfield 282, 3) := by decide +kernel
theorem dX13_init_750 : decode cX13_init 750 = .ok (.aload_n 0, 1) := by decide +kernel
theorem dX13_init_751 : decode cX13_init 751 = .ok (.sipush 8200, 3) := by decide +kernel
theorem dX13_init_754 : decode cX13_init 754 = .ok (.newarray .byte, 2) := by decide +kernel
theorem dX13_init_756 : decode cX13_init 756 = .ok (.putfield 285, 3) := by decide +kernel
theorem dX13_init_759 : decode cX13_init 759 = .ok (.aload_n 0, 1) := by decide +kernel
theorem dX13_init_760 : decode cX13_init 760 = .ok (.bipush 64, 2) := by decide +kernel
theorem dX13_init_762 : decode cX13_init 762 = .ok (.newarray .byte, 2) := by decide +kernel
theorem dX13_init_764 : decode cX13_init 764 = .ok (.putfield 288, 3) := by decide +kernel
theorem dX13_init_767 : decode cX13_init 767 = .ok (.aload_n 0, 1) := by decide +kernel
theorem dX13_init_768 : decode cX13_init 768 = .ok (.sipush 8200, 3) := by decide +kernel
theorem dX13_init_771 : decode cX13_init 771 = .ok (.newarray .byte, 2) := by decide +kernel
theorem dX13_init_773 : decode cX13_init 773 = .ok (.putfield 291, 3) := by decide +kernel
theorem dX13_init_776 : decode cX13_init 776 = .ok (.aload_n 0, 1) := by decide +kernel
theorem dX13_init_777 : decode cX13_init 777 = .ok (.sipush 8200, 3) := by decide +kernel
theorem dX13_init_780 : decode cX13_init 780 = .ok (.newarray .byte, 2) := by decide +kernel
theorem dX13_init_782 : decode cX13_init 782 = .ok (.putfield 294, 3) := by decide +kernel
theorem dX13_init_785 : decode cX13_init 785 = .ok (.aload_n 0, 1) := by decide +kernel
theorem dX13_init_786 : decode cX13_init 786 = .ok (.bipush 64, 2) := by decide +kernel
theorem dX13_init_788 : decode cX13_init 788 = .ok (.newarray .byte, 2) := by decide +kernel
theorem dX13_init_790 : decode cX13_init 790 = .ok (.putfield 297, 3) := by decide +kernel
theorem dX13_init_793 : decode cX13_init 793 = .ok (.aload_n 0, 1) := by decide +kernel
theorem dX13_init_794 : decode cX13_init 794 = .ok (.bipush 32, 2) := by decide +kernel
theorem dX13_init_796 : decode cX13_init 796 = .ok (.newarray .byte, 2) := by decide +kernel
theorem dX13_init_798 : decode cX13_init 798 = .ok (.putfield 300, 3) := by decide +kernel
theorem dX13_init_801 : decode cX13_init 801 = .ok (.aload_n 0, 1) := by decide +kernel
theorem dX13_init_802 : decode cX13_init 802 = .ok (.sipush 8200, 3) := by decide +kernel
theorem dX13_init_805 : decode cX13_init 805 = .ok (.newarray .byte, 2) := by decide +kernel
theorem dX13_init_807 : decode cX13_init 807 = .ok (.putfield 303, 3) := by decide +kernel
theorem dX13_init_810 : decode cX13_init 810 = .ok (.aload_n 0, 1) := by decide +kernel
theorem dX13_init_811 : decode cX13_init 811 = .ok (.sipush 8200, 3) := by decide +kernel
theorem dX13_init_814 : decode cX13_init 814 = .ok (.newarray .byte, 2) := by decide +kernel
theorem dX13_init_816 : decode cX13_init 816 = .ok (.putfield 306, 3) := by decide +kernel
theorem dX13_init_819 : decode cX13_init 819 = .ok (.aload_n 0, 1) := by decide +kernel
theorem dX13_init_820 : decode cX13_init 820 = .ok (.invokevirtual 309, 3) := by decide +kernel
theorem dX13_init_823 : decode cX13_init 823 = .ok (.aload_n 0, 1) := by decide +kernel
theorem dX13_init_824 : decode cX13_init 824 = .ok (.invokevirtual 312, 3) := by decide +kernel
theorem dX13_init_827 : decode cX13_init 827 = .ok (.return_, 1) := by decide +kernel
theorem mP_X13_init {G : mG} {F : Nat} {M0 : mM} {Z0 S0 : Nat} {l0 : Nat} {M : mM} {sz : Nat} {sl : Nat} (h : P_X13_init G F l0 M sz sl = some (M0, Z0, S0)) : sz ≤ Z0 ∧ sl ≤ S0 := by
  unfold P_X13_init at h
  obtain ⟨M8, e8, h⟩ := bO_some h
  obtain ⟨M10, e10, h⟩ := bO_some h
  obtain ⟨M16, e16, h⟩ := bO_some h
  obtain ⟨M18, e18, h⟩ := bO_some h
  obtain ⟨M24, e24, h⟩ := bO_some h
  obtain ⟨M26, e26, h⟩ := bO_some h
  obtain ⟨M33, e33, h⟩ := bO_some h
  obtain ⟨M35, e35, h⟩ := bO_some h
  obtain ⟨M42, e42, h⟩ := bO_some h
  obtain ⟨M44, e44, h⟩ := bO_some h
  obtain ⟨M51, e51, h⟩ := bO_some h
  obtain ⟨M53, e53, h⟩ := bO_some h
  obtain ⟨M60, e60, h⟩ := bO_some h
  obtain ⟨M62, e62, h⟩ := bO_some h
  obtain ⟨M69, e69, h⟩ := bO_some h
  obtain ⟨M71, e71, h⟩ := bO_some h
  obtain ⟨M78, e78, h⟩ := bO_some h
  obtain ⟨M80, e80, h⟩ := bO_some h
  obtain ⟨M87, e87, h⟩ := bO_some h
  obtain ⟨M89, e89, h⟩ := bO_some h
  obtain ⟨M96, e96, h⟩ := bO_some h
  obtain ⟨M98, e98, h⟩ := bO_some h
  obtain ⟨M105, e105, h⟩ := bO_some h
  obtain ⟨M107, e107, h⟩ := bO_some h
  obtain ⟨M114, e114, h⟩ := bO_some h
  obtain ⟨M116, e116, h⟩ := bO_some h
  obtain ⟨M123, e123, h⟩ := bO_some h
  obtain ⟨M125, e125, h⟩ := bO_some h
  obtain ⟨M130, e130, h⟩ := bO_some h
  obtain ⟨M132, e132, h⟩ := bO_some h
  obtain ⟨M139, e139, h⟩ := bO_some h
  obtain ⟨M141, e141, h⟩ := bO_some h
  obtain ⟨M148, e148, h⟩ := bO_some h
  obtain ⟨M150, e150, h⟩ := bO_some h
  obtain ⟨M156, e156, h⟩ := bO_some h
  obtain ⟨M158, e158, h⟩ := bO_some h
  obtain ⟨M164, e164, h⟩ := bO_some h
  obtain ⟨M166, e166, h⟩ := bO_some h
  obtain ⟨M172, e172, h⟩ := bO_some h
  obtain ⟨M174, e174, h⟩ := bO_some h
  obtain ⟨M180, e180, h⟩ := bO_some h
  obtain ⟨M182, e182, h⟩ := bO_some h
  obtain ⟨M188, e188, h⟩ := bO_some h
  obtain ⟨M190, e190, h⟩ := bO_some h
  obtain ⟨M196, e196, h⟩ := bO_some h
  obtain ⟨M198, e198, h⟩ := bO_some h
  obtain ⟨M205, e205, h⟩ := bO_some h
  obtain ⟨M207, e207, h⟩ := bO_some h
  obtain ⟨M214, e214, h⟩ := bO_some h
  obtain ⟨M216, e216, h⟩ := bO_some h
  obtain ⟨M223, e223, h⟩ := bO_some h
  obtain ⟨M225, e225, h⟩ := bO_some h
  obtain ⟨M232, e232, h⟩ := bO_some h
  obtain ⟨M234, e234, h⟩ := bO_some h
  obtain ⟨M241, e241, h⟩ := bO_some h
  obtain ⟨M243, e243, h⟩ := bO_some h
  obtain ⟨M249, e249, h⟩ := bO_some h
  obtain ⟨M251, e251, h⟩ := bO_some h
  obtain ⟨M257, e257, h⟩ := bO_some h
  obtain ⟨M259, e259, h⟩ := bO_some h
  obtain ⟨M265, e265, h⟩ := bO_some h
  obtain ⟨M267, e267, h⟩ := bO_some h
  obtain ⟨M273, e273, h⟩ := bO_some h
  obtain ⟨M275, e275, h⟩ := bO_some h
  obtain ⟨M282, e282, h⟩ := bO_some h
  obtain ⟨M284, e284, h⟩ := bO_some h
  obtain ⟨M290, e290, h⟩ := bO_some h
  obtain ⟨M292, e292, h⟩ := bO_some h
  obtain ⟨M298, e298, h⟩ := bO_some h
  obtain ⟨M300, e300, h⟩ := bO_some h
  obtain ⟨M304, ⟨⟩, h⟩ := bO_some h
  obtain ⟨M308, z308, k308, e308, h⟩ := bA_some h
  have g308 := mP_X12_init e308
  obtain ⟨M311, e311, h⟩ := bO_some h
  obtain ⟨M315, ⟨⟩, h⟩ := bO_some h
  obtain ⟨M319, z319, k319, e319, h⟩ := bA_some h
  have g319 := mP_X12_init e319
  obtain ⟨M322, e322, h⟩ := bO_some h
  obtain ⟨M326, ⟨⟩, h⟩ := bO_some h
  obtain ⟨M330, z330, k330, e330, h⟩ := bA_some h
  have g330 := mP_X12_init e330
  obtain ⟨M333, e333, h⟩ := bO_some h
  obtain ⟨M339, e339, h⟩ := bO_some h
  obtain ⟨M341, e341, h⟩ := bO_some h
  obtain ⟨M347, e347, h⟩ := bO_some h
  obtain ⟨M349, e349, h⟩ := bO_some h
  obtain ⟨M356, e356, h⟩ := bO_some h
  obtain ⟨M358, e358, h⟩ := bO_some h
  obtain ⟨M364, e364, h⟩ := bO_some h
  obtain ⟨M366, e366, h⟩ := bO_some h
  obtain ⟨M372, e372, h⟩ := bO_some h
  obtain ⟨M374, e374, h⟩ := bO_some h
  obtain ⟨M380, e380, h⟩ := bO_some h
  obtain ⟨M382, e382, h⟩ := bO_some h
  obtain ⟨M388, e388, h⟩ := bO_some h
  obtain ⟨M390, e390, h⟩ := bO_some h
  obtain ⟨M396, e396, h⟩ := bO_some h
  obtain ⟨M398, e398, h⟩ := bO_some h
  obtain ⟨M404, e404, h⟩ := bO_some h
  obtain ⟨M406, e406, h⟩ := bO_some h
  obtain ⟨M412, e412, h⟩ := bO_some h
  obtain ⟨M414, e414, h⟩ := bO_some h
  obtain ⟨M420, e420, h⟩ := bO_some h
  obtain ⟨M422, e422, h⟩ := bO_some h
  obtain ⟨M428, e428, h⟩ := bO_some h
  obtain ⟨M430, e430, h⟩ := bO_some h
  obtain ⟨M436, e436, h⟩ := bO_some h
  obtain ⟨M438, e438, h⟩ := bO_some h
  obtain ⟨M444, e444, h⟩ := bO_some h
  obtain ⟨M446, e446, h⟩ := bO_some h
  obtain ⟨M452, e452, h⟩ := bO_some h
  obtain ⟨M454, e454, h⟩ := bO_some h
  obtain ⟨M460, e460, h⟩ := bO_some h
  obtain ⟨M462, e462, h⟩ := bO_some h
  obtain ⟨M468, e468, h⟩ := bO_some h
  obtain ⟨M470, e470, h⟩ := bO_some h
  obtain ⟨M476, e476, h⟩ := bO_some h
  obtain ⟨M478, e478, h⟩ := bO_some h
  obtain ⟨M484, e484, h⟩ := bO_some h
  obtain ⟨M486, e486, h⟩ := bO_some h
  obtain ⟨M492, e492, h⟩ := bO_some h
  obtain ⟨M494, e494, h⟩ := bO_some h
  obtain ⟨M501, e501, h⟩ := bO_some h
  obtain ⟨M503, e503, h⟩ := bO_some h
  obtain ⟨M510, e510, h⟩ := bO_some h
  obtain ⟨M512, e512, h⟩ := bO_some h
  obtain ⟨M518, e518, h⟩ := bO_some h
  obtain ⟨M520, e520, h⟩ := bO_some h
  obtain ⟨M526, e526, h⟩ := bO_some h
  obtain ⟨M528, e528, h⟩ := bO_some h
  obtain ⟨M535, e535, h⟩ := bO_some h
  obtain ⟨M537, e537, h⟩ := bO_some h
  obtain ⟨M543, e543, h⟩ := bO_some h
  obtain ⟨M545, e545, h⟩ := bO_some h
  obtain ⟨M552, e552, h⟩ := bO_some h
  obtain ⟨M554, e554, h⟩ := bO_some h
  obtain ⟨M560, e560, h⟩ := bO_some h
  obtain ⟨M562, e562, h⟩ := bO_some h
  obtain ⟨M569, e569, h⟩ := bO_some h
  obtain ⟨M571, e571, h⟩ := bO_some h
  obtain ⟨M577, e577, h⟩ := bO_some h
  obtain ⟨M579, e579, h⟩ := bO_some h
  obtain ⟨M585, e585, h⟩ := bO_some h
  obtain ⟨M587, e587, h⟩ := bO_some h
  obtain ⟨M593, e593, h⟩ := bO_some h
  obtain ⟨M595, e595, h⟩ := bO_some h
  obtain ⟨M601, e601, h⟩ := bO_some h
  obtain ⟨M603, e603, h⟩ := bO_some h
  obtain ⟨M609, e609, h⟩ := bO_some h
  obtain ⟨M611, e611, h⟩ := bO_some h
  obtain ⟨M617, e617, h⟩ := bO_some h
  obtain ⟨M619, e619, h⟩ := bO_some h
  obtain ⟨M626, e626, h⟩ := bO_some h
  obtain ⟨M628, e628, h⟩ := bO_some h
  obtain ⟨M635, e635, h⟩ := bO_some h
  obtain ⟨M637, e637, h⟩ := bO_some h
  obtain ⟨M644, e644, h⟩ := bO_some h
  obtain ⟨M646, e646, h⟩ := bO_some h
  obtain ⟨M652, e652, h⟩ := bO_some h
  obtain ⟨M654, e654, h⟩ := bO_some h
  obtain ⟨M661, e661, h⟩ := bO_some h
  obtain ⟨M663, e663, h⟩ := bO_some h
  obtain ⟨M670, e670, h⟩ := bO_some h
  obtain ⟨M672, e672, h⟩ := bO_some h
  obtain ⟨M679, e679, h⟩ := bO_some h
  obtain ⟨M681, e681, h⟩ := bO_some h
  obtain ⟨M687, e687, h⟩ := bO_some h
  obtain ⟨M689, e689, h⟩ := bO_some h
  obtain ⟨M695, e695, h⟩ := bO_some h
  obtain ⟨M697, e697, h⟩ := bO_some h
  obtain ⟨M703, e703, h⟩ := bO_some h
  obtain ⟨M705, e705, h⟩ := bO_some h
  obtain ⟨M711, e711, h⟩ := bO_some h
  obtain ⟨M713, e713, h⟩ := bO_some h
  obtain ⟨M719, e719, h⟩ := bO_some h
  obtain ⟨M721, e721, h⟩ := bO_some h
  obtain ⟨M728, e728, h⟩ := bO_some h
  obtain ⟨M730, e730, h⟩ := bO_some h
  obtain ⟨M737, e737, h⟩ := bO_some h
  obtain ⟨M739, e739, h⟩ := bO_some h
  obtain ⟨M745, e745, h⟩ := bO_some h
  obtain ⟨M747, e747, h⟩ := bO_some h
  obtain ⟨M754, e754, h⟩ := bO_some h
  obtain ⟨M756, e756, h⟩ := bO_some h
  obtain ⟨M762, e762, h⟩ := bO_some h
  obtain ⟨M764, e764, h⟩ := bO_some h
  obtain ⟨M771, e771, h⟩ := bO_some h
  obtain ⟨M773, e773, h⟩ := bO_some h
  obtain ⟨M780, e780, h⟩ := bO_some h
  obtain ⟨M782, e782, h⟩ := bO_some h
  obtain ⟨M788, e788, h⟩ := bO_some h
  obtain ⟨M790, e790, h⟩ := bO_some h
  obtain ⟨M796, e796, h⟩ := bO_some h
  obtain ⟨M798, e798, h⟩ := bO_some h
  obtain ⟨M805, e805, h⟩ := bO_some h
  obtain ⟨M807, e807, h⟩ := bO_some h
  obtain ⟨M814, e814, h⟩ := bO_some h
  obtain ⟨M816, e816, h⟩ := bO_some h
  obtain ⟨_, f820, h⟩ := bO_some h
  obtain ⟨M820, e820, h⟩ := bO_some h
  obtain ⟨_, f824, h⟩ := bO_some h
  obtain ⟨M824, e824, h⟩ := bO_some h
  have q := retA_v h
  omega
set_option maxHeartbeats 4000000 in
set_option maxRecDepth 100000 in
theorem wP_X13_init {G : mG} {F : Nat} {x : mXT} {z0 s0 : Nat} {M0 : mM} {Z0 S0 : Nat} (X : mCX G RX13 cX13_init 1 none "<init>" { frames := 6, cells := Z0 - z0, slots := S0 - s0, locals := 128 } x) (hQ : mQV x M0 (Z0, Z0 - z0, S0 - s0)) {l0 : Nat} {M : mM} {sz : Nat} {sl : Nat} (hz0 : z0 ≤ sz) (hs0 : s0 ≤ sl) (h : P_X13_init G F l0 M sz sl = some (M0, Z0, S0)) : WW x (sz, sz - z0, sl - s0) M 0 [(0, .ref l0)] [] := by
  unfold P_X13_init at h
  obtain ⟨M8, e8, h⟩ := bO_some h
  obtain ⟨M10, e10, h⟩ := bO_some h
  obtain ⟨M16, e16, h⟩ := bO_some h
  obtain ⟨M18, e18, h⟩ := bO_some h
  obtain ⟨M24, e24, h⟩ := bO_some h
  obtain ⟨M26, e26, h⟩ := bO_some h
  obtain ⟨M33, e33, h⟩ := bO_some h
  obtain ⟨M35, e35, h⟩ := bO_some h
  obtain ⟨M42, e42, h⟩ := bO_some h
  obtain ⟨M44, e44, h⟩ := bO_some h
  obtain ⟨M51, e51, h⟩ := bO_some h
  obtain ⟨M53, e53, h⟩ := bO_some h
  obtain ⟨M60, e60, h⟩ := bO_some h
  obtain ⟨M62, e62, h⟩ := bO_some h
  obtain ⟨M69, e69, h⟩ := bO_some h
  obtain ⟨M71, e71, h⟩ := bO_some h
  obtain ⟨M78, e78, h⟩ := bO_some h
  obtain ⟨M80, e80, h⟩ := bO_some h
  obtain ⟨M87, e87, h⟩ := bO_some h
  obtain ⟨M89, e89, h⟩ := bO_some h
  obtain ⟨M96, e96, h⟩ := bO_some h
  obtain ⟨M98, e98, h⟩ := bO_some h
  obtain ⟨M105, e105, h⟩ := bO_some h
  obtain ⟨M107, e107, h⟩ := bO_some h
  obtain ⟨M114, e114, h⟩ := bO_some h
  obtain ⟨M116, e116, h⟩ := bO_some h
  obtain ⟨M123, e123, h⟩ := bO_some h
  obtain ⟨M125, e125, h⟩ := bO_some h
  obtain ⟨M130, e130, h⟩ := bO_some h
  obtain ⟨M132, e132, h⟩ := bO_some h
  obtain ⟨M139, e139, h⟩ := bO_some h
  obtain ⟨M141, e141, h⟩ := bO_some h
  obtain ⟨M148, e148, h⟩ := bO_some h
  obtain ⟨M150, e150, h⟩ := bO_some h
  obtain ⟨M156, e156, h⟩ := bO_some h
  obtain ⟨M158, e158, h⟩ := bO_some h
  obtain ⟨M164, e164, h⟩ := bO_some h
  obtain ⟨M166, e166, h⟩ := bO_some h
  obtain ⟨M172, e172, h⟩ := bO_some h
  obtain ⟨M174, e174, h⟩ := bO_some h
  obtain ⟨M180, e180, h⟩ := bO_some h
  obtain ⟨M182, e182, h⟩ := bO_some h
  obtain ⟨M188, e188, h⟩ := bO_some h
  obtain ⟨M190, e190, h⟩ := bO_some h
  obtain ⟨M196, e196, h⟩ := bO_some h
  obtain ⟨M198, e198, h⟩ := bO_some h
  obtain ⟨M205, e205, h⟩ := bO_some h
  obtain ⟨M207, e207, h⟩ := bO_some h
  obtain ⟨M214, e214, h⟩ := bO_some h
  obtain ⟨M216, e216, h⟩ := bO_some h
  obtain ⟨M223, e223, h⟩ := bO_some h
  obtain ⟨M225, e225, h⟩ := bO_some h
  obtain ⟨M232, e232, h⟩ := bO_some h
  obtain ⟨M234, e234, h⟩ := bO_some h
  obtain ⟨M241, e241, h⟩ := bO_some h
  obtain ⟨M243, e243, h⟩ := bO_some h
  obtain ⟨M249, e249, h⟩ := bO_some h
  obtain ⟨M251, e251, h⟩ := bO_some h
  obtain ⟨M257, e257, h⟩ := bO_some h
  obtain ⟨M259, e259, h⟩ := bO_some h
  obtain ⟨M265, e265, h⟩ := bO_some h
  obtain ⟨M267, e267, h⟩ := bO_some h
  obtain ⟨M273, e273, h⟩ := bO_some h
  obtain ⟨M275, e275, h⟩ := bO_some h
  obtain ⟨M282, e282, h⟩ := bO_some h
  obtain ⟨M284, e284, h⟩ := bO_some h
  obtain ⟨M290, e290, h⟩ := bO_some h
  obtain ⟨M292, e292, h⟩ := bO_some h
  obtain ⟨M298, e298, h⟩ := bO_some h
  obtain ⟨M300, e300, h⟩ := bO_some h
  obtain ⟨M304, ⟨⟩, h⟩ := bO_some h
  obtain ⟨M308, z308, k308, e308, h⟩ := bA_some h
  have g308 := mP_X12_init e308
  obtain ⟨M311, e311, h⟩ := bO_some h
  obtain ⟨M315, ⟨⟩, h⟩ := bO_some h
  obtain ⟨M319, z319, k319, e319, h⟩ := bA_some h
  have g319 := mP_X12_init e319
  obtain ⟨M322, e322, h⟩ := bO_some h
  obtain ⟨M326, ⟨⟩, h⟩ := bO_some h
  obtain ⟨M330, z330, k330, e330, h⟩ := bA_some h
  have g330 := mP_X12_init e330
  obtain ⟨M333, e333, h⟩ := bO_some h
  obtain ⟨M339, e339, h⟩ := bO_some h
  obtain ⟨M341, e341, h⟩ := bO_some h
  obtain ⟨M347, e347, h⟩ := bO_some h
  obtain ⟨M349, e349, h⟩ := bO_some h
  obtain ⟨M356, e356, h⟩ := bO_some h
  obtain ⟨M358, e358, h⟩ := bO_some h
  obtain ⟨M364, e364, h⟩ := bO_some h
  obtain ⟨M366, e366, h⟩ := bO_some h
  obtain ⟨M372, e372, h⟩ := bO_some h
  obtain ⟨M374, e374, h⟩ := bO_some h
  obtain ⟨M380, e380, h⟩ := bO_some h
  obtain ⟨M382, e382, h⟩ := bO_some h
  obtain ⟨M388, e388, h⟩ := bO_some h
  obtain ⟨M390, e390, h⟩ := bO_some h
  obtain ⟨M396, e396, h⟩ := bO_some h
  obtain ⟨M398, e398, h⟩ := bO_some h
  obtain ⟨M404, e404, h⟩ := bO_some h
  obtain ⟨M406, e406, h⟩ := bO_some h
  obtain ⟨M412, e412, h⟩ := bO_some h
  obtain ⟨M414, e414, h⟩ := bO_some h
  obtain ⟨M420, e420, h⟩ := bO_some h
  obtain ⟨M422, e422, h⟩ := bO_some h
  obtain ⟨M428, e428, h⟩ := bO_some h
  obtain ⟨M430, e430, h⟩ := bO_some h
  obtain ⟨M436, e436, h⟩ := bO_some h
  obtain ⟨M438, e438, h⟩ := bO_some h
  obtain ⟨M444, e444, h⟩ := bO_some h
  obtain ⟨M446, e446, h⟩ := bO_some h
  obtain ⟨M452, e452, h⟩ := bO_some h
  obtain ⟨M454, e454, h⟩ := bO_some h
  obtain ⟨M460, e460, h⟩ := bO_some h
  obtain ⟨M462, e462, h⟩ := bO_some h
  obtain ⟨M468, e468, h⟩ := bO_some h
  obtain ⟨M470, e470, h⟩ := bO_some h
  obtain ⟨M476, e476, h⟩ := bO_some h
  obtain ⟨M478, e478, h⟩ := bO_some h
  obtain ⟨M484, e484, h⟩ := bO_some h
  obtain ⟨M486, e486, h⟩ := bO_some h
  obtain ⟨M492, e492, h⟩ := bO_some h
  obtain ⟨M494, e494, h⟩ := bO_some h
  obtain ⟨M501, e501, h⟩ := bO_some h
  obtain ⟨M503, e503, h⟩ := bO_some h
  obtain ⟨M510, e510, h⟩ := bO_some h
  obtain ⟨M512, e512, h⟩ := bO_some h
  obtain ⟨M518, e518, h⟩ := bO_some h
  obtain ⟨M520, e520, h⟩ := bO_some h
  obtain ⟨M526, e526, h⟩ := bO_some h
  obtain ⟨M528, e528, h⟩ := bO_some h
  obtain ⟨M535, e535, h⟩ := bO_some h
  obtain ⟨M537, e537, h⟩ := bO_some h
  obtain ⟨M543, e543, h⟩ := bO_some h
  obtain ⟨M545, e545, h⟩ := bO_some h
  obtain ⟨M552, e552, h⟩ := bO_some h
  obtain ⟨M554, e554, h⟩ := bO_some h
  obtain ⟨M560, e560, h⟩ := bO_some h
  obtain ⟨M562, e562, h⟩ := bO_some h
  obtain ⟨M569, e569, h⟩ := bO_some h
  obtain ⟨M571, e571, h⟩ := bO_some h
  obtain ⟨M577, e577, h⟩ := bO_some h
  obtain ⟨M579, e579, h⟩ := bO_some h
  obtain ⟨M585, e585, h⟩ := bO_some h
  obtain ⟨M587, e587, h⟩ := bO_some h
  obtain ⟨M593, e593, h⟩ := bO_some h
  obtain ⟨M595, e595, h⟩ := bO_some h
  obtain ⟨M601, e601, h⟩ := bO_some h
  obtain ⟨M603, e603, h⟩ := bO_some h
  obtain ⟨M609, e609, h⟩ := bO_some h
  obtain ⟨M611, e611, h⟩ := bO_some h
  obtain ⟨M617, e617, h⟩ := bO_some h
  obtain ⟨M619, e619, h⟩ := bO_some h
  obtain ⟨M626, e626, h⟩ := bO_some h
  obtain ⟨M628, e628, h⟩ := bO_some h
  obtain ⟨M635, e635, h⟩ := bO_some h
  obtain ⟨M637, e637, h⟩ := bO_some h
  obtain ⟨M644, e644, h⟩ := bO_some h
  obtain ⟨M646, e646, h⟩ := bO_some h
  obtain ⟨M652, e652, h⟩ := bO_some h
  obtain ⟨M654, e654, h⟩ := bO_some h
  obtain ⟨M661, e661, h⟩ := bO_some h
  obtain ⟨M663, e663, h⟩ := bO_some h
  obtain ⟨M670, e670, h⟩ := bO_some h
  obtain ⟨M672, e672, h⟩ := bO_some h
  obtain ⟨M679, e679, h⟩ := bO_some h
  obtain ⟨M681, e681, h⟩ := bO_some h
  obtain ⟨M687, e687, h⟩ := bO_some h
  obtain ⟨M689, e689, h⟩ := bO_some h
  obtain ⟨M695, e695, h⟩ := bO_some h
  obtain ⟨M697, e697, h⟩ := bO_some h
  obtain ⟨M703, e703, h⟩ := bO_some h
  obtain ⟨M705, e705, h⟩ := bO_some h
  obtain ⟨M711, e711, h⟩ := bO_some h
  obtain ⟨M713, e713, h⟩ := bO_some h
  obtain ⟨M719, e719, h⟩ := bO_some h
  obtain ⟨M721, e721, h⟩ := bO_some h
  obtain ⟨M728, e728, h⟩ := bO_some h
  obtain ⟨M730, e730, h⟩ := bO_some h
  obtain ⟨M737, e737, h⟩ := bO_some h
  obtain ⟨M739, e739, h⟩ := bO_some h
  obtain ⟨M745, e745, h⟩ := bO_some h
  obtain ⟨M747, e747, h⟩ := bO_some h
  obtain ⟨M754, e754, h⟩ := bO_some h
  obtain ⟨M756, e756, h⟩ := bO_some h
  obtain ⟨M762, e762, h⟩ := bO_some h
  obtain ⟨M764, e764, h⟩ := bO_some h
  obtain ⟨M771, e771, h⟩ := bO_some h
  obtain ⟨M773, e773, h⟩ := bO_some h
  obtain ⟨M780, e780, h⟩ := bO_some h
  obtain ⟨M782, e782, h⟩ := bO_some h
  obtain ⟨M788, e788, h⟩ := bO_some h
  obtain ⟨M790, e790, h⟩ := bO_some h
  obtain ⟨M796, e796, h⟩ := bO_some h
  obtain ⟨M798, e798, h⟩ := bO_some h
  obtain ⟨M805, e805, h⟩ := bO_some h
  obtain ⟨M807, e807, h⟩ := bO_some h
  obtain ⟨M814, e814, h⟩ := bO_some h
  obtain ⟨M816, e816, h⟩ := bO_some h
  obtain ⟨_, f820, h⟩ := bO_some h
  obtain ⟨M820, e820, h⟩ := bO_some h
  obtain ⟨_, f824, h⟩ := bO_some h
  obtain ⟨M824, e824, h⟩ := bO_some h
  have q := retA_v h
  refine ww_aload_n 0 X dX13_init_0 0 rfl rfl ?_
  refine ww_objI 1 X (st := []) dX13_init_1 oL_X13_1 oI_i oI_c (Nat.le_of_ble_eq_true rfl) (Nat.le_of_ble_eq_true rfl) (Nat.le_of_ble_eq_true rfl) ?_
  refine ww_aload_n 4 X dX13_init_4 0 rfl rfl ?_
  refine ww_sipush 5 X (v := (8192 : Int32)) dX13_init_5 (by decide) ?_
  refine ww_newA 8 X (sz := sz) (sl := sl) (z0 := z0) (s0 := s0) dX13_init_8 (k := 1) (by decide) rfl aC_1 e8 (by omega) (by omega) (by show _ ≤ Z0 - z0; omega) (by show _ ≤ S0 - s0; omega) ?_
  refine ww_putR 10 X dX13_init_10 (fP_X13_7 _ (Or.inr rfl)) e10 rfl rfl ?_
  refine ww_aload_n 13 X dX13_init_13 0 rfl rfl ?_
  refine ww_ldc 14 X (v := (65536 : Int32)) dX13_init_14 kI_X13_13 ?_
  refine ww_newA 16 X (sz := (sz + 1)) (sl := (sl + ((8192 : Int32)).toNatClampNeg)) (z0 := z0) (s0 := s0) dX13_init_16 (k := 1) (by decide) rfl aC_1 e16 (by omega) (by omega) (by show _ ≤ Z0 - z0; omega) (by show _ ≤ S0 - s0; omega) ?_
  refine ww_putR 18 X dX13_init_18 (fP_X13_14 _ (Or.inr rfl)) e18 rfl rfl ?_
  refine ww_aload_n 21 X dX13_init_21 0 rfl rfl ?_
  refine ww_bipush 22 X (v := (8 : Int32)) dX13_init_22 (by decide) ?_
  refine ww_newA 24 X (sz := ((sz + 1) + 1)) (sl := ((sl + ((8192 : Int32)).toNatClampNeg) + ((65536 : Int32)).toNatClampNeg)) (z0 := z0) (s0 := s0) dX13_init_24 (k := 0) (by decide) rfl aC_0 e24 (by omega) (by omega) (by show _ ≤ Z0 - z0; omega) (by show _ ≤ S0 - s0; omega) ?_
  refine ww_putR 26 X dX13_init_26 (fP_X13_17 _ (Or.inr rfl)) e26 rfl rfl ?_
  refine ww_aload_n 29 X dX13_init_29 0 rfl rfl ?_
  refine ww_sipush 30 X (v := (8192 : Int32)) dX13_init_30 (by decide) ?_
  refine ww_newA 33 X (sz := (((sz + 1) + 1) + 1)) (sl := (((sl + ((8192 : Int32)).toNatClampNeg) + ((65536 : Int32)).toNatClampNeg) + ((8 : Int32)).toNatClampNeg)) (z0 := z0) (s0 := s0) dX13_init_33 (k := 1) (by decide) rfl aC_1 e33 (by omega) (by omega) (by show _ ≤ Z0 - z0; omega) (by show _ ≤ S0 - s0; omega) ?_
  refine ww_putR 35 X dX13_init_35 (fP_X13_21 _ (Or.inr rfl)) e35 rfl rfl ?_
  refine ww_aload_n 38 X dX13_init_38 0 rfl rfl ?_
  refine ww_sipush 39 X (v := (1200 : Int32)) dX13_init_39 (by decide) ?_
  refine ww_newA 42 X (sz := ((((sz + 1) + 1) + 1) + 1)) (sl := ((((sl + ((8192 : Int32)).toNatClampNeg) + ((65536 : Int32)).toNatClampNeg) + ((8 : Int32)).toNatClampNeg) + ((8192 : Int32)).toNatClampNeg)) (z0 := z0) (s0 := s0) dX13_init_42 (k := 0) (by decide) rfl aC_0 e42 (by omega) (by omega) (by show _ ≤ Z0 - z0; omega) (by show _ ≤ S0 - s0; omega) ?_
  refine ww_putR 44 X dX13_init_44 (fP_X13_24 _ (Or.inr rfl)) e44 rfl rfl ?_
  refine ww_aload_n 47 X dX13_init_47 0 rfl rfl ?_
  refine ww_sipush 48 X (v := (1200 : Int32)) dX13_init_48 (by decide) ?_
  refine ww_newA 51 X (sz := (((((sz + 1) + 1) + 1) + 1) + 1)) (sl := (((((sl + ((8192 : Int32)).toNatClampNeg) + ((65536 : Int32)).toNatClampNeg) + ((8 : Int32)).toNatClampNeg) + ((8192 : Int32)).toNatClampNeg) + ((1200 : Int32)).toNatClampNeg)) (z0 := z0) (s0 := s0) dX13_init_51 (k := 0) (by decide) rfl aC_0 e51 (by omega) (by omega) (by show _ ≤ Z0 - z0; omega) (by show _ ≤ S0 - s0; omega) ?_
  refine ww_putR 53 X dX13_init_53 (fP_X13_27 _ (Or.inr rfl)) e53 rfl rfl ?_
  refine ww_aload_n 56 X dX13_init_56 0 rfl rfl ?_
  refine ww_sipush 57 X (v := (1200 : Int32)) dX13_init_57 (by decide) ?_
  refine ww_newA 60 X (sz := ((((((sz + 1) + 1) + 1) + 1) + 1) + 1)) (sl := ((((((sl + ((8192 : Int32)).toNatClampNeg) + ((65536 : Int32)).toNatClampNeg) + ((8 : Int32)).toNatClampNeg) + ((8192 : Int32)).toNatClampNeg) + ((1200 : Int32)).toNatClampNeg) + ((1200 : Int32)).toNatClampNeg)) (z0 := z0) (s0 := s0) dX13_init_60 (k := 0) (by decide) rfl aC_0 e60 (by omega) (by omega) (by show _ ≤ Z0 - z0; omega) (by show _ ≤ S0 - s0; omega) ?_
  refine ww_putR 62 X dX13_init_62 (fP_X13_30 _ (Or.inr rfl)) e62 rfl rfl ?_
  refine ww_aload_n 65 X dX13_init_65 0 rfl rfl ?_
  refine ww_sipush 66 X (v := (1200 : Int32)) dX13_init_66 (by decide) ?_
  refine ww_newA 69 X (sz := (((((((sz + 1) + 1) + 1) + 1) + 1) + 1) + 1)) (sl := (((((((sl + ((8192 : Int32)).toNatClampNeg) + ((65536 : Int32)).toNatClampNeg) + ((8 : Int32)).toNatClampNeg) + ((8192 : Int32)).toNatClampNeg) + ((1200 : Int32)).toNatClampNeg) + ((1200 : Int32)).toNatClampNeg) + ((1200 : Int32)).toNatClampNeg)) (z0 := z0) (s0 := s0) dX13_init_69 (k := 0) (by decide) rfl aC_0 e69 (by omega) (by omega) (by show _ ≤ Z0 - z0; omega) (by show _ ≤ S0 - s0; omega) ?_
  refine ww_putR 71 X dX13_init_71 (fP_X13_33 _ (Or.inr rfl)) e71 rfl rfl ?_
  refine ww_aload_n 74 X dX13_init_74 0 rfl rfl ?_
  refine ww_sipush 75 X (v := (1200 : Int32)) dX13_init_75 (by decide) ?_
  refine ww_newA 78 X (sz := ((((((((sz + 1) + 1) + 1) + 1) + 1) + 1) + 1) + 1)) (sl := ((((((((sl + ((8192 : Int32)).toNatClampNeg) + ((65536 : Int32)).toNatClampNeg) + ((8 : Int32)).toNatClampNeg) + ((8192 : Int32)).toNatClampNeg) + ((1200 : Int32)).toNatClampNeg) + ((1200 : Int32)).toNatClampNeg) + ((1200 : Int32)).toNatClampNeg) + ((1200 : Int32)).toNatClampNeg)) (z0 := z0) (s0 := s0) dX13_init_78 (k := 0) (by decide) rfl aC_0 e78 (by omega) (by omega) (by show _ ≤ Z0 - z0; omega) (by show _ ≤ S0 - s0; omega) ?_
  refine ww_putR 80 X dX13_init_80 (fP_X13_36 _ (Or.inr rfl)) e80 rfl rfl ?_
  refine ww_aload_n 83 X dX13_init_83 0 rfl rfl ?_
  refine ww_sipush 84 X (v := (1200 : Int32)) dX13_init_84 (by decide) ?_
  refine ww_newA 87 X (sz := (((((((((sz + 1) + 1) + 1) + 1) + 1) + 1) + 1) + 1) + 1)) (sl := (((((((((sl + ((8192 : Int32)).toNatClampNeg) + ((65536 : Int32)).toNatClampNeg) + ((8 : Int32)).toNatClampNeg) + ((8192 : Int32)).toNatClampNeg) + ((1200 : Int32)).toNatClampNeg) + ((1200 : Int32)).toNatClampNeg) + ((1200 : Int32)).toNatClampNeg) + ((1200 : Int32)).toNatClampNeg) + ((1200 : Int32)).toNatClampNeg)) (z0 := z0) (s0 := s0) dX13_init_87 (k := 0) (by decide) rfl aC_0 e87 (by omega) (by omega) (by show _ ≤ Z0 - z0; omega) (by show _ ≤ S0 - s0; omega) ?_
  refine ww_putR 89 X dX13_init_89 (fP_X13_39 _ (Or.inr rfl)) e89 rfl rfl ?_
  refine ww_aload_n 92 X dX13_init_92 0 rfl rfl ?_
  refine ww_sipush 93 X (v := (1200 : Int32)) dX13_init_93 (by decide) ?_
  refine ww_newA 96 X (sz := ((((((((((sz + 1) + 1) + 1) + 1) + 1) + 1) + 1) + 1) + 1) + 1)) (sl := ((((((((((sl + ((8192 : Int32)).toNatClampNeg) + ((65536 : Int32)).toNatClampNeg) + ((8 : Int32)).toNatClampNeg) + ((8192 : Int32)).toNatClampNeg) + ((1200 : Int32)).toNatClampNeg) + ((1200 : Int32)).toNatClampNeg) + ((1200 : Int32)).toNatClampNeg) + ((1200 : Int32)).toNatClampNeg) + ((1200 : Int32)).toNatClampNeg) + ((1200 : Int32)).toNatClampNeg)) (z0 := z0) (s0 := s0) dX13_init_96 (k := 0) (by decide) rfl aC_0 e96 (by omega) (by omega) (by show _ ≤ Z0 - z0; omega) (by show _ ≤ S0 - s0; omega) ?_
  refine ww_putR 98 X dX13_init_98 (fP_X13_42 _ (Or.inr rfl)) e98 rfl rfl ?_
  refine ww_aload_n 101 X dX13_init_101 0 rfl rfl ?_
  refine ww_sipush 102 X (v := (1200 : Int32)) dX13_init_102 (by decide) ?_
  refine ww_newA 105 X (sz := (((((((((((sz + 1) + 1) + 1) + 1) + 1) + 1) + 1) + 1) + 1) + 1) + 1)) (sl := (((((((((((sl + ((8192 : Int32)).toNatClampNeg) + ((65536 : Int32)).toNatClampNeg) + ((8 : Int32)).toNatClampNeg) + ((8192 : Int32)).toNatClampNeg) + ((1200 : Int32)).toNatClampNeg) + ((1200 : Int32)).toNatClampNeg) + ((1200 : Int32)).toNatClampNeg) + ((1200 : Int32)).toNatClampNeg) + ((1200 : Int32)).toNatClampNeg) + ((1200 : Int32)).toNatClampNeg) + ((1200 : Int32)).toNatClampNeg)) (z0 := z0) (s0 := s0) dX13_init_105 (k := 0) (by decide) rfl aC_0 e105 (by omega) (by omega) (by show _ ≤ Z0 - z0; omega) (by show _ ≤ S0 - s0; omega) ?_
  refine ww_putR 107 X dX13_init_107 (fP_X13_45 _ (Or.inr rfl)) e107 rfl rfl ?_
  refine ww_aload_n 110 X dX13_init_110 0 rfl rfl ?_
  refine ww_sipush 111 X (v := (1200 : Int32)) dX13_init_111 (by decide) ?_
  refine ww_newA 114 X (sz := ((((((((((((sz + 1) + 1) + 1) + 1) + 1) + 1) + 1) + 1) + 1) + 1) + 1) + 1)) (sl := ((((((((((((sl + ((8192 : Int32)).toNatClampNeg) + ((65536 : Int32)).toNatClampNeg) + ((8 : Int32)).toNatClampNeg) + ((8192 : Int32)).toNatClampNeg) + ((1200 : Int32)).toNatClampNeg) + ((1200 : Int32)).toNatClampNeg) + ((1200 : Int32)).toNatClampNeg) + ((1200 : Int32)).toNatClampNeg) + ((1200 : Int32)).toNatClampNeg) + ((1200 : Int32)).toNatClampNeg) + ((1200 : Int32)).toNatClampNeg) + ((1200 : Int32)).toNatClampNeg)) (z0 := z0) (s0 := s0) dX13_init_114 (k := 0) (by decide) rfl aC_0 e114 (by omega) (by omega) (by show _ ≤ Z0 - z0; omega) (by show _ ≤ S0 - s0; omega) ?_
  refine ww_putR 116 X dX13_init_116 (fP_X13_48 _ (Or.inr rfl)) e116 rfl rfl ?_
  refine ww_aload_n 119 X dX13_init_119 0 rfl rfl ?_
  refine ww_sipush 120 X (v := (16400 : Int32)) dX13_init_120 (by decide) ?_
  refine ww_newA 123 X (sz := (((((((((((((sz + 1) + 1) + 1) + 1) + 1) + 1) + 1) + 1) + 1) + 1) + 1) + 1) + 1)) (sl := (((((((((((((sl + ((8192 : Int32)).toNatClampNeg) + ((65536 : Int32)).toNatClampNeg) + ((8 : Int32)).toNatClampNeg) + ((8192 : Int32)).toNatClampNeg) + ((1200 : Int32)).toNatClampNeg) + ((1200 : Int32)).toNatClampNeg) + ((1200 : Int32)).toNatClampNeg) + ((1200 : Int32)).toNatClampNeg) + ((1200 : Int32)).toNatClampNeg) + ((1200 : Int32)).toNatClampNeg) + ((1200 : Int32)).toNatClampNeg) + ((1200 : Int32)).toNatClampNeg) + ((1200 : Int32)).toNatClampNeg)) (z0 := z0) (s0 := s0) dX13_init_123 (k := 1) (by decide) rfl aC_1 e123 (by omega) (by omega) (by show _ ≤ Z0 - z0; omega) (by show _ ≤ S0 - s0; omega) ?_
  refine ww_putR 125 X dX13_init_125 (fP_X13_51 _ (Or.inr rfl)) e125 rfl rfl ?_
  refine ww_aload_n 128 X dX13_init_128 0 rfl rfl ?_
  refine ww_iconst 129 X (v := (2 : Int32)) dX13_init_129 (by decide) ?_
  refine ww_newA 130 X (sz := ((((((((((((((sz + 1) + 1) + 1) + 1) + 1) + 1) + 1) + 1) + 1) + 1) + 1) + 1) + 1) + 1)) (sl := ((((((((((((((sl + ((8192 : Int32)).toNatClampNeg) + ((65536 : Int32)).toNatClampNeg) + ((8 : Int32)).toNatClampNeg) + ((8192 : Int32)).toNatClampNeg) + ((1200 : Int32)).toNatClampNeg) + ((1200 : Int32)).toNatClampNeg) + ((1200 : Int32)).toNatClampNeg) + ((1200 : Int32)).toNatClampNeg) + ((1200 : Int32)).toNatClampNeg) + ((1200 : Int32)).toNatClampNeg) + ((1200 : Int32)).toNatClampNeg) + ((1200 : Int32)).toNatClampNeg) + ((1200 : Int32)).toNatClampNeg) + ((16400 : Int32)).toNatClampNeg)) (z0 := z0) (s0 := s0) dX13_init_130 (k := 0) (by decide) rfl aC_0 e130 (by omega) (by omega) (by show _ ≤ Z0 - z0; omega) (by show _ ≤ S0 - s0; omega) ?_
  refine ww_putR 132 X dX13_init_132 (fP_X13_54 _ (Or.inr rfl)) e132 rfl rfl ?_
  refine ww_aload_n 135 X dX13_init_135 0 rfl rfl ?_
  refine ww_sipush 136 X (v := (8300 : Int32)) dX13_init_136 (by decide) ?_
  refine ww_newA 139 X (sz := (((((((((((((((sz + 1) + 1) + 1) + 1) + 1) + 1) + 1) + 1) + 1) + 1) + 1) + 1) + 1) + 1) + 1)) (sl := (((((((((((((((sl + ((8192 : Int32)).toNatClampNeg) + ((65536 : Int32)).toNatClampNeg) + ((8 : Int32)).toNatClampNeg) + ((8192 : Int32)).toNatClampNeg) + ((1200 : Int32)).toNatClampNeg) + ((1200 : Int32)).toNatClampNeg) + ((1200 : Int32)).toNatClampNeg) + ((1200 : Int32)).toNatClampNeg) + ((1200 : Int32)).toNatClampNeg) + ((1200 : Int32)).toNatClampNeg) + ((1200 : Int32)).toNatClampNeg) + ((1200 : Int32)).toNatClampNeg) + ((1200 : Int32)).toNatClampNeg) + ((16400 : Int32)).toNatClampNeg) + ((2 : Int32)).toNatClampNeg)) (z0 := z0) (s0 := s0) dX13_init_139 (k := 1) (by decide) rfl aC_1 e139 (by omega) (by omega) (by show _ ≤ Z0 - z0; omega) (by show _ ≤ S0 - s0; omega) ?_
  refine ww_putR 141 X dX13_init_141 (fP_X13_57 _ (Or.inr rfl)) e141 rfl rfl ?_
  refine ww_aload_n 144 X dX13_init_144 0 rfl rfl ?_
  refine ww_sipush 145 X (v := (8200 : Int32)) dX13_init_145 (by decide) ?_
  refine ww_newA 148 X (sz := ((((((((((((((((sz + 1) + 1) + 1) + 1) + 1) + 1) + 1) + 1) + 1) + 1) + 1) + 1) + 1) + 1) + 1) + 1)) (sl := ((((((((((((((((sl + ((8192 : Int32)).toNatClampNeg) + ((65536 : Int32)).toNatClampNeg) + ((8 : Int32)).toNatClampNeg) + ((8192 : Int32)).toNatClampNeg) + ((1200 : Int32)).toNatClampNeg) + ((1200 : Int32)).toNatClampNeg) + ((1200 : Int32)).toNatClampNeg) + ((1200 : Int32)).toNatClampNeg) + ((1200 : Int32)).toNatClampNeg) + ((1200 : Int32)).toNatClampNeg) + ((1200 : Int32)).toNatClampNeg) + ((1200 : Int32)).toNatClampNeg) + ((1200 : Int32)).toNatClampNeg) + ((16400 : Int32)).toNatClampNeg) + ((2 : Int32)).toNatClampNeg) + ((8300 : Int32)).toNatClampNeg)) (z0 := z0) (s0 := s0) dX13_init_148 (k := 1) (by decide) rfl aC_1 e148 (by omega) (by omega) (by show _ ≤ Z0 - z0; omega) (by show _ ≤ S0 - s0; omega) ?_
  refine ww_putR 150 X dX13_init_150 (fP_X13_60 _ (Or.inr rfl)) e150 rfl rfl ?_
  refine ww_aload_n 153 X dX13_init_153 0 rfl rfl ?_
  refine ww_bipush 154 X (v := (64 : Int32)) dX13_init_154 (by decide) ?_
  refine ww_newA 156 X (sz := (((((((((((((((((sz + 1) + 1) + 1) + 1) + 1) + 1) + 1) + 1) + 1) + 1) + 1) + 1) + 1) + 1) + 1) + 1) + 1)) (sl := (((((((((((((((((sl + ((8192 : Int32)).toNatClampNeg) + ((65536 : Int32)).toNatClampNeg) + ((8 : Int32)).toNatClampNeg) + ((8192 : Int32)).toNatClampNeg) + ((1200 : Int32)).toNatClampNeg) + ((1200 : Int32)).toNatClampNeg) + ((1200 : Int32)).toNatClampNeg) + ((1200 : Int32)).toNatClampNeg) + ((1200 : Int32)).toNatClampNeg) + ((1200 : Int32)).toNatClampNeg) + ((1200 : Int32)).toNatClampNeg) + ((1200 : Int32)).toNatClampNeg) + ((1200 : Int32)).toNatClampNeg) + ((16400 : Int32)).toNatClampNeg) + ((2 : Int32)).toNatClampNeg) + ((8300 : Int32)).toNatClampNeg) + ((8200 : Int32)).toNatClampNeg)) (z0 := z0) (s0 := s0) dX13_init_156 (k := 0) (by decide) rfl aC_0 e156 (by omega) (by omega) (by show _ ≤ Z0 - z0; omega) (by show _ ≤ S0 - s0; omega) ?_
  refine ww_putR 158 X dX13_init_158 (fP_X13_63 _ (Or.inr rfl)) e158 rfl rfl ?_
  refine ww_aload_n 161 X dX13_init_161 0 rfl rfl ?_
  refine ww_bipush 162 X (v := (8 : Int32)) dX13_init_162 (by decide) ?_
  refine ww_newA 164 X (sz := ((((((((((((((((((sz + 1) + 1) + 1) + 1) + 1) + 1) + 1) + 1) + 1) + 1) + 1) + 1) + 1) + 1) + 1) + 1) + 1) + 1)) (sl := ((((((((((((((((((sl + ((8192 : Int32)).toNatClampNeg) + ((65536 : Int32)).toNatClampNeg) + ((8 : Int32)).toNatClampNeg) + ((8192 : Int32)).toNatClampNeg) + ((1200 : Int32)).toNatClampNeg) + ((1200 : Int32)).toNatClampNeg) + ((1200 : Int32)).toNatClampNeg) + ((1200 : Int32)).toNatClampNeg) + ((1200 : Int32)).toNatClampNeg) + ((1200 : Int32)).toNatClampNeg) + ((1200 : Int32)).toNatClampNeg) + ((1200 : Int32)).toNatClampNeg) + ((1200 : Int32)).toNatClampNeg) + ((16400 : Int32)).toNatClampNeg) + ((2 : Int32)).toNatClampNeg) + ((8300 : Int32)).toNatClampNeg) + ((8200 : Int32)).toNatClampNeg) + ((64 : Int32)).toNatClampNeg)) (z0 := z0) (s0 := s0) dX13_init_164 (k := 0) (by decide) rfl aC_0 e164 (by omega) (by omega) (by show _ ≤ Z0 - z0; omega) (by show _ ≤ S0 - s0; omega) ?_
  refine ww_putR 166 X dX13_init_166 (fP_X13_66 _ (Or.inr rfl)) e166 rfl rfl ?_
  refine ww_aload_n 169 X dX13_init_169 0 rfl rfl ?_
  refine ww_bipush 170 X (v := (80 : Int32)) dX13_init_170 (by decide) ?_
  refine ww_newA 172 X (sz := (((((((((((((((((((sz + 1) + 1) + 1) + 1) + 1) + 1) + 1) + 1) + 1) + 1) + 1) + 1) + 1) + 1) + 1) + 1) + 1) + 1) + 1)) (sl := (((((((((((((((((((sl + ((8192 : Int32)).toNatClampNeg) + ((65536 : Int32)).toNatClampNeg) + ((8 : Int32)).toNatClampNeg) + ((8192 : Int32)).toNatClampNeg) + ((1200 : Int32)).toNatClampNeg) + ((1200 : Int32)).toNatClampNeg) + ((1200 : Int32)).toNatClampNeg) + ((1200 : Int32)).toNatClampNeg) + ((1200 : Int32)).toNatClampNeg) + ((1200 : Int32)).toNatClampNeg) + ((1200 : Int32)).toNatClampNeg) + ((1200 : Int32)).toNatClampNeg) + ((1200 : Int32)).toNatClampNeg) + ((16400 : Int32)).toNatClampNeg) + ((2 : Int32)).toNatClampNeg) + ((8300 : Int32)).toNatClampNeg) + ((8200 : Int32)).toNatClampNeg) + ((64 : Int32)).toNatClampNeg) + ((8 : Int32)).toNatClampNeg)) (z0 := z0) (s0 := s0) dX13_init_172 (k := 2) (by decide) rfl aC_2 e172 (by omega) (by omega) (by show _ ≤ Z0 - z0; omega) (by show _ ≤ S0 - s0; omega) ?_
  refine ww_putR 174 X dX13_init_174 (fP_X13_69 _ (Or.inr rfl)) e174 rfl rfl ?_
  refine ww_aload_n 177 X dX13_init_177 0 rfl rfl ?_
  refine ww_bipush 178 X (v := (8 : Int32)) dX13_init_178 (by decide) ?_
  refine ww_newA 180 X (sz := ((((((((((((((((((((sz + 1) + 1) + 1) + 1) + 1) + 1) + 1) + 1) + 1) + 1) + 1) + 1) + 1) + 1) + 1) + 1) + 1) + 1) + 1) + 1)) (sl := ((((((((((((((((((((sl + ((8192 : Int32)).toNatClampNeg) + ((65536 : Int32)).toNatClampNeg) + ((8 : Int32)).toNatClampNeg) + ((8192 : Int32)).toNatClampNeg) + ((1200 : Int32)).toNatClampNeg) + ((1200 : Int32)).toNatClampNeg) + ((1200 : Int32)).toNatClampNeg) + ((1200 : Int32)).toNatClampNeg) + ((1200 : Int32)).toNatClampNeg) + ((1200 : Int32)).toNatClampNeg) + ((1200 : Int32)).toNatClampNeg) + ((1200 : Int32)).toNatClampNeg) + ((1200 : Int32)).toNatClampNeg) + ((16400 : Int32)).toNatClampNeg) + ((2 : Int32)).toNatClampNeg) + ((8300 : Int32)).toNatClampNeg) + ((8200 : Int32)).toNatClampNeg) + ((64 : Int32)).toNatClampNeg) + ((8 : Int32)).toNatClampNeg) + ((80 : Int32)).toNatClampNeg)) (z0 := z0) (s0 := s0) dX13_init_180 (k := 2) (by decide) rfl aC_2 e180 (by omega) (by omega) (by show _ ≤ Z0 - z0; omega) (by show _ ≤ S0 - s0; omega) ?_
  refine ww_putR 182 X dX13_init_182 (fP_X13_73 _ (Or.inr rfl)) e182 rfl rfl ?_
  refine ww_aload_n 185 X dX13_init_185 0 rfl rfl ?_
  refine ww_bipush 186 X (v := (64 : Int32)) dX13_init_186 (by decide) ?_
  refine ww_newA 188 X (sz := (((((((((((((((((((((sz + 1) + 1) + 1) + 1) + 1) + 1) + 1) + 1) + 1) + 1) + 1) + 1) + 1) + 1) + 1) + 1) + 1) + 1) + 1) + 1) + 1)) (sl := (((((((((((((((((((((sl + ((8192 : Int32)).toNatClampNeg) + ((65536 : Int32)).toNatClampNeg) + ((8 : Int32)).toNatClampNeg) + ((8192 : Int32)).toNatClampNeg) + ((1200 : Int32)).toNatClampNeg) + ((1200 : Int32)).toNatClampNeg) + ((1200 : Int32)).toNatClampNeg) + ((1200 : Int32)).toNatClampNeg) + ((1200 : Int32)).toNatClampNeg) + ((1200 : Int32)).toNatClampNeg) + ((1200 : Int32)).toNatClampNeg) + ((1200 : Int32)).toNatClampNeg) + ((1200 : Int32)).toNatClampNeg) + ((16400 : Int32)).toNatClampNeg) + ((2 : Int32)).toNatClampNeg) + ((8300 : Int32)).toNatClampNeg) + ((8200 : Int32)).toNatClampNeg) + ((64 : Int32)).toNatClampNeg) + ((8 : Int32)).toNatClampNeg) + ((80 : Int32)).toNatClampNeg) + ((8 : Int32)).toNatClampNeg)) (z0 := z0) (s0 := s0) dX13_init_188 (k := 1) (by decide) rfl aC_1 e188 (by omega) (by omega) (by show _ ≤ Z0 - z0; omega) (by show _ ≤ S0 - s0; omega) ?_
  refine ww_putR 190 X dX13_init_190 (fP_X13_76 _ (Or.inr rfl)) e190 rfl rfl ?_
  refine ww_aload_n 193 X dX13_init_193 0 rfl rfl ?_
  refine ww_ldc 194 X (v := (33100 : Int32)) dX13_init_194 kI_X13_79 ?_
  refine ww_newA 196 X (sz := ((((((((((((((((((((((sz + 1) + 1) + 1) + 1) + 1) + 1) + 1) + 1) + 1) + 1) + 1) + 1) + 1) + 1) + 1) + 1) + 1) + 1) + 1) + 1) + 1) + 1)) (sl := ((((((((((((((((((((((sl + ((8192 : Int32)).toNatClampNeg) + ((65536 : Int32)).toNatClampNeg) + ((8 : Int32)).toNatClampNeg) + ((8192 : Int32)).toNatClampNeg) + ((1200 : Int32)).toNatClampNeg) + ((1200 : Int32)).toNatClampNeg) + ((1200 : Int32)).toNatClampNeg) + ((1200 : Int32)).toNatClampNeg) + ((1200 : Int32)).toNatClampNeg) + ((1200 : Int32)).toNatClampNeg) + ((1200 : Int32)).toNatClampNeg) + ((1200 : Int32)).toNatClampNeg) + ((1200 : Int32)).toNatClampNeg) + ((16400 : Int32)).toNatClampNeg) + ((2 : Int32)).toNatClampNeg) + ((8300 : Int32)).toNatClampNeg) + ((8200 : Int32)).toNatClampNeg) + ((64 : Int32)).toNatClampNeg) + ((8 : Int32)).toNatClampNeg) + ((80 : Int32)).toNatClampNeg) + ((8 : Int32)).toNatClampNeg) + ((64 : Int32)).toNatClampNeg)) (z0 := z0) (s0 := s0) dX13_init_196 (k := 1) (by decide) rfl aC_1 e196 (by omega) (by omega) (by show _ ≤ Z0 - z0; omega) (by show _ ≤ S0 - s0; omega) ?_
  refine ww_putR 198 X dX13_init_198 (fP_X13_80 _ (Or.inr rfl)) e198 rfl rfl ?_
  refine ww_aload_n 201 X dX13_init_201 0 rfl rfl ?_
  refine ww_sipush 202 X (v := (25000 : Int32)) dX13_init_202 (by decide) ?_
  refine ww_newA 205 X (sz := (((((((((((((((((((((((sz + 1) + 1) + 1) + 1) + 1) + 1) + 1) + 1) + 1) + 1) + 1) + 1) + 1) + 1) + 1) + 1) + 1) + 1) + 1) + 1) + 1) + 1) + 1)) (sl := (((((((((((((((((((((((sl + ((8192 : Int32)).toNatClampNeg) + ((65536 : Int32)).toNatClampNeg) + ((8 : Int32)).toNatClampNeg) + ((8192 : Int32)).toNatClampNeg) + ((1200 : Int32)).toNatClampNeg) + ((1200 : Int32)).toNatClampNeg) + ((1200 : Int32)).toNatClampNeg) + ((1200 : Int32)).toNatClampNeg) + ((1200 : Int32)).toNatClampNeg) + ((1200 : Int32)).toNatClampNeg) + ((1200 : Int32)).toNatClampNeg) + ((1200 : Int32)).toNatClampNeg) + ((1200 : Int32)).toNatClampNeg) + ((16400 : Int32)).toNatClampNeg) + ((2 : Int32)).toNatClampNeg) + ((8300 : Int32)).toNatClampNeg) + ((8200 : Int32)).toNatClampNeg) + ((64 : Int32)).toNatClampNeg) + ((8 : Int32)).toNatClampNeg) + ((80 : Int32)).toNatClampNeg) + ((8 : Int32)).toNatClampNeg) + ((64 : Int32)).toNatClampNeg) + ((33100 : Int32)).toNatClampNeg)) (z0 := z0) (s0 := s0) dX13_init_205 (k := 1) (by decide) rfl aC_1 e205 (by omega) (by omega) (by show _ ≤ Z0 - z0; omega) (by show _ ≤ S0 - s0; omega) ?_
  refine ww_putR 207 X dX13_init_207 (fP_X13_83 _ (Or.inr rfl)) e207 rfl rfl ?_
  refine ww_aload_n 210 X dX13_init_210 0 rfl rfl ?_
  refine ww_sipush 211 X (v := (128 : Int32)) dX13_init_211 (by decide) ?_
  refine ww_newA 214 X (sz := ((((((((((((((((((((((((sz + 1) + 1) + 1) + 1) + 1) + 1) + 1) + 1) + 1) + 1) + 1) + 1) + 1) + 1) + 1) + 1) + 1) + 1) + 1) + 1) + 1) + 1) + 1) + 1)) (sl := ((((((((((((((((((((((((sl + ((8192 : Int32)).toNatClampNeg) + ((65536 : Int32)).toNatClampNeg) + ((8 : Int32)).toNatClampNeg) + ((8192 : Int32)).toNatClampNeg) + ((1200 : Int32)).toNatClampNeg) + ((1200 : Int32)).toNatClampNeg) + ((1200 : Int32)).toNatClampNeg) + ((1200 : Int32)).toNatClampNeg) + ((1200 : Int32)).toNatClampNeg) + ((1200 : Int32)).toNatClampNeg) + ((1200 : Int32)).toNatClampNeg) + ((1200 : Int32)).toNatClampNeg) + ((1200 : Int32)).toNatClampNeg) + ((16400 : Int32)).toNatClampNeg) + ((2 : Int32)).toNatClampNeg) + ((8300 : Int32)).toNatClampNeg) + ((8200 : Int32)).toNatClampNeg) + ((64 : Int32)).toNatClampNeg) + ((8 : Int32)).toNatClampNeg) + ((80 : Int32)).toNatClampNeg) + ((8 : Int32)).toNatClampNeg) + ((64 : Int32)).toNatClampNeg) + ((33100 : Int32)).toNatClampNeg) + ((25000 : Int32)).toNatClampNeg)) (z0 := z0) (s0 := s0) dX13_init_214 (k := 1) (by decide) rfl aC_1 e214 (by omega) (by omega) (by show _ ≤ Z0 - z0; omega) (by show _ ≤ S0 - s0; omega) ?_
  refine ww_putR 216 X dX13_init_216 (fP_X13_86 _ (Or.inr rfl)) e216 rfl rfl ?_
  refine ww_aload_n 219 X dX13_init_219 0 rfl rfl ?_
  refine ww_sipush 220 X (v := (256 : Int32)) dX13_init_220 (by decide) ?_
  refine ww_newA 223 X (sz := (((((((((((((((((((((((((sz + 1) + 1) + 1) + 1) + 1) + 1) + 1) + 1) + 1) + 1) + 1) + 1) + 1) + 1) + 1) + 1) + 1) + 1) + 1) + 1) + 1) + 1) + 1) + 1) + 1)) (sl := (((((((((((((((((((((((((sl + ((8192 : Int32)).toNatClampNeg) + ((65536 : Int32)).toNatClampNeg) + ((8 : Int32)).toNatClampNeg) + ((8192 : Int32)).toNatClampNeg) + ((1200 : Int32)).toNatClampNeg) + ((1200 : Int32)).toNatClampNeg) + ((1200 : Int32)).toNatClampNeg) + ((1200 : Int32)).toNatClampNeg) + ((1200 : Int32)).toNatClampNeg) + ((1200 : Int32)).toNatClampNeg) + ((1200 : Int32)).toNatClampNeg) + ((1200 : Int32)).toNatClampNeg) + ((1200 : Int32)).toNatClampNeg) + ((16400 : Int32)).toNatClampNeg) + ((2 : Int32)).toNatClampNeg) + ((8300 : Int32)).toNatClampNeg) + ((8200 : Int32)).toNatClampNeg) + ((64 : Int32)).toNatClampNeg) + ((8 : Int32)).toNatClampNeg) + ((80 : Int32)).toNatClampNeg) + ((8 : Int32)).toNatClampNeg) + ((64 : Int32)).toNatClampNeg) + ((33100 : Int32)).toNatClampNeg) + ((25000 : Int32)).toNatClampNeg) + ((128 : Int32)).toNatClampNeg)) (z0 := z0) (s0 := s0) dX13_init_223 (k := 0) (by decide) rfl aC_0 e223 (by omega) (by omega) (by show _ ≤ Z0 - z0; omega) (by show _ ≤ S0 - s0; omega) ?_
  refine ww_putR 225 X dX13_init_225 (fP_X13_89 _ (Or.inr rfl)) e225 rfl rfl ?_
  refine ww_aload_n 228 X dX13_init_228 0 rfl rfl ?_
  refine ww_sipush 229 X (v := (256 : Int32)) dX13_init_229 (by decide) ?_
  refine ww_newA 232 X (sz := ((((((((((((((((((((((((((sz + 1) + 1) + 1) + 1) + 1) + 1) + 1) + 1) + 1) + 1) + 1) + 1) + 1) + 1) + 1) + 1) + 1) + 1) + 1) + 1) + 1) + 1) + 1) + 1) + 1) + 1)) (sl := ((((((((((((((((((((((((((sl + ((8192 : Int32)).toNatClampNeg) + ((65536 : Int32)).toNatClampNeg) + ((8 : Int32)).toNatClampNeg) + ((8192 : Int32)).toNatClampNeg) + ((1200 : Int32)).toNatClampNeg) + ((1200 : Int32)).toNatClampNeg) + ((1200 : Int32)).toNatClampNeg) + ((1200 : Int32)).toNatClampNeg) + ((1200 : Int32)).toNatClampNeg) + ((1200 : Int32)).toNatClampNeg) + ((1200 : Int32)).toNatClampNeg) + ((1200 : Int32)).toNatClampNeg) + ((1200 : Int32)).toNatClampNeg) + ((16400 : Int32)).toNatClampNeg) + ((2 : Int32)).toNatClampNeg) + ((8300 : Int32)).toNatClampNeg) + ((8200 : Int32)).toNatClampNeg) + ((64 : Int32)).toNatClampNeg) + ((8 : Int32)).toNatClampNeg) + ((80 : Int32)).toNatClampNeg) + ((8 : Int32)).toNatClampNeg) + ((64 : Int32)).toNatClampNeg) + ((33100 : Int32)).toNatClampNeg) + ((25000 : Int32)).toNatClampNeg) + ((128 : Int32)).toNatClampNeg) + ((256 : Int32)).toNatClampNeg)) (z0 := z0) (s0 := s0) dX13_init_232 (k := 0) (by decide) rfl aC_0 e232 (by omega) (by omega) (by show _ ≤ Z0 - z0; omega) (by show _ ≤ S0 - s0; omega) ?_
  refine ww_putR 234 X dX13_init_234 (fP_X13_92 _ (Or.inr rfl)) e234 rfl rfl ?_
  refine ww_aload_n 237 X dX13_init_237 0 rfl rfl ?_
  refine ww_sipush 238 X (v := (240 : Int32)) dX13_init_238 (by decide) ?_
  refine ww_newA 241 X (sz := (((((((((((((((((((((((((((sz + 1) + 1) + 1) + 1) + 1) + 1) + 1) + 1) + 1) + 1) + 1) + 1) + 1) + 1) + 1) + 1) + 1) + 1) + 1) + 1) + 1) + 1) + 1) + 1) + 1) + 1) + 1)) (sl := (((((((((((((((((((((((((((sl + ((8192 : Int32)).toNatClampNeg) + ((65536 : Int32)).toNatClampNeg) + ((8 : Int32)).toNatClampNeg) + ((8192 : Int32)).toNatClampNeg) + ((1200 : Int32)).toNatClampNeg) + ((1200 : Int32)).toNatClampNeg) + ((1200 : Int32)).toNatClampNeg) + ((1200 : Int32)).toNatClampNeg) + ((1200 : Int32)).toNatClampNeg) + ((1200 : Int32)).toNatClampNeg) + ((1200 : Int32)).toNatClampNeg) + ((1200 : Int32)).toNatClampNeg) + ((1200 : Int32)).toNatClampNeg) + ((16400 : Int32)).toNatClampNeg) + ((2 : Int32)).toNatClampNeg) + ((8300 : Int32)).toNatClampNeg) + ((8200 : Int32)).toNatClampNeg) + ((64 : Int32)).toNatClampNeg) + ((8 : Int32)).toNatClampNeg) + ((80 : Int32)).toNatClampNeg) + ((8 : Int32)).toNatClampNeg) + ((64 : Int32)).toNatClampNeg) + ((33100 : Int32)).toNatClampNeg) + ((25000 : Int32)).toNatClampNeg) + ((128 : Int32)).toNatClampNeg) + ((256 : Int32)).toNatClampNeg) + ((256 : Int32)).toNatClampNeg)) (z0 := z0) (s0 := s0) dX13_init_241 (k := 0) (by decide) rfl aC_0 e241 (by omega) (by omega) (by show _ ≤ Z0 - z0; omega) (by show _ ≤ S0 - s0; omega) ?_
  refine ww_putR 243 X dX13_init_243 (fP_X13_95 _ (Or.inr rfl)) e243 rfl rfl ?_
  refine ww_aload_n 246 X dX13_init_246 0 rfl rfl ?_
  refine ww_bipush 247 X (v := (16 : Int32)) dX13_init_247 (by decide) ?_
  refine ww_newA 249 X (sz := ((((((((((((((((((((((((((((sz + 1) + 1) + 1) + 1) + 1) + 1) + 1) + 1) + 1) + 1) + 1) + 1) + 1) + 1) + 1) + 1) + 1) + 1) + 1) + 1) + 1) + 1) + 1) + 1) + 1) + 1) + 1) + 1)) (sl := ((((((((((((((((((((((((((((sl + ((8192 : Int32)).toNatClampNeg) + ((65536 : Int32)).toNatClampNeg) + ((8 : Int32)).toNatClampNeg) + ((8192 : Int32)).toNatClampNeg) + ((1200 : Int32)).toNatClampNeg) + ((1200 : Int32)).toNatClampNeg) + ((1200 : Int32)).toNatClampNeg) + ((1200 : Int32)).toNatClampNeg) + ((1200 : Int32)).toNatClampNeg) + ((1200 : Int32)).toNatClampNeg) + ((1200 : Int32)).toNatClampNeg) + ((1200 : Int32)).toNatClampNeg) + ((1200 : Int32)).toNatClampNeg) + ((16400 : Int32)).toNatClampNeg) + ((2 : Int32)).toNatClampNeg) + ((8300 : Int32)).toNatClampNeg) + ((8200 : Int32)).toNatClampNeg) + ((64 : Int32)).toNatClampNeg) + ((8 : Int32)).toNatClampNeg) + ((80 : Int32)).toNatClampNeg) + ((8 : Int32)).toNatClampNeg) + ((64 : Int32)).toNatClampNeg) + ((33100 : Int32)).toNatClampNeg) + ((25000 : Int32)).toNatClampNeg) + ((128 : Int32)).toNatClampNeg) + ((256 : Int32)).toNatClampNeg) + ((256 : Int32)).toNatClampNeg) + ((240 : Int32)).toNatClampNeg)) (z0 := z0) (s0 := s0) dX13_init_249 (k := 0) (by decide) rfl aC_0 e249 (by omega) (by omega) (by show _ ≤ Z0 - z0; omega) (by show _ ≤ S0 - s0; omega) ?_
  refine ww_putR 251 X dX13_init_251 (fP_X13_98 _ (Or.inr rfl)) e251 rfl rfl ?_
  refine ww_aload_n 254 X dX13_init_254 0 rfl rfl ?_
  refine ww_bipush 255 X (v := (16 : Int32)) dX13_init_255 (by decide) ?_
  refine ww_newA 257 X (sz := (((((((((((((((((((((((((((((sz + 1) + 1) + 1) + 1) + 1) + 1) + 1) + 1) + 1) + 1) + 1) + 1) + 1) + 1) + 1) + 1) + 1) + 1) + 1) + 1) + 1) + 1) + 1) + 1) + 1) + 1) + 1) + 1) + 1)) (sl := (((((((((((((((((((((((((((((sl + ((8192 : Int32)).toNatClampNeg) + ((65536 : Int32)).toNatClampNeg) + ((8 : Int32)).toNatClampNeg) + ((8192 : Int32)).toNatClampNeg) + ((1200 : Int32)).toNatClampNeg) + ((1200 : Int32)).toNatClampNeg) + ((1200 : Int32)).toNatClampNeg) + ((1200 : Int32)).toNatClampNeg) + ((1200 : Int32)).toNatClampNeg) + ((1200 : Int32)).toNatClampNeg) + ((1200 : Int32)).toNatClampNeg) + ((1200 : Int32)).toNatClampNeg) + ((1200 : Int32)).toNatClampNeg) + ((16400 : Int32)).toNatClampNeg) + ((2 : Int32)).toNatClampNeg) + ((8300 : Int32)).toNatClampNeg) + ((8200 : Int32)).toNatClampNeg) + ((64 : Int32)).toNatClampNeg) + ((8 : Int32)).toNatClampNeg) + ((80 : Int32)).toNatClampNeg) + ((8 : Int32)).toNatClampNeg) + ((64 : Int32)).toNatClampNeg) + ((33100 : Int32)).toNatClampNeg) + ((25000 : Int32)).toNatClampNeg) + ((128 : Int32)).toNatClampNeg) + ((256 : Int32)).toNatClampNeg) + ((256 : Int32)).toNatClampNeg) + ((240 : Int32)).toNatClampNeg) + ((16 : Int32)).toNatClampNeg)) (z0 := z0) (s0 := s0) dX13_init_257 (k := 0) (by decide) rfl aC_0 e257 (by omega) (by omega) (by show _ ≤ Z0 - z0; omega) (by show _ ≤ S0 - s0; omega) ?_
  refine ww_putR 259 X dX13_init_259 (fP_X13_101 _ (Or.inr rfl)) e259 rfl rfl ?_
  refine ww_aload_n 262 X dX13_init_262 0 rfl rfl ?_
  refine ww_bipush 263 X (v := (16 : Int32)) dX13_init_263 (by decide) ?_
  refine ww_newA 265 X (sz := ((((((((((((((((((((((((((((((sz + 1) + 1) + 1) + 1) + 1) + 1) + 1) + 1) + 1) + 1) + 1) + 1) + 1) + 1) + 1) + 1) + 1) + 1) + 1) + 1) + 1) + 1) + 1) + 1) + 1) + 1) + 1) + 1) + 1) + 1)) (sl := ((((((((((((((((((((((((((((((sl + ((8192 : Int32)).toNatClampNeg) + ((65536 : Int32)).toNatClampNeg) + ((8 : Int32)).toNatClampNeg) + ((8192 : Int32)).toNatClampNeg) + ((1200 : Int32)).toNatClampNeg) + ((1200 : Int32)).toNatClampNeg) + ((1200 : Int32)).toNatClampNeg) + ((1200 : Int32)).toNatClampNeg) + ((1200 : Int32)).toNatClampNeg) + ((1200 : Int32)).toNatClampNeg) + ((1200 : Int32)).toNatClampNeg) + ((1200 : Int32)).toNatClampNeg) + ((1200 : Int32)).toNatClampNeg) + ((16400 : Int32)).toNatClampNeg) + ((2 : Int32)).toNatClampNeg) + ((8300 : Int32)).toNatClampNeg) + ((8200 : Int32)).toNatClampNeg) + ((64 : Int32)).toNatClampNeg) + ((8 : Int32)).toNatClampNeg) + ((80 : Int32)).toNatClampNeg) + ((8 : Int32)).toNatClampNeg) + ((64 : Int32)).toNatClampNeg) + ((33100 : Int32)).toNatClampNeg) + ((25000 : Int32)).toNatClampNeg) + ((128 : Int32)).toNatClampNeg) + ((256 : Int32)).toNatClampNeg) + ((256 : Int32)).toNatClampNeg) + ((240 : Int32)).toNatClampNeg) + ((16 : Int32)).toNatClampNeg) + ((16 : Int32)).toNatClampNeg)) (z0 := z0) (s0 := s0) dX13_init_265 (k := 1) (by decide) rfl aC_1 e265 (by omega) (by omega) (by show _ ≤ Z0 - z0; omega) (by show _ ≤ S0 - s0; omega) ?_
  refine ww_putR 267 X dX13_init_267 (fP_X13_104 _ (Or.inr rfl)) e267 rfl rfl ?_
  refine ww_aload_n 270 X dX13_init_270 0 rfl rfl ?_
  refine ww_bipush 271 X (v := (80 : Int32)) dX13_init_271 (by decide) ?_
  refine ww_newA 273 X (sz := (((((((((((((((((((((((((((((((sz + 1) + 1) + 1) + 1) + 1) + 1) + 1) + 1) + 1) + 1) + 1) + 1) + 1) + 1) + 1) + 1) + 1) + 1) + 1) + 1) + 1) + 1) + 1) + 1) + 1) + 1) + 1) + 1) + 1) + 1) + 1)) (sl := (((((((((((((((((((((((((((((((sl + ((8192 : Int32)).toNatClampNeg) + ((65536 : Int32)).toNatClampNeg) + ((8 : Int32)).toNatClampNeg) + ((8192 : Int32)).toNatClampNeg) + ((1200 : Int32)).toNatClampNeg) + ((1200 : Int32)).toNatClampNeg) + ((1200 : Int32)).toNatClampNeg) + ((1200 : Int32)).toNatClampNeg) + ((1200 : Int32)).toNatClampNeg) + ((1200 : Int32)).toNatClampNeg) + ((1200 : Int32)).toNatClampNeg) + ((1200 : Int32)).toNatClampNeg) + ((1200 : Int32)).toNatClampNeg) + ((16400 : Int32)).toNatClampNeg) + ((2 : Int32)).toNatClampNeg) + ((8300 : Int32)).toNatClampNeg) + ((8200 : Int32)).toNatClampNeg) + ((64 : Int32)).toNatClampNeg) + ((8 : Int32)).toNatClampNeg) + ((80 : Int32)).toNatClampNeg) + ((8 : Int32)).toNatClampNeg) + ((64 : Int32)).toNatClampNeg) + ((33100 : Int32)).toNatClampNeg) + ((25000 : Int32)).toNatClampNeg) + ((128 : Int32)).toNatClampNeg) + ((256 : Int32)).toNatClampNeg) + ((256 : Int32)).toNatClampNeg) + ((240 : Int32)).toNatClampNeg) + ((16 : Int32)).toNatClampNeg) + ((16 : Int32)).toNatClampNeg) + ((16 : Int32)).toNatClampNeg)) (z0 := z0) (s0 := s0) dX13_init_273 (k := 1) (by decide) rfl aC_1 e273 (by omega) (by omega) (by show _ ≤ Z0 - z0; omega) (by show _ ≤ S0 - s0; omega) ?_
  refine ww_putR 275 X dX13_init_275 (fP_X13_107 _ (Or.inr rfl)) e275 rfl rfl ?_
  refine ww_aload_n 278 X dX13_init_278 0 rfl rfl ?_
  refine ww_sipush 279 X (v := (8300 : Int32)) dX13_init_279 (by decide) ?_
  refine ww_newA 282 X (sz := ((((((((((((((((((((((((((((((((sz + 1) + 1) + 1) + 1) + 1) + 1) + 1) + 1) + 1) + 1) + 1) + 1) + 1) + 1) + 1) + 1) + 1) + 1) + 1) + 1) + 1) + 1) + 1) + 1) + 1) + 1) + 1) + 1) + 1) + 1) + 1) + 1)) (sl := ((((((((((((((((((((((((((((((((sl + ((8192 : Int32)).toNatClampNeg) + ((65536 : Int32)).toNatClampNeg) + ((8 : Int32)).toNatClampNeg) + ((8192 : Int32)).toNatClampNeg) + ((1200 : Int32)).toNatClampNeg) + ((1200 : Int32)).toNatClampNeg) + ((1200 : Int32)).toNatClampNeg) + ((1200 : Int32)).toNatClampNeg) + ((1200 : Int32)).toNatClampNeg) + ((1200 : Int32)).toNatClampNeg) + ((1200 : Int32)).toNatClampNeg) + ((1200 : Int32)).toNatClampNeg) + ((1200 : Int32)).toNatClampNeg) + ((16400 : Int32)).toNatClampNeg) + ((2 : Int32)).toNatClampNeg) + ((8300 : Int32)).toNatClampNeg) + ((8200 : Int32)).toNatClampNeg) + ((64 : Int32)).toNatClampNeg) + ((8 : Int32)).toNatClampNeg) + ((80 : Int32)).toNatClampNeg) + ((8 : Int32)).toNatClampNeg) + ((64 : Int32)).toNatClampNeg) + ((33100 : Int32)).toNatClampNeg) + ((25000 : Int32)).toNatClampNeg) + ((128 : Int32)).toNatClampNeg) + ((256 : Int32)).toNatClampNeg) + ((256 : Int32)).toNatClampNeg) + ((240 : Int32)).toNatClampNeg) + ((16 : Int32)).toNatClampNeg) + ((16 : Int32)).toNatClampNeg) + ((16 : Int32)).toNatClampNeg) + ((80 : Int32)).toNatClampNeg)) (z0 := z0) (s0 := s0) dX13_init_282 (k := 1) (by decide) rfl aC_1 e282 (by omega) (by omega) (by show _ ≤ Z0 - z0; omega) (by show _ ≤ S0 - s0; omega) ?_
  refine ww_putR 284 X dX13_init_284 (fP_X13_110 _ (Or.inr rfl)) e284 rfl rfl ?_
  refine ww_aload_n 287 X dX13_init_287 0 rfl rfl ?_
  refine ww_bipush 288 X (v := (64 : Int32)) dX13_init_288 (by decide) ?_
  refine ww_newA 290 X (sz := (((((((((((((((((((((((((((((((((sz + 1) + 1) + 1) + 1) + 1) + 1) + 1) + 1) + 1) + 1) + 1) + 1) + 1) + 1) + 1) + 1) + 1) + 1) + 1) + 1) + 1) + 1) + 1) + 1) + 1) + 1) + 1) + 1) + 1) + 1) + 1) + 1) + 1)) (sl := (((((((((((((((((((((((((((((((((sl + ((8192 : Int32)).toNatClampNeg) + ((65536 : Int32)).toNatClampNeg) + ((8 : Int32)).toNatClampNeg) + ((8192 : Int32)).toNatClampNeg) + ((1200 : Int32)).toNatClampNeg) + ((1200 : Int32)).toNatClampNeg) + ((1200 : Int32)).toNatClampNeg) + ((1200 : Int32)).toNatClampNeg) + ((1200 : Int32)).toNatClampNeg) + ((1200 : Int32)).toNatClampNeg) + ((1200 : Int32)).toNatClampNeg) + ((1200 : Int32)).toNatClampNeg) + ((1200 : Int32)).toNatClampNeg) + ((16400 : Int32)).toNatClampNeg) + ((2 : Int32)).toNatClampNeg) + ((8300 : Int32)).toNatClampNeg) + ((8200 : Int32)).toNatClampNeg) + ((64 : Int32)).toNatClampNeg) + ((8 : Int32)).toNatClampNeg) + ((80 : Int32)).toNatClampNeg) + ((8 : Int32)).toNatClampNeg) + ((64 : Int32)).toNatClampNeg) + ((33100 : Int32)).toNatClampNeg) + ((25000 : Int32)).toNatClampNeg) + ((128 : Int32)).toNatClampNeg) + ((256 : Int32)).toNatClampNeg) + ((256 : Int32)).toNatClampNeg) + ((240 : Int32)).toNatClampNeg) + ((16 : Int32)).toNatClampNeg) + ((16 : Int32)).toNatClampNeg) + ((16 : Int32)).toNatClampNeg) + ((80 : Int32)).toNatClampNeg) + ((8300 : Int32)).toNatClampNeg)) (z0 := z0) (s0 := s0) dX13_init_290 (k := 1) (by decide) rfl aC_1 e290 (by omega) (by omega) (by show _ ≤ Z0 - z0; omega) (by show _ ≤ S0 - s0; omega) ?_
  refine ww_putR 292 X dX13_init_292 (fP_X13_113 _ (Or.inr rfl)) e292 rfl rfl ?_
  refine ww_aload_n 295 X dX13_init_295 0 rfl rfl ?_
  refine ww_bipush 296 X (v := (16 : Int32)) dX13_init_296 (by decide) ?_
  refine ww_newA 298 X (sz := ((((((((((((((((((((((((((((((((((sz + 1) + 1) + 1) + 1) + 1) + 1) + 1) + 1) + 1) + 1) + 1) + 1) + 1) + 1) + 1) + 1) + 1) + 1) + 1) + 1) + 1) + 1) + 1) + 1) + 1) + 1) + 1) + 1) + 1) + 1) + 1) + 1) + 1) + 1)) (sl := ((((((((((((((((((((((((((((((((((sl + ((8192 : Int32)).toNatClampNeg) + ((65536 : Int32)).toNatClampNeg) + ((8 : Int32)).toNatClampNeg) + ((8192 : Int32)).toNatClampNeg) + ((1200 : Int32)).toNatClampNeg) + ((1200 : Int32)).toNatClampNeg) + ((1200 : Int32)).toNatClampNeg) + ((1200 : Int32)).toNatClampNeg) + ((1200 : Int32)).toNatClampNeg) + ((1200 : Int32)).toNatClampNeg) + ((1200 : Int32)).toNatClampNeg) + ((1200 : Int32)).toNatClampNeg) + ((1200 : Int32)).toNatClampNeg) + ((16400 : Int32)).toNatClampNeg) + ((2 : Int32)).toNatClampNeg) + ((8300 : Int32)).toNatClampNeg) + ((8200 : Int32)).toNatClampNeg) + ((64 : Int32)).toNatClampNeg) + ((8 : Int32)).toNatClampNeg) + ((80 : Int32)).toNatClampNeg) + ((8 : Int32)).toNatClampNeg) + ((64 : Int32)).toNatClampNeg) + ((33100 : Int32)).toNatClampNeg) + ((25000 : Int32)).toNatClampNeg) + ((128 : Int32)).toNatClampNeg) + ((256 : Int32)).toNatClampNeg) + ((256 : Int32)).toNatClampNeg) + ((240 : Int32)).toNatClampNeg) + ((16 : Int32)).toNatClampNeg) + ((16 : Int32)).toNatClampNeg) + ((16 : Int32)).toNatClampNeg) + ((80 : Int32)).toNatClampNeg) + ((8300 : Int32)).toNatClampNeg) + ((64 : Int32)).toNatClampNeg)) (z0 := z0) (s0 := s0) dX13_init_298 (k := 1) (by decide) rfl aC_1 e298 (by omega) (by omega) (by show _ ≤ Z0 - z0; omega) (by show _ ≤ S0 - s0; omega) ?_
  refine ww_putR 300 X dX13_init_300 (fP_X13_116 _ (Or.inr rfl)) e300 rfl rfl ?_
  refine ww_aload_n 303 X dX13_init_303 0 rfl rfl ?_
  refine ww_newO 304 X (sz := (((((((((((((((((((((((((((((((((((sz + 1) + 1) + 1) + 1) + 1) + 1) + 1) + 1) + 1) + 1) + 1) + 1) + 1) + 1) + 1) + 1) + 1) + 1) + 1) + 1) + 1) + 1) + 1) + 1) + 1) + 1) + 1) + 1) + 1) + 1) + 1) + 1) + 1) + 1) + 1)) (sl := (((((((((((((((((((((((((((((((((((sl + ((8192 : Int32)).toNatClampNeg) + ((65536 : Int32)).toNatClampNeg) + ((8 : Int32)).toNatClampNeg) + ((8192 : Int32)).toNatClampNeg) + ((1200 : Int32)).toNatClampNeg) + ((1200 : Int32)).toNatClampNeg) + ((1200 : Int32)).toNatClampNeg) + ((1200 : Int32)).toNatClampNeg) + ((1200 : Int32)).toNatClampNeg) + ((1200 : Int32)).toNatClampNeg) + ((1200 : Int32)).toNatClampNeg) + ((1200 : Int32)).toNatClampNeg) + ((1200 : Int32)).toNatClampNeg) + ((16400 : Int32)).toNatClampNeg) + ((2 : Int32)).toNatClampNeg) + ((8300 : Int32)).toNatClampNeg) + ((8200 : Int32)).toNatClampNeg) + ((64 : Int32)).toNatClampNeg) + ((8 : Int32)).toNatClampNeg) + ((80 : Int32)).toNatClampNeg) + ((8 : Int32)).toNatClampNeg) + ((64 : Int32)).toNatClampNeg) + ((33100 : Int32)).toNatClampNeg) + ((25000 : Int32)).toNatClampNeg) + ((128 : Int32)).toNatClampNeg) + ((256 : Int32)).toNatClampNeg) + ((256 : Int32)).toNatClampNeg) + ((240 : Int32)).toNatClampNeg) + ((16 : Int32)).toNatClampNeg) + ((16 : Int32)).toNatClampNeg) + ((16 : Int32)).toNatClampNeg) + ((80 : Int32)).toNatClampNeg) + ((8300 : Int32)).toNatClampNeg) + ((64 : Int32)).toNatClampNeg) + ((16 : Int32)).toNatClampNeg)) (z0 := z0) (s0 := s0) dX13_init_304 nW_X13_119 (by omega) (by omega) (by show _ ≤ Z0 - z0; omega) (by show _ ≤ S0 - s0; omega) ?_
  refine ww_dup 307 X dX13_init_307 rfl ?_
  refine ww_callIVNa 308 X (sz := ((((((((((((((((((((((((((((((((((((sz + 1) + 1) + 1) + 1) + 1) + 1) + 1) + 1) + 1) + 1) + 1) + 1) + 1) + 1) + 1) + 1) + 1) + 1) + 1) + 1) + 1) + 1) + 1) + 1) + 1) + 1) + 1) + 1) + 1) + 1) + 1) + 1) + 1) + 1) + 1) + 1)) (sl := ((((((((((((((((((((((((((((((((((((sl + ((8192 : Int32)).toNatClampNeg) + ((65536 : Int32)).toNatClampNeg) + ((8 : Int32)).toNatClampNeg) + ((8192 : Int32)).toNatClampNeg) + ((1200 : Int32)).toNatClampNeg) + ((1200 : Int32)).toNatClampNeg) + ((1200 : Int32)).toNatClampNeg) + ((1200 : Int32)).toNatClampNeg) + ((1200 : Int32)).toNatClampNeg) + ((1200 : Int32)).toNatClampNeg) + ((1200 : Int32)).toNatClampNeg) + ((1200 : Int32)).toNatClampNeg) + ((1200 : Int32)).toNatClampNeg) + ((16400 : Int32)).toNatClampNeg) + ((2 : Int32)).toNatClampNeg) + ((8300 : Int32)).toNatClampNeg) + ((8200 : Int32)).toNatClampNeg) + ((64 : Int32)).toNatClampNeg) + ((8 : Int32)).toNatClampNeg) + ((80 : Int32)).toNatClampNeg) + ((8 : Int32)).toNatClampNeg) + ((64 : Int32)).toNatClampNeg) + ((33100 : Int32)).toNatClampNeg) + ((25000 : Int32)).toNatClampNeg) + ((128 : Int32)).toNatClampNeg) + ((256 : Int32)).toNatClampNeg) + ((256 : Int32)).toNatClampNeg) + ((240 : Int32)).toNatClampNeg) + ((16 : Int32)).toNatClampNeg) + ((16 : Int32)).toNatClampNeg) + ((16 : Int32)).toNatClampNeg) + ((80 : Int32)).toNatClampNeg) + ((8300 : Int32)).toNatClampNeg) + ((64 : Int32)).toNatClampNeg) + ((16 : Int32)).toNatClampNeg) + 9)) (z0 := z0) (s0 := s0) dX13_init_308 mY_X12_init mL_X13_121 (As := []) (rest := [.ref (((((((((((((((((((((((((((((((((((sz + 1) + 1) + 1) + 1) + 1) + 1) + 1) + 1) + 1) + 1) + 1) + 1) + 1) + 1) + 1) + 1) + 1) + 1) + 1) + 1) + 1) + 1) + 1) + 1) + 1) + 1) + 1) + 1) + 1) + 1) + 1) + 1) + 1) + 1) + 1), .ref l0]) rfl rfl ⟨Nat.le_of_ble_eq_true rfl, Nat.le_of_ble_eq_true rfl⟩ (by omega) (by omega) (by omega) (by omega) (by show _ ≤ Z0 - z0; omega) (by show _ ≤ S0 - s0; omega) (Nat.le_of_ble_eq_true rfl) (fun l D A => c_X12_init l D A e308) ?_
  refine ww_putR 311 X dX13_init_311 (fP_X13_122 _ (Or.inr rfl)) e311 rfl rfl ?_
  refine ww_aload_n 314 X dX13_init_314 0 rfl rfl ?_
  refine ww_newO 315 X (sz := z308) (sl := k308) (z0 := z0) (s0 := s0) dX13_init_315 nW_X13_119 (by omega) (by omega) (by show _ ≤ Z0 - z0; omega) (by show _ ≤ S0 - s0; omega) ?_
  refine ww_dup 318 X dX13_init_318 rfl ?_
  refine ww_callIVNa 319 X (sz := (z308 + 1)) (sl := (k308 + 9)) (z0 := z0) (s0 := s0) dX13_init_319 mY_X12_init mL_X13_121 (As := []) (rest := [.ref z308, .ref l0]) rfl rfl ⟨Nat.le_of_ble_eq_true rfl, Nat.le_of_ble_eq_true rfl⟩ (by omega) (by omega) (by omega) (by omega) (by show _ ≤ Z0 - z0; omega) (by show _ ≤ S0 - s0; omega) (Nat.le_of_ble_eq_true rfl) (fun l D A => c_X12_init l D A e319) ?_
  refine ww_putR 322 X dX13_init_322 (fP_X13_126 _ (Or.inr rfl)) e322 rfl rfl ?_
  refine ww_aload_n 325 X dX13_init_325 0 rfl rfl ?_
  refine ww_newO 326 X (sz := z319) (sl := k319) (z0 := z0) (s0 := s0) dX13_init_326 nW_X13_119 (by omega) (by omega) (by show _ ≤ Z0 - z0; omega) (by show _ ≤ S0 - s0; omega) ?_
  refine ww_dup 329 X dX13_init_329 rfl ?_
  refine ww_callIVNa 330 X (sz := (z319 + 1)) (sl := (k319 + 9)) (z0 := z0) (s0 := s0) dX13_init_330 mY_X12_init mL_X13_121 (As := []) (rest := [.ref z319, .ref l0]) rfl rfl ⟨Nat.le_of_ble_eq_true rfl, Nat.le_of_ble_eq_true rfl⟩ (by omega) (by omega) (by omega) (by omega) (by show _ ≤ Z0 - z0; omega) (by show _ ≤ S0 - s0; omega) (Nat.le_of_ble_eq_true rfl) (fun l D A => c_X12_init l D A e330) ?_
  refine ww_putR 333 X dX13_init_333 (fP_X13_129 _ (Or.inr rfl)) e333 rfl rfl ?_
  refine ww_aload_n 336 X dX13_init_336 0 rfl rfl ?_
  refine ww_bipush 337 X (v := (34 : Int32)) dX13_init_337 (by decide) ?_
  refine ww_newA 339 X (sz := z330) (sl := k330) (z0 := z0) (s0 := s0) dX13_init_339 (k := 0) (by decide) rfl aC_0 e339 (by omega) (by omega) (by show _ ≤ Z0 - z0; omega) (by show _ ≤ S0 - s0; omega) ?_
  refine ww_putR 341 X dX13_init_341 (fP_X13_132 _ (Or.inr rfl)) e341 rfl rfl ?_
  refine ww_aload_n 344 X dX13_init_344 0 rfl rfl ?_
  refine ww_bipush 345 X (v := (34 : Int32)) dX13_init_345 (by decide) ?_
  refine ww_newA 347 X (sz := (z330 + 1)) (sl := (k330 + ((34 : Int32)).toNatClampNeg)) (z0 := z0) (s0 := s0) dX13_init_347 (k := 0) (by decide) rfl aC_0 e347 (by omega) (by omega) (by show _ ≤ Z0 - z0; omega) (by show _ ≤ S0 - s0; omega) ?_
  refine ww_putR 349 X dX13_init_349 (fP_X13_135 _ (Or.inr rfl)) e349 rfl rfl ?_
  refine ww_aload_n 352 X dX13_init_352 0 rfl rfl ?_
  refine ww_sipush 353 X (v := (128 : Int32)) dX13_init_353 (by decide) ?_
  refine ww_newA 356 X (sz := ((z330 + 1) + 1)) (sl := ((k330 + ((34 : Int32)).toNatClampNeg) + ((34 : Int32)).toNatClampNeg)) (z0 := z0) (s0 := s0) dX13_init_356 (k := 1) (by decide) rfl aC_1 e356 (by omega) (by omega) (by show _ ≤ Z0 - z0; omega) (by show _ ≤ S0 - s0; omega) ?_
  refine ww_putR 358 X dX13_init_358 (fP_X13_138 _ (Or.inr rfl)) e358 rfl rfl ?_
  refine ww_aload_n 361 X dX13_init_361 0 rfl rfl ?_
  refine ww_bipush 362 X (v := (32 : Int32)) dX13_init_362 (by decide) ?_
  refine ww_newA 364 X (sz := (((z330 + 1) + 1) + 1)) (sl := (((k330 + ((34 : Int32)).toNatClampNeg) + ((34 : Int32)).toNatClampNeg) + ((128 : Int32)).toNatClampNeg)) (z0 := z0) (s0 := s0) dX13_init_364 (k := 1) (by decide) rfl aC_1 e364 (by omega) (by omega) (by show _ ≤ Z0 - z0; omega) (by show _ ≤ S0 - s0; omega) ?_
  refine ww_putR 366 X dX13_init_366 (fP_X13_141 _ (Or.inr rfl)) e366 rfl rfl ?_
  refine ww_aload_n 369 X dX13_init_369 0 rfl rfl ?_
  refine ww_bipush 370 X (v := (32 : Int32)) dX13_init_370 (by decide) ?_
  refine ww_newA 372 X (sz := ((((z330 + 1) + 1) + 1) + 1)) (sl := ((((k330 + ((34 : Int32)).toNatClampNeg) + ((34 : Int32)).toNatClampNeg) + ((128 : Int32)).toNatClampNeg) + ((32 : Int32)).toNatClampNeg)) (z0 := z0) (s0 := s0) dX13_init_372 (k := 1) (by decide) rfl aC_1 e372 (by omega) (by omega) (by show _ ≤ Z0 - z0; omega) (by show _ ≤ S0 - s0; omega) ?_
  refine ww_putR 374 X dX13_init_374 (fP_X13_144 _ (Or.inr rfl)) e374 rfl rfl ?_
  refine ww_aload_n 377 X dX13_init_377 0 rfl rfl ?_
  refine ww_bipush 378 X (v := (64 : Int32)) dX13_init_378 (by decide) ?_
  refine ww_newA 380 X (sz := (((((z330 + 1) + 1) + 1) + 1) + 1)) (sl := (((((k330 + ((34 : Int32)).toNatClampNeg) + ((34 : Int32)).toNatClampNeg) + ((128 : Int32)).toNatClampNeg) + ((32 : Int32)).toNatClampNeg) + ((32 : Int32)).toNatClampNeg)) (z0 := z0) (s0 := s0) dX13_init_380 (k := 1) (by decide) rfl aC_1 e380 (by omega) (by omega) (by show _ ≤ Z0 - z0; omega) (by show _ ≤ S0 - s0; omega) ?_
  refine ww_putR 382 X dX13_init_382 (fP_X13_147 _ (Or.inr rfl)) e382 rfl rfl ?_
  refine ww_aload_n 385 X dX13_init_385 0 rfl rfl ?_
  refine ww_bipush 386 X (v := (34 : Int32)) dX13_init_386 (by decide) ?_
  refine ww_newA 388 X (sz := ((((((z330 + 1) + 1) + 1) + 1) + 1) + 1)) (sl := ((((((k330 + ((34 : Int32)).toNatClampNeg) + ((34 : Int32)).toNatClampNeg) + ((128 : Int32)).toNatClampNeg) + ((32 : Int32)).toNatClampNeg) + ((32 : Int32)).toNatClampNeg) + ((64 : Int32)).toNatClampNeg)) (z0 := z0) (s0 := s0) dX13_init_388 (k := 0) (by decide) rfl aC_0 e388 (by omega) (by omega) (by show _ ≤ Z0 - z0; omega) (by show _ ≤ S0 - s0; omega) ?_
  refine ww_putR 390 X dX13_init_390 (fP_X13_150 _ (Or.inr rfl)) e390 rfl rfl ?_
  refine ww_aload_n 393 X dX13_init_393 0 rfl rfl ?_
  refine ww_bipush 394 X (v := (32 : Int32)) dX13_init_394 (by decide) ?_
  refine ww_newA 396 X (sz := (((((((z330 + 1) + 1) + 1) + 1) + 1) + 1) + 1)) (sl := (((((((k330 + ((34 : Int32)).toNatClampNeg) + ((34 : Int32)).toNatClampNeg) + ((128 : Int32)).toNatClampNeg) + ((32 : Int32)).toNatClampNeg) + ((32 : Int32)).toNatClampNeg) + ((64 : Int32)).toNatClampNeg) + ((34 : Int32)).toNatClampNeg)) (z0 := z0) (s0 := s0) dX13_init_396 (k := 1) (by decide) rfl aC_1 e396 (by omega) (by omega) (by show _ ≤ Z0 - z0; omega) (by show _ ≤ S0 - s0; omega) ?_
  refine ww_putR 398 X dX13_init_398 (fP_X13_153 _ (Or.inr rfl)) e398 rfl rfl ?_
  refine ww_aload_n 401 X dX13_init_401 0 rfl rfl ?_
  refine ww_bipush 402 X (v := (34 : Int32)) dX13_init_402 (by decide) ?_
  refine ww_newA 404 X (sz := ((((((((z330 + 1) + 1) + 1) + 1) + 1) + 1) + 1) + 1)) (sl := ((((((((k330 + ((34 : Int32)).toNatClampNeg) + ((34 : Int32)).toNatClampNeg) + ((128 : Int32)).toNatClampNeg) + ((32 : Int32)).toNatClampNeg) + ((32 : Int32)).toNatClampNeg) + ((64 : Int32)).toNatClampNeg) + ((34 : Int32)).toNatClampNeg) + ((32 : Int32)).toNatClampNeg)) (z0 := z0) (s0 := s0) dX13_init_404 (k := 0) (by decide) rfl aC_0 e404 (by omega) (by omega) (by show _ ≤ Z0 - z0; omega) (by show _ ≤ S0 - s0; omega) ?_
  refine ww_putR 406 X dX13_init_406 (fP_X13_156 _ (Or.inr rfl)) e406 rfl rfl ?_
  refine ww_aload_n 409 X dX13_init_409 0 rfl rfl ?_
  refine ww_bipush 410 X (v := (34 : Int32)) dX13_init_410 (by decide) ?_
  refine ww_newA 412 X (sz := (((((((((z330 + 1) + 1) + 1) + 1) + 1) + 1) + 1) + 1) + 1)) (sl := (((((((((k330 + ((34 : Int32)).toNatClampNeg) + ((34 : Int32)).toNatClampNeg) + ((128 : Int32)).toNatClampNeg) + ((32 : Int32)).toNatClampNeg) + ((32 : Int32)).toNatClampNeg) + ((64 : Int32)).toNatClampNeg) + ((34 : Int32)).toNatClampNeg) + ((32 : Int32)).toNatClampNeg) + ((34 : Int32)).toNatClampNeg)) (z0 := z0) (s0 := s0) dX13_init_412 (k := 0) (by decide) rfl aC_0 e412 (by omega) (by omega) (by show _ ≤ Z0 - z0; omega) (by show _ ≤ S0 - s0; omega) ?_
  refine ww_putR 414 X dX13_init_414 (fP_X13_159 _ (Or.inr rfl)) e414 rfl rfl ?_
  refine ww_aload_n 417 X dX13_init_417 0 rfl rfl ?_
  refine ww_bipush 418 X (v := (34 : Int32)) dX13_init_418 (by decide) ?_
  refine ww_newA 420 X (sz := ((((((((((z330 + 1) + 1) + 1) + 1) + 1) + 1) + 1) + 1) + 1) + 1)) (sl := ((((((((((k330 + ((34 : Int32)).toNatClampNeg) + ((34 : Int32)).toNatClampNeg) + ((128 : Int32)).toNatClampNeg) + ((32 : Int32)).toNatClampNeg) + ((32 : Int32)).toNatClampNeg) + ((64 : Int32)).toNatClampNeg) + ((34 : Int32)).toNatClampNeg) + ((32 : Int32)).toNatClampNeg) + ((34 : Int32)).toNatClampNeg) + ((34 : Int32)).toNatClampNeg)) (z0 := z0) (s0 := s0) dX13_init_420 (k := 0) (by decide) rfl aC_0 e420 (by omega) (by omega) (by show _ ≤ Z0 - z0; omega) (by show _ ≤ S0 - s0; omega) ?_
  refine ww_putR 422 X dX13_init_422 (fP_X13_162 _ (Or.inr rfl)) e422 rfl rfl ?_
  refine ww_aload_n 425 X dX13_init_425 0 rfl rfl ?_
  refine ww_bipush 426 X (v := (34 : Int32)) dX13_init_426 (by decide) ?_
  refine ww_newA 428 X (sz := (((((((((((z330 + 1) + 1) + 1) + 1) + 1) + 1) + 1) + 1) + 1) + 1) + 1)) (sl := (((((((((((k330 + ((34 : Int32)).toNatClampNeg) + ((34 : Int32)).toNatClampNeg) + ((128 : Int32)).toNatClampNeg) + ((32 : Int32)).toNatClampNeg) + ((32 : Int32)).toNatClampNeg) + ((64 : Int32)).toNatClampNeg) + ((34 : Int32)).toNatClampNeg) + ((32 : Int32)).toNatClampNeg) + ((34 : Int32)).toNatClampNeg) + ((34 : Int32)).toNatClampNeg) + ((34 : Int32)).toNatClampNeg)) (z0 := z0) (s0 := s0) dX13_init_428 (k := 0) (by decide) rfl aC_0 e428 (by omega) (by omega) (by show _ ≤ Z0 - z0; omega) (by show _ ≤ S0 - s0; omega) ?_
  refine ww_putR 430 X dX13_init_430 (fP_X13_165 _ (Or.inr rfl)) e430 rfl rfl ?_
  refine ww_aload_n 433 X dX13_init_433 0 rfl rfl ?_
  refine ww_bipush 434 X (v := (34 : Int32)) dX13_init_434 (by decide) ?_
  refine ww_newA 436 X (sz := ((((((((((((z330 + 1) + 1) + 1) + 1) + 1) + 1) + 1) + 1) + 1) + 1) + 1) + 1)) (sl := ((((((((((((k330 + ((34 : Int32)).toNatClampNeg) + ((34 : Int32)).toNatClampNeg) + ((128 : Int32)).toNatClampNeg) + ((32 : Int32)).toNatClampNeg) + ((32 : Int32)).toNatClampNeg) + ((64 : Int32)).toNatClampNeg) + ((34 : Int32)).toNatClampNeg) + ((32 : Int32)).toNatClampNeg) + ((34 : Int32)).toNatClampNeg) + ((34 : Int32)).toNatClampNeg) + ((34 : Int32)).toNatClampNeg) + ((34 : Int32)).toNatClampNeg)) (z0 := z0) (s0 := s0) dX13_init_436 (k := 0) (by decide) rfl aC_0 e436 (by omega) (by omega) (by show _ ≤ Z0 - z0; omega) (by show _ ≤ S0 - s0; omega) ?_
  refine ww_putR 438 X dX13_init_438 (fP_X13_168 _ (Or.inr rfl)) e438 rfl rfl ?_
  refine ww_aload_n 441 X dX13_init_441 0 rfl rfl ?_
  refine ww_bipush 442 X (v := (34 : Int32)) dX13_init_442 (by decide) ?_
  refine ww_newA 444 X (sz := (((((((((((((z330 + 1) + 1) + 1) + 1) + 1) + 1) + 1) + 1) + 1) + 1) + 1) + 1) + 1)) (sl := (((((((((((((k330 + ((34 : Int32)).toNatClampNeg) + ((34 : Int32)).toNatClampNeg) + ((128 : Int32)).toNatClampNeg) + ((32 : Int32)).toNatClampNeg) + ((32 : Int32)).toNatClampNeg) + ((64 : Int32)).toNatClampNeg) + ((34 : Int32)).toNatClampNeg) + ((32 : Int32)).toNatClampNeg) + ((34 : Int32)).toNatClampNeg) + ((34 : Int32)).toNatClampNeg) + ((34 : Int32)).toNatClampNeg) + ((34 : Int32)).toNatClampNeg) + ((34 : Int32)).toNatClampNeg)) (z0 := z0) (s0 := s0) dX13_init_444 (k := 0) (by decide) rfl aC_0 e444 (by omega) (by omega) (by show _ ≤ Z0 - z0; omega) (by show _ ≤ S0 - s0; omega) ?_
  refine ww_putR 446 X dX13_init_446 (fP_X13_171 _ (Or.inr rfl)) e446 rfl rfl ?_
  refine ww_aload_n 449 X dX13_init_449 0 rfl rfl ?_
  refine ww_bipush 450 X (v := (34 : Int32)) dX13_init_450 (by decide) ?_
  refine ww_newA 452 X (sz := ((((((((((((((z330 + 1) + 1) + 1) + 1) + 1) + 1) + 1) + 1) + 1) + 1) + 1) + 1) + 1) + 1)) (sl := ((((((((((((((k330 + ((34 : Int32)).toNatClampNeg) + ((34 : Int32)).toNatClampNeg) + ((128 : Int32)).toNatClampNeg) + ((32 : Int32)).toNatClampNeg) + ((32 : Int32)).toNatClampNeg) + ((64 : Int32)).toNatClampNeg) + ((34 : Int32)).toNatClampNeg) + ((32 : Int32)).toNatClampNeg) + ((34 : Int32)).toNatClampNeg) + ((34 : Int32)).toNatClampNeg) + ((34 : Int32)).toNatClampNeg) + ((34 : Int32)).toNatClampNeg) + ((34 : Int32)).toNatClampNeg) + ((34 : Int32)).toNatClampNeg)) (z0 := z0) (s0 := s0) dX13_init_452 (k := 0) (by decide) rfl aC_0 e452 (by omega) (by omega) (by show _ ≤ Z0 - z0; omega) (by show _ ≤ S0 - s0; omega) ?_
  refine ww_putR 454 X dX13_init_454 (fP_X13_174 _ (Or.inr rfl)) e454 rfl rfl ?_
  refine ww_aload_n 457 X dX13_init_457 0 rfl rfl ?_
  refine ww_bipush 458 X (v := (34 : Int32)) dX13_init_458 (by decide) ?_
  refine ww_newA 460 X (sz := (((((((((((((((z330 + 1) + 1) + 1) + 1) + 1) + 1) + 1) + 1) + 1) + 1) + 1) + 1) + 1) + 1) + 1)) (sl := (((((((((((((((k330 + ((34 : Int32)).toNatClampNeg) + ((34 : Int32)).toNatClampNeg) + ((128 : Int32)).toNatClampNeg) + ((32 : Int32)).toNatClampNeg) + ((32 : Int32)).toNatClampNeg) + ((64 : Int32)).toNatClampNeg) + ((34 : Int32)).toNatClampNeg) + ((32 : Int32)).toNatClampNeg) + ((34 : Int32)).toNatClampNeg) + ((34 : Int32)).toNatClampNeg) + ((34 : Int32)).toNatClampNeg) + ((34 : Int32)).toNatClampNeg) + ((34 : Int32)).toNatClampNeg) + ((34 : Int32)).toNatClampNeg) + ((34 : Int32)).toNatClampNeg)) (z0 := z0) (s0 := s0) dX13_init_460 (k := 0) (by decide) rfl aC_0 e460 (by omega) (by omega) (by show _ ≤ Z0 - z0; omega) (by show _ ≤ S0 - s0; omega) ?_
  refine ww_putR 462 X dX13_init_462 (fP_X13_177 _ (Or.inr rfl)) e462 rfl rfl ?_
  refine ww_aload_n 465 X dX13_init_465 0 rfl rfl ?_
  refine ww_bipush 466 X (v := (34 : Int32)) dX13_init_466 (by decide) ?_
  refine ww_newA 468 X (sz := ((((((((((((((((z330 + 1) + 1) + 1) + 1) + 1) + 1) + 1) + 1) + 1) + 1) + 1) + 1) + 1) + 1) + 1) + 1)) (sl := ((((((((((((((((k330 + ((34 : Int32)).toNatClampNeg) + ((34 : Int32)).toNatClampNeg) + ((128 : Int32)).toNatClampNeg) + ((32 : Int32)).toNatClampNeg) + ((32 : Int32)).toNatClampNeg) + ((64 : Int32)).toNatClampNeg) + ((34 : Int32)).toNatClampNeg) + ((32 : Int32)).toNatClampNeg) + ((34 : Int32)).toNatClampNeg) + ((34 : Int32)).toNatClampNeg) + ((34 : Int32)).toNatClampNeg) + ((34 : Int32)).toNatClampNeg) + ((34 : Int32)).toNatClampNeg) + ((34 : Int32)).toNatClampNeg) + ((34 : Int32)).toNatClampNeg) + ((34 : Int32)).toNatClampNeg)) (z0 := z0) (s0 := s0) dX13_init_468 (k := 0) (by decide) rfl aC_0 e468 (by omega) (by omega) (by show _ ≤ Z0 - z0; omega) (by show _ ≤ S0 - s0; omega) ?_
  refine ww_putR 470 X dX13_init_470 (fP_X13_180 _ (Or.inr rfl)) e470 rfl rfl ?_
  refine ww_aload_n 473 X dX13_init_473 0 rfl rfl ?_
  refine ww_bipush 474 X (v := (34 : Int32)) dX13_init_474 (by decide) ?_
  refine ww_newA 476 X (sz := (((((((((((((((((z330 + 1) + 1) + 1) + 1) + 1) + 1) + 1) + 1) + 1) + 1) + 1) + 1) + 1) + 1) + 1) + 1) + 1)) (sl := (((((((((((((((((k330 + ((34 : Int32)).toNatClampNeg) + ((34 : Int32)).toNatClampNeg) + ((128 : Int32)).toNatClampNeg) + ((32 : Int32)).toNatClampNeg) + ((32 : Int32)).toNatClampNeg) + ((64 : Int32)).toNatClampNeg) + ((34 : Int32)).toNatClampNeg) + ((32 : Int32)).toNatClampNeg) + ((34 : Int32)).toNatClampNeg) + ((34 : Int32)).toNatClampNeg) + ((34 : Int32)).toNatClampNeg) + ((34 : Int32)).toNatClampNeg) + ((34 : Int32)).toNatClampNeg) + ((34 : Int32)).toNatClampNeg) + ((34 : Int32)).toNatClampNeg) + ((34 : Int32)).toNatClampNeg) + ((34 : Int32)).toNatClampNeg)) (z0 := z0) (s0 := s0) dX13_init_476 (k := 0) (by decide) rfl aC_0 e476 (by omega) (by omega) (by show _ ≤ Z0 - z0; omega) (by show _ ≤ S0 - s0; omega) ?_
  refine ww_putR 478 X dX13_init_478 (fP_X13_183 _ (Or.inr rfl)) e478 rfl rfl ?_
  refine ww_aload_n 481 X dX13_init_481 0 rfl rfl ?_
  refine ww_bipush 482 X (v := (64 : Int32)) dX13_init_482 (by decide) ?_
  refine ww_newA 484 X (sz := ((((((((((((((((((z330 + 1) + 1) + 1) + 1) + 1) + 1) + 1) + 1) + 1) + 1) + 1) + 1) + 1) + 1) + 1) + 1) + 1) + 1)) (sl := ((((((((((((((((((k330 + ((34 : Int32)).toNatClampNeg) + ((34 : Int32)).toNatClampNeg) + ((128 : Int32)).toNatClampNeg) + ((32 : Int32)).toNatClampNeg) + ((32 : Int32)).toNatClampNeg) + ((64 : Int32)).toNatClampNeg) + ((34 : Int32)).toNatClampNeg) + ((32 : Int32)).toNatClampNeg) + ((34 : Int32)).toNatClampNeg) + ((34 : Int32)).toNatClampNeg) + ((34 : Int32)).toNatClampNeg) + ((34 : Int32)).toNatClampNeg) + ((34 : Int32)).toNatClampNeg) + ((34 : Int32)).toNatClampNeg) + ((34 : Int32)).toNatClampNeg) + ((34 : Int32)).toNatClampNeg) + ((34 : Int32)).toNatClampNeg) + ((34 : Int32)).toNatClampNeg)) (z0 := z0) (s0 := s0) dX13_init_484 (k := 1) (by decide) rfl aC_1 e484 (by omega) (by omega) (by show _ ≤ Z0 - z0; omega) (by show _ ≤ S0 - s0; omega) ?_
  refine ww_putR 486 X dX13_init_486 (fP_X13_186 _ (Or.inr rfl)) e486 rfl rfl ?_
  refine ww_aload_n 489 X dX13_init_489 0 rfl rfl ?_
  refine ww_bipush 490 X (v := (64 : Int32)) dX13_init_490 (by decide) ?_
  refine ww_newA 492 X (sz := (((((((((((((((((((z330 + 1) + 1) + 1) + 1) + 1) + 1) + 1) + 1) + 1) + 1) + 1) + 1) + 1) + 1) + 1) + 1) + 1) + 1) + 1)) (sl := (((((((((((((((((((k330 + ((34 : Int32)).toNatClampNeg) + ((34 : Int32)).toNatClampNeg) + ((128 : Int32)).toNatClampNeg) + ((32 : Int32)).toNatClampNeg) + ((32 : Int32)).toNatClampNeg) + ((64 : Int32)).toNatClampNeg) + ((34 : Int32)).toNatClampNeg) + ((32 : Int32)).toNatClampNeg) + ((34 : Int32)).toNatClampNeg) + ((34 : Int32)).toNatClampNeg) + ((34 : Int32)).toNatClampNeg) + ((34 : Int32)).toNatClampNeg) + ((34 : Int32)).toNatClampNeg) + ((34 : Int32)).toNatClampNeg) + ((34 : Int32)).toNatClampNeg) + ((34 : Int32)).toNatClampNeg) + ((34 : Int32)).toNatClampNeg) + ((34 : Int32)).toNatClampNeg) + ((64 : Int32)).toNatClampNeg)) (z0 := z0) (s0 := s0) dX13_init_492 (k := 1) (by decide) rfl aC_1 e492 (by omega) (by omega) (by show _ ≤ Z0 - z0; omega) (by show _ ≤ S0 - s0; omega) ?_
  refine ww_putR 494 X dX13_init_494 (fP_X13_189 _ (Or.inr rfl)) e494 rfl rfl ?_
  refine ww_aload_n 497 X dX13_init_497 0 rfl rfl ?_
  refine ww_sipush 498 X (v := (128 : Int32)) dX13_init_498 (by decide) ?_
  refine ww_newA 501 X (sz := ((((((((((((((((((((z330 + 1) + 1) + 1) + 1) + 1) + 1) + 1) + 1) + 1) + 1) + 1) + 1) + 1) + 1) + 1) + 1) + 1) + 1) + 1) + 1)) (sl := ((((((((((((((((((((k330 + ((34 : Int32)).toNatClampNeg) + ((34 : Int32)).toNatClampNeg) + ((128 : Int32)).toNatClampNeg) + ((32 : Int32)).toNatClampNeg) + ((32 : Int32)).toNatClampNeg) + ((64 : Int32)).toNatClampNeg) + ((34 : Int32)).toNatClampNeg) + ((32 : Int32)).toNatClampNeg) + ((34 : Int32)).toNatClampNeg) + ((34 : Int32)).toNatClampNeg) + ((34 : Int32)).toNatClampNeg) + ((34 : Int32)).toNatClampNeg) + ((34 : Int32)).toNatClampNeg) + ((34 : Int32)).toNatClampNeg) + ((34 : Int32)).toNatClampNeg) + ((34 : Int32)).toNatClampNeg) + ((34 : Int32)).toNatClampNeg) + ((34 : Int32)).toNatClampNeg) + ((64 : Int32)).toNatClampNeg) + ((64 : Int32)).toNatClampNeg)) (z0 := z0) (s0 := s0) dX13_init_501 (k := 1) (by decide) rfl aC_1 e501 (by omega) (by omega) (by show _ ≤ Z0 - z0; omega) (by show _ ≤ S0 - s0; omega) ?_
  refine ww_putR 503 X dX13_init_503 (fP_X13_192 _ (Or.inr rfl)) e503 rfl rfl ?_
  refine ww_aload_n 506 X dX13_init_506 0 rfl rfl ?_
  refine ww_sipush 507 X (v := (128 : Int32)) dX13_init_507 (by decide) ?_
  refine ww_newA 510 X (sz := (((((((((((((((((((((z330 + 1) + 1) + 1) + 1) + 1) + 1) + 1) + 1) + 1) + 1) + 1) + 1) + 1) + 1) + 1) + 1) + 1) + 1) + 1) + 1) + 1)) (sl := (((((((((((((((((((((k330 + ((34 : Int32)).toNatClampNeg) + ((34 : Int32)).toNatClampNeg) + ((128 : Int32)).toNatClampNeg) + ((32 : Int32)).toNatClampNeg) + ((32 : Int32)).toNatClampNeg) + ((64 : Int32)).toNatClampNeg) + ((34 : Int32)).toNatClampNeg) + ((32 : Int32)).toNatClampNeg) + ((34 : Int32)).toNatClampNeg) + ((34 : Int32)).toNatClampNeg) + ((34 : Int32)).toNatClampNeg) + ((34 : Int32)).toNatClampNeg) + ((34 : Int32)).toNatClampNeg) + ((34 : Int32)).toNatClampNeg) + ((34 : Int32)).toNatClampNeg) + ((34 : Int32)).toNatClampNeg) + ((34 : Int32)).toNatClampNeg) + ((34 : Int32)).toNatClampNeg) + ((64 : Int32)).toNatClampNeg) + ((64 : Int32)).toNatClampNeg) + ((128 : Int32)).toNatClampNeg)) (z0 := z0) (s0 := s0) dX13_init_510 (k := 1) (by decide) rfl aC_1 e510 (by omega) (by omega) (by show _ ≤ Z0 - z0; omega) (by show _ ≤ S0 - s0; omega) ?_
  refine ww_putR 512 X dX13_init_512 (fP_X13_195 _ (Or.inr rfl)) e512 rfl rfl ?_
  refine ww_aload_n 515 X dX13_init_515 0 rfl rfl ?_
  refine ww_bipush 516 X (v := (16 : Int32)) dX13_init_516 (by decide) ?_
  refine ww_newA 518 X (sz := ((((((((((((((((((((((z330 + 1) + 1) + 1) + 1) + 1) + 1) + 1) + 1) + 1) + 1) + 1) + 1) + 1) + 1) + 1) + 1) + 1) + 1) + 1) + 1) + 1) + 1)) (sl := ((((((((((((((((((((((k330 + ((34 : Int32)).toNatClampNeg) + ((34 : Int32)).toNatClampNeg) + ((128 : Int32)).toNatClampNeg) + ((32 : Int32)).toNatClampNeg) + ((32 : Int32)).toNatClampNeg) + ((64 : Int32)).toNatClampNeg) + ((34 : Int32)).toNatClampNeg) + ((32 : Int32)).toNatClampNeg) + ((34 : Int32)).toNatClampNeg) + ((34 : Int32)).toNatClampNeg) + ((34 : Int32)).toNatClampNeg) + ((34 : Int32)).toNatClampNeg) + ((34 : Int32)).toNatClampNeg) + ((34 : Int32)).toNatClampNeg) + ((34 : Int32)).toNatClampNeg) + ((34 : Int32)).toNatClampNeg) + ((34 : Int32)).toNatClampNeg) + ((34 : Int32)).toNatClampNeg) + ((64 : Int32)).toNatClampNeg) + ((64 : Int32)).toNatClampNeg) + ((128 : Int32)).toNatClampNeg) + ((128 : Int32)).toNatClampNeg)) (z0 := z0) (s0 := s0) dX13_init_518 (k := 3) (by decide) rfl aC_3 e518 (by omega) (by omega) (by show _ ≤ Z0 - z0; omega) (by show _ ≤ S0 - s0; omega) ?_
  refine ww_putR 520 X dX13_init_520 (fP_X13_198 _ (Or.inr rfl)) e520 rfl rfl ?_
  refine ww_aload_n 523 X dX13_init_523 0 rfl rfl ?_
  refine ww_bipush 524 X (v := (16 : Int32)) dX13_init_524 (by decide) ?_
  refine ww_newA 526 X (sz := (((((((((((((((((((((((z330 + 1) + 1) + 1) + 1) + 1) + 1) + 1) + 1) + 1) + 1) + 1) + 1) + 1) + 1) + 1) + 1) + 1) + 1) + 1) + 1) + 1) + 1) + 1)) (sl := (((((((((((((((((((((((k330 + ((34 : Int32)).toNatClampNeg) + ((34 : Int32)).toNatClampNeg) + ((128 : Int32)).toNatClampNeg) + ((32 : Int32)).toNatClampNeg) + ((32 : Int32)).toNatClampNeg) + ((64 : Int32)).toNatClampNeg) + ((34 : Int32)).toNatClampNeg) + ((32 : Int32)).toNatClampNeg) + ((34 : Int32)).toNatClampNeg) + ((34 : Int32)).toNatClampNeg) + ((34 : Int32)).toNatClampNeg) + ((34 : Int32)).toNatClampNeg) + ((34 : Int32)).toNatClampNeg) + ((34 : Int32)).toNatClampNeg) + ((34 : Int32)).toNatClampNeg) + ((34 : Int32)).toNatClampNeg) + ((34 : Int32)).toNatClampNeg) + ((34 : Int32)).toNatClampNeg) + ((64 : Int32)).toNatClampNeg) + ((64 : Int32)).toNatClampNeg) + ((128 : Int32)).toNatClampNeg) + ((128 : Int32)).toNatClampNeg) + ((16 : Int32)).toNatClampNeg)) (z0 := z0) (s0 := s0) dX13_init_526 (k := 0) (by decide) rfl aC_0 e526 (by omega) (by omega) (by show _ ≤ Z0 - z0; omega) (by show _ ≤ S0 - s0; omega) ?_
  refine ww_putR 528 X dX13_init_528 (fP_X13_202 _ (Or.inr rfl)) e528 rfl rfl ?_
  refine ww_aload_n 531 X dX13_init_531 0 rfl rfl ?_
  refine ww_sipush 532 X (v := (2048 : Int32)) dX13_init_532 (by decide) ?_
  refine ww_newA 535 X (sz := ((((((((((((((((((((((((z330 + 1) + 1) + 1) + 1) + 1) + 1) + 1) + 1) + 1) + 1) + 1) + 1) + 1) + 1) + 1) + 1) + 1) + 1) + 1) + 1) + 1) + 1) + 1) + 1)) (sl := ((((((((((((((((((((((((k330 + ((34 : Int32)).toNatClampNeg) + ((34 : Int32)).toNatClampNeg) + ((128 : Int32)).toNatClampNeg) + ((32 : Int32)).toNatClampNeg) + ((32 : Int32)).toNatClampNeg) + ((64 : Int32)).toNatClampNeg) + ((34 : Int32)).toNatClampNeg) + ((32 : Int32)).toNatClampNeg) + ((34 : Int32)).toNatClampNeg) + ((34 : Int32)).toNatClampNeg) + ((34 : Int32)).toNatClampNeg) + ((34 : Int32)).toNatClampNeg) + ((34 : Int32)).toNatClampNeg) + ((34 : Int32)).toNatClampNeg) + ((34 : Int32)).toNatClampNeg) + ((34 : Int32)).toNatClampNeg) + ((34 : Int32)).toNatClampNeg) + ((34 : Int32)).toNatClampNeg) + ((64 : Int32)).toNatClampNeg) + ((64 : Int32)).toNatClampNeg) + ((128 : Int32)).toNatClampNeg) + ((128 : Int32)).toNatClampNeg) + ((16 : Int32)).toNatClampNeg) + ((16 : Int32)).toNatClampNeg)) (z0 := z0) (s0 := s0) dX13_init_535 (k := 1) (by decide) rfl aC_1 e535 (by omega) (by omega) (by show _ ≤ Z0 - z0; omega) (by show _ ≤ S0 - s0; omega) ?_
  refine ww_putR 537 X dX13_init_537 (fP_X13_205 _ (Or.inr rfl)) e537 rfl rfl ?_
  refine ww_aload_n 540 X dX13_init_540 0 rfl rfl ?_
  refine ww_bipush 541 X (v := (16 : Int32)) dX13_init_541 (by decide) ?_
  refine ww_newA 543 X (sz := (((((((((((((((((((((((((z330 + 1) + 1) + 1) + 1) + 1) + 1) + 1) + 1) + 1) + 1) + 1) + 1) + 1) + 1) + 1) + 1) + 1) + 1) + 1) + 1) + 1) + 1) + 1) + 1) + 1)) (sl := (((((((((((((((((((((((((k330 + ((34 : Int32)).toNatClampNeg) + ((34 : Int32)).toNatClampNeg) + ((128 : Int32)).toNatClampNeg) + ((32 : Int32)).toNatClampNeg) + ((32 : Int32)).toNatClampNeg) + ((64 : Int32)).toNatClampNeg) + ((34 : Int32)).toNatClampNeg) + ((32 : Int32)).toNatClampNeg) + ((34 : Int32)).toNatClampNeg) + ((34 : Int32)).toNatClampNeg) + ((34 : Int32)).toNatClampNeg) + ((34 : Int32)).toNatClampNeg) + ((34 : Int32)).toNatClampNeg) + ((34 : Int32)).toNatClampNeg) + ((34 : Int32)).toNatClampNeg) + ((34 : Int32)).toNatClampNeg) + ((34 : Int32)).toNatClampNeg) + ((34 : Int32)).toNatClampNeg) + ((64 : Int32)).toNatClampNeg) + ((64 : Int32)).toNatClampNeg) + ((128 : Int32)).toNatClampNeg) + ((128 : Int32)).toNatClampNeg) + ((16 : Int32)).toNatClampNeg) + ((16 : Int32)).toNatClampNeg) + ((2048 : Int32)).toNatClampNeg)) (z0 := z0) (s0 := s0) dX13_init_543 (k := 0) (by decide) rfl aC_0 e543 (by omega) (by omega) (by show _ ≤ Z0 - z0; omega) (by show _ ≤ S0 - s0; omega) ?_
  refine ww_putR 545 X dX13_init_545 (fP_X13_208 _ (Or.inr rfl)) e545 rfl rfl ?_
  refine ww_aload_n 548 X dX13_init_548 0 rfl rfl ?_
  refine ww_sipush 549 X (v := (2048 : Int32)) dX13_init_549 (by decide) ?_
  refine ww_newA 552 X (sz := ((((((((((((((((((((((((((z330 + 1) + 1) + 1) + 1) + 1) + 1) + 1) + 1) + 1) + 1) + 1) + 1) + 1) + 1) + 1) + 1) + 1) + 1) + 1) + 1) + 1) + 1) + 1) + 1) + 1) + 1)) (sl := ((((((((((((((((((((((((((k330 + ((34 : Int32)).toNatClampNeg) + ((34 : Int32)).toNatClampNeg) + ((128 : Int32)).toNatClampNeg) + ((32 : Int32)).toNatClampNeg) + ((32 : Int32)).toNatClampNeg) + ((64 : Int32)).toNatClampNeg) + ((34 : Int32)).toNatClampNeg) + ((32 : Int32)).toNatClampNeg) + ((34 : Int32)).toNatClampNeg) + ((34 : Int32)).toNatClampNeg) + ((34 : Int32)).toNatClampNeg) + ((34 : Int32)).toNatClampNeg) + ((34 : Int32)).toNatClampNeg) + ((34 : Int32)).toNatClampNeg) + ((34 : Int32)).toNatClampNeg) + ((34 : Int32)).toNatClampNeg) + ((34 : Int32)).toNatClampNeg) + ((34 : Int32)).toNatClampNeg) + ((64 : Int32)).toNatClampNeg) + ((64 : Int32)).toNatClampNeg) + ((128 : Int32)).toNatClampNeg) + ((128 : Int32)).toNatClampNeg) + ((16 : Int32)).toNatClampNeg) + ((16 : Int32)).toNatClampNeg) + ((2048 : Int32)).toNatClampNeg) + ((16 : Int32)).toNatClampNeg)) (z0 := z0) (s0 := s0) dX13_init_552 (k := 1) (by decide) rfl aC_1 e552 (by omega) (by omega) (by show _ ≤ Z0 - z0; omega) (by show _ ≤ S0 - s0; omega) ?_
  refine ww_putR 554 X dX13_init_554 (fP_X13_211 _ (Or.inr rfl)) e554 rfl rfl ?_
  refine ww_aload_n 557 X dX13_init_557 0 rfl rfl ?_
  refine ww_bipush 558 X (v := (16 : Int32)) dX13_init_558 (by decide) ?_
  refine ww_newA 560 X (sz := (((((((((((((((((((((((((((z330 + 1) + 1) + 1) + 1) + 1) + 1) + 1) + 1) + 1) + 1) + 1) + 1) + 1) + 1) + 1) + 1) + 1) + 1) + 1) + 1) + 1) + 1) + 1) + 1) + 1) + 1) + 1)) (sl := (((((((((((((((((((((((((((k330 + ((34 : Int32)).toNatClampNeg) + ((34 : Int32)).toNatClampNeg) + ((128 : Int32)).toNatClampNeg) + ((32 : Int32)).toNatClampNeg) + ((32 : Int32)).toNatClampNeg) + ((64 : Int32)).toNatClampNeg) + ((34 : Int32)).toNatClampNeg) + ((32 : Int32)).toNatClampNeg) + ((34 : Int32)).toNatClampNeg) + ((34 : Int32)).toNatClampNeg) + ((34 : Int32)).toNatClampNeg) + ((34 : Int32)).toNatClampNeg) + ((34 : Int32)).toNatClampNeg) + ((34 : Int32)).toNatClampNeg) + ((34 : Int32)).toNatClampNeg) + ((34 : Int32)).toNatClampNeg) + ((34 : Int32)).toNatClampNeg) + ((34 : Int32)).toNatClampNeg) + ((64 : Int32)).toNatClampNeg) + ((64 : Int32)).toNatClampNeg) + ((128 : Int32)).toNatClampNeg) + ((128 : Int32)).toNatClampNeg) + ((16 : Int32)).toNatClampNeg) + ((16 : Int32)).toNatClampNeg) + ((2048 : Int32)).toNatClampNeg) + ((16 : Int32)).toNatClampNeg) + ((2048 : Int32)).toNatClampNeg)) (z0 := z0) (s0 := s0) dX13_init_560 (k := 0) (by decide) rfl aC_0 e560 (by omega) (by omega) (by show _ ≤ Z0 - z0; omega) (by show _ ≤ S0 - s0; omega) ?_
  refine ww_putR 562 X dX13_init_562 (fP_X13_214 _ (Or.inr rfl)) e562 rfl rfl ?_
  refine ww_aload_n 565 X dX13_init_565 0 rfl rfl ?_
  refine ww_sipush 566 X (v := (2048 : Int32)) dX13_init_566 (by decide) ?_
  refine ww_newA 569 X (sz := ((((((((((((((((((((((((((((z330 + 1) + 1) + 1) + 1) + 1) + 1) + 1) + 1) + 1) + 1) + 1) + 1) + 1) + 1) + 1) + 1) + 1) + 1) + 1) + 1) + 1) + 1) + 1) + 1) + 1) + 1) + 1) + 1)) (sl := ((((((((((((((((((((((((((((k330 + ((34 : Int32)).toNatClampNeg) + ((34 : Int32)).toNatClampNeg) + ((128 : Int32)).toNatClampNeg) + ((32 : Int32)).toNatClampNeg) + ((32 : Int32)).toNatClampNeg) + ((64 : Int32)).toNatClampNeg) + ((34 : Int32)).toNatClampNeg) + ((32 : Int32)).toNatClampNeg) + ((34 : Int32)).toNatClampNeg) + ((34 : Int32)).toNatClampNeg) + ((34 : Int32)).toNatClampNeg) + ((34 : Int32)).toNatClampNeg) + ((34 : Int32)).toNatClampNeg) + ((34 : Int32)).toNatClampNeg) + ((34 : Int32)).toNatClampNeg) + ((34 : Int32)).toNatClampNeg) + ((34 : Int32)).toNatClampNeg) + ((34 : Int32)).toNatClampNeg) + ((64 : Int32)).toNatClampNeg) + ((64 : Int32)).toNatClampNeg) + ((128 : Int32)).toNatClampNeg) + ((128 : Int32)).toNatClampNeg) + ((16 : Int32)).toNatClampNeg) + ((16 : Int32)).toNatClampNeg) + ((2048 : Int32)).toNatClampNeg) + ((16 : Int32)).toNatClampNeg) + ((2048 : Int32)).toNatClampNeg) + ((16 : Int32)).toNatClampNeg)) (z0 := z0) (s0 := s0) dX13_init_569 (k := 1) (by decide) rfl aC_1 e569 (by omega) (by omega) (by show _ ≤ Z0 - z0; omega) (by show _ ≤ S0 - s0; omega) ?_
  refine ww_putR 571 X dX13_init_571 (fP_X13_217 _ (Or.inr rfl)) e571 rfl rfl ?_
  refine ww_aload_n 574 X dX13_init_574 0 rfl rfl ?_
  refine ww_bipush 575 X (v := (16 : Int32)) dX13_init_575 (by decide) ?_
  refine ww_newA 577 X (sz := (((((((((((((((((((((((((((((z330 + 1) + 1) + 1) + 1) + 1) + 1) + 1) + 1) + 1) + 1) + 1) + 1) + 1) + 1) + 1) + 1) + 1) + 1) + 1) + 1) + 1) + 1) + 1) + 1) + 1) + 1) + 1) + 1) + 1)) (sl := (((((((((((((((((((((((((((((k330 + ((34 : Int32)).toNatClampNeg) + ((34 : Int32)).toNatClampNeg) + ((128 : Int32)).toNatClampNeg) + ((32 : Int32)).toNatClampNeg) + ((32 : Int32)).toNatClampNeg) + ((64 : Int32)).toNatClampNeg) + ((34 : Int32)).toNatClampNeg) + ((32 : Int32)).toNatClampNeg) + ((34 : Int32)).toNatClampNeg) + ((34 : Int32)).toNatClampNeg) + ((34 : Int32)).toNatClampNeg) + ((34 : Int32)).toNatClampNeg) + ((34 : Int32)).toNatClampNeg) + ((34 : Int32)).toNatClampNeg) + ((34 : Int32)).toNatClampNeg) + ((34 : Int32)).toNatClampNeg) + ((34 : Int32)).toNatClampNeg) + ((34 : Int32)).toNatClampNeg) + ((64 : Int32)).toNatClampNeg) + ((64 : Int32)).toNatClampNeg) + ((128 : Int32)).toNatClampNeg) + ((128 : Int32)).toNatClampNeg) + ((16 : Int32)).toNatClampNeg) + ((16 : Int32)).toNatClampNeg) + ((2048 : Int32)).toNatClampNeg) + ((16 : Int32)).toNatClampNeg) + ((2048 : Int32)).toNatClampNeg) + ((16 : Int32)).toNatClampNeg) + ((2048 : Int32)).toNatClampNeg)) (z0 := z0) (s0 := s0) dX13_init_577 (k := 0) (by decide) rfl aC_0 e577 (by omega) (by omega) (by show _ ≤ Z0 - z0; omega) (by show _ ≤ S0 - s0; omega) ?_
  refine ww_putR 579 X dX13_init_579 (fP_X13_220 _ (Or.inr rfl)) e579 rfl rfl ?_
  refine ww_aload_n 582 X dX13_init_582 0 rfl rfl ?_
  refine ww_bipush 583 X (v := (16 : Int32)) dX13_init_583 (by decide) ?_
  refine ww_newA 585 X (sz := ((((((((((((((((((((((((((((((z330 + 1) + 1) + 1) + 1) + 1) + 1) + 1) + 1) + 1) + 1) + 1) + 1) + 1) + 1) + 1) + 1) + 1) + 1) + 1) + 1) + 1) + 1) + 1) + 1) + 1) + 1) + 1) + 1) + 1) + 1)) (sl := ((((((((((((((((((((((((((((((k330 + ((34 : Int32)).toNatClampNeg) + ((34 : Int32)).toNatClampNeg) + ((128 : Int32)).toNatClampNeg) + ((32 : Int32)).toNatClampNeg) + ((32 : Int32)).toNatClampNeg) + ((64 : Int32)).toNatClampNeg) + ((34 : Int32)).toNatClampNeg) + ((32 : Int32)).toNatClampNeg) + ((34 : Int32)).toNatClampNeg) + ((34 : Int32)).toNatClampNeg) + ((34 : Int32)).toNatClampNeg) + ((34 : Int32)).toNatClampNeg) + ((34 : Int32)).toNatClampNeg) + ((34 : Int32)).toNatClampNeg) + ((34 : Int32)).toNatClampNeg) + ((34 : Int32)).toNatClampNeg) + ((34 : Int32)).toNatClampNeg) + ((34 : Int32)).toNatClampNeg) + ((64 : Int32)).toNatClampNeg) + ((64 : Int32)).toNatClampNeg) + ((128 : Int32)).toNatClampNeg) + ((128 : Int32)).toNatClampNeg) + ((16 : Int32)).toNatClampNeg) + ((16 : Int32)).toNatClampNeg) + ((2048 : Int32)).toNatClampNeg) + ((16 : Int32)).toNatClampNeg) + ((2048 : Int32)).toNatClampNeg) + ((16 : Int32)).toNatClampNeg) + ((2048 : Int32)).toNatClampNeg) + ((16 : Int32)).toNatClampNeg)) (z0 := z0) (s0 := s0) dX13_init_585 (k := 0) (by decide) rfl aC_0 e585 (by omega) (by omega) (by show _ ≤ Z0 - z0; omega) (by show _ ≤ S0 - s0; omega) ?_
  refine ww_putR 587 X dX13_init_587 (fP_X13_223 _ (Or.inr rfl)) e587 rfl rfl ?_
  refine ww_aload_n 590 X dX13_init_590 0 rfl rfl ?_
  refine ww_ldc 591 X (v := (131200 : Int32)) dX13_init_591 kI_X13_226 ?_
  refine ww_newA 593 X (sz := (((((((((((((((((((((((((((((((z330 + 1) + 1) + 1) + 1) + 1) + 1) + 1) + 1) + 1) + 1) + 1) + 1) + 1) + 1) + 1) + 1) + 1) + 1) + 1) + 1) + 1) + 1) + 1) + 1) + 1) + 1) + 1) + 1) + 1) + 1) + 1)) (sl := (((((((((((((((((((((((((((((((k330 + ((34 : Int32)).toNatClampNeg) + ((34 : Int32)).toNatClampNeg) + ((128 : Int32)).toNatClampNeg) + ((32 : Int32)).toNatClampNeg) + ((32 : Int32)).toNatClampNeg) + ((64 : Int32)).toNatClampNeg) + ((34 : Int32)).toNatClampNeg) + ((32 : Int32)).toNatClampNeg) + ((34 : Int32)).toNatClampNeg) + ((34 : Int32)).toNatClampNeg) + ((34 : Int32)).toNatClampNeg) + ((34 : Int32)).toNatClampNeg) + ((34 : Int32)).toNatClampNeg) + ((34 : Int32)).toNatClampNeg) + ((34 : Int32)).toNatClampNeg) + ((34 : Int32)).toNatClampNeg) + ((34 : Int32)).toNatClampNeg) + ((34 : Int32)).toNatClampNeg) + ((64 : Int32)).toNatClampNeg) + ((64 : Int32)).toNatClampNeg) + ((128 : Int32)).toNatClampNeg) + ((128 : Int32)).toNatClampNeg) + ((16 : Int32)).toNatClampNeg) + ((16 : Int32)).toNatClampNeg) + ((2048 : Int32)).toNatClampNeg) + ((16 : Int32)).toNatClampNeg) + ((2048 : Int32)).toNatClampNeg) + ((16 : Int32)).toNatClampNeg) + ((2048 : Int32)).toNatClampNeg) + ((16 : Int32)).toNatClampNeg) + ((16 : Int32)).toNatClampNeg)) (z0 := z0) (s0 := s0) dX13_init_593 (k := 1) (by decide) rfl aC_1 e593 (by omega) (by omega) (by show _ ≤ Z0 - z0; omega) (by show _ ≤ S0 - s0; omega) ?_
  refine ww_putR 595 X dX13_init_595 (fP_X13_227 _ (Or.inr rfl)) e595 rfl rfl ?_
  refine ww_aload_n 598 X dX13_init_598 0 rfl rfl ?_
  refine ww_bipush 599 X (v := (16 : Int32)) dX13_init_599 (by decide) ?_
  refine ww_newA 601 X (sz := ((((((((((((((((((((((((((((((((z330 + 1) + 1) + 1) + 1) + 1) + 1) + 1) + 1) + 1) + 1) + 1) + 1) + 1) + 1) + 1) + 1) + 1) + 1) + 1) + 1) + 1) + 1) + 1) + 1) + 1) + 1) + 1) + 1) + 1) + 1) + 1) + 1)) (sl := ((((((((((((((((((((((((((((((((k330 + ((34 : Int32)).toNatClampNeg) + ((34 : Int32)).toNatClampNeg) + ((128 : Int32)).toNatClampNeg) + ((32 : Int32)).toNatClampNeg) + ((32 : Int32)).toNatClampNeg) + ((64 : Int32)).toNatClampNeg) + ((34 : Int32)).toNatClampNeg) + ((32 : Int32)).toNatClampNeg) + ((34 : Int32)).toNatClampNeg) + ((34 : Int32)).toNatClampNeg) + ((34 : Int32)).toNatClampNeg) + ((34 : Int32)).toNatClampNeg) + ((34 : Int32)).toNatClampNeg) + ((34 : Int32)).toNatClampNeg) + ((34 : Int32)).toNatClampNeg) + ((34 : Int32)).toNatClampNeg) + ((34 : Int32)).toNatClampNeg) + ((34 : Int32)).toNatClampNeg) + ((64 : Int32)).toNatClampNeg) + ((64 : Int32)).toNatClampNeg) + ((128 : Int32)).toNatClampNeg) + ((128 : Int32)).toNatClampNeg) + ((16 : Int32)).toNatClampNeg) + ((16 : Int32)).toNatClampNeg) + ((2048 : Int32)).toNatClampNeg) + ((16 : Int32)).toNatClampNeg) + ((2048 : Int32)).toNatClampNeg) + ((16 : Int32)).toNatClampNeg) + ((2048 : Int32)).toNatClampNeg) + ((16 : Int32)).toNatClampNeg) + ((16 : Int32)).toNatClampNeg) + ((131200 : Int32)).toNatClampNeg)) (z0 := z0) (s0 := s0) dX13_init_601 (k := 0) (by decide) rfl aC_0 e601 (by omega) (by omega) (by show _ ≤ Z0 - z0; omega) (by show _ ≤ S0 - s0; omega) ?_
  refine ww_putR 603 X dX13_init_603 (fP_X13_230 _ (Or.inr rfl)) e603 rfl rfl ?_
  refine ww_aload_n 606 X dX13_init_606 0 rfl rfl ?_
  refine ww_ldc 607 X (v := (131200 : Int32)) dX13_init_607 kI_X13_226 ?_
  refine ww_newA 609 X (sz := (((((((((((((((((((((((((((((((((z330 + 1) + 1) + 1) + 1) + 1) + 1) + 1) + 1) + 1) + 1) + 1) + 1) + 1) + 1) + 1) + 1) + 1) + 1) + 1) + 1) + 1) + 1) + 1) + 1) + 1) + 1) + 1) + 1) + 1) + 1) + 1) + 1) + 1)) (sl := (((((((((((((((((((((((((((((((((k330 + ((34 : Int32)).toNatClampNeg) + ((34 : Int32)).toNatClampNeg) + ((128 : Int32)).toNatClampNeg) + ((32 : Int32)).toNatClampNeg) + ((32 : Int32)).toNatClampNeg) + ((64 : Int32)).toNatClampNeg) + ((34 : Int32)).toNatClampNeg) + ((32 : Int32)).toNatClampNeg) + ((34 : Int32)).toNatClampNeg) + ((34 : Int32)).toNatClampNeg) + ((34 : Int32)).toNatClampNeg) + ((34 : Int32)).toNatClampNeg) + ((34 : Int32)).toNatClampNeg) + ((34 : Int32)).toNatClampNeg) + ((34 : Int32)).toNatClampNeg) + ((34 : Int32)).toNatClampNeg) + ((34 : Int32)).toNatClampNeg) + ((34 : Int32)).toNatClampNeg) + ((64 : Int32)).toNatClampNeg) + ((64 : Int32)).toNatClampNeg) + ((128 : Int32)).toNatClampNeg) + ((128 : Int32)).toNatClampNeg) + ((16 : Int32)).toNatClampNeg) + ((16 : Int32)).toNatClampNeg) + ((2048 : Int32)).toNatClampNeg) + ((16 : Int32)).toNatClampNeg) + ((2048 : Int32)).toNatClampNeg) + ((16 : Int32)).toNatClampNeg) + ((2048 : Int32)).toNatClampNeg) + ((16 : Int32)).toNatClampNeg) + ((16 : Int32)).toNatClampNeg) + ((131200 : Int32)).toNatClampNeg) + ((16 : Int32)).toNatClampNeg)) (z0 := z0) (s0 := s0) dX13_init_609 (k := 1) (by decide) rfl aC_1 e609 (by omega) (by omega) (by show _ ≤ Z0 - z0; omega) (by show _ ≤ S0 - s0; omega) ?_
  refine ww_putR 611 X dX13_init_611 (fP_X13_233 _ (Or.inr rfl)) e611 rfl rfl ?_
  refine ww_aload_n 614 X dX13_init_614 0 rfl rfl ?_
  refine ww_bipush 615 X (v := (16 : Int32)) dX13_init_615 (by decide) ?_
  refine ww_newA 617 X (sz := ((((((((((((((((((((((((((((((((((z330 + 1) + 1) + 1) + 1) + 1) + 1) + 1) + 1) + 1) + 1) + 1) + 1) + 1) + 1) + 1) + 1) + 1) + 1) + 1) + 1) + 1) + 1) + 1) + 1) + 1) + 1) + 1) + 1) + 1) + 1) + 1) + 1) + 1) + 1)) (sl := ((((((((((((((((((((((((((((((((((k330 + ((34 : Int32)).toNatClampNeg) + ((34 : Int32)).toNatClampNeg) + ((128 : Int32)).toNatClampNeg) + ((32 : Int32)).toNatClampNeg) + ((32 : Int32)).toNatClampNeg) + ((64 : Int32)).toNatClampNeg) + ((34 : Int32)).toNatClampNeg) + ((32 : Int32)).toNatClampNeg) + ((34 : Int32)).toNatClampNeg) + ((34 : Int32)).toNatClampNeg) + ((34 : Int32)).toNatClampNeg) + ((34 : Int32)).toNatClampNeg) + ((34 : Int32)).toNatClampNeg) + ((34 : Int32)).toNatClampNeg) + ((34 : Int32)).toNatClampNeg) + ((34 : Int32)).toNatClampNeg) + ((34 : Int32)).toNatClampNeg) + ((34 : Int32)).toNatClampNeg) + ((64 : Int32)).toNatClampNeg) + ((64 : Int32)).toNatClampNeg) + ((128 : Int32)).toNatClampNeg) + ((128 : Int32)).toNatClampNeg) + ((16 : Int32)).toNatClampNeg) + ((16 : Int32)).toNatClampNeg) + ((2048 : Int32)).toNatClampNeg) + ((16 : Int32)).toNatClampNeg) + ((2048 : Int32)).toNatClampNeg) + ((16 : Int32)).toNatClampNeg) + ((2048 : Int32)).toNatClampNeg) + ((16 : Int32)).toNatClampNeg) + ((16 : Int32)).toNatClampNeg) + ((131200 : Int32)).toNatClampNeg) + ((16 : Int32)).toNatClampNeg) + ((131200 : Int32)).toNatClampNeg)) (z0 := z0) (s0 := s0) dX13_init_617 (k := 0) (by decide) rfl aC_0 e617 (by omega) (by omega) (by show _ ≤ Z0 - z0; omega) (by show _ ≤ S0 - s0; omega) ?_
  refine ww_putR 619 X dX13_init_619 (fP_X13_236 _ (Or.inr rfl)) e619 rfl rfl ?_
  refine ww_aload_n 622 X dX13_init_622 0 rfl rfl ?_
  refine ww_sipush 623 X (v := (8200 : Int32)) dX13_init_623 (by decide) ?_
  refine ww_newA 626 X (sz := (((((((((((((((((((((((((((((((((((z330 + 1) + 1) + 1) + 1) + 1) + 1) + 1) + 1) + 1) + 1) + 1) + 1) + 1) + 1) + 1) + 1) + 1) + 1) + 1) + 1) + 1) + 1) + 1) + 1) + 1) + 1) + 1) + 1) + 1) + 1) + 1) + 1) + 1) + 1) + 1)) (sl := (((((((((((((((((((((((((((((((((((k330 + ((34 : Int32)).toNatClampNeg) + ((34 : Int32)).toNatClampNeg) + ((128 : Int32)).toNatClampNeg) + ((32 : Int32)).toNatClampNeg) + ((32 : Int32)).toNatClampNeg) + ((64 : Int32)).toNatClampNeg) + ((34 : Int32)).toNatClampNeg) + ((32 : Int32)).toNatClampNeg) + ((34 : Int32)).toNatClampNeg) + ((34 : Int32)).toNatClampNeg) + ((34 : Int32)).toNatClampNeg) + ((34 : Int32)).toNatClampNeg) + ((34 : Int32)).toNatClampNeg) + ((34 : Int32)).toNatClampNeg) + ((34 : Int32)).toNatClampNeg) + ((34 : Int32)).toNatClampNeg) + ((34 : Int32)).toNatClampNeg) + ((34 : Int32)).toNatClampNeg) + ((64 : Int32)).toNatClampNeg) + ((64 : Int32)).toNatClampNeg) + ((128 : Int32)).toNatClampNeg) + ((128 : Int32)).toNatClampNeg) + ((16 : Int32)).toNatClampNeg) + ((16 : Int32)).toNatClampNeg) + ((2048 : Int32)).toNatClampNeg) + ((16 : Int32)).toNatClampNeg) + ((2048 : Int32)).toNatClampNeg) + ((16 : Int32)).toNatClampNeg) + ((2048 : Int32)).toNatClampNeg) + ((16 : Int32)).toNatClampNeg) + ((16 : Int32)).toNatClampNeg) + ((131200 : Int32)).toNatClampNeg) + ((16 : Int32)).toNatClampNeg) + ((131200 : Int32)).toNatClampNeg) + ((16 : Int32)).toNatClampNeg)) (z0 := z0) (s0 := s0) dX13_init_626 (k := 1) (by decide) rfl aC_1 e626 (by omega) (by omega) (by show _ ≤ Z0 - z0; omega) (by show _ ≤ S0 - s0; omega) ?_
  refine ww_putR 628 X dX13_init_628 (fP_X13_239 _ (Or.inr rfl)) e628 rfl rfl ?_
  refine ww_aload_n 631 X dX13_init_631 0 rfl rfl ?_
  refine ww_sipush 632 X (v := (8200 : Int32)) dX13_init_632 (by decide) ?_
  refine ww_newA 635 X (sz := ((((((((((((((((((((((((((((((((((((z330 + 1) + 1) + 1) + 1) + 1) + 1) + 1) + 1) + 1) + 1) + 1) + 1) + 1) + 1) + 1) + 1) + 1) + 1) + 1) + 1) + 1) + 1) + 1) + 1) + 1) + 1) + 1) + 1) + 1) + 1) + 1) + 1) + 1) + 1) + 1) + 1)) (sl := ((((((((((((((((((((((((((((((((((((k330 + ((34 : Int32)).toNatClampNeg) + ((34 : Int32)).toNatClampNeg) + ((128 : Int32)).toNatClampNeg) + ((32 : Int32)).toNatClampNeg) + ((32 : Int32)).toNatClampNeg) + ((64 : Int32)).toNatClampNeg) + ((34 : Int32)).toNatClampNeg) + ((32 : Int32)).toNatClampNeg) + ((34 : Int32)).toNatClampNeg) + ((34 : Int32)).toNatClampNeg) + ((34 : Int32)).toNatClampNeg) + ((34 : Int32)).toNatClampNeg) + ((34 : Int32)).toNatClampNeg) + ((34 : Int32)).toNatClampNeg) + ((34 : Int32)).toNatClampNeg) + ((34 : Int32)).toNatClampNeg) + ((34 : Int32)).toNatClampNeg) + ((34 : Int32)).toNatClampNeg) + ((64 : Int32)).toNatClampNeg) + ((64 : Int32)).toNatClampNeg) + ((128 : Int32)).toNatClampNeg) + ((128 : Int32)).toNatClampNeg) + ((16 : Int32)).toNatClampNeg) + ((16 : Int32)).toNatClampNeg) + ((2048 : Int32)).toNatClampNeg) + ((16 : Int32)).toNatClampNeg) + ((2048 : Int32)).toNatClampNeg) + ((16 : Int32)).toNatClampNeg) + ((2048 : Int32)).toNatClampNeg) + ((16 : Int32)).toNatClampNeg) + ((16 : Int32)).toNatClampNeg) + ((131200 : Int32)).toNatClampNeg) + ((16 : Int32)).toNatClampNeg) + ((131200 : Int32)).toNatClampNeg) + ((16 : Int32)).toNatClampNeg) + ((8200 : Int32)).toNatClampNeg)) (z0 := z0) (s0 := s0) dX13_init_635 (k := 1) (by decide) rfl aC_1 e635 (by omega) (by omega) (by show _ ≤ Z0 - z0; omega) (by show _ ≤ S0 - s0; omega) ?_
  refine ww_putR 637 X dX13_init_637 (fP_X13_242 _ (Or.inr rfl)) e637 rfl rfl ?_
  refine ww_aload_n 640 X dX13_init_640 0 rfl rfl ?_
  refine ww_sipush 641 X (v := (8200 : Int32)) dX13_init_641 (by decide) ?_
  refine ww_newA 644 X (sz := (((((((((((((((((((((((((((((((((((((z330 + 1) + 1) + 1) + 1) + 1) + 1) + 1) + 1) + 1) + 1) + 1) + 1) + 1) + 1) + 1) + 1) + 1) + 1) + 1) + 1) + 1) + 1) + 1) + 1) + 1) + 1) + 1) + 1) + 1) + 1) + 1) + 1) + 1) + 1) + 1) + 1) + 1)) (sl := (((((((((((((((((((((((((((((((((((((k330 + ((34 : Int32)).toNatClampNeg) + ((34 : Int32)).toNatClampNeg) + ((128 : Int32)).toNatClampNeg) + ((32 : Int32)).toNatClampNeg) + ((32 : Int32)).toNatClampNeg) + ((64 : Int32)).toNatClampNeg) + ((34 : Int32)).toNatClampNeg) + ((32 : Int32)).toNatClampNeg) + ((34 : Int32)).toNatClampNeg) + ((34 : Int32)).toNatClampNeg) + ((34 : Int32)).toNatClampNeg) + ((34 : Int32)).toNatClampNeg) + ((34 : Int32)).toNatClampNeg) + ((34 : Int32)).toNatClampNeg) + ((34 : Int32)).toNatClampNeg) + ((34 : Int32)).toNatClampNeg) + ((34 : Int32)).toNatClampNeg) + ((34 : Int32)).toNatClampNeg) + ((64 : Int32)).toNatClampNeg) + ((64 : Int32)).toNatClampNeg) + ((128 : Int32)).toNatClampNeg) + ((128 : Int32)).toNatClampNeg) + ((16 : Int32)).toNatClampNeg) + ((16 : Int32)).toNatClampNeg) + ((2048 : Int32)).toNatClampNeg) + ((16 : Int32)).toNatClampNeg) + ((2048 : Int32)).toNatClampNeg) + ((16 : Int32)).toNatClampNeg) + ((2048 : Int32)).toNatClampNeg) + ((16 : Int32)).toNatClampNeg) + ((16 : Int32)).toNatClampNeg) + ((131200 : Int32)).toNatClampNeg) + ((16 : Int32)).toNatClampNeg) + ((131200 : Int32)).toNatClampNeg) + ((16 : Int32)).toNatClampNeg) + ((8200 : Int32)).toNatClampNeg) + ((8200 : Int32)).toNatClampNeg)) (z0 := z0) (s0 := s0) dX13_init_644 (k := 1) (by decide) rfl aC_1 e644 (by omega) (by omega) (by show _ ≤ Z0 - z0; omega) (by show _ ≤ S0 - s0; omega) ?_
  refine ww_putR 646 X dX13_init_646 (fP_X13_245 _ (Or.inr rfl)) e646 rfl rfl ?_
  refine ww_aload_n 649 X dX13_init_649 0 rfl rfl ?_
  refine ww_bipush 650 X (v := (64 : Int32)) dX13_init_650 (by decide) ?_
  refine ww_newA 652 X (sz := ((((((((((((((((((((((((((((((((((((((z330 + 1) + 1) + 1) + 1) + 1) + 1) + 1) + 1) + 1) + 1) + 1) + 1) + 1) + 1) + 1) + 1) + 1) + 1) + 1) + 1) + 1) + 1) + 1) + 1) + 1) + 1) + 1) + 1) + 1) + 1) + 1) + 1) + 1) + 1) + 1) + 1) + 1) + 1)) (sl := ((((((((((((((((((((((((((((((((((((((k330 + ((34 : Int32)).toNatClampNeg) + ((34 : Int32)).toNatClampNeg) + ((128 : Int32)).toNatClampNeg) + ((32 : Int32)).toNatClampNeg) + ((32 : Int32)).toNatClampNeg) + ((64 : Int32)).toNatClampNeg) + ((34 : Int32)).toNatClampNeg) + ((32 : Int32)).toNatClampNeg) + ((34 : Int32)).toNatClampNeg) + ((34 : Int32)).toNatClampNeg) + ((34 : Int32)).toNatClampNeg) + ((34 : Int32)).toNatClampNeg) + ((34 : Int32)).toNatClampNeg) + ((34 : Int32)).toNatClampNeg) + ((34 : Int32)).toNatClampNeg) + ((34 : Int32)).toNatClampNeg) + ((34 : Int32)).toNatClampNeg) + ((34 : Int32)).toNatClampNeg) + ((64 : Int32)).toNatClampNeg) + ((64 : Int32)).toNatClampNeg) + ((128 : Int32)).toNatClampNeg) + ((128 : Int32)).toNatClampNeg) + ((16 : Int32)).toNatClampNeg) + ((16 : Int32)).toNatClampNeg) + ((2048 : Int32)).toNatClampNeg) + ((16 : Int32)).toNatClampNeg) + ((2048 : Int32)).toNatClampNeg) + ((16 : Int32)).toNatClampNeg) + ((2048 : Int32)).toNatClampNeg) + ((16 : Int32)).toNatClampNeg) + ((16 : Int32)).toNatClampNeg) + ((131200 : Int32)).toNatClampNeg) + ((16 : Int32)).toNatClampNeg) + ((131200 : Int32)).toNatClampNeg) + ((16 : Int32)).toNatClampNeg) + ((8200 : Int32)).toNatClampNeg) + ((8200 : Int32)).toNatClampNeg) + ((8200 : Int32)).toNatClampNeg)) (z0 := z0) (s0 := s0) dX13_init_652 (k := 1) (by decide) rfl aC_1 e652 (by omega) (by omega) (by show _ ≤ Z0 - z0; omega) (by show _ ≤ S0 - s0; omega) ?_
  refine ww_putR 654 X dX13_init_654 (fP_X13_248 _ (Or.inr rfl)) e654 rfl rfl ?_
  refine ww_aload_n 657 X dX13_init_657 0 rfl rfl ?_
  refine ww_sipush 658 X (v := (8200 : Int32)) dX13_init_658 (by decide) ?_
  refine ww_newA 661 X (sz := (((((((((((((((((((((((((((((((((((((((z330 + 1) + 1) + 1) + 1) + 1) + 1) + 1) + 1) + 1) + 1) + 1) + 1) + 1) + 1) + 1) + 1) + 1) + 1) + 1) + 1) + 1) + 1) + 1) + 1) + 1) + 1) + 1) + 1) + 1) + 1) + 1) + 1) + 1) + 1) + 1) + 1) + 1) + 1) + 1)) (sl := (((((((((((((((((((((((((((((((((((((((k330 + ((34 : Int32)).toNatClampNeg) + ((34 : Int32)).toNatClampNeg) + ((128 : Int32)).toNatClampNeg) + ((32 : Int32)).toNatClampNeg) + ((32 : Int32)).toNatClampNeg) + ((64 : Int32)).toNatClampNeg) + ((34 : Int32)).toNatClampNeg) + ((32 : Int32)).toNatClampNeg) + ((34 : Int32)).toNatClampNeg) + ((34 : Int32)).toNatClampNeg) + ((34 : Int32)).toNatClampNeg) + ((34 : Int32)).toNatClampNeg) + ((34 : Int32)).toNatClampNeg) + ((34 : Int32)).toNatClampNeg) + ((34 : Int32)).toNatClampNeg) + ((34 : Int32)).toNatClampNeg) + ((34 : Int32)).toNatClampNeg) + ((34 : Int32)).toNatClampNeg) + ((64 : Int32)).toNatClampNeg) + ((64 : Int32)).toNatClampNeg) + ((128 : Int32)).toNatClampNeg) + ((128 : Int32)).toNatClampNeg) + ((16 : Int32)).toNatClampNeg) + ((16 : Int32)).toNatClampNeg) + ((2048 : Int32)).toNatClampNeg) + ((16 : Int32)).toNatClampNeg) + ((2048 : Int32)).toNatClampNeg) + ((16 : Int32)).toNatClampNeg) + ((2048 : Int32)).toNatClampNeg) + ((16 : Int32)).toNatClampNeg) + ((16 : Int32)).toNatClampNeg) + ((131200 : Int32)).toNatClampNeg) + ((16 : Int32)).toNatClampNeg) + ((131200 : Int32)).toNatClampNeg) + ((16 : Int32)).toNatClampNeg) + ((8200 : Int32)).toNatClampNeg) + ((8200 : Int32)).toNatClampNeg) + ((8200 : Int32)).toNatClampNeg) + ((64 : Int32)).toNatClampNeg)) (z0 := z0) (s0 := s0) dX13_init_661 (k := 1) (by decide) rfl aC_1 e661 (by omega) (by omega) (by show _ ≤ Z0 - z0; omega) (by show _ ≤ S0 - s0; omega) ?_
  refine ww_putR 663 X dX13_init_663 (fP_X13_251 _ (Or.inr rfl)) e663 rfl rfl ?_
  refine ww_aload_n 666 X dX13_init_666 0 rfl rfl ?_
  refine ww_sipush 667 X (v := (8200 : Int32)) dX13_init_667 (by decide) ?_
  refine ww_newA 670 X (sz := ((((((((((((((((((((((((((((((((((((((((z330 + 1) + 1) + 1) + 1) + 1) + 1) + 1) + 1) + 1) + 1) + 1) + 1) + 1) + 1) + 1) + 1) + 1) + 1) + 1) + 1) + 1) + 1) + 1) + 1) + 1) + 1) + 1) + 1) + 1) + 1) + 1) + 1) + 1) + 1) + 1) + 1) + 1) + 1) + 1) + 1)) (sl := ((((((((((((((((((((((((((((((((((((((((k330 + ((34 : Int32)).toNatClampNeg) + ((34 : Int32)).toNatClampNeg) + ((128 : Int32)).toNatClampNeg) + ((32 : Int32)).toNatClampNeg) + ((32 : Int32)).toNatClampNeg) + ((64 : Int32)).toNatClampNeg) + ((34 : Int32)).toNatClampNeg) + ((32 : Int32)).toNatClampNeg) + ((34 : Int32)).toNatClampNeg) + ((34 : Int32)).toNatClampNeg) + ((34 : Int32)).toNatClampNeg) + ((34 : Int32)).toNatClampNeg) + ((34 : Int32)).toNatClampNeg) + ((34 : Int32)).toNatClampNeg) + ((34 : Int32)).toNatClampNeg) + ((34 : Int32)).toNatClampNeg) + ((34 : Int32)).toNatClampNeg) + ((34 : Int32)).toNatClampNeg) + ((64 : Int32)).toNatClampNeg) + ((64 : Int32)).toNatClampNeg) + ((128 : Int32)).toNatClampNeg) + ((128 : Int32)).toNatClampNeg) + ((16 : Int32)).toNatClampNeg) + ((16 : Int32)).toNatClampNeg) + ((2048 : Int32)).toNatClampNeg) + ((16 : Int32)).toNatClampNeg) + ((2048 : Int32)).toNatClampNeg) + ((16 : Int32)).toNatClampNeg) + ((2048 : Int32)).toNatClampNeg) + ((16 : Int32)).toNatClampNeg) + ((16 : Int32)).toNatClampNeg) + ((131200 : Int32)).toNatClampNeg) + ((16 : Int32)).toNatClampNeg) + ((131200 : Int32)).toNatClampNeg) + ((16 : Int32)).toNatClampNeg) + ((8200 : Int32)).toNatClampNeg) + ((8200 : Int32)).toNatClampNeg) + ((8200 : Int32)).toNatClampNeg) + ((64 : Int32)).toNatClampNeg) + ((8200 : Int32)).toNatClampNeg)) (z0 := z0) (s0 := s0) dX13_init_670 (k := 1) (by decide) rfl aC_1 e670 (by omega) (by omega) (by show _ ≤ Z0 - z0; omega) (by show _ ≤ S0 - s0; omega) ?_
  refine ww_putR 672 X dX13_init_672 (fP_X13_254 _ (Or.inr rfl)) e672 rfl rfl ?_
  refine ww_aload_n 675 X dX13_init_675 0 rfl rfl ?_
  refine ww_sipush 676 X (v := (8200 : Int32)) dX13_init_676 (by decide) ?_
  refine ww_newA 679 X (sz := (((((((((((((((((((((((((((((((((((((((((z330 + 1) + 1) + 1) + 1) + 1) + 1) + 1) + 1) + 1) + 1) + 1) + 1) + 1) + 1) + 1) + 1) + 1) + 1) + 1) + 1) + 1) + 1) + 1) + 1) + 1) + 1) + 1) + 1) + 1) + 1) + 1) + 1) + 1) + 1) + 1) + 1) + 1) + 1) + 1) + 1) + 1)) (sl := (((((((((((((((((((((((((((((((((((((((((k330 + ((34 : Int32)).toNatClampNeg) + ((34 : Int32)).toNatClampNeg) + ((128 : Int32)).toNatClampNeg) + ((32 : Int32)).toNatClampNeg) + ((32 : Int32)).toNatClampNeg) + ((64 : Int32)).toNatClampNeg) + ((34 : Int32)).toNatClampNeg) + ((32 : Int32)).toNatClampNeg) + ((34 : Int32)).toNatClampNeg) + ((34 : Int32)).toNatClampNeg) + ((34 : Int32)).toNatClampNeg) + ((34 : Int32)).toNatClampNeg) + ((34 : Int32)).toNatClampNeg) + ((34 : Int32)).toNatClampNeg) + ((34 : Int32)).toNatClampNeg) + ((34 : Int32)).toNatClampNeg) + ((34 : Int32)).toNatClampNeg) + ((34 : Int32)).toNatClampNeg) + ((64 : Int32)).toNatClampNeg) + ((64 : Int32)).toNatClampNeg) + ((128 : Int32)).toNatClampNeg) + ((128 : Int32)).toNatClampNeg) + ((16 : Int32)).toNatClampNeg) + ((16 : Int32)).toNatClampNeg) + ((2048 : Int32)).toNatClampNeg) + ((16 : Int32)).toNatClampNeg) + ((2048 : Int32)).toNatClampNeg) + ((16 : Int32)).toNatClampNeg) + ((2048 : Int32)).toNatClampNeg) + ((16 : Int32)).toNatClampNeg) + ((16 : Int32)).toNatClampNeg) + ((131200 : Int32)).toNatClampNeg) + ((16 : Int32)).toNatClampNeg) + ((131200 : Int32)).toNatClampNeg) + ((16 : Int32)).toNatClampNeg) + ((8200 : Int32)).toNatClampNeg) + ((8200 : Int32)).toNatClampNeg) + ((8200 : Int32)).toNatClampNeg) + ((64 : Int32)).toNatClampNeg) + ((8200 : Int32)).toNatClampNeg) + ((8200 : Int32)).toNatClampNeg)) (z0 := z0) (s0 := s0) dX13_init_679 (k := 1) (by decide) rfl aC_1 e679 (by omega) (by omega) (by show _ ≤ Z0 - z0; omega) (by show _ ≤ S0 - s0; omega) ?_
  refine ww_putR 681 X dX13_init_681 (fP_X13_257 _ (Or.inr rfl)) e681 rfl rfl ?_
  refine ww_aload_n 684 X dX13_init_684 0 rfl rfl ?_
  refine ww_bipush 685 X (v := (32 : Int32)) dX13_init_685 (by decide) ?_
  refine ww_newA 687 X (sz := ((((((((((((((((((((((((((((((((((((((((((z330 + 1) + 1) + 1) + 1) + 1) + 1) + 1) + 1) + 1) + 1) + 1) + 1) + 1) + 1) + 1) + 1) + 1) + 1) + 1) + 1) + 1) + 1) + 1) + 1) + 1) + 1) + 1) + 1) + 1) + 1) + 1) + 1) + 1) + 1) + 1) + 1) + 1) + 1) + 1) + 1) + 1) + 1)) (sl := ((((((((((((((((((((((((((((((((((((((((((k330 + ((34 : Int32)).toNatClampNeg) + ((34 : Int32)).toNatClampNeg) + ((128 : Int32)).toNatClampNeg) + ((32 : Int32)).toNatClampNeg) + ((32 : Int32)).toNatClampNeg) + ((64 : Int32)).toNatClampNeg) + ((34 : Int32)).toNatClampNeg) + ((32 : Int32)).toNatClampNeg) + ((34 : Int32)).toNatClampNeg) + ((34 : Int32)).toNatClampNeg) + ((34 : Int32)).toNatClampNeg) + ((34 : Int32)).toNatClampNeg) + ((34 : Int32)).toNatClampNeg) + ((34 : Int32)).toNatClampNeg) + ((34 : Int32)).toNatClampNeg) + ((34 : Int32)).toNatClampNeg) + ((34 : Int32)).toNatClampNeg) + ((34 : Int32)).toNatClampNeg) + ((64 : Int32)).toNatClampNeg) + ((64 : Int32)).toNatClampNeg) + ((128 : Int32)).toNatClampNeg) + ((128 : Int32)).toNatClampNeg) + ((16 : Int32)).toNatClampNeg) + ((16 : Int32)).toNatClampNeg) + ((2048 : Int32)).toNatClampNeg) + ((16 : Int32)).toNatClampNeg) + ((2048 : Int32)).toNatClampNeg) + ((16 : Int32)).toNatClampNeg) + ((2048 : Int32)).toNatClampNeg) + ((16 : Int32)).toNatClampNeg) + ((16 : Int32)).toNatClampNeg) + ((131200 : Int32)).toNatClampNeg) + ((16 : Int32)).toNatClampNeg) + ((131200 : Int32)).toNatClampNeg) + ((16 : Int32)).toNatClampNeg) + ((8200 : Int32)).toNatClampNeg) + ((8200 : Int32)).toNatClampNeg) + ((8200 : Int32)).toNatClampNeg) + ((64 : Int32)).toNatClampNeg) + ((8200 : Int32)).toNatClampNeg) + ((8200 : Int32)).toNatClampNeg) + ((8200 : Int32)).toNatClampNeg)) (z0 := z0) (s0 := s0) dX13_init_687 (k := 1) (by decide) rfl aC_1 e687 (by omega) (by omega) (by show _ ≤ Z0 - z0; omega) (by show _ ≤ S0 - s0; omega) ?_
  refine ww_putR 689 X dX13_init_689 (fP_X13_260 _ (Or.inr rfl)) e689 rfl rfl ?_
  refine ww_aload_n 692 X dX13_init_692 0 rfl rfl ?_
  refine ww_bipush 693 X (v := (64 : Int32)) dX13_init_693 (by decide) ?_
  refine ww_newA 695 X (sz := (((((((((((((((((((((((((((((((((((((((((((z330 + 1) + 1) + 1) + 1) + 1) + 1) + 1) + 1) + 1) + 1) + 1) + 1) + 1) + 1) + 1) + 1) + 1) + 1) + 1) + 1) + 1) + 1) + 1) + 1) + 1) + 1) + 1) + 1) + 1) + 1) + 1) + 1) + 1) + 1) + 1) + 1) + 1) + 1) + 1) + 1) + 1) + 1) + 1)) (sl := (((((((((((((((((((((((((((((((((((((((((((k330 + ((34 : Int32)).toNatClampNeg) + ((34 : Int32)).toNatClampNeg) + ((128 : Int32)).toNatClampNeg) + ((32 : Int32)).toNatClampNeg) + ((32 : Int32)).toNatClampNeg) + ((64 : Int32)).toNatClampNeg) + ((34 : Int32)).toNatClampNeg) + ((32 : Int32)).toNatClampNeg) + ((34 : Int32)).toNatClampNeg) + ((34 : Int32)).toNatClampNeg) + ((34 : Int32)).toNatClampNeg) + ((34 : Int32)).toNatClampNeg) + ((34 : Int32)).toNatClampNeg) + ((34 : Int32)).toNatClampNeg) + ((34 : Int32)).toNatClampNeg) + ((34 : Int32)).toNatClampNeg) + ((34 : Int32)).toNatClampNeg) + ((34 : Int32)).toNatClampNeg) + ((64 : Int32)).toNatClampNeg) + ((64 : Int32)).toNatClampNeg) + ((128 : Int32)).toNatClampNeg) + ((128 : Int32)).toNatClampNeg) + ((16 : Int32)).toNatClampNeg) + ((16 : Int32)).toNatClampNeg) + ((2048 : Int32)).toNatClampNeg) + ((16 : Int32)).toNatClampNeg) + ((2048 : Int32)).toNatClampNeg) + ((16 : Int32)).toNatClampNeg) + ((2048 : Int32)).toNatClampNeg) + ((16 : Int32)).toNatClampNeg) + ((16 : Int32)).toNatClampNeg) + ((131200 : Int32)).toNatClampNeg) + ((16 : Int32)).toNatClampNeg) + ((131200 : Int32)).toNatClampNeg) + ((16 : Int32)).toNatClampNeg) + ((8200 : Int32)).toNatClampNeg) + ((8200 : Int32)).toNatClampNeg) + ((8200 : Int32)).toNatClampNeg) + ((64 : Int32)).toNatClampNeg) + ((8200 : Int32)).toNatClampNeg) + ((8200 : Int32)).toNatClampNeg) + ((8200 : Int32)).toNatClampNeg) + ((32 : Int32)).toNatClampNeg)) (z0 := z0) (s0 := s0) dX13_init_695 (k := 1) (by decide) rfl aC_1 e695 (by omega) (by omega) (by show _ ≤ Z0 - z0; omega) (by show _ ≤ S0 - s0; omega) ?_
  refine ww_putR 697 X dX13_init_697 (fP_X13_263 _ (Or.inr rfl)) e697 rfl rfl ?_
  refine ww_aload_n 700 X dX13_init_700 0 rfl rfl ?_
  refine ww_bipush 701 X (v := (34 : Int32)) dX13_init_701 (by decide) ?_
  refine ww_newA 703 X (sz := ((((((((((((((((((((((((((((((((((((((((((((z330 + 1) + 1) + 1) + 1) + 1) + 1) + 1) + 1) + 1) + 1) + 1) + 1) + 1) + 1) + 1) + 1) + 1) + 1) + 1) + 1) + 1) + 1) + 1) + 1) + 1) + 1) + 1) + 1) + 1) + 1) + 1) + 1) + 1) + 1) + 1) + 1) + 1) + 1) + 1) + 1) + 1) + 1) + 1) + 1)) (sl := ((((((((((((((((((((((((((((((((((((((((((((k330 + ((34 : Int32)).toNatClampNeg) + ((34 : Int32)).toNatClampNeg) + ((128 : Int32)).toNatClampNeg) + ((32 : Int32)).toNatClampNeg) + ((32 : Int32)).toNatClampNeg) + ((64 : Int32)).toNatClampNeg) + ((34 : Int32)).toNatClampNeg) + ((32 : Int32)).toNatClampNeg) + ((34 : Int32)).toNatClampNeg) + ((34 : Int32)).toNatClampNeg) + ((34 : Int32)).toNatClampNeg) + ((34 : Int32)).toNatClampNeg) + ((34 : Int32)).toNatClampNeg) + ((34 : Int32)).toNatClampNeg) + ((34 : Int32)).toNatClampNeg) + ((34 : Int32)).toNatClampNeg) + ((34 : Int32)).toNatClampNeg) + ((34 : Int32)).toNatClampNeg) + ((64 : Int32)).toNatClampNeg) + ((64 : Int32)).toNatClampNeg) + ((128 : Int32)).toNatClampNeg) + ((128 : Int32)).toNatClampNeg) + ((16 : Int32)).toNatClampNeg) + ((16 : Int32)).toNatClampNeg) + ((2048 : Int32)).toNatClampNeg) + ((16 : Int32)).toNatClampNeg) + ((2048 : Int32)).toNatClampNeg) + ((16 : Int32)).toNatClampNeg) + ((2048 : Int32)).toNatClampNeg) + ((16 : Int32)).toNatClampNeg) + ((16 : Int32)).toNatClampNeg) + ((131200 : Int32)).toNatClampNeg) + ((16 : Int32)).toNatClampNeg) + ((131200 : Int32)).toNatClampNeg) + ((16 : Int32)).toNatClampNeg) + ((8200 : Int32)).toNatClampNeg) + ((8200 : Int32)).toNatClampNeg) + ((8200 : Int32)).toNatClampNeg) + ((64 : Int32)).toNatClampNeg) + ((8200 : Int32)).toNatClampNeg) + ((8200 : Int32)).toNatClampNeg) + ((8200 : Int32)).toNatClampNeg) + ((32 : Int32)).toNatClampNeg) + ((64 : Int32)).toNatClampNeg)) (z0 := z0) (s0 := s0) dX13_init_703 (k := 0) (by decide) rfl aC_0 e703 (by omega) (by omega) (by show _ ≤ Z0 - z0; omega) (by show _ ≤ S0 - s0; omega) ?_
  refine ww_putR 705 X dX13_init_705 (fP_X13_266 _ (Or.inr rfl)) e705 rfl rfl ?_
  refine ww_aload_n 708 X dX13_init_708 0 rfl rfl ?_
  refine ww_bipush 709 X (v := (34 : Int32)) dX13_init_709 (by decide) ?_
  refine ww_newA 711 X (sz := (((((((((((((((((((((((((((((((((((((((((((((z330 + 1) + 1) + 1) + 1) + 1) + 1) + 1) + 1) + 1) + 1) + 1) + 1) + 1) + 1) + 1) + 1) + 1) + 1) + 1) + 1) + 1) + 1) + 1) + 1) + 1) + 1) + 1) + 1) + 1) + 1) + 1) + 1) + 1) + 1) + 1) + 1) + 1) + 1) + 1) + 1) + 1) + 1) + 1) + 1) + 1)) (sl := (((((((((((((((((((((((((((((((((((((((((((((k330 + ((34 : Int32)).toNatClampNeg) + ((34 : Int32)).toNatClampNeg) + ((128 : Int32)).toNatClampNeg) + ((32 : Int32)).toNatClampNeg) + ((32 : Int32)).toNatClampNeg) + ((64 : Int32)).toNatClampNeg) + ((34 : Int32)).toNatClampNeg) + ((32 : Int32)).toNatClampNeg) + ((34 : Int32)).toNatClampNeg) + ((34 : Int32)).toNatClampNeg) + ((34 : Int32)).toNatClampNeg) + ((34 : Int32)).toNatClampNeg) + ((34 : Int32)).toNatClampNeg) + ((34 : Int32)).toNatClampNeg) + ((34 : Int32)).toNatClampNeg) + ((34 : Int32)).toNatClampNeg) + ((34 : Int32)).toNatClampNeg) + ((34 : Int32)).toNatClampNeg) + ((64 : Int32)).toNatClampNeg) + ((64 : Int32)).toNatClampNeg) + ((128 : Int32)).toNatClampNeg) + ((128 : Int32)).toNatClampNeg) + ((16 : Int32)).toNatClampNeg) + ((16 : Int32)).toNatClampNeg) + ((2048 : Int32)).toNatClampNeg) + ((16 : Int32)).toNatClampNeg) + ((2048 : Int32)).toNatClampNeg) + ((16 : Int32)).toNatClampNeg) + ((2048 : Int32)).toNatClampNeg) + ((16 : Int32)).toNatClampNeg) + ((16 : Int32)).toNatClampNeg) + ((131200 : Int32)).toNatClampNeg) + ((16 : Int32)).toNatClampNeg) + ((131200 : Int32)).toNatClampNeg) + ((16 : Int32)).toNatClampNeg) + ((8200 : Int32)).toNatClampNeg) + ((8200 : Int32)).toNatClampNeg) + ((8200 : Int32)).toNatClampNeg) + ((64 : Int32)).toNatClampNeg) + ((8200 : Int32)).toNatClampNeg) + ((8200 : Int32)).toNatClampNeg) + ((8200 : Int32)).toNatClampNeg) + ((32 : Int32)).toNatClampNeg) + ((64 : Int32)).toNatClampNeg) + ((34 : Int32)).toNatClampNeg)) (z0 := z0) (s0 := s0) dX13_init_711 (k := 0) (by decide) rfl aC_0 e711 (by omega) (by omega) (by show _ ≤ Z0 - z0; omega) (by show _ ≤ S0 - s0; omega) ?_
  refine ww_putR 713 X dX13_init_713 (fP_X13_269 _ (Or.inr rfl)) e713 rfl rfl ?_
  refine ww_aload_n 716 X dX13_init_716 0 rfl rfl ?_
  refine ww_bipush 717 X (v := (34 : Int32)) dX13_init_717 (by decide) ?_
  refine ww_newA 719 X (sz := ((((((((((((((((((((((((((((((((((((((((((((((z330 + 1) + 1) + 1) + 1) + 1) + 1) + 1) + 1) + 1) + 1) + 1) + 1) + 1) + 1) + 1) + 1) + 1) + 1) + 1) + 1) + 1) + 1) + 1) + 1) + 1) + 1) + 1) + 1) + 1) + 1) + 1) + 1) + 1) + 1) + 1) + 1) + 1) + 1) + 1) + 1) + 1) + 1) + 1) + 1) + 1) + 1)) (sl := ((((((((((((((((((((((((((((((((((((((((((((((k330 + ((34 : Int32)).toNatClampNeg) + ((34 : Int32)).toNatClampNeg) + ((128 : Int32)).toNatClampNeg) + ((32 : Int32)).toNatClampNeg) + ((32 : Int32)).toNatClampNeg) + ((64 : Int32)).toNatClampNeg) + ((34 : Int32)).toNatClampNeg) + ((32 : Int32)).toNatClampNeg) + ((34 : Int32)).toNatClampNeg) + ((34 : Int32)).toNatClampNeg) + ((34 : Int32)).toNatClampNeg) + ((34 : Int32)).toNatClampNeg) + ((34 : Int32)).toNatClampNeg) + ((34 : Int32)).toNatClampNeg) + ((34 : Int32)).toNatClampNeg) + ((34 : Int32)).toNatClampNeg) + ((34 : Int32)).toNatClampNeg) + ((34 : Int32)).toNatClampNeg) + ((64 : Int32)).toNatClampNeg) + ((64 : Int32)).toNatClampNeg) + ((128 : Int32)).toNatClampNeg) + ((128 : Int32)).toNatClampNeg) + ((16 : Int32)).toNatClampNeg) + ((16 : Int32)).toNatClampNeg) + ((2048 : Int32)).toNatClampNeg) + ((16 : Int32)).toNatClampNeg) + ((2048 : Int32)).toNatClampNeg) + ((16 : Int32)).toNatClampNeg) + ((2048 : Int32)).toNatClampNeg) + ((16 : Int32)).toNatClampNeg) + ((16 : Int32)).toNatClampNeg) + ((131200 : Int32)).toNatClampNeg) + ((16 : Int32)).toNatClampNeg) + ((131200 : Int32)).toNatClampNeg) + ((16 : Int32)).toNatClampNeg) + ((8200 : Int32)).toNatClampNeg) + ((8200 : Int32)).toNatClampNeg) + ((8200 : Int32)).toNatClampNeg) + ((64 : Int32)).toNatClampNeg) + ((8200 : Int32)).toNatClampNeg) + ((8200 : Int32)).toNatClampNeg) + ((8200 : Int32)).toNatClampNeg) + ((32 : Int32)).toNatClampNeg) + ((64 : Int32)).toNatClampNeg) + ((34 : Int32)).toNatClampNeg) + ((34 : Int32)).toNatClampNeg)) (z0 := z0) (s0 := s0) dX13_init_719 (k := 0) (by decide) rfl aC_0 e719 (by omega) (by omega) (by show _ ≤ Z0 - z0; omega) (by show _ ≤ S0 - s0; omega) ?_
  refine ww_putR 721 X dX13_init_721 (fP_X13_272 _ (Or.inr rfl)) e721 rfl rfl ?_
  refine ww_aload_n 724 X dX13_init_724 0 rfl rfl ?_
  refine ww_sipush 725 X (v := (8300 : Int32)) dX13_init_725 (by decide) ?_
  refine ww_newA 728 X (sz := (((((((((((((((((((((((((((((((((((((((((((((((z330 + 1) + 1) + 1) + 1) + 1) + 1) + 1) + 1) + 1) + 1) + 1) + 1) + 1) + 1) + 1) + 1) + 1) + 1) + 1) + 1) + 1) + 1) + 1) + 1) + 1) + 1) + 1) + 1) + 1) + 1) + 1) + 1) + 1) + 1) + 1) + 1) + 1) + 1) + 1) + 1) + 1) + 1) + 1) + 1) + 1) + 1) + 1)) (sl := (((((((((((((((((((((((((((((((((((((((((((((((k330 + ((34 : Int32)).toNatClampNeg) + ((34 : Int32)).toNatClampNeg) + ((128 : Int32)).toNatClampNeg) + ((32 : Int32)).toNatClampNeg) + ((32 : Int32)).toNatClampNeg) + ((64 : Int32)).toNatClampNeg) + ((34 : Int32)).toNatClampNeg) + ((32 : Int32)).toNatClampNeg) + ((34 : Int32)).toNatClampNeg) + ((34 : Int32)).toNatClampNeg) + ((34 : Int32)).toNatClampNeg) + ((34 : Int32)).toNatClampNeg) + ((34 : Int32)).toNatClampNeg) + ((34 : Int32)).toNatClampNeg) + ((34 : Int32)).toNatClampNeg) + ((34 : Int32)).toNatClampNeg) + ((34 : Int32)).toNatClampNeg) + ((34 : Int32)).toNatClampNeg) + ((64 : Int32)).toNatClampNeg) + ((64 : Int32)).toNatClampNeg) + ((128 : Int32)).toNatClampNeg) + ((128 : Int32)).toNatClampNeg) + ((16 : Int32)).toNatClampNeg) + ((16 : Int32)).toNatClampNeg) + ((2048 : Int32)).toNatClampNeg) + ((16 : Int32)).toNatClampNeg) + ((2048 : Int32)).toNatClampNeg) + ((16 : Int32)).toNatClampNeg) + ((2048 : Int32)).toNatClampNeg) + ((16 : Int32)).toNatClampNeg) + ((16 : Int32)).toNatClampNeg) + ((131200 : Int32)).toNatClampNeg) + ((16 : Int32)).toNatClampNeg) + ((131200 : Int32)).toNatClampNeg) + ((16 : Int32)).toNatClampNeg) + ((8200 : Int32)).toNatClampNeg) + ((8200 : Int32)).toNatClampNeg) + ((8200 : Int32)).toNatClampNeg) + ((64 : Int32)).toNatClampNeg) + ((8200 : Int32)).toNatClampNeg) + ((8200 : Int32)).toNatClampNeg) + ((8200 : Int32)).toNatClampNeg) + ((32 : Int32)).toNatClampNeg) + ((64 : Int32)).toNatClampNeg) + ((34 : Int32)).toNatClampNeg) + ((34 : Int32)).toNatClampNeg) + ((34 : Int32)).toNatClampNeg)) (z0 := z0) (s0 := s0) dX13_init_728 (k := 1) (by decide) rfl aC_1 e728 (by omega) (by omega) (by show _ ≤ Z0 - z0; omega) (by show _ ≤ S0 - s0; omega) ?_
  refine ww_putR 730 X dX13_init_730 (fP_X13_275 _ (Or.inr rfl)) e730 rfl rfl ?_
  refine ww_aload_n 733 X dX13_init_733 0 rfl rfl ?_
  refine ww_ldcw 734 X (v := (60000 : Int32)) dX13_init_734 kI_X13_278 ?_
  refine ww_newA 737 X (sz := ((((((((((((((((((((((((((((((((((((((((((((((((z330 + 1) + 1) + 1) + 1) + 1) + 1) + 1) + 1) + 1) + 1) + 1) + 1) + 1) + 1) + 1) + 1) + 1) + 1) + 1) + 1) + 1) + 1) + 1) + 1) + 1) + 1) + 1) + 1) + 1) + 1) + 1) + 1) + 1) + 1) + 1) + 1) + 1) + 1) + 1) + 1) + 1) + 1) + 1) + 1) + 1) + 1) + 1) + 1)) (sl := ((((((((((((((((((((((((((((((((((((((((((((((((k330 + ((34 : Int32)).toNatClampNeg) + ((34 : Int32)).toNatClampNeg) + ((128 : Int32)).toNatClampNeg) + ((32 : Int32)).toNatClampNeg) + ((32 : Int32)).toNatClampNeg) + ((64 : Int32)).toNatClampNeg) + ((34 : Int32)).toNatClampNeg) + ((32 : Int32)).toNatClampNeg) + ((34 : Int32)).toNatClampNeg) + ((34 : Int32)).toNatClampNeg) + ((34 : Int32)).toNatClampNeg) + ((34 : Int32)).toNatClampNeg) + ((34 : Int32)).toNatClampNeg) + ((34 : Int32)).toNatClampNeg) + ((34 : Int32)).toNatClampNeg) + ((34 : Int32)).toNatClampNeg) + ((34 : Int32)).toNatClampNeg) + ((34 : Int32)).toNatClampNeg) + ((64 : Int32)).toNatClampNeg) + ((64 : Int32)).toNatClampNeg) + ((128 : Int32)).toNatClampNeg) + ((128 : Int32)).toNatClampNeg) + ((16 : Int32)).toNatClampNeg) + ((16 : Int32)).toNatClampNeg) + ((2048 : Int32)).toNatClampNeg) + ((16 : Int32)).toNatClampNeg) + ((2048 : Int32)).toNatClampNeg) + ((16 : Int32)).toNatClampNeg) + ((2048 : Int32)).toNatClampNeg) + ((16 : Int32)).toNatClampNeg) + ((16 : Int32)).toNatClampNeg) + ((131200 : Int32)).toNatClampNeg) + ((16 : Int32)).toNatClampNeg) + ((131200 : Int32)).toNatClampNeg) + ((16 : Int32)).toNatClampNeg) + ((8200 : Int32)).toNatClampNeg) + ((8200 : Int32)).toNatClampNeg) + ((8200 : Int32)).toNatClampNeg) + ((64 : Int32)).toNatClampNeg) + ((8200 : Int32)).toNatClampNeg) + ((8200 : Int32)).toNatClampNeg) + ((8200 : Int32)).toNatClampNeg) + ((32 : Int32)).toNatClampNeg) + ((64 : Int32)).toNatClampNeg) + ((34 : Int32)).toNatClampNeg) + ((34 : Int32)).toNatClampNeg) + ((34 : Int32)).toNatClampNeg) + ((8300 : Int32)).toNatClampNeg)) (z0 := z0) (s0 := s0) dX13_init_737 (k := 1) (by decide) rfl aC_1 e737 (by omega) (by omega) (by show _ ≤ Z0 - z0; omega) (by show _ ≤ S0 - s0; omega) ?_
  refine ww_putR 739 X dX13_init_739 (fP_X13_279 _ (Or.inr rfl)) e739 rfl rfl ?_
  refine ww_aload_n 742 X dX13_init_742 0 rfl rfl ?_
  refine ww_bipush 743 X (v := (6 : Int32)) dX13_init_743 (by decide) ?_
  refine ww_newA 745 X (sz := (((((((((((((((((((((((((((((((((((((((((((((((((z330 + 1) + 1) + 1) + 1) + 1) + 1) + 1) + 1) + 1) + 1) + 1) + 1) + 1) + 1) + 1) + 1) + 1) + 1) + 1) + 1) + 1) + 1) + 1) + 1) + 1) + 1) + 1) + 1) + 1) + 1) + 1) + 1) + 1) + 1) + 1) + 1) + 1) + 1) + 1) + 1) + 1) + 1) + 1) + 1) + 1) + 1) + 1) + 1) + 1)) (sl := (((((((((((((((((((((((((((((((((((((((((((((((((k330 + ((34 : Int32)).toNatClampNeg) + ((34 : Int32)).toNatClampNeg) + ((128 : Int32)).toNatClampNeg) + ((32 : Int32)).toNatClampNeg) + ((32 : Int32)).toNatClampNeg) + ((64 : Int32)).toNatClampNeg) + ((34 : Int32)).toNatClampNeg) + ((32 : Int32)).toNatClampNeg) + ((34 : Int32)).toNatClampNeg) + ((34 : Int32)).toNatClampNeg) + ((34 : Int32)).toNatClampNeg) + ((34 : Int32)).toNatClampNeg) + ((34 : Int32)).toNatClampNeg) + ((34 : Int32)).toNatClampNeg) + ((34 : Int32)).toNatClampNeg) + ((34 : Int32)).toNatClampNeg) + ((34 : Int32)).toNatClampNeg) + ((34 : Int32)).toNatClampNeg) + ((64 : Int32)).toNatClampNeg) + ((64 : Int32)).toNatClampNeg) + ((128 : Int32)).toNatClampNeg) + ((128 : Int32)).toNatClampNeg) + ((16 : Int32)).toNatClampNeg) + ((16 : Int32)).toNatClampNeg) + ((2048 : Int32)).toNatClampNeg) + ((16 : Int32)).toNatClampNeg) + ((2048 : Int32)).toNatClampNeg) + ((16 : Int32)).toNatClampNeg) + ((2048 : Int32)).toNatClampNeg) + ((16 : Int32)).toNatClampNeg) + ((16 : Int32)).toNatClampNeg) + ((131200 : Int32)).toNatClampNeg) + ((16 : Int32)).toNatClampNeg) + ((131200 : Int32)).toNatClampNeg) + ((16 : Int32)).toNatClampNeg) + ((8200 : Int32)).toNatClampNeg) + ((8200 : Int32)).toNatClampNeg) + ((8200 : Int32)).toNatClampNeg) + ((64 : Int32)).toNatClampNeg) + ((8200 : Int32)).toNatClampNeg) + ((8200 : Int32)).toNatClampNeg) + ((8200 : Int32)).toNatClampNeg) + ((32 : Int32)).toNatClampNeg) + ((64 : Int32)).toNatClampNeg) + ((34 : Int32)).toNatClampNeg) + ((34 : Int32)).toNatClampNeg) + ((34 : Int32)).toNatClampNeg) + ((8300 : Int32)).toNatClampNeg) + ((60000 : Int32)).toNatClampNeg)) (z0 := z0) (s0 := s0) dX13_init_745 (k := 0) (by decide) rfl aC_0 e745 (by omega) (by omega) (by show _ ≤ Z0 - z0; omega) (by show _ ≤ S0 - s0; omega) ?_
  refine ww_putR 747 X dX13_init_747 (fP_X13_282 _ (Or.inr rfl)) e747 rfl rfl ?_
  refine ww_aload_n 750 X dX13_init_750 0 rfl rfl ?_
  refine ww_sipush 751 X (v := (8200 : Int32)) dX13_init_751 (by decide) ?_
  refine ww_newA 754 X (sz := ((((((((((((((((((((((((((((((((((((((((((((((((((z330 + 1) + 1) + 1) + 1) + 1) + 1) + 1) + 1) + 1) + 1) + 1) + 1) + 1) + 1) + 1) + 1) + 1) + 1) + 1) + 1) + 1) + 1) + 1) + 1) + 1) + 1) + 1) + 1) + 1) + 1) + 1) + 1) + 1) + 1) + 1) + 1) + 1) + 1) + 1) + 1) + 1) + 1) + 1) + 1) + 1) + 1) + 1) + 1) + 1) + 1)) (sl := ((((((((((((((((((((((((((((((((((((((((((((((((((k330 + ((34 : Int32)).toNatClampNeg) + ((34 : Int32)).toNatClampNeg) + ((128 : Int32)).toNatClampNeg) + ((32 : Int32)).toNatClampNeg) + ((32 : Int32)).toNatClampNeg) + ((64 : Int32)).toNatClampNeg) + ((34 : Int32)).toNatClampNeg) + ((32 : Int32)).toNatClampNeg) + ((34 : Int32)).toNatClampNeg) + ((34 : Int32)).toNatClampNeg) + ((34 : Int32)).toNatClampNeg) + ((34 : Int32)).toNatClampNeg) + ((34 : Int32)).toNatClampNeg) + ((34 : Int32)).toNatClampNeg) + ((34 : Int32)).toNatClampNeg) + ((34 : Int32)).toNatClampNeg) + ((34 : Int32)).toNatClampNeg) + ((34 : Int32)).toNatClampNeg) + ((64 : Int32)).toNatClampNeg) + ((64 : Int32)).toNatClampNeg) + ((128 : Int32)).toNatClampNeg) + ((128 : Int32)).toNatClampNeg) + ((16 : Int32)).toNatClampNeg) + ((16 : Int32)).toNatClampNeg) + ((2048 : Int32)).toNatClampNeg) + ((16 : Int32)).toNatClampNeg) + ((2048 : Int32)).toNatClampNeg) + ((16 : Int32)).toNatClampNeg) + ((2048 : Int32)).toNatClampNeg) + ((16 : Int32)).toNatClampNeg) + ((16 : Int32)).toNatClampNeg) + ((131200 : Int32)).toNatClampNeg) + ((16 : Int32)).toNatClampNeg) + ((131200 : Int32)).toNatClampNeg) + ((16 : Int32)).toNatClampNeg) + ((8200 : Int32)).toNatClampNeg) + ((8200 : Int32)).toNatClampNeg) + ((8200 : Int32)).toNatClampNeg) + ((64 : Int32)).toNatClampNeg) + ((8200 : Int32)).toNatClampNeg) + ((8200 : Int32)).toNatClampNeg) + ((8200 : Int32)).toNatClampNeg) + ((32 : Int32)).toNatClampNeg) + ((64 : Int32)).toNatClampNeg) + ((34 : Int32)).toNatClampNeg) + ((34 : Int32)).toNatClampNeg) + ((34 : Int32)).toNatClampNeg) + ((8300 : Int32)).toNatClampNeg) + ((60000 : Int32)).toNatClampNeg) + ((6 : Int32)).toNatClampNeg)) (z0 := z0) (s0 := s0) dX13_init_754 (k := 1) (by decide) rfl aC_1 e754 (by omega) (by omega) (by show _ ≤ Z0 - z0; omega) (by show _ ≤ S0 - s0; omega) ?_
  refine ww_putR 756 X dX13_init_756 (fP_X13_285 _ (Or.inr rfl)) e756 rfl rfl ?_
  refine ww_aload_n 759 X dX13_init_759 0 rfl rfl ?_
  refine ww_bipush 760 X (v := (64 : Int32)) dX13_init_760 (by decide) ?_
  refine ww_newA 762 X (sz := (((((((((((((((((((((((((((((((((((((((((((((((((((z330 + 1) + 1) + 1) + 1) + 1) + 1) + 1) + 1) + 1) + 1) + 1) + 1) + 1) + 1) + 1) + 1) + 1) + 1) + 1) + 1) + 1) + 1) + 1) + 1) + 1) + 1) + 1) + 1) + 1) + 1) + 1) + 1) + 1) + 1) + 1) + 1) + 1) + 1) + 1) + 1) + 1) + 1) + 1) + 1) + 1) + 1) + 1) + 1) + 1) + 1) + 1)) (sl := (((((((((((((((((((((((((((((((((((((((((((((((((((k330 + ((34 : Int32)).toNatClampNeg) + ((34 : Int32)).toNatClampNeg) + ((128 : Int32)).toNatClampNeg) + ((32 : Int32)).toNatClampNeg) + ((32 : Int32)).toNatClampNeg) + ((64 : Int32)).toNatClampNeg) + ((34 : Int32)).toNatClampNeg) + ((32 : Int32)).toNatClampNeg) + ((34 : Int32)).toNatClampNeg) + ((34 : Int32)).toNatClampNeg) + ((34 : Int32)).toNatClampNeg) + ((34 : Int32)).toNatClampNeg) + ((34 : Int32)).toNatClampNeg) + ((34 : Int32)).toNatClampNeg) + ((34 : Int32)).toNatClampNeg) + ((34 : Int32)).toNatClampNeg) + ((34 : Int32)).toNatClampNeg) + ((34 : Int32)).toNatClampNeg) + ((64 : Int32)).toNatClampNeg) + ((64 : Int32)).toNatClampNeg) + ((128 : Int32)).toNatClampNeg) + ((128 : Int32)).toNatClampNeg) + ((16 : Int32)).toNatClampNeg) + ((16 : Int32)).toNatClampNeg) + ((2048 : Int32)).toNatClampNeg) + ((16 : Int32)).toNatClampNeg) + ((2048 : Int32)).toNatClampNeg) + ((16 : Int32)).toNatClampNeg) + ((2048 : Int32)).toNatClampNeg) + ((16 : Int32)).toNatClampNeg) + ((16 : Int32)).toNatClampNeg) + ((131200 : Int32)).toNatClampNeg) + ((16 : Int32)).toNatClampNeg) + ((131200 : Int32)).toNatClampNeg) + ((16 : Int32)).toNatClampNeg) + ((8200 : Int32)).toNatClampNeg) + ((8200 : Int32)).toNatClampNeg) + ((8200 : Int32)).toNatClampNeg) + ((64 : Int32)).toNatClampNeg) + ((8200 : Int32)).toNatClampNeg) + ((8200 : Int32)).toNatClampNeg) + ((8200 : Int32)).toNatClampNeg) + ((32 : Int32)).toNatClampNeg) + ((64 : Int32)).toNatClampNeg) + ((34 : Int32)).toNatClampNeg) + ((34 : Int32)).toNatClampNeg) + ((34 : Int32)).toNatClampNeg) + ((8300 : Int32)).toNatClampNeg) + ((60000 : Int32)).toNatClampNeg) + ((6 : Int32)).toNatClampNeg) + ((8200 : Int32)).toNatClampNeg)) (z0 := z0) (s0 := s0) dX13_init_762 (k := 1) (by decide) rfl aC_1 e762 (by omega) (by omega) (by show _ ≤ Z0 - z0; omega) (by show _ ≤ S0 - s0; omega) ?_
  refine ww_putR 764 X dX13_init_764 (fP_X13_288 _ (Or.inr rfl)) e764 rfl rfl ?_
  refine ww_aload_n 767 X dX13_init_767 0 rfl rfl ?_
  refine ww_sipush 768 X (v := (8200 : Int32)) dX13_init_768 (by decide) ?_
  refine ww_newA 771 X (sz := ((((((((((((((((((((((((((((((((((((((((((((((((((((z330 + 1) + 1) + 1) + 1) + 1) + 1) + 1) + 1) + 1) + 1) + 1) + 1) + 1) + 1) + 1) + 1) + 1) + 1) + 1) + 1) + 1) + 1) + 1) + 1) + 1) + 1) + 1) + 1) + 1) + 1) + 1) + 1) + 1) + 1) + 1) + 1) + 1) + 1) + 1) + 1) + 1) + 1) + 1) + 1) + 1) + 1) + 1) + 1) + 1) + 1) + 1) + 1)) (sl := ((((((((((((((((((((((((((((((((((((((((((((((((((((k330 + ((34 : Int32)).toNatClampNeg) + ((34 : Int32)).toNatClampNeg) + ((128 : Int32)).toNatClampNeg) + ((32 : Int32)).toNatClampNeg) + ((32 : Int32)).toNatClampNeg) + ((64 : Int32)).toNatClampNeg) + ((34 : Int32)).toNatClampNeg) + ((32 : Int32)).toNatClampNeg) + ((34 : Int32)).toNatClampNeg) + ((34 : Int32)).toNatClampNeg) + ((34 : Int32)).toNatClampNeg) + ((34 : Int32)).toNatClampNeg) + ((34 : Int32)).toNatClampNeg) + ((34 : Int32)).toNatClampNeg) + ((34 : Int32)).toNatClampNeg) + ((34 : Int32)).toNatClampNeg) + ((34 : Int32)).toNatClampNeg) + ((34 : Int32)).toNatClampNeg) + ((64 : Int32)).toNatClampNeg) + ((64 : Int32)).toNatClampNeg) + ((128 : Int32)).toNatClampNeg) + ((128 : Int32)).toNatClampNeg) + ((16 : Int32)).toNatClampNeg) + ((16 : Int32)).toNatClampNeg) + ((2048 : Int32)).toNatClampNeg) + ((16 : Int32)).toNatClampNeg) + ((2048 : Int32)).toNatClampNeg) + ((16 : Int32)).toNatClampNeg) + ((2048 : Int32)).toNatClampNeg) + ((16 : Int32)).toNatClampNeg) + ((16 : Int32)).toNatClampNeg) + ((131200 : Int32)).toNatClampNeg) + ((16 : Int32)).toNatClampNeg) + ((131200 : Int32)).toNatClampNeg) + ((16 : Int32)).toNatClampNeg) + ((8200 : Int32)).toNatClampNeg) + ((8200 : Int32)).toNatClampNeg) + ((8200 : Int32)).toNatClampNeg) + ((64 : Int32)).toNatClampNeg) + ((8200 : Int32)).toNatClampNeg) + ((8200 : Int32)).toNatClampNeg) + ((8200 : Int32)).toNatClampNeg) + ((32 : Int32)).toNatClampNeg) + ((64 : Int32)).toNatClampNeg) + ((34 : Int32)).toNatClampNeg) + ((34 : Int32)).toNatClampNeg) + ((34 : Int32)).toNatClampNeg) + ((8300 : Int32)).toNatClampNeg) + ((60000 : Int32)).toNatClampNeg) + ((6 : Int32)).toNatClampNeg) + ((8200 : Int32)).toNatClampNeg) + ((64 : Int32)).toNatClampNeg)) (z0 := z0) (s0 := s0) dX13_init_771 (k := 1) (by decide) rfl aC_1 e771 (by omega) (by omega) (by show _ ≤ Z0 - z0; omega) (by show _ ≤ S0 - s0; omega) ?_
  refine ww_putR 773 X dX13_init_773 (fP_X13_291 _ (Or.inr rfl)) e773 rfl rfl ?_
  refine ww_aload_n 776 X dX13_init_776 0 rfl rfl ?_
  refine ww_sipush 777 X (v := (8200 : Int32)) dX13_init_777 (by decide) ?_
  refine ww_newA 780 X (sz := (((((((((((((((((((((((((((((((((((((((((((((((((((((z330 + 1) + 1) + 1) + 1) + 1) + 1) + 1) + 1) + 1) + 1) + 1) + 1) + 1) + 1) + 1) + 1) + 1) + 1) + 1) + 1) + 1) + 1) + 1) + 1) + 1) + 1) + 1) + 1) + 1) + 1) + 1) + 1) + 1) + 1) + 1) + 1) + 1) + 1) + 1) + 1) + 1) + 1) + 1) + 1) + 1) + 1) + 1) + 1) + 1) + 1) + 1) + 1) + 1)) (sl := (((((((((((((((((((((((((((((((((((((((((((((((((((((k330 + ((34 : Int32)).toNatClampNeg) + ((34 : Int32)).toNatClampNeg) + ((128 : Int32)).toNatClampNeg) + ((32 : Int32)).toNatClampNeg) + ((32 : Int32)).toNatClampNeg) + ((64 : Int32)).toNatClampNeg) + ((34 : Int32)).toNatClampNeg) + ((32 : Int32)).toNatClampNeg) + ((34 : Int32)).toNatClampNeg) + ((34 : Int32)).toNatClampNeg) + ((34 : Int32)).toNatClampNeg) + ((34 : Int32)).toNatClampNeg) + ((34 : Int32)).toNatClampNeg) + ((34 : Int32)).toNatClampNeg) + ((34 : Int32)).toNatClampNeg) + ((34 : Int32)).toNatClampNeg) + ((34 : Int32)).toNatClampNeg) + ((34 : Int32)).toNatClampNeg) + ((64 : Int32)).toNatClampNeg) + ((64 : Int32)).toNatClampNeg) + ((128 : Int32)).toNatClampNeg) + ((128 : Int32)).toNatClampNeg) + ((16 : Int32)).toNatClampNeg) + ((16 : Int32)).toNatClampNeg) + ((2048 : Int32)).toNatClampNeg) + ((16 : Int32)).toNatClampNeg) + ((2048 : Int32)).toNatClampNeg) + ((16 : Int32)).toNatClampNeg) + ((2048 : Int32)).toNatClampNeg) + ((16 : Int32)).toNatClampNeg) + ((16 : Int32)).toNatClampNeg) + ((131200 : Int32)).toNatClampNeg) + ((16 : Int32)).toNatClampNeg) + ((131200 : Int32)).toNatClampNeg) + ((16 : Int32)).toNatClampNeg) + ((8200 : Int32)).toNatClampNeg) + ((8200 : Int32)).toNatClampNeg) + ((8200 : Int32)).toNatClampNeg) + ((64 : Int32)).toNatClampNeg) + ((8200 : Int32)).toNatClampNeg) + ((8200 : Int32)).toNatClampNeg) + ((8200 : Int32)).toNatClampNeg) + ((32 : Int32)).toNatClampNeg) + ((64 : Int32)).toNatClampNeg) + ((34 : Int32)).toNatClampNeg) + ((34 : Int32)).toNatClampNeg) + ((34 : Int32)).toNatClampNeg) + ((8300 : Int32)).toNatClampNeg) + ((60000 : Int32)).toNatClampNeg) + ((6 : Int32)).toNatClampNeg) + ((8200 : Int32)).toNatClampNeg) + ((64 : Int32)).toNatClampNeg) + ((8200 : Int32)).toNatClampNeg)) (z0 := z0) (s0 := s0) dX13_init_780 (k := 1) (by decide) rfl aC_1 e780 (by omega) (by omega) (by show _ ≤ Z0 - z0; omega) (by show _ ≤ S0 - s0; omega) ?_
  refine ww_putR 782 X dX13_init_782 (fP_X13_294 _ (Or.inr rfl)) e782 rfl rfl ?_
  refine ww_aload_n 785 X dX13_init_785 0 rfl rfl ?_
  refine ww_bipush 786 X (v := (64 : Int32)) dX13_init_786 (by decide) ?_
  refine ww_newA 788 X (sz := ((((((((((((((((((((((((((((((((((((((((((((((((((((((z330 + 1) + 1) + 1) + 1) + 1) + 1) + 1) + 1) + 1) + 1) + 1) + 1) + 1) + 1) + 1) + 1) + 1) + 1) + 1) + 1) + 1) + 1) + 1) + 1) + 1) + 1) + 1) + 1) + 1) + 1) + 1) + 1) + 1) + 1) + 1) + 1) + 1) + 1) + 1) + 1) + 1) + 1) + 1) + 1) + 1) + 1) + 1) + 1) + 1) + 1) + 1) + 1) + 1) + 1)) (sl := ((((((((((((((((((((((((((((((((((((((((((((((((((((((k330 + ((34 : Int32)).toNatClampNeg) + ((34 : Int32)).toNatClampNeg) + ((128 : Int32)).toNatClampNeg) + ((32 : Int32)).toNatClampNeg) + ((32 : Int32)).toNatClampNeg) + ((64 : Int32)).toNatClampNeg) + ((34 : Int32)).toNatClampNeg) + ((32 : Int32)).toNatClampNeg) + ((34 : Int32)).toNatClampNeg) + ((34 : Int32)).toNatClampNeg) + ((34 : Int32)).toNatClampNeg) + ((34 : Int32)).toNatClampNeg) + ((34 : Int32)).toNatClampNeg) + ((34 : Int32)).toNatClampNeg) + ((34 : Int32)).toNatClampNeg) + ((34 : Int32)).toNatClampNeg) + ((34 : Int32)).toNatClampNeg) + ((34 : Int32)).toNatClampNeg) + ((64 : Int32)).toNatClampNeg) + ((64 : Int32)).toNatClampNeg) + ((128 : Int32)).toNatClampNeg) + ((128 : Int32)).toNatClampNeg) + ((16 : Int32)).toNatClampNeg) + ((16 : Int32)).toNatClampNeg) + ((2048 : Int32)).toNatClampNeg) + ((16 : Int32)).toNatClampNeg) + ((2048 : Int32)).toNatClampNeg) + ((16 : Int32)).toNatClampNeg) + ((2048 : Int32)).toNatClampNeg) + ((16 : Int32)).toNatClampNeg) + ((16 : Int32)).toNatClampNeg) + ((131200 : Int32)).toNatClampNeg) + ((16 : Int32)).toNatClampNeg) + ((131200 : Int32)).toNatClampNeg) + ((16 : Int32)).toNatClampNeg) + ((8200 : Int32)).toNatClampNeg) + ((8200 : Int32)).toNatClampNeg) + ((8200 : Int32)).toNatClampNeg) + ((64 : Int32)).toNatClampNeg) + ((8200 : Int32)).toNatClampNeg) + ((8200 : Int32)).toNatClampNeg) + ((8200 : Int32)).toNatClampNeg) + ((32 : Int32)).toNatClampNeg) + ((64 : Int32)).toNatClampNeg) + ((34 : Int32)).toNatClampNeg) + ((34 : Int32)).toNatClampNeg) + ((34 : Int32)).toNatClampNeg) + ((8300 : Int32)).toNatClampNeg) + ((60000 : Int32)).toNatClampNeg) + ((6 : Int32)).toNatClampNeg) + ((8200 : Int32)).toNatClampNeg) + ((64 : Int32)).toNatClampNeg) + ((8200 : Int32)).toNatClampNeg) + ((8200 : Int32)).toNatClampNeg)) (z0 := z0) (s0 := s0) dX13_init_788 (k := 1) (by decide) rfl aC_1 e788 (by omega) (by omega) (by show _ ≤ Z0 - z0; omega) (by show _ ≤ S0 - s0; omega) ?_
  refine ww_putR 790 X dX13_init_790 (fP_X13_297 _ (Or.inr rfl)) e790 rfl rfl ?_
  refine ww_aload_n 793 X dX13_init_793 0 rfl rfl ?_
  refine ww_bipush 794 X (v := (32 : Int32)) dX13_init_794 (by decide) ?_
  refine ww_newA 796 X (sz := (((((((((((((((((((((((((((((((((((((((((((((((((((((((z330 + 1) + 1) + 1) + 1) + 1) + 1) + 1) + 1) + 1) + 1) + 1) + 1) + 1) + 1) + 1) + 1) + 1) + 1) + 1) + 1) + 1) + 1) + 1) + 1) + 1) + 1) + 1) + 1) + 1) + 1) + 1) + 1) + 1) + 1) + 1) + 1) + 1) + 1) + 1) + 1) + 1) + 1) + 1) + 1) + 1) + 1) + 1) + 1) + 1) + 1) + 1) + 1) + 1) + 1) + 1)) (sl := (((((((((((((((((((((((((((((((((((((((((((((((((((((((k330 + ((34 : Int32)).toNatClampNeg) + ((34 : Int32)).toNatClampNeg) + ((128 : Int32)).toNatClampNeg) + ((32 : Int32)).toNatClampNeg) + ((32 : Int32)).toNatClampNeg) + ((64 : Int32)).toNatClampNeg) + ((34 : Int32)).toNatClampNeg) + ((32 : Int32)).toNatClampNeg) + ((34 : Int32)).toNatClampNeg) + ((34 : Int32)).toNatClampNeg) + ((34 : Int32)).toNatClampNeg) + ((34 : Int32)).toNatClampNeg) + ((34 : Int32)).toNatClampNeg) + ((34 : Int32)).toNatClampNeg) + ((34 : Int32)).toNatClampNeg) + ((34 : Int32)).toNatClampNeg) + ((34 : Int32)).toNatClampNeg) + ((34 : Int32)).toNatClampNeg) + ((64 : Int32)).toNatClampNeg) + ((64 : Int32)).toNatClampNeg) + ((128 : Int32)).toNatClampNeg) + ((128 : Int32)).toNatClampNeg) + ((16 : Int32)).toNatClampNeg) + ((16 : Int32)).toNatClampNeg) + ((2048 : Int32)).toNatClampNeg) + ((16 : Int32)).toNatClampNeg) + ((2048 : Int32)).toNatClampNeg) + ((16 : Int32)).toNatClampNeg) + ((2048 : Int32)).toNatClampNeg) + ((16 : Int32)).toNatClampNeg) + ((16 : Int32)).toNatClampNeg) + ((131200 : Int32)).toNatClampNeg) + ((16 : Int32)).toNatClampNeg) + ((131200 : Int32)).toNatClampNeg) + ((16 : Int32)).toNatClampNeg) + ((8200 : Int32)).toNatClampNeg) + ((8200 : Int32)).toNatClampNeg) + ((8200 : Int32)).toNatClampNeg) + ((64 : Int32)).toNatClampNeg) + ((8200 : Int32)).toNatClampNeg) + ((8200 : Int32)).toNatClampNeg) + ((8200 : Int32)).toNatClampNeg) + ((32 : Int32)).toNatClampNeg) + ((64 : Int32)).toNatClampNeg) + ((34 : Int32)).toNatClampNeg) + ((34 : Int32)).toNatClampNeg) + ((34 : Int32)).toNatClampNeg) + ((8300 : Int32)).toNatClampNeg) + ((60000 : Int32)).toNatClampNeg) + ((6 : Int32)).toNatClampNeg) + ((8200 : Int32)).toNatClampNeg) + ((64 : Int32)).toNatClampNeg) + ((8200 : Int32)).toNatClampNeg) + ((8200 : Int32)).toNatClampNeg) + ((64 : Int32)).toNatClampNeg)) (z0 := z0) (s0 := s0) dX13_init_796 (k := 1) (by decide) rfl aC_1 e796 (by omega) (by omega) (by show _ ≤ Z0 - z0; omega) (by show _ ≤ S0 - s0; omega) ?_
  refine ww_putR 798 X dX13_init_798 (fP_X13_300 _ (Or.inr rfl)) e798 rfl rfl ?_
  refine ww_aload_n 801 X dX13_init_801 0 rfl rfl ?_
  refine ww_sipush 802 X (v := (8200 : Int32)) dX13_init_802 (by decide) ?_
  refine ww_newA 805 X (sz := ((((((((((((((((((((((((((((((((((((((((((((((((((((((((z330 + 1) + 1) + 1) + 1) + 1) + 1) + 1) + 1) + 1) + 1) + 1) + 1) + 1) + 1) + 1) + 1) + 1) + 1) + 1) + 1) + 1) + 1) + 1) + 1) + 1) + 1) + 1) + 1) + 1) + 1) + 1) + 1) + 1) + 1) + 1) + 1) + 1) + 1) + 1) + 1) + 1) + 1) + 1) + 1) + 1) + 1) + 1) + 1) + 1) + 1) + 1) + 1) + 1) + 1) + 1) + 1)) (sl := ((((((((((((((((((((((((((((((((((((((((((((((((((((((((k330 + ((34 : Int32)).toNatClampNeg) + ((34 : Int32)).toNatClampNeg) + ((128 : Int32)).toNatClampNeg) + ((32 : Int32)).toNatClampNeg) + ((32 : Int32)).toNatClampNeg) + ((64 : Int32)).toNatClampNeg) + ((34 : Int32)).toNatClampNeg) + ((32 : Int32)).toNatClampNeg) + ((34 : Int32)).toNatClampNeg) + ((34 : Int32)).toNatClampNeg) + ((34 : Int32)).toNatClampNeg) + ((34 : Int32)).toNatClampNeg) + ((34 : Int32)).toNatClampNeg) + ((34 : Int32)).toNatClampNeg) + ((34 : Int32)).toNatClampNeg) + ((34 : Int32)).toNatClampNeg) + ((34 : Int32)).toNatClampNeg) + ((34 : Int32)).toNatClampNeg) + ((64 : Int32)).toNatClampNeg) + ((64 : Int32)).toNatClampNeg) + ((128 : Int32)).toNatClampNeg) + ((128 : Int32)).toNatClampNeg) + ((16 : Int32)).toNatClampNeg) + ((16 : Int32)).toNatClampNeg) + ((2048 : Int32)).toNatClampNeg) + ((16 : Int32)).toNatClampNeg) + ((2048 : Int32)).toNatClampNeg) + ((16 : Int32)).toNatClampNeg) + ((2048 : Int32)).toNatClampNeg) + ((16 : Int32)).toNatClampNeg) + ((16 : Int32)).toNatClampNeg) + ((131200 : Int32)).toNatClampNeg) + ((16 : Int32)).toNatClampNeg) + ((131200 : Int32)).toNatClampNeg) + ((16 : Int32)).toNatClampNeg) + ((8200 : Int32)).toNatClampNeg) + ((8200 : Int32)).toNatClampNeg) + ((8200 : Int32)).toNatClampNeg) + ((64 : Int32)).toNatClampNeg) + ((8200 : Int32)).toNatClampNeg) + ((8200 : Int32)).toNatClampNeg) + ((8200 : Int32)).toNatClampNeg) + ((32 : Int32)).toNatClampNeg) + ((64 : Int32)).toNatClampNeg) + ((34 : Int32)).toNatClampNeg) + ((34 : Int32)).toNatClampNeg) + ((34 : Int32)).toNatClampNeg) + ((8300 : Int32)).toNatClampNeg) + ((60000 : Int32)).toNatClampNeg) + ((6 : Int32)).toNatClampNeg) + ((8200 : Int32)).toNatClampNeg) + ((64 : Int32)).toNatClampNeg) + ((8200 : Int32)).toNatClampNeg) + ((8200 : Int32)).toNatClampNeg) + ((64 : Int32)).toNatClampNeg) + ((32 : Int32)).toNatClampNeg)) (z0 := z0) (s0 := s0) dX13_init_805 (k := 1) (by decide) rfl aC_1 e805 (by omega) (by omega) (by show _ ≤ Z0 - z0; omega) (by show _ ≤ S0 - s0; omega) ?_
  refine ww_putR 807 X dX13_init_807 (fP_X13_303 _ (Or.inr rfl)) e807 rfl rfl ?_
  refine ww_aload_n 810 X dX13_init_810 0 rfl rfl ?_
  refine ww_sipush 811 X (v := (8200 : Int32)) dX13_init_811 (by decide) ?_
  refine ww_newA 814 X (sz := (((((((((((((((((((((((((((((((((((((((((((((((((((((((((z330 + 1) + 1) + 1) + 1) + 1) + 1) + 1) + 1) + 1) + 1) + 1) + 1) + 1) + 1) + 1) + 1) + 1) + 1) + 1) + 1) + 1) + 1) + 1) + 1) + 1) + 1) + 1) + 1) + 1) + 1) + 1) + 1) + 1) + 1) + 1) + 1) + 1) + 1) + 1) + 1) + 1) + 1) + 1) + 1) + 1) + 1) + 1) + 1) + 1) + 1) + 1) + 1) + 1) + 1) + 1) + 1) + 1)) (sl := (((((((((((((((((((((((((((((((((((((((((((((((((((((((((k330 + ((34 : Int32)).toNatClampNeg) + ((34 : Int32)).toNatClampNeg) + ((128 : Int32)).toNatClampNeg) + ((32 : Int32)).toNatClampNeg) + ((32 : Int32)).toNatClampNeg) + ((64 : Int32)).toNatClampNeg) + ((34 : Int32)).toNatClampNeg) + ((32 : Int32)).toNatClampNeg) + ((34 : Int32)).toNatClampNeg) + ((34 : Int32)).toNatClampNeg) + ((34 : Int32)).toNatClampNeg) + ((34 : Int32)).toNatClampNeg) + ((34 : Int32)).toNatClampNeg) + ((34 : Int32)).toNatClampNeg) + ((34 : Int32)).toNatClampNeg) + ((34 : Int32)).toNatClampNeg) + ((34 : Int32)).toNatClampNeg) + ((34 : Int32)).toNatClampNeg) + ((64 : Int32)).toNatClampNeg) + ((64 : Int32)).toNatClampNeg) + ((128 : Int32)).toNatClampNeg) + ((128 : Int32)).toNatClampNeg) + ((16 : Int32)).toNatClampNeg) + ((16 : Int32)).toNatClampNeg) + ((2048 : Int32)).toNatClampNeg) + ((16 : Int32)).toNatClampNeg) + ((2048 : Int32)).toNatClampNeg) + ((16 : Int32)).toNatClampNeg) + ((2048 : Int32)).toNatClampNeg) + ((16 : Int32)).toNatClampNeg) + ((16 : Int32)).toNatClampNeg) + ((131200 : Int32)).toNatClampNeg) + ((16 : Int32)).toNatClampNeg) + ((131200 : Int32)).toNatClampNeg) + ((16 : Int32)).toNatClampNeg) + ((8200 : Int32)).toNatClampNeg) + ((8200 : Int32)).toNatClampNeg) + ((8200 : Int32)).toNatClampNeg) + ((64 : Int32)).toNatClampNeg) + ((8200 : Int32)).toNatClampNeg) + ((8200 : Int32)).toNatClampNeg) + ((8200 : Int32)).toNatClampNeg) + ((32 : Int32)).toNatClampNeg) + ((64 : Int32)).toNatClampNeg) + ((34 : Int32)).toNatClampNeg) + ((34 : Int32)).toNatClampNeg) + ((34 : Int32)).toNatClampNeg) + ((8300 : Int32)).toNatClampNeg) + ((60000 : Int32)).toNatClampNeg) + ((6 : Int32)).toNatClampNeg) + ((8200 : Int32)).toNatClampNeg) + ((64 : Int32)).toNatClampNeg) + ((8200 : Int32)).toNatClampNeg) + ((8200 : Int32)).toNatClampNeg) + ((64 : Int32)).toNatClampNeg) + ((32 : Int32)).toNatClampNeg) + ((8200 : Int32)).toNatClampNeg)) (z0 := z0) (s0 := s0) dX13_init_814 (k := 1) (by decide) rfl aC_1 e814 (by omega) (by omega) (by show _ ≤ Z0 - z0; omega) (by show _ ≤ S0 - s0; omega) ?_
  refine ww_putR 816 X dX13_init_816 (fP_X13_306 _ (Or.inr rfl)) e816 rfl rfl ?_
  refine ww_aload_n 819 X dX13_init_819 0 rfl rfl ?_
  refine ww_callVVz 820 X (sz := ((((((((((((((((((((((((((((((((((((((((((((((((((((((((((z330 + 1) + 1) + 1) + 1) + 1) + 1) + 1) + 1) + 1) + 1) + 1) + 1) + 1) + 1) + 1) + 1) + 1) + 1) + 1) + 1) + 1) + 1) + 1) + 1) + 1) + 1) + 1) + 1) + 1) + 1) + 1) + 1) + 1) + 1) + 1) + 1) + 1) + 1) + 1) + 1) + 1) + 1) + 1) + 1) + 1) + 1) + 1) + 1) + 1) + 1) + 1) + 1) + 1) + 1) + 1) + 1) + 1) + 1)) (sl := ((((((((((((((((((((((((((((((((((((((((((((((((((((((((((k330 + ((34 : Int32)).toNatClampNeg) + ((34 : Int32)).toNatClampNeg) + ((128 : Int32)).toNatClampNeg) + ((32 : Int32)).toNatClampNeg) + ((32 : Int32)).toNatClampNeg) + ((64 : Int32)).toNatClampNeg) + ((34 : Int32)).toNatClampNeg) + ((32 : Int32)).toNatClampNeg) + ((34 : Int32)).toNatClampNeg) + ((34 : Int32)).toNatClampNeg) + ((34 : Int32)).toNatClampNeg) + ((34 : Int32)).toNatClampNeg) + ((34 : Int32)).toNatClampNeg) + ((34 : Int32)).toNatClampNeg) + ((34 : Int32)).toNatClampNeg) + ((34 : Int32)).toNatClampNeg) + ((34 : Int32)).toNatClampNeg) + ((34 : Int32)).toNatClampNeg) + ((64 : Int32)).toNatClampNeg) + ((64 : Int32)).toNatClampNeg) + ((128 : Int32)).toNatClampNeg) + ((128 : Int32)).toNatClampNeg) + ((16 : Int32)).toNatClampNeg) + ((16 : Int32)).toNatClampNeg) + ((2048 : Int32)).toNatClampNeg) + ((16 : Int32)).toNatClampNeg) + ((2048 : Int32)).toNatClampNeg) + ((16 : Int32)).toNatClampNeg) + ((2048 : Int32)).toNatClampNeg) + ((16 : Int32)).toNatClampNeg) + ((16 : Int32)).toNatClampNeg) + ((131200 : Int32)).toNatClampNeg) + ((16 : Int32)).toNatClampNeg) + ((131200 : Int32)).toNatClampNeg) + ((16 : Int32)).toNatClampNeg) + ((8200 : Int32)).toNatClampNeg) + ((8200 : Int32)).toNatClampNeg) + ((8200 : Int32)).toNatClampNeg) + ((64 : Int32)).toNatClampNeg) + ((8200 : Int32)).toNatClampNeg) + ((8200 : Int32)).toNatClampNeg) + ((8200 : Int32)).toNatClampNeg) + ((32 : Int32)).toNatClampNeg) + ((64 : Int32)).toNatClampNeg) + ((34 : Int32)).toNatClampNeg) + ((34 : Int32)).toNatClampNeg) + ((34 : Int32)).toNatClampNeg) + ((8300 : Int32)).toNatClampNeg) + ((60000 : Int32)).toNatClampNeg) + ((6 : Int32)).toNatClampNeg) + ((8200 : Int32)).toNatClampNeg) + ((64 : Int32)).toNatClampNeg) + ((8200 : Int32)).toNatClampNeg) + ((8200 : Int32)).toNatClampNeg) + ((64 : Int32)).toNatClampNeg) + ((32 : Int32)).toNatClampNeg) + ((8200 : Int32)).toNatClampNeg) + ((8200 : Int32)).toNatClampNeg)) (z0 := z0) (s0 := s0) dX13_init_820 mY_X13_layCipher mL_X13_309 (rcv_spec f820) ⟨_, _, rfl⟩ (by decide) (As := []) (rest := []) rfl rfl ⟨Nat.le_of_ble_eq_true rfl, Nat.le_of_ble_eq_true rfl⟩ (by show _ ≤ Z0 - z0; omega) (by show _ ≤ S0 - s0; omega) (Nat.le_of_ble_eq_true rfl) (fun l D A => c_X13_layCipher l D A e820) ?_
  refine ww_aload_n 823 X dX13_init_823 0 rfl rfl ?_
  refine ww_callVVz 824 X (sz := ((((((((((((((((((((((((((((((((((((((((((((((((((((((((((z330 + 1) + 1) + 1) + 1) + 1) + 1) + 1) + 1) + 1) + 1) + 1) + 1) + 1) + 1) + 1) + 1) + 1) + 1) + 1) + 1) + 1) + 1) + 1) + 1) + 1) + 1) + 1) + 1) + 1) + 1) + 1) + 1) + 1) + 1) + 1) + 1) + 1) + 1) + 1) + 1) + 1) + 1) + 1) + 1) + 1) + 1) + 1) + 1) + 1) + 1) + 1) + 1) + 1) + 1) + 1) + 1) + 1) + 1)) (sl := ((((((((((((((((((((((((((((((((((((((((((((((((((((((((((k330 + ((34 : Int32)).toNatClampNeg) + ((34 : Int32)).toNatClampNeg) + ((128 : Int32)).toNatClampNeg) + ((32 : Int32)).toNatClampNeg) + ((32 : Int32)).toNatClampNeg) + ((64 : Int32)).toNatClampNeg) + ((34 : Int32)).toNatClampNeg) + ((32 : Int32)).toNatClampNeg) + ((34 : Int32)).toNatClampNeg) + ((34 : Int32)).toNatClampNeg) + ((34 : Int32)).toNatClampNeg) + ((34 : Int32)).toNatClampNeg) + ((34 : Int32)).toNatClampNeg) + ((34 : Int32)).toNatClampNeg) + ((34 : Int32)).toNatClampNeg) + ((34 : Int32)).toNatClampNeg) + ((34 : Int32)).toNatClampNeg) + ((34 : Int32)).toNatClampNeg) + ((64 : Int32)).toNatClampNeg) + ((64 : Int32)).toNatClampNeg) + ((128 : Int32)).toNatClampNeg) + ((128 : Int32)).toNatClampNeg) + ((16 : Int32)).toNatClampNeg) + ((16 : Int32)).toNatClampNeg) + ((2048 : Int32)).toNatClampNeg) + ((16 : Int32)).toNatClampNeg) + ((2048 : Int32)).toNatClampNeg) + ((16 : Int32)).toNatClampNeg) + ((2048 : Int32)).toNatClampNeg) + ((16 : Int32)).toNatClampNeg) + ((16 : Int32)).toNatClampNeg) + ((131200 : Int32)).toNatClampNeg) + ((16 : Int32)).toNatClampNeg) + ((131200 : Int32)).toNatClampNeg) + ((16 : Int32)).toNatClampNeg) + ((8200 : Int32)).toNatClampNeg) + ((8200 : Int32)).toNatClampNeg) + ((8200 : Int32)).toNatClampNeg) + ((64 : Int32)).toNatClampNeg) + ((8200 : Int32)).toNatClampNeg) + ((8200 : Int32)).toNatClampNeg) + ((8200 : Int32)).toNatClampNeg) + ((32 : Int32)).toNatClampNeg) + ((64 : Int32)).toNatClampNeg) + ((34 : Int32)).toNatClampNeg) + ((34 : Int32)).toNatClampNeg) + ((34 : Int32)).toNatClampNeg) + ((8300 : Int32)).toNatClampNeg) + ((60000 : Int32)).toNatClampNeg) + ((6 : Int32)).toNatClampNeg) + ((8200 : Int32)).toNatClampNeg) + ((64 : Int32)).toNatClampNeg) + ((8200 : Int32)).toNatClampNeg) + ((8200 : Int32)).toNatClampNeg) + ((64 : Int32)).toNatClampNeg) + ((32 : Int32)).toNatClampNeg) + ((8200 : Int32)).toNatClampNeg) + ((8200 : Int32)).toNatClampNeg)) (z0 := z0) (s0 := s0) dX13_init_824 mY_X13_layCurve mL_X13_312 (rcv_spec f824) ⟨_, _, rfl⟩ (by decide) (As := []) (rest := []) rfl rfl ⟨Nat.le_of_ble_eq_true rfl, Nat.le_of_ble_eq_true rfl⟩ (by show _ ≤ Z0 - z0; omega) (by show _ ≤ S0 - s0; omega) (Nat.le_of_ble_eq_true rfl) (fun l D A => c_X13_layCurve l D A e824) ?_
  exact ww_vretA 827 X hQ dX13_init_827 h
theorem c_X13_init {G : mG} {F : Nat} {M0 : mM} {Z0 S0 : Nat} (l : Launch) (D : mD) (A : Nat → Prop) {l0 : Nat} {M : mM} {sz : Nat} {sl : Nat} (h : P_X13_init G F l0 M sz sl = some (M0, Z0, S0)) : mMetV l D G A yX13_init cX13_init 1 none 6 128 (Z0 - sz) (S0 - sl) [.ref l0] M sz M0 Z0 := mMetV_of l D G A (by decide) (Nat.le_of_ble_eq_true rfl) (fun x X hQ => by have K := wP_X13_init X hQ (Nat.le_refl sz) (Nat.le_refl sl) h; rw [Nat.sub_self, Nat.sub_self] at K; exact K)
