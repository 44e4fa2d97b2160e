/-! SealedTokens$Content.sealedBytes(II)I -/
theorem dX2_sealedBytes_0 : decode cX2_sealedBytes 0 = .ok (.iload_n 0, 1) := by decide +kernel
theorem dX2_sealedBytes_1 : decode cX2_sealedBytes 1 = .ok (.iconst 2, 1) := by decide +kernel
theorem dX2_sealedBytes_2 : decode cX2_sealedBytes 2 = .ok (.if_icmp .ge 15, 3) := by decide +kernel
theorem dX2_sealedBytes_5 : decode cX2_sealedBytes 5 = .ok (.iload_n 1, 1) := by decide +kernel
theorem dX2_sealedBytes_6 : decode cX2_sealedBytes 6 = .ok (.bipush 16, 2) := by decide +kernel
theorem dX2_sealedBytes_8 : decode cX2_sealedBytes 8 = .ok (.idiv, 1) := by decide +kernel
theorem dX2_sealedBytes_9 : decode cX2_sealedBytes 9 = .ok (.iconst 1, 1) := by decide +kernel
theorem dX2_sealedBytes_10 : decode cX2_sealedBytes 10 = .ok (.iadd, 1) := by decide +kernel
theorem dX2_sealedBytes_11 : decode cX2_sealedBytes 11 = .ok (.bipush 16, 2) := by decide +kernel
theorem dX2_sealedBytes_13 : decode cX2_sealedBytes 13 = .ok (.imul, 1) := by decide +kernel
theorem dX2_sealedBytes_14 : decode cX2_sealedBytes 14 = .ok (.goto 4, 3) := by decide +kernel
theorem dX2_sealedBytes_17 : decode cX2_sealedBytes 17 = .ok (.iload_n 1, 1) := by decide +kernel
theorem dX2_sealedBytes_18 : decode cX2_sealedBytes 18 = .ok (.ireturn, 1) := by decide +kernel
abbrev rmX2_sealedBytes : Room := { frames := 0, cells := 0, slots := 0, locals := 0 }
set_option maxHeartbeats 4000000 in
set_option maxRecDepth 100000 in
theorem wP_X2_sealedBytes {G : mG} {F : Nat} {x : mXT} {sz : Nat} {r0 : Int32} {M0 : mM} (X : mCX G RX2 cX2_sealedBytes 2 (some .int) "sealedBytes" rmX2_sealedBytes x) (hQ : mQI x r0 M0 (sz, 0, 0)) {l0 : Int32} {l1 : Int32} {M : mM} (h : P_X2_sealedBytes G F l0 l1 M = some (r0, M0)) : WW x (sz, 0, 0) M 0 [(0, .int l0), (1, .int l1)] [] := by
  unfold P_X2_sealedBytes at h
  refine ww_iload_n 0 X dX2_sealedBytes_0 0 rfl rfl ?_
  refine ww_iconst 1 X (v := (2 : Int32)) dX2_sealedBytes_1 (by decide) ?_
  refine ww_icmp_ge 2 17 X dX2_sealedBytes_2 (by decide) (fun q => ?_) (fun q => ?_)
  · replace h := (if_pos q).symm.trans h
    refine ww_iload_n 17 X dX2_sealedBytes_17 1 rfl rfl ?_
    exact ww_iretE 18 X hQ dX2_sealedBytes_18 h
  · replace h := (if_neg q).symm.trans h
    refine ww_iload_n 5 X dX2_sealedBytes_5 1 rfl rfl ?_
    refine ww_bipush 6 X (v := (16 : Int32)) dX2_sealedBytes_6 (by decide) ?_
    refine ww_idiv 8 X (v := (l1 / (16 : Int32))) dX2_sealedBytes_8 rfl ?_
    refine ww_iconst 9 X (v := (1 : Int32)) dX2_sealedBytes_9 (by decide) ?_
    refine ww_iadd 10 X dX2_sealedBytes_10 ?_
    refine ww_bipush 11 X (v := (16 : Int32)) dX2_sealedBytes_11 (by decide) ?_
    refine ww_imul 13 X dX2_sealedBytes_13 ?_
    refine ww_goto 14 18 X dX2_sealedBytes_14 (by decide) ?_
    exact ww_iretE 18 X hQ dX2_sealedBytes_18 h
theorem c_X2_sealedBytes {G : mG} {F sz : Nat} {r0 : Int32} {M0 : mM} (l : Launch) (D : mD) (A : Nat → Prop) {l0 : Int32} {l1 : Int32} {M : mM} (h : P_X2_sealedBytes G F l0 l1 M = some (r0, M0)) : mMetI l D G A yX2_sealedBytes cX2_sealedBytes 2 (some .int) 0 0 0 0 [.int l0, .int l1] M sz r0 M0 sz := mMetI_of l D G A (by decide) (Nat.le_of_ble_eq_true rfl) (fun x X hQ => wP_X2_sealedBytes X hQ h)
/-! SealedTokens$Content.putChained(LSealedTokens$Bytes;LSealedTokens$Bytes;LSealedTokens$Bytes;LSealedTokens$Bytes;)V -/
theorem dX2_putChained_0 : decode cX2_putChained 0 = .ok (.aload_n 0, 1) := by decide +kernel
theorem dX2_putChained_1 : decode cX2_putChained 1 = .ok (.getfield 33, 3) := by decide +kernel
theorem dX2_putChained_4 : decode cX2_putChained 4 = .ok (.aload_n 1, 1) := by decide +kernel
theorem dX2_putChained_5 : decode cX2_putChained 5 = .ok (.aload_n 1, 1) := by decide +kernel
theorem dX2_putChained_6 : decode cX2_putChained 6 = .ok (.getfield 44, 3) := by decide +kernel
theorem dX2_putChained_9 : decode cX2_putChained 9 = .ok (.iconst 2, 1) := by decide +kernel
theorem dX2_putChained_10 : decode cX2_putChained 10 = .ok (.idiv, 1) := by decide +kernel
theorem dX2_putChained_11 : decode cX2_putChained 11 = .ok (.aload_n 1, 1) := by decide +kernel
theorem dX2_putChained_12 : decode cX2_putChained 12 = .ok (.getfield 44, 3) := by decide +kernel
theorem dX2_putChained_15 : decode cX2_putChained 15 = .ok (.iconst 2, 1) := by decide +kernel
theorem dX2_putChained_16 : decode cX2_putChained 16 = .ok (.idiv, 1) := by decide +kernel
theorem dX2_putChained_17 : decode cX2_putChained 17 = .ok (.invokevirtual 82, 3) := by decide +kernel
theorem dX2_putChained_20 : decode cX2_putChained 20 = .ok (.iconst 0, 1) := by decide +kernel
theorem dX2_putChained_21 : decode cX2_putChained 21 = .ok (.aload_n 3, 1) := by decide +kernel
theorem dX2_putChained_22 : decode cX2_putChained 22 = .ok (.getfield 44, 3) := by decide +kernel
theorem dX2_putChained_25 : decode cX2_putChained 25 = .ok (.invokestatic 86, 3) := by decide +kernel
theorem dX2_putChained_28 : decode cX2_putChained 28 = .ok (.istore 5, 2) := by decide +kernel
theorem dX2_putChained_30 : decode cX2_putChained 30 = .ok (.iload 5, 2) := by decide +kernel
theorem dX2_putChained_32 : decode cX2_putChained 32 = .ok (.aload_n 3, 1) := by decide +kernel
theorem dX2_putChained_33 : decode cX2_putChained 33 = .ok (.getfield 44, 3) := by decide +kernel
theorem dX2_putChained_36 : decode cX2_putChained 36 = .ok (.isub, 1) := by decide +kernel
theorem dX2_putChained_37 : decode cX2_putChained 37 = .ok (.istore 6, 2) := by decide +kernel
theorem dX2_putChained_39 : decode cX2_putChained 39 = .ok (.iconst 0, 1) := by decide +kernel
theorem dX2_putChained_40 : decode cX2_putChained 40 = .ok (.istore 7, 2) := by decide +kernel
theorem dX2_putChained_42 : decode cX2_putChained 42 = .ok (.iload 7, 2) := by decide +kernel
theorem dX2_putChained_44 : decode cX2_putChained 44 = .ok (.bipush 16, 2) := by decide +kernel
theorem dX2_putChained_46 : decode cX2_putChained 46 = .ok (.if_icmp .ge 22, 3) := by decide +kernel
theorem dX2_putChained_49 : decode cX2_putChained 49 = .ok (.aload_n 0, 1) := by decide +kernel
theorem dX2_putChained_50 : decode cX2_putChained 50 = .ok (.getfield 11, 3) := by decide +kernel
theorem dX2_putChained_53 : decode cX2_putChained 53 = .ok (.iload 7, 2) := by decide +kernel
theorem dX2_putChained_55 : decode cX2_putChained 55 = .ok (.aload_n 2, 1) := by decide +kernel
theorem dX2_putChained_56 : decode cX2_putChained 56 = .ok (.iload 7, 2) := by decide +kernel
theorem dX2_putChained_58 : decode cX2_putChained 58 = .ok (.invokevirtual 90, 3) := by decide +kernel
theorem dX2_putChained_61 : decode cX2_putChained 61 = .ok (.iastore, 1) := by decide +kernel
theorem dX2_putChained_62 : decode cX2_putChained 62 = .ok (.iinc 7 1, 3) := by decide +kernel
theorem dX2_putChained_65 : decode cX2_putChained 65 = .ok (.goto (-23), 3) := by decide +kernel
theorem dX2_putChained_68 : decode cX2_putChained 68 = .ok (.iconst 0, 1) := by decide +kernel
theorem dX2_putChained_69 : decode cX2_putChained 69 = .ok (.istore 7, 2) := by decide +kernel
theorem dX2_putChained_71 : decode cX2_putChained 71 = .ok (.iload 7, 2) := by decide +kernel
theorem dX2_putChained_73 : decode cX2_putChained 73 = .ok (.iload 5, 2) := by decide +kernel
theorem dX2_putChained_75 : decode cX2_putChained 75 = .ok (.if_icmp .ge 100, 3) := by decide +kernel
theorem dX2_putChained_78 : decode cX2_putChained 78 = .ok (.iconst 0, 1) := by decide +kernel
theorem dX2_putChained_79 : decode cX2_putChained 79 = .ok (.istore 8, 2) := by decide +kernel
theorem dX2_putChained_81 : decode cX2_putChained 81 = .ok (.iload 8, 2) := by decide +kernel
theorem dX2_putChained_83 : decode cX2_putChained 83 = .ok (.bipush 16, 2) := by decide +kernel
theorem dX2_putChained_85 : decode cX2_putChained 85 = .ok (.if_icmp .ge 45, 3) := by decide +kernel
theorem dX2_putChained_88 : decode cX2_putChained 88 = .ok (.aload_n 0, 1) := by decide +kernel
theorem dX2_putChained_89 : decode cX2_putChained 89 = .ok (.getfield 11, 3) := by decide +kernel
theorem dX2_putChained_92 : decode cX2_putChained 92 = .ok (.iload 8, 2) := by decide +kernel
theorem dX2_putChained_94 : decode cX2_putChained 94 = .ok (.dup2, 1) := by decide +kernel
theorem dX2_putChained_95 : decode cX2_putChained 95 = .ok (.iaload, 1) := by decide +kernel
theorem dX2_putChained_96 : decode cX2_putChained 96 = .ok (.iload 7, 2) := by decide +kernel
theorem dX2_putChained_98 : decode cX2_putChained 98 = .ok (.iload 8, 2) := by decide +kernel
theorem dX2_putChained_100 : decode cX2_putChained 100 = .ok (.iadd, 1) := by decide +kernel
theorem dX2_putChained_101 : decode cX2_putChained 101 = .ok (.aload_n 3, 1) := by decide +kernel
theorem dX2_putChained_102 : decode cX2_putChained 102 = .ok (.getfield 44, 3) := by decide +kernel
theorem dX2_putChained_105 : decode cX2_putChained 105 = .ok (.if_icmp .ge 15, 3) := by decide +kernel
theorem dX2_putChained_108 : decode cX2_putChained 108 = .ok (.aload_n 3, 1) := by decide +kernel
theorem dX2_putChained_109 : decode cX2_putChained 109 = .ok (.iload 7, 2) := by decide +kernel
theorem dX2_putChained_111 : decode cX2_putChained 111 = .ok (.iload 8, 2) := by decide +kernel
theorem dX2_putChained_113 : decode cX2_putChained 113 = .ok (.iadd, 1) := by decide +kernel
theorem dX2_putChained_114 : decode cX2_putChained 114 = .ok (.invokevirtual 90, 3) := by decide +kernel
theorem dX2_putChained_117 : decode cX2_putChained 117 = .ok (.goto 5, 3) := by decide +kernel
theorem dX2_putChained_120 : decode cX2_putChained 120 = .ok (.iload 6, 2) := by decide +kernel
theorem dX2_putChained_122 : decode cX2_putChained 122 = .ok (.ixor, 1) := by decide +kernel
theorem dX2_putChained_123 : decode cX2_putChained 123 = .ok (.iastore, 1) := by decide +kernel
theorem dX2_putChained_124 : decode cX2_putChained 124 = .ok (.iinc 8 1, 3) := by decide +kernel
theorem dX2_putChained_127 : decode cX2_putChained 127 = .ok (.goto (-46), 3) := by decide +kernel
theorem dX2_putChained_130 : decode cX2_putChained 130 = .ok (.aload_n 0, 1) := by decide +kernel
theorem dX2_putChained_131 : decode cX2_putChained 131 = .ok (.getfield 33, 3) := by decide +kernel
theorem dX2_putChained_134 : decode cX2_putChained 134 = .ok (.aload_n 0, 1) := by decide +kernel
theorem dX2_putChained_135 : decode cX2_putChained 135 = .ok (.getfield 11, 3) := by decide +kernel
theorem dX2_putChained_138 : decode cX2_putChained 138 = .ok (.invokevirtual 94, 3) := by decide +kernel
theorem dX2_putChained_141 : decode cX2_putChained 141 = .ok (.iconst 0, 1) := by decide +kernel
theorem dX2_putChained_142 : decode cX2_putChained 142 = .ok (.istore 8, 2) := by decide +kernel
theorem dX2_putChained_144 : decode cX2_putChained 144 = .ok (.iload 8, 2) := by decide +kernel
theorem dX2_putChained_146 : decode cX2_putChained 146 = .ok (.bipush 16, 2) := by decide +kernel
theorem dX2_putChained_148 : decode cX2_putChained 148 = .ok (.if_icmp .ge 21, 3) := by decide +kernel
theorem dX2_putChained_151 : decode cX2_putChained 151 = .ok (.aload 4, 2) := by decide +kernel
theorem dX2_putChained_153 : decode cX2_putChained 153 = .ok (.aload_n 0, 1) := by decide +kernel
theorem dX2_putChained_154 : decode cX2_putChained 154 = .ok (.getfield 11, 3) := by decide +kernel
theorem dX2_putChained_157 : decode cX2_putChained 157 = .ok (.iload 8, 2) := by decide +kernel
theorem dX2_putChained_159 : decode cX2_putChained 159 = .ok (.iaload, 1) := by decide +kernel
theorem dX2_putChained_160 : decode cX2_putChained 160 = .ok (.invokevirtual 98, 3) := by decide +kernel
theorem dX2_putChained_163 : decode cX2_putChained 163 = .ok (.iinc 8 1, 3) := by decide +kernel
theorem dX2_putChained_166 : decode cX2_putChained 166 = .ok (.goto (-22), 3) := by decide +kernel
theorem dX2_putChained_169 : decode cX2_putChained 169 = .ok (.iinc 7 16, 3) := by decide +kernel
theorem dX2_putChained_172 : decode cX2_putChained 172 = .ok (.goto (-101), 3) := by decide +kernel
theorem dX2_putChained_175 : decode cX2_putChained 175 = .ok (.return_, 1) := by decide +kernel
abbrev rmX2_putChained : Room := { frames := 3, cells := 0, slots := 0, locals := 83 }
set_option maxHeartbeats 4000000 in
set_option maxRecDepth 100000 in
theorem wB_X2_putChained_144 {G : mG} {F : Nat} {x : mXT} {sz : Nat} {M0 : mM} (X : mCX G RX2 cX2_putChained 9 none "putChained" rmX2_putChained x) (hQ : mQV x M0 (sz, 0, 0)) (r71 : Nat → Nat → Nat → Int32 → Int32 → Int32 → mM → Option mM) (hr71 : ∀ (l0 : Nat) (l3 : Nat) (l4 : Nat) (l5 : Int32) (l6 : Int32) (l7 : Int32) (M : mM), r71 l0 l3 l4 l5 l6 l7 M = some M0 → WW x (sz, 0, 0) M 71 [(0, .ref l0), (3, .ref l3), (4, .ref l4), (5, .int l5), (6, .int l6), (7, .int l7)] []) : ∀ (n : Nat) (l0 : Nat) (l3 : Nat) (l4 : Nat) (l5 : Int32) (l6 : Int32) (l7 : Int32) (l8 : Int32) (M : mM), B_X2_putChained_144 G F r71 n l0 l3 l4 l5 l6 l7 l8 M = some M0 → WW x (sz, 0, 0) M 144 [(0, .ref l0), (3, .ref l3), (4, .ref l4), (5, .int l5), (6, .int l6), (7, .int l7), (8, .int l8)] [] := by
  intro n
  induction n with
  | zero =>
    intro l0 l3 l4 l5 l6 l7 l8 M h
    exact nomatch (show (none : Option mM) = some M0 from h)
  | succ n ih =>
    intro l0 l3 l4 l5 l6 l7 l8 M h
    rw [B_X2_putChained_144] at h
    refine ww_iload 144 X dX2_putChained_144 6 rfl ?_
    refine ww_bipush 146 X (v := (16 : Int32)) dX2_putChained_146 (by decide) ?_
    refine ww_icmp_ge 148 169 X dX2_putChained_148 (by decide) (fun q => ?_) (fun q => ?_)
    · replace h := (if_pos q).symm.trans h
      refine ww_iinc 169 X dX2_putChained_169 (lv' := [(0, .ref l0), (3, .ref l3), (4, .ref l4), (5, .int l5), (6, .int l6), (7, .int (l7 + 16)), (8, .int l8)]) 5 rfl rfl (by decide) [1, 2, 3, 4, 5, 0, 6] rfl ?_
      refine ww_goto 172 71 X dX2_putChained_172 (by decide) ?_
      exact ww_sub [0, 1, 2, 3, 4, 5] rfl (hr71 _ _ _ _ _ _ _ h)
    · replace h := (if_neg q).symm.trans h
      refine ww_aload 151 X dX2_putChained_151 2 rfl ?_
      refine ww_aload_n 153 X dX2_putChained_153 0 rfl rfl ?_
      obtain ⟨v154, e154, h⟩ := bO_some h
      refine ww_getR 154 X dX2_putChained_154 fG_X2_11 e154 ?_
      refine ww_iload 157 X dX2_putChained_157 6 rfl ?_
      obtain ⟨v159, e159, h⟩ := bO_some h
      refine ww_iald 159 X dX2_putChained_159 e159 ?_
      obtain ⟨_, f160, h⟩ := bO_some h
      obtain ⟨M160, e160, h⟩ := bO_some h
      refine ww_callVV0 160 X dX2_putChained_160 mY_X0_put mL_X2_98 (rcv_spec f160) ⟨_, _, rfl⟩ (by decide) (As := [.int v159]) (rest := []) rfl rfl ⟨Nat.le_of_ble_eq_true rfl, Nat.le_of_ble_eq_true rfl⟩ (Nat.le_of_ble_eq_true rfl) (fun l D A => c_X0_put l D A e160) ?_
      refine ww_iinc 163 X dX2_putChained_163 (lv' := [(0, .ref l0), (3, .ref l3), (4, .ref l4), (5, .int l5), (6, .int l6), (7, .int l7), (8, .int (l8 + 1))]) 6 rfl rfl (by decide) [1, 2, 3, 4, 5, 6, 0] rfl ?_
      refine ww_goto 166 144 X dX2_putChained_166 (by decide) ?_
      exact (ih _ _ _ _ _ _ _ _ h)
set_option maxHeartbeats 4000000 in
set_option maxRecDepth 100000 in
theorem wB_X2_putChained_81 {G : mG} {F : Nat} {x : mXT} {sz : Nat} {M0 : mM} (X : mCX G RX2 cX2_putChained 9 none "putChained" rmX2_putChained x) (hQ : mQV x M0 (sz, 0, 0)) (r71 : Nat → Nat → Nat → Int32 → Int32 → Int32 → mM → Option mM) (hr71 : ∀ (l0 : Nat) (l3 : Nat) (l4 : Nat) (l5 : Int32) (l6 : Int32) (l7 : Int32) (M : mM), r71 l0 l3 l4 l5 l6 l7 M = some M0 → WW x (sz, 0, 0) M 71 [(0, .ref l0), (3, .ref l3), (4, .ref l4), (5, .int l5), (6, .int l6), (7, .int l7)] []) : ∀ (n : Nat) (l0 : Nat) (l3 : Nat) (l4 : Nat) (l5 : Int32) (l6 : Int32) (l7 : Int32) (l8 : Int32) (M : mM), B_X2_putChained_81 G F r71 n l0 l3 l4 l5 l6 l7 l8 M = some M0 → WW x (sz, 0, 0) M 81 [(0, .ref l0), (3, .ref l3), (4, .ref l4), (5, .int l5), (6, .int l6), (7, .int l7), (8, .int l8)] [] := by
  intro n
  induction n with
  | zero =>
    intro l0 l3 l4 l5 l6 l7 l8 M h
    exact nomatch (show (none : Option mM) = some M0 from h)
  | succ n ih =>
    intro l0 l3 l4 l5 l6 l7 l8 M h
    rw [B_X2_putChained_81] at h
    refine ww_iload 81 X dX2_putChained_81 6 rfl ?_
    refine ww_bipush 83 X (v := (16 : Int32)) dX2_putChained_83 (by decide) ?_
    refine ww_icmp_ge 85 130 X dX2_putChained_85 (by decide) (fun q => ?_) (fun q => ?_)
    · replace h := (if_pos q).symm.trans h
      refine ww_aload_n 130 X dX2_putChained_130 0 rfl rfl ?_
      obtain ⟨v131, e131, h⟩ := bO_some h
      refine ww_getR 131 X dX2_putChained_131 fG_X2_33 e131 ?_
      refine ww_aload_n 134 X dX2_putChained_134 0 rfl rfl ?_
      obtain ⟨v135, e135, h⟩ := bO_some h
      refine ww_getR 135 X dX2_putChained_135 fG_X2_11 e135 ?_
      obtain ⟨_, f138, h⟩ := bO_some h
      obtain ⟨M138, e138, h⟩ := bO_some h
      refine ww_callVV0 138 X dX2_putChained_138 mY_X1_forward mL_X2_94 (rcv_spec f138) ⟨_, _, rfl⟩ (by decide) (As := [.ref v135]) (rest := []) rfl rfl ⟨Nat.le_of_ble_eq_true rfl, Nat.le_of_ble_eq_true rfl⟩ (Nat.le_of_ble_eq_true rfl) (fun l D A => c_X1_forward l D A e138) ?_
      refine ww_iconst 141 X (v := (0 : Int32)) dX2_putChained_141 (by decide) ?_
      refine ww_istore 142 X dX2_putChained_142 (lv' := [(0, .ref l0), (3, .ref l3), (4, .ref l4), (5, .int l5), (6, .int l6), (7, .int l7), (8, .int (0 : Int32))]) (by decide) [1, 2, 3, 4, 5, 6, 0] rfl ?_
      exact (wB_X2_putChained_144 X hQ _ hr71 F _ _ _ _ _ _ _ _ h)
    · replace h := (if_neg q).symm.trans h
      refine ww_aload_n 88 X dX2_putChained_88 0 rfl rfl ?_
      obtain ⟨v89, e89, h⟩ := bO_some h
      refine ww_getR 89 X dX2_putChained_89 fG_X2_11 e89 ?_
      refine ww_iload 92 X dX2_putChained_92 6 rfl ?_
      refine ww_dup2_11 94 X dX2_putChained_94 rfl rfl ?_
      obtain ⟨v95, e95, h⟩ := bO_some h
      refine ww_iald 95 X dX2_putChained_95 e95 ?_
      refine ww_iload 96 X dX2_putChained_96 5 rfl ?_
      refine ww_iload 98 X dX2_putChained_98 6 rfl ?_
      refine ww_iadd 100 X dX2_putChained_100 ?_
      refine ww_aload_n 101 X dX2_putChained_101 1 rfl rfl ?_
      obtain ⟨v102, e102, h⟩ := bO_some h
      refine ww_getI 102 X dX2_putChained_102 fG_X2_44 e102 ?_
      refine ww_icmp_ge 105 120 X dX2_putChained_105 (by decide) (fun q => ?_) (fun q => ?_)
      · replace h := (if_pos q).symm.trans h
        refine ww_iload 120 X dX2_putChained_120 4 rfl ?_
        refine ww_ixor 122 X dX2_putChained_122 ?_
        obtain ⟨M123, e123, h⟩ := bO_some h
        refine ww_iast 123 X dX2_putChained_123 e123 ?_
        refine ww_iinc 124 X dX2_putChained_124 (lv' := [(0, .ref l0), (3, .ref l3), (4, .ref l4), (5, .int l5), (6, .int l6), (7, .int l7), (8, .int (l8 + 1))]) 6 rfl rfl (by decide) [1, 2, 3, 4, 5, 6, 0] rfl ?_
        refine ww_goto 127 81 X dX2_putChained_127 (by decide) ?_
        exact (ih _ _ _ _ _ _ _ _ h)
      · replace h := (if_neg q).symm.trans h
        refine ww_aload_n 108 X dX2_putChained_108 1 rfl rfl ?_
        refine ww_iload 109 X dX2_putChained_109 5 rfl ?_
        refine ww_iload 111 X dX2_putChained_111 6 rfl ?_
        refine ww_iadd 113 X dX2_putChained_113 ?_
        obtain ⟨_, f114, h⟩ := bO_some h
        obtain ⟨v114, M114, e114, h⟩ := bP_some h
        refine ww_callVI0 114 X dX2_putChained_114 mY_X0_get mL_X2_90 (rcv_spec f114) ⟨_, _, rfl⟩ (by decide) (As := [.int (l7 + l8)]) (rest := [.int v95, .int l8, .ref v89]) rfl rfl ⟨Nat.le_of_ble_eq_true rfl, Nat.le_of_ble_eq_true rfl⟩ (Nat.le_of_ble_eq_true rfl) (fun l D A => c_X0_get l D A e114) ?_
        refine ww_goto 117 122 X dX2_putChained_117 (by decide) ?_
        refine ww_ixor 122 X dX2_putChained_122 ?_
        obtain ⟨M123, e123, h⟩ := bO_some h
        refine ww_iast 123 X dX2_putChained_123 e123 ?_
        refine ww_iinc 124 X dX2_putChained_124 (lv' := [(0, .ref l0), (3, .ref l3), (4, .ref l4), (5, .int l5), (6, .int l6), (7, .int l7), (8, .int (l8 + 1))]) 6 rfl rfl (by decide) [1, 2, 3, 4, 5, 6, 0] rfl ?_
        refine ww_goto 127 81 X dX2_putChained_127 (by decide) ?_
        exact (ih _ _ _ _ _ _ _ _ h)
set_option maxHeartbeats 4000000 in
set_option maxRecDepth 100000 in
theorem wB_X2_putChained_71 {G : mG} {F : Nat} {x : mXT} {sz : Nat} {M0 : mM} (X : mCX G RX2 cX2_putChained 9 none "putChained" rmX2_putChained x) (hQ : mQV x M0 (sz, 0, 0)) : ∀ (n : Nat) (l0 : Nat) (l3 : Nat) (l4 : Nat) (l5 : Int32) (l6 : Int32) (l7 : Int32) (M : mM), B_X2_putChained_71 G F n l0 l3 l4 l5 l6 l7 M = some M0 → WW x (sz, 0, 0) M 71 [(0, .ref l0), (3, .ref l3), (4, .ref l4), (5, .int l5), (6, .int l6), (7, .int l7)] [] := by
  intro n
  induction n with
  | zero =>
    intro l0 l3 l4 l5 l6 l7 M h
    exact nomatch (show (none : Option mM) = some M0 from h)
  | succ n ih =>
    intro l0 l3 l4 l5 l6 l7 M h
    rw [B_X2_putChained_71] at h
    refine ww_iload 71 X dX2_putChained_71 5 rfl ?_
    refine ww_iload 73 X dX2_putChained_73 3 rfl ?_
    refine ww_icmp_ge 75 175 X dX2_putChained_75 (by decide) (fun q => ?_) (fun q => ?_)
    · replace h := (if_pos q).symm.trans h
      exact ww_vretE 175 X hQ dX2_putChained_175 h
    · replace h := (if_neg q).symm.trans h
      refine ww_iconst 78 X (v := (0 : Int32)) dX2_putChained_78 (by decide) ?_
      refine ww_istore 79 X dX2_putChained_79 (lv' := [(0, .ref l0), (3, .ref l3), (4, .ref l4), (5, .int l5), (6, .int l6), (7, .int l7), (8, .int (0 : Int32))]) (by decide) [1, 2, 3, 4, 5, 6, 0] rfl ?_
      exact (wB_X2_putChained_81 X hQ _ ih F _ _ _ _ _ _ _ _ h)
set_option maxHeartbeats 4000000 in
set_option maxRecDepth 100000 in
theorem wB_X2_putChained_42 {G : mG} {F : Nat} {x : mXT} {sz : Nat} {M0 : mM} (X : mCX G RX2 cX2_putChained 9 none "putChained" rmX2_putChained x) (hQ : mQV x M0 (sz, 0, 0)) : ∀ (n : Nat) (l0 : Nat) (l2 : Nat) (l3 : Nat) (l4 : Nat) (l5 : Int32) (l6 : Int32) (l7 : Int32) (M : mM), B_X2_putChained_42 G F n l0 l2 l3 l4 l5 l6 l7 M = some M0 → WW x (sz, 0, 0) M 42 [(0, .ref l0), (2, .ref l2), (3, .ref l3), (4, .ref l4), (5, .int l5), (6, .int l6), (7, .int l7)] [] := by
  intro n
  induction n with
  | zero =>
    intro l0 l2 l3 l4 l5 l6 l7 M h
    exact nomatch (show (none : Option mM) = some M0 from h)
  | succ n ih =>
    intro l0 l2 l3 l4 l5 l6 l7 M h
    rw [B_X2_putChained_42] at h
    refine ww_iload 42 X dX2_putChained_42 6 rfl ?_
    refine ww_bipush 44 X (v := (16 : Int32)) dX2_putChained_44 (by decide) ?_
    refine ww_icmp_ge 46 68 X dX2_putChained_46 (by decide) (fun q => ?_) (fun q => ?_)
    · replace h := (if_pos q).symm.trans h
      refine ww_iconst 68 X (v := (0 : Int32)) dX2_putChained_68 (by decide) ?_
      refine ww_istore 69 X dX2_putChained_69 (lv' := [(0, .ref l0), (2, .ref l2), (3, .ref l3), (4, .ref l4), (5, .int l5), (6, .int l6), (7, .int (0 : Int32))]) (by decide) [1, 2, 3, 4, 5, 6, 0] rfl ?_
      exact ww_sub [0, 2, 3, 4, 5, 6] rfl (wB_X2_putChained_71 X hQ F _ _ _ _ _ _ _ h)
    · replace h := (if_neg q).symm.trans h
      refine ww_aload_n 49 X dX2_putChained_49 0 rfl rfl ?_
      obtain ⟨v50, e50, h⟩ := bO_some h
      refine ww_getR 50 X dX2_putChained_50 fG_X2_11 e50 ?_
      refine ww_iload 53 X dX2_putChained_53 6 rfl ?_
      refine ww_aload_n 55 X dX2_putChained_55 1 rfl rfl ?_
      refine ww_iload 56 X dX2_putChained_56 6 rfl ?_
      obtain ⟨_, f58, h⟩ := bO_some h
      obtain ⟨v58, M58, e58, h⟩ := bP_some h
      refine ww_callVI0 58 X dX2_putChained_58 mY_X0_get mL_X2_90 (rcv_spec f58) ⟨_, _, rfl⟩ (by decide) (As := [.int l7]) (rest := [.int l7, .ref v50]) rfl rfl ⟨Nat.le_of_ble_eq_true rfl, Nat.le_of_ble_eq_true rfl⟩ (Nat.le_of_ble_eq_true rfl) (fun l D A => c_X0_get l D A e58) ?_
      obtain ⟨M61, e61, h⟩ := bO_some h
      refine ww_iast 61 X dX2_putChained_61 e61 ?_
      refine ww_iinc 62 X dX2_putChained_62 (lv' := [(0, .ref l0), (2, .ref l2), (3, .ref l3), (4, .ref l4), (5, .int l5), (6, .int l6), (7, .int (l7 + 1))]) 6 rfl rfl (by decide) [1, 2, 3, 4, 5, 6, 0] rfl ?_
      refine ww_goto 65 42 X dX2_putChained_65 (by decide) ?_
      exact (ih _ _ _ _ _ _ _ _ h)
set_option maxHeartbeats 4000000 in
set_option maxRecDepth 100000 in
theorem wP_X2_putChained {G : mG} {F : Nat} {x : mXT} {sz : Nat} {M0 : mM} (X : mCX G RX2 cX2_putChained 9 none "putChained" rmX2_putChained x) (hQ : mQV x M0 (sz, 0, 0)) {l0 : Nat} {l1 : Nat} {l2 : Nat} {l3 : Nat} {l4 : Nat} {M : mM} (h : P_X2_putChained G F l0 l1 l2 l3 l4 M = some M0) : WW x (sz, 0, 0) M 0 [(0, .ref l0), (1, .ref l1), (2, .ref l2), (3, .ref l3), (4, .ref l4)] [] := by
  unfold P_X2_putChained at h
  refine ww_aload_n 0 X dX2_putChained_0 0 rfl rfl ?_
  obtain ⟨v1, e1, h⟩ := bO_some h
  refine ww_getR 1 X dX2_putChained_1 fG_X2_33 e1 ?_
  refine ww_aload_n 4 X dX2_putChained_4 1 rfl rfl ?_
  refine ww_aload_n 5 X dX2_putChained_5 1 rfl rfl ?_
  obtain ⟨v6, e6, h⟩ := bO_some h
  refine ww_getI 6 X dX2_putChained_6 fG_X2_44 e6 ?_
  refine ww_iconst 9 X (v := (2 : Int32)) dX2_putChained_9 (by decide) ?_
  refine ww_idiv 10 X (v := (v6 / (2 : Int32))) dX2_putChained_10 rfl ?_
  refine ww_aload_n 11 X dX2_putChained_11 1 rfl rfl ?_
  obtain ⟨v12, e12, h⟩ := bO_some h
  refine ww_getI 12 X dX2_putChained_12 fG_X2_44 e12 ?_
  refine ww_iconst 15 X (v := (2 : Int32)) dX2_putChained_15 (by decide) ?_
  refine ww_idiv 16 X (v := (v12 / (2 : Int32))) dX2_putChained_16 rfl ?_
  obtain ⟨_, f17, h⟩ := bO_some h
  obtain ⟨M17, e17, h⟩ := bO_some h
  refine ww_callVV0 17 X dX2_putChained_17 mY_X1_become mL_X2_82 (rcv_spec f17) ⟨_, _, rfl⟩ (by decide) (As := [.ref l1, .int (v6 / (2 : Int32)), .int (v12 / (2 : Int32))]) (rest := []) rfl rfl ⟨Nat.le_of_ble_eq_true rfl, Nat.le_of_ble_eq_true rfl⟩ (Nat.le_of_ble_eq_true rfl) (fun l D A => c_X1_become l D A e17) ?_
  refine ww_iconst 20 X (v := (0 : Int32)) dX2_putChained_20 (by decide) ?_
  refine ww_aload_n 21 X dX2_putChained_21 3 rfl rfl ?_
  obtain ⟨v22, e22, h⟩ := bO_some h
  refine ww_getI 22 X dX2_putChained_22 fG_X2_44 e22 ?_
  obtain ⟨v25, M25, e25, h⟩ := bP_some h
  refine ww_callSI0 25 X dX2_putChained_25 mY_X2_sealedBytes mL_X2_86 (As := [.int (0 : Int32), .int v22]) (rest := []) rfl rfl ⟨Nat.le_of_ble_eq_true rfl, Nat.le_of_ble_eq_true rfl⟩ (Nat.le_of_ble_eq_true rfl) (fun l D A => c_X2_sealedBytes l D A e25) ?_
  refine ww_istore 28 X dX2_putChained_28 (lv' := [(0, .ref l0), (1, .ref l1), (2, .ref l2), (3, .ref l3), (4, .ref l4), (5, .int v25)]) (by decide) [1, 2, 3, 4, 5, 0] rfl ?_
  refine ww_iload 30 X dX2_putChained_30 5 rfl ?_
  refine ww_aload_n 32 X dX2_putChained_32 3 rfl rfl ?_
  obtain ⟨v33, e33, h⟩ := bO_some h
  refine ww_getI 33 X dX2_putChained_33 fG_X2_44 e33 ?_
  refine ww_isub 36 X dX2_putChained_36 ?_
  refine ww_istore 37 X dX2_putChained_37 (lv' := [(0, .ref l0), (1, .ref l1), (2, .ref l2), (3, .ref l3), (4, .ref l4), (5, .int v25), (6, .int (v25 - v33))]) (by decide) [1, 2, 3, 4, 5, 6, 0] rfl ?_
  refine ww_iconst 39 X (v := (0 : Int32)) dX2_putChained_39 (by decide) ?_
  refine ww_istore 40 X dX2_putChained_40 (lv' := [(0, .ref l0), (1, .ref l1), (2, .ref l2), (3, .ref l3), (4, .ref l4), (5, .int v25), (6, .int (v25 - v33)), (7, .int (0 : Int32))]) (by decide) [1, 2, 3, 4, 5, 6, 7, 0] rfl ?_
  exact ww_sub [0, 2, 3, 4, 5, 6, 7] rfl (wB_X2_putChained_42 X hQ F _ _ _ _ _ _ _ _ h)
theorem c_X2_putChained {G : mG} {F sz : Nat} {M0 : mM} (l : Launch) (D : mD) (A : Nat → Prop) {l0 : Nat} {l1 : Nat} {l2 : Nat} {l3 : Nat} {l4 : Nat} {M : mM} (h : P_X2_putChained G F l0 l1 l2 l3 l4 M = some M0) : mMetV l D G A yX2_putChained cX2_putChained 9 none 3 83 0 0 [.ref l0, .ref l1, .ref l2, .ref l3, .ref l4] M sz M0 sz := mMetV_of l D G A (by decide) (Nat.le_of_ble_eq_true rfl) (fun x X hQ => wP_X2_putChained X hQ h)
/-! SealedTokens$Digest.start(I)V -/
theorem dX4_start_0 : decode cX4_start 0 = .ok (.aload_n 0, 1) := by decide +kernel
theorem dX4_start_1 : decode cX4_start 1 = .ok (.iload_n 1, 1) := by decide +kernel
theorem dX4_start_2 : decode cX4_start 2 = .ok (.sipush 512, 3) := by decide +kernel
theorem dX4_start_5 : decode cX4_start 5 = .ok (.if_icmp .ne 7, 3) := by decide +kernel
theorem dX4_start_8 : decode cX4_start 8 = .ok (.iconst 1, 1) := by decide +kernel
theorem dX4_start_9 : decode cX4_start 9 = .ok (.goto 4, 3) := by decide +kernel
theorem dX4_start_12 : decode cX4_start 12 = .ok (.iconst 0, 1) := by decide +kernel
theorem dX4_start_13 : decode cX4_start 13 = .ok (.putfield 42, 3) := by decide +kernel
theorem dX4_start_16 : decode cX4_start 16 = .ok (.aload_n 0, 1) := by decide +kernel
theorem dX4_start_17 : decode cX4_start 17 = .ok (.aload_n 0, 1) := by decide +kernel
theorem dX4_start_18 : decode cX4_start 18 = .ok (.getfield 42, 3) := by decide +kernel
theorem dX4_start_21 : decode cX4_start 21 = .ok (.ifCond .eq 9, 3) := by decide +kernel
theorem dX4_start_24 : decode cX4_start 24 = .ok (.sipush 128, 3) := by decide +kernel
theorem dX4_start_27 : decode cX4_start 27 = .ok (.goto 5, 3) := by decide +kernel
theorem dX4_start_30 : decode cX4_start 30 = .ok (.bipush 64, 2) := by decide +kernel
theorem dX4_start_32 : decode cX4_start 32 = .ok (.putfield 7, 3) := by decide +kernel
theorem dX4_start_35 : decode cX4_start 35 = .ok (.aload_n 0, 1) := by decide +kernel
theorem dX4_start_36 : decode cX4_start 36 = .ok (.iconst 0, 1) := by decide +kernel
theorem dX4_start_37 : decode cX4_start 37 = .ok (.putfield 46, 3) := by decide +kernel
theorem dX4_start_40 : decode cX4_start 40 = .ok (.aload_n 0, 1) := by decide +kernel
theorem dX4_start_41 : decode cX4_start 41 = .ok (.iconst 0, 1) := by decide +kernel
theorem dX4_start_42 : decode cX4_start 42 = .ok (.putfield 49, 3) := by decide +kernel
theorem dX4_start_45 : decode cX4_start 45 = .ok (.getstatic 52, 3) := by decide +kernel
theorem dX4_start_48 : decode cX4_start 48 = .ok (.iconst 0, 1) := by decide +kernel
theorem dX4_start_49 : decode cX4_start 49 = .ok (.aload_n 0, 1) := by decide +kernel
theorem dX4_start_50 : decode cX4_start 50 = .ok (.getfield 17, 3) := by decide +kernel
theorem dX4_start_53 : decode cX4_start 53 = .ok (.iconst 0, 1) := by decide +kernel
theorem dX4_start_54 : decode cX4_start 54 = .ok (.bipush 8, 2) := by decide +kernel
theorem dX4_start_56 : decode cX4_start 56 = .ok (.invokestatic 55, 3) := by decide +kernel
theorem dX4_start_59 : decode cX4_start 59 = .ok (.getstatic 61, 3) := by decide +kernel
theorem dX4_start_62 : decode cX4_start 62 = .ok (.iconst 0, 1) := by decide +kernel
theorem dX4_start_63 : decode cX4_start 63 = .ok (.aload_n 0, 1) := by decide +kernel
theorem dX4_start_64 : decode cX4_start 64 = .ok (.getfield 23, 3) := by decide +kernel
theorem dX4_start_67 : decode cX4_start 67 = .ok (.iconst 0, 1) := by decide +kernel
theorem dX4_start_68 : decode cX4_start 68 = .ok (.bipush 8, 2) := by decide +kernel
theorem dX4_start_70 : decode cX4_start 70 = .ok (.invokestatic 55, 3) := by decide +kernel
theorem dX4_start_73 : decode cX4_start 73 = .ok (.return_, 1) := by decide +kernel
abbrev rmX4_start : Room := { frames := 1, cells := 0, slots := 0, locals := 60 }
set_option maxHeartbeats 4000000 in
set_option maxRecDepth 100000 in
theorem wB_X4_start_32 {G : mG} {F : Nat} {x : mXT} {sz : Nat} {M0 : mM} (X : mCX G RX4 cX4_start 2 none "start" rmX4_start x) (hQ : mQV x M0 (sz, 0, 0)) {l0 : Nat} {sk0 : Nat} {sk1 : Int32} {M : mM} (h : B_X4_start_32 G F l0 sk0 sk1 M = some M0) : WW x (sz, 0, 0) M 32 [(0, .ref l0)] [.int sk1, .ref sk0] := by
  unfold B_X4_start_32 at h
  obtain ⟨M32, e32, h⟩ := bO_some h
  refine ww_putI 32 X dX4_start_32 (fP_X4_7 _) e32 ?_
  refine ww_aload_n 35 X dX4_start_35 0 rfl rfl ?_
  refine ww_iconst 36 X (v := (0 : Int32)) dX4_start_36 (by decide) ?_
  obtain ⟨M37, e37, h⟩ := bO_some h
  refine ww_putI 37 X dX4_start_37 (fP_X4_46 _) e37 ?_
  refine ww_aload_n 40 X dX4_start_40 0 rfl rfl ?_
  refine ww_iconst 41 X (v := (0 : Int32)) dX4_start_41 (by decide) ?_
  obtain ⟨M42, e42, h⟩ := bO_some h
  refine ww_putI 42 X dX4_start_42 (fP_X4_49 _) e42 ?_
  refine ww_gets 45 X dX4_start_45 gS_X4_52 ?_
  refine ww_iconst 48 X (v := (0 : Int32)) dX4_start_48 (by decide) ?_
  refine ww_aload_n 49 X dX4_start_49 0 rfl rfl ?_
  obtain ⟨v50, e50, h⟩ := bO_some h
  refine ww_getR 50 X dX4_start_50 fG_X4_17 e50 ?_
  refine ww_iconst 53 X (v := (0 : Int32)) dX4_start_53 (by decide) ?_
  refine ww_bipush 54 X (v := (8 : Int32)) dX4_start_54 (by decide) ?_
  obtain ⟨M56, e56, h⟩ := bO_some h
  refine ww_cpI 56 X (st := []) dX4_start_56 mL_X4_55 (Nat.le_of_ble_eq_true rfl) (Nat.le_of_ble_eq_true rfl) (Nat.le_of_ble_eq_true rfl) e56 ?_
  refine ww_gets 59 X dX4_start_59 gS_X4_61 ?_
  refine ww_iconst 62 X (v := (0 : Int32)) dX4_start_62 (by decide) ?_
  refine ww_aload_n 63 X dX4_start_63 0 rfl rfl ?_
  obtain ⟨v64, e64, h⟩ := bO_some h
  refine ww_getR 64 X dX4_start_64 fG_X4_23 e64 ?_
  refine ww_iconst 67 X (v := (0 : Int32)) dX4_start_67 (by decide) ?_
  refine ww_bipush 68 X (v := (8 : Int32)) dX4_start_68 (by decide) ?_
  obtain ⟨M70, e70, h⟩ := bO_some h
  refine ww_cpL 70 X (st := []) dX4_start_70 mL_X4_55 (Nat.le_of_ble_eq_true rfl) (Nat.le_of_ble_eq_true rfl) (Nat.le_of_ble_eq_true rfl) e70 ?_
  exact ww_vretE 73 X hQ dX4_start_73 h
set_option maxHeartbeats 4000000 in
set_option maxRecDepth 100000 in
theorem wP_X4_start {G : mG} {F : Nat} {x : mXT} {sz : Nat} {M0 : mM} (X : mCX G RX4 cX4_start 2 none "start" rmX4_start x) (hQ : mQV x M0 (sz, 0, 0)) {l0 : Nat} {l1 : Int32} {M : mM} (h : P_X4_start G F l0 l1 M = some M0) : WW x (sz, 0, 0) M 0 [(0, .ref l0), (1, .int l1)] [] := by
  unfold P_X4_start at h
  refine ww_aload_n 0 X dX4_start_0 0 rfl rfl ?_
  refine ww_iload_n 1 X dX4_start_1 1 rfl rfl ?_
  refine ww_sipush 2 X (v := (512 : Int32)) dX4_start_2 (by decide) ?_
  refine ww_icmp_ne 5 12 X dX4_start_5 (by decide) (fun q => ?_) (fun q => ?_)
  · replace h := (if_neg q).symm.trans h
    refine ww_iconst 12 X (v := (0 : Int32)) dX4_start_12 (by decide) ?_
    obtain ⟨M13, e13, h⟩ := bO_some h
    refine ww_putZ 13 X dX4_start_13 (fP_X4_42 _) e13 ?_
    refine ww_aload_n 16 X dX4_start_16 0 rfl rfl ?_
    refine ww_aload_n 17 X dX4_start_17 0 rfl rfl ?_
    obtain ⟨v18, e18, h⟩ := bO_some h
    refine ww_getI 18 X dX4_start_18 fG_X4_42 e18 ?_
    refine ww_if_eq 21 30 X dX4_start_21 (by decide) (fun q => ?_) (fun q => ?_)
    · replace h := (if_pos q).symm.trans h
      refine ww_bipush 30 X (v := (64 : Int32)) dX4_start_30 (by decide) ?_
      exact ww_sub [0] rfl (wB_X4_start_32 X hQ h)
    · replace h := (if_neg q).symm.trans h
      refine ww_sipush 24 X (v := (128 : Int32)) dX4_start_24 (by decide) ?_
      refine ww_goto 27 32 X dX4_start_27 (by decide) ?_
      exact ww_sub [0] rfl (wB_X4_start_32 X hQ h)
  · replace h := (if_pos q).symm.trans h
    refine ww_iconst 8 X (v := (1 : Int32)) dX4_start_8 (by decide) ?_
    refine ww_goto 9 13 X dX4_start_9 (by decide) ?_
    obtain ⟨M13, e13, h⟩ := bO_some h
    refine ww_putZ 13 X dX4_start_13 (fP_X4_42 _) e13 ?_
    refine ww_aload_n 16 X dX4_start_16 0 rfl rfl ?_
    refine ww_aload_n 17 X dX4_start_17 0 rfl rfl ?_
    obtain ⟨v18, e18, h⟩ := bO_some h
    refine ww_getI 18 X dX4_start_18 fG_X4_42 e18 ?_
    refine ww_if_eq 21 30 X dX4_start_21 (by decide) (fun q => ?_) (fun q => ?_)
    · replace h := (if_pos q).symm.trans h
      refine ww_bipush 30 X (v := (64 : Int32)) dX4_start_30 (by decide) ?_
      exact ww_sub [0] rfl (wB_X4_start_32 X hQ h)
    · replace h := (if_neg q).symm.trans h
      refine ww_sipush 24 X (v := (128 : Int32)) dX4_start_24 (by decide) ?_
      refine ww_goto 27 32 X dX4_start_27 (by decide) ?_
      exact ww_sub [0] rfl (wB_X4_start_32 X hQ h)
theorem c_X4_start {G : mG} {F sz : Nat} {M0 : mM} (l : Launch) (D : mD) (A : Nat → Prop) {l0 : Nat} {l1 : Int32} {M : mM} (h : P_X4_start G F l0 l1 M = some M0) : mMetV l D G A yX4_start cX4_start 2 none 1 60 0 0 [.ref l0, .int l1] M sz M0 sz := mMetV_of l D G A (by decide) (Nat.le_of_ble_eq_true rfl) (fun x X hQ => wP_X4_start X hQ h)
/-! SealedTokens$Digest.mixWide()V -/
theorem dX4_mixWide_0 : decode cX4_mixWide 0 = .ok (.aload_n 0, 1) := by decide +kernel
theorem dX4_mixWide_1 : decode cX4_mixWide 1 = .ok (.getfield 27, 3) := by decide +kernel
theorem dX4_mixWide_4 : decode cX4_mixWide 4 = .ok (.astore_n 1, 1) := by decide +kernel
theorem dX4_mixWide_5 : decode cX4_mixWide 5 = .ok (.iconst 0, 1) := by decide +kernel
theorem dX4_mixWide_6 : decode cX4_mixWide 6 = .ok (.istore_n 2, 1) := by decide +kernel
theorem dX4_mixWide_7 : decode cX4_mixWide 7 = .ok (.iload_n 2, 1) := by decide +kernel
theorem dX4_mixWide_8 : decode cX4_mixWide 8 = .ok (.bipush 16, 2) := by decide +kernel
theorem dX4_mixWide_10 : decode cX4_mixWide 10 = .ok (.if_icmp .ge 50, 3) := by decide +kernel
theorem dX4_mixWide_13 : decode cX4_mixWide 13 = .ok (.lconst 0, 1) := by decide +kernel
theorem dX4_mixWide_14 : decode cX4_mixWide 14 = .ok (.lstore_n 3, 1) := by decide +kernel
theorem dX4_mixWide_15 : decode cX4_mixWide 15 = .ok (.iconst 0, 1) := by decide +kernel
theorem dX4_mixWide_16 : decode cX4_mixWide 16 = .ok (.istore 5, 2) := by decide +kernel
theorem dX4_mixWide_18 : decode cX4_mixWide 18 = .ok (.iload 5, 2) := by decide +kernel
theorem dX4_mixWide_20 : decode cX4_mixWide 20 = .ok (.bipush 8, 2) := by decide +kernel
theorem dX4_mixWide_22 : decode cX4_mixWide 22 = .ok (.if_icmp .ge 28, 3) := by decide +kernel
theorem dX4_mixWide_25 : decode cX4_mixWide 25 = .ok (.lload_n 3, 1) := by decide +kernel
theorem dX4_mixWide_26 : decode cX4_mixWide 26 = .ok (.bipush 8, 2) := by decide +kernel
theorem dX4_mixWide_28 : decode cX4_mixWide 28 = .ok (.lshl, 1) := by decide +kernel
theorem dX4_mixWide_29 : decode cX4_mixWide 29 = .ok (.aload_n 0, 1) := by decide +kernel
theorem dX4_mixWide_30 : decode cX4_mixWide 30 = .ok (.getfield 13, 3) := by decide +kernel
theorem dX4_mixWide_33 : decode cX4_mixWide 33 = .ok (.bipush 8, 2) := by decide +kernel
theorem dX4_mixWide_35 : decode cX4_mixWide 35 = .ok (.iload_n 2, 1) := by decide +kernel
theorem dX4_mixWide_36 : decode cX4_mixWide 36 = .ok (.imul, 1) := by decide +kernel
theorem dX4_mixWide_37 : decode cX4_mixWide 37 = .ok (.iload 5, 2) := by decide +kernel
theorem dX4_mixWide_39 : decode cX4_mixWide 39 = .ok (.iadd, 1) := by decide +kernel
theorem dX4_mixWide_40 : decode cX4_mixWide 40 = .ok (.iaload, 1) := by decide +kernel
theorem dX4_mixWide_41 : decode cX4_mixWide 41 = .ok (.i2l, 1) := by decide +kernel
theorem dX4_mixWide_42 : decode cX4_mixWide 42 = .ok (.lor, 1) := by decide +kernel
theorem dX4_mixWide_43 : decode cX4_mixWide 43 = .ok (.lstore_n 3, 1) := by decide +kernel
theorem dX4_mixWide_44 : decode cX4_mixWide 44 = .ok (.iinc 5 1, 3) := by decide +kernel
theorem dX4_mixWide_47 : decode cX4_mixWide 47 = .ok (.goto (-29), 3) := by decide +kernel
theorem dX4_mixWide_50 : decode cX4_mixWide 50 = .ok (.aload_n 1, 1) := by decide +kernel
theorem dX4_mixWide_51 : decode cX4_mixWide 51 = .ok (.iload_n 2, 1) := by decide +kernel
theorem dX4_mixWide_52 : decode cX4_mixWide 52 = .ok (.lload_n 3, 1) := by decide +kernel
theorem dX4_mixWide_53 : decode cX4_mixWide 53 = .ok (.lastore, 1) := by decide +kernel
theorem dX4_mixWide_54 : decode cX4_mixWide 54 = .ok (.iinc 2 1, 3) := by decide +kernel
theorem dX4_mixWide_57 : decode cX4_mixWide 57 = .ok (.goto (-50), 3) := by decide +kernel
theorem dX4_mixWide_60 : decode cX4_mixWide 60 = .ok (.bipush 16, 2) := by decide +kernel
theorem dX4_mixWide_62 : decode cX4_mixWide 62 = .ok (.istore_n 2, 1) := by decide +kernel
theorem dX4_mixWide_63 : decode cX4_mixWide 63 = .ok (.iload_n 2, 1) := by decide +kernel
theorem dX4_mixWide_64 : decode cX4_mixWide 64 = .ok (.bipush 80, 2) := by decide +kernel
theorem dX4_mixWide_66 : decode cX4_mixWide 66 = .ok (.if_icmp .ge 100, 3) := by decide +kernel
theorem dX4_mixWide_69 : decode cX4_mixWide 69 = .ok (.aload_n 1, 1) := by decide +kernel
theorem dX4_mixWide_70 : decode cX4_mixWide 70 = .ok (.iload_n 2, 1) := by decide +kernel
theorem dX4_mixWide_71 : decode cX4_mixWide 71 = .ok (.bipush 15, 2) := by decide +kernel
theorem dX4_mixWide_73 : decode cX4_mixWide 73 = .ok (.isub, 1) := by decide +kernel
theorem dX4_mixWide_74 : decode cX4_mixWide 74 = .ok (.laload, 1) := by decide +kernel
theorem dX4_mixWide_75 : decode cX4_mixWide 75 = .ok (.lstore_n 3, 1) := by decide +kernel
theorem dX4_mixWide_76 : decode cX4_mixWide 76 = .ok (.aload_n 1, 1) := by decide +kernel
theorem dX4_mixWide_77 : decode cX4_mixWide 77 = .ok (.iload_n 2, 1) := by decide +kernel
theorem dX4_mixWide_78 : decode cX4_mixWide 78 = .ok (.iconst 2, 1) := by decide +kernel
theorem dX4_mixWide_79 : decode cX4_mixWide 79 = .ok (.isub, 1) := by decide +kernel
theorem dX4_mixWide_80 : decode cX4_mixWide 80 = .ok (.laload, 1) := by decide +kernel
theorem dX4_mixWide_81 : decode cX4_mixWide 81 = .ok (.lstore 5, 2) := by decide +kernel
theorem dX4_mixWide_83 : decode cX4_mixWide 83 = .ok (.lload_n 3, 1) := by decide +kernel
theorem dX4_mixWide_84 : decode cX4_mixWide 84 = .ok (.iconst 1, 1) := by decide +kernel
theorem dX4_mixWide_85 : decode cX4_mixWide 85 = .ok (.lushr, 1) := by decide +kernel
theorem dX4_mixWide_86 : decode cX4_mixWide 86 = .ok (.lload_n 3, 1) := by decide +kernel
theorem dX4_mixWide_87 : decode cX4_mixWide 87 = .ok (.bipush 63, 2) := by decide +kernel
theorem dX4_mixWide_89 : decode cX4_mixWide 89 = .ok (.lshl, 1) := by decide +kernel
theorem dX4_mixWide_90 : decode cX4_mixWide 90 = .ok (.lor, 1) := by decide +kernel
theorem dX4_mixWide_91 : decode cX4_mixWide 91 = .ok (.lload_n 3, 1) := by decide +kernel
theorem dX4_mixWide_92 : decode cX4_mixWide 92 = .ok (.bipush 8, 2) := by decide +kernel
theorem dX4_mixWide_94 : decode cX4_mixWide 94 = .ok (.lushr, 1) := by decide +kernel
theorem dX4_mixWide_95 : decode cX4_mixWide 95 = .ok (.lload_n 3, 1) := by decide +kernel
theorem dX4_mixWide_96 : decode cX4_mixWide 96 = .ok (.bipush 56, 2) := by decide +kernel
theorem dX4_mixWide_98 : decode cX4_mixWide 98 = .ok (.lshl, 1) := by decide +kernel
theorem dX4_mixWide_99 : decode cX4_mixWide 99 = .ok (.lor, 1) := by decide +kernel
theorem dX4_mixWide_100 : decode cX4_mixWide 100 = .ok (.lxor, 1) := by decide +kernel
theorem dX4_mixWide_101 : decode cX4_mixWide 101 = .ok (.lload_n 3, 1) := by decide +kernel
theorem dX4_mixWide_102 : decode cX4_mixWide 102 = .ok (.bipush 7, 2) := by decide +kernel
theorem dX4_mixWide_104 : decode cX4_mixWide 104 = .ok (.lushr, 1) := by decide +kernel
theorem dX4_mixWide_105 : decode cX4_mixWide 105 = .ok (.lxor, 1) := by decide +kernel
theorem dX4_mixWide_106 : decode cX4_mixWide 106 = .ok (.lstore 7, 2) := by decide +kernel
theorem dX4_mixWide_108 : decode cX4_mixWide 108 = .ok (.lload 5, 2) := by decide +kernel
theorem dX4_mixWide_110 : decode cX4_mixWide 110 = .ok (.bipush 19, 2) := by decide +kernel
theorem dX4_mixWide_112 : decode cX4_mixWide 112 = .ok (.lushr, 1) := by decide +kernel
theorem dX4_mixWide_113 : decode cX4_mixWide 113 = .ok (.lload 5, 2) := by decide +kernel
theorem dX4_mixWide_115 : decode cX4_mixWide 115 = .ok (.bipush 45, 2) := by decide +kernel
theorem dX4_mixWide_117 : decode cX4_mixWide 117 = .ok (.lshl, 1) := by decide +kernel
theorem dX4_mixWide_118 : decode cX4_mixWide 118 = .ok (.lor, 1) := by decide +kernel
theorem dX4_mixWide_119 : decode cX4_mixWide 119 = .ok (.lload 5, 2) := by decide +kernel
theorem dX4_mixWide_121 : decode cX4_mixWide 121 = .ok (.bipush 61, 2) := by decide +kernel
theorem dX4_mixWide_123 : decode cX4_mixWide 123 = .ok (.lushr, 1) := by decide +kernel
theorem dX4_mixWide_124 : decode cX4_mixWide 124 = .ok (.lload 5, 2) := by decide +kernel
theorem dX4_mixWide_126 : decode cX4_mixWide 126 = .ok (.iconst 3, 1) := by decide +kernel
theorem dX4_mixWide_127 : decode cX4_mixWide 127 = .ok (.lshl, 1) := by decide +kernel
theorem dX4_mixWide_128 : decode cX4_mixWide 128 = .ok (.lor, 1) := by decide +kernel
theorem dX4_mixWide_129 : decode cX4_mixWide 129 = .ok (.lxor, 1) := by decide +kernel
theorem dX4_mixWide_130 : decode cX4_mixWide 130 = .ok (.lload 5, 2) := by decide +kernel
theorem dX4_mixWide_132 : decode cX4_mixWide 132 = .ok (.bipush 6, 2) := by decide +kernel
theorem dX4_mixWide_134 : decode cX4_mixWide 134 = .ok (.lushr, 1) := by decide +kernel
theorem dX4_mixWide_135 : decode cX4_mixWide 135 = .ok (.lxor, 1) := by decide +kernel
theorem dX4_mixWide_136 : decode cX4_mixWide 136 = .ok (.lstore 9, 2) := by decide +kernel
theorem dX4_mixWide_138 : decode cX4_mixWide 138 = .ok (.aload_n 1, 1) := by decide +kernel
theorem dX4_mixWide_139 : decode cX4_mixWide 139 = .ok (.iload_n 2, 1) := by decide +kernel
theorem dX4_mixWide_140 : decode cX4_mixWide 140 = .ok (.aload_n 1, 1) := by decide +kernel
theorem dX4_mixWide_141 : decode cX4_mixWide 141 = .ok (.iload_n 2, 1) := by decide +kernel
theorem dX4_mixWide_142 : decode cX4_mixWide 142 = .ok (.bipush 16, 2) := by decide +kernel
theorem dX4_mixWide_144 : decode cX4_mixWide 144 = .ok (.isub, 1) := by decide +kernel
theorem dX4_mixWide_145 : decode cX4_mixWide 145 = .ok (.laload, 1) := by decide +kernel
theorem dX4_mixWide_146 : decode cX4_mixWide 146 = .ok (.lload 7, 2) := by decide +kernel
theorem dX4_mixWide_148 : decode cX4_mixWide 148 = .ok (.ladd, 1) := by decide +kernel
theorem dX4_mixWide_149 : decode cX4_mixWide 149 = .ok (.aload_n 1, 1) := by decide +kernel
theorem dX4_mixWide_150 : decode cX4_mixWide 150 = .ok (.iload_n 2, 1) := by decide +kernel
theorem dX4_mixWide_151 : decode cX4_mixWide 151 = .ok (.bipush 7, 2) := by decide +kernel
theorem dX4_mixWide_153 : decode cX4_mixWide 153 = .ok (.isub, 1) := by decide +kernel
theorem dX4_mixWide_154 : decode cX4_mixWide 154 = .ok (.laload, 1) := by decide +kernel
theorem dX4_mixWide_155 : decode cX4_mixWide 155 = .ok (.ladd, 1) := by decide +kernel
theorem dX4_mixWide_156 : decode cX4_mixWide 156 = .ok (.lload 9, 2) := by decide +kernel
theorem dX4_mixWide_158 : decode cX4_mixWide 158 = .ok (.ladd, 1) := by decide +kernel
theorem dX4_mixWide_159 : decode cX4_mixWide 159 = .ok (.lastore, 1) := by decide +kernel
theorem dX4_mixWide_160 : decode cX4_mixWide 160 = .ok (.iinc 2 1, 3) := by decide +kernel
theorem dX4_mixWide_163 : decode cX4_mixWide 163 = .ok (.goto (-100), 3) := by decide +kernel
theorem dX4_mixWide_166 : decode cX4_mixWide 166 = .ok (.aload_n 0, 1) := by decide +kernel
theorem dX4_mixWide_167 : decode cX4_mixWide 167 = .ok (.getfield 23, 3) := by decide +kernel
theorem dX4_mixWide_170 : decode cX4_mixWide 170 = .ok (.iconst 0, 1) := by decide +kernel
theorem dX4_mixWide_171 : decode cX4_mixWide 171 = .ok (.laload, 1) := by decide +kernel
theorem dX4_mixWide_172 : decode cX4_mixWide 172 = .ok (.lstore_n 2, 1) := by decide +kernel
theorem dX4_mixWide_173 : decode cX4_mixWide 173 = .ok (.aload_n 0, 1) := by decide +kernel
theorem dX4_mixWide_174 : decode cX4_mixWide 174 = .ok (.getfield 23, 3) := by decide +kernel
theorem dX4_mixWide_177 : decode cX4_mixWide 177 = .ok (.iconst 1, 1) := by decide +kernel
theorem dX4_mixWide_178 : decode cX4_mixWide 178 = .ok (.laload, 1) := by decide +kernel
theorem dX4_mixWide_179 : decode cX4_mixWide 179 = .ok (.lstore 4, 2) := by decide +kernel
theorem dX4_mixWide_181 : decode cX4_mixWide 181 = .ok (.aload_n 0, 1) := by decide +kernel
theorem dX4_mixWide_182 : decode cX4_mixWide 182 = .ok (.getfield 23, 3) := by decide +kernel
theorem dX4_mixWide_185 : decode cX4_mixWide 185 = .ok (.iconst 2, 1) := by decide +kernel
theorem dX4_mixWide_186 : decode cX4_mixWide 186 = .ok (.laload, 1) := by decide +kernel
theorem dX4_mixWide_187 : decode cX4_mixWide 187 = .ok (.lstore 6, 2) := by decide +kernel
theorem dX4_mixWide_189 : decode cX4_mixWide 189 = .ok (.aload_n 0, 1) := by decide +kernel
theorem dX4_mixWide_190 : decode cX4_mixWide 190 = .ok (.getfield 23, 3) := by decide +kernel
theorem dX4_mixWide_193 : decode cX4_mixWide 193 = .ok (.iconst 3, 1) := by decide +kernel
theorem dX4_mixWide_194 : decode cX4_mixWide 194 = .ok (.laload, 1) := by decide +kernel
theorem dX4_mixWide_195 : decode cX4_mixWide 195 = .ok (.lstore 8, 2) := by decide +kernel
theorem dX4_mixWide_197 : decode cX4_mixWide 197 = .ok (.aload_n 0, 1) := by decide +kernel
theorem dX4_mixWide_198 : decode cX4_mixWide 198 = .ok (.getfield 23, 3) := by decide +kernel
theorem dX4_mixWide_201 : decode cX4_mixWide 201 = .ok (.iconst 4, 1) := by decide +kernel
theorem dX4_mixWide_202 : decode cX4_mixWide 202 = .ok (.laload, 1) := by decide +kernel
theorem dX4_mixWide_203 : decode cX4_mixWide 203 = .ok (.lstore 10, 2) := by decide +kernel
theorem dX4_mixWide_205 : decode cX4_mixWide 205 = .ok (.aload_n 0, 1) := by decide +kernel
theorem dX4_mixWide_206 : decode cX4_mixWide 206 = .ok (.getfield 23, 3) := by decide +kernel
theorem dX4_mixWide_209 : decode cX4_mixWide 209 = .ok (.iconst 5, 1) := by decide +kernel
theorem dX4_mixWide_210 : decode cX4_mixWide 210 = .ok (.laload, 1) := by decide +kernel
theorem dX4_mixWide_211 : decode cX4_mixWide 211 = .ok (.lstore 12, 2) := by decide +kernel
theorem dX4_mixWide_213 : decode cX4_mixWide 213 = .ok (.aload_n 0, 1) := by decide +kernel
theorem dX4_mixWide_214 : decode cX4_mixWide 214 = .ok (.getfield 23, 3) := by decide +kernel
theorem dX4_mixWide_217 : decode cX4_mixWide 217 = .ok (.bipush 6, 2) := by decide +kernel
theorem dX4_mixWide_219 : decode cX4_mixWide 219 = .ok (.laload, 1) := by decide +kernel
theorem dX4_mixWide_220 : decode cX4_mixWide 220 = .ok (.lstore 14, 2) := by decide +kernel
theorem dX4_mixWide_222 : decode cX4_mixWide 222 = .ok (.aload_n 0, 1) := by decide +kernel
theorem dX4_mixWide_223 : decode cX4_mixWide 223 = .ok (.getfield 23, 3) := by decide +kernel
theorem dX4_mixWide_226 : decode cX4_mixWide 226 = .ok (.bipush 7, 2) := by decide +kernel
theorem dX4_mixWide_228 : decode cX4_mixWide 228 = .ok (.laload, 1) := by decide +kernel
theorem dX4_mixWide_229 : decode cX4_mixWide 229 = .ok (.lstore 16, 2) := by decide +kernel
theorem dX4_mixWide_231 : decode cX4_mixWide 231 = .ok (.iconst 0, 1) := by decide +kernel
theorem dX4_mixWide_232 : decode cX4_mixWide 232 = .ok (.istore 18, 2) := by decide +kernel
theorem dX4_mixWide_234 : decode cX4_mixWide 234 = .ok (.iload 18, 2) := by decide +kernel
theorem dX4_mixWide_236 : decode cX4_mixWide 236 = .ok (.bipush 80, 2) := by decide +kernel
theorem dX4_mixWide_238 : decode cX4_mixWide 238 = .ok (.if_icmp .ge 168, 3) := by decide +kernel
theorem dX4_mixWide_241 : decode cX4_mixWide 241 = .ok (.lload 10, 2) := by decide +kernel
theorem dX4_mixWide_243 : decode cX4_mixWide 243 = .ok (.bipush 14, 2) := by decide +kernel
theorem dX4_mixWide_245 : decode cX4_mixWide 245 = .ok (.lushr, 1) := by decide +kernel
theorem dX4_mixWide_246 : decode cX4_mixWide 246 = .ok (.lload 10, 2) := by decide +kernel
theorem dX4_mixWide_248 : decode cX4_mixWide 248 = .ok (.bipush 50, 2) := by decide +kernel
theorem dX4_mixWide_250 : decode cX4_mixWide 250 = .ok (.lshl, 1) := by decide +kernel
theorem dX4_mixWide_251 : decode cX4_mixWide 251 = .ok (.lor, 1) := by decide +kernel
theorem dX4_mixWide_252 : decode cX4_mixWide 252 = .ok (.lload 10, 2) := by decide +kernel
theorem dX4_mixWide_254 : decode cX4_mixWide 254 = .ok (.bipush 18, 2) := by decide +kernel
theorem dX4_mixWide_256 : decode cX4_mixWide 256 = .ok (.lushr, 1) := by decide +kernel
theorem dX4_mixWide_257 : decode cX4_mixWide 257 = .ok (.lload 10, 2) := by decide +kernel
theorem dX4_mixWide_259 : decode cX4_mixWide 259 = .ok (.bipush 46, 2) := by decide +kernel
theorem dX4_mixWide_261 : decode cX4_mixWide 261 = .ok (.lshl, 1) := by decide +kernel
theorem dX4_mixWide_262 : decode cX4_mixWide 262 = .ok (.lor, 1) := by decide +kernel
theorem dX4_mixWide_263 : decode cX4_mixWide 263 = .ok (.lxor, 1) := by decide +kernel
theorem dX4_mixWide_264 : decode cX4_mixWide 264 = .ok (.lload 10, 2) := by decide +kernel
theorem dX4_mixWide_266 : decode cX4_mixWide 266 = .ok (.bipush 41, 2) := by decide +kernel
theorem dX4_mixWide_268 : decode cX4_mixWide 268 = .ok (.lushr, 1) := by decide +kernel
theorem dX4_mixWide_269 : decode cX4_mixWide 269 = .ok (.lload 10, 2) := by decide +kernel
theorem dX4_mixWide_271 : decode cX4_mixWide 271 = .ok (.bipush 23, 2) := by decide +kernel
theorem dX4_mixWide_273 : decode cX4_mixWide 273 = .ok (.lshl, 1) := by decide +kernel
theorem dX4_mixWide_274 : decode cX4_mixWide 274 = .ok (.lor, 1) := by decide +kernel
theorem dX4_mixWide_275 : decode cX4_mixWide 275 = .ok (.lxor, 1) := by decide +kernel
theorem dX4_mixWide_276 : decode cX4_mixWide 276 = .ok (.lstore 19, 2) := by decide +kernel
theorem dX4_mixWide_278 : decode cX4_mixWide 278 = .ok (.lload 16, 2) := by decide +kernel
theorem dX4_mixWide_280 : decode cX4_mixWide 280 = .ok (.lload 19, 2) := by decide +kernel
theorem dX4_mixWide_282 : decode cX4_mixWide 282 = .ok (.ladd, 1) := by decide +kernel
theorem dX4_mixWide_283 : decode cX4_mixWide 283 = .ok (.lload 10, 2) := by decide +kernel
theorem dX4_mixWide_285 : decode cX4_mixWide 285 = .ok (.lload 12, 2) := by decide +kernel
theorem dX4_mixWide_287 : decode cX4_mixWide 287 = .ok (.land, 1) := by decide +kernel
theorem dX4_mixWide_288 : decode cX4_mixWide 288 = .ok (.lload 10, 2) := by decide +kernel
theorem dX4_mixWide_290 : decode cX4_mixWide 290 = .ok (.ldc2_w 83, 3) := by decide +kernel
theorem dX4_mixWide_293 : decode cX4_mixWide 293 = .ok (.lxor, 1) := by decide +kernel
theorem dX4_mixWide_294 : decode cX4_mixWide 294 = .ok (.lload 14, 2) := by decide +kernel
theorem dX4_mixWide_296 : decode cX4_mixWide 296 = .ok (.land, 1) := by decide +kernel
theorem dX4_mixWide_297 : decode cX4_mixWide 297 = .ok (.lxor, 1) := by decide +kernel
theorem dX4_mixWide_298 : decode cX4_mixWide 298 = .ok (.ladd, 1) := by decide +kernel
theorem dX4_mixWide_299 : decode cX4_mixWide 299 = .ok (.getstatic 85, 3) := by decide +kernel
theorem dX4_mixWide_302 : decode cX4_mixWide 302 = .ok (.iload 18, 2) := by decide +kernel
theorem dX4_mixWide_304 : decode cX4_mixWide 304 = .ok (.laload, 1) := by decide +kernel
theorem dX4_mixWide_305 : decode cX4_mixWide 305 = .ok (.ladd, 1) := by decide +kernel
theorem dX4_mixWide_306 : decode cX4_mixWide 306 = .ok (.aload_n 1, 1) := by decide +kernel
theorem dX4_mixWide_307 : decode cX4_mixWide 307 = .ok (.iload 18, 2) := by decide +kernel
theorem dX4_mixWide_309 : decode cX4_mixWide 309 = .ok (.laload, 1) := by decide +kernel
theorem dX4_mixWide_310 : decode cX4_mixWide 310 = .ok (.ladd, 1) := by decide +kernel
theorem dX4_mixWide_311 : decode cX4_mixWide 311 = .ok (.lstore 21, 2) := by decide +kernel
theorem dX4_mixWide_313 : decode cX4_mixWide 313 = .ok (.lload_n 2, 1) := by decide +kernel
theorem dX4_mixWide_314 : decode cX4_mixWide 314 = .ok (.bipush 28, 2) := by decide +kernel
theorem dX4_mixWide_316 : decode cX4_mixWide 316 = .ok (.lushr, 1) := by decide +kernel
theorem dX4_mixWide_317 : decode cX4_mixWide 317 = .ok (.lload_n 2, 1) := by decide +kernel
theorem dX4_mixWide_318 : decode cX4_mixWide 318 = .ok (.bipush 36, 2) := by decide +kernel
theorem dX4_mixWide_320 : decode cX4_mixWide 320 = .ok (.lshl, 1) := by decide +kernel
theorem dX4_mixWide_321 : decode cX4_mixWide 321 = .ok (.lor, 1) := by decide +kernel
theorem dX4_mixWide_322 : decode cX4_mixWide 322 = .ok (.lload_n 2, 1) := by decide +kernel
theorem dX4_mixWide_323 : decode cX4_mixWide 323 = .ok (.bipush 34, 2) := by decide +kernel
theorem dX4_mixWide_325 : decode cX4_mixWide 325 = .ok (.lushr, 1) := by decide +kernel
theorem dX4_mixWide_326 : decode cX4_mixWide 326 = .ok (.lload_n 2, 1) := by decide +kernel
theorem dX4_mixWide_327 : decode cX4_mixWide 327 = .ok (.bipush 30, 2) := by decide +kernel
theorem dX4_mixWide_329 : decode cX4_mixWide 329 = .ok (.lshl, 1) := by decide +kernel
theorem dX4_mixWide_330 : decode cX4_mixWide 330 = .ok (.lor, 1) := by decide +kernel
theorem dX4_mixWide_331 : decode cX4_mixWide 331 = .ok (.lxor, 1) := by decide +kernel
theorem dX4_mixWide_332 : decode cX4_mixWide 332 = .ok (.lload_n 2, 1) := by decide +kernel
theorem dX4_mixWide_333 : decode cX4_mixWide 333 = .ok (.bipush 39, 2) := by decide +kernel
theorem dX4_mixWide_335 : decode cX4_mixWide 335 = .ok (.lushr, 1) := by decide +kernel
theorem dX4_mixWide_336 : decode cX4_mixWide 336 = .ok (.lload_n 2, 1) := by decide +kernel
theorem dX4_mixWide_337 : decode cX4_mixWide 337 = .ok (.bipush 25, 2) := by decide +kernel
theorem dX4_mixWide_339 : decode cX4_mixWide 339 = .ok (.lshl, 1) := by decide +kernel
theorem dX4_mixWide_340 : decode cX4_mixWide 340 = .ok (.lor, 1) := by decide +kernel
theorem dX4_mixWide_341 : decode cX4_mixWide 341 = .ok (.lxor, 1) := by decide +kernel
theorem dX4_mixWide_342 : decode cX4_mixWide 342 = .ok (.lstore 23, 2) := by decide +kernel
theorem dX4_mixWide_344 : decode cX4_mixWide 344 = .ok (.lload 23, 2) := by decide +kernel
theorem dX4_mixWide_346 : decode cX4_mixWide 346 = .ok (.lload_n 2, 1) := by decide +kernel
theorem dX4_mixWide_347 : decode cX4_mixWide 347 = .ok (.lload 4, 2) := by decide +kernel
theorem dX4_mixWide_349 : decode cX4_mixWide 349 = .ok (.land, 1) := by decide +kernel
theorem dX4_mixWide_350 : decode cX4_mixWide 350 = .ok (.lload_n 2, 1) := by decide +kernel
theorem dX4_mixWide_351 : decode cX4_mixWide 351 = .ok (.lload 6, 2) := by decide +kernel
theorem dX4_mixWide_353 : decode cX4_mixWide 353 = .ok (.land, 1) := by decide +kernel
theorem dX4_mixWide_354 : decode cX4_mixWide 354 = .ok (.lxor, 1) := by decide +kernel
theorem dX4_mixWide_355 : decode cX4_mixWide 355 = .ok (.lload 4, 2) := by decide +kernel
theorem dX4_mixWide_357 : decode cX4_mixWide 357 = .ok (.lload 6, 2) := by decide +kernel
theorem dX4_mixWide_359 : decode cX4_mixWide 359 = .ok (.land, 1) := by decide +kernel
theorem dX4_mixWide_360 : decode cX4_mixWide 360 = .ok (.lxor, 1) := by decide +kernel
theorem dX4_mixWide_361 : decode cX4_mixWide 361 = .ok (.ladd, 1) := by decide +kernel
theorem dX4_mixWide_362 : decode cX4_mixWide 362 = .ok (.lstore 25, 2) := by decide +kernel
theorem dX4_mixWide_364 : decode cX4_mixWide 364 = .ok (.lload 14, 2) := by decide +kernel
theorem dX4_mixWide_366 : decode cX4_mixWide 366 = .ok (.lstore 16, 2) := by decide +kernel
theorem dX4_mixWide_368 : decode cX4_mixWide 368 = .ok (.lload 12, 2) := by decide +kernel
theorem dX4_mixWide_370 : decode cX4_mixWide 370 = .ok (.lstore 14, 2) := by decide +kernel
theorem dX4_mixWide_372 : decode cX4_mixWide 372 = .ok (.lload 10, 2) := by decide +kernel
theorem dX4_mixWide_374 : decode cX4_mixWide 374 = .ok (.lstore 12, 2) := by decide +kernel
theorem dX4_mixWide_376 : decode cX4_mixWide 376 = .ok (.lload 8, 2) := by decide +kernel
theorem dX4_mixWide_378 : decode cX4_mixWide 378 = .ok (.lload 21, 2) := by decide +kernel
theorem dX4_mixWide_380 : decode cX4_mixWide 380 = .ok (.ladd, 1) := by decide +kernel
theorem dX4_mixWide_381 : decode cX4_mixWide 381 = .ok (.lstore 10, 2) := by decide +kernel
theorem dX4_mixWide_383 : decode cX4_mixWide 383 = .ok (.lload 6, 2) := by decide +kernel
theorem dX4_mixWide_385 : decode cX4_mixWide 385 = .ok (.lstore 8, 2) := by decide +kernel
theorem dX4_mixWide_387 : decode cX4_mixWide 387 = .ok (.lload 4, 2) := by decide +kernel
theorem dX4_mixWide_389 : decode cX4_mixWide 389 = .ok (.lstore 6, 2) := by decide +kernel
theorem dX4_mixWide_391 : decode cX4_mixWide 391 = .ok (.lload_n 2, 1) := by decide +kernel
theorem dX4_mixWide_392 : decode cX4_mixWide 392 = .ok (.lstore 4, 2) := by decide +kernel
theorem dX4_mixWide_394 : decode cX4_mixWide 394 = .ok (.lload 21, 2) := by decide +kernel
theorem dX4_mixWide_396 : decode cX4_mixWide 396 = .ok (.lload 25, 2) := by decide +kernel
theorem dX4_mixWide_398 : decode cX4_mixWide 398 = .ok (.ladd, 1) := by decide +kernel
theorem dX4_mixWide_399 : decode cX4_mixWide 399 = .ok (.lstore_n 2, 1) := by decide +kernel
theorem dX4_mixWide_400 : decode cX4_mixWide 400 = .ok (.iinc 18 1, 3) := by decide +kernel
theorem dX4_mixWide_403 : decode cX4_mixWide 403 = .ok (.goto (-169), 3) := by decide +kernel
theorem dX4_mixWide_406 : decode cX4_mixWide 406 = .ok (.aload_n 0, 1) := by decide +kernel
theorem dX4_mixWide_407 : decode cX4_mixWide 407 = .ok (.getfield 23, 3) := by decide +kernel
theorem dX4_mixWide_410 : decode cX4_mixWide 410 = .ok (.iconst 0, 1) := by decide +kernel
theorem dX4_mixWide_411 : decode cX4_mixWide 411 = .ok (.dup2, 1) := by decide +kernel
theorem dX4_mixWide_412 : decode cX4_mixWide 412 = .ok (.laload, 1) := by decide +kernel
theorem dX4_mixWide_413 : decode cX4_mixWide 413 = .ok (.lload_n 2, 1) := by decide +kernel
theorem dX4_mixWide_414 : decode cX4_mixWide 414 = .ok (.ladd, 1) := by decide +kernel
theorem dX4_mixWide_415 : decode cX4_mixWide 415 = .ok (.lastore, 1) := by decide +kernel
theorem dX4_mixWide_416 : decode cX4_mixWide 416 = .ok (.aload_n 0, 1) := by decide +kernel
theorem dX4_mixWide_417 : decode cX4_mixWide 417 = .ok (.getfield 23, 3) := by decide +kernel
theorem dX4_mixWide_420 : decode cX4_mixWide 420 = .ok (.iconst 1, 1) := by decide +kernel
theorem dX4_mixWide_421 : decode cX4_mixWide 421 = .ok (.dup2, 1) := by decide +kernel
theorem dX4_mixWide_422 : decode cX4_mixWide 422 = .ok (.laload, 1) := by decide +kernel
theorem dX4_mixWide_423 : decode cX4_mixWide 423 = .ok (.lload 4, 2) := by decide +kernel
theorem dX4_mixWide_425 : decode cX4_mixWide 425 = .ok (.ladd, 1) := by decide +kernel
theorem dX4_mixWide_426 : decode cX4_mixWide 426 = .ok (.lastore, 1) := by decide +kernel
theorem dX4_mixWide_427 : decode cX4_mixWide 427 = .ok (.aload_n 0, 1) := by decide +kernel
theorem dX4_mixWide_428 : decode cX4_mixWide 428 = .ok (.getfield 23, 3) := by decide +kernel
theorem dX4_mixWide_431 : decode cX4_mixWide 431 = .ok (.iconst 2, 1) := by decide +kernel
theorem dX4_mixWide_432 : decode cX4_mixWide 432 = .ok (.dup2, 1) := by decide +kernel
theorem dX4_mixWide_433 : decode cX4_mixWide 433 = .ok (.laload, 1) := by decide +kernel
theorem dX4_mixWide_434 : decode cX4_mixWide 434 = .ok (.lload 6, 2) := by decide +kernel
theorem dX4_mixWide_436 : decode cX4_mixWide 436 = .ok (.ladd, 1) := by decide +kernel
theorem dX4_mixWide_437 : decode cX4_mixWide 437 = .ok (.lastore, 1) := by decide +kernel
theorem dX4_mixWide_438 : decode cX4_mixWide 438 = .ok (.aload_n 0, 1) := by decide +kernel
theorem dX4_mixWide_439 : decode cX4_mixWide 439 = .ok (.getfield 23, 3) := by decide +kernel
theorem dX4_mixWide_442 : decode cX4_mixWide 442 = .ok (.iconst 3, 1) := by decide +kernel
theorem dX4_mixWide_443 : decode cX4_mixWide 443 = .ok (.dup2, 1) := by decide +kernel
theorem dX4_mixWide_444 : decode cX4_mixWide 444 = .ok (.laload, 1) := by decide +kernel
theorem dX4_mixWide_445 : decode cX4_mixWide 445 = .ok (.lload 8, 2) := by decide +kernel
theorem dX4_mixWide_447 : decode cX4_mixWide 447 = .ok (.ladd, 1) := by decide +kernel
theorem dX4_mixWide_448 : decode cX4_mixWide 448 = .ok (.lastore, 1) := by decide +kernel
theorem dX4_mixWide_449 : decode cX4_mixWide 449 = .ok (.aload_n 0, 1) := by decide +kernel
theorem dX4_mixWide_450 : decode cX4_mixWide 450 = .ok (.getfield 23, 3) := by decide +kernel
theorem dX4_mixWide_453 : decode cX4_mixWide 453 = .ok (.iconst 4, 1) := by decide +kernel
theorem dX4_mixWide_454 : decode cX4_mixWide 454 = .ok (.dup2, 1) := by decide +kernel
theorem dX4_mixWide_455 : decode cX4_mixWide 455 = .ok (.laload, 1) := by decide +kernel
theorem dX4_mixWide_456 : decode cX4_mixWide 456 = .ok (.lload 10, 2) := by decide +kernel
theorem dX4_mixWide_458 : decode cX4_mixWide 458 = .ok (.ladd, 1) := by decide +kernel
theorem dX4_mixWide_459 : decode cX4_mixWide 459 = .ok (.lastore, 1) := by decide +kernel
theorem dX4_mixWide_460 : decode cX4_mixWide 460 = .ok (.aload_n 0, 1) := by decide +kernel
theorem dX4_mixWide_461 : decode cX4_mixWide 461 = .ok (.getfield 23, 3) := by decide +kernel
theorem dX4_mixWide_464 : decode cX4_mixWide 464 = .ok (.iconst 5, 1) := by decide +kernel
theorem dX4_mixWide_465 : decode cX4_mixWide 465 = .ok (.dup2, 1) := by decide +kernel
theorem dX4_mixWide_466 : decode cX4_mixWide 466 = .ok (.laload, 1) := by decide +kernel
theorem dX4_mixWide_467 : decode cX4_mixWide 467 = .ok (.lload 12, 2) := by decide +kernel
theorem dX4_mixWide_469 : decode cX4_mixWide 469 = .ok (.ladd, 1) := by decide +kernel
theorem dX4_mixWide_470 : decode cX4_mixWide 470 = .ok (.lastore, 1) := by decide +kernel
theorem dX4_mixWide_471 : decode cX4_mixWide 471 = .ok (.aload_n 0, 1) := by decide +kernel
theorem dX4_mixWide_472 : decode cX4_mixWide 472 = .ok (.getfield 23, 3) := by decide +kernel
theorem dX4_mixWide_475 : decode cX4_mixWide 475 = .ok (.bipush 6, 2) := by decide +kernel
theorem dX4_mixWide_477 : decode cX4_mixWide 477 = .ok (.dup2, 1) := by decide +kernel
theorem dX4_mixWide_478 : decode cX4_mixWide 478 = .ok (.laload, 1) := by decide +kernel
theorem dX4_mixWide_479 : decode cX4_mixWide 479 = .ok (.lload 14, 2) := by decide +kernel
theorem dX4_mixWide_481 : decode cX4_mixWide 481 = .ok (.ladd, 1) := by decide +kernel
theorem dX4_mixWide_482 : decode cX4_mixWide 482 = .ok (.lastore, 1) := by decide +kernel
theorem dX4_mixWide_483 : decode cX4_mixWide 483 = .ok (.aload_n 0, 1) := by decide +kernel
theorem dX4_mixWide_484 : decode cX4_mixWide 484 = .ok (.getfield 23, 3) := by decide +kernel
theorem dX4_mixWide_487 : decode cX4_mixWide 487 = .ok (.bipush 7, 2) := by decide +kernel
theorem dX4_mixWide_489 : decode cX4_mixWide 489 = .ok (.dup2, 1) := by decide +kernel
theorem dX4_mixWide_490 : decode cX4_mixWide 490 = .ok (.laload, 1) := by decide +kernel
theorem dX4_mixWide_491 : decode cX4_mixWide 491 = .ok (.lload 16, 2) := by decide +kernel
theorem dX4_mixWide_493 : decode cX4_mixWide 493 = .ok (.ladd, 1) := by decide +kernel
theorem dX4_mixWide_494 : decode cX4_mixWide 494 = .ok (.lastore, 1) := by decide +kernel
theorem dX4_mixWide_495 : decode cX4_mixWide 495 = .ok (.return_, 1) := by decide +kernel
abbrev rmX4_mixWide : Room := { frames := 0, cells := 0, slots := 0, locals := 0 }
set_option maxHeartbeats 4000000 in
set_option maxRecDepth 100000 in
theorem wB_X4_mixWide_234 {G : mG} {F : Nat} {x : mXT} {sz : Nat} {M0 : mM} (X : mCX G RX4 cX4_mixWide 27 none "mixWide" rmX4_mixWide x) (hQ : mQV x M0 (sz, 0, 0)) : ∀ (n : Nat) (l0 : Nat) (l1 : Nat) (l2 : Int64) (l4 : Int64) (l6 : Int64) (l8 : Int64) (l10 : Int64) (l12 : Int64) (l14 : Int64) (l16 : Int64) (l18 : Int32) (M : mM), B_X4_mixWide_234 G F n l0 l1 l2 l4 l6 l8 l10 l12 l14 l16 l18 M = some M0 → WW x (sz, 0, 0) M 234 [(0, .ref l0), (1, .ref l1), (2, .long l2), (4, .long l4), (6, .long l6), (8, .long l8), (10, .long l10), (12, .long l12), (14, .long l14), (16, .long l16), (18, .int l18)] [] := by
  intro n
  induction n with
  | zero =>
    intro l0 l1 l2 l4 l6 l8 l10 l12 l14 l16 l18 M h
    exact nomatch (show (none : Option mM) = some M0 from h)
  | succ n ih =>
    intro l0 l1 l2 l4 l6 l8 l10 l12 l14 l16 l18 M h
    rw [B_X4_mixWide_234] at h
    refine ww_iload 234 X dX4_mixWide_234 10 rfl ?_
    refine ww_bipush 236 X (v := (80 : Int32)) dX4_mixWide_236 (by decide) ?_
    refine ww_icmp_ge 238 406 X dX4_mixWide_238 (by decide) (fun q => ?_) (fun q => ?_)
    · replace h := (if_pos q).symm.trans h
      refine ww_aload_n 406 X dX4_mixWide_406 0 rfl rfl ?_
      obtain ⟨v407, e407, h⟩ := bO_some h
      refine ww_getR 407 X dX4_mixWide_407 fG_X4_23 e407 ?_
      refine ww_iconst 410 X (v := (0 : Int32)) dX4_mixWide_410 (by decide) ?_
      refine ww_dup2_11 411 X dX4_mixWide_411 rfl rfl ?_
      obtain ⟨v412, e412, h⟩ := bO_some h
      refine ww_lald 412 X dX4_mixWide_412 e412 ?_
      refine ww_lload_n 413 X dX4_mixWide_413 2 rfl rfl ?_
      refine ww_ladd 414 X dX4_mixWide_414 ?_
      obtain ⟨M415, e415, h⟩ := bO_some h
      refine ww_last 415 X dX4_mixWide_415 e415 ?_
      refine ww_aload_n 416 X dX4_mixWide_416 0 rfl rfl ?_
      obtain ⟨v417, e417, h⟩ := bO_some h
      refine ww_getR 417 X dX4_mixWide_417 fG_X4_23 e417 ?_
      refine ww_iconst 420 X (v := (1 : Int32)) dX4_mixWide_420 (by decide) ?_
      refine ww_dup2_11 421 X dX4_mixWide_421 rfl rfl ?_
      obtain ⟨v422, e422, h⟩ := bO_some h
      refine ww_lald 422 X dX4_mixWide_422 e422 ?_
      refine ww_lload 423 X dX4_mixWide_423 3 rfl ?_
      refine ww_ladd 425 X dX4_mixWide_425 ?_
      obtain ⟨M426, e426, h⟩ := bO_some h
      refine ww_last 426 X dX4_mixWide_426 e426 ?_
      refine ww_aload_n 427 X dX4_mixWide_427 0 rfl rfl ?_
      obtain ⟨v428, e428, h⟩ := bO_some h
      refine ww_getR 428 X dX4_mixWide_428 fG_X4_23 e428 ?_
      refine ww_iconst 431 X (v := (2 : Int32)) dX4_mixWide_431 (by decide) ?_
      refine ww_dup2_11 432 X dX4_mixWide_432 rfl rfl ?_
      obtain ⟨v433, e433, h⟩ := bO_some h
      refine ww_lald 433 X dX4_mixWide_433 e433 ?_
      refine ww_lload 434 X dX4_mixWide_434 4 rfl ?_
      refine ww_ladd 436 X dX4_mixWide_436 ?_
      obtain ⟨M437, e437, h⟩ := bO_some h
      refine ww_last 437 X dX4_mixWide_437 e437 ?_
      refine ww_aload_n 438 X dX4_mixWide_438 0 rfl rfl ?_
      obtain ⟨v439, e439, h⟩ := bO_some h
      refine ww_getR 439 X dX4_mixWide_439 fG_X4_23 e439 ?_
      refine ww_iconst 442 X (v := (3 : Int32)) dX4_mixWide_442 (by decide) ?_
      refine ww_dup2_11 443 X dX4_mixWide_443 rfl rfl ?_
      obtain ⟨v444, e444, h⟩ := bO_some h
      refine ww_lald 444 X dX4_mixWide_444 e444 ?_
      refine ww_lload 445 X dX4_mixWide_445 5 rfl ?_
      refine ww_ladd 447 X dX4_mixWide_447 ?_
      obtain ⟨M448, e448, h⟩ := bO_some h
      refine ww_last 448 X dX4_mixWide_448 e448 ?_
      refine ww_aload_n 449 X dX4_mixWide_449 0 rfl rfl ?_
      obtain ⟨v450, e450, h⟩ := bO_some h
      refine ww_getR 450 X dX4_mixWide_450 fG_X4_23 e450 ?_
      refine ww_iconst 453 X (v := (4 : Int32)) dX4_mixWide_453 (by decide) ?_
      refine ww_dup2_11 454 X dX4_mixWide_454 rfl rfl ?_
      obtain ⟨v455, e455, h⟩ := bO_some h
      refine ww_lald 455 X dX4_mixWide_455 e455 ?_
      refine ww_lload 456 X dX4_mixWide_456 6 rfl ?_
      refine ww_ladd 458 X dX4_mixWide_458 ?_
      obtain ⟨M459, e459, h⟩ := bO_some h
      refine ww_last 459 X dX4_mixWide_459 e459 ?_
      refine ww_aload_n 460 X dX4_mixWide_460 0 rfl rfl ?_
      obtain ⟨v461, e461, h⟩ := bO_some h
      refine ww_getR 461 X dX4_mixWide_461 fG_X4_23 e461 ?_
      refine ww_iconst 464 X (v := (5 : Int32)) dX4_mixWide_464 (by decide) ?_
      refine ww_dup2_11 465 X dX4_mixWide_465 rfl rfl ?_
      obtain ⟨v466, e466, h⟩ := bO_some h
      refine ww_lald 466 X dX4_mixWide_466 e466 ?_
      refine ww_lload 467 X dX4_mixWide_467 7 rfl ?_
      refine ww_ladd 469 X dX4_mixWide_469 ?_
      obtain ⟨M470, e470, h⟩ := bO_some h
      refine ww_last 470 X dX4_mixWide_470 e470 ?_
      refine ww_aload_n 471 X dX4_mixWide_471 0 rfl rfl ?_
      obtain ⟨v472, e472, h⟩ := bO_some h
      refine ww_getR 472 X dX4_mixWide_472 fG_X4_23 e472 ?_
      refine ww_bipush 475 X (v := (6 : Int32)) dX4_mixWide_475 (by decide) ?_
      refine ww_dup2_11 477 X dX4_mixWide_477 rfl rfl ?_
      obtain ⟨v478, e478, h⟩ := bO_some h
      refine ww_lald 478 X dX4_mixWide_478 e478 ?_
      refine ww_lload 479 X dX4_mixWide_479 8 rfl ?_
      refine ww_ladd 481 X dX4_mixWide_481 ?_
      obtain ⟨M482, e482, h⟩ := bO_some h
      refine ww_last 482 X dX4_mixWide_482 e482 ?_
      refine ww_aload_n 483 X dX4_mixWide_483 0 rfl rfl ?_
      obtain ⟨v484, e484, h⟩ := bO_some h
      refine ww_getR 484 X dX4_mixWide_484 fG_X4_23 e484 ?_
      refine ww_bipush 487 X (v := (7 : Int32)) dX4_mixWide_487 (by decide) ?_
      refine ww_dup2_11 489 X dX4_mixWide_489 rfl rfl ?_
      obtain ⟨v490, e490, h⟩ := bO_some h
      refine ww_lald 490 X dX4_mixWide_490 e490 ?_
      refine ww_lload 491 X dX4_mixWide_491 9 rfl ?_
      refine ww_ladd 493 X dX4_mixWide_493 ?_
      obtain ⟨M494, e494, h⟩ := bO_some h
      refine ww_last 494 X dX4_mixWide_494 e494 ?_
      exact ww_vretE 495 X hQ dX4_mixWide_495 h
    · replace h := (if_neg q).symm.trans h
      refine ww_lload 241 X dX4_mixWide_241 6 rfl ?_
      refine ww_bipush 243 X (v := (14 : Int32)) dX4_mixWide_243 (by decide) ?_
      refine ww_lushr 245 X dX4_mixWide_245 ?_
      refine ww_lload 246 X dX4_mixWide_246 6 rfl ?_
      refine ww_bipush 248 X (v := (50 : Int32)) dX4_mixWide_248 (by decide) ?_
      refine ww_lshl 250 X dX4_mixWide_250 ?_
      refine ww_lor 251 X dX4_mixWide_251 ?_
      refine ww_lload 252 X dX4_mixWide_252 6 rfl ?_
      refine ww_bipush 254 X (v := (18 : Int32)) dX4_mixWide_254 (by decide) ?_
      refine ww_lushr 256 X dX4_mixWide_256 ?_
      refine ww_lload 257 X dX4_mixWide_257 6 rfl ?_
      refine ww_bipush 259 X (v := (46 : Int32)) dX4_mixWide_259 (by decide) ?_
      refine ww_lshl 261 X dX4_mixWide_261 ?_
      refine ww_lor 262 X dX4_mixWide_262 ?_
      refine ww_lxor 263 X dX4_mixWide_263 ?_
      refine ww_lload 264 X dX4_mixWide_264 6 rfl ?_
      refine ww_bipush 266 X (v := (41 : Int32)) dX4_mixWide_266 (by decide) ?_
      refine ww_lushr 268 X dX4_mixWide_268 ?_
      refine ww_lload 269 X dX4_mixWide_269 6 rfl ?_
      refine ww_bipush 271 X (v := (23 : Int32)) dX4_mixWide_271 (by decide) ?_
      refine ww_lshl 273 X dX4_mixWide_273 ?_
      refine ww_lor 274 X dX4_mixWide_274 ?_
      refine ww_lxor 275 X dX4_mixWide_275 ?_
      refine ww_lstore 276 X dX4_mixWide_276 (lv' := [(0, .ref l0), (1, .ref l1), (2, .long l2), (4, .long l4), (6, .long l6), (8, .long l8), (10, .long l10), (12, .long l12), (14, .long l14), (16, .long l16), (18, .int l18), (19, .long ((((ushL l10 (14 : Int32)) ||| (shlL l10 (50 : Int32))) ^^^ ((ushL l10 (18 : Int32)) ||| (shlL l10 (46 : Int32)))) ^^^ ((ushL l10 (41 : Int32)) ||| (shlL l10 (23 : Int32)))))]) (by decide) [1, 2, 3, 4, 5, 6, 7, 8, 9, 10, 11, 0] rfl ?_
      refine ww_lload 278 X dX4_mixWide_278 9 rfl ?_
      refine ww_lload 280 X dX4_mixWide_280 11 rfl ?_
      refine ww_ladd 282 X dX4_mixWide_282 ?_
      refine ww_lload 283 X dX4_mixWide_283 6 rfl ?_
      refine ww_lload 285 X dX4_mixWide_285 7 rfl ?_
      refine ww_land 287 X dX4_mixWide_287 ?_
      refine ww_lload 288 X dX4_mixWide_288 6 rfl ?_
      refine ww_ldc2 290 X (v := (-1 : Int64)) dX4_mixWide_290 kL_X4_83 ?_
      refine ww_lxor 293 X dX4_mixWide_293 ?_
      refine ww_lload 294 X dX4_mixWide_294 8 rfl ?_
      refine ww_land 296 X dX4_mixWide_296 ?_
      refine ww_lxor 297 X dX4_mixWide_297 ?_
      refine ww_ladd 298 X dX4_mixWide_298 ?_
      refine ww_gets 299 X dX4_mixWide_299 gS_X4_85 ?_
      refine ww_iload 302 X dX4_mixWide_302 10 rfl ?_
      obtain ⟨v304, e304, h⟩ := bO_some h
      refine ww_lald 304 X dX4_mixWide_304 e304 ?_
      refine ww_ladd 305 X dX4_mixWide_305 ?_
      refine ww_aload_n 306 X dX4_mixWide_306 1 rfl rfl ?_
      refine ww_iload 307 X dX4_mixWide_307 10 rfl ?_
      obtain ⟨v309, e309, h⟩ := bO_some h
      refine ww_lald 309 X dX4_mixWide_309 e309 ?_
      refine ww_ladd 310 X dX4_mixWide_310 ?_
      refine ww_lstore 311 X dX4_mixWide_311 (lv' := [(0, .ref l0), (1, .ref l1), (2, .long l2), (4, .long l4), (6, .long l6), (8, .long l8), (10, .long l10), (12, .long l12), (14, .long l14), (16, .long l16), (18, .int l18), (19, .long ((((ushL l10 (14 : Int32)) ||| (shlL l10 (50 : Int32))) ^^^ ((ushL l10 (18 : Int32)) ||| (shlL l10 (46 : Int32)))) ^^^ ((ushL l10 (41 : Int32)) ||| (shlL l10 (23 : Int32))))), (21, .long ((((l16 + ((((ushL l10 (14 : Int32)) ||| (shlL l10 (50 : Int32))) ^^^ ((ushL l10 (18 : Int32)) ||| (shlL l10 (46 : Int32)))) ^^^ ((ushL l10 (41 : Int32)) ||| (shlL l10 (23 : Int32))))) + ((l10 &&& l12) ^^^ ((l10 ^^^ (-1 : Int64)) &&& l14))) + v304) + v309))]) (by decide) [1, 2, 3, 4, 5, 6, 7, 8, 9, 10, 11, 12, 0] rfl ?_
      refine ww_lload_n 313 X dX4_mixWide_313 2 rfl rfl ?_
      refine ww_bipush 314 X (v := (28 : Int32)) dX4_mixWide_314 (by decide) ?_
      refine ww_lushr 316 X dX4_mixWide_316 ?_
      refine ww_lload_n 317 X dX4_mixWide_317 2 rfl rfl ?_
      refine ww_bipush 318 X (v := (36 : Int32)) dX4_mixWide_318 (by decide) ?_
      refine ww_lshl 320 X dX4_mixWide_320 ?_
      refine ww_lor 321 X dX4_mixWide_321 ?_
      refine ww_lload_n 322 X dX4_mixWide_322 2 rfl rfl ?_
      refine ww_bipush 323 X (v := (34 : Int32)) dX4_mixWide_323 (by decide) ?_
      refine ww_lushr 325 X dX4_mixWide_325 ?_
      refine ww_lload_n 326 X dX4_mixWide_326 2 rfl rfl ?_
      refine ww_bipush 327 X (v := (30 : Int32)) dX4_mixWide_327 (by decide) ?_
      refine ww_lshl 329 X dX4_mixWide_329 ?_
      refine ww_lor 330 X dX4_mixWide_330 ?_
      refine ww_lxor 331 X dX4_mixWide_331 ?_
      refine ww_lload_n 332 X dX4_mixWide_332 2 rfl rfl ?_
      refine ww_bipush 333 X (v := (39 : Int32)) dX4_mixWide_333 (by decide) ?_
      refine ww_lushr 335 X dX4_mixWide_335 ?_
      refine ww_lload_n 336 X dX4_mixWide_336 2 rfl rfl ?_
      refine ww_bipush 337 X (v := (25 : Int32)) dX4_mixWide_337 (by decide) ?_
      refine ww_lshl 339 X dX4_mixWide_339 ?_
      refine ww_lor 340 X dX4_mixWide_340 ?_
      refine ww_lxor 341 X dX4_mixWide_341 ?_
      refine ww_lstore 342 X dX4_mixWide_342 (lv' := [(0, .ref l0), (1, .ref l1), (2, .long l2), (4, .long l4), (6, .long l6), (8, .long l8), (10, .long l10), (12, .long l12), (14, .long l14), (16, .long l16), (18, .int l18), (19, .long ((((ushL l10 (14 : Int32)) ||| (shlL l10 (50 : Int32))) ^^^ ((ushL l10 (18 : Int32)) ||| (shlL l10 (46 : Int32)))) ^^^ ((ushL l10 (41 : Int32)) ||| (shlL l10 (23 : Int32))))), (21, .long ((((l16 + ((((ushL l10 (14 : Int32)) ||| (shlL l10 (50 : Int32))) ^^^ ((ushL l10 (18 : Int32)) ||| (shlL l10 (46 : Int32)))) ^^^ ((ushL l10 (41 : Int32)) ||| (shlL l10 (23 : Int32))))) + ((l10 &&& l12) ^^^ ((l10 ^^^ (-1 : Int64)) &&& l14))) + v304) + v309)), (23, .long ((((ushL l2 (28 : Int32)) ||| (shlL l2 (36 : Int32))) ^^^ ((ushL l2 (34 : Int32)) ||| (shlL l2 (30 : Int32)))) ^^^ ((ushL l2 (39 : Int32)) ||| (shlL l2 (25 : Int32)))))]) (by decide) [1, 2, 3, 4, 5, 6, 7, 8, 9, 10, 11, 12, 13, 0] rfl ?_
      refine ww_lload 344 X dX4_mixWide_344 13 rfl ?_
      refine ww_lload_n 346 X dX4_mixWide_346 2 rfl rfl ?_
      refine ww_lload 347 X dX4_mixWide_347 3 rfl ?_
      refine ww_land 349 X dX4_mixWide_349 ?_
      refine ww_lload_n 350 X dX4_mixWide_350 2 rfl rfl ?_
      refine ww_lload 351 X dX4_mixWide_351 4 rfl ?_
      refine ww_land 353 X dX4_mixWide_353 ?_
      refine ww_lxor 354 X dX4_mixWide_354 ?_
      refine ww_lload 355 X dX4_mixWide_355 3 rfl ?_
      refine ww_lload 357 X dX4_mixWide_357 4 rfl ?_
      refine ww_land 359 X dX4_mixWide_359 ?_
      refine ww_lxor 360 X dX4_mixWide_360 ?_
      refine ww_ladd 361 X dX4_mixWide_361 ?_
      refine ww_lstore 362 X dX4_mixWide_362 (lv' := [(0, .ref l0), (1, .ref l1), (2, .long l2), (4, .long l4), (6, .long l6), (8, .long l8), (10, .long l10), (12, .long l12), (14, .long l14), (16, .long l16), (18, .int l18), (19, .long ((((ushL l10 (14 : Int32)) ||| (shlL l10 (50 : Int32))) ^^^ ((ushL l10 (18 : Int32)) ||| (shlL l10 (46 : Int32)))) ^^^ ((ushL l10 (41 : Int32)) ||| (shlL l10 (23 : Int32))))), (21, .long ((((l16 + ((((ushL l10 (14 : Int32)) ||| (shlL l10 (50 : Int32))) ^^^ ((ushL l10 (18 : Int32)) ||| (shlL l10 (46 : Int32)))) ^^^ ((ushL l10 (41 : Int32)) ||| (shlL l10 (23 : Int32))))) + ((l10 &&& l12) ^^^ ((l10 ^^^ (-1 : Int64)) &&& l14))) + v304) + v309)), (23, .long ((((ushL l2 (28 : Int32)) ||| (shlL l2 (36 : Int32))) ^^^ ((ushL l2 (34 : Int32)) ||| (shlL l2 (30 : Int32)))) ^^^ ((ushL l2 (39 : Int32)) ||| (shlL l2 (25 : Int32))))), (25, .long (((((ushL l2 (28 : Int32)) ||| (shlL l2 (36 : Int32))) ^^^ ((ushL l2 (34 : Int32)) ||| (shlL l2 (30 : Int32)))) ^^^ ((ushL l2 (39 : Int32)) ||| (shlL l2 (25 : Int32)))) + (((l2 &&& l4) ^^^ (l2 &&& l6)) ^^^ (l4 &&& l6))))]) (by decide) [1, 2, 3, 4, 5, 6, 7, 8, 9, 10, 11, 12, 13, 14, 0] rfl ?_
      refine ww_lload 364 X dX4_mixWide_364 8 rfl ?_
      refine ww_lstore 366 X dX4_mixWide_366 (lv' := [(0, .ref l0), (1, .ref l1), (2, .long l2), (4, .long l4), (6, .long l6), (8, .long l8), (10, .long l10), (12, .long l12), (14, .long l14), (16, .long l14), (18, .int l18), (19, .long ((((ushL l10 (14 : Int32)) ||| (shlL l10 (50 : Int32))) ^^^ ((ushL l10 (18 : Int32)) ||| (shlL l10 (46 : Int32)))) ^^^ ((ushL l10 (41 : Int32)) ||| (shlL l10 (23 : Int32))))), (21, .long ((((l16 + ((((ushL l10 (14 : Int32)) ||| (shlL l10 (50 : Int32))) ^^^ ((ushL l10 (18 : Int32)) ||| (shlL l10 (46 : Int32)))) ^^^ ((ushL l10 (41 : Int32)) ||| (shlL l10 (23 : Int32))))) + ((l10 &&& l12) ^^^ ((l10 ^^^ (-1 : Int64)) &&& l14))) + v304) + v309)), (23, .long ((((ushL l2 (28 : Int32)) ||| (shlL l2 (36 : Int32))) ^^^ ((ushL l2 (34 : Int32)) ||| (shlL l2 (30 : Int32)))) ^^^ ((ushL l2 (39 : Int32)) ||| (shlL l2 (25 : Int32))))), (25, .long (((((ushL l2 (28 : Int32)) ||| (shlL l2 (36 : Int32))) ^^^ ((ushL l2 (34 : Int32)) ||| (shlL l2 (30 : Int32)))) ^^^ ((ushL l2 (39 : Int32)) ||| (shlL l2 (25 : Int32)))) + (((l2 &&& l4) ^^^ (l2 &&& l6)) ^^^ (l4 &&& l6))))]) (by decide) [1, 2, 3, 4, 5, 6, 7, 8, 9, 0, 10, 11, 12, 13, 14] rfl ?_
      refine ww_lload 368 X dX4_mixWide_368 7 rfl ?_
      refine ww_lstore 370 X dX4_mixWide_370 (lv' := [(0, .ref l0), (1, .ref l1), (2, .long l2), (4, .long l4), (6, .long l6), (8, .long l8), (10, .long l10), (12, .long l12), (14, .long l12), (16, .long l14), (18, .int l18), (19, .long ((((ushL l10 (14 : Int32)) ||| (shlL l10 (50 : Int32))) ^^^ ((ushL l10 (18 : Int32)) ||| (shlL l10 (46 : Int32)))) ^^^ ((ushL l10 (41 : Int32)) ||| (shlL l10 (23 : Int32))))), (21, .long ((((l16 + ((((ushL l10 (14 : Int32)) ||| (shlL l10 (50 : Int32))) ^^^ ((ushL l10 (18 : Int32)) ||| (shlL l10 (46 : Int32)))) ^^^ ((ushL l10 (41 : Int32)) ||| (shlL l10 (23 : Int32))))) + ((l10 &&& l12) ^^^ ((l10 ^^^ (-1 : Int64)) &&& l14))) + v304) + v309)), (23, .long ((((ushL l2 (28 : Int32)) ||| (shlL l2 (36 : Int32))) ^^^ ((ushL l2 (34 : Int32)) ||| (shlL l2 (30 : Int32)))) ^^^ ((ushL l2 (39 : Int32)) ||| (shlL l2 (25 : Int32))))), (25, .long (((((ushL l2 (28 : Int32)) ||| (shlL l2 (36 : Int32))) ^^^ ((ushL l2 (34 : Int32)) ||| (shlL l2 (30 : Int32)))) ^^^ ((ushL l2 (39 : Int32)) ||| (shlL l2 (25 : Int32)))) + (((l2 &&& l4) ^^^ (l2 &&& l6)) ^^^ (l4 &&& l6))))]) (by decide) [1, 2, 3, 4, 5, 6, 7, 8, 0, 9, 10, 11, 12, 13, 14] rfl ?_
      refine ww_lload 372 X dX4_mixWide_372 6 rfl ?_
      refine ww_lstore 374 X dX4_mixWide_374 (lv' := [(0, .ref l0), (1, .ref l1), (2, .long l2), (4, .long l4), (6, .long l6), (8, .long l8), (10, .long l10), (12, .long l10), (14, .long l12), (16, .long l14), (18, .int l18), (19, .long ((((ushL l10 (14 : Int32)) ||| (shlL l10 (50 : Int32))) ^^^ ((ushL l10 (18 : Int32)) ||| (shlL l10 (46 : Int32)))) ^^^ ((ushL l10 (41 : Int32)) ||| (shlL l10 (23 : Int32))))), (21, .long ((((l16 + ((((ushL l10 (14 : Int32)) ||| (shlL l10 (50 : Int32))) ^^^ ((ushL l10 (18 : Int32)) ||| (shlL l10 (46 : Int32)))) ^^^ ((ushL l10 (41 : Int32)) ||| (shlL l10 (23 : Int32))))) + ((l10 &&& l12) ^^^ ((l10 ^^^ (-1 : Int64)) &&& l14))) + v304) + v309)), (23, .long ((((ushL l2 (28 : Int32)) ||| (shlL l2 (36 : Int32))) ^^^ ((ushL l2 (34 : Int32)) ||| (shlL l2 (30 : Int32)))) ^^^ ((ushL l2 (39 : Int32)) ||| (shlL l2 (25 : Int32))))), (25, .long (((((ushL l2 (28 : Int32)) ||| (shlL l2 (36 : Int32))) ^^^ ((ushL l2 (34 : Int32)) ||| (shlL l2 (30 : Int32)))) ^^^ ((ushL l2 (39 : Int32)) ||| (shlL l2 (25 : Int32)))) + (((l2 &&& l4) ^^^ (l2 &&& l6)) ^^^ (l4 &&& l6))))]) (by decide) [1, 2, 3, 4, 5, 6, 7, 0, 8, 9, 10, 11, 12, 13, 14] rfl ?_
      refine ww_lload 376 X dX4_mixWide_376 5 rfl ?_
      refine ww_lload 378 X dX4_mixWide_378 12 rfl ?_
      refine ww_ladd 380 X dX4_mixWide_380 ?_
      refine ww_lstore 381 X dX4_mixWide_381 (lv' := [(0, .ref l0), (1, .ref l1), (2, .long l2), (4, .long l4), (6, .long l6), (8, .long l8), (10, .long (l8 + ((((l16 + ((((ushL l10 (14 : Int32)) ||| (shlL l10 (50 : Int32))) ^^^ ((ushL l10 (18 : Int32)) ||| (shlL l10 (46 : Int32)))) ^^^ ((ushL l10 (41 : Int32)) ||| (shlL l10 (23 : Int32))))) + ((l10 &&& l12) ^^^ ((l10 ^^^ (-1 : Int64)) &&& l14))) + v304) + v309))), (12, .long l10), (14, .long l12), (16, .long l14), (18, .int l18), (19, .long ((((ushL l10 (14 : Int32)) ||| (shlL l10 (50 : Int32))) ^^^ ((ushL l10 (18 : Int32)) ||| (shlL l10 (46 : Int32)))) ^^^ ((ushL l10 (41 : Int32)) ||| (shlL l10 (23 : Int32))))), (21, .long ((((l16 + ((((ushL l10 (14 : Int32)) ||| (shlL l10 (50 : Int32))) ^^^ ((ushL l10 (18 : Int32)) ||| (shlL l10 (46 : Int32)))) ^^^ ((ushL l10 (41 : Int32)) ||| (shlL l10 (23 : Int32))))) + ((l10 &&& l12) ^^^ ((l10 ^^^ (-1 : Int64)) &&& l14))) + v304) + v309)), (23, .long ((((ushL l2 (28 : Int32)) ||| (shlL l2 (36 : Int32))) ^^^ ((ushL l2 (34 : Int32)) ||| (shlL l2 (30 : Int32)))) ^^^ ((ushL l2 (39 : Int32)) ||| (shlL l2 (25 : Int32))))), (25, .long (((((ushL l2 (28 : Int32)) ||| (shlL l2 (36 : Int32))) ^^^ ((ushL l2 (34 : Int32)) ||| (shlL l2 (30 : Int32)))) ^^^ ((ushL l2 (39 : Int32)) ||| (shlL l2 (25 : Int32)))) + (((l2 &&& l4) ^^^ (l2 &&& l6)) ^^^ (l4 &&& l6))))]) (by decide) [1, 2, 3, 4, 5, 6, 0, 7, 8, 9, 10, 11, 12, 13, 14] rfl ?_
      refine ww_lload 383 X dX4_mixWide_383 4 rfl ?_
      refine ww_lstore 385 X dX4_mixWide_385 (lv' := [(0, .ref l0), (1, .ref l1), (2, .long l2), (4, .long l4), (6, .long l6), (8, .long l6), (10, .long (l8 + ((((l16 + ((((ushL l10 (14 : Int32)) ||| (shlL l10 (50 : Int32))) ^^^ ((ushL l10 (18 : Int32)) ||| (shlL l10 (46 : Int32)))) ^^^ ((ushL l10 (41 : Int32)) ||| (shlL l10 (23 : Int32))))) + ((l10 &&& l12) ^^^ ((l10 ^^^ (-1 : Int64)) &&& l14))) + v304) + v309))), (12, .long l10), (14, .long l12), (16, .long l14), (18, .int l18), (19, .long ((((ushL l10 (14 : Int32)) ||| (shlL l10 (50 : Int32))) ^^^ ((ushL l10 (18 : Int32)) ||| (shlL l10 (46 : Int32)))) ^^^ ((ushL l10 (41 : Int32)) ||| (shlL l10 (23 : Int32))))), (21, .long ((((l16 + ((((ushL l10 (14 : Int32)) ||| (shlL l10 (50 : Int32))) ^^^ ((ushL l10 (18 : Int32)) ||| (shlL l10 (46 : Int32)))) ^^^ ((ushL l10 (41 : Int32)) ||| (shlL l10 (23 : Int32))))) + ((l10 &&& l12) ^^^ ((l10 ^^^ (-1 : Int64)) &&& l14))) + v304) + v309)), (23, .long ((((ushL l2 (28 : Int32)) ||| (shlL l2 (36 : Int32))) ^^^ ((ushL l2 (34 : Int32)) ||| (shlL l2 (30 : Int32)))) ^^^ ((ushL l2 (39 : Int32)) ||| (shlL l2 (25 : Int32))))), (25, .long (((((ushL l2 (28 : Int32)) ||| (shlL l2 (36 : Int32))) ^^^ ((ushL l2 (34 : Int32)) ||| (shlL l2 (30 : Int32)))) ^^^ ((ushL l2 (39 : Int32)) ||| (shlL l2 (25 : Int32)))) + (((l2 &&& l4) ^^^ (l2 &&& l6)) ^^^ (l4 &&& l6))))]) (by decide) [1, 2, 3, 4, 5, 0, 6, 7, 8, 9, 10, 11, 12, 13, 14] rfl ?_
      refine ww_lload 387 X dX4_mixWide_387 3 rfl ?_
      refine ww_lstore 389 X dX4_mixWide_389 (lv' := [(0, .ref l0), (1, .ref l1), (2, .long l2), (4, .long l4), (6, .long l4), (8, .long l6), (10, .long (l8 + ((((l16 + ((((ushL l10 (14 : Int32)) ||| (shlL l10 (50 : Int32))) ^^^ ((ushL l10 (18 : Int32)) ||| (shlL l10 (46 : Int32)))) ^^^ ((ushL l10 (41 : Int32)) ||| (shlL l10 (23 : Int32))))) + ((l10 &&& l12) ^^^ ((l10 ^^^ (-1 : Int64)) &&& l14))) + v304) + v309))), (12, .long l10), (14, .long l12), (16, .long l14), (18, .int l18), (19, .long ((((ushL l10 (14 : Int32)) ||| (shlL l10 (50 : Int32))) ^^^ ((ushL l10 (18 : Int32)) ||| (shlL l10 (46 : Int32)))) ^^^ ((ushL l10 (41 : Int32)) ||| (shlL l10 (23 : Int32))))), (21, .long ((((l16 + ((((ushL l10 (14 : Int32)) ||| (shlL l10 (50 : Int32))) ^^^ ((ushL l10 (18 : Int32)) ||| (shlL l10 (46 : Int32)))) ^^^ ((ushL l10 (41 : Int32)) ||| (shlL l10 (23 : Int32))))) + ((l10 &&& l12) ^^^ ((l10 ^^^ (-1 : Int64)) &&& l14))) + v304) + v309)), (23, .long ((((ushL l2 (28 : Int32)) ||| (shlL l2 (36 : Int32))) ^^^ ((ushL l2 (34 : Int32)) ||| (shlL l2 (30 : Int32)))) ^^^ ((ushL l2 (39 : Int32)) ||| (shlL l2 (25 : Int32))))), (25, .long (((((ushL l2 (28 : Int32)) ||| (shlL l2 (36 : Int32))) ^^^ ((ushL l2 (34 : Int32)) ||| (shlL l2 (30 : Int32)))) ^^^ ((ushL l2 (39 : Int32)) ||| (shlL l2 (25 : Int32)))) + (((l2 &&& l4) ^^^ (l2 &&& l6)) ^^^ (l4 &&& l6))))]) (by decide) [1, 2, 3, 4, 0, 5, 6, 7, 8, 9, 10, 11, 12, 13, 14] rfl ?_
      refine ww_lload_n 391 X dX4_mixWide_391 2 rfl rfl ?_
      refine ww_lstore 392 X dX4_mixWide_392 (lv' := [(0, .ref l0), (1, .ref l1), (2, .long l2), (4, .long l2), (6, .long l4), (8, .long l6), (10, .long (l8 + ((((l16 + ((((ushL l10 (14 : Int32)) ||| (shlL l10 (50 : Int32))) ^^^ ((ushL l10 (18 : Int32)) ||| (shlL l10 (46 : Int32)))) ^^^ ((ushL l10 (41 : Int32)) ||| (shlL l10 (23 : Int32))))) + ((l10 &&& l12) ^^^ ((l10 ^^^ (-1 : Int64)) &&& l14))) + v304) + v309))), (12, .long l10), (14, .long l12), (16, .long l14), (18, .int l18), (19, .long ((((ushL l10 (14 : Int32)) ||| (shlL l10 (50 : Int32))) ^^^ ((ushL l10 (18 : Int32)) ||| (shlL l10 (46 : Int32)))) ^^^ ((ushL l10 (41 : Int32)) ||| (shlL l10 (23 : Int32))))), (21, .long ((((l16 + ((((ushL l10 (14 : Int32)) ||| (shlL l10 (50 : Int32))) ^^^ ((ushL l10 (18 : Int32)) ||| (shlL l10 (46 : Int32)))) ^^^ ((ushL l10 (41 : Int32)) ||| (shlL l10 (23 : Int32))))) + ((l10 &&& l12) ^^^ ((l10 ^^^ (-1 : Int64)) &&& l14))) + v304) + v309)), (23, .long ((((ushL l2 (28 : Int32)) ||| (shlL l2 (36 : Int32))) ^^^ ((ushL l2 (34 : Int32)) ||| (shlL l2 (30 : Int32)))) ^^^ ((ushL l2 (39 : Int32)) ||| (shlL l2 (25 : Int32))))), (25, .long (((((ushL l2 (28 : Int32)) ||| (shlL l2 (36 : Int32))) ^^^ ((ushL l2 (34 : Int32)) ||| (shlL l2 (30 : Int32)))) ^^^ ((ushL l2 (39 : Int32)) ||| (shlL l2 (25 : Int32)))) + (((l2 &&& l4) ^^^ (l2 &&& l6)) ^^^ (l4 &&& l6))))]) (by decide) [1, 2, 3, 0, 4, 5, 6, 7, 8, 9, 10, 11, 12, 13, 14] rfl ?_
      refine ww_lload 394 X dX4_mixWide_394 12 rfl ?_
      refine ww_lload 396 X dX4_mixWide_396 14 rfl ?_
      refine ww_ladd 398 X dX4_mixWide_398 ?_
      refine ww_lstore_n 399 X dX4_mixWide_399 (lv' := [(0, .ref l0), (1, .ref l1), (2, .long (((((l16 + ((((ushL l10 (14 : Int32)) ||| (shlL l10 (50 : Int32))) ^^^ ((ushL l10 (18 : Int32)) ||| (shlL l10 (46 : Int32)))) ^^^ ((ushL l10 (41 : Int32)) ||| (shlL l10 (23 : Int32))))) + ((l10 &&& l12) ^^^ ((l10 ^^^ (-1 : Int64)) &&& l14))) + v304) + v309) + (((((ushL l2 (28 : Int32)) ||| (shlL l2 (36 : Int32))) ^^^ ((ushL l2 (34 : Int32)) ||| (shlL l2 (30 : Int32)))) ^^^ ((ushL l2 (39 : Int32)) ||| (shlL l2 (25 : Int32)))) + (((l2 &&& l4) ^^^ (l2 &&& l6)) ^^^ (l4 &&& l6))))), (4, .long l2), (6, .long l4), (8, .long l6), (10, .long (l8 + ((((l16 + ((((ushL l10 (14 : Int32)) ||| (shlL l10 (50 : Int32))) ^^^ ((ushL l10 (18 : Int32)) ||| (shlL l10 (46 : Int32)))) ^^^ ((ushL l10 (41 : Int32)) ||| (shlL l10 (23 : Int32))))) + ((l10 &&& l12) ^^^ ((l10 ^^^ (-1 : Int64)) &&& l14))) + v304) + v309))), (12, .long l10), (14, .long l12), (16, .long l14), (18, .int l18), (19, .long ((((ushL l10 (14 : Int32)) ||| (shlL l10 (50 : Int32))) ^^^ ((ushL l10 (18 : Int32)) ||| (shlL l10 (46 : Int32)))) ^^^ ((ushL l10 (41 : Int32)) ||| (shlL l10 (23 : Int32))))), (21, .long ((((l16 + ((((ushL l10 (14 : Int32)) ||| (shlL l10 (50 : Int32))) ^^^ ((ushL l10 (18 : Int32)) ||| (shlL l10 (46 : Int32)))) ^^^ ((ushL l10 (41 : Int32)) ||| (shlL l10 (23 : Int32))))) + ((l10 &&& l12) ^^^ ((l10 ^^^ (-1 : Int64)) &&& l14))) + v304) + v309)), (23, .long ((((ushL l2 (28 : Int32)) ||| (shlL l2 (36 : Int32))) ^^^ ((ushL l2 (34 : Int32)) ||| (shlL l2 (30 : Int32)))) ^^^ ((ushL l2 (39 : Int32)) ||| (shlL l2 (25 : Int32))))), (25, .long (((((ushL l2 (28 : Int32)) ||| (shlL l2 (36 : Int32))) ^^^ ((ushL l2 (34 : Int32)) ||| (shlL l2 (30 : Int32)))) ^^^ ((ushL l2 (39 : Int32)) ||| (shlL l2 (25 : Int32)))) + (((l2 &&& l4) ^^^ (l2 &&& l6)) ^^^ (l4 &&& l6))))]) rfl (by decide) [1, 2, 0, 3, 4, 5, 6, 7, 8, 9, 10, 11, 12, 13, 14] rfl ?_
      refine ww_iinc 400 X dX4_mixWide_400 (lv' := [(0, .ref l0), (1, .ref l1), (2, .long (((((l16 + ((((ushL l10 (14 : Int32)) ||| (shlL l10 (50 : Int32))) ^^^ ((ushL l10 (18 : Int32)) ||| (shlL l10 (46 : Int32)))) ^^^ ((ushL l10 (41 : Int32)) ||| (shlL l10 (23 : Int32))))) + ((l10 &&& l12) ^^^ ((l10 ^^^ (-1 : Int64)) &&& l14))) + v304) + v309) + (((((ushL l2 (28 : Int32)) ||| (shlL l2 (36 : Int32))) ^^^ ((ushL l2 (34 : Int32)) ||| (shlL l2 (30 : Int32)))) ^^^ ((ushL l2 (39 : Int32)) ||| (shlL l2 (25 : Int32)))) + (((l2 &&& l4) ^^^ (l2 &&& l6)) ^^^ (l4 &&& l6))))), (4, .long l2), (6, .long l4), (8, .long l6), (10, .long (l8 + ((((l16 + ((((ushL l10 (14 : Int32)) ||| (shlL l10 (50 : Int32))) ^^^ ((ushL l10 (18 : Int32)) ||| (shlL l10 (46 : Int32)))) ^^^ ((ushL l10 (41 : Int32)) ||| (shlL l10 (23 : Int32))))) + ((l10 &&& l12) ^^^ ((l10 ^^^ (-1 : Int64)) &&& l14))) + v304) + v309))), (12, .long l10), (14, .long l12), (16, .long l14), (18, .int (l18 + 1)), (19, .long ((((ushL l10 (14 : Int32)) ||| (shlL l10 (50 : Int32))) ^^^ ((ushL l10 (18 : Int32)) ||| (shlL l10 (46 : Int32)))) ^^^ ((ushL l10 (41 : Int32)) ||| (shlL l10 (23 : Int32))))), (21, .long ((((l16 + ((((ushL l10 (14 : Int32)) ||| (shlL l10 (50 : Int32))) ^^^ ((ushL l10 (18 : Int32)) ||| (shlL l10 (46 : Int32)))) ^^^ ((ushL l10 (41 : Int32)) ||| (shlL l10 (23 : Int32))))) + ((l10 &&& l12) ^^^ ((l10 ^^^ (-1 : Int64)) &&& l14))) + v304) + v309)), (23, .long ((((ushL l2 (28 : Int32)) ||| (shlL l2 (36 : Int32))) ^^^ ((ushL l2 (34 : Int32)) ||| (shlL l2 (30 : Int32)))) ^^^ ((ushL l2 (39 : Int32)) ||| (shlL l2 (25 : Int32))))), (25, .long (((((ushL l2 (28 : Int32)) ||| (shlL l2 (36 : Int32))) ^^^ ((ushL l2 (34 : Int32)) ||| (shlL l2 (30 : Int32)))) ^^^ ((ushL l2 (39 : Int32)) ||| (shlL l2 (25 : Int32)))) + (((l2 &&& l4) ^^^ (l2 &&& l6)) ^^^ (l4 &&& l6))))]) 10 rfl rfl (by decide) [1, 2, 3, 4, 5, 6, 7, 8, 9, 10, 0, 11, 12, 13, 14] rfl ?_
      refine ww_goto 403 234 X dX4_mixWide_403 (by decide) ?_
      exact ww_sub [0, 1, 2, 3, 4, 5, 6, 7, 8, 9, 10] rfl (ih _ _ _ _ _ _ _ _ _ _ _ _ h)
set_option maxHeartbeats 4000000 in
set_option maxRecDepth 100000 in
theorem wB_X4_mixWide_63 {G : mG} {F : Nat} {x : mXT} {sz : Nat} {M0 : mM} (X : mCX G RX4 cX4_mixWide 27 none "mixWide" rmX4_mixWide x) (hQ : mQV x M0 (sz, 0, 0)) : ∀ (n : Nat) (l0 : Nat) (l1 : Nat) (l2 : Int32) (M : mM), B_X4_mixWide_63 G F n l0 l1 l2 M = some M0 → WW x (sz, 0, 0) M 63 [(0, .ref l0), (1, .ref l1), (2, .int l2)] [] := by
  intro n
  induction n with
  | zero =>
    intro l0 l1 l2 M h
    exact nomatch (show (none : Option mM) = some M0 from h)
  | succ n ih =>
    intro l0 l1 l2 M h
    rw [B_X4_mixWide_63] at h
    refine ww_iload_n 63 X dX4_mixWide_63 2 rfl rfl ?_
    refine ww_bipush 64 X (v := (80 : Int32)) dX4_mixWide_64 (by decide) ?_
    refine ww_icmp_ge 66 166 X dX4_mixWide_66 (by decide) (fun q => ?_) (fun q => ?_)
    · replace h := (if_pos q).symm.trans h
      refine ww_aload_n 166 X dX4_mixWide_166 0 rfl rfl ?_
      obtain ⟨v167, e167, h⟩ := bO_some h
      refine ww_getR 167 X dX4_mixWide_167 fG_X4_23 e167 ?_
      refine ww_iconst 170 X (v := (0 : Int32)) dX4_mixWide_170 (by decide) ?_
      obtain ⟨v171, e171, h⟩ := bO_some h
      refine ww_lald 171 X dX4_mixWide_171 e171 ?_
      refine ww_lstore_n 172 X dX4_mixWide_172 (lv' := [(0, .ref l0), (1, .ref l1), (2, .long v171)]) rfl (by decide) [1, 2, 0] rfl ?_
      refine ww_aload_n 173 X dX4_mixWide_173 0 rfl rfl ?_
      obtain ⟨v174, e174, h⟩ := bO_some h
      refine ww_getR 174 X dX4_mixWide_174 fG_X4_23 e174 ?_
      refine ww_iconst 177 X (v := (1 : Int32)) dX4_mixWide_177 (by decide) ?_
      obtain ⟨v178, e178, h⟩ := bO_some h
      refine ww_lald 178 X dX4_mixWide_178 e178 ?_
      refine ww_lstore 179 X dX4_mixWide_179 (lv' := [(0, .ref l0), (1, .ref l1), (2, .long v171), (4, .long v178)]) (by decide) [1, 2, 3, 0] rfl ?_
      refine ww_aload_n 181 X dX4_mixWide_181 0 rfl rfl ?_
      obtain ⟨v182, e182, h⟩ := bO_some h
      refine ww_getR 182 X dX4_mixWide_182 fG_X4_23 e182 ?_
      refine ww_iconst 185 X (v := (2 : Int32)) dX4_mixWide_185 (by decide) ?_
      obtain ⟨v186, e186, h⟩ := bO_some h
      refine ww_lald 186 X dX4_mixWide_186 e186 ?_
      refine ww_lstore 187 X dX4_mixWide_187 (lv' := [(0, .ref l0), (1, .ref l1), (2, .long v171), (4, .long v178), (6, .long v186)]) (by decide) [1, 2, 3, 4, 0] rfl ?_
      refine ww_aload_n 189 X dX4_mixWide_189 0 rfl rfl ?_
      obtain ⟨v190, e190, h⟩ := bO_some h
      refine ww_getR 190 X dX4_mixWide_190 fG_X4_23 e190 ?_
      refine ww_iconst 193 X (v := (3 : Int32)) dX4_mixWide_193 (by decide) ?_
      obtain ⟨v194, e194, h⟩ := bO_some h
      refine ww_lald 194 X dX4_mixWide_194 e194 ?_
      refine ww_lstore 195 X dX4_mixWide_195 (lv' := [(0, .ref l0), (1, .ref l1), (2, .long v171), (4, .long v178), (6, .long v186), (8, .long v194)]) (by decide) [1, 2, 3, 4, 5, 0] rfl ?_
      refine ww_aload_n 197 X dX4_mixWide_197 0 rfl rfl ?_
      obtain ⟨v198, e198, h⟩ := bO_some h
      refine ww_getR 198 X dX4_mixWide_198 fG_X4_23 e198 ?_
      refine ww_iconst 201 X (v := (4 : Int32)) dX4_mixWide_201 (by decide) ?_
      obtain ⟨v202, e202, h⟩ := bO_some h
      refine ww_lald 202 X dX4_mixWide_202 e202 ?_
      refine ww_lstore 203 X dX4_mixWide_203 (lv' := [(0, .ref l0), (1, .ref l1), (2, .long v171), (4, .long v178), (6, .long v186), (8, .long v194), (10, .long v202)]) (by decide) [1, 2, 3, 4, 5, 6, 0] rfl ?_
      refine ww_aload_n 205 X dX4_mixWide_205 0 rfl rfl ?_
      obtain ⟨v206, e206, h⟩ := bO_some h
      refine ww_getR 206 X dX4_mixWide_206 fG_X4_23 e206 ?_
      refine ww_iconst 209 X (v := (5 : Int32)) dX4_mixWide_209 (by decide) ?_
      obtain ⟨v210, e210, h⟩ := bO_some h
      refine ww_lald 210 X dX4_mixWide_210 e210 ?_
      refine ww_lstore 211 X dX4_mixWide_211 (lv' := [(0, .ref l0), (1, .ref l1), (2, .long v171), (4, .long v178), (6, .long v186), (8, .long v194), (10, .long v202), (12, .long v210)]) (by decide) [1, 2, 3, 4, 5, 6, 7, 0] rfl ?_
      refine ww_aload_n 213 X dX4_mixWide_213 0 rfl rfl ?_
      obtain ⟨v214, e214, h⟩ := bO_some h
      refine ww_getR 214 X dX4_mixWide_214 fG_X4_23 e214 ?_
      refine ww_bipush 217 X (v := (6 : Int32)) dX4_mixWide_217 (by decide) ?_
      obtain ⟨v219, e219, h⟩ := bO_some h
      refine ww_lald 219 X dX4_mixWide_219 e219 ?_
      refine ww_lstore 220 X dX4_mixWide_220 (lv' := [(0, .ref l0), (1, .ref l1), (2, .long v171), (4, .long v178), (6, .long v186), (8, .long v194), (10, .long v202), (12, .long v210), (14, .long v219)]) (by decide) [1, 2, 3, 4, 5, 6, 7, 8, 0] rfl ?_
      refine ww_aload_n 222 X dX4_mixWide_222 0 rfl rfl ?_
      obtain ⟨v223, e223, h⟩ := bO_some h
      refine ww_getR 223 X dX4_mixWide_223 fG_X4_23 e223 ?_
      refine ww_bipush 226 X (v := (7 : Int32)) dX4_mixWide_226 (by decide) ?_
      obtain ⟨v228, e228, h⟩ := bO_some h
      refine ww_lald 228 X dX4_mixWide_228 e228 ?_
      refine ww_lstore 229 X dX4_mixWide_229 (lv' := [(0, .ref l0), (1, .ref l1), (2, .long v171), (4, .long v178), (6, .long v186), (8, .long v194), (10, .long v202), (12, .long v210), (14, .long v219), (16, .long v228)]) (by decide) [1, 2, 3, 4, 5, 6, 7, 8, 9, 0] rfl ?_
      refine ww_iconst 231 X (v := (0 : Int32)) dX4_mixWide_231 (by decide) ?_
      refine ww_istore 232 X dX4_mixWide_232 (lv' := [(0, .ref l0), (1, .ref l1), (2, .long v171), (4, .long v178), (6, .long v186), (8, .long v194), (10, .long v202), (12, .long v210), (14, .long v219), (16, .long v228), (18, .int (0 : Int32))]) (by decide) [1, 2, 3, 4, 5, 6, 7, 8, 9, 10, 0] rfl ?_
      exact (wB_X4_mixWide_234 X hQ F _ _ _ _ _ _ _ _ _ _ _ _ h)
    · replace h := (if_neg q).symm.trans h
      refine ww_aload_n 69 X dX4_mixWide_69 1 rfl rfl ?_
      refine ww_iload_n 70 X dX4_mixWide_70 2 rfl rfl ?_
      refine ww_bipush 71 X (v := (15 : Int32)) dX4_mixWide_71 (by decide) ?_
      refine ww_isub 73 X dX4_mixWide_73 ?_
      obtain ⟨v74, e74, h⟩ := bO_some h
      refine ww_lald 74 X dX4_mixWide_74 e74 ?_
      refine ww_lstore_n 75 X dX4_mixWide_75 (lv' := [(0, .ref l0), (1, .ref l1), (2, .int l2), (3, .long v74)]) rfl (by decide) [1, 2, 3, 0] rfl ?_
      refine ww_aload_n 76 X dX4_mixWide_76 1 rfl rfl ?_
      refine ww_iload_n 77 X dX4_mixWide_77 2 rfl rfl ?_
      refine ww_iconst 78 X (v := (2 : Int32)) dX4_mixWide_78 (by decide) ?_
      refine ww_isub 79 X dX4_mixWide_79 ?_
      obtain ⟨v80, e80, h⟩ := bO_some h
      refine ww_lald 80 X dX4_mixWide_80 e80 ?_
      refine ww_lstore 81 X dX4_mixWide_81 (lv' := [(0, .ref l0), (1, .ref l1), (2, .int l2), (3, .long v74), (5, .long v80)]) (by decide) [1, 2, 3, 4, 0] rfl ?_
      refine ww_lload_n 83 X dX4_mixWide_83 3 rfl rfl ?_
      refine ww_iconst 84 X (v := (1 : Int32)) dX4_mixWide_84 (by decide) ?_
      refine ww_lushr 85 X dX4_mixWide_85 ?_
      refine ww_lload_n 86 X dX4_mixWide_86 3 rfl rfl ?_
      refine ww_bipush 87 X (v := (63 : Int32)) dX4_mixWide_87 (by decide) ?_
      refine ww_lshl 89 X dX4_mixWide_89 ?_
      refine ww_lor 90 X dX4_mixWide_90 ?_
      refine ww_lload_n 91 X dX4_mixWide_91 3 rfl rfl ?_
      refine ww_bipush 92 X (v := (8 : Int32)) dX4_mixWide_92 (by decide) ?_
      refine ww_lushr 94 X dX4_mixWide_94 ?_
      refine ww_lload_n 95 X dX4_mixWide_95 3 rfl rfl ?_
      refine ww_bipush 96 X (v := (56 : Int32)) dX4_mixWide_96 (by decide) ?_
      refine ww_lshl 98 X dX4_mixWide_98 ?_
      refine ww_lor 99 X dX4_mixWide_99 ?_
      refine ww_lxor 100 X dX4_mixWide_100 ?_
      refine ww_lload_n 101 X dX4_mixWide_101 3 rfl rfl ?_
      refine ww_bipush 102 X (v := (7 : Int32)) dX4_mixWide_102 (by decide) ?_
      refine ww_lushr 104 X dX4_mixWide_104 ?_
      refine ww_lxor 105 X dX4_mixWide_105 ?_
      refine ww_lstore 106 X dX4_mixWide_106 (lv' := [(0, .ref l0), (1, .ref l1), (2, .int l2), (3, .long v74), (5, .long v80), (7, .long ((((ushL v74 (1 : Int32)) ||| (shlL v74 (63 : Int32))) ^^^ ((ushL v74 (8 : Int32)) ||| (shlL v74 (56 : Int32)))) ^^^ (ushL v74 (7 : Int32))))]) (by decide) [1, 2, 3, 4, 5, 0] rfl ?_
      refine ww_lload 108 X dX4_mixWide_108 4 rfl ?_
      refine ww_bipush 110 X (v := (19 : Int32)) dX4_mixWide_110 (by decide) ?_
      refine ww_lushr 112 X dX4_mixWide_112 ?_
      refine ww_lload 113 X dX4_mixWide_113 4 rfl ?_
      refine ww_bipush 115 X (v := (45 : Int32)) dX4_mixWide_115 (by decide) ?_
      refine ww_lshl 117 X dX4_mixWide_117 ?_
      refine ww_lor 118 X dX4_mixWide_118 ?_
      refine ww_lload 119 X dX4_mixWide_119 4 rfl ?_
      refine ww_bipush 121 X (v := (61 : Int32)) dX4_mixWide_121 (by decide) ?_
      refine ww_lushr 123 X dX4_mixWide_123 ?_
      refine ww_lload 124 X dX4_mixWide_124 4 rfl ?_
      refine ww_iconst 126 X (v := (3 : Int32)) dX4_mixWide_126 (by decide) ?_
      refine ww_lshl 127 X dX4_mixWide_127 ?_
      refine ww_lor 128 X dX4_mixWide_128 ?_
      refine ww_lxor 129 X dX4_mixWide_129 ?_
      refine ww_lload 130 X dX4_mixWide_130 4 rfl ?_
      refine ww_bipush 132 X (v := (6 : Int32)) dX4_mixWide_132 (by decide) ?_
      refine ww_lushr 134 X dX4_mixWide_134 ?_
      refine ww_lxor 135 X dX4_mixWide_135 ?_
      refine ww_lstore 136 X dX4_mixWide_136 (lv' := [(0, .ref l0), (1, .ref l1), (2, .int l2), (3, .long v74), (5, .long v80), (7, .long ((((ushL v74 (1 : Int32)) ||| (shlL v74 (63 : Int32))) ^^^ ((ushL v74 (8 : Int32)) ||| (shlL v74 (56 : Int32)))) ^^^ (ushL v74 (7 : Int32)))), (9, .long ((((ushL v80 (19 : Int32)) ||| (shlL v80 (45 : Int32))) ^^^ ((ushL v80 (61 : Int32)) ||| (shlL v80 (3 : Int32)))) ^^^ (ushL v80 (6 : Int32))))]) (by decide) [1, 2, 3, 4, 5, 6, 0] rfl ?_
      refine ww_aload_n 138 X dX4_mixWide_138 1 rfl rfl ?_
      refine ww_iload_n 139 X dX4_mixWide_139 2 rfl rfl ?_
      refine ww_aload_n 140 X dX4_mixWide_140 1 rfl rfl ?_
      refine ww_iload_n 141 X dX4_mixWide_141 2 rfl rfl ?_
      refine ww_bipush 142 X (v := (16 : Int32)) dX4_mixWide_142 (by decide) ?_
      refine ww_isub 144 X dX4_mixWide_144 ?_
      obtain ⟨v145, e145, h⟩ := bO_some h
      refine ww_lald 145 X dX4_mixWide_145 e145 ?_
      refine ww_lload 146 X dX4_mixWide_146 5 rfl ?_
      refine ww_ladd 148 X dX4_mixWide_148 ?_
      refine ww_aload_n 149 X dX4_mixWide_149 1 rfl rfl ?_
      refine ww_iload_n 150 X dX4_mixWide_150 2 rfl rfl ?_
      refine ww_bipush 151 X (v := (7 : Int32)) dX4_mixWide_151 (by decide) ?_
      refine ww_isub 153 X dX4_mixWide_153 ?_
      obtain ⟨v154, e154, h⟩ := bO_some h
      refine ww_lald 154 X dX4_mixWide_154 e154 ?_
      refine ww_ladd 155 X dX4_mixWide_155 ?_
      refine ww_lload 156 X dX4_mixWide_156 6 rfl ?_
      refine ww_ladd 158 X dX4_mixWide_158 ?_
      obtain ⟨M159, e159, h⟩ := bO_some h
      refine ww_last 159 X dX4_mixWide_159 e159 ?_
      refine ww_iinc 160 X dX4_mixWide_160 (lv' := [(0, .ref l0), (1, .ref l1), (2, .int (l2 + 1)), (3, .long v74), (5, .long v80), (7, .long ((((ushL v74 (1 : Int32)) ||| (shlL v74 (63 : Int32))) ^^^ ((ushL v74 (8 : Int32)) ||| (shlL v74 (56 : Int32)))) ^^^ (ushL v74 (7 : Int32)))), (9, .long ((((ushL v80 (19 : Int32)) ||| (shlL v80 (45 : Int32))) ^^^ ((ushL v80 (61 : Int32)) ||| (shlL v80 (3 : Int32)))) ^^^ (ushL v80 (6 : Int32))))]) 2 rfl rfl (by decide) [1, 2, 0, 3, 4, 5, 6] rfl ?_
      refine ww_goto 163 63 X dX4_mixWide_163 (by decide) ?_
      exact ww_sub [0, 1, 2] rfl (ih _ _ _ _ h)
set_option maxHeartbeats 4000000 in
set_option maxRecDepth 100000 in
theorem wB_X4_mixWide_18 {G : mG} {F : Nat} {x : mXT} {sz : Nat} {M0 : mM} (X : mCX G RX4 cX4_mixWide 27 none "mixWide" rmX4_mixWide x) (hQ : mQV x M0 (sz, 0, 0)) (r7 : Nat → Nat → Int32 → mM → Option mM) (hr7 : ∀ (l0 : Nat) (l1 : Nat) (l2 : Int32) (M : mM), r7 l0 l1 l2 M = some M0 → WW x (sz, 0, 0) M 7 [(0, .ref l0), (1, .ref l1), (2, .int l2)] []) : ∀ (n : Nat) (l0 : Nat) (l1 : Nat) (l2 : Int32) (l3 : Int64) (l5 : Int32) (M : mM), B_X4_mixWide_18 G F r7 n l0 l1 l2 l3 l5 M = some M0 → WW x (sz, 0, 0) M 18 [(0, .ref l0), (1, .ref l1), (2, .int l2), (3, .long l3), (5, .int l5)] [] := by
  intro n
  induction n with
  | zero =>
    intro l0 l1 l2 l3 l5 M h
    exact nomatch (show (none : Option mM) = some M0 from h)
  | succ n ih =>
    intro l0 l1 l2 l3 l5 M h
    rw [B_X4_mixWide_18] at h
    refine ww_iload 18 X dX4_mixWide_18 4 rfl ?_
    refine ww_bipush 20 X (v := (8 : Int32)) dX4_mixWide_20 (by decide) ?_
    refine ww_icmp_ge 22 50 X dX4_mixWide_22 (by decide) (fun q => ?_) (fun q => ?_)
    · replace h := (if_pos q).symm.trans h
      refine ww_aload_n 50 X dX4_mixWide_50 1 rfl rfl ?_
      refine ww_iload_n 51 X dX4_mixWide_51 2 rfl rfl ?_
      refine ww_lload_n 52 X dX4_mixWide_52 3 rfl rfl ?_
      obtain ⟨M53, e53, h⟩ := bO_some h
      refine ww_last 53 X dX4_mixWide_53 e53 ?_
      refine ww_iinc 54 X dX4_mixWide_54 (lv' := [(0, .ref l0), (1, .ref l1), (2, .int (l2 + 1)), (3, .long l3), (5, .int l5)]) 2 rfl rfl (by decide) [1, 2, 0, 3, 4] rfl ?_
      refine ww_goto 57 7 X dX4_mixWide_57 (by decide) ?_
      exact ww_sub [0, 1, 2] rfl (hr7 _ _ _ _ h)
    · replace h := (if_neg q).symm.trans h
      refine ww_lload_n 25 X dX4_mixWide_25 3 rfl rfl ?_
      refine ww_bipush 26 X (v := (8 : Int32)) dX4_mixWide_26 (by decide) ?_
      refine ww_lshl 28 X dX4_mixWide_28 ?_
      refine ww_aload_n 29 X dX4_mixWide_29 0 rfl rfl ?_
      obtain ⟨v30, e30, h⟩ := bO_some h
      refine ww_getR 30 X dX4_mixWide_30 fG_X4_13 e30 ?_
      refine ww_bipush 33 X (v := (8 : Int32)) dX4_mixWide_33 (by decide) ?_
      refine ww_iload_n 35 X dX4_mixWide_35 2 rfl rfl ?_
      refine ww_imul 36 X dX4_mixWide_36 ?_
      refine ww_iload 37 X dX4_mixWide_37 4 rfl ?_
      refine ww_iadd 39 X dX4_mixWide_39 ?_
      obtain ⟨v40, e40, h⟩ := bO_some h
      refine ww_iald 40 X dX4_mixWide_40 e40 ?_
      refine ww_i2l 41 X dX4_mixWide_41 ?_
      refine ww_lor 42 X dX4_mixWide_42 ?_
      refine ww_lstore_n 43 X dX4_mixWide_43 (lv' := [(0, .ref l0), (1, .ref l1), (2, .int l2), (3, .long ((shlL l3 (8 : Int32)) ||| (v40.toInt64))), (5, .int l5)]) rfl (by decide) [1, 2, 3, 0, 4] rfl ?_
      refine ww_iinc 44 X dX4_mixWide_44 (lv' := [(0, .ref l0), (1, .ref l1), (2, .int l2), (3, .long ((shlL l3 (8 : Int32)) ||| (v40.toInt64))), (5, .int (l5 + 1))]) 4 rfl rfl (by decide) [1, 2, 3, 4, 0] rfl ?_
      refine ww_goto 47 18 X dX4_mixWide_47 (by decide) ?_
      exact (ih _ _ _ _ _ _ h)
set_option maxHeartbeats 4000000 in
set_option maxRecDepth 100000 in
theorem wB_X4_mixWide_7 {G : mG} {F : Nat} {x : mXT} {sz : Nat} {M0 : mM} (X : mCX G RX4 cX4_mixWide 27 none "mixWide" rmX4_mixWide x) (hQ : mQV x M0 (sz, 0, 0)) : ∀ (n : Nat) (l0 : Nat) (l1 : Nat) (l2 : Int32) (M : mM), B_X4_mixWide_7 G F n l0 l1 l2 M = some M0 → WW x (sz, 0, 0) M 7 [(0, .ref l0), (1, .ref l1), (2, .int l2)] [] := by
  intro n
  induction n with
  | zero =>
    intro l0 l1 l2 M h
    exact nomatch (show (none : Option mM) = some M0 from h)
  | succ n ih =>
    intro l0 l1 l2 M h
    rw [B_X4_mixWide_7] at h
    refine ww_iload_n 7 X dX4_mixWide_7 2 rfl rfl ?_
    refine ww_bipush 8 X (v := (16 : Int32)) dX4_mixWide_8 (by decide) ?_
    refine ww_icmp_ge 10 60 X dX4_mixWide_10 (by decide) (fun q => ?_) (fun q => ?_)
    · replace h := (if_pos q).symm.trans h
      refine ww_bipush 60 X (v := (16 : Int32)) dX4_mixWide_60 (by decide) ?_
      refine ww_istore_n 62 X dX4_mixWide_62 (lv' := [(0, .ref l0), (1, .ref l1), (2, .int (16 : Int32))]) rfl (by decide) [1, 2, 0] rfl ?_
      exact (wB_X4_mixWide_63 X hQ F _ _ _ _ h)
    · replace h := (if_neg q).symm.trans h
      refine ww_lconst 13 X (v := (0 : Int64)) dX4_mixWide_13 (by decide) ?_
      refine ww_lstore_n 14 X dX4_mixWide_14 (lv' := [(0, .ref l0), (1, .ref l1), (2, .int l2), (3, .long (0 : Int64))]) rfl (by decide) [1, 2, 3, 0] rfl ?_
      refine ww_iconst 15 X (v := (0 : Int32)) dX4_mixWide_15 (by decide) ?_
      refine ww_istore 16 X dX4_mixWide_16 (lv' := [(0, .ref l0), (1, .ref l1), (2, .int l2), (3, .long (0 : Int64)), (5, .int (0 : Int32))]) (by decide) [1, 2, 3, 4, 0] rfl ?_
      exact (wB_X4_mixWide_18 X hQ _ ih F _ _ _ _ _ _ h)
set_option maxHeartbeats 4000000 in
set_option maxRecDepth 100000 in
theorem wP_X4_mixWide {G : mG} {F : Nat} {x : mXT} {sz : Nat} {M0 : mM} (X : mCX G RX4 cX4_mixWide 27 none "mixWide" rmX4_mixWide x) (hQ : mQV x M0 (sz, 0, 0)) {l0 : Nat} {M : mM} (h : P_X4_mixWide G F l0 M = some M0) : WW x (sz, 0, 0) M 0 [(0, .ref l0)] [] := by
  unfold P_X4_mixWide at h
  refine ww_aload_n 0 X dX4_mixWide_0 0 rfl rfl ?_
  obtain ⟨v1, e1, h⟩ := bO_some h
  refine ww_getR 1 X dX4_mixWide_1 fG_X4_27 e1 ?_
  refine ww_astore_n 4 X dX4_mixWide_4 (lv' := [(0, .ref l0), (1, .ref v1)]) rfl (by decide) [1, 0] rfl ?_
  refine ww_iconst 5 X (v := (0 : Int32)) dX4_mixWide_5 (by decide) ?_
  refine ww_istore_n 6 X dX4_mixWide_6 (lv' := [(0, .ref l0), (1, .ref v1), (2, .int (0 : Int32))]) rfl (by decide) [1, 2, 0] rfl ?_
  exact (wB_X4_mixWide_7 X hQ F _ _ _ _ h)
theorem c_X4_mixWide {G : mG} {F sz : Nat} {M0 : mM} (l : Launch) (D : mD) (A : Nat → Prop) {l0 : Nat} {M : mM} (h : P_X4_mixWide G F l0 M = some M0) : mMetV l D G A yX4_mixWide cX4_mixWide 27 none 0 0 0 0 [.ref l0] M sz M0 sz := mMetV_of l D G A (by decide) (Nat.le_of_ble_eq_true rfl) (fun x X hQ => wP_X4_mixWide X hQ h)
/-! SealedTokens$Digest.mix()V -/
theorem dX4_mix_0 : decode cX4_mix 0 = .ok (.aload_n 0, 1) := by decide +kernel
theorem dX4_mix_1 : decode cX4_mix 1 = .ok (.getfield 20, 3) := by decide +kernel
theorem dX4_mix_4 : decode cX4_mix 4 = .ok (.astore_n 1, 1) := by decide +kernel
theorem dX4_mix_5 : decode cX4_mix 5 = .ok (.iconst 0, 1) := by decide +kernel
theorem dX4_mix_6 : decode cX4_mix 6 = .ok (.istore_n 2, 1) := by decide +kernel
theorem dX4_mix_7 : decode cX4_mix 7 = .ok (.iload_n 2, 1) := by decide +kernel
theorem dX4_mix_8 : decode cX4_mix 8 = .ok (.bipush 16, 2) := by decide +kernel
theorem dX4_mix_10 : decode cX4_mix 10 = .ok (.if_icmp .ge 62, 3) := by decide +kernel
theorem dX4_mix_13 : decode cX4_mix 13 = .ok (.aload_n 1, 1) := by decide +kernel
theorem dX4_mix_14 : decode cX4_mix 14 = .ok (.iload_n 2, 1) := by decide +kernel
theorem dX4_mix_15 : decode cX4_mix 15 = .ok (.aload_n 0, 1) := by decide +kernel
theorem dX4_mix_16 : decode cX4_mix 16 = .ok (.getfield 13, 3) := by decide +kernel
theorem dX4_mix_19 : decode cX4_mix 19 = .ok (.iconst 4, 1) := by decide +kernel
theorem dX4_mix_20 : decode cX4_mix 20 = .ok (.iload_n 2, 1) := by decide +kernel
theorem dX4_mix_21 : decode cX4_mix 21 = .ok (.imul, 1) := by decide +kernel
theorem dX4_mix_22 : decode cX4_mix 22 = .ok (.iaload, 1) := by decide +kernel
theorem dX4_mix_23 : decode cX4_mix 23 = .ok (.bipush 24, 2) := by decide +kernel
theorem dX4_mix_25 : decode cX4_mix 25 = .ok (.ishl, 1) := by decide +kernel
theorem dX4_mix_26 : decode cX4_mix 26 = .ok (.aload_n 0, 1) := by decide +kernel
theorem dX4_mix_27 : decode cX4_mix 27 = .ok (.getfield 13, 3) := by decide +kernel
theorem dX4_mix_30 : decode cX4_mix 30 = .ok (.iconst 4, 1) := by decide +kernel
theorem dX4_mix_31 : decode cX4_mix 31 = .ok (.iload_n 2, 1) := by decide +kernel
theorem dX4_mix_32 : decode cX4_mix 32 = .ok (.imul, 1) := by decide +kernel
theorem dX4_mix_33 : decode cX4_mix 33 = .ok (.iconst 1, 1) := by decide +kernel
theorem dX4_mix_34 : decode cX4_mix 34 = .ok (.iadd, 1) := by decide +kernel
theorem dX4_mix_35 : decode cX4_mix 35 = .ok (.iaload, 1) := by decide +kernel
theorem dX4_mix_36 : decode cX4_mix 36 = .ok (.bipush 16, 2) := by decide +kernel
theorem dX4_mix_38 : decode cX4_mix 38 = .ok (.ishl, 1) := by decide +kernel
theorem dX4_mix_39 : decode cX4_mix 39 = .ok (.ior, 1) := by decide +kernel
theorem dX4_mix_40 : decode cX4_mix 40 = .ok (.aload_n 0, 1) := by decide +kernel
theorem dX4_mix_41 : decode cX4_mix 41 = .ok (.getfield 13, 3) := by decide +kernel
theorem dX4_mix_44 : decode cX4_mix 44 = .ok (.iconst 4, 1) := by decide +kernel
theorem dX4_mix_45 : decode cX4_mix 45 = .ok (.iload_n 2, 1) := by decide +kernel
theorem dX4_mix_46 : decode cX4_mix 46 = .ok (.imul, 1) := by decide +kernel
theorem dX4_mix_47 : decode cX4_mix 47 = .ok (.iconst 2, 1) := by decide +kernel
theorem dX4_mix_48 : decode cX4_mix 48 = .ok (.iadd, 1) := by decide +kernel
theorem dX4_mix_49 : decode cX4_mix 49 = .ok (.iaload, 1) := by decide +kernel
theorem dX4_mix_50 : decode cX4_mix 50 = .ok (.bipush 8, 2) := by decide +kernel
theorem dX4_mix_52 : decode cX4_mix 52 = .ok (.ishl, 1) := by decide +kernel
theorem dX4_mix_53 : decode cX4_mix 53 = .ok (.ior, 1) := by decide +kernel
theorem dX4_mix_54 : decode cX4_mix 54 = .ok (.aload_n 0, 1) := by decide +kernel
theorem dX4_mix_55 : decode cX4_mix 55 = .ok (.getfield 13, 3) := by decide +kernel
theorem dX4_mix_58 : decode cX4_mix 58 = .ok (.iconst 4, 1) := by decide +kernel
theorem dX4_mix_59 : decode cX4_mix 59 = .ok (.iload_n 2, 1) := by decide +kernel
theorem dX4_mix_60 : decode cX4_mix 60 = .ok (.imul, 1) := by decide +kernel
theorem dX4_mix_61 : decode cX4_mix 61 = .ok (.iconst 3, 1) := by decide +kernel
theorem dX4_mix_62 : decode cX4_mix 62 = .ok (.iadd, 1) := by decide +kernel
theorem dX4_mix_63 : decode cX4_mix 63 = .ok (.iaload, 1) := by decide +kernel
theorem dX4_mix_64 : decode cX4_mix 64 = .ok (.ior, 1) := by decide +kernel
theorem dX4_mix_65 : decode cX4_mix 65 = .ok (.iastore, 1) := by decide +kernel
theorem dX4_mix_66 : decode cX4_mix 66 = .ok (.iinc 2 1, 3) := by decide +kernel
theorem dX4_mix_69 : decode cX4_mix 69 = .ok (.goto (-62), 3) := by decide +kernel
theorem dX4_mix_72 : decode cX4_mix 72 = .ok (.bipush 16, 2) := by decide +kernel
theorem dX4_mix_74 : decode cX4_mix 74 = .ok (.istore_n 2, 1) := by decide +kernel
theorem dX4_mix_75 : decode cX4_mix 75 = .ok (.iload_n 2, 1) := by decide +kernel
theorem dX4_mix_76 : decode cX4_mix 76 = .ok (.bipush 64, 2) := by decide +kernel
theorem dX4_mix_78 : decode cX4_mix 78 = .ok (.if_icmp .ge 101, 3) := by decide +kernel
theorem dX4_mix_81 : decode cX4_mix 81 = .ok (.aload_n 1, 1) := by decide +kernel
theorem dX4_mix_82 : decode cX4_mix 82 = .ok (.iload_n 2, 1) := by decide +kernel
theorem dX4_mix_83 : decode cX4_mix 83 = .ok (.bipush 15, 2) := by decide +kernel
theorem dX4_mix_85 : decode cX4_mix 85 = .ok (.isub, 1) := by decide +kernel
theorem dX4_mix_86 : decode cX4_mix 86 = .ok (.iaload, 1) := by decide +kernel
theorem dX4_mix_87 : decode cX4_mix 87 = .ok (.istore_n 3, 1) := by decide +kernel
theorem dX4_mix_88 : decode cX4_mix 88 = .ok (.aload_n 1, 1) := by decide +kernel
theorem dX4_mix_89 : decode cX4_mix 89 = .ok (.iload_n 2, 1) := by decide +kernel
theorem dX4_mix_90 : decode cX4_mix 90 = .ok (.iconst 2, 1) := by decide +kernel
theorem dX4_mix_91 : decode cX4_mix 91 = .ok (.isub, 1) := by decide +kernel
theorem dX4_mix_92 : decode cX4_mix 92 = .ok (.iaload, 1) := by decide +kernel
theorem dX4_mix_93 : decode cX4_mix 93 = .ok (.istore 4, 2) := by decide +kernel
theorem dX4_mix_95 : decode cX4_mix 95 = .ok (.iload_n 3, 1) := by decide +kernel
theorem dX4_mix_96 : decode cX4_mix 96 = .ok (.bipush 7, 2) := by decide +kernel
theorem dX4_mix_98 : decode cX4_mix 98 = .ok (.iushr, 1) := by decide +kernel
theorem dX4_mix_99 : decode cX4_mix 99 = .ok (.iload_n 3, 1) := by decide +kernel
theorem dX4_mix_100 : decode cX4_mix 100 = .ok (.bipush 25, 2) := by decide +kernel
theorem dX4_mix_102 : decode cX4_mix 102 = .ok (.ishl, 1) := by decide +kernel
theorem dX4_mix_103 : decode cX4_mix 103 = .ok (.ior, 1) := by decide +kernel
theorem dX4_mix_104 : decode cX4_mix 104 = .ok (.iload_n 3, 1) := by decide +kernel
theorem dX4_mix_105 : decode cX4_mix 105 = .ok (.bipush 18, 2) := by decide +kernel
theorem dX4_mix_107 : decode cX4_mix 107 = .ok (.iushr, 1) := by decide +kernel
theorem dX4_mix_108 : decode cX4_mix 108 = .ok (.iload_n 3, 1) := by decide +kernel
theorem dX4_mix_109 : decode cX4_mix 109 = .ok (.bipush 14, 2) := by decide +kernel
theorem dX4_mix_111 : decode cX4_mix 111 = .ok (.ishl, 1) := by decide +kernel
theorem dX4_mix_112 : decode cX4_mix 112 = .ok (.ior, 1) := by decide +kernel
theorem dX4_mix_113 : decode cX4_mix 113 = .ok (.ixor, 1) := by decide +kernel
theorem dX4_mix_114 : decode cX4_mix 114 = .ok (.iload_n 3, 1) := by decide +kernel
theorem dX4_mix_115 : decode cX4_mix 115 = .ok (.iconst 3, 1) := by decide +kernel
theorem dX4_mix_116 : decode cX4_mix 116 = .ok (.iushr, 1) := by decide +kernel
theorem dX4_mix_117 : decode cX4_mix 117 = .ok (.ixor, 1) := by decide +kernel
theorem dX4_mix_118 : decode cX4_mix 118 = .ok (.istore 5, 2) := by decide +kernel
theorem dX4_mix_120 : decode cX4_mix 120 = .ok (.iload 4, 2) := by decide +kernel
theorem dX4_mix_122 : decode cX4_mix 122 = .ok (.bipush 17, 2) := by decide +kernel
theorem dX4_mix_124 : decode cX4_mix 124 = .ok (.iushr, 1) := by decide +kernel
theorem dX4_mix_125 : decode cX4_mix 125 = .ok (.iload 4, 2) := by decide +kernel
theorem dX4_mix_127 : decode cX4_mix 127 = .ok (.bipush 15, 2) := by decide +kernel
theorem dX4_mix_129 : decode cX4_mix 129 = .ok (.ishl, 1) := by decide +kernel
theorem dX4_mix_130 : decode cX4_mix 130 = .ok (.ior, 1) := by decide +kernel
theorem dX4_mix_131 : decode cX4_mix 131 = .ok (.iload 4, 2) := by decide +kernel
theorem dX4_mix_133 : decode cX4_mix 133 = .ok (.bipush 19, 2) := by decide +kernel
theorem dX4_mix_135 : decode cX4_mix 135 = .ok (.iushr, 1) := by decide +kernel
theorem dX4_mix_136 : decode cX4_mix 136 = .ok (.iload 4, 2) := by decide +kernel
theorem dX4_mix_138 : decode cX4_mix 138 = .ok (.bipush 13, 2) := by decide +kernel
theorem dX4_mix_140 : decode cX4_mix 140 = .ok (.ishl, 1) := by decide +kernel
theorem dX4_mix_141 : decode cX4_mix 141 = .ok (.ior, 1) := by decide +kernel
theorem dX4_mix_142 : decode cX4_mix 142 = .ok (.ixor, 1) := by decide +kernel
theorem dX4_mix_143 : decode cX4_mix 143 = .ok (.iload 4, 2) := by decide +kernel
theorem dX4_mix_145 : decode cX4_mix 145 = .ok (.bipush 10, 2) := by decide +kernel
theorem dX4_mix_147 : decode cX4_mix 147 = .ok (.iushr, 1) := by decide +kernel
theorem dX4_mix_148 : decode cX4_mix 148 = .ok (.ixor, 1) := by decide +kernel
theorem dX4_mix_149 : decode cX4_mix 149 = .ok (.istore 6, 2) := by decide +kernel
theorem dX4_mix_151 : decode cX4_mix 151 = .ok (.aload_n 1, 1) := by decide +kernel
theorem dX4_mix_152 : decode cX4_mix 152 = .ok (.iload_n 2, 1) := by decide +kernel
theorem dX4_mix_153 : decode cX4_mix 153 = .ok (.aload_n 1, 1) := by decide +kernel
theorem dX4_mix_154 : decode cX4_mix 154 = .ok (.iload_n 2, 1) := by decide +kernel
theorem dX4_mix_155 : decode cX4_mix 155 = .ok (.bipush 16, 2) := by decide +kernel
theorem dX4_mix_157 : decode cX4_mix 157 = .ok (.isub, 1) := by decide +kernel
theorem dX4_mix_158 : decode cX4_mix 158 = .ok (.iaload, 1) := by decide +kernel
theorem dX4_mix_159 : decode cX4_mix 159 = .ok (.iload 5, 2) := by decide +kernel
theorem dX4_mix_161 : decode cX4_mix 161 = .ok (.iadd, 1) := by decide +kernel
theorem dX4_mix_162 : decode cX4_mix 162 = .ok (.aload_n 1, 1) := by decide +kernel
theorem dX4_mix_163 : decode cX4_mix 163 = .ok (.iload_n 2, 1) := by decide +kernel
theorem dX4_mix_164 : decode cX4_mix 164 = .ok (.bipush 7, 2) := by decide +kernel
theorem dX4_mix_166 : decode cX4_mix 166 = .ok (.isub, 1) := by decide +kernel
theorem dX4_mix_167 : decode cX4_mix 167 = .ok (.iaload, 1) := by decide +kernel
theorem dX4_mix_168 : decode cX4_mix 168 = .ok (.iadd, 1) := by decide +kernel
theorem dX4_mix_169 : decode cX4_mix 169 = .ok (.iload 6, 2) := by decide +kernel
theorem dX4_mix_171 : decode cX4_mix 171 = .ok (.iadd, 1) := by decide +kernel
theorem dX4_mix_172 : decode cX4_mix 172 = .ok (.iastore, 1) := by decide +kernel
theorem dX4_mix_173 : decode cX4_mix 173 = .ok (.iinc 2 1, 3) := by decide +kernel
theorem dX4_mix_176 : decode cX4_mix 176 = .ok (.goto (-101), 3) := by decide +kernel
theorem dX4_mix_179 : decode cX4_mix 179 = .ok (.aload_n 0, 1) := by decide +kernel
theorem dX4_mix_180 : decode cX4_mix 180 = .ok (.getfield 17, 3) := by decide +kernel
theorem dX4_mix_183 : decode cX4_mix 183 = .ok (.iconst 0, 1) := by decide +kernel
theorem dX4_mix_184 : decode cX4_mix 184 = .ok (.iaload, 1) := by decide +kernel
theorem dX4_mix_185 : decode cX4_mix 185 = .ok (.istore_n 2, 1) := by decide +kernel
theorem dX4_mix_186 : decode cX4_mix 186 = .ok (.aload_n 0, 1) := by decide +kernel
theorem dX4_mix_187 : decode cX4_mix 187 = .ok (.getfield 17, 3) := by decide +kernel
theorem dX4_mix_190 : decode cX4_mix 190 = .ok (.iconst 1, 1) := by decide +kernel
theorem dX4_mix_191 : decode cX4_mix 191 = .ok (.iaload, 1) := by decide +kernel
theorem dX4_mix_192 : decode cX4_mix 192 = .ok (.istore_n 3, 1) := by decide +kernel
theorem dX4_mix_193 : decode cX4_mix 193 = .ok (.aload_n 0, 1) := by decide +kernel
theorem dX4_mix_194 : decode cX4_mix 194 = .ok (.getfield 17, 3) := by decide +kernel
theorem dX4_mix_197 : decode cX4_mix 197 = .ok (.iconst 2, 1) := by decide +kernel
theorem dX4_mix_198 : decode cX4_mix 198 = .ok (.iaload, 1) := by decide +kernel
theorem dX4_mix_199 : decode cX4_mix 199 = .ok (.istore 4, 2) := by decide +kernel
theorem dX4_mix_201 : decode cX4_mix 201 = .ok (.aload_n 0, 1) := by decide +kernel
theorem dX4_mix_202 : decode cX4_mix 202 = .ok (.getfield 17, 3) := by decide +kernel
theorem dX4_mix_205 : decode cX4_mix 205 = .ok (.iconst 3, 1) := by decide +kernel
theorem dX4_mix_206 : decode cX4_mix 206 = .ok (.iaload, 1) := by decide +kernel
theorem dX4_mix_207 : decode cX4_mix 207 = .ok (.istore 5, 2) := by decide +kernel
theorem dX4_mix_209 : decode cX4_mix 209 = .ok (.aload_n 0, 1) := by decide +kernel
theorem dX4_mix_210 : decode cX4_mix 210 = .ok (.getfield 17, 3) := by decide +kernel
theorem dX4_mix_213 : decode cX4_mix 213 = .ok (.iconst 4, 1) := by decide +kernel
theorem dX4_mix_214 : decode cX4_mix 214 = .ok (.iaload, 1) := by decide +kernel
theorem dX4_mix_215 : decode cX4_mix 215 = .ok (.istore 6, 2) := by decide +kernel
theorem dX4_mix_217 : decode cX4_mix 217 = .ok (.aload_n 0, 1) := by decide +kernel
theorem dX4_mix_218 : decode cX4_mix 218 = .ok (.getfield 17, 3) := by decide +kernel
theorem dX4_mix_221 : decode cX4_mix 221 = .ok (.iconst 5, 1) := by decide +kernel
theorem dX4_mix_222 : decode cX4_mix 222 = .ok (.iaload, 1) := by decide +kernel
theorem dX4_mix_223 : decode cX4_mix 223 = .ok (.istore 7, 2) := by decide +kernel
theorem dX4_mix_225 : decode cX4_mix 225 = .ok (.aload_n 0, 1) := by decide +kernel
theorem dX4_mix_226 : decode cX4_mix 226 = .ok (.getfield 17, 3) := by decide +kernel
theorem dX4_mix_229 : decode cX4_mix 229 = .ok (.bipush 6, 2) := by decide +kernel
theorem dX4_mix_231 : decode cX4_mix 231 = .ok (.iaload, 1) := by decide +kernel
theorem dX4_mix_232 : decode cX4_mix 232 = .ok (.istore 8, 2) := by decide +kernel
theorem dX4_mix_234 : decode cX4_mix 234 = .ok (.aload_n 0, 1) := by decide +kernel
theorem dX4_mix_235 : decode cX4_mix 235 = .ok (.getfield 17, 3) := by decide +kernel
theorem dX4_mix_238 : decode cX4_mix 238 = .ok (.bipush 7, 2) := by decide +kernel
theorem dX4_mix_240 : decode cX4_mix 240 = .ok (.iaload, 1) := by decide +kernel
theorem dX4_mix_241 : decode cX4_mix 241 = .ok (.istore 9, 2) := by decide +kernel
theorem dX4_mix_243 : decode cX4_mix 243 = .ok (.iconst 0, 1) := by decide +kernel
theorem dX4_mix_244 : decode cX4_mix 244 = .ok (.istore 10, 2) := by decide +kernel
theorem dX4_mix_246 : decode cX4_mix 246 = .ok (.iload 10, 2) := by decide +kernel
theorem dX4_mix_248 : decode cX4_mix 248 = .ok (.bipush 64, 2) := by decide +kernel
theorem dX4_mix_250 : decode cX4_mix 250 = .ok (.if_icmp .ge 161, 3) := by decide +kernel
theorem dX4_mix_253 : decode cX4_mix 253 = .ok (.iload 6, 2) := by decide +kernel
theorem dX4_mix_255 : decode cX4_mix 255 = .ok (.bipush 6, 2) := by decide +kernel
theorem dX4_mix_257 : decode cX4_mix 257 = .ok (.iushr, 1) := by decide +kernel
theorem dX4_mix_258 : decode cX4_mix 258 = .ok (.iload 6, 2) := by decide +kernel
theorem dX4_mix_260 : decode cX4_mix 260 = .ok (.bipush 26, 2) := by decide +kernel
theorem dX4_mix_262 : decode cX4_mix 262 = .ok (.ishl, 1) := by decide +kernel
theorem dX4_mix_263 : decode cX4_mix 263 = .ok (.ior, 1) := by decide +kernel
theorem dX4_mix_264 : decode cX4_mix 264 = .ok (.iload 6, 2) := by decide +kernel
theorem dX4_mix_266 : decode cX4_mix 266 = .ok (.bipush 11, 2) := by decide +kernel
theorem dX4_mix_268 : decode cX4_mix 268 = .ok (.iushr, 1) := by decide +kernel
theorem dX4_mix_269 : decode cX4_mix 269 = .ok (.iload 6, 2) := by decide +kernel
theorem dX4_mix_271 : decode cX4_mix 271 = .ok (.bipush 21, 2) := by decide +kernel
theorem dX4_mix_273 : decode cX4_mix 273 = .ok (.ishl, 1) := by decide +kernel
theorem dX4_mix_274 : decode cX4_mix 274 = .ok (.ior, 1) := by decide +kernel
theorem dX4_mix_275 : decode cX4_mix 275 = .ok (.ixor, 1) := by decide +kernel
theorem dX4_mix_276 : decode cX4_mix 276 = .ok (.iload 6, 2) := by decide +kernel
theorem dX4_mix_278 : decode cX4_mix 278 = .ok (.bipush 25, 2) := by decide +kernel
theorem dX4_mix_280 : decode cX4_mix 280 = .ok (.iushr, 1) := by decide +kernel
theorem dX4_mix_281 : decode cX4_mix 281 = .ok (.iload 6, 2) := by decide +kernel
theorem dX4_mix_283 : decode cX4_mix 283 = .ok (.bipush 7, 2) := by decide +kernel
theorem dX4_mix_285 : decode cX4_mix 285 = .ok (.ishl, 1) := by decide +kernel
theorem dX4_mix_286 : decode cX4_mix 286 = .ok (.ior, 1) := by decide +kernel
theorem dX4_mix_287 : decode cX4_mix 287 = .ok (.ixor, 1) := by decide +kernel
theorem dX4_mix_288 : decode cX4_mix 288 = .ok (.istore 11, 2) := by decide +kernel
theorem dX4_mix_290 : decode cX4_mix 290 = .ok (.iload 9, 2) := by decide +kernel
theorem dX4_mix_292 : decode cX4_mix 292 = .ok (.iload 11, 2) := by decide +kernel
theorem dX4_mix_294 : decode cX4_mix 294 = .ok (.iadd, 1) := by decide +kernel
theorem dX4_mix_295 : decode cX4_mix 295 = .ok (.iload 6, 2) := by decide +kernel
theorem dX4_mix_297 : decode cX4_mix 297 = .ok (.iload 7, 2) := by decide +kernel
theorem dX4_mix_299 : decode cX4_mix 299 = .ok (.iand, 1) := by decide +kernel
theorem dX4_mix_300 : decode cX4_mix 300 = .ok (.iload 6, 2) := by decide +kernel
theorem dX4_mix_302 : decode cX4_mix 302 = .ok (.iconst (-1), 1) := by decide +kernel
theorem dX4_mix_303 : decode cX4_mix 303 = .ok (.ixor, 1) := by decide +kernel
theorem dX4_mix_304 : decode cX4_mix 304 = .ok (.iload 8, 2) := by decide +kernel
theorem dX4_mix_306 : decode cX4_mix 306 = .ok (.iand, 1) := by decide +kernel
theorem dX4_mix_307 : decode cX4_mix 307 = .ok (.ixor, 1) := by decide +kernel
theorem dX4_mix_308 : decode cX4_mix 308 = .ok (.iadd, 1) := by decide +kernel
theorem dX4_mix_309 : decode cX4_mix 309 = .ok (.getstatic 80, 3) := by decide +kernel
theorem dX4_mix_312 : decode cX4_mix 312 = .ok (.iload 10, 2) := by decide +kernel
theorem dX4_mix_314 : decode cX4_mix 314 = .ok (.iaload, 1) := by decide +kernel
theorem dX4_mix_315 : decode cX4_mix 315 = .ok (.iadd, 1) := by decide +kernel
theorem dX4_mix_316 : decode cX4_mix 316 = .ok (.aload_n 1, 1) := by decide +kernel
theorem dX4_mix_317 : decode cX4_mix 317 = .ok (.iload 10, 2) := by decide +kernel
theorem dX4_mix_319 : decode cX4_mix 319 = .ok (.iaload, 1) := by decide +kernel
theorem dX4_mix_320 : decode cX4_mix 320 = .ok (.iadd, 1) := by decide +kernel
theorem dX4_mix_321 : decode cX4_mix 321 = .ok (.istore 12, 2) := by decide +kernel
theorem dX4_mix_323 : decode cX4_mix 323 = .ok (.iload_n 2, 1) := by decide +kernel
theorem dX4_mix_324 : decode cX4_mix 324 = .ok (.iconst 2, 1) := by decide +kernel
theorem dX4_mix_325 : decode cX4_mix 325 = .ok (.iushr, 1) := by decide +kernel
theorem dX4_mix_326 : decode cX4_mix 326 = .ok (.iload_n 2, 1) := by decide +kernel
theorem dX4_mix_327 : decode cX4_mix 327 = .ok (.bipush 30, 2) := by decide +kernel
theorem dX4_mix_329 : decode cX4_mix 329 = .ok (.ishl, 1) := by decide +kernel
theorem dX4_mix_330 : decode cX4_mix 330 = .ok (.ior, 1) := by decide +kernel
theorem dX4_mix_331 : decode cX4_mix 331 = .ok (.iload_n 2, 1) := by decide +kernel
theorem dX4_mix_332 : decode cX4_mix 332 = .ok (.bipush 13, 2) := by decide +kernel
theorem dX4_mix_334 : decode cX4_mix 334 = .ok (.iushr, 1) := by decide +kernel
theorem dX4_mix_335 : decode cX4_mix 335 = .ok (.iload_n 2, 1) := by decide +kernel
theorem dX4_mix_336 : decode cX4_mix 336 = .ok (.bipush 19, 2) := by decide +kernel
theorem dX4_mix_338 : decode cX4_mix 338 = .ok (.ishl, 1) := by decide +kernel
theorem dX4_mix_339 : decode cX4_mix 339 = .ok (.ior, 1) := by decide +kernel
theorem dX4_mix_340 : decode cX4_mix 340 = .ok (.ixor, 1) := by decide +kernel
theorem dX4_mix_341 : decode cX4_mix 341 = .ok (.iload_n 2, 1) := by decide +kernel
theorem dX4_mix_342 : decode cX4_mix 342 = .ok (.bipush 22, 2) := by decide +kernel
theorem dX4_mix_344 : decode cX4_mix 344 = .ok (.iushr, 1) := by decide +kernel
theorem dX4_mix_345 : decode cX4_mix 345 = .ok (.iload_n 2, 1) := by decide +kernel
theorem dX4_mix_346 : decode cX4_mix 346 = .ok (.bipush 10, 2) := by decide +kernel
theorem dX4_mix_348 : decode cX4_mix 348 = .ok (.ishl, 1) := by decide +kernel
theorem dX4_mix_349 : decode cX4_mix 349 = .ok (.ior, 1) := by decide +kernel
theorem dX4_mix_350 : decode cX4_mix 350 = .ok (.ixor, 1) := by decide +kernel
theorem dX4_mix_351 : decode cX4_mix 351 = .ok (.istore 13, 2) := by decide +kernel
theorem dX4_mix_353 : decode cX4_mix 353 = .ok (.iload 13, 2) := by decide +kernel
theorem dX4_mix_355 : decode cX4_mix 355 = .ok (.iload_n 2, 1) := by decide +kernel
theorem dX4_mix_356 : decode cX4_mix 356 = .ok (.iload_n 3, 1) := by decide +kernel
theorem dX4_mix_357 : decode cX4_mix 357 = .ok (.iand, 1) := by decide +kernel
theorem dX4_mix_358 : decode cX4_mix 358 = .ok (.iload_n 2, 1) := by decide +kernel
theorem dX4_mix_359 : decode cX4_mix 359 = .ok (.iload 4, 2) := by decide +kernel
theorem dX4_mix_361 : decode cX4_mix 361 = .ok (.iand, 1) := by decide +kernel
theorem dX4_mix_362 : decode cX4_mix 362 = .ok (.ixor, 1) := by decide +kernel
theorem dX4_mix_363 : decode cX4_mix 363 = .ok (.iload_n 3, 1) := by decide +kernel
theorem dX4_mix_364 : decode cX4_mix 364 = .ok (.iload 4, 2) := by decide +kernel
theorem dX4_mix_366 : decode cX4_mix 366 = .ok (.iand, 1) := by decide +kernel
theorem dX4_mix_367 : decode cX4_mix 367 = .ok (.ixor, 1) := by decide +kernel
theorem dX4_mix_368 : decode cX4_mix 368 = .ok (.iadd, 1) := by decide +kernel
theorem dX4_mix_369 : decode cX4_mix 369 = .ok (.istore 14, 2) := by decide +kernel
theorem dX4_mix_371 : decode cX4_mix 371 = .ok (.iload 8, 2) := by decide +kernel
theorem dX4_mix_373 : decode cX4_mix 373 = .ok (.istore 9, 2) := by decide +kernel
theorem dX4_mix_375 : decode cX4_mix 375 = .ok (.iload 7, 2) := by decide +kernel
theorem dX4_mix_377 : decode cX4_mix 377 = .ok (.istore 8, 2) := by decide +kernel
theorem dX4_mix_379 : decode cX4_mix 379 = .ok (.iload 6, 2) := by decide +kernel
theorem dX4_mix_381 : decode cX4_mix 381 = .ok (.istore 7, 2) := by decide +kernel
theorem dX4_mix_383 : decode cX4_mix 383 = .ok (.iload 5, 2) := by decide +kernel
theorem dX4_mix_385 : decode cX4_mix 385 = .ok (.iload 12, 2) := by decide +kernel
theorem dX4_mix_387 : decode cX4_mix 387 = .ok (.iadd, 1) := by decide +kernel
theorem dX4_mix_388 : decode cX4_mix 388 = .ok (.istore 6, 2) := by decide +kernel
theorem dX4_mix_390 : decode cX4_mix 390 = .ok (.iload 4, 2) := by decide +kernel
theorem dX4_mix_392 : decode cX4_mix 392 = .ok (.istore 5, 2) := by decide +kernel
theorem dX4_mix_394 : decode cX4_mix 394 = .ok (.iload_n 3, 1) := by decide +kernel
theorem dX4_mix_395 : decode cX4_mix 395 = .ok (.istore 4, 2) := by decide +kernel
theorem dX4_mix_397 : decode cX4_mix 397 = .ok (.iload_n 2, 1) := by decide +kernel
theorem dX4_mix_398 : decode cX4_mix 398 = .ok (.istore_n 3, 1) := by decide +kernel
theorem dX4_mix_399 : decode cX4_mix 399 = .ok (.iload 12, 2) := by decide +kernel
theorem dX4_mix_401 : decode cX4_mix 401 = .ok (.iload 14, 2) := by decide +kernel
theorem dX4_mix_403 : decode cX4_mix 403 = .ok (.iadd, 1) := by decide +kernel
theorem dX4_mix_404 : decode cX4_mix 404 = .ok (.istore_n 2, 1) := by decide +kernel
theorem dX4_mix_405 : decode cX4_mix 405 = .ok (.iinc 10 1, 3) := by decide +kernel
theorem dX4_mix_408 : decode cX4_mix 408 = .ok (.goto (-162), 3) := by decide +kernel
theorem dX4_mix_411 : decode cX4_mix 411 = .ok (.aload_n 0, 1) := by decide +kernel
theorem dX4_mix_412 : decode cX4_mix 412 = .ok (.getfield 17, 3) := by decide +kernel
theorem dX4_mix_415 : decode cX4_mix 415 = .ok (.iconst 0, 1) := by decide +kernel
theorem dX4_mix_416 : decode cX4_mix 416 = .ok (.dup2, 1) := by decide +kernel
theorem dX4_mix_417 : decode cX4_mix 417 = .ok (.iaload, 1) := by decide +kernel
theorem dX4_mix_418 : decode cX4_mix 418 = .ok (.iload_n 2, 1) := by decide +kernel
theorem dX4_mix_419 : decode cX4_mix 419 = .ok (.iadd, 1) := by decide +kernel
theorem dX4_mix_420 : decode cX4_mix 420 = .ok (.iastore, 1) := by decide +kernel
theorem dX4_mix_421 : decode cX4_mix 421 = .ok (.aload_n 0, 1) := by decide +kernel
theorem dX4_mix_422 : decode cX4_mix 422 = .ok (.getfield 17, 3) := by decide +kernel
theorem dX4_mix_425 : decode cX4_mix 425 = .ok (.iconst 1, 1) := by decide +kernel
theorem dX4_mix_426 : decode cX4_mix 426 = .ok (.dup2, 1) := by decide +kernel
theorem dX4_mix_427 : decode cX4_mix 427 = .ok (.iaload, 1) := by decide +kernel
theorem dX4_mix_428 : decode cX4_mix 428 = .ok (.iload_n 3, 1) := by decide +kernel
theorem dX4_mix_429 : decode cX4_mix 429 = .ok (.iadd, 1) := by decide +kernel
theorem dX4_mix_430 : decode cX4_mix 430 = .ok (.iastore, 1) := by decide +kernel
theorem dX4_mix_431 : decode cX4_mix 431 = .ok (.aload_n 0, 1) := by decide +kernel
theorem dX4_mix_432 : decode cX4_mix 432 = .ok (.getfield 17, 3) := by decide +kernel
theorem dX4_mix_435 : decode cX4_mix 435 = .ok (.iconst 2, 1) := by decide +kernel
theorem dX4_mix_436 : decode cX4_mix 436 = .ok (.dup2, 1) := by decide +kernel
theorem dX4_mix_437 : decode cX4_mix 437 = .ok (.iaload, 1) := by decide +kernel
theorem dX4_mix_438 : decode cX4_mix 438 = .ok (.iload 4, 2) := by decide +kernel
theorem dX4_mix_440 : decode cX4_mix 440 = .ok (.iadd, 1) := by decide +kernel
theorem dX4_mix_441 : decode cX4_mix 441 = .ok (.iastore, 1) := by decide +kernel
theorem dX4_mix_442 : decode cX4_mix 442 = .ok (.aload_n 0, 1) := by decide +kernel
theorem dX4_mix_443 : decode cX4_mix 443 = .ok (.getfield 17, 3) := by decide +kernel
theorem dX4_mix_446 : decode cX4_mix 446 = .ok (.iconst 3, 1) := by decide +kernel
theorem dX4_mix_447 : decode cX4_mix 447 = .ok (.dup2, 1) := by decide +kernel
theorem dX4_mix_448 : decode cX4_mix 448 = .ok (.iaload, 1) := by decide +kernel
theorem dX4_mix_449 : decode cX4_mix 449 = .ok (.iload 5, 2) := by decide +kernel
theorem dX4_mix_451 : decode cX4_mix 451 = .ok (.iadd, 1) := by decide +kernel
theorem dX4_mix_452 : decode cX4_mix 452 = .ok (.iastore, 1) := by decide +kernel
theorem dX4_mix_453 : decode cX4_mix 453 = .ok (.aload_n 0, 1) := by decide +kernel
theorem dX4_mix_454 : decode cX4_mix 454 = .ok (.getfield 17, 3) := by decide +kernel
theorem dX4_mix_457 : decode cX4_mix 457 = .ok (.iconst 4, 1) := by decide +kernel
theorem dX4_mix_458 : decode cX4_mix 458 = .ok (.dup2, 1) := by decide +kernel
theorem dX4_mix_459 : decode cX4_mix 459 = .ok (.iaload, 1) := by decide +kernel
theorem dX4_mix_460 : decode cX4_mix 460 = .ok (.iload 6, 2) := by decide +kernel
theorem dX4_mix_462 : decode cX4_mix 462 = .ok (.iadd, 1) := by decide +kernel
theorem dX4_mix_463 : decode cX4_mix 463 = .ok (.iastore, 1) := by decide +kernel
theorem dX4_mix_464 : decode cX4_mix 464 = .ok (.aload_n 0, 1) := by decide +kernel
theorem dX4_mix_465 : decode cX4_mix 465 = .ok (.getfield 17, 3) := by decide +kernel
theorem dX4_mix_468 : decode cX4_mix 468 = .ok (.iconst 5, 1) := by decide +kernel
theorem dX4_mix_469 : decode cX4_mix 469 = .ok (.dup2, 1) := by decide +kernel
theorem dX4_mix_470 : decode cX4_mix 470 = .ok (.iaload, 1) := by decide +kernel
theorem dX4_mix_471 : decode cX4_mix 471 = .ok (.iload 7, 2) := by decide +kernel
theorem dX4_mix_473 : decode cX4_mix 473 = .ok (.iadd, 1) := by decide +kernel
theorem dX4_mix_474 : decode cX4_mix 474 = .ok (.iastore, 1) := by decide +kernel
theorem dX4_mix_475 : decode cX4_mix 475 = .ok (.aload_n 0, 1) := by decide +kernel
theorem dX4_mix_476 : decode cX4_mix 476 = .ok (.getfield 17, 3) := by decide +kernel
theorem dX4_mix_479 : decode cX4_mix 479 = .ok (.bipush 6, 2) := by decide +kernel
theorem dX4_mix_481 : decode cX4_mix 481 = .ok (.dup2, 1) := by decide +kernel
theorem dX4_mix_482 : decode cX4_mix 482 = .ok (.iaload, 1) := by decide +kernel
theorem dX4_mix_483 : decode cX4_mix 483 = .ok (.iload 8, 2) := by decide +kernel
theorem dX4_mix_485 : decode cX4_mix 485 = .ok (.iadd, 1) := by decide +kernel
theorem dX4_mix_486 : decode cX4_mix 486 = .ok (.iastore, 1) := by decide +kernel
theorem dX4_mix_487 : decode cX4_mix 487 = .ok (.aload_n 0, 1) := by decide +kernel
theorem dX4_mix_488 : decode cX4_mix 488 = .ok (.getfield 17, 3) := by decide +kernel
theorem dX4_mix_491 : decode cX4_mix 491 = .ok (.bipush 7, 2) := by decide +kernel
theorem dX4_mix_493 : decode cX4_mix 493 = .ok (.dup2, 1) := by decide +kernel
theorem dX4_mix_494 : decode cX4_mix 494 = .ok (.iaload, 1) := by decide +kernel
theorem dX4_mix_495 : decode cX4_mix 495 = .ok (.iload 9, 2) := by decide +kernel
theorem dX4_mix_497 : decode cX4_mix 497 = .ok (.iadd, 1) := by decide +kernel
theorem dX4_mix_498 : decode cX4_mix 498 = .ok (.iastore, 1) := by decide +kernel
theorem dX4_mix_499 : decode cX4_mix 499 = .ok (.return_, 1) := by decide +kernel
abbrev rmX4_mix : Room := { frames := 0, cells := 0, slots := 0, locals := 0 }
set_option maxHeartbeats 4000000 in
set_option maxRecDepth 100000 in
theorem wB_X4_mix_246 {G : mG} {F : Nat} {x : mXT} {sz : Nat} {M0 : mM} (X : mCX G RX4 cX4_mix 15 none "mix" rmX4_mix x) (hQ : mQV x M0 (sz, 0, 0)) : ∀ (n : Nat) (l0 : Nat) (l1 : Nat) (l2 : Int32) (l3 : Int32) (l4 : Int32) (l5 : Int32) (l6 : Int32) (l7 : Int32) (l8 : Int32) (l9 : Int32) (l10 : Int32) (M : mM), B_X4_mix_246 G F n l0 l1 l2 l3 l4 l5 l6 l7 l8 l9 l10 M = some M0 → WW x (sz, 0, 0) M 246 [(0, .ref l0), (1, .ref l1), (2, .int l2), (3, .int l3), (4, .int l4), (5, .int l5), (6, .int l6), (7, .int l7), (8, .int l8), (9, .int l9), (10, .int l10)] [] := by
  intro n
  induction n with
  | zero =>
    intro l0 l1 l2 l3 l4 l5 l6 l7 l8 l9 l10 M h
    exact nomatch (show (none : Option mM) = some M0 from h)
  | succ n ih =>
    intro l0 l1 l2 l3 l4 l5 l6 l7 l8 l9 l10 M h
    rw [B_X4_mix_246] at h
    refine ww_iload 246 X dX4_mix_246 10 rfl ?_
    refine ww_bipush 248 X (v := (64 : Int32)) dX4_mix_248 (by decide) ?_
    refine ww_icmp_ge 250 411 X dX4_mix_250 (by decide) (fun q => ?_) (fun q => ?_)
    · replace h := (if_pos q).symm.trans h
      refine ww_aload_n 411 X dX4_mix_411 0 rfl rfl ?_
      obtain ⟨v412, e412, h⟩ := bO_some h
      refine ww_getR 412 X dX4_mix_412 fG_X4_17 e412 ?_
      refine ww_iconst 415 X (v := (0 : Int32)) dX4_mix_415 (by decide) ?_
      refine ww_dup2_11 416 X dX4_mix_416 rfl rfl ?_
      obtain ⟨v417, e417, h⟩ := bO_some h
      refine ww_iald 417 X dX4_mix_417 e417 ?_
      refine ww_iload_n 418 X dX4_mix_418 2 rfl rfl ?_
      refine ww_iadd 419 X dX4_mix_419 ?_
      obtain ⟨M420, e420, h⟩ := bO_some h
      refine ww_iast 420 X dX4_mix_420 e420 ?_
      refine ww_aload_n 421 X dX4_mix_421 0 rfl rfl ?_
      obtain ⟨v422, e422, h⟩ := bO_some h
      refine ww_getR 422 X dX4_mix_422 fG_X4_17 e422 ?_
      refine ww_iconst 425 X (v := (1 : Int32)) dX4_mix_425 (by decide) ?_
      refine ww_dup2_11 426 X dX4_mix_426 rfl rfl ?_
      obtain ⟨v427, e427, h⟩ := bO_some h
      refine ww_iald 427 X dX4_mix_427 e427 ?_
      refine ww_iload_n 428 X dX4_mix_428 3 rfl rfl ?_
      refine ww_iadd 429 X dX4_mix_429 ?_
      obtain ⟨M430, e430, h⟩ := bO_some h
      refine ww_iast 430 X dX4_mix_430 e430 ?_
      refine ww_aload_n 431 X dX4_mix_431 0 rfl rfl ?_
      obtain ⟨v432, e432, h⟩ := bO_some h
      refine ww_getR 432 X dX4_mix_432 fG_X4_17 e432 ?_
      refine ww_iconst 435 X (v := (2 : Int32)) dX4_mix_435 (by decide) ?_
      refine ww_dup2_11 436 X dX4_mix_436 rfl rfl ?_
      obtain ⟨v437, e437, h⟩ := bO_some h
      refine ww_iald 437 X dX4_mix_437 e437 ?_
      refine ww_iload 438 X dX4_mix_438 4 rfl ?_
      refine ww_iadd 440 X dX4_mix_440 ?_
      obtain ⟨M441, e441, h⟩ := bO_some h
      refine ww_iast 441 X dX4_mix_441 e441 ?_
      refine ww_aload_n 442 X dX4_mix_442 0 rfl rfl ?_
      obtain ⟨v443, e443, h⟩ := bO_some h
      refine ww_getR 443 X dX4_mix_443 fG_X4_17 e443 ?_
      refine ww_iconst 446 X (v := (3 : Int32)) dX4_mix_446 (by decide) ?_
      refine ww_dup2_11 447 X dX4_mix_447 rfl rfl ?_
      obtain ⟨v448, e448, h⟩ := bO_some h
      refine ww_iald 448 X dX4_mix_448 e448 ?_
      refine ww_iload 449 X dX4_mix_449 5 rfl ?_
      refine ww_iadd 451 X dX4_mix_451 ?_
      obtain ⟨M452, e452, h⟩ := bO_some h
      refine ww_iast 452 X dX4_mix_452 e452 ?_
      refine ww_aload_n 453 X dX4_mix_453 0 rfl rfl ?_
      obtain ⟨v454, e454, h⟩ := bO_some h
      refine ww_getR 454 X dX4_mix_454 fG_X4_17 e454 ?_
      refine ww_iconst 457 X (v := (4 : Int32)) dX4_mix_457 (by decide) ?_
      refine ww_dup2_11 458 X dX4_mix_458 rfl rfl ?_
      obtain ⟨v459, e459, h⟩ := bO_some h
      refine ww_iald 459 X dX4_mix_459 e459 ?_
      refine ww_iload 460 X dX4_mix_460 6 rfl ?_
      refine ww_iadd 462 X dX4_mix_462 ?_
      obtain ⟨M463, e463, h⟩ := bO_some h
      refine ww_iast 463 X dX4_mix_463 e463 ?_
      refine ww_aload_n 464 X dX4_mix_464 0 rfl rfl ?_
      obtain ⟨v465, e465, h⟩ := bO_some h
      refine ww_getR 465 X dX4_mix_465 fG_X4_17 e465 ?_
      refine ww_iconst 468 X (v := (5 : Int32)) dX4_mix_468 (by decide) ?_
      refine ww_dup2_11 469 X dX4_mix_469 rfl rfl ?_
      obtain ⟨v470, e470, h⟩ := bO_some h
      refine ww_iald 470 X dX4_mix_470 e470 ?_
      refine ww_iload 471 X dX4_mix_471 7 rfl ?_
      refine ww_iadd 473 X dX4_mix_473 ?_
      obtain ⟨M474, e474, h⟩ := bO_some h
      refine ww_iast 474 X dX4_mix_474 e474 ?_
      refine ww_aload_n 475 X dX4_mix_475 0 rfl rfl ?_
      obtain ⟨v476, e476, h⟩ := bO_some h
      refine ww_getR 476 X dX4_mix_476 fG_X4_17 e476 ?_
      refine ww_bipush 479 X (v := (6 : Int32)) dX4_mix_479 (by decide) ?_
      refine ww_dup2_11 481 X dX4_mix_481 rfl rfl ?_
      obtain ⟨v482, e482, h⟩ := bO_some h
      refine ww_iald 482 X dX4_mix_482 e482 ?_
      refine ww_iload 483 X dX4_mix_483 8 rfl ?_
      refine ww_iadd 485 X dX4_mix_485 ?_
      obtain ⟨M486, e486, h⟩ := bO_some h
      refine ww_iast 486 X dX4_mix_486 e486 ?_
      refine ww_aload_n 487 X dX4_mix_487 0 rfl rfl ?_
      obtain ⟨v488, e488, h⟩ := bO_some h
      refine ww_getR 488 X dX4_mix_488 fG_X4_17 e488 ?_
      refine ww_bipush 491 X (v := (7 : Int32)) dX4_mix_491 (by decide) ?_
      refine ww_dup2_11 493 X dX4_mix_493 rfl rfl ?_
      obtain ⟨v494, e494, h⟩ := bO_some h
      refine ww_iald 494 X dX4_mix_494 e494 ?_
      refine ww_iload 495 X dX4_mix_495 9 rfl ?_
      refine ww_iadd 497 X dX4_mix_497 ?_
      obtain ⟨M498, e498, h⟩ := bO_some h
      refine ww_iast 498 X dX4_mix_498 e498 ?_
      exact ww_vretE 499 X hQ dX4_mix_499 h
    · replace h := (if_neg q).symm.trans h
      refine ww_iload 253 X dX4_mix_253 6 rfl ?_
      refine ww_bipush 255 X (v := (6 : Int32)) dX4_mix_255 (by decide) ?_
      refine ww_iushr 257 X dX4_mix_257 ?_
      refine ww_iload 258 X dX4_mix_258 6 rfl ?_
      refine ww_bipush 260 X (v := (26 : Int32)) dX4_mix_260 (by decide) ?_
      refine ww_ishl 262 X dX4_mix_262 ?_
      refine ww_ior 263 X dX4_mix_263 ?_
      refine ww_iload 264 X dX4_mix_264 6 rfl ?_
      refine ww_bipush 266 X (v := (11 : Int32)) dX4_mix_266 (by decide) ?_
      refine ww_iushr 268 X dX4_mix_268 ?_
      refine ww_iload 269 X dX4_mix_269 6 rfl ?_
      refine ww_bipush 271 X (v := (21 : Int32)) dX4_mix_271 (by decide) ?_
      refine ww_ishl 273 X dX4_mix_273 ?_
      refine ww_ior 274 X dX4_mix_274 ?_
      refine ww_ixor 275 X dX4_mix_275 ?_
      refine ww_iload 276 X dX4_mix_276 6 rfl ?_
      refine ww_bipush 278 X (v := (25 : Int32)) dX4_mix_278 (by decide) ?_
      refine ww_iushr 280 X dX4_mix_280 ?_
      refine ww_iload 281 X dX4_mix_281 6 rfl ?_
      refine ww_bipush 283 X (v := (7 : Int32)) dX4_mix_283 (by decide) ?_
      refine ww_ishl 285 X dX4_mix_285 ?_
      refine ww_ior 286 X dX4_mix_286 ?_
      refine ww_ixor 287 X dX4_mix_287 ?_
      refine ww_istore 288 X dX4_mix_288 (lv' := [(0, .ref l0), (1, .ref l1), (2, .int l2), (3, .int l3), (4, .int l4), (5, .int l5), (6, .int l6), (7, .int l7), (8, .int l8), (9, .int l9), (10, .int l10), (11, .int ((((ushI l6 (6 : Int32)) ||| (l6 <<< ((26 : Int32) &&& 31))) ^^^ ((ushI l6 (11 : Int32)) ||| (l6 <<< ((21 : Int32) &&& 31)))) ^^^ ((ushI l6 (25 : Int32)) ||| (l6 <<< ((7 : Int32) &&& 31)))))]) (by decide) [1, 2, 3, 4, 5, 6, 7, 8, 9, 10, 11, 0] rfl ?_
      refine ww_iload 290 X dX4_mix_290 9 rfl ?_
      refine ww_iload 292 X dX4_mix_292 11 rfl ?_
      refine ww_iadd 294 X dX4_mix_294 ?_
      refine ww_iload 295 X dX4_mix_295 6 rfl ?_
      refine ww_iload 297 X dX4_mix_297 7 rfl ?_
      refine ww_iand 299 X dX4_mix_299 ?_
      refine ww_iload 300 X dX4_mix_300 6 rfl ?_
      refine ww_iconst 302 X (v := (-1 : Int32)) dX4_mix_302 (by decide) ?_
      refine ww_ixor 303 X dX4_mix_303 ?_
      refine ww_iload 304 X dX4_mix_304 8 rfl ?_
      refine ww_iand 306 X dX4_mix_306 ?_
      refine ww_ixor 307 X dX4_mix_307 ?_
      refine ww_iadd 308 X dX4_mix_308 ?_
      refine ww_gets 309 X dX4_mix_309 gS_X4_80 ?_
      refine ww_iload 312 X dX4_mix_312 10 rfl ?_
      obtain ⟨v314, e314, h⟩ := bO_some h
      refine ww_iald 314 X dX4_mix_314 e314 ?_
      refine ww_iadd 315 X dX4_mix_315 ?_
      refine ww_aload_n 316 X dX4_mix_316 1 rfl rfl ?_
      refine ww_iload 317 X dX4_mix_317 10 rfl ?_
      obtain ⟨v319, e319, h⟩ := bO_some h
      refine ww_iald 319 X dX4_mix_319 e319 ?_
      refine ww_iadd 320 X dX4_mix_320 ?_
      refine ww_istore 321 X dX4_mix_321 (lv' := [(0, .ref l0), (1, .ref l1), (2, .int l2), (3, .int l3), (4, .int l4), (5, .int l5), (6, .int l6), (7, .int l7), (8, .int l8), (9, .int l9), (10, .int l10), (11, .int ((((ushI l6 (6 : Int32)) ||| (l6 <<< ((26 : Int32) &&& 31))) ^^^ ((ushI l6 (11 : Int32)) ||| (l6 <<< ((21 : Int32) &&& 31)))) ^^^ ((ushI l6 (25 : Int32)) ||| (l6 <<< ((7 : Int32) &&& 31))))), (12, .int ((((l9 + ((((ushI l6 (6 : Int32)) ||| (l6 <<< ((26 : Int32) &&& 31))) ^^^ ((ushI l6 (11 : Int32)) ||| (l6 <<< ((21 : Int32) &&& 31)))) ^^^ ((ushI l6 (25 : Int32)) ||| (l6 <<< ((7 : Int32) &&& 31))))) + ((l6 &&& l7) ^^^ ((l6 ^^^ (-1 : Int32)) &&& l8))) + v314) + v319))]) (by decide) [1, 2, 3, 4, 5, 6, 7, 8, 9, 10, 11, 12, 0] rfl ?_
      refine ww_iload_n 323 X dX4_mix_323 2 rfl rfl ?_
      refine ww_iconst 324 X (v := (2 : Int32)) dX4_mix_324 (by decide) ?_
      refine ww_iushr 325 X dX4_mix_325 ?_
      refine ww_iload_n 326 X dX4_mix_326 2 rfl rfl ?_
      refine ww_bipush 327 X (v := (30 : Int32)) dX4_mix_327 (by decide) ?_
      refine ww_ishl 329 X dX4_mix_329 ?_
      refine ww_ior 330 X dX4_mix_330 ?_
      refine ww_iload_n 331 X dX4_mix_331 2 rfl rfl ?_
      refine ww_bipush 332 X (v := (13 : Int32)) dX4_mix_332 (by decide) ?_
      refine ww_iushr 334 X dX4_mix_334 ?_
      refine ww_iload_n 335 X dX4_mix_335 2 rfl rfl ?_
      refine ww_bipush 336 X (v := (19 : Int32)) dX4_mix_336 (by decide) ?_
      refine ww_ishl 338 X dX4_mix_338 ?_
      refine ww_ior 339 X dX4_mix_339 ?_
      refine ww_ixor 340 X dX4_mix_340 ?_
      refine ww_iload_n 341 X dX4_mix_341 2 rfl rfl ?_
      refine ww_bipush 342 X (v := (22 : Int32)) dX4_mix_342 (by decide) ?_
      refine ww_iushr 344 X dX4_mix_344 ?_
      refine ww_iload_n 345 X dX4_mix_345 2 rfl rfl ?_
      refine ww_bipush 346 X (v := (10 : Int32)) dX4_mix_346 (by decide) ?_
      refine ww_ishl 348 X dX4_mix_348 ?_
      refine ww_ior 349 X dX4_mix_349 ?_
      refine ww_ixor 350 X dX4_mix_350 ?_
      refine ww_istore 351 X dX4_mix_351 (lv' := [(0, .ref l0), (1, .ref l1), (2, .int l2), (3, .int l3), (4, .int l4), (5, .int l5), (6, .int l6), (7, .int l7), (8, .int l8), (9, .int l9), (10, .int l10), (11, .int ((((ushI l6 (6 : Int32)) ||| (l6 <<< ((26 : Int32) &&& 31))) ^^^ ((ushI l6 (11 : Int32)) ||| (l6 <<< ((21 : Int32) &&& 31)))) ^^^ ((ushI l6 (25 : Int32)) ||| (l6 <<< ((7 : Int32) &&& 31))))), (12, .int ((((l9 + ((((ushI l6 (6 : Int32)) ||| (l6 <<< ((26 : Int32) &&& 31))) ^^^ ((ushI l6 (11 : Int32)) ||| (l6 <<< ((21 : Int32) &&& 31)))) ^^^ ((ushI l6 (25 : Int32)) ||| (l6 <<< ((7 : Int32) &&& 31))))) + ((l6 &&& l7) ^^^ ((l6 ^^^ (-1 : Int32)) &&& l8))) + v314) + v319)), (13, .int ((((ushI l2 (2 : Int32)) ||| (l2 <<< ((30 : Int32) &&& 31))) ^^^ ((ushI l2 (13 : Int32)) ||| (l2 <<< ((19 : Int32) &&& 31)))) ^^^ ((ushI l2 (22 : Int32)) ||| (l2 <<< ((10 : Int32) &&& 31)))))]) (by decide) [1, 2, 3, 4, 5, 6, 7, 8, 9, 10, 11, 12, 13, 0] rfl ?_
      refine ww_iload 353 X dX4_mix_353 13 rfl ?_
      refine ww_iload_n 355 X dX4_mix_355 2 rfl rfl ?_
      refine ww_iload_n 356 X dX4_mix_356 3 rfl rfl ?_
      refine ww_iand 357 X dX4_mix_357 ?_
      refine ww_iload_n 358 X dX4_mix_358 2 rfl rfl ?_
      refine ww_iload 359 X dX4_mix_359 4 rfl ?_
      refine ww_iand 361 X dX4_mix_361 ?_
      refine ww_ixor 362 X dX4_mix_362 ?_
      refine ww_iload_n 363 X dX4_mix_363 3 rfl rfl ?_
      refine ww_iload 364 X dX4_mix_364 4 rfl ?_
      refine ww_iand 366 X dX4_mix_366 ?_
      refine ww_ixor 367 X dX4_mix_367 ?_
      refine ww_iadd 368 X dX4_mix_368 ?_
      refine ww_istore 369 X dX4_mix_369 (lv' := [(0, .ref l0), (1, .ref l1), (2, .int l2), (3, .int l3), (4, .int l4), (5, .int l5), (6, .int l6), (7, .int l7), (8, .int l8), (9, .int l9), (10, .int l10), (11, .int ((((ushI l6 (6 : Int32)) ||| (l6 <<< ((26 : Int32) &&& 31))) ^^^ ((ushI l6 (11 : Int32)) ||| (l6 <<< ((21 : Int32) &&& 31)))) ^^^ ((ushI l6 (25 : Int32)) ||| (l6 <<< ((7 : Int32) &&& 31))))), (12, .int ((((l9 + ((((ushI l6 (6 : Int32)) ||| (l6 <<< ((26 : Int32) &&& 31))) ^^^ ((ushI l6 (11 : Int32)) ||| (l6 <<< ((21 : Int32) &&& 31)))) ^^^ ((ushI l6 (25 : Int32)) ||| (l6 <<< ((7 : Int32) &&& 31))))) + ((l6 &&& l7) ^^^ ((l6 ^^^ (-1 : Int32)) &&& l8))) + v314) + v319)), (13, .int ((((ushI l2 (2 : Int32)) ||| (l2 <<< ((30 : Int32) &&& 31))) ^^^ ((ushI l2 (13 : Int32)) ||| (l2 <<< ((19 : Int32) &&& 31)))) ^^^ ((ushI l2 (22 : Int32)) ||| (l2 <<< ((10 : Int32) &&& 31))))), (14, .int (((((ushI l2 (2 : Int32)) ||| (l2 <<< ((30 : Int32) &&& 31))) ^^^ ((ushI l2 (13 : Int32)) ||| (l2 <<< ((19 : Int32) &&& 31)))) ^^^ ((ushI l2 (22 : Int32)) ||| (l2 <<< ((10 : Int32) &&& 31)))) + (((l2 &&& l3) ^^^ (l2 &&& l4)) ^^^ (l3 &&& l4))))]) (by decide) [1, 2, 3, 4, 5, 6, 7, 8, 9, 10, 11, 12, 13, 14, 0] rfl ?_
      refine ww_iload 371 X dX4_mix_371 8 rfl ?_
      refine ww_istore 373 X dX4_mix_373 (lv' := [(0, .ref l0), (1, .ref l1), (2, .int l2), (3, .int l3), (4, .int l4), (5, .int l5), (6, .int l6), (7, .int l7), (8, .int l8), (9, .int l8), (10, .int l10), (11, .int ((((ushI l6 (6 : Int32)) ||| (l6 <<< ((26 : Int32) &&& 31))) ^^^ ((ushI l6 (11 : Int32)) ||| (l6 <<< ((21 : Int32) &&& 31)))) ^^^ ((ushI l6 (25 : Int32)) ||| (l6 <<< ((7 : Int32) &&& 31))))), (12, .int ((((l9 + ((((ushI l6 (6 : Int32)) ||| (l6 <<< ((26 : Int32) &&& 31))) ^^^ ((ushI l6 (11 : Int32)) ||| (l6 <<< ((21 : Int32) &&& 31)))) ^^^ ((ushI l6 (25 : Int32)) ||| (l6 <<< ((7 : Int32) &&& 31))))) + ((l6 &&& l7) ^^^ ((l6 ^^^ (-1 : Int32)) &&& l8))) + v314) + v319)), (13, .int ((((ushI l2 (2 : Int32)) ||| (l2 <<< ((30 : Int32) &&& 31))) ^^^ ((ushI l2 (13 : Int32)) ||| (l2 <<< ((19 : Int32) &&& 31)))) ^^^ ((ushI l2 (22 : Int32)) ||| (l2 <<< ((10 : Int32) &&& 31))))), (14, .int (((((ushI l2 (2 : Int32)) ||| (l2 <<< ((30 : Int32) &&& 31))) ^^^ ((ushI l2 (13 : Int32)) ||| (l2 <<< ((19 : Int32) &&& 31)))) ^^^ ((ushI l2 (22 : Int32)) ||| (l2 <<< ((10 : Int32) &&& 31)))) + (((l2 &&& l3) ^^^ (l2 &&& l4)) ^^^ (l3 &&& l4))))]) (by decide) [1, 2, 3, 4, 5, 6, 7, 8, 9, 0, 10, 11, 12, 13, 14] rfl ?_
      refine ww_iload 375 X dX4_mix_375 7 rfl ?_
      refine ww_istore 377 X dX4_mix_377 (lv' := [(0, .ref l0), (1, .ref l1), (2, .int l2), (3, .int l3), (4, .int l4), (5, .int l5), (6, .int l6), (7, .int l7), (8, .int l7), (9, .int l8), (10, .int l10), (11, .int ((((ushI l6 (6 : Int32)) ||| (l6 <<< ((26 : Int32) &&& 31))) ^^^ ((ushI l6 (11 : Int32)) ||| (l6 <<< ((21 : Int32) &&& 31)))) ^^^ ((ushI l6 (25 : Int32)) ||| (l6 <<< ((7 : Int32) &&& 31))))), (12, .int ((((l9 + ((((ushI l6 (6 : Int32)) ||| (l6 <<< ((26 : Int32) &&& 31))) ^^^ ((ushI l6 (11 : Int32)) ||| (l6 <<< ((21 : Int32) &&& 31)))) ^^^ ((ushI l6 (25 : Int32)) ||| (l6 <<< ((7 : Int32) &&& 31))))) + ((l6 &&& l7) ^^^ ((l6 ^^^ (-1 : Int32)) &&& l8))) + v314) + v319)), (13, .int ((((ushI l2 (2 : Int32)) ||| (l2 <<< ((30 : Int32) &&& 31))) ^^^ ((ushI l2 (13 : Int32)) ||| (l2 <<< ((19 : Int32) &&& 31)))) ^^^ ((ushI l2 (22 : Int32)) ||| (l2 <<< ((10 : Int32) &&& 31))))), (14, .int (((((ushI l2 (2 : Int32)) ||| (l2 <<< ((30 : Int32) &&& 31))) ^^^ ((ushI l2 (13 : Int32)) ||| (l2 <<< ((19 : Int32) &&& 31)))) ^^^ ((ushI l2 (22 : Int32)) ||| (l2 <<< ((10 : Int32) &&& 31)))) + (((l2 &&& l3) ^^^ (l2 &&& l4)) ^^^ (l3 &&& l4))))]) (by decide) [1, 2, 3, 4, 5, 6, 7, 8, 0, 9, 10, 11, 12, 13, 14] rfl ?_
      refine ww_iload 379 X dX4_mix_379 6 rfl ?_
      refine ww_istore 381 X dX4_mix_381 (lv' := [(0, .ref l0), (1, .ref l1), (2, .int l2), (3, .int l3), (4, .int l4), (5, .int l5), (6, .int l6), (7, .int l6), (8, .int l7), (9, .int l8), (10, .int l10), (11, .int ((((ushI l6 (6 : Int32)) ||| (l6 <<< ((26 : Int32) &&& 31))) ^^^ ((ushI l6 (11 : Int32)) ||| (l6 <<< ((21 : Int32) &&& 31)))) ^^^ ((ushI l6 (25 : Int32)) ||| (l6 <<< ((7 : Int32) &&& 31))))), (12, .int ((((l9 + ((((ushI l6 (6 : Int32)) ||| (l6 <<< ((26 : Int32) &&& 31))) ^^^ ((ushI l6 (11 : Int32)) ||| (l6 <<< ((21 : Int32) &&& 31)))) ^^^ ((ushI l6 (25 : Int32)) ||| (l6 <<< ((7 : Int32) &&& 31))))) + ((l6 &&& l7) ^^^ ((l6 ^^^ (-1 : Int32)) &&& l8))) + v314) + v319)), (13, .int ((((ushI l2 (2 : Int32)) ||| (l2 <<< ((30 : Int32) &&& 31))) ^^^ ((ushI l2 (13 : Int32)) ||| (l2 <<< ((19 : Int32) &&& 31)))) ^^^ ((ushI l2 (22 : Int32)) ||| (l2 <<< ((10 : Int32) &&& 31))))), (14, .int (((((ushI l2 (2 : Int32)) ||| (l2 <<< ((30 : Int32) &&& 31))) ^^^ ((ushI l2 (13 : Int32)) ||| (l2 <<< ((19 : Int32) &&& 31)))) ^^^ ((ushI l2 (22 : Int32)) ||| (l2 <<< ((10 : Int32) &&& 31)))) + (((l2 &&& l3) ^^^ (l2 &&& l4)) ^^^ (l3 &&& l4))))]) (by decide) [1, 2, 3, 4, 5, 6, 7, 0, 8, 9, 10, 11, 12, 13, 14] rfl ?_
      refine ww_iload 383 X dX4_mix_383 5 rfl ?_
      refine ww_iload 385 X dX4_mix_385 12 rfl ?_
      refine ww_iadd 387 X dX4_mix_387 ?_
      refine ww_istore 388 X dX4_mix_388 (lv' := [(0, .ref l0), (1, .ref l1), (2, .int l2), (3, .int l3), (4, .int l4), (5, .int l5), (6, .int (l5 + ((((l9 + ((((ushI l6 (6 : Int32)) ||| (l6 <<< ((26 : Int32) &&& 31))) ^^^ ((ushI l6 (11 : Int32)) ||| (l6 <<< ((21 : Int32) &&& 31)))) ^^^ ((ushI l6 (25 : Int32)) ||| (l6 <<< ((7 : Int32) &&& 31))))) + ((l6 &&& l7) ^^^ ((l6 ^^^ (-1 : Int32)) &&& l8))) + v314) + v319))), (7, .int l6), (8, .int l7), (9, .int l8), (10, .int l10), (11, .int ((((ushI l6 (6 : Int32)) ||| (l6 <<< ((26 : Int32) &&& 31))) ^^^ ((ushI l6 (11 : Int32)) ||| (l6 <<< ((21 : Int32) &&& 31)))) ^^^ ((ushI l6 (25 : Int32)) ||| (l6 <<< ((7 : Int32) &&& 31))))), (12, .int ((((l9 + ((((ushI l6 (6 : Int32)) ||| (l6 <<< ((26 : Int32) &&& 31))) ^^^ ((ushI l6 (11 : Int32)) ||| (l6 <<< ((21 : Int32) &&& 31)))) ^^^ ((ushI l6 (25 : Int32)) ||| (l6 <<< ((7 : Int32) &&& 31))))) + ((l6 &&& l7) ^^^ ((l6 ^^^ (-1 : Int32)) &&& l8))) + v314) + v319)), (13, .int ((((ushI l2 (2 : Int32)) ||| (l2 <<< ((30 : Int32) &&& 31))) ^^^ ((ushI l2 (13 : Int32)) ||| (l2 <<< ((19 : Int32) &&& 31)))) ^^^ ((ushI l2 (22 : Int32)) ||| (l2 <<< ((10 : Int32) &&& 31))))), (14, .int (((((ushI l2 (2 : Int32)) ||| (l2 <<< ((30 : Int32) &&& 31))) ^^^ ((ushI l2 (13 : Int32)) ||| (l2 <<< ((19 : Int32) &&& 31)))) ^^^ ((ushI l2 (22 : Int32)) ||| (l2 <<< ((10 : Int32) &&& 31)))) + (((l2 &&& l3) ^^^ (l2 &&& l4)) ^^^ (l3 &&& l4))))]) (by decide) [1, 2, 3, 4, 5, 6, 0, 7, 8, 9, 10, 11, 12, 13, 14] rfl ?_
      refine ww_iload 390 X dX4_mix_390 4 rfl ?_
      refine ww_istore 392 X dX4_mix_392 (lv' := [(0, .ref l0), (1, .ref l1), (2, .int l2), (3, .int l3), (4, .int l4), (5, .int l4), (6, .int (l5 + ((((l9 + ((((ushI l6 (6 : Int32)) ||| (l6 <<< ((26 : Int32) &&& 31))) ^^^ ((ushI l6 (11 : Int32)) ||| (l6 <<< ((21 : Int32) &&& 31)))) ^^^ ((ushI l6 (25 : Int32)) ||| (l6 <<< ((7 : Int32) &&& 31))))) + ((l6 &&& l7) ^^^ ((l6 ^^^ (-1 : Int32)) &&& l8))) + v314) + v319))), (7, .int l6), (8, .int l7), (9, .int l8), (10, .int l10), (11, .int ((((ushI l6 (6 : Int32)) ||| (l6 <<< ((26 : Int32) &&& 31))) ^^^ ((ushI l6 (11 : Int32)) ||| (l6 <<< ((21 : Int32) &&& 31)))) ^^^ ((ushI l6 (25 : Int32)) ||| (l6 <<< ((7 : Int32) &&& 31))))), (12, .int ((((l9 + ((((ushI l6 (6 : Int32)) ||| (l6 <<< ((26 : Int32) &&& 31))) ^^^ ((ushI l6 (11 : Int32)) ||| (l6 <<< ((21 : Int32) &&& 31)))) ^^^ ((ushI l6 (25 : Int32)) ||| (l6 <<< ((7 : Int32) &&& 31))))) + ((l6 &&& l7) ^^^ ((l6 ^^^ (-1 : Int32)) &&& l8))) + v314) + v319)), (13, .int ((((ushI l2 (2 : Int32)) ||| (l2 <<< ((30 : Int32) &&& 31))) ^^^ ((ushI l2 (13 : Int32)) ||| (l2 <<< ((19 : Int32) &&& 31)))) ^^^ ((ushI l2 (22 : Int32)) ||| (l2 <<< ((10 : Int32) &&& 31))))), (14, .int (((((ushI l2 (2 : Int32)) ||| (l2 <<< ((30 : Int32) &&& 31))) ^^^ ((ushI l2 (13 : Int32)) ||| (l2 <<< ((19 : Int32) &&& 31)))) ^^^ ((ushI l2 (22 : Int32)) ||| (l2 <<< ((10 : Int32) &&& 31)))) + (((l2 &&& l3) ^^^ (l2 &&& l4)) ^^^ (l3 &&& l4))))]) (by decide) [1, 2, 3, 4, 5, 0, 6, 7, 8, 9, 10, 11, 12, 13, 14] rfl ?_
      refine ww_iload_n 394 X dX4_mix_394 3 rfl rfl ?_
      refine ww_istore 395 X dX4_mix_395 (lv' := [(0, .ref l0), (1, .ref l1), (2, .int l2), (3, .int l3), (4, .int l3), (5, .int l4), (6, .int (l5 + ((((l9 + ((((ushI l6 (6 : Int32)) ||| (l6 <<< ((26 : Int32) &&& 31))) ^^^ ((ushI l6 (11 : Int32)) ||| (l6 <<< ((21 : Int32) &&& 31)))) ^^^ ((ushI l6 (25 : Int32)) ||| (l6 <<< ((7 : Int32) &&& 31))))) + ((l6 &&& l7) ^^^ ((l6 ^^^ (-1 : Int32)) &&& l8))) + v314) + v319))), (7, .int l6), (8, .int l7), (9, .int l8), (10, .int l10), (11, .int ((((ushI l6 (6 : Int32)) ||| (l6 <<< ((26 : Int32) &&& 31))) ^^^ ((ushI l6 (11 : Int32)) ||| (l6 <<< ((21 : Int32) &&& 31)))) ^^^ ((ushI l6 (25 : Int32)) ||| (l6 <<< ((7 : Int32) &&& 31))))), (12, .int ((((l9 + ((((ushI l6 (6 : Int32)) ||| (l6 <<< ((26 : Int32) &&& 31))) ^^^ ((ushI l6 (11 : Int32)) ||| (l6 <<< ((21 : Int32) &&& 31)))) ^^^ ((ushI l6 (25 : Int32)) ||| (l6 <<< ((7 : Int32) &&& 31))))) + ((l6 &&& l7) ^^^ ((l6 ^^^ (-1 : Int32)) &&& l8))) + v314) + v319)), (13, .int ((((ushI l2 (2 : Int32)) ||| (l2 <<< ((30 : Int32) &&& 31))) ^^^ ((ushI l2 (13 : Int32)) ||| (l2 <<< ((19 : Int32) &&& 31)))) ^^^ ((ushI l2 (22 : Int32)) ||| (l2 <<< ((10 : Int32) &&& 31))))), (14, .int (((((ushI l2 (2 : Int32)) ||| (l2 <<< ((30 : Int32) &&& 31))) ^^^ ((ushI l2 (13 : Int32)) ||| (l2 <<< ((19 : Int32) &&& 31)))) ^^^ ((ushI l2 (22 : Int32)) ||| (l2 <<< ((10 : Int32) &&& 31)))) + (((l2 &&& l3) ^^^ (l2 &&& l4)) ^^^ (l3 &&& l4))))]) (by decide) [1, 2, 3, 4, 0, 5, 6, 7, 8, 9, 10, 11, 12, 13, 14] rfl ?_
      refine ww_iload_n 397 X dX4_mix_397 2 rfl rfl ?_
      refine ww_istore_n 398 X dX4_mix_398 (lv' := [(0, .ref l0), (1, .ref l1), (2, .int l2), (3, .int l2), (4, .int l3), (5, .int l4), (6, .int (l5 + ((((l9 + ((((ushI l6 (6 : Int32)) ||| (l6 <<< ((26 : Int32) &&& 31))) ^^^ ((ushI l6 (11 : Int32)) ||| (l6 <<< ((21 : Int32) &&& 31)))) ^^^ ((ushI l6 (25 : Int32)) ||| (l6 <<< ((7 : Int32) &&& 31))))) + ((l6 &&& l7) ^^^ ((l6 ^^^ (-1 : Int32)) &&& l8))) + v314) + v319))), (7, .int l6), (8, .int l7), (9, .int l8), (10, .int l10), (11, .int ((((ushI l6 (6 : Int32)) ||| (l6 <<< ((26 : Int32) &&& 31))) ^^^ ((ushI l6 (11 : Int32)) ||| (l6 <<< ((21 : Int32) &&& 31)))) ^^^ ((ushI l6 (25 : Int32)) ||| (l6 <<< ((7 : Int32) &&& 31))))), (12, .int ((((l9 + ((((ushI l6 (6 : Int32)) ||| (l6 <<< ((26 : Int32) &&& 31))) ^^^ ((ushI l6 (11 : Int32)) ||| (l6 <<< ((21 : Int32) &&& 31)))) ^^^ ((ushI l6 (25 : Int32)) ||| (l6 <<< ((7 : Int32) &&& 31))))) + ((l6 &&& l7) ^^^ ((l6 ^^^ (-1 : Int32)) &&& l8))) + v314) + v319)), (13, .int ((((ushI l2 (2 : Int32)) ||| (l2 <<< ((30 : Int32) &&& 31))) ^^^ ((ushI l2 (13 : Int32)) ||| (l2 <<< ((19 : Int32) &&& 31)))) ^^^ ((ushI l2 (22 : Int32)) ||| (l2 <<< ((10 : Int32) &&& 31))))), (14, .int (((((ushI l2 (2 : Int32)) ||| (l2 <<< ((30 : Int32) &&& 31))) ^^^ ((ushI l2 (13 : Int32)) ||| (l2 <<< ((19 : Int32) &&& 31)))) ^^^ ((ushI l2 (22 : Int32)) ||| (l2 <<< ((10 : Int32) &&& 31)))) + (((l2 &&& l3) ^^^ (l2 &&& l4)) ^^^ (l3 &&& l4))))]) rfl (by decide) [1, 2, 3, 0, 4, 5, 6, 7, 8, 9, 10, 11, 12, 13, 14] rfl ?_
      refine ww_iload 399 X dX4_mix_399 12 rfl ?_
      refine ww_iload 401 X dX4_mix_401 14 rfl ?_
      refine ww_iadd 403 X dX4_mix_403 ?_
      refine ww_istore_n 404 X dX4_mix_404 (lv' := [(0, .ref l0), (1, .ref l1), (2, .int (((((l9 + ((((ushI l6 (6 : Int32)) ||| (l6 <<< ((26 : Int32) &&& 31))) ^^^ ((ushI l6 (11 : Int32)) ||| (l6 <<< ((21 : Int32) &&& 31)))) ^^^ ((ushI l6 (25 : Int32)) ||| (l6 <<< ((7 : Int32) &&& 31))))) + ((l6 &&& l7) ^^^ ((l6 ^^^ (-1 : Int32)) &&& l8))) + v314) + v319) + (((((ushI l2 (2 : Int32)) ||| (l2 <<< ((30 : Int32) &&& 31))) ^^^ ((ushI l2 (13 : Int32)) ||| (l2 <<< ((19 : Int32) &&& 31)))) ^^^ ((ushI l2 (22 : Int32)) ||| (l2 <<< ((10 : Int32) &&& 31)))) + (((l2 &&& l3) ^^^ (l2 &&& l4)) ^^^ (l3 &&& l4))))), (3, .int l2), (4, .int l3), (5, .int l4), (6, .int (l5 + ((((l9 + ((((ushI l6 (6 : Int32)) ||| (l6 <<< ((26 : Int32) &&& 31))) ^^^ ((ushI l6 (11 : Int32)) ||| (l6 <<< ((21 : Int32) &&& 31)))) ^^^ ((ushI l6 (25 : Int32)) ||| (l6 <<< ((7 : Int32) &&& 31))))) + ((l6 &&& l7) ^^^ ((l6 ^^^ (-1 : Int32)) &&& l8))) + v314) + v319))), (7, .int l6), (8, .int l7), (9, .int l8), (10, .int l10), (11, .int ((((ushI l6 (6 : Int32)) ||| (l6 <<< ((26 : Int32) &&& 31))) ^^^ ((ushI l6 (11 : Int32)) ||| (l6 <<< ((21 : Int32) &&& 31)))) ^^^ ((ushI l6 (25 : Int32)) ||| (l6 <<< ((7 : Int32) &&& 31))))), (12, .int ((((l9 + ((((ushI l6 (6 : Int32)) ||| (l6 <<< ((26 : Int32) &&& 31))) ^^^ ((ushI l6 (11 : Int32)) ||| (l6 <<< ((21 : Int32) &&& 31)))) ^^^ ((ushI l6 (25 : Int32)) ||| (l6 <<< ((7 : Int32) &&& 31))))) + ((l6 &&& l7) ^^^ ((l6 ^^^ (-1 : Int32)) &&& l8))) + v314) + v319)), (13, .int ((((ushI l2 (2 : Int32)) ||| (l2 <<< ((30 : Int32) &&& 31))) ^^^ ((ushI l2 (13 : Int32)) ||| (l2 <<< ((19 : Int32) &&& 31)))) ^^^ ((ushI l2 (22 : Int32)) ||| (l2 <<< ((10 : Int32) &&& 31))))), (14, .int (((((ushI l2 (2 : Int32)) ||| (l2 <<< ((30 : Int32) &&& 31))) ^^^ ((ushI l2 (13 : Int32)) ||| (l2 <<< ((19 : Int32) &&& 31)))) ^^^ ((ushI l2 (22 : Int32)) ||| (l2 <<< ((10 : Int32) &&& 31)))) + (((l2 &&& l3) ^^^ (l2 &&& l4)) ^^^ (l3 &&& l4))))]) rfl (by decide) [1, 2, 0, 3, 4, 5, 6, 7, 8, 9, 10, 11, 12, 13, 14] rfl ?_
      refine ww_iinc 405 X dX4_mix_405 (lv' := [(0, .ref l0), (1, .ref l1), (2, .int (((((l9 + ((((ushI l6 (6 : Int32)) ||| (l6 <<< ((26 : Int32) &&& 31))) ^^^ ((ushI l6 (11 : Int32)) ||| (l6 <<< ((21 : Int32) &&& 31)))) ^^^ ((ushI l6 (25 : Int32)) ||| (l6 <<< ((7 : Int32) &&& 31))))) + ((l6 &&& l7) ^^^ ((l6 ^^^ (-1 : Int32)) &&& l8))) + v314) + v319) + (((((ushI l2 (2 : Int32)) ||| (l2 <<< ((30 : Int32) &&& 31))) ^^^ ((ushI l2 (13 : Int32)) ||| (l2 <<< ((19 : Int32) &&& 31)))) ^^^ ((ushI l2 (22 : Int32)) ||| (l2 <<< ((10 : Int32) &&& 31)))) + (((l2 &&& l3) ^^^ (l2 &&& l4)) ^^^ (l3 &&& l4))))), (3, .int l2), (4, .int l3), (5, .int l4), (6, .int (l5 + ((((l9 + ((((ushI l6 (6 : Int32)) ||| (l6 <<< ((26 : Int32) &&& 31))) ^^^ ((ushI l6 (11 : Int32)) ||| (l6 <<< ((21 : Int32) &&& 31)))) ^^^ ((ushI l6 (25 : Int32)) ||| (l6 <<< ((7 : Int32) &&& 31))))) + ((l6 &&& l7) ^^^ ((l6 ^^^ (-1 : Int32)) &&& l8))) + v314) + v319))), (7, .int l6), (8, .int l7), (9, .int l8), (10, .int (l10 + 1)), (11, .int ((((ushI l6 (6 : Int32)) ||| (l6 <<< ((26 : Int32) &&& 31))) ^^^ ((ushI l6 (11 : Int32)) ||| (l6 <<< ((21 : Int32) &&& 31)))) ^^^ ((ushI l6 (25 : Int32)) ||| (l6 <<< ((7 : Int32) &&& 31))))), (12, .int ((((l9 + ((((ushI l6 (6 : Int32)) ||| (l6 <<< ((26 : Int32) &&& 31))) ^^^ ((ushI l6 (11 : Int32)) ||| (l6 <<< ((21 : Int32) &&& 31)))) ^^^ ((ushI l6 (25 : Int32)) ||| (l6 <<< ((7 : Int32) &&& 31))))) + ((l6 &&& l7) ^^^ ((l6 ^^^ (-1 : Int32)) &&& l8))) + v314) + v319)), (13, .int ((((ushI l2 (2 : Int32)) ||| (l2 <<< ((30 : Int32) &&& 31))) ^^^ ((ushI l2 (13 : Int32)) ||| (l2 <<< ((19 : Int32) &&& 31)))) ^^^ ((ushI l2 (22 : Int32)) ||| (l2 <<< ((10 : Int32) &&& 31))))), (14, .int (((((ushI l2 (2 : Int32)) ||| (l2 <<< ((30 : Int32) &&& 31))) ^^^ ((ushI l2 (13 : Int32)) ||| (l2 <<< ((19 : Int32) &&& 31)))) ^^^ ((ushI l2 (22 : Int32)) ||| (l2 <<< ((10 : Int32) &&& 31)))) + (((l2 &&& l3) ^^^ (l2 &&& l4)) ^^^ (l3 &&& l4))))]) 10 rfl rfl (by decide) [1, 2, 3, 4, 5, 6, 7, 8, 9, 10, 0, 11, 12, 13, 14] rfl ?_
      refine ww_goto 408 246 X dX4_mix_408 (by decide) ?_
      exact ww_sub [0, 1, 2, 3, 4, 5, 6, 7, 8, 9, 10] rfl (ih _ _ _ _ _ _ _ _ _ _ _ _ h)
set_option maxHeartbeats 4000000 in
set_option maxRecDepth 100000 in
theorem wB_X4_mix_75 {G : mG} {F : Nat} {x : mXT} {sz : Nat} {M0 : mM} (X : mCX G RX4 cX4_mix 15 none "mix" rmX4_mix x) (hQ : mQV x M0 (sz, 0, 0)) : ∀ (n : Nat) (l0 : Nat) (l1 : Nat) (l2 : Int32) (M : mM), B_X4_mix_75 G F n l0 l1 l2 M = some M0 → WW x (sz, 0, 0) M 75 [(0, .ref l0), (1, .ref l1), (2, .int l2)] [] := by
  intro n
  induction n with
  | zero =>
    intro l0 l1 l2 M h
    exact nomatch (show (none : Option mM) = some M0 from h)
  | succ n ih =>
    intro l0 l1 l2 M h
    rw [B_X4_mix_75] at h
    refine ww_iload_n 75 X dX4_mix_75 2 rfl rfl ?_
    refine ww_bipush 76 X (v := (64 : Int32)) dX4_mix_76 (by decide) ?_
    refine ww_icmp_ge 78 179 X dX4_mix_78 (by decide) (fun q => ?_) (fun q => ?_)
    · replace h := (if_pos q).symm.trans h
      refine ww_aload_n 179 X dX4_mix_179 0 rfl rfl ?_
      obtain ⟨v180, e180, h⟩ := bO_some h
      refine ww_getR 180 X dX4_mix_180 fG_X4_17 e180 ?_
      refine ww_iconst 183 X (v := (0 : Int32)) dX4_mix_183 (by decide) ?_
      obtain ⟨v184, e184, h⟩ := bO_some h
      refine ww_iald 184 X dX4_mix_184 e184 ?_
      refine ww_istore_n 185 X dX4_mix_185 (lv' := [(0, .ref l0), (1, .ref l1), (2, .int v184)]) rfl (by decide) [1, 2, 0] rfl ?_
      refine ww_aload_n 186 X dX4_mix_186 0 rfl rfl ?_
      obtain ⟨v187, e187, h⟩ := bO_some h
      refine ww_getR 187 X dX4_mix_187 fG_X4_17 e187 ?_
      refine ww_iconst 190 X (v := (1 : Int32)) dX4_mix_190 (by decide) ?_
      obtain ⟨v191, e191, h⟩ := bO_some h
      refine ww_iald 191 X dX4_mix_191 e191 ?_
      refine ww_istore_n 192 X dX4_mix_192 (lv' := [(0, .ref l0), (1, .ref l1), (2, .int v184), (3, .int v191)]) rfl (by decide) [1, 2, 3, 0] rfl ?_
      refine ww_aload_n 193 X dX4_mix_193 0 rfl rfl ?_
      obtain ⟨v194, e194, h⟩ := bO_some h
      refine ww_getR 194 X dX4_mix_194 fG_X4_17 e194 ?_
      refine ww_iconst 197 X (v := (2 : Int32)) dX4_mix_197 (by decide) ?_
      obtain ⟨v198, e198, h⟩ := bO_some h
      refine ww_iald 198 X dX4_mix_198 e198 ?_
      refine ww_istore 199 X dX4_mix_199 (lv' := [(0, .ref l0), (1, .ref l1), (2, .int v184), (3, .int v191), (4, .int v198)]) (by decide) [1, 2, 3, 4, 0] rfl ?_
      refine ww_aload_n 201 X dX4_mix_201 0 rfl rfl ?_
      obtain ⟨v202, e202, h⟩ := bO_some h
      refine ww_getR 202 X dX4_mix_202 fG_X4_17 e202 ?_
      refine ww_iconst 205 X (v := (3 : Int32)) dX4_mix_205 (by decide) ?_
      obtain ⟨v206, e206, h⟩ := bO_some h
      refine ww_iald 206 X dX4_mix_206 e206 ?_
      refine ww_istore 207 X dX4_mix_207 (lv' := [(0, .ref l0), (1, .ref l1), (2, .int v184), (3, .int v191), (4, .int v198), (5, .int v206)]) (by decide) [1, 2, 3, 4, 5, 0] rfl ?_
      refine ww_aload_n 209 X dX4_mix_209 0 rfl rfl ?_
      obtain ⟨v210, e210, h⟩ := bO_some h
      refine ww_getR 210 X dX4_mix_210 fG_X4_17 e210 ?_
      refine ww_iconst 213 X (v := (4 : Int32)) dX4_mix_213 (by decide) ?_
      obtain ⟨v214, e214, h⟩ := bO_some h
      refine ww_iald 214 X dX4_mix_214 e214 ?_
      refine ww_istore 215 X dX4_mix_215 (lv' := [(0, .ref l0), (1, .ref l1), (2, .int v184), (3, .int v191), (4, .int v198), (5, .int v206), (6, .int v214)]) (by decide) [1, 2, 3, 4, 5, 6, 0] rfl ?_
      refine ww_aload_n 217 X dX4_mix_217 0 rfl rfl ?_
      obtain ⟨v218, e218, h⟩ := bO_some h
      refine ww_getR 218 X dX4_mix_218 fG_X4_17 e218 ?_
      refine ww_iconst 221 X (v := (5 : Int32)) dX4_mix_221 (by decide) ?_
      obtain ⟨v222, e222, h⟩ := bO_some h
      refine ww_iald 222 X dX4_mix_222 e222 ?_
      refine ww_istore 223 X dX4_mix_223 (lv' := [(0, .ref l0), (1, .ref l1), (2, .int v184), (3, .int v191), (4, .int v198), (5, .int v206), (6, .int v214), (7, .int v222)]) (by decide) [1, 2, 3, 4, 5, 6, 7, 0] rfl ?_
      refine ww_aload_n 225 X dX4_mix_225 0 rfl rfl ?_
      obtain ⟨v226, e226, h⟩ := bO_some h
      refine ww_getR 226 X dX4_mix_226 fG_X4_17 e226 ?_
      refine ww_bipush 229 X (v := (6 : Int32)) dX4_mix_229 (by decide) ?_
      obtain ⟨v231, e231, h⟩ := bO_some h
      refine ww_iald 231 X dX4_mix_231 e231 ?_
      refine ww_istore 232 X dX4_mix_232 (lv' := [(0, .ref l0), (1, .ref l1), (2, .int v184), (3, .int v191), (4, .int v198), (5, .int v206), (6, .int v214), (7, .int v222), (8, .int v231)]) (by decide) [1, 2, 3, 4, 5, 6, 7, 8, 0] rfl ?_
      refine ww_aload_n 234 X dX4_mix_234 0 rfl rfl ?_
      obtain ⟨v235, e235, h⟩ := bO_some h
      refine ww_getR 235 X dX4_mix_235 fG_X4_17 e235 ?_
      refine ww_bipush 238 X (v := (7 : Int32)) dX4_mix_238 (by decide) ?_
      obtain ⟨v240, e240, h⟩ := bO_some h
      refine ww_iald 240 X dX4_mix_240 e240 ?_
      refine ww_istore 241 X dX4_mix_241 (lv' := [(0, .ref l0), (1, .ref l1), (2, .int v184), (3, .int v191), (4, .int v198), (5, .int v206), (6, .int v214), (7, .int v222), (8, .int v231), (9, .int v240)]) (by decide) [1, 2, 3, 4, 5, 6, 7, 8, 9, 0] rfl ?_
      refine ww_iconst 243 X (v := (0 : Int32)) dX4_mix_243 (by decide) ?_
      refine ww_istore 244 X dX4_mix_244 (lv' := [(0, .ref l0), (1, .ref l1), (2, .int v184), (3, .int v191), (4, .int v198), (5, .int v206), (6, .int v214), (7, .int v222), (8, .int v231), (9, .int v240), (10, .int (0 : Int32))]) (by decide) [1, 2, 3, 4, 5, 6, 7, 8, 9, 10, 0] rfl ?_
      exact (wB_X4_mix_246 X hQ F _ _ _ _ _ _ _ _ _ _ _ _ h)
    · replace h := (if_neg q).symm.trans h
      refine ww_aload_n 81 X dX4_mix_81 1 rfl rfl ?_
      refine ww_iload_n 82 X dX4_mix_82 2 rfl rfl ?_
      refine ww_bipush 83 X (v := (15 : Int32)) dX4_mix_83 (by decide) ?_
      refine ww_isub 85 X dX4_mix_85 ?_
      obtain ⟨v86, e86, h⟩ := bO_some h
      refine ww_iald 86 X dX4_mix_86 e86 ?_
      refine ww_istore_n 87 X dX4_mix_87 (lv' := [(0, .ref l0), (1, .ref l1), (2, .int l2), (3, .int v86)]) rfl (by decide) [1, 2, 3, 0] rfl ?_
      refine ww_aload_n 88 X dX4_mix_88 1 rfl rfl ?_
      refine ww_iload_n 89 X dX4_mix_89 2 rfl rfl ?_
      refine ww_iconst 90 X (v := (2 : Int32)) dX4_mix_90 (by decide) ?_
      refine ww_isub 91 X dX4_mix_91 ?_
      obtain ⟨v92, e92, h⟩ := bO_some h
      refine ww_iald 92 X dX4_mix_92 e92 ?_
      refine ww_istore 93 X dX4_mix_93 (lv' := [(0, .ref l0), (1, .ref l1), (2, .int l2), (3, .int v86), (4, .int v92)]) (by decide) [1, 2, 3, 4, 0] rfl ?_
      refine ww_iload_n 95 X dX4_mix_95 3 rfl rfl ?_
      refine ww_bipush 96 X (v := (7 : Int32)) dX4_mix_96 (by decide) ?_
      refine ww_iushr 98 X dX4_mix_98 ?_
      refine ww_iload_n 99 X dX4_mix_99 3 rfl rfl ?_
      refine ww_bipush 100 X (v := (25 : Int32)) dX4_mix_100 (by decide) ?_
      refine ww_ishl 102 X dX4_mix_102 ?_
      refine ww_ior 103 X dX4_mix_103 ?_
      refine ww_iload_n 104 X dX4_mix_104 3 rfl rfl ?_
      refine ww_bipush 105 X (v := (18 : Int32)) dX4_mix_105 (by decide) ?_
      refine ww_iushr 107 X dX4_mix_107 ?_
      refine ww_iload_n 108 X dX4_mix_108 3 rfl rfl ?_
      refine ww_bipush 109 X (v := (14 : Int32)) dX4_mix_109 (by decide) ?_
      refine ww_ishl 111 X dX4_mix_111 ?_
      refine ww_ior 112 X dX4_mix_112 ?_
      refine ww_ixor 113 X dX4_mix_113 ?_
      refine ww_iload_n 114 X dX4_mix_114 3 rfl rfl ?_
      refine ww_iconst 115 X (v := (3 : Int32)) dX4_mix_115 (by decide) ?_
      refine ww_iushr 116 X dX4_mix_116 ?_
      refine ww_ixor 117 X dX4_mix_117 ?_
      refine ww_istore 118 X dX4_mix_118 (lv' := [(0, .ref l0), (1, .ref l1), (2, .int l2), (3, .int v86), (4, .int v92), (5, .int ((((ushI v86 (7 : Int32)) ||| (v86 <<< ((25 : Int32) &&& 31))) ^^^ ((ushI v86 (18 : Int32)) ||| (v86 <<< ((14 : Int32) &&& 31)))) ^^^ (ushI v86 (3 : Int32))))]) (by decide) [1, 2, 3, 4, 5, 0] rfl ?_
      refine ww_iload 120 X dX4_mix_120 4 rfl ?_
      refine ww_bipush 122 X (v := (17 : Int32)) dX4_mix_122 (by decide) ?_
      refine ww_iushr 124 X dX4_mix_124 ?_
      refine ww_iload 125 X dX4_mix_125 4 rfl ?_
      refine ww_bipush 127 X (v := (15 : Int32)) dX4_mix_127 (by decide) ?_
      refine ww_ishl 129 X dX4_mix_129 ?_
      refine ww_ior 130 X dX4_mix_130 ?_
      refine ww_iload 131 X dX4_mix_131 4 rfl ?_
      refine ww_bipush 133 X (v := (19 : Int32)) dX4_mix_133 (by decide) ?_
      refine ww_iushr 135 X dX4_mix_135 ?_
      refine ww_iload 136 X dX4_mix_136 4 rfl ?_
      refine ww_bipush 138 X (v := (13 : Int32)) dX4_mix_138 (by decide) ?_
      refine ww_ishl 140 X dX4_mix_140 ?_
      refine ww_ior 141 X dX4_mix_141 ?_
      refine ww_ixor 142 X dX4_mix_142 ?_
      refine ww_iload 143 X dX4_mix_143 4 rfl ?_
      refine ww_bipush 145 X (v := (10 : Int32)) dX4_mix_145 (by decide) ?_
      refine ww_iushr 147 X dX4_mix_147 ?_
      refine ww_ixor 148 X dX4_mix_148 ?_
      refine ww_istore 149 X dX4_mix_149 (lv' := [(0, .ref l0), (1, .ref l1), (2, .int l2), (3, .int v86), (4, .int v92), (5, .int ((((ushI v86 (7 : Int32)) ||| (v86 <<< ((25 : Int32) &&& 31))) ^^^ ((ushI v86 (18 : Int32)) ||| (v86 <<< ((14 : Int32) &&& 31)))) ^^^ (ushI v86 (3 : Int32)))), (6, .int ((((ushI v92 (17 : Int32)) ||| (v92 <<< ((15 : Int32) &&& 31))) ^^^ ((ushI v92 (19 : Int32)) ||| (v92 <<< ((13 : Int32) &&& 31)))) ^^^ (ushI v92 (10 : Int32))))]) (by decide) [1, 2, 3, 4, 5, 6, 0] rfl ?_
      refine ww_aload_n 151 X dX4_mix_151 1 rfl rfl ?_
      refine ww_iload_n 152 X dX4_mix_152 2 rfl rfl ?_
      refine ww_aload_n 153 X dX4_mix_153 1 rfl rfl ?_
      refine ww_iload_n 154 X dX4_mix_154 2 rfl rfl ?_
      refine ww_bipush 155 X (v := (16 : Int32)) dX4_mix_155 (by decide) ?_
      refine ww_isub 157 X dX4_mix_157 ?_
      obtain ⟨v158, e158, h⟩ := bO_some h
      refine ww_iald 158 X dX4_mix_158 e158 ?_
      refine ww_iload 159 X dX4_mix_159 5 rfl ?_
      refine ww_iadd 161 X dX4_mix_161 ?_
      refine ww_aload_n 162 X dX4_mix_162 1 rfl rfl ?_
      refine ww_iload_n 163 X dX4_mix_163 2 rfl rfl ?_
      refine ww_bipush 164 X (v := (7 : Int32)) dX4_mix_164 (by decide) ?_
      refine ww_isub 166 X dX4_mix_166 ?_
      obtain ⟨v167, e167, h⟩ := bO_some h
      refine ww_iald 167 X dX4_mix_167 e167 ?_
      refine ww_iadd 168 X dX4_mix_168 ?_
      refine ww_iload 169 X dX4_mix_169 6 rfl ?_
      refine ww_iadd 171 X dX4_mix_171 ?_
      obtain ⟨M172, e172, h⟩ := bO_some h
      refine ww_iast 172 X dX4_mix_172 e172 ?_
      refine ww_iinc 173 X dX4_mix_173 (lv' := [(0, .ref l0), (1, .ref l1), (2, .int (l2 + 1)), (3, .int v86), (4, .int v92), (5, .int ((((ushI v86 (7 : Int32)) ||| (v86 <<< ((25 : Int32) &&& 31))) ^^^ ((ushI v86 (18 : Int32)) ||| (v86 <<< ((14 : Int32) &&& 31)))) ^^^ (ushI v86 (3 : Int32)))), (6, .int ((((ushI v92 (17 : Int32)) ||| (v92 <<< ((15 : Int32) &&& 31))) ^^^ ((ushI v92 (19 : Int32)) ||| (v92 <<< ((13 : Int32) &&& 31)))) ^^^ (ushI v92 (10 : Int32))))]) 2 rfl rfl (by decide) [1, 2, 0, 3, 4, 5, 6] rfl ?_
      refine ww_goto 176 75 X dX4_mix_176 (by decide) ?_
      exact ww_sub [0, 1, 2] rfl (ih _ _ _ _ h)
set_option maxHeartbeats 4000000 in
set_option maxRecDepth 100000 in
theorem wB_X4_mix_7 {G : mG} {F : Nat} {x : mXT} {sz : Nat} {M0 : mM} (X : mCX G RX4 cX4_mix 15 none "mix" rmX4_mix x) (hQ : mQV x M0 (sz, 0, 0)) : ∀ (n : Nat) (l0 : Nat) (l1 : Nat) (l2 : Int32) (M : mM), B_X4_mix_7 G F n l0 l1 l2 M = some M0 → WW x (sz, 0, 0) M 7 [(0, .ref l0), (1, .ref l1), (2, .int l2)] [] := by
  intro n
  induction n with
  | zero =>
    intro l0 l1 l2 M h
    exact nomatch (show (none : Option mM) = some M0 from h)
  | succ n ih =>
    intro l0 l1 l2 M h
    rw [B_X4_mix_7] at h
    refine ww_iload_n 7 X dX4_mix_7 2 rfl rfl ?_
    refine ww_bipush 8 X (v := (16 : Int32)) dX4_mix_8 (by decide) ?_
    refine ww_icmp_ge 10 72 X dX4_mix_10 (by decide) (fun q => ?_) (fun q => ?_)
    · replace h := (if_pos q).symm.trans h
      refine ww_bipush 72 X (v := (16 : Int32)) dX4_mix_72 (by decide) ?_
      refine ww_istore_n 74 X dX4_mix_74 (lv' := [(0, .ref l0), (1, .ref l1), (2, .int (16 : Int32))]) rfl (by decide) [1, 2, 0] rfl ?_
      exact (wB_X4_mix_75 X hQ F _ _ _ _ h)
    · replace h := (if_neg q).symm.trans h
      refine ww_aload_n 13 X dX4_mix_13 1 rfl rfl ?_
      refine ww_iload_n 14 X dX4_mix_14 2 rfl rfl ?_
      refine ww_aload_n 15 X dX4_mix_15 0 rfl rfl ?_
      obtain ⟨v16, e16, h⟩ := bO_some h
      refine ww_getR 16 X dX4_mix_16 fG_X4_13 e16 ?_
      refine ww_iconst 19 X (v := (4 : Int32)) dX4_mix_19 (by decide) ?_
      refine ww_iload_n 20 X dX4_mix_20 2 rfl rfl ?_
      refine ww_imul 21 X dX4_mix_21 ?_
      obtain ⟨v22, e22, h⟩ := bO_some h
      refine ww_iald 22 X dX4_mix_22 e22 ?_
      refine ww_bipush 23 X (v := (24 : Int32)) dX4_mix_23 (by decide) ?_
      refine ww_ishl 25 X dX4_mix_25 ?_
      refine ww_aload_n 26 X dX4_mix_26 0 rfl rfl ?_
      obtain ⟨v27, e27, h⟩ := bO_some h
      refine ww_getR 27 X dX4_mix_27 fG_X4_13 e27 ?_
      refine ww_iconst 30 X (v := (4 : Int32)) dX4_mix_30 (by decide) ?_
      refine ww_iload_n 31 X dX4_mix_31 2 rfl rfl ?_
      refine ww_imul 32 X dX4_mix_32 ?_
      refine ww_iconst 33 X (v := (1 : Int32)) dX4_mix_33 (by decide) ?_
      refine ww_iadd 34 X dX4_mix_34 ?_
      obtain ⟨v35, e35, h⟩ := bO_some h
      refine ww_iald 35 X dX4_mix_35 e35 ?_
      refine ww_bipush 36 X (v := (16 : Int32)) dX4_mix_36 (by decide) ?_
      refine ww_ishl 38 X dX4_mix_38 ?_
      refine ww_ior 39 X dX4_mix_39 ?_
      refine ww_aload_n 40 X dX4_mix_40 0 rfl rfl ?_
      obtain ⟨v41, e41, h⟩ := bO_some h
      refine ww_getR 41 X dX4_mix_41 fG_X4_13 e41 ?_
      refine ww_iconst 44 X (v := (4 : Int32)) dX4_mix_44 (by decide) ?_
      refine ww_iload_n 45 X dX4_mix_45 2 rfl rfl ?_
      refine ww_imul 46 X dX4_mix_46 ?_
      refine ww_iconst 47 X (v := (2 : Int32)) dX4_mix_47 (by decide) ?_
      refine ww_iadd 48 X dX4_mix_48 ?_
      obtain ⟨v49, e49, h⟩ := bO_some h
      refine ww_iald 49 X dX4_mix_49 e49 ?_
      refine ww_bipush 50 X (v := (8 : Int32)) dX4_mix_50 (by decide) ?_
      refine ww_ishl 52 X dX4_mix_52 ?_
      refine ww_ior 53 X dX4_mix_53 ?_
      refine ww_aload_n 54 X dX4_mix_54 0 rfl rfl ?_
      obtain ⟨v55, e55, h⟩ := bO_some h
      refine ww_getR 55 X dX4_mix_55 fG_X4_13 e55 ?_
      refine ww_iconst 58 X (v := (4 : Int32)) dX4_mix_58 (by decide) ?_
      refine ww_iload_n 59 X dX4_mix_59 2 rfl rfl ?_
      refine ww_imul 60 X dX4_mix_60 ?_
      refine ww_iconst 61 X (v := (3 : Int32)) dX4_mix_61 (by decide) ?_
      refine ww_iadd 62 X dX4_mix_62 ?_
      obtain ⟨v63, e63, h⟩ := bO_some h
      refine ww_iald 63 X dX4_mix_63 e63 ?_
      refine ww_ior 64 X dX4_mix_64 ?_
      obtain ⟨M65, e65, h⟩ := bO_some h
      refine ww_iast 65 X dX4_mix_65 e65 ?_
      refine ww_iinc 66 X dX4_mix_66 (lv' := [(0, .ref l0), (1, .ref l1), (2, .int (l2 + 1))]) 2 rfl rfl (by decide) [1, 2, 0] rfl ?_
      refine ww_goto 69 7 X dX4_mix_69 (by decide) ?_
      exact (ih _ _ _ _ h)
set_option maxHeartbeats 4000000 in
set_option maxRecDepth 100000 in
theorem wP_X4_mix {G : mG} {F : Nat} {x : mXT} {sz : Nat} {M0 : mM} (X : mCX G RX4 cX4_mix 15 none "mix" rmX4_mix x) (hQ : mQV x M0 (sz, 0, 0)) {l0 : Nat} {M : mM} (h : P_X4_mix G F l0 M = some M0) : WW x (sz, 0, 0) M 0 [(0, .ref l0)] [] := by
  unfold P_X4_mix at h
  refine ww_aload_n 0 X dX4_mix_0 0 rfl rfl ?_
  obtain ⟨v1, e1, h⟩ := bO_some h
  refine ww_getR 1 X dX4_mix_1 fG_X4_20 e1 ?_
  refine ww_astore_n 4 X dX4_mix_4 (lv' := [(0, .ref l0), (1, .ref v1)]) rfl (by decide) [1, 0] rfl ?_
  refine ww_iconst 5 X (v := (0 : Int32)) dX4_mix_5 (by decide) ?_
  refine ww_istore_n 6 X dX4_mix_6 (lv' := [(0, .ref l0), (1, .ref v1), (2, .int (0 : Int32))]) rfl (by decide) [1, 2, 0] rfl ?_
  exact (wB_X4_mix_7 X hQ F _ _ _ _ h)
theorem c_X4_mix {G : mG} {F sz : Nat} {M0 : mM} (l : Launch) (D : mD) (A : Nat → Prop) {l0 : Nat} {M : mM} (h : P_X4_mix G F l0 M = some M0) : mMetV l D G A yX4_mix cX4_mix 15 none 0 0 0 0 [.ref l0] M sz M0 sz := mMetV_of l D G A (by decide) (Nat.le_of_ble_eq_true rfl) (fun x X hQ => wP_X4_mix X hQ h)
/-! SealedTokens$Digest.addByte(I)V -/
theorem dX4_addByte_0 : decode cX4_addByte 0 = .ok (.aload_n 0, 1) := by decide +kernel
theorem dX4_addByte_1 : decode cX4_addByte 1 = .ok (.getfield 13, 3) := by decide +kernel
theorem dX4_addByte_4 : decode cX4_addByte 4 = .ok (.aload_n 0, 1) := by decide +kernel
theorem dX4_addByte_5 : decode cX4_addByte 5 = .ok (.getfield 46, 3) := by decide +kernel
theorem dX4_addByte_8 : decode cX4_addByte 8 = .ok (.iload_n 1, 1) := by decide +kernel
theorem dX4_addByte_9 : decode cX4_addByte 9 = .ok (.iastore, 1) := by decide +kernel
theorem dX4_addByte_10 : decode cX4_addByte 10 = .ok (.aload_n 0, 1) := by decide +kernel
theorem dX4_addByte_11 : decode cX4_addByte 11 = .ok (.dup, 1) := by decide +kernel
theorem dX4_addByte_12 : decode cX4_addByte 12 = .ok (.getfield 46, 3) := by decide +kernel
theorem dX4_addByte_15 : decode cX4_addByte 15 = .ok (.iconst 1, 1) := by decide +kernel
theorem dX4_addByte_16 : decode cX4_addByte 16 = .ok (.iadd, 1) := by decide +kernel
theorem dX4_addByte_17 : decode cX4_addByte 17 = .ok (.putfield 46, 3) := by decide +kernel
theorem dX4_addByte_20 : decode cX4_addByte 20 = .ok (.aload_n 0, 1) := by decide +kernel
theorem dX4_addByte_21 : decode cX4_addByte 21 = .ok (.dup, 1) := by decide +kernel
theorem dX4_addByte_22 : decode cX4_addByte 22 = .ok (.getfield 49, 3) := by decide +kernel
theorem dX4_addByte_25 : decode cX4_addByte 25 = .ok (.iconst 1, 1) := by decide +kernel
theorem dX4_addByte_26 : decode cX4_addByte 26 = .ok (.iadd, 1) := by decide +kernel
theorem dX4_addByte_27 : decode cX4_addByte 27 = .ok (.putfield 49, 3) := by decide +kernel
theorem dX4_addByte_30 : decode cX4_addByte 30 = .ok (.aload_n 0, 1) := by decide +kernel
theorem dX4_addByte_31 : decode cX4_addByte 31 = .ok (.getfield 46, 3) := by decide +kernel
theorem dX4_addByte_34 : decode cX4_addByte 34 = .ok (.aload_n 0, 1) := by decide +kernel
theorem dX4_addByte_35 : decode cX4_addByte 35 = .ok (.getfield 7, 3) := by decide +kernel
theorem dX4_addByte_38 : decode cX4_addByte 38 = .ok (.if_icmp .lt 26, 3) := by decide +kernel
theorem dX4_addByte_41 : decode cX4_addByte 41 = .ok (.aload_n 0, 1) := by decide +kernel
theorem dX4_addByte_42 : decode cX4_addByte 42 = .ok (.iconst 0, 1) := by decide +kernel
theorem dX4_addByte_43 : decode cX4_addByte 43 = .ok (.putfield 46, 3) := by decide +kernel
theorem dX4_addByte_46 : decode cX4_addByte 46 = .ok (.aload_n 0, 1) := by decide +kernel
theorem dX4_addByte_47 : decode cX4_addByte 47 = .ok (.getfield 42, 3) := by decide +kernel
theorem dX4_addByte_50 : decode cX4_addByte 50 = .ok (.ifCond .eq 10, 3) := by decide +kernel
theorem dX4_addByte_53 : decode cX4_addByte 53 = .ok (.aload_n 0, 1) := by decide +kernel
theorem dX4_addByte_54 : decode cX4_addByte 54 = .ok (.invokevirtual 71, 3) := by decide +kernel
theorem dX4_addByte_57 : decode cX4_addByte 57 = .ok (.goto 7, 3) := by decide +kernel
theorem dX4_addByte_60 : decode cX4_addByte 60 = .ok (.aload_n 0, 1) := by decide +kernel
theorem dX4_addByte_61 : decode cX4_addByte 61 = .ok (.invokevirtual 74, 3) := by decide +kernel
theorem dX4_addByte_64 : decode cX4_addByte 64 = .ok (.return_, 1) := by decide +kernel
abbrev rmX4_addByte : Room := { frames := 1, cells := 0, slots := 0, locals := 46 }
set_option maxHeartbeats 4000000 in
set_option maxRecDepth 100000 in
theorem wP_X4_addByte {G : mG} {F : Nat} {x : mXT} {sz : Nat} {M0 : mM} (X : mCX G RX4 cX4_addByte 2 none "addByte" rmX4_addByte x) (hQ : mQV x M0 (sz, 0, 0)) {l0 : Nat} {l1 : Int32} {M : mM} (h : P_X4_addByte G F l0 l1 M = some M0) : WW x (sz, 0, 0) M 0 [(0, .ref l0), (1, .int l1)] [] := by
  unfold P_X4_addByte at h
  refine ww_aload_n 0 X dX4_addByte_0 0 rfl rfl ?_
  obtain ⟨v1, e1, h⟩ := bO_some h
  refine ww_getR 1 X dX4_addByte_1 fG_X4_13 e1 ?_
  refine ww_aload_n 4 X dX4_addByte_4 0 rfl rfl ?_
  obtain ⟨v5, e5, h⟩ := bO_some h
  refine ww_getI 5 X dX4_addByte_5 fG_X4_46 e5 ?_
  refine ww_iload_n 8 X dX4_addByte_8 1 rfl rfl ?_
  obtain ⟨M9, e9, h⟩ := bO_some h
  refine ww_iast 9 X dX4_addByte_9 e9 ?_
  refine ww_aload_n 10 X dX4_addByte_10 0 rfl rfl ?_
  refine ww_dup 11 X dX4_addByte_11 rfl ?_
  obtain ⟨v12, e12, h⟩ := bO_some h
  refine ww_getI 12 X dX4_addByte_12 fG_X4_46 e12 ?_
  refine ww_iconst 15 X (v := (1 : Int32)) dX4_addByte_15 (by decide) ?_
  refine ww_iadd 16 X dX4_addByte_16 ?_
  obtain ⟨M17, e17, h⟩ := bO_some h
  refine ww_putI 17 X dX4_addByte_17 (fP_X4_46 _) e17 ?_
  refine ww_aload_n 20 X dX4_addByte_20 0 rfl rfl ?_
  refine ww_dup 21 X dX4_addByte_21 rfl ?_
  obtain ⟨v22, e22, h⟩ := bO_some h
  refine ww_getI 22 X dX4_addByte_22 fG_X4_49 e22 ?_
  refine ww_iconst 25 X (v := (1 : Int32)) dX4_addByte_25 (by decide) ?_
  refine ww_iadd 26 X dX4_addByte_26 ?_
  obtain ⟨M27, e27, h⟩ := bO_some h
  refine ww_putI 27 X dX4_addByte_27 (fP_X4_49 _) e27 ?_
  refine ww_aload_n 30 X dX4_addByte_30 0 rfl rfl ?_
  obtain ⟨v31, e31, h⟩ := bO_some h
  refine ww_getI 31 X dX4_addByte_31 fG_X4_46 e31 ?_
  refine ww_aload_n 34 X dX4_addByte_34 0 rfl rfl ?_
  obtain ⟨v35, e35, h⟩ := bO_some h
  refine ww_getI 35 X dX4_addByte_35 fG_X4_7 e35 ?_
  refine ww_icmp_lt 38 64 X dX4_addByte_38 (by decide) (fun q => ?_) (fun q => ?_)
  · replace h := (if_pos q).symm.trans h
    exact ww_vretE 64 X hQ dX4_addByte_64 h
  · replace h := (if_neg q).symm.trans h
    refine ww_aload_n 41 X dX4_addByte_41 0 rfl rfl ?_
    refine ww_iconst 42 X (v := (0 : Int32)) dX4_addByte_42 (by decide) ?_
    obtain ⟨M43, e43, h⟩ := bO_some h
    refine ww_putI 43 X dX4_addByte_43 (fP_X4_46 _) e43 ?_
    refine ww_aload_n 46 X dX4_addByte_46 0 rfl rfl ?_
    obtain ⟨v47, e47, h⟩ := bO_some h
    refine ww_getI 47 X dX4_addByte_47 fG_X4_42 e47 ?_
    refine ww_if_eq 50 60 X dX4_addByte_50 (by decide) (fun q => ?_) (fun q => ?_)
    · replace h := (if_pos q).symm.trans h
      refine ww_aload_n 60 X dX4_addByte_60 0 rfl rfl ?_
      obtain ⟨_, f61, h⟩ := bO_some h
      obtain ⟨M61, e61, h⟩ := bO_some h
      refine ww_callVV0 61 X dX4_addByte_61 mY_X4_mix mL_X4_74 (rcv_spec f61) ⟨_, _, rfl⟩ (by decide) (As := []) (rest := []) rfl rfl ⟨Nat.le_of_ble_eq_true rfl, Nat.le_of_ble_eq_true rfl⟩ (Nat.le_of_ble_eq_true rfl) (fun l D A => c_X4_mix l D A e61) ?_
      exact ww_vretE 64 X hQ dX4_addByte_64 h
    · replace h := (if_neg q).symm.trans h
      refine ww_aload_n 53 X dX4_addByte_53 0 rfl rfl ?_
      obtain ⟨_, f54, h⟩ := bO_some h
      obtain ⟨M54, e54, h⟩ := bO_some h
      refine ww_callVV0 54 X dX4_addByte_54 mY_X4_mixWide mL_X4_71 (rcv_spec f54) ⟨_, _, rfl⟩ (by decide) (As := []) (rest := []) rfl rfl ⟨Nat.le_of_ble_eq_true rfl, Nat.le_of_ble_eq_true rfl⟩ (Nat.le_of_ble_eq_true rfl) (fun l D A => c_X4_mixWide l D A e54) ?_
      refine ww_goto 57 64 X dX4_addByte_57 (by decide) ?_
      exact ww_vretE 64 X hQ dX4_addByte_64 h
theorem c_X4_addByte {G : mG} {F sz : Nat} {M0 : mM} (l : Launch) (D : mD) (A : Nat → Prop) {l0 : Nat} {l1 : Int32} {M : mM} (h : P_X4_addByte G F l0 l1 M = some M0) : mMetV l D G A yX4_addByte cX4_addByte 2 none 1 46 0 0 [.ref l0, .int l1] M sz M0 sz := mMetV_of l D G A (by decide) (Nat.le_of_ble_eq_true rfl) (fun x X hQ => wP_X4_addByte X hQ h)
/-! SealedTokens$Digest.add(LSealedTokens$Bytes;II)V -/
theorem dX4_add_0 : decode cX4_add 0 = .ok (.iload_n 2, 1) := by decide +kernel
theorem dX4_add_1 : decode cX4_add 1 = .ok (.istore 4, 2) := by decide +kernel
theorem dX4_add_3 : decode cX4_add 3 = .ok (.iload 4, 2) := by decide +kernel
theorem dX4_add_5 : decode cX4_add 5 = .ok (.iload_n 3, 1) := by decide +kernel
theorem dX4_add_6 : decode cX4_add 6 = .ok (.if_icmp .ge 19, 3) := by decide +kernel
theorem dX4_add_9 : decode cX4_add 9 = .ok (.aload_n 0, 1) := by decide +kernel
theorem dX4_add_10 : decode cX4_add 10 = .ok (.aload_n 1, 1) := by decide +kernel
theorem dX4_add_11 : decode cX4_add 11 = .ok (.iload 4, 2) := by decide +kernel
theorem dX4_add_13 : decode cX4_add 13 = .ok (.invokevirtual 64, 3) := by decide +kernel
theorem dX4_add_16 : decode cX4_add 16 = .ok (.invokevirtual 68, 3) := by decide +kernel
theorem dX4_add_19 : decode cX4_add 19 = .ok (.iinc 4 1, 3) := by decide +kernel
theorem dX4_add_22 : decode cX4_add 22 = .ok (.goto (-19), 3) := by decide +kernel
theorem dX4_add_25 : decode cX4_add 25 = .ok (.return_, 1) := by decide +kernel
abbrev rmX4_add : Room := { frames := 2, cells := 0, slots := 0, locals := 67 }
set_option maxHeartbeats 4000000 in
set_option maxRecDepth 100000 in
theorem wB_X4_add_3 {G : mG} {F : Nat} {x : mXT} {sz : Nat} {M0 : mM} (X : mCX G RX4 cX4_add 5 none "add" rmX4_add x) (hQ : mQV x M0 (sz, 0, 0)) : ∀ (n : Nat) (l0 : Nat) (l1 : Nat) (l3 : Int32) (l4 : Int32) (M : mM), B_X4_add_3 G F n l0 l1 l3 l4 M = some M0 → WW x (sz, 0, 0) M 3 [(0, .ref l0), (1, .ref l1), (3, .int l3), (4, .int l4)] [] := by
  intro n
  induction n with
  | zero =>
    intro l0 l1 l3 l4 M h
    exact nomatch (show (none : Option mM) = some M0 from h)
  | succ n ih =>
    intro l0 l1 l3 l4 M h
    rw [B_X4_add_3] at h
    refine ww_iload 3 X dX4_add_3 3 rfl ?_
    refine ww_iload_n 5 X dX4_add_5 2 rfl rfl ?_
    refine ww_icmp_ge 6 25 X dX4_add_6 (by decide) (fun q => ?_) (fun q => ?_)
    · replace h := (if_pos q).symm.trans h
      exact ww_vretE 25 X hQ dX4_add_25 h
    · replace h := (if_neg q).symm.trans h
      refine ww_aload_n 9 X dX4_add_9 0 rfl rfl ?_
      refine ww_aload_n 10 X dX4_add_10 1 rfl rfl ?_
      refine ww_iload 11 X dX4_add_11 3 rfl ?_
      obtain ⟨_, f13, h⟩ := bO_some h
      obtain ⟨v13, M13, e13, h⟩ := bP_some h
      refine ww_callVI0 13 X dX4_add_13 mY_X0_get mL_X4_64 (rcv_spec f13) ⟨_, _, rfl⟩ (by decide) (As := [.int l4]) (rest := [.ref l0]) rfl rfl ⟨Nat.le_of_ble_eq_true rfl, Nat.le_of_ble_eq_true rfl⟩ (Nat.le_of_ble_eq_true rfl) (fun l D A => c_X0_get l D A e13) ?_
      obtain ⟨_, f16, h⟩ := bO_some h
      obtain ⟨M16, e16, h⟩ := bO_some h
      refine ww_callVV0 16 X dX4_add_16 mY_X4_addByte mL_X4_68 (rcv_spec f16) ⟨_, _, rfl⟩ (by decide) (As := [.int v13]) (rest := []) rfl rfl ⟨Nat.le_of_ble_eq_true rfl, Nat.le_of_ble_eq_true rfl⟩ (Nat.le_of_ble_eq_true rfl) (fun l D A => c_X4_addByte l D A e16) ?_
      refine ww_iinc 19 X dX4_add_19 (lv' := [(0, .ref l0), (1, .ref l1), (3, .int l3), (4, .int (l4 + 1))]) 3 rfl rfl (by decide) [1, 2, 3, 0] rfl ?_
      refine ww_goto 22 3 X dX4_add_22 (by decide) ?_
      exact (ih _ _ _ _ _ h)
set_option maxHeartbeats 4000000 in
set_option maxRecDepth 100000 in
theorem wP_X4_add {G : mG} {F : Nat} {x : mXT} {sz : Nat} {M0 : mM} (X : mCX G RX4 cX4_add 5 none "add" rmX4_add x) (hQ : mQV x M0 (sz, 0, 0)) {l0 : Nat} {l1 : Nat} {l2 : Int32} {l3 : Int32} {M : mM} (h : P_X4_add G F l0 l1 l2 l3 M = some M0) : WW x (sz, 0, 0) M 0 [(0, .ref l0), (1, .ref l1), (2, .int l2), (3, .int l3)] [] := by
  unfold P_X4_add at h
  refine ww_iload_n 0 X dX4_add_0 2 rfl rfl ?_
  refine ww_istore 1 X dX4_add_1 (lv' := [(0, .ref l0), (1, .ref l1), (2, .int l2), (3, .int l3), (4, .int l2)]) (by decide) [1, 2, 3, 4, 0] rfl ?_
  exact ww_sub [0, 1, 3, 4] rfl (wB_X4_add_3 X hQ F _ _ _ _ _ h)
theorem c_X4_add {G : mG} {F sz : Nat} {M0 : mM} (l : Launch) (D : mD) (A : Nat → Prop) {l0 : Nat} {l1 : Nat} {l2 : Int32} {l3 : Int32} {M : mM} (h : P_X4_add G F l0 l1 l2 l3 M = some M0) : mMetV l D G A yX4_add cX4_add 5 none 2 67 0 0 [.ref l0, .ref l1, .int l2, .int l3] M sz M0 sz := mMetV_of l D G A (by decide) (Nat.le_of_ble_eq_true rfl) (fun x X hQ => wP_X4_add X hQ h)
/-! SealedTokens$Digest.finish(LSealedTokens$Bytes;)V -/
theorem dX4_finish_0 : decode cX4_finish 0 = .ok (.bipush 8, 2) := by decide +kernel
theorem dX4_finish_2 : decode cX4_finish 2 = .ok (.aload_n 0, 1) := by decide +kernel
theorem dX4_finish_3 : decode cX4_finish 3 = .ok (.getfield 49, 3) := by decide +kernel
theorem dX4_finish_6 : decode cX4_finish 6 = .ok (.imul, 1) := by decide +kernel
theorem dX4_finish_7 : decode cX4_finish 7 = .ok (.istore_n 2, 1) := by decide +kernel
theorem dX4_finish_8 : decode cX4_finish 8 = .ok (.aload_n 0, 1) := by decide +kernel
theorem dX4_finish_9 : decode cX4_finish 9 = .ok (.getfield 42, 3) := by decide +kernel
theorem dX4_finish_12 : decode cX4_finish 12 = .ok (.ifCond .eq 8, 3) := by decide +kernel
theorem dX4_finish_15 : decode cX4_finish 15 = .ok (.bipush 16, 2) := by decide +kernel
theorem dX4_finish_17 : decode cX4_finish 17 = .ok (.goto 5, 3) := by decide +kernel
theorem dX4_finish_20 : decode cX4_finish 20 = .ok (.bipush 8, 2) := by decide +kernel
theorem dX4_finish_22 : decode cX4_finish 22 = .ok (.istore_n 3, 1) := by decide +kernel
theorem dX4_finish_23 : decode cX4_finish 23 = .ok (.aload_n 0, 1) := by decide +kernel
theorem dX4_finish_24 : decode cX4_finish 24 = .ok (.sipush 128, 3) := by decide +kernel
theorem dX4_finish_27 : decode cX4_finish 27 = .ok (.invokevirtual 68, 3) := by decide +kernel
theorem dX4_finish_30 : decode cX4_finish 30 = .ok (.iconst 0, 1) := by decide +kernel
theorem dX4_finish_31 : decode cX4_finish 31 = .ok (.istore 4, 2) := by decide +kernel
theorem dX4_finish_33 : decode cX4_finish 33 = .ok (.iload 4, 2) := by decide +kernel
theorem dX4_finish_35 : decode cX4_finish 35 = .ok (.sipush 128, 3) := by decide +kernel
theorem dX4_finish_38 : decode cX4_finish 38 = .ok (.if_icmp .ge 27, 3) := by decide +kernel
theorem dX4_finish_41 : decode cX4_finish 41 = .ok (.aload_n 0, 1) := by decide +kernel
theorem dX4_finish_42 : decode cX4_finish 42 = .ok (.getfield 46, 3) := by decide +kernel
theorem dX4_finish_45 : decode cX4_finish 45 = .ok (.aload_n 0, 1) := by decide +kernel
theorem dX4_finish_46 : decode cX4_finish 46 = .ok (.getfield 7, 3) := by decide +kernel
theorem dX4_finish_49 : decode cX4_finish 49 = .ok (.iload_n 3, 1) := by decide +kernel
theorem dX4_finish_50 : decode cX4_finish 50 = .ok (.isub, 1) := by decide +kernel
theorem dX4_finish_51 : decode cX4_finish 51 = .ok (.if_icmp .eq 14, 3) := by decide +kernel
theorem dX4_finish_54 : decode cX4_finish 54 = .ok (.aload_n 0, 1) := by decide +kernel
theorem dX4_finish_55 : decode cX4_finish 55 = .ok (.iconst 0, 1) := by decide +kernel
theorem dX4_finish_56 : decode cX4_finish 56 = .ok (.invokevirtual 68, 3) := by decide +kernel
theorem dX4_finish_59 : decode cX4_finish 59 = .ok (.iinc 4 1, 3) := by decide +kernel
theorem dX4_finish_62 : decode cX4_finish 62 = .ok (.goto (-29), 3) := by decide +kernel
theorem dX4_finish_65 : decode cX4_finish 65 = .ok (.iload_n 3, 1) := by decide +kernel
theorem dX4_finish_66 : decode cX4_finish 66 = .ok (.iconst 1, 1) := by decide +kernel
theorem dX4_finish_67 : decode cX4_finish 67 = .ok (.isub, 1) := by decide +kernel
theorem dX4_finish_68 : decode cX4_finish 68 = .ok (.istore 4, 2) := by decide +kernel
theorem dX4_finish_70 : decode cX4_finish 70 = .ok (.iload 4, 2) := by decide +kernel
theorem dX4_finish_72 : decode cX4_finish 72 = .ok (.ifCond .lt 34, 3) := by decide +kernel
theorem dX4_finish_75 : decode cX4_finish 75 = .ok (.aload_n 0, 1) := by decide +kernel
theorem dX4_finish_76 : decode cX4_finish 76 = .ok (.iload 4, 2) := by decide +kernel
theorem dX4_finish_78 : decode cX4_finish 78 = .ok (.iconst 4, 1) := by decide +kernel
theorem dX4_finish_79 : decode cX4_finish 79 = .ok (.if_icmp .ge 17, 3) := by decide +kernel
theorem dX4_finish_82 : decode cX4_finish 82 = .ok (.iload_n 2, 1) := by decide +kernel
theorem dX4_finish_83 : decode cX4_finish 83 = .ok (.bipush 8, 2) := by decide +kernel
theorem dX4_finish_85 : decode cX4_finish 85 = .ok (.iload 4, 2) := by decide +kernel
theorem dX4_finish_87 : decode cX4_finish 87 = .ok (.imul, 1) := by decide +kernel
theorem dX4_finish_88 : decode cX4_finish 88 = .ok (.iushr, 1) := by decide +kernel
theorem dX4_finish_89 : decode cX4_finish 89 = .ok (.sipush 255, 3) := by decide +kernel
theorem dX4_finish_92 : decode cX4_finish 92 = .ok (.iand, 1) := by decide +kernel
theorem dX4_finish_93 : decode cX4_finish 93 = .ok (.goto 4, 3) := by decide +kernel
theorem dX4_finish_96 : decode cX4_finish 96 = .ok (.iconst 0, 1) := by decide +kernel
theorem dX4_finish_97 : decode cX4_finish 97 = .ok (.invokevirtual 68, 3) := by decide +kernel
theorem dX4_finish_100 : decode cX4_finish 100 = .ok (.iinc 4 (-1), 3) := by decide +kernel
theorem dX4_finish_103 : decode cX4_finish 103 = .ok (.goto (-33), 3) := by decide +kernel
theorem dX4_finish_106 : decode cX4_finish 106 = .ok (.iconst 0, 1) := by decide +kernel
theorem dX4_finish_107 : decode cX4_finish 107 = .ok (.istore 4, 2) := by decide +kernel
theorem dX4_finish_109 : decode cX4_finish 109 = .ok (.iload 4, 2) := by decide +kernel
theorem dX4_finish_111 : decode cX4_finish 111 = .ok (.bipush 8, 2) := by decide +kernel
theorem dX4_finish_113 : decode cX4_finish 113 = .ok (.if_icmp .ge 57, 3) := by decide +kernel
theorem dX4_finish_116 : decode cX4_finish 116 = .ok (.aload_n 0, 1) := by decide +kernel
theorem dX4_finish_117 : decode cX4_finish 117 = .ok (.getfield 42, 3) := by decide +kernel
theorem dX4_finish_120 : decode cX4_finish 120 = .ok (.ifCond .eq 33, 3) := by decide +kernel
theorem dX4_finish_123 : decode cX4_finish 123 = .ok (.aload_n 1, 1) := by decide +kernel
theorem dX4_finish_124 : decode cX4_finish 124 = .ok (.aload_n 0, 1) := by decide +kernel
theorem dX4_finish_125 : decode cX4_finish 125 = .ok (.getfield 23, 3) := by decide +kernel
theorem dX4_finish_128 : decode cX4_finish 128 = .ok (.iload 4, 2) := by decide +kernel
theorem dX4_finish_130 : decode cX4_finish 130 = .ok (.laload, 1) := by decide +kernel
theorem dX4_finish_131 : decode cX4_finish 131 = .ok (.bipush 32, 2) := by decide +kernel
theorem dX4_finish_133 : decode cX4_finish 133 = .ok (.lushr, 1) := by decide +kernel
theorem dX4_finish_134 : decode cX4_finish 134 = .ok (.l2i, 1) := by decide +kernel
theorem dX4_finish_135 : decode cX4_finish 135 = .ok (.invokevirtual 77, 3) := by decide +kernel
theorem dX4_finish_138 : decode cX4_finish 138 = .ok (.aload_n 1, 1) := by decide +kernel
theorem dX4_finish_139 : decode cX4_finish 139 = .ok (.aload_n 0, 1) := by decide +kernel
theorem dX4_finish_140 : decode cX4_finish 140 = .ok (.getfield 23, 3) := by decide +kernel
theorem dX4_finish_143 : decode cX4_finish 143 = .ok (.iload 4, 2) := by decide +kernel
theorem dX4_finish_145 : decode cX4_finish 145 = .ok (.laload, 1) := by decide +kernel
theorem dX4_finish_146 : decode cX4_finish 146 = .ok (.l2i, 1) := by decide +kernel
theorem dX4_finish_147 : decode cX4_finish 147 = .ok (.invokevirtual 77, 3) := by decide +kernel
theorem dX4_finish_150 : decode cX4_finish 150 = .ok (.goto 14, 3) := by decide +kernel
theorem dX4_finish_153 : decode cX4_finish 153 = .ok (.aload_n 1, 1) := by decide +kernel
theorem dX4_finish_154 : decode cX4_finish 154 = .ok (.aload_n 0, 1) := by decide +kernel
theorem dX4_finish_155 : decode cX4_finish 155 = .ok (.getfield 17, 3) := by decide +kernel
theorem dX4_finish_158 : decode cX4_finish 158 = .ok (.iload 4, 2) := by decide +kernel
theorem dX4_finish_160 : decode cX4_finish 160 = .ok (.iaload, 1) := by decide +kernel
theorem dX4_finish_161 : decode cX4_finish 161 = .ok (.invokevirtual 77, 3) := by decide +kernel
theorem dX4_finish_164 : decode cX4_finish 164 = .ok (.iinc 4 1, 3) := by decide +kernel
theorem dX4_finish_167 : decode cX4_finish 167 = .ok (.goto (-58), 3) := by decide +kernel
theorem dX4_finish_170 : decode cX4_finish 170 = .ok (.return_, 1) := by decide +kernel
abbrev rmX4_finish : Room := { frames := 2, cells := 0, slots := 0, locals := 67 }
set_option maxHeartbeats 4000000 in
set_option maxRecDepth 100000 in
theorem wB_X4_finish_109 {G : mG} {F : Nat} {x : mXT} {sz : Nat} {M0 : mM} (X : mCX G RX4 cX4_finish 5 none "finish" rmX4_finish x) (hQ : mQV x M0 (sz, 0, 0)) : ∀ (n : Nat) (l0 : Nat) (l1 : Nat) (l4 : Int32) (M : mM), B_X4_finish_109 G F n l0 l1 l4 M = some M0 → WW x (sz, 0, 0) M 109 [(0, .ref l0), (1, .ref l1), (4, .int l4)] [] := by
  intro n
  induction n with
  | zero =>
    intro l0 l1 l4 M h
    exact nomatch (show (none : Option mM) = some M0 from h)
  | succ n ih =>
    intro l0 l1 l4 M h
    rw [B_X4_finish_109] at h
    refine ww_iload 109 X dX4_finish_109 2 rfl ?_
    refine ww_bipush 111 X (v := (8 : Int32)) dX4_finish_111 (by decide) ?_
    refine ww_icmp_ge 113 170 X dX4_finish_113 (by decide) (fun q => ?_) (fun q => ?_)
    · replace h := (if_pos q).symm.trans h
      exact ww_vretE 170 X hQ dX4_finish_170 h
    · replace h := (if_neg q).symm.trans h
      refine ww_aload_n 116 X dX4_finish_116 0 rfl rfl ?_
      obtain ⟨v117, e117, h⟩ := bO_some h
      refine ww_getI 117 X dX4_finish_117 fG_X4_42 e117 ?_
      refine ww_if_eq 120 153 X dX4_finish_120 (by decide) (fun q => ?_) (fun q => ?_)
      · replace h := (if_pos q).symm.trans h
        refine ww_aload_n 153 X dX4_finish_153 1 rfl rfl ?_
        refine ww_aload_n 154 X dX4_finish_154 0 rfl rfl ?_
        obtain ⟨v155, e155, h⟩ := bO_some h
        refine ww_getR 155 X dX4_finish_155 fG_X4_17 e155 ?_
        refine ww_iload 158 X dX4_finish_158 2 rfl ?_
        obtain ⟨v160, e160, h⟩ := bO_some h
        refine ww_iald 160 X dX4_finish_160 e160 ?_
        obtain ⟨_, f161, h⟩ := bO_some h
        obtain ⟨M161, e161, h⟩ := bO_some h
        refine ww_callVV0 161 X dX4_finish_161 mY_X0_putWord mL_X4_77 (rcv_spec f161) ⟨_, _, rfl⟩ (by decide) (As := [.int v160]) (rest := []) rfl rfl ⟨Nat.le_of_ble_eq_true rfl, Nat.le_of_ble_eq_true rfl⟩ (Nat.le_of_ble_eq_true rfl) (fun l D A => c_X0_putWord l D A e161) ?_
        refine ww_iinc 164 X dX4_finish_164 (lv' := [(0, .ref l0), (1, .ref l1), (4, .int (l4 + 1))]) 2 rfl rfl (by decide) [1, 2, 0] rfl ?_
        refine ww_goto 167 109 X dX4_finish_167 (by decide) ?_
        exact (ih _ _ _ _ h)
      · replace h := (if_neg q).symm.trans h
        refine ww_aload_n 123 X dX4_finish_123 1 rfl rfl ?_
        refine ww_aload_n 124 X dX4_finish_124 0 rfl rfl ?_
        obtain ⟨v125, e125, h⟩ := bO_some h
        refine ww_getR 125 X dX4_finish_125 fG_X4_23 e125 ?_
        refine ww_iload 128 X dX4_finish_128 2 rfl ?_
        obtain ⟨v130, e130, h⟩ := bO_some h
        refine ww_lald 130 X dX4_finish_130 e130 ?_
        refine ww_bipush 131 X (v := (32 : Int32)) dX4_finish_131 (by decide) ?_
        refine ww_lushr 133 X dX4_finish_133 ?_
        refine ww_l2i 134 X dX4_finish_134 ?_
        obtain ⟨_, f135, h⟩ := bO_some h
        obtain ⟨M135, e135, h⟩ := bO_some h
        refine ww_callVV0 135 X dX4_finish_135 mY_X0_putWord mL_X4_77 (rcv_spec f135) ⟨_, _, rfl⟩ (by decide) (As := [.int ((ushL v130 (32 : Int32)).toInt32)]) (rest := []) rfl rfl ⟨Nat.le_of_ble_eq_true rfl, Nat.le_of_ble_eq_true rfl⟩ (Nat.le_of_ble_eq_true rfl) (fun l D A => c_X0_putWord l D A e135) ?_
        refine ww_aload_n 138 X dX4_finish_138 1 rfl rfl ?_
        refine ww_aload_n 139 X dX4_finish_139 0 rfl rfl ?_
        obtain ⟨v140, e140, h⟩ := bO_some h
        refine ww_getR 140 X dX4_finish_140 fG_X4_23 e140 ?_
        refine ww_iload 143 X dX4_finish_143 2 rfl ?_
        obtain ⟨v145, e145, h⟩ := bO_some h
        refine ww_lald 145 X dX4_finish_145 e145 ?_
        refine ww_l2i 146 X dX4_finish_146 ?_
        obtain ⟨_, f147, h⟩ := bO_some h
        obtain ⟨M147, e147, h⟩ := bO_some h
        refine ww_callVV0 147 X dX4_finish_147 mY_X0_putWord mL_X4_77 (rcv_spec f147) ⟨_, _, rfl⟩ (by decide) (As := [.int (v145.toInt32)]) (rest := []) rfl rfl ⟨Nat.le_of_ble_eq_true rfl, Nat.le_of_ble_eq_true rfl⟩ (Nat.le_of_ble_eq_true rfl) (fun l D A => c_X0_putWord l D A e147) ?_
        refine ww_goto 150 164 X dX4_finish_150 (by decide) ?_
        refine ww_iinc 164 X dX4_finish_164 (lv' := [(0, .ref l0), (1, .ref l1), (4, .int (l4 + 1))]) 2 rfl rfl (by decide) [1, 2, 0] rfl ?_
        refine ww_goto 167 109 X dX4_finish_167 (by decide) ?_
        exact (ih _ _ _ _ h)
set_option maxHeartbeats 4000000 in
set_option maxRecDepth 100000 in
theorem wB_X4_finish_70 {G : mG} {F : Nat} {x : mXT} {sz : Nat} {M0 : mM} (X : mCX G RX4 cX4_finish 5 none "finish" rmX4_finish x) (hQ : mQV x M0 (sz, 0, 0)) : ∀ (n : Nat) (l0 : Nat) (l1 : Nat) (l2 : Int32) (l4 : Int32) (M : mM), B_X4_finish_70 G F n l0 l1 l2 l4 M = some M0 → WW x (sz, 0, 0) M 70 [(0, .ref l0), (1, .ref l1), (2, .int l2), (4, .int l4)] [] := by
  intro n
  induction n with
  | zero =>
    intro l0 l1 l2 l4 M h
    exact nomatch (show (none : Option mM) = some M0 from h)
  | succ n ih =>
    intro l0 l1 l2 l4 M h
    rw [B_X4_finish_70] at h
    refine ww_iload 70 X dX4_finish_70 3 rfl ?_
    refine ww_if_lt 72 106 X dX4_finish_72 (by decide) (fun q => ?_) (fun q => ?_)
    · replace h := (if_pos q).symm.trans h
      refine ww_iconst 106 X (v := (0 : Int32)) dX4_finish_106 (by decide) ?_
      refine ww_istore 107 X dX4_finish_107 (lv' := [(0, .ref l0), (1, .ref l1), (2, .int l2), (4, .int (0 : Int32))]) (by decide) [1, 2, 3, 0] rfl ?_
      exact ww_sub [0, 1, 3] rfl (wB_X4_finish_109 X hQ F _ _ _ _ h)
    · replace h := (if_neg q).symm.trans h
      refine ww_aload_n 75 X dX4_finish_75 0 rfl rfl ?_
      refine ww_iload 76 X dX4_finish_76 3 rfl ?_
      refine ww_iconst 78 X (v := (4 : Int32)) dX4_finish_78 (by decide) ?_
      refine ww_icmp_ge 79 96 X dX4_finish_79 (by decide) (fun q => ?_) (fun q => ?_)
      · replace h := (if_pos q).symm.trans h
        refine ww_iconst 96 X (v := (0 : Int32)) dX4_finish_96 (by decide) ?_
        obtain ⟨_, f97, h⟩ := bO_some h
        obtain ⟨M97, e97, h⟩ := bO_some h
        refine ww_callVV0 97 X dX4_finish_97 mY_X4_addByte mL_X4_68 (rcv_spec f97) ⟨_, _, rfl⟩ (by decide) (As := [.int (0 : Int32)]) (rest := []) rfl rfl ⟨Nat.le_of_ble_eq_true rfl, Nat.le_of_ble_eq_true rfl⟩ (Nat.le_of_ble_eq_true rfl) (fun l D A => c_X4_addByte l D A e97) ?_
        refine ww_iinc 100 X dX4_finish_100 (lv' := [(0, .ref l0), (1, .ref l1), (2, .int l2), (4, .int (l4 + (-1)))]) 3 rfl rfl (by decide) [1, 2, 3, 0] rfl ?_
        refine ww_goto 103 70 X dX4_finish_103 (by decide) ?_
        exact (ih _ _ _ _ _ h)
      · replace h := (if_neg q).symm.trans h
        refine ww_iload_n 82 X dX4_finish_82 2 rfl rfl ?_
        refine ww_bipush 83 X (v := (8 : Int32)) dX4_finish_83 (by decide) ?_
        refine ww_iload 85 X dX4_finish_85 3 rfl ?_
        refine ww_imul 87 X dX4_finish_87 ?_
        refine ww_iushr 88 X dX4_finish_88 ?_
        refine ww_sipush 89 X (v := (255 : Int32)) dX4_finish_89 (by decide) ?_
        refine ww_iand 92 X dX4_finish_92 ?_
        refine ww_goto 93 97 X dX4_finish_93 (by decide) ?_
        obtain ⟨_, f97, h⟩ := bO_some h
        obtain ⟨M97, e97, h⟩ := bO_some h
        refine ww_callVV0 97 X dX4_finish_97 mY_X4_addByte mL_X4_68 (rcv_spec f97) ⟨_, _, rfl⟩ (by decide) (As := [.int ((ushI l2 ((8 : Int32) * l4)) &&& (255 : Int32))]) (rest := []) rfl rfl ⟨Nat.le_of_ble_eq_true rfl, Nat.le_of_ble_eq_true rfl⟩ (Nat.le_of_ble_eq_true rfl) (fun l D A => c_X4_addByte l D A e97) ?_
        refine ww_iinc 100 X dX4_finish_100 (lv' := [(0, .ref l0), (1, .ref l1), (2, .int l2), (4, .int (l4 + (-1)))]) 3 rfl rfl (by decide) [1, 2, 3, 0] rfl ?_
        refine ww_goto 103 70 X dX4_finish_103 (by decide) ?_
        exact (ih _ _ _ _ _ h)
set_option maxHeartbeats 4000000 in
set_option maxRecDepth 100000 in
theorem wB_X4_finish_33 {G : mG} {F : Nat} {x : mXT} {sz : Nat} {M0 : mM} (X : mCX G RX4 cX4_finish 5 none "finish" rmX4_finish x) (hQ : mQV x M0 (sz, 0, 0)) : ∀ (n : Nat) (l0 : Nat) (l1 : Nat) (l2 : Int32) (l3 : Int32) (l4 : Int32) (M : mM), B_X4_finish_33 G F n l0 l1 l2 l3 l4 M = some M0 → WW x (sz, 0, 0) M 33 [(0, .ref l0), (1, .ref l1), (2, .int l2), (3, .int l3), (4, .int l4)] [] := by
  intro n
  induction n with
  | zero =>
    intro l0 l1 l2 l3 l4 M h
    exact nomatch (show (none : Option mM) = some M0 from h)
  | succ n ih =>
    intro l0 l1 l2 l3 l4 M h
    rw [B_X4_finish_33] at h
    refine ww_iload 33 X dX4_finish_33 4 rfl ?_
    refine ww_sipush 35 X (v := (128 : Int32)) dX4_finish_35 (by decide) ?_
    refine ww_icmp_ge 38 65 X dX4_finish_38 (by decide) (fun q => ?_) (fun q => ?_)
    · replace h := (if_pos q).symm.trans h
      refine ww_iload_n 65 X dX4_finish_65 3 rfl rfl ?_
      refine ww_iconst 66 X (v := (1 : Int32)) dX4_finish_66 (by decide) ?_
      refine ww_isub 67 X dX4_finish_67 ?_
      refine ww_istore 68 X dX4_finish_68 (lv' := [(0, .ref l0), (1, .ref l1), (2, .int l2), (3, .int l3), (4, .int (l3 - (1 : Int32)))]) (by decide) [1, 2, 3, 4, 0] rfl ?_
      exact ww_sub [0, 1, 2, 4] rfl (wB_X4_finish_70 X hQ F _ _ _ _ _ h)
    · replace h := (if_neg q).symm.trans h
      refine ww_aload_n 41 X dX4_finish_41 0 rfl rfl ?_
      obtain ⟨v42, e42, h⟩ := bO_some h
      refine ww_getI 42 X dX4_finish_42 fG_X4_46 e42 ?_
      refine ww_aload_n 45 X dX4_finish_45 0 rfl rfl ?_
      obtain ⟨v46, e46, h⟩ := bO_some h
      refine ww_getI 46 X dX4_finish_46 fG_X4_7 e46 ?_
      refine ww_iload_n 49 X dX4_finish_49 3 rfl rfl ?_
      refine ww_isub 50 X dX4_finish_50 ?_
      refine ww_icmp_eq 51 65 X dX4_finish_51 (by decide) (fun q => ?_) (fun q => ?_)
      · replace h := (if_pos q).symm.trans h
        refine ww_iload_n 65 X dX4_finish_65 3 rfl rfl ?_
        refine ww_iconst 66 X (v := (1 : Int32)) dX4_finish_66 (by decide) ?_
        refine ww_isub 67 X dX4_finish_67 ?_
        refine ww_istore 68 X dX4_finish_68 (lv' := [(0, .ref l0), (1, .ref l1), (2, .int l2), (3, .int l3), (4, .int (l3 - (1 : Int32)))]) (by decide) [1, 2, 3, 4, 0] rfl ?_
        exact ww_sub [0, 1, 2, 4] rfl (wB_X4_finish_70 X hQ F _ _ _ _ _ h)
      · replace h := (if_neg q).symm.trans h
        refine ww_aload_n 54 X dX4_finish_54 0 rfl rfl ?_
        refine ww_iconst 55 X (v := (0 : Int32)) dX4_finish_55 (by decide) ?_
        obtain ⟨_, f56, h⟩ := bO_some h
        obtain ⟨M56, e56, h⟩ := bO_some h
        refine ww_callVV0 56 X dX4_finish_56 mY_X4_addByte mL_X4_68 (rcv_spec f56) ⟨_, _, rfl⟩ (by decide) (As := [.int (0 : Int32)]) (rest := []) rfl rfl ⟨Nat.le_of_ble_eq_true rfl, Nat.le_of_ble_eq_true rfl⟩ (Nat.le_of_ble_eq_true rfl) (fun l D A => c_X4_addByte l D A e56) ?_
        refine ww_iinc 59 X dX4_finish_59 (lv' := [(0, .ref l0), (1, .ref l1), (2, .int l2), (3, .int l3), (4, .int (l4 + 1))]) 4 rfl rfl (by decide) [1, 2, 3, 4, 0] rfl ?_
        refine ww_goto 62 33 X dX4_finish_62 (by decide) ?_
        exact (ih _ _ _ _ _ _ h)
set_option maxHeartbeats 4000000 in
set_option maxRecDepth 100000 in
theorem wP_X4_finish {G : mG} {F : Nat} {x : mXT} {sz : Nat} {M0 : mM} (X : mCX G RX4 cX4_finish 5 none "finish" rmX4_finish x) (hQ : mQV x M0 (sz, 0, 0)) {l0 : Nat} {l1 : Nat} {M : mM} (h : P_X4_finish G F l0 l1 M = some M0) : WW x (sz, 0, 0) M 0 [(0, .ref l0), (1, .ref l1)] [] := by
  unfold P_X4_finish at h
  refine ww_bipush 0 X (v := (8 : Int32)) dX4_finish_0 (by decide) ?_
  refine ww_aload_n 2 X dX4_finish_2 0 rfl rfl ?_
  obtain ⟨v3, e3, h⟩ := bO_some h
  refine ww_getI 3 X dX4_finish_3 fG_X4_49 e3 ?_
  refine ww_imul 6 X dX4_finish_6 ?_
  refine ww_istore_n 7 X dX4_finish_7 (lv' := [(0, .ref l0), (1, .ref l1), (2, .int ((8 : Int32) * v3))]) rfl (by decide) [1, 2, 0] rfl ?_
  refine ww_aload_n 8 X dX4_finish_8 0 rfl rfl ?_
  obtain ⟨v9, e9, h⟩ := bO_some h
  refine ww_getI 9 X dX4_finish_9 fG_X4_42 e9 ?_
  refine ww_if_eq 12 20 X dX4_finish_12 (by decide) (fun q => ?_) (fun q => ?_)
  · replace h := (if_pos q).symm.trans h
    refine ww_bipush 20 X (v := (8 : Int32)) dX4_finish_20 (by decide) ?_
    refine ww_istore_n 22 X dX4_finish_22 (lv' := [(0, .ref l0), (1, .ref l1), (2, .int ((8 : Int32) * v3)), (3, .int (8 : Int32))]) rfl (by decide) [1, 2, 3, 0] rfl ?_
    refine ww_aload_n 23 X dX4_finish_23 0 rfl rfl ?_
    refine ww_sipush 24 X (v := (128 : Int32)) dX4_finish_24 (by decide) ?_
    obtain ⟨_, f27, h⟩ := bO_some h
    obtain ⟨M27, e27, h⟩ := bO_some h
    refine ww_callVV0 27 X dX4_finish_27 mY_X4_addByte mL_X4_68 (rcv_spec f27) ⟨_, _, rfl⟩ (by decide) (As := [.int (128 : Int32)]) (rest := []) rfl rfl ⟨Nat.le_of_ble_eq_true rfl, Nat.le_of_ble_eq_true rfl⟩ (Nat.le_of_ble_eq_true rfl) (fun l D A => c_X4_addByte l D A e27) ?_
    refine ww_iconst 30 X (v := (0 : Int32)) dX4_finish_30 (by decide) ?_
    refine ww_istore 31 X dX4_finish_31 (lv' := [(0, .ref l0), (1, .ref l1), (2, .int ((8 : Int32) * v3)), (3, .int (8 : Int32)), (4, .int (0 : Int32))]) (by decide) [1, 2, 3, 4, 0] rfl ?_
    exact (wB_X4_finish_33 X hQ F _ _ _ _ _ _ h)
  · replace h := (if_neg q).symm.trans h
    refine ww_bipush 15 X (v := (16 : Int32)) dX4_finish_15 (by decide) ?_
    refine ww_goto 17 22 X dX4_finish_17 (by decide) ?_
    refine ww_istore_n 22 X dX4_finish_22 (lv' := [(0, .ref l0), (1, .ref l1), (2, .int ((8 : Int32) * v3)), (3, .int (16 : Int32))]) rfl (by decide) [1, 2, 3, 0] rfl ?_
    refine ww_aload_n 23 X dX4_finish_23 0 rfl rfl ?_
    refine ww_sipush 24 X (v := (128 : Int32)) dX4_finish_24 (by decide) ?_
    obtain ⟨_, f27, h⟩ := bO_some h
    obtain ⟨M27, e27, h⟩ := bO_some h
    refine ww_callVV0 27 X dX4_finish_27 mY_X4_addByte mL_X4_68 (rcv_spec f27) ⟨_, _, rfl⟩ (by decide) (As := [.int (128 : Int32)]) (rest := []) rfl rfl ⟨Nat.le_of_ble_eq_true rfl, Nat.le_of_ble_eq_true rfl⟩ (Nat.le_of_ble_eq_true rfl) (fun l D A => c_X4_addByte l D A e27) ?_
    refine ww_iconst 30 X (v := (0 : Int32)) dX4_finish_30 (by decide) ?_
    refine ww_istore 31 X dX4_finish_31 (lv' := [(0, .ref l0), (1, .ref l1), (2, .int ((8 : Int32) * v3)), (3, .int (16 : Int32)), (4, .int (0 : Int32))]) (by decide) [1, 2, 3, 4, 0] rfl ?_
    exact (wB_X4_finish_33 X hQ F _ _ _ _ _ _ h)
theorem c_X4_finish {G : mG} {F sz : Nat} {M0 : mM} (l : Launch) (D : mD) (A : Nat → Prop) {l0 : Nat} {l1 : Nat} {M : mM} (h : P_X4_finish G F l0 l1 M = some M0) : mMetV l D G A yX4_finish cX4_finish 5 none 2 67 0 0 [.ref l0, .ref l1] M sz M0 sz := mMetV_of l D G A (by decide) (Nat.le_of_ble_eq_true rfl) (fun x X hQ => wP_X4_finish X hQ h)
/-! SealedTokens$Digest.addKeyBlock(I)V -/
theorem dX4_addKeyBlock_0 : decode cX4_addKeyBlock 0 = .ok (.iconst 0, 1) := by decide +kernel
theorem dX4_addKeyBlock_1 : decode cX4_addKeyBlock 1 = .ok (.istore_n 2, 1) := by decide +kernel
theorem dX4_addKeyBlock_2 : decode cX4_addKeyBlock 2 = .ok (.iload_n 2, 1) := by decide +kernel
theorem dX4_addKeyBlock_3 : decode cX4_addKeyBlock 3 = .ok (.aload_n 0, 1) := by decide +kernel
theorem dX4_addKeyBlock_4 : decode cX4_addKeyBlock 4 = .ok (.getfield 7, 3) := by decide +kernel
theorem dX4_addKeyBlock_7 : decode cX4_addKeyBlock 7 = .ok (.if_icmp .ge 21, 3) := by decide +kernel
theorem dX4_addKeyBlock_10 : decode cX4_addKeyBlock 10 = .ok (.aload_n 0, 1) := by decide +kernel
theorem dX4_addKeyBlock_11 : decode cX4_addKeyBlock 11 = .ok (.aload_n 0, 1) := by decide +kernel
theorem dX4_addKeyBlock_12 : decode cX4_addKeyBlock 12 = .ok (.getfield 30, 3) := by decide +kernel
theorem dX4_addKeyBlock_15 : decode cX4_addKeyBlock 15 = .ok (.iload_n 2, 1) := by decide +kernel
theorem dX4_addKeyBlock_16 : decode cX4_addKeyBlock 16 = .ok (.iaload, 1) := by decide +kernel
theorem dX4_addKeyBlock_17 : decode cX4_addKeyBlock 17 = .ok (.iload_n 1, 1) := by decide +kernel
theorem dX4_addKeyBlock_18 : decode cX4_addKeyBlock 18 = .ok (.ixor, 1) := by decide +kernel
theorem dX4_addKeyBlock_19 : decode cX4_addKeyBlock 19 = .ok (.invokevirtual 68, 3) := by decide +kernel
theorem dX4_addKeyBlock_22 : decode cX4_addKeyBlock 22 = .ok (.iinc 2 1, 3) := by decide +kernel
theorem dX4_addKeyBlock_25 : decode cX4_addKeyBlock 25 = .ok (.goto (-23), 3) := by decide +kernel
theorem dX4_addKeyBlock_28 : decode cX4_addKeyBlock 28 = .ok (.return_, 1) := by decide +kernel
abbrev rmX4_addKeyBlock : Room := { frames := 2, cells := 0, slots := 0, locals := 67 }
set_option maxHeartbeats 4000000 in
set_option maxRecDepth 100000 in
theorem wB_X4_addKeyBlock_2 {G : mG} {F : Nat} {x : mXT} {sz : Nat} {M0 : mM} (X : mCX G RX4 cX4_addKeyBlock 3 none "addKeyBlock" rmX4_addKeyBlock x) (hQ : mQV x M0 (sz, 0, 0)) : ∀ (n : Nat) (l0 : Nat) (l1 : Int32) (l2 : Int32) (M : mM), B_X4_addKeyBlock_2 G F n l0 l1 l2 M = some M0 → WW x (sz, 0, 0) M 2 [(0, .ref l0), (1, .int l1), (2, .int l2)] [] := by
  intro n
  induction n with
  | zero =>
    intro l0 l1 l2 M h
    exact nomatch (show (none : Option mM) = some M0 from h)
  | succ n ih =>
    intro l0 l1 l2 M h
    rw [B_X4_addKeyBlock_2] at h
    refine ww_iload_n 2 X dX4_addKeyBlock_2 2 rfl rfl ?_
    refine ww_aload_n 3 X dX4_addKeyBlock_3 0 rfl rfl ?_
    obtain ⟨v4, e4, h⟩ := bO_some h
    refine ww_getI 4 X dX4_addKeyBlock_4 fG_X4_7 e4 ?_
    refine ww_icmp_ge 7 28 X dX4_addKeyBlock_7 (by decide) (fun q => ?_) (fun q => ?_)
    · replace h := (if_pos q).symm.trans h
      exact ww_vretE 28 X hQ dX4_addKeyBlock_28 h
    · replace h := (if_neg q).symm.trans h
      refine ww_aload_n 10 X dX4_addKeyBlock_10 0 rfl rfl ?_
      refine ww_aload_n 11 X dX4_addKeyBlock_11 0 rfl rfl ?_
      obtain ⟨v12, e12, h⟩ := bO_some h
      refine ww_getR 12 X dX4_addKeyBlock_12 fG_X4_30 e12 ?_
      refine ww_iload_n 15 X dX4_addKeyBlock_15 2 rfl rfl ?_
      obtain ⟨v16, e16, h⟩ := bO_some h
      refine ww_iald 16 X dX4_addKeyBlock_16 e16 ?_
      refine ww_iload_n 17 X dX4_addKeyBlock_17 1 rfl rfl ?_
      refine ww_ixor 18 X dX4_addKeyBlock_18 ?_
      obtain ⟨_, f19, h⟩ := bO_some h
      obtain ⟨M19, e19, h⟩ := bO_some h
      refine ww_callVV0 19 X dX4_addKeyBlock_19 mY_X4_addByte mL_X4_68 (rcv_spec f19) ⟨_, _, rfl⟩ (by decide) (As := [.int (v16 ^^^ l1)]) (rest := []) rfl rfl ⟨Nat.le_of_ble_eq_true rfl, Nat.le_of_ble_eq_true rfl⟩ (Nat.le_of_ble_eq_true rfl) (fun l D A => c_X4_addByte l D A e19) ?_
      refine ww_iinc 22 X dX4_addKeyBlock_22 (lv' := [(0, .ref l0), (1, .int l1), (2, .int (l2 + 1))]) 2 rfl rfl (by decide) [1, 2, 0] rfl ?_
      refine ww_goto 25 2 X dX4_addKeyBlock_25 (by decide) ?_
      exact (ih _ _ _ _ h)
set_option maxHeartbeats 4000000 in
set_option maxRecDepth 100000 in
theorem wP_X4_addKeyBlock {G : mG} {F : Nat} {x : mXT} {sz : Nat} {M0 : mM} (X : mCX G RX4 cX4_addKeyBlock 3 none "addKeyBlock" rmX4_addKeyBlock x) (hQ : mQV x M0 (sz, 0, 0)) {l0 : Nat} {l1 : Int32} {M : mM} (h : P_X4_addKeyBlock G F l0 l1 M = some M0) : WW x (sz, 0, 0) M 0 [(0, .ref l0), (1, .int l1)] [] := by
  unfold P_X4_addKeyBlock at h
  refine ww_iconst 0 X (v := (0 : Int32)) dX4_addKeyBlock_0 (by decide) ?_
  refine ww_istore_n 1 X dX4_addKeyBlock_1 (lv' := [(0, .ref l0), (1, .int l1), (2, .int (0 : Int32))]) rfl (by decide) [1, 2, 0] rfl ?_
  exact (wB_X4_addKeyBlock_2 X hQ F _ _ _ _ h)
theorem c_X4_addKeyBlock {G : mG} {F sz : Nat} {M0 : mM} (l : Launch) (D : mD) (A : Nat → Prop) {l0 : Nat} {l1 : Int32} {M : mM} (h : P_X4_addKeyBlock G F l0 l1 M = some M0) : mMetV l D G A yX4_addKeyBlock cX4_addKeyBlock 3 none 2 67 0 0 [.ref l0, .int l1] M sz M0 sz := mMetV_of l D G A (by decide) (Nat.le_of_ble_eq_true rfl) (fun x X hQ => wP_X4_addKeyBlock X hQ h)
/-! SealedTokens$Digest.startCode(ILSealedTokens$Bytes;II)V -/
theorem dX4_startCode_0 : decode cX4_startCode 0 = .ok (.aload_n 0, 1) := by decide +kernel
theorem dX4_startCode_1 : decode cX4_startCode 1 = .ok (.iload_n 1, 1) := by decide +kernel
theorem dX4_startCode_2 : decode cX4_startCode 2 = .ok (.invokevirtual 88, 3) := by decide +kernel
theorem dX4_startCode_5 : decode cX4_startCode 5 = .ok (.aload_n 0, 1) := by decide +kernel
theorem dX4_startCode_6 : decode cX4_startCode 6 = .ok (.getfield 38, 3) := by decide +kernel
theorem dX4_startCode_9 : decode cX4_startCode 9 = .ok (.invokevirtual 91, 3) := by decide +kernel
theorem dX4_startCode_12 : decode cX4_startCode 12 = .ok (.iload 4, 2) := by decide +kernel
theorem dX4_startCode_14 : decode cX4_startCode 14 = .ok (.iload_n 3, 1) := by decide +kernel
theorem dX4_startCode_15 : decode cX4_startCode 15 = .ok (.isub, 1) := by decide +kernel
theorem dX4_startCode_16 : decode cX4_startCode 16 = .ok (.aload_n 0, 1) := by decide +kernel
theorem dX4_startCode_17 : decode cX4_startCode 17 = .ok (.getfield 7, 3) := by decide +kernel
theorem dX4_startCode_20 : decode cX4_startCode 20 = .ok (.if_icmp .le 7, 3) := by decide +kernel
theorem dX4_startCode_23 : decode cX4_startCode 23 = .ok (.iconst 1, 1) := by decide +kernel
theorem dX4_startCode_24 : decode cX4_startCode 24 = .ok (.goto 4, 3) := by decide +kernel
theorem dX4_startCode_27 : decode cX4_startCode 27 = .ok (.iconst 0, 1) := by decide +kernel
theorem dX4_startCode_28 : decode cX4_startCode 28 = .ok (.istore 5, 2) := by decide +kernel
theorem dX4_startCode_30 : decode cX4_startCode 30 = .ok (.iload 5, 2) := by decide +kernel
theorem dX4_startCode_32 : decode cX4_startCode 32 = .ok (.ifCond .eq 24, 3) := by decide +kernel
theorem dX4_startCode_35 : decode cX4_startCode 35 = .ok (.aload_n 0, 1) := by decide +kernel
theorem dX4_startCode_36 : decode cX4_startCode 36 = .ok (.aload_n 2, 1) := by decide +kernel
theorem dX4_startCode_37 : decode cX4_startCode 37 = .ok (.iload_n 3, 1) := by decide +kernel
theorem dX4_startCode_38 : decode cX4_startCode 38 = .ok (.iload 4, 2) := by decide +kernel
theorem dX4_startCode_40 : decode cX4_startCode 40 = .ok (.invokevirtual 94, 3) := by decide +kernel
theorem dX4_startCode_43 : decode cX4_startCode 43 = .ok (.aload_n 0, 1) := by decide +kernel
theorem dX4_startCode_44 : decode cX4_startCode 44 = .ok (.aload_n 0, 1) := by decide +kernel
theorem dX4_startCode_45 : decode cX4_startCode 45 = .ok (.getfield 38, 3) := by decide +kernel
theorem dX4_startCode_48 : decode cX4_startCode 48 = .ok (.invokevirtual 98, 3) := by decide +kernel
theorem dX4_startCode_51 : decode cX4_startCode 51 = .ok (.aload_n 0, 1) := by decide +kernel
theorem dX4_startCode_52 : decode cX4_startCode 52 = .ok (.iload_n 1, 1) := by decide +kernel
theorem dX4_startCode_53 : decode cX4_startCode 53 = .ok (.invokevirtual 88, 3) := by decide +kernel
theorem dX4_startCode_56 : decode cX4_startCode 56 = .ok (.iconst 0, 1) := by decide +kernel
theorem dX4_startCode_57 : decode cX4_startCode 57 = .ok (.istore 6, 2) := by decide +kernel
theorem dX4_startCode_59 : decode cX4_startCode 59 = .ok (.iload 6, 2) := by decide +kernel
theorem dX4_startCode_61 : decode cX4_startCode 61 = .ok (.sipush 128, 3) := by decide +kernel
theorem dX4_startCode_64 : decode cX4_startCode 64 = .ok (.if_icmp .ge 54, 3) := by decide +kernel
theorem dX4_startCode_67 : decode cX4_startCode 67 = .ok (.aload_n 0, 1) := by decide +kernel
theorem dX4_startCode_68 : decode cX4_startCode 68 = .ok (.getfield 30, 3) := by decide +kernel
theorem dX4_startCode_71 : decode cX4_startCode 71 = .ok (.iload 6, 2) := by decide +kernel
theorem dX4_startCode_73 : decode cX4_startCode 73 = .ok (.iload 5, 2) := by decide +kernel
theorem dX4_startCode_75 : decode cX4_startCode 75 = .ok (.ifCond .eq 15, 3) := by decide +kernel
theorem dX4_startCode_78 : decode cX4_startCode 78 = .ok (.aload_n 0, 1) := by decide +kernel
theorem dX4_startCode_79 : decode cX4_startCode 79 = .ok (.getfield 38, 3) := by decide +kernel
theorem dX4_startCode_82 : decode cX4_startCode 82 = .ok (.iload 6, 2) := by decide +kernel
theorem dX4_startCode_84 : decode cX4_startCode 84 = .ok (.invokevirtual 64, 3) := by decide +kernel
theorem dX4_startCode_87 : decode cX4_startCode 87 = .ok (.goto 24, 3) := by decide +kernel
theorem dX4_startCode_90 : decode cX4_startCode 90 = .ok (.iload_n 3, 1) := by decide +kernel
theorem dX4_startCode_91 : decode cX4_startCode 91 = .ok (.iload 6, 2) := by decide +kernel
theorem dX4_startCode_93 : decode cX4_startCode 93 = .ok (.iadd, 1) := by decide +kernel
theorem dX4_startCode_94 : decode cX4_startCode 94 = .ok (.iload 4, 2) := by decide +kernel
theorem dX4_startCode_96 : decode cX4_startCode 96 = .ok (.if_icmp .ge 14, 3) := by decide +kernel
theorem dX4_startCode_99 : decode cX4_startCode 99 = .ok (.aload_n 2, 1) := by decide +kernel
theorem dX4_startCode_100 : decode cX4_startCode 100 = .ok (.iload_n 3, 1) := by decide +kernel
theorem dX4_startCode_101 : decode cX4_startCode 101 = .ok (.iload 6, 2) := by decide +kernel
theorem dX4_startCode_103 : decode cX4_startCode 103 = .ok (.iadd, 1) := by decide +kernel
theorem dX4_startCode_104 : decode cX4_startCode 104 = .ok (.invokevirtual 64, 3) := by decide +kernel
theorem dX4_startCode_107 : decode cX4_startCode 107 = .ok (.goto 4, 3) := by decide +kernel
theorem dX4_startCode_110 : decode cX4_startCode 110 = .ok (.iconst 0, 1) := by decide +kernel
theorem dX4_startCode_111 : decode cX4_startCode 111 = .ok (.iastore, 1) := by decide +kernel
theorem dX4_startCode_112 : decode cX4_startCode 112 = .ok (.iinc 6 1, 3) := by decide +kernel
theorem dX4_startCode_115 : decode cX4_startCode 115 = .ok (.goto (-56), 3) := by decide +kernel
theorem dX4_startCode_118 : decode cX4_startCode 118 = .ok (.aload_n 0, 1) := by decide +kernel
theorem dX4_startCode_119 : decode cX4_startCode 119 = .ok (.bipush 54, 2) := by decide +kernel
theorem dX4_startCode_121 : decode cX4_startCode 121 = .ok (.invokevirtual 102, 3) := by decide +kernel
theorem dX4_startCode_124 : decode cX4_startCode 124 = .ok (.return_, 1) := by decide +kernel
abbrev rmX4_startCode : Room := { frames := 3, cells := 0, slots := 0, locals := 91 }
set_option maxHeartbeats 4000000 in
set_option maxRecDepth 100000 in
theorem wB_X4_startCode_59 {G : mG} {F : Nat} {x : mXT} {sz : Nat} {M0 : mM} (X : mCX G RX4 cX4_startCode 7 none "startCode" rmX4_startCode x) (hQ : mQV x M0 (sz, 0, 0)) : ∀ (n : Nat) (l0 : Nat) (l2 : Nat) (l3 : Int32) (l4 : Int32) (l5 : Int32) (l6 : Int32) (M : mM), B_X4_startCode_59 G F n l0 l2 l3 l4 l5 l6 M = some M0 → WW x (sz, 0, 0) M 59 [(0, .ref l0), (2, .ref l2), (3, .int l3), (4, .int l4), (5, .int l5), (6, .int l6)] [] := by
  intro n
  induction n with
  | zero =>
    intro l0 l2 l3 l4 l5 l6 M h
    exact nomatch (show (none : Option mM) = some M0 from h)
  | succ n ih =>
    intro l0 l2 l3 l4 l5 l6 M h
    rw [B_X4_startCode_59] at h
    refine ww_iload 59 X dX4_startCode_59 5 rfl ?_
    refine ww_sipush 61 X (v := (128 : Int32)) dX4_startCode_61 (by decide) ?_
    refine ww_icmp_ge 64 118 X dX4_startCode_64 (by decide) (fun q => ?_) (fun q => ?_)
    · replace h := (if_pos q).symm.trans h
      refine ww_aload_n 118 X dX4_startCode_118 0 rfl rfl ?_
      refine ww_bipush 119 X (v := (54 : Int32)) dX4_startCode_119 (by decide) ?_
      obtain ⟨_, f121, h⟩ := bO_some h
      obtain ⟨M121, e121, h⟩ := bO_some h
      refine ww_callVV0 121 X dX4_startCode_121 mY_X4_addKeyBlock mL_X4_102 (rcv_spec f121) ⟨_, _, rfl⟩ (by decide) (As := [.int (54 : Int32)]) (rest := []) rfl rfl ⟨Nat.le_of_ble_eq_true rfl, Nat.le_of_ble_eq_true rfl⟩ (Nat.le_of_ble_eq_true rfl) (fun l D A => c_X4_addKeyBlock l D A e121) ?_
      exact ww_vretE 124 X hQ dX4_startCode_124 h
    · replace h := (if_neg q).symm.trans h
      refine ww_aload_n 67 X dX4_startCode_67 0 rfl rfl ?_
      obtain ⟨v68, e68, h⟩ := bO_some h
      refine ww_getR 68 X dX4_startCode_68 fG_X4_30 e68 ?_
      refine ww_iload 71 X dX4_startCode_71 5 rfl ?_
      refine ww_iload 73 X dX4_startCode_73 4 rfl ?_
      refine ww_if_eq 75 90 X dX4_startCode_75 (by decide) (fun q => ?_) (fun q => ?_)
      · replace h := (if_pos q).symm.trans h
        refine ww_iload_n 90 X dX4_startCode_90 2 rfl rfl ?_
        refine ww_iload 91 X dX4_startCode_91 5 rfl ?_
        refine ww_iadd 93 X dX4_startCode_93 ?_
        refine ww_iload 94 X dX4_startCode_94 3 rfl ?_
        refine ww_icmp_ge 96 110 X dX4_startCode_96 (by decide) (fun q => ?_) (fun q => ?_)
        · replace h := (if_pos q).symm.trans h
          refine ww_iconst 110 X (v := (0 : Int32)) dX4_startCode_110 (by decide) ?_
          obtain ⟨M111, e111, h⟩ := bO_some h
          refine ww_iast 111 X dX4_startCode_111 e111 ?_
          refine ww_iinc 112 X dX4_startCode_112 (lv' := [(0, .ref l0), (2, .ref l2), (3, .int l3), (4, .int l4), (5, .int l5), (6, .int (l6 + 1))]) 5 rfl rfl (by decide) [1, 2, 3, 4, 5, 0] rfl ?_
          refine ww_goto 115 59 X dX4_startCode_115 (by decide) ?_
          exact (ih _ _ _ _ _ _ _ h)
        · replace h := (if_neg q).symm.trans h
          refine ww_aload_n 99 X dX4_startCode_99 1 rfl rfl ?_
          refine ww_iload_n 100 X dX4_startCode_100 2 rfl rfl ?_
          refine ww_iload 101 X dX4_startCode_101 5 rfl ?_
          refine ww_iadd 103 X dX4_startCode_103 ?_
          obtain ⟨_, f104, h⟩ := bO_some h
          obtain ⟨v104, M104, e104, h⟩ := bP_some h
          refine ww_callVI0 104 X dX4_startCode_104 mY_X0_get mL_X4_64 (rcv_spec f104) ⟨_, _, rfl⟩ (by decide) (As := [.int (l3 + l6)]) (rest := [.int l6, .ref v68]) rfl rfl ⟨Nat.le_of_ble_eq_true rfl, Nat.le_of_ble_eq_true rfl⟩ (Nat.le_of_ble_eq_true rfl) (fun l D A => c_X0_get l D A e104) ?_
          refine ww_goto 107 111 X dX4_startCode_107 (by decide) ?_
          obtain ⟨M111, e111, h⟩ := bO_some h
          refine ww_iast 111 X dX4_startCode_111 e111 ?_
          refine ww_iinc 112 X dX4_startCode_112 (lv' := [(0, .ref l0), (2, .ref l2), (3, .int l3), (4, .int l4), (5, .int l5), (6, .int (l6 + 1))]) 5 rfl rfl (by decide) [1, 2, 3, 4, 5, 0] rfl ?_
          refine ww_goto 115 59 X dX4_startCode_115 (by decide) ?_
          exact (ih _ _ _ _ _ _ _ h)
      · replace h := (if_neg q).symm.trans h
        refine ww_aload_n 78 X dX4_startCode_78 0 rfl rfl ?_
        obtain ⟨v79, e79, h⟩ := bO_some h
        refine ww_getR 79 X dX4_startCode_79 fG_X4_38 e79 ?_
        refine ww_iload 82 X dX4_startCode_82 5 rfl ?_
        obtain ⟨_, f84, h⟩ := bO_some h
        obtain ⟨v84, M84, e84, h⟩ := bP_some h
        refine ww_callVI0 84 X dX4_startCode_84 mY_X0_get mL_X4_64 (rcv_spec f84) ⟨_, _, rfl⟩ (by decide) (As := [.int l6]) (rest := [.int l6, .ref v68]) rfl rfl ⟨Nat.le_of_ble_eq_true rfl, Nat.le_of_ble_eq_true rfl⟩ (Nat.le_of_ble_eq_true rfl) (fun l D A => c_X0_get l D A e84) ?_
        refine ww_goto 87 111 X dX4_startCode_87 (by decide) ?_
        obtain ⟨M111, e111, h⟩ := bO_some h
        refine ww_iast 111 X dX4_startCode_111 e111 ?_
        refine ww_iinc 112 X dX4_startCode_112 (lv' := [(0, .ref l0), (2, .ref l2), (3, .int l3), (4, .int l4), (5, .int l5), (6, .int (l6 + 1))]) 5 rfl rfl (by decide) [1, 2, 3, 4, 5, 0] rfl ?_
        refine ww_goto 115 59 X dX4_startCode_115 (by decide) ?_
        exact (ih _ _ _ _ _ _ _ h)
set_option maxHeartbeats 4000000 in
set_option maxRecDepth 100000 in
theorem wB_X4_startCode_28 {G : mG} {F : Nat} {x : mXT} {sz : Nat} {M0 : mM} (X : mCX G RX4 cX4_startCode 7 none "startCode" rmX4_startCode x) (hQ : mQV x M0 (sz, 0, 0)) {l0 : Nat} {l1 : Int32} {l2 : Nat} {l3 : Int32} {l4 : Int32} {sk0 : Int32} {M : mM} (h : B_X4_startCode_28 G F l0 l1 l2 l3 l4 sk0 M = some M0) : WW x (sz, 0, 0) M 28 [(0, .ref l0), (1, .int l1), (2, .ref l2), (3, .int l3), (4, .int l4)] [.int sk0] := by
  unfold B_X4_startCode_28 at h
  refine ww_istore 28 X dX4_startCode_28 (lv' := [(0, .ref l0), (1, .int l1), (2, .ref l2), (3, .int l3), (4, .int l4), (5, .int sk0)]) (by decide) [1, 2, 3, 4, 5, 0] rfl ?_
  refine ww_iload 30 X dX4_startCode_30 5 rfl ?_
  refine ww_if_eq 32 56 X dX4_startCode_32 (by decide) (fun q => ?_) (fun q => ?_)
  · replace h := (if_pos q).symm.trans h
    refine ww_iconst 56 X (v := (0 : Int32)) dX4_startCode_56 (by decide) ?_
    refine ww_istore 57 X dX4_startCode_57 (lv' := [(0, .ref l0), (1, .int l1), (2, .ref l2), (3, .int l3), (4, .int l4), (5, .int sk0), (6, .int (0 : Int32))]) (by decide) [1, 2, 3, 4, 5, 6, 0] rfl ?_
    exact ww_sub [0, 2, 3, 4, 5, 6] rfl (wB_X4_startCode_59 X hQ F _ _ _ _ _ _ _ h)
  · replace h := (if_neg q).symm.trans h
    refine ww_aload_n 35 X dX4_startCode_35 0 rfl rfl ?_
    refine ww_aload_n 36 X dX4_startCode_36 2 rfl rfl ?_
    refine ww_iload_n 37 X dX4_startCode_37 3 rfl rfl ?_
    refine ww_iload 38 X dX4_startCode_38 4 rfl ?_
    obtain ⟨_, f40, h⟩ := bO_some h
    obtain ⟨M40, e40, h⟩ := bO_some h
    refine ww_callVV0 40 X dX4_startCode_40 mY_X4_add mL_X4_94 (rcv_spec f40) ⟨_, _, rfl⟩ (by decide) (As := [.ref l2, .int l3, .int l4]) (rest := []) rfl rfl ⟨Nat.le_of_ble_eq_true rfl, Nat.le_of_ble_eq_true rfl⟩ (Nat.le_of_ble_eq_true rfl) (fun l D A => c_X4_add l D A e40) ?_
    refine ww_aload_n 43 X dX4_startCode_43 0 rfl rfl ?_
    refine ww_aload_n 44 X dX4_startCode_44 0 rfl rfl ?_
    obtain ⟨v45, e45, h⟩ := bO_some h
    refine ww_getR 45 X dX4_startCode_45 fG_X4_38 e45 ?_
    obtain ⟨_, f48, h⟩ := bO_some h
    obtain ⟨M48, e48, h⟩ := bO_some h
    refine ww_callVV0 48 X dX4_startCode_48 mY_X4_finish mL_X4_98 (rcv_spec f48) ⟨_, _, rfl⟩ (by decide) (As := [.ref v45]) (rest := []) rfl rfl ⟨Nat.le_of_ble_eq_true rfl, Nat.le_of_ble_eq_true rfl⟩ (Nat.le_of_ble_eq_true rfl) (fun l D A => c_X4_finish l D A e48) ?_
    refine ww_aload_n 51 X dX4_startCode_51 0 rfl rfl ?_
    refine ww_iload_n 52 X dX4_startCode_52 1 rfl rfl ?_
    obtain ⟨_, f53, h⟩ := bO_some h
    obtain ⟨M53, e53, h⟩ := bO_some h
    refine ww_callVV0 53 X dX4_startCode_53 mY_X4_start mL_X4_88 (rcv_spec f53) ⟨_, _, rfl⟩ (by decide) (As := [.int l1]) (rest := []) rfl rfl ⟨Nat.le_of_ble_eq_true rfl, Nat.le_of_ble_eq_true rfl⟩ (Nat.le_of_ble_eq_true rfl) (fun l D A => c_X4_start l D A e53) ?_
    refine ww_iconst 56 X (v := (0 : Int32)) dX4_startCode_56 (by decide) ?_
    refine ww_istore 57 X dX4_startCode_57 (lv' := [(0, .ref l0), (1, .int l1), (2, .ref l2), (3, .int l3), (4, .int l4), (5, .int sk0), (6, .int (0 : Int32))]) (by decide) [1, 2, 3, 4, 5, 6, 0] rfl ?_
    exact ww_sub [0, 2, 3, 4, 5, 6] rfl (wB_X4_startCode_59 X hQ F _ _ _ _ _ _ _ h)
set_option maxHeartbeats 4000000 in
set_option maxRecDepth 100000 in
theorem wP_X4_startCode {G : mG} {F : Nat} {x : mXT} {sz : Nat} {M0 : mM} (X : mCX G RX4 cX4_startCode 7 none "startCode" rmX4_startCode x) (hQ : mQV x M0 (sz, 0, 0)) {l0 : Nat} {l1 : Int32} {l2 : Nat} {l3 : Int32} {l4 : Int32} {M : mM} (h : P_X4_startCode G F l0 l1 l2 l3 l4 M = some M0) : WW x (sz, 0, 0) M 0 [(0, .ref l0), (1, .int l1), (2, .ref l2), (3, .int l3), (4, .int l4)] [] := by
  unfold P_X4_startCode at h
  refine ww_aload_n 0 X dX4_startCode_0 0 rfl rfl ?_
  refine ww_iload_n 1 X dX4_startCode_1 1 rfl rfl ?_
  obtain ⟨_, f2, h⟩ := bO_some h
  obtain ⟨M2, e2, h⟩ := bO_some h
  refine ww_callVV0 2 X dX4_startCode_2 mY_X4_start mL_X4_88 (rcv_spec f2) ⟨_, _, rfl⟩ (by decide) (As := [.int l1]) (rest := []) rfl rfl ⟨Nat.le_of_ble_eq_true rfl, Nat.le_of_ble_eq_true rfl⟩ (Nat.le_of_ble_eq_true rfl) (fun l D A => c_X4_start l D A e2) ?_
  refine ww_aload_n 5 X dX4_startCode_5 0 rfl rfl ?_
  obtain ⟨v6, e6, h⟩ := bO_some h
  refine ww_getR 6 X dX4_startCode_6 fG_X4_38 e6 ?_
  obtain ⟨_, f9, h⟩ := bO_some h
  obtain ⟨M9, e9, h⟩ := bO_some h
  refine ww_callVV0 9 X dX4_startCode_9 mY_X0_clear mL_X4_91 (rcv_spec f9) ⟨_, _, rfl⟩ (by decide) (As := []) (rest := []) rfl rfl ⟨Nat.le_of_ble_eq_true rfl, Nat.le_of_ble_eq_true rfl⟩ (Nat.le_of_ble_eq_true rfl) (fun l D A => c_X0_clear l D A e9) ?_
  refine ww_iload 12 X dX4_startCode_12 4 rfl ?_
  refine ww_iload_n 14 X dX4_startCode_14 3 rfl rfl ?_
  refine ww_isub 15 X dX4_startCode_15 ?_
  refine ww_aload_n 16 X dX4_startCode_16 0 rfl rfl ?_
  obtain ⟨v17, e17, h⟩ := bO_some h
  refine ww_getI 17 X dX4_startCode_17 fG_X4_7 e17 ?_
  refine ww_icmp_le 20 27 X dX4_startCode_20 (by decide) (fun q => ?_) (fun q => ?_)
  · replace h := (if_pos q).symm.trans h
    refine ww_iconst 27 X (v := (0 : Int32)) dX4_startCode_27 (by decide) ?_
    exact (wB_X4_startCode_28 X hQ h)
  · replace h := (if_neg q).symm.trans h
    refine ww_iconst 23 X (v := (1 : Int32)) dX4_startCode_23 (by decide) ?_
    refine ww_goto 24 28 X dX4_startCode_24 (by decide) ?_
    exact (wB_X4_startCode_28 X hQ h)
theorem c_X4_startCode {G : mG} {F sz : Nat} {M0 : mM} (l : Launch) (D : mD) (A : Nat → Prop) {l0 : Nat} {l1 : Int32} {l2 : Nat} {l3 : Int32} {l4 : Int32} {M : mM} (h : P_X4_startCode G F l0 l1 l2 l3 l4 M = some M0) : mMetV l D G A yX4_startCode cX4_startCode 7 none 3 91 0 0 [.ref l0, .int l1, .ref l2, .int l3, .int l4] M sz M0 sz := mMetV_of l D G A (by decide) (Nat.le_of_ble_eq_true rfl) (fun x X hQ => wP_X4_startCode X hQ h)
/-! SealedTokens$Digest.addWord(I)V -/
theorem dX4_addWord_0 : decode cX4_addWord 0 = .ok (.aload_n 0, 1) := by decide +kernel
theorem dX4_addWord_1 : decode cX4_addWord 1 = .ok (.iload_n 1, 1) := by decide +kernel
theorem dX4_addWord_2 : decode cX4_addWord 2 = .ok (.bipush 24, 2) := by decide +kernel
theorem dX4_addWord_4 : decode cX4_addWord 4 = .ok (.iushr, 1) := by decide +kernel
theorem dX4_addWord_5 : decode cX4_addWord 5 = .ok (.invokevirtual 68, 3) := by decide +kernel
theorem dX4_addWord_8 : decode cX4_addWord 8 = .ok (.aload_n 0, 1) := by decide +kernel
theorem dX4_addWord_9 : decode cX4_addWord 9 = .ok (.iload_n 1, 1) := by decide +kernel
theorem dX4_addWord_10 : decode cX4_addWord 10 = .ok (.bipush 16, 2) := by decide +kernel
theorem dX4_addWord_12 : decode cX4_addWord 12 = .ok (.iushr, 1) := by decide +kernel
theorem dX4_addWord_13 : decode cX4_addWord 13 = .ok (.sipush 255, 3) := by decide +kernel
theorem dX4_addWord_16 : decode cX4_addWord 16 = .ok (.iand, 1) := by decide +kernel
theorem dX4_addWord_17 : decode cX4_addWord 17 = .ok (.invokevirtual 68, 3) := by decide +kernel
theorem dX4_addWord_20 : decode cX4_addWord 20 = .ok (.aload_n 0, 1) := by decide +kernel
theorem dX4_addWord_21 : decode cX4_addWord 21 = .ok (.iload_n 1, 1) := by decide +kernel
theorem dX4_addWord_22 : decode cX4_addWord 22 = .ok (.bipush 8, 2) := by decide +kernel
theorem dX4_addWord_24 : decode cX4_addWord 24 = .ok (.iushr, 1) := by decide +kernel
theorem dX4_addWord_25 : decode cX4_addWord 25 = .ok (.sipush 255, 3) := by decide +kernel
theorem dX4_addWord_28 : decode cX4_addWord 28 = .ok (.iand, 1) := by decide +kernel
theorem dX4_addWord_29 : decode cX4_addWord 29 = .ok (.invokevirtual 68, 3) := by decide +kernel
theorem dX4_addWord_32 : decode cX4_addWord 32 = .ok (.aload_n 0, 1) := by decide +kernel
theorem dX4_addWord_33 : decode cX4_addWord 33 = .ok (.iload_n 1, 1) := by decide +kernel
theorem dX4_addWord_34 : decode cX4_addWord 34 = .ok (.sipush 255, 3) := by decide +kernel
theorem dX4_addWord_37 : decode cX4_addWord 37 = .ok (.iand, 1) := by decide +kernel
theorem dX4_addWord_38 : decode cX4_addWord 38 = .ok (.invokevirtual 68, 3) := by decide +kernel
theorem dX4_addWord_41 : decode cX4_addWord 41 = .ok (.return_, 1) := by decide +kernel
abbrev rmX4_addWord : Room := { frames := 2, cells := 0, slots := 0, locals := 67 }
set_option maxHeartbeats 4000000 in
set_option maxRecDepth 100000 in
theorem wP_X4_addWord {G : mG} {F : Nat} {x : mXT} {sz : Nat} {M0 : mM} (X : mCX G RX4 cX4_addWord 2 none "addWord" rmX4_addWord x) (hQ : mQV x M0 (sz, 0, 0)) {l0 : Nat} {l1 : Int32} {M : mM} (h : P_X4_addWord G F l0 l1 M = some M0) : WW x (sz, 0, 0) M 0 [(0, .ref l0), (1, .int l1)] [] := by
  unfold P_X4_addWord at h
  refine ww_aload_n 0 X dX4_addWord_0 0 rfl rfl ?_
  refine ww_iload_n 1 X dX4_addWord_1 1 rfl rfl ?_
  refine ww_bipush 2 X (v := (24 : Int32)) dX4_addWord_2 (by decide) ?_
  refine ww_iushr 4 X dX4_addWord_4 ?_
  obtain ⟨_, f5, h⟩ := bO_some h
  obtain ⟨M5, e5, h⟩ := bO_some h
  refine ww_callVV0 5 X dX4_addWord_5 mY_X4_addByte mL_X4_68 (rcv_spec f5) ⟨_, _, rfl⟩ (by decide) (As := [.int (ushI l1 (24 : Int32))]) (rest := []) rfl rfl ⟨Nat.le_of_ble_eq_true rfl, Nat.le_of_ble_eq_true rfl⟩ (Nat.le_of_ble_eq_true rfl) (fun l D A => c_X4_addByte l D A e5) ?_
  refine ww_aload_n 8 X dX4_addWord_8 0 rfl rfl ?_
  refine ww_iload_n 9 X dX4_addWord_9 1 rfl rfl ?_
  refine ww_bipush 10 X (v := (16 : Int32)) dX4_addWord_10 (by decide) ?_
  refine ww_iushr 12 X dX4_addWord_12 ?_
  refine ww_sipush 13 X (v := (255 : Int32)) dX4_addWord_13 (by decide) ?_
  refine ww_iand 16 X dX4_addWord_16 ?_
  obtain ⟨_, f17, h⟩ := bO_some h
  obtain ⟨M17, e17, h⟩ := bO_some h
  refine ww_callVV0 17 X dX4_addWord_17 mY_X4_addByte mL_X4_68 (rcv_spec f17) ⟨_, _, rfl⟩ (by decide) (As := [.int ((ushI l1 (16 : Int32)) &&& (255 : Int32))]) (rest := []) rfl rfl ⟨Nat.le_of_ble_eq_true rfl, Nat.le_of_ble_eq_true rfl⟩ (Nat.le_of_ble_eq_true rfl) (fun l D A => c_X4_addByte l D A e17) ?_
  refine ww_aload_n 20 X dX4_addWord_20 0 rfl rfl ?_
  refine ww_iload_n 21 X dX4_addWord_21 1 rfl rfl ?_
  refine ww_bipush 22 X (v := (8 : Int32)) dX4_addWord_22 (by decide) ?_
  refine ww_iushr 24 X dX4_addWord_24 ?_
  refine ww_sipush 25 X (v := (255 : Int32)) dX4_addWord_25 (by decide) ?_
  refine ww_iand 28 X dX4_addWord_28 ?_
  obtain ⟨_, f29, h⟩ := bO_some h
  obtain ⟨M29, e29, h⟩ := bO_some h
  refine ww_callVV0 29 X dX4_addWord_29 mY_X4_addByte mL_X4_68 (rcv_spec f29) ⟨_, _, rfl⟩ (by decide) (As := [.int ((ushI l1 (8 : Int32)) &&& (255 : Int32))]) (rest := []) rfl rfl ⟨Nat.le_of_ble_eq_true rfl, Nat.le_of_ble_eq_true rfl⟩ (Nat.le_of_ble_eq_true rfl) (fun l D A => c_X4_addByte l D A e29) ?_
  refine ww_aload_n 32 X dX4_addWord_32 0 rfl rfl ?_
  refine ww_iload_n 33 X dX4_addWord_33 1 rfl rfl ?_
  refine ww_sipush 34 X (v := (255 : Int32)) dX4_addWord_34 (by decide) ?_
  refine ww_iand 37 X dX4_addWord_37 ?_
  obtain ⟨_, f38, h⟩ := bO_some h
  obtain ⟨M38, e38, h⟩ := bO_some h
  refine ww_callVV0 38 X dX4_addWord_38 mY_X4_addByte mL_X4_68 (rcv_spec f38) ⟨_, _, rfl⟩ (by decide) (As := [.int (l1 &&& (255 : Int32))]) (rest := []) rfl rfl ⟨Nat.le_of_ble_eq_true rfl, Nat.le_of_ble_eq_true rfl⟩ (Nat.le_of_ble_eq_true rfl) (fun l D A => c_X4_addByte l D A e38) ?_
  exact ww_vretE 41 X hQ dX4_addWord_41 h
theorem c_X4_addWord {G : mG} {F sz : Nat} {M0 : mM} (l : Launch) (D : mD) (A : Nat → Prop) {l0 : Nat} {l1 : Int32} {M : mM} (h : P_X4_addWord G F l0 l1 M = some M0) : mMetV l D G A yX4_addWord cX4_addWord 2 none 2 67 0 0 [.ref l0, .int l1] M sz M0 sz := mMetV_of l D G A (by decide) (Nat.le_of_ble_eq_true rfl) (fun x X hQ => wP_X4_addWord X hQ h)
/-! SealedTokens$Digest.finishCode(LSealedTokens$Bytes;)V -/
theorem dX4_finishCode_0 : decode cX4_finishCode 0 = .ok (.aload_n 0, 1) := by decide +kernel
theorem dX4_finishCode_1 : decode cX4_finishCode 1 = .ok (.getfield 38, 3) := by decide +kernel
theorem dX4_finishCode_4 : decode cX4_finishCode 4 = .ok (.invokevirtual 91, 3) := by decide +kernel
theorem dX4_finishCode_7 : decode cX4_finishCode 7 = .ok (.aload_n 0, 1) := by decide +kernel
theorem dX4_finishCode_8 : decode cX4_finishCode 8 = .ok (.aload_n 0, 1) := by decide +kernel
theorem dX4_finishCode_9 : decode cX4_finishCode 9 = .ok (.getfield 38, 3) := by decide +kernel
theorem dX4_finishCode_12 : decode cX4_finishCode 12 = .ok (.invokevirtual 98, 3) := by decide +kernel
theorem dX4_finishCode_15 : decode cX4_finishCode 15 = .ok (.aload_n 0, 1) := by decide +kernel
theorem dX4_finishCode_16 : decode cX4_finishCode 16 = .ok (.aload_n 0, 1) := by decide +kernel
theorem dX4_finishCode_17 : decode cX4_finishCode 17 = .ok (.getfield 42, 3) := by decide +kernel
theorem dX4_finishCode_20 : decode cX4_finishCode 20 = .ok (.ifCond .eq 9, 3) := by decide +kernel
theorem dX4_finishCode_23 : decode cX4_finishCode 23 = .ok (.sipush 512, 3) := by decide +kernel
theorem dX4_finishCode_26 : decode cX4_finishCode 26 = .ok (.goto 6, 3) := by decide +kernel
theorem dX4_finishCode_29 : decode cX4_finishCode 29 = .ok (.sipush 256, 3) := by decide +kernel
theorem dX4_finishCode_32 : decode cX4_finishCode 32 = .ok (.invokevirtual 88, 3) := by decide +kernel
theorem dX4_finishCode_35 : decode cX4_finishCode 35 = .ok (.aload_n 0, 1) := by decide +kernel
theorem dX4_finishCode_36 : decode cX4_finishCode 36 = .ok (.bipush 92, 2) := by decide +kernel
theorem dX4_finishCode_38 : decode cX4_finishCode 38 = .ok (.invokevirtual 102, 3) := by decide +kernel
theorem dX4_finishCode_41 : decode cX4_finishCode 41 = .ok (.aload_n 0, 1) := by decide +kernel
theorem dX4_finishCode_42 : decode cX4_finishCode 42 = .ok (.aload_n 0, 1) := by decide +kernel
theorem dX4_finishCode_43 : decode cX4_finishCode 43 = .ok (.getfield 38, 3) := by decide +kernel
theorem dX4_finishCode_46 : decode cX4_finishCode 46 = .ok (.iconst 0, 1) := by decide +kernel
theorem dX4_finishCode_47 : decode cX4_finishCode 47 = .ok (.aload_n 0, 1) := by decide +kernel
theorem dX4_finishCode_48 : decode cX4_finishCode 48 = .ok (.getfield 38, 3) := by decide +kernel
theorem dX4_finishCode_51 : decode cX4_finishCode 51 = .ok (.getfield 105, 3) := by decide +kernel
theorem dX4_finishCode_54 : decode cX4_finishCode 54 = .ok (.invokevirtual 94, 3) := by decide +kernel
theorem dX4_finishCode_57 : decode cX4_finishCode 57 = .ok (.aload_n 0, 1) := by decide +kernel
theorem dX4_finishCode_58 : decode cX4_finishCode 58 = .ok (.aload_n 1, 1) := by decide +kernel
theorem dX4_finishCode_59 : decode cX4_finishCode 59 = .ok (.invokevirtual 98, 3) := by decide +kernel
theorem dX4_finishCode_62 : decode cX4_finishCode 62 = .ok (.return_, 1) := by decide +kernel
abbrev rmX4_finishCode : Room := { frames := 3, cells := 0, slots := 0, locals := 91 }
set_option maxHeartbeats 4000000 in
set_option maxRecDepth 100000 in
theorem wB_X4_finishCode_32 {G : mG} {F : Nat} {x : mXT} {sz : Nat} {M0 : mM} (X : mCX G RX4 cX4_finishCode 2 none "finishCode" rmX4_finishCode x) (hQ : mQV x M0 (sz, 0, 0)) {l0 : Nat} {l1 : Nat} {sk0 : Nat} {sk1 : Int32} {M : mM} (h : B_X4_finishCode_32 G F l0 l1 sk0 sk1 M = some M0) : WW x (sz, 0, 0) M 32 [(0, .ref l0), (1, .ref l1)] [.int sk1, .ref sk0] := by
  unfold B_X4_finishCode_32 at h
  obtain ⟨_, f32, h⟩ := bO_some h
  obtain ⟨M32, e32, h⟩ := bO_some h
  refine ww_callVV0 32 X dX4_finishCode_32 mY_X4_start mL_X4_88 (rcv_spec f32) ⟨_, _, rfl⟩ (by decide) (As := [.int sk1]) (rest := []) rfl rfl ⟨Nat.le_of_ble_eq_true rfl, Nat.le_of_ble_eq_true rfl⟩ (Nat.le_of_ble_eq_true rfl) (fun l D A => c_X4_start l D A e32) ?_
  refine ww_aload_n 35 X dX4_finishCode_35 0 rfl rfl ?_
  refine ww_bipush 36 X (v := (92 : Int32)) dX4_finishCode_36 (by decide) ?_
  obtain ⟨_, f38, h⟩ := bO_some h
  obtain ⟨M38, e38, h⟩ := bO_some h
  refine ww_callVV0 38 X dX4_finishCode_38 mY_X4_addKeyBlock mL_X4_102 (rcv_spec f38) ⟨_, _, rfl⟩ (by decide) (As := [.int (92 : Int32)]) (rest := []) rfl rfl ⟨Nat.le_of_ble_eq_true rfl, Nat.le_of_ble_eq_true rfl⟩ (Nat.le_of_ble_eq_true rfl) (fun l D A => c_X4_addKeyBlock l D A e38) ?_
  refine ww_aload_n 41 X dX4_finishCode_41 0 rfl rfl ?_
  refine ww_aload_n 42 X dX4_finishCode_42 0 rfl rfl ?_
  obtain ⟨v43, e43, h⟩ := bO_some h
  refine ww_getR 43 X dX4_finishCode_43 fG_X4_38 e43 ?_
  refine ww_iconst 46 X (v := (0 : Int32)) dX4_finishCode_46 (by decide) ?_
  refine ww_aload_n 47 X dX4_finishCode_47 0 rfl rfl ?_
  obtain ⟨v48, e48, h⟩ := bO_some h
  refine ww_getR 48 X dX4_finishCode_48 fG_X4_38 e48 ?_
  obtain ⟨v51, e51, h⟩ := bO_some h
  refine ww_getI 51 X dX4_finishCode_51 fG_X4_105 e51 ?_
  obtain ⟨_, f54, h⟩ := bO_some h
  obtain ⟨M54, e54, h⟩ := bO_some h
  refine ww_callVV0 54 X dX4_finishCode_54 mY_X4_add mL_X4_94 (rcv_spec f54) ⟨_, _, rfl⟩ (by decide) (As := [.ref v43, .int (0 : Int32), .int v51]) (rest := []) rfl rfl ⟨Nat.le_of_ble_eq_true rfl, Nat.le_of_ble_eq_true rfl⟩ (Nat.le_of_ble_eq_true rfl) (fun l D A => c_X4_add l D A e54) ?_
  refine ww_aload_n 57 X dX4_finishCode_57 0 rfl rfl ?_
  refine ww_aload_n 58 X dX4_finishCode_58 1 rfl rfl ?_
  obtain ⟨_, f59, h⟩ := bO_some h
  obtain ⟨M59, e59, h⟩ := bO_some h
  refine ww_callVV0 59 X dX4_finishCode_59 mY_X4_finish mL_X4_98 (rcv_spec f59) ⟨_, _, rfl⟩ (by decide) (As := [.ref l1]) (rest := []) rfl rfl ⟨Nat.le_of_ble_eq_true rfl, Nat.le_of_ble_eq_true rfl⟩ (Nat.le_of_ble_eq_true rfl) (fun l D A => c_X4_finish l D A e59) ?_
  exact ww_vretE 62 X hQ dX4_finishCode_62 h
set_option maxHeartbeats 4000000 in
set_option maxRecDepth 100000 in
theorem wP_X4_finishCode {G : mG} {F : Nat} {x : mXT} {sz : Nat} {M0 : mM} (X : mCX G RX4 cX4_finishCode 2 none "finishCode" rmX4_finishCode x) (hQ : mQV x M0 (sz, 0, 0)) {l0 : Nat} {l1 : Nat} {M : mM} (h : P_X4_finishCode G F l0 l1 M = some M0) : WW x (sz, 0, 0) M 0 [(0, .ref l0), (1, .ref l1)] [] := by
  unfold P_X4_finishCode at h
  refine ww_aload_n 0 X dX4_finishCode_0 0 rfl rfl ?_
  obtain ⟨v1, e1, h⟩ := bO_some h
  refine ww_getR 1 X dX4_finishCode_1 fG_X4_38 e1 ?_
  obtain ⟨_, f4, h⟩ := bO_some h
  obtain ⟨M4, e4, h⟩ := bO_some h
  refine ww_callVV0 4 X dX4_finishCode_4 mY_X0_clear mL_X4_91 (rcv_spec f4) ⟨_, _, rfl⟩ (by decide) (As := []) (rest := []) rfl rfl ⟨Nat.le_of_ble_eq_true rfl, Nat.le_of_ble_eq_true rfl⟩ (Nat.le_of_ble_eq_true rfl) (fun l D A => c_X0_clear l D A e4) ?_
  refine ww_aload_n 7 X dX4_finishCode_7 0 rfl rfl ?_
  refine ww_aload_n 8 X dX4_finishCode_8 0 rfl rfl ?_
  obtain ⟨v9, e9, h⟩ := bO_some h
  refine ww_getR 9 X dX4_finishCode_9 fG_X4_38 e9 ?_
  obtain ⟨_, f12, h⟩ := bO_some h
  obtain ⟨M12, e12, h⟩ := bO_some h
  refine ww_callVV0 12 X dX4_finishCode_12 mY_X4_finish mL_X4_98 (rcv_spec f12) ⟨_, _, rfl⟩ (by decide) (As := [.ref v9]) (rest := []) rfl rfl ⟨Nat.le_of_ble_eq_true rfl, Nat.le_of_ble_eq_true rfl⟩ (Nat.le_of_ble_eq_true rfl) (fun l D A => c_X4_finish l D A e12) ?_
  refine ww_aload_n 15 X dX4_finishCode_15 0 rfl rfl ?_
  refine ww_aload_n 16 X dX4_finishCode_16 0 rfl rfl ?_
  obtain ⟨v17, e17, h⟩ := bO_some h
  refine ww_getI 17 X dX4_finishCode_17 fG_X4_42 e17 ?_
  refine ww_if_eq 20 29 X dX4_finishCode_20 (by decide) (fun q => ?_) (fun q => ?_)
  · replace h := (if_pos q).symm.trans h
    refine ww_sipush 29 X (v := (256 : Int32)) dX4_finishCode_29 (by decide) ?_
    exact (wB_X4_finishCode_32 X hQ h)
  · replace h := (if_neg q).symm.trans h
    refine ww_sipush 23 X (v := (512 : Int32)) dX4_finishCode_23 (by decide) ?_
    refine ww_goto 26 32 X dX4_finishCode_26 (by decide) ?_
    exact (wB_X4_finishCode_32 X hQ h)
theorem c_X4_finishCode {G : mG} {F sz : Nat} {M0 : mM} (l : Launch) (D : mD) (A : Nat → Prop) {l0 : Nat} {l1 : Nat} {M : mM} (h : P_X4_finishCode G F l0 l1 M = some M0) : mMetV l D G A yX4_finishCode cX4_finishCode 2 none 3 91 0 0 [.ref l0, .ref l1] M sz M0 sz := mMetV_of l D G A (by decide) (Nat.le_of_ble_eq_true rfl) (fun x X hQ => wP_X4_finishCode X hQ h)
/-! SealedTokens$Content.markByCode(ILSealedTokens$Bytes;LSealedTokens$Bytes;LSealedTokens$Bytes;LSealedTokens$Bytes;I)V -/
theorem dX2_markByCode_0 : decode cX2_markByCode 0 = .ok (.aload_n 0, 1) := by decide +kernel
theorem dX2_markByCode_1 : decode cX2_markByCode 1 = .ok (.getfield 29, 3) := by decide +kernel
theorem dX2_markByCode_4 : decode cX2_markByCode 4 = .ok (.iload_n 1, 1) := by decide +kernel
theorem dX2_markByCode_5 : decode cX2_markByCode 5 = .ok (.ifCond .ne 9, 3) := by decide +kernel
theorem dX2_markByCode_8 : decode cX2_markByCode 8 = .ok (.sipush 256, 3) := by decide +kernel
theorem dX2_markByCode_11 : decode cX2_markByCode 11 = .ok (.goto 6, 3) := by decide +kernel
theorem dX2_markByCode_14 : decode cX2_markByCode 14 = .ok (.sipush 512, 3) := by decide +kernel
theorem dX2_markByCode_17 : decode cX2_markByCode 17 = .ok (.aload_n 2, 1) := by decide +kernel
theorem dX2_markByCode_18 : decode cX2_markByCode 18 = .ok (.iconst 0, 1) := by decide +kernel
theorem dX2_markByCode_19 : decode cX2_markByCode 19 = .ok (.aload_n 2, 1) := by decide +kernel
theorem dX2_markByCode_20 : decode cX2_markByCode 20 = .ok (.getfield 44, 3) := by decide +kernel
theorem dX2_markByCode_23 : decode cX2_markByCode 23 = .ok (.iconst 2, 1) := by decide +kernel
theorem dX2_markByCode_24 : decode cX2_markByCode 24 = .ok (.idiv, 1) := by decide +kernel
theorem dX2_markByCode_25 : decode cX2_markByCode 25 = .ok (.invokevirtual 107, 3) := by decide +kernel
theorem dX2_markByCode_28 : decode cX2_markByCode 28 = .ok (.aload_n 0, 1) := by decide +kernel
theorem dX2_markByCode_29 : decode cX2_markByCode 29 = .ok (.getfield 29, 3) := by decide +kernel
theorem dX2_markByCode_32 : decode cX2_markByCode 32 = .ok (.aload 4, 2) := by decide +kernel
theorem dX2_markByCode_34 : decode cX2_markByCode 34 = .ok (.iconst 0, 1) := by decide +kernel
theorem dX2_markByCode_35 : decode cX2_markByCode 35 = .ok (.aload 4, 2) := by decide +kernel
theorem dX2_markByCode_37 : decode cX2_markByCode 37 = .ok (.getfield 44, 3) := by decide +kernel
theorem dX2_markByCode_40 : decode cX2_markByCode 40 = .ok (.invokevirtual 113, 3) := by decide +kernel
theorem dX2_markByCode_43 : decode cX2_markByCode 43 = .ok (.aload_n 0, 1) := by decide +kernel
theorem dX2_markByCode_44 : decode cX2_markByCode 44 = .ok (.getfield 29, 3) := by decide +kernel
theorem dX2_markByCode_47 : decode cX2_markByCode 47 = .ok (.aload_n 3, 1) := by decide +kernel
theorem dX2_markByCode_48 : decode cX2_markByCode 48 = .ok (.iconst 0, 1) := by decide +kernel
theorem dX2_markByCode_49 : decode cX2_markByCode 49 = .ok (.aload_n 3, 1) := by decide +kernel
theorem dX2_markByCode_50 : decode cX2_markByCode 50 = .ok (.getfield 44, 3) := by decide +kernel
theorem dX2_markByCode_53 : decode cX2_markByCode 53 = .ok (.invokevirtual 113, 3) := by decide +kernel
theorem dX2_markByCode_56 : decode cX2_markByCode 56 = .ok (.aload_n 0, 1) := by decide +kernel
theorem dX2_markByCode_57 : decode cX2_markByCode 57 = .ok (.getfield 29, 3) := by decide +kernel
theorem dX2_markByCode_60 : decode cX2_markByCode 60 = .ok (.aload 5, 2) := by decide +kernel
theorem dX2_markByCode_62 : decode cX2_markByCode 62 = .ok (.iconst 0, 1) := by decide +kernel
theorem dX2_markByCode_63 : decode cX2_markByCode 63 = .ok (.iload 6, 2) := by decide +kernel
theorem dX2_markByCode_65 : decode cX2_markByCode 65 = .ok (.invokevirtual 113, 3) := by decide +kernel
theorem dX2_markByCode_68 : decode cX2_markByCode 68 = .ok (.aload_n 0, 1) := by decide +kernel
theorem dX2_markByCode_69 : decode cX2_markByCode 69 = .ok (.getfield 29, 3) := by decide +kernel
theorem dX2_markByCode_72 : decode cX2_markByCode 72 = .ok (.iconst 0, 1) := by decide +kernel
theorem dX2_markByCode_73 : decode cX2_markByCode 73 = .ok (.invokevirtual 116, 3) := by decide +kernel
theorem dX2_markByCode_76 : decode cX2_markByCode 76 = .ok (.aload_n 0, 1) := by decide +kernel
theorem dX2_markByCode_77 : decode cX2_markByCode 77 = .ok (.getfield 29, 3) := by decide +kernel
theorem dX2_markByCode_80 : decode cX2_markByCode 80 = .ok (.aload 4, 2) := by decide +kernel
theorem dX2_markByCode_82 : decode cX2_markByCode 82 = .ok (.getfield 44, 3) := by decide +kernel
theorem dX2_markByCode_85 : decode cX2_markByCode 85 = .ok (.bipush 8, 2) := by decide +kernel
theorem dX2_markByCode_87 : decode cX2_markByCode 87 = .ok (.imul, 1) := by decide +kernel
theorem dX2_markByCode_88 : decode cX2_markByCode 88 = .ok (.invokevirtual 116, 3) := by decide +kernel
theorem dX2_markByCode_91 : decode cX2_markByCode 91 = .ok (.aload_n 0, 1) := by decide +kernel
theorem dX2_markByCode_92 : decode cX2_markByCode 92 = .ok (.getfield 25, 3) := by decide +kernel
theorem dX2_markByCode_95 : decode cX2_markByCode 95 = .ok (.invokevirtual 37, 3) := by decide +kernel
theorem dX2_markByCode_98 : decode cX2_markByCode 98 = .ok (.aload_n 0, 1) := by decide +kernel
theorem dX2_markByCode_99 : decode cX2_markByCode 99 = .ok (.getfield 29, 3) := by decide +kernel
theorem dX2_markByCode_102 : decode cX2_markByCode 102 = .ok (.aload_n 0, 1) := by decide +kernel
theorem dX2_markByCode_103 : decode cX2_markByCode 103 = .ok (.getfield 25, 3) := by decide +kernel
theorem dX2_markByCode_106 : decode cX2_markByCode 106 = .ok (.invokevirtual 119, 3) := by decide +kernel
theorem dX2_markByCode_109 : decode cX2_markByCode 109 = .ok (.aload_n 0, 1) := by decide +kernel
theorem dX2_markByCode_110 : decode cX2_markByCode 110 = .ok (.getfield 25, 3) := by decide +kernel
theorem dX2_markByCode_113 : decode cX2_markByCode 113 = .ok (.getstatic 64, 3) := by decide +kernel
theorem dX2_markByCode_116 : decode cX2_markByCode 116 = .ok (.iload_n 1, 1) := by decide +kernel
theorem dX2_markByCode_117 : decode cX2_markByCode 117 = .ok (.iaload, 1) := by decide +kernel
theorem dX2_markByCode_118 : decode cX2_markByCode 118 = .ok (.invokevirtual 104, 3) := by decide +kernel
theorem dX2_markByCode_121 : decode cX2_markByCode 121 = .ok (.return_, 1) := by decide +kernel
abbrev rmX2_markByCode : Room := { frames := 4, cells := 0, slots := 0, locals := 117 }
set_option maxHeartbeats 4000000 in
set_option maxRecDepth 100000 in
theorem wB_X2_markByCode_17 {G : mG} {F : Nat} {x : mXT} {sz : Nat} {M0 : mM} (X : mCX G RX2 cX2_markByCode 7 none "markByCode" rmX2_markByCode x) (hQ : mQV x M0 (sz, 0, 0)) {l0 : Nat} {l1 : Int32} {l2 : Nat} {l3 : Nat} {l4 : Nat} {l5 : Nat} {l6 : Int32} {sk0 : Nat} {sk1 : Int32} {M : mM} (h : B_X2_markByCode_17 G F l0 l1 l2 l3 l4 l5 l6 sk0 sk1 M = some M0) : WW x (sz, 0, 0) M 17 [(0, .ref l0), (1, .int l1), (2, .ref l2), (3, .ref l3), (4, .ref l4), (5, .ref l5), (6, .int l6)] [.int sk1, .ref sk0] := by
  unfold B_X2_markByCode_17 at h
  refine ww_aload_n 17 X dX2_markByCode_17 2 rfl rfl ?_
  refine ww_iconst 18 X (v := (0 : Int32)) dX2_markByCode_18 (by decide) ?_
  refine ww_aload_n 19 X dX2_markByCode_19 2 rfl rfl ?_
  obtain ⟨v20, e20, h⟩ := bO_some h
  refine ww_getI 20 X dX2_markByCode_20 fG_X2_44 e20 ?_
  refine ww_iconst 23 X (v := (2 : Int32)) dX2_markByCode_23 (by decide) ?_
  refine ww_idiv 24 X (v := (v20 / (2 : Int32))) dX2_markByCode_24 rfl ?_
  obtain ⟨_, f25, h⟩ := bO_some h
  obtain ⟨M25, e25, h⟩ := bO_some h
  refine ww_callVV0 25 X dX2_markByCode_25 mY_X4_startCode mL_X2_107 (rcv_spec f25) ⟨_, _, rfl⟩ (by decide) (As := [.int sk1, .ref l2, .int (0 : Int32), .int (v20 / (2 : Int32))]) (rest := []) rfl rfl ⟨Nat.le_of_ble_eq_true rfl, Nat.le_of_ble_eq_true rfl⟩ (Nat.le_of_ble_eq_true rfl) (fun l D A => c_X4_startCode l D A e25) ?_
  refine ww_aload_n 28 X dX2_markByCode_28 0 rfl rfl ?_
  obtain ⟨v29, e29, h⟩ := bO_some h
  refine ww_getR 29 X dX2_markByCode_29 fG_X2_29 e29 ?_
  refine ww_aload 32 X dX2_markByCode_32 4 rfl ?_
  refine ww_iconst 34 X (v := (0 : Int32)) dX2_markByCode_34 (by decide) ?_
  refine ww_aload 35 X dX2_markByCode_35 4 rfl ?_
  obtain ⟨v37, e37, h⟩ := bO_some h
  refine ww_getI 37 X dX2_markByCode_37 fG_X2_44 e37 ?_
  obtain ⟨_, f40, h⟩ := bO_some h
  obtain ⟨M40, e40, h⟩ := bO_some h
  refine ww_callVV0 40 X dX2_markByCode_40 mY_X4_add mL_X2_113 (rcv_spec f40) ⟨_, _, rfl⟩ (by decide) (As := [.ref l4, .int (0 : Int32), .int v37]) (rest := []) rfl rfl ⟨Nat.le_of_ble_eq_true rfl, Nat.le_of_ble_eq_true rfl⟩ (Nat.le_of_ble_eq_true rfl) (fun l D A => c_X4_add l D A e40) ?_
  refine ww_aload_n 43 X dX2_markByCode_43 0 rfl rfl ?_
  obtain ⟨v44, e44, h⟩ := bO_some h
  refine ww_getR 44 X dX2_markByCode_44 fG_X2_29 e44 ?_
  refine ww_aload_n 47 X dX2_markByCode_47 3 rfl rfl ?_
  refine ww_iconst 48 X (v := (0 : Int32)) dX2_markByCode_48 (by decide) ?_
  refine ww_aload_n 49 X dX2_markByCode_49 3 rfl rfl ?_
  obtain ⟨v50, e50, h⟩ := bO_some h
  refine ww_getI 50 X dX2_markByCode_50 fG_X2_44 e50 ?_
  obtain ⟨_, f53, h⟩ := bO_some h
  obtain ⟨M53, e53, h⟩ := bO_some h
  refine ww_callVV0 53 X dX2_markByCode_53 mY_X4_add mL_X2_113 (rcv_spec f53) ⟨_, _, rfl⟩ (by decide) (As := [.ref l3, .int (0 : Int32), .int v50]) (rest := []) rfl rfl ⟨Nat.le_of_ble_eq_true rfl, Nat.le_of_ble_eq_true rfl⟩ (Nat.le_of_ble_eq_true rfl) (fun l D A => c_X4_add l D A e53) ?_
  refine ww_aload_n 56 X dX2_markByCode_56 0 rfl rfl ?_
  obtain ⟨v57, e57, h⟩ := bO_some h
  refine ww_getR 57 X dX2_markByCode_57 fG_X2_29 e57 ?_
  refine ww_aload 60 X dX2_markByCode_60 5 rfl ?_
  refine ww_iconst 62 X (v := (0 : Int32)) dX2_markByCode_62 (by decide) ?_
  refine ww_iload 63 X dX2_markByCode_63 6 rfl ?_
  obtain ⟨_, f65, h⟩ := bO_some h
  obtain ⟨M65, e65, h⟩ := bO_some h
  refine ww_callVV0 65 X dX2_markByCode_65 mY_X4_add mL_X2_113 (rcv_spec f65) ⟨_, _, rfl⟩ (by decide) (As := [.ref l5, .int (0 : Int32), .int l6]) (rest := []) rfl rfl ⟨Nat.le_of_ble_eq_true rfl, Nat.le_of_ble_eq_true rfl⟩ (Nat.le_of_ble_eq_true rfl) (fun l D A => c_X4_add l D A e65) ?_
  refine ww_aload_n 68 X dX2_markByCode_68 0 rfl rfl ?_
  obtain ⟨v69, e69, h⟩ := bO_some h
  refine ww_getR 69 X dX2_markByCode_69 fG_X2_29 e69 ?_
  refine ww_iconst 72 X (v := (0 : Int32)) dX2_markByCode_72 (by decide) ?_
  obtain ⟨_, f73, h⟩ := bO_some h
  obtain ⟨M73, e73, h⟩ := bO_some h
  refine ww_callVV0 73 X dX2_markByCode_73 mY_X4_addWord mL_X2_116 (rcv_spec f73) ⟨_, _, rfl⟩ (by decide) (As := [.int (0 : Int32)]) (rest := []) rfl rfl ⟨Nat.le_of_ble_eq_true rfl, Nat.le_of_ble_eq_true rfl⟩ (Nat.le_of_ble_eq_true rfl) (fun l D A => c_X4_addWord l D A e73) ?_
  refine ww_aload_n 76 X dX2_markByCode_76 0 rfl rfl ?_
  obtain ⟨v77, e77, h⟩ := bO_some h
  refine ww_getR 77 X dX2_markByCode_77 fG_X2_29 e77 ?_
  refine ww_aload 80 X dX2_markByCode_80 4 rfl ?_
  obtain ⟨v82, e82, h⟩ := bO_some h
  refine ww_getI 82 X dX2_markByCode_82 fG_X2_44 e82 ?_
  refine ww_bipush 85 X (v := (8 : Int32)) dX2_markByCode_85 (by decide) ?_
  refine ww_imul 87 X dX2_markByCode_87 ?_
  obtain ⟨_, f88, h⟩ := bO_some h
  obtain ⟨M88, e88, h⟩ := bO_some h
  refine ww_callVV0 88 X dX2_markByCode_88 mY_X4_addWord mL_X2_116 (rcv_spec f88) ⟨_, _, rfl⟩ (by decide) (As := [.int (v82 * (8 : Int32))]) (rest := []) rfl rfl ⟨Nat.le_of_ble_eq_true rfl, Nat.le_of_ble_eq_true rfl⟩ (Nat.le_of_ble_eq_true rfl) (fun l D A => c_X4_addWord l D A e88) ?_
  refine ww_aload_n 91 X dX2_markByCode_91 0 rfl rfl ?_
  obtain ⟨v92, e92, h⟩ := bO_some h
  refine ww_getR 92 X dX2_markByCode_92 fG_X2_25 e92 ?_
  obtain ⟨_, f95, h⟩ := bO_some h
  obtain ⟨M95, e95, h⟩ := bO_some h
  refine ww_callVV0 95 X dX2_markByCode_95 mY_X0_clear mL_X2_37 (rcv_spec f95) ⟨_, _, rfl⟩ (by decide) (As := []) (rest := []) rfl rfl ⟨Nat.le_of_ble_eq_true rfl, Nat.le_of_ble_eq_true rfl⟩ (Nat.le_of_ble_eq_true rfl) (fun l D A => c_X0_clear l D A e95) ?_
  refine ww_aload_n 98 X dX2_markByCode_98 0 rfl rfl ?_
  obtain ⟨v99, e99, h⟩ := bO_some h
  refine ww_getR 99 X dX2_markByCode_99 fG_X2_29 e99 ?_
  refine ww_aload_n 102 X dX2_markByCode_102 0 rfl rfl ?_
  obtain ⟨v103, e103, h⟩ := bO_some h
  refine ww_getR 103 X dX2_markByCode_103 fG_X2_25 e103 ?_
  obtain ⟨_, f106, h⟩ := bO_some h
  obtain ⟨M106, e106, h⟩ := bO_some h
  refine ww_callVV0 106 X dX2_markByCode_106 mY_X4_finishCode mL_X2_119 (rcv_spec f106) ⟨_, _, rfl⟩ (by decide) (As := [.ref v103]) (rest := []) rfl rfl ⟨Nat.le_of_ble_eq_true rfl, Nat.le_of_ble_eq_true rfl⟩ (Nat.le_of_ble_eq_true rfl) (fun l D A => c_X4_finishCode l D A e106) ?_
  refine ww_aload_n 109 X dX2_markByCode_109 0 rfl rfl ?_
  obtain ⟨v110, e110, h⟩ := bO_some h
  refine ww_getR 110 X dX2_markByCode_110 fG_X2_25 e110 ?_
  refine ww_gets 113 X dX2_markByCode_113 gS_X2_64 ?_
  refine ww_iload_n 116 X dX2_markByCode_116 1 rfl rfl ?_
  obtain ⟨v117, e117, h⟩ := bO_some h
  refine ww_iald 117 X dX2_markByCode_117 e117 ?_
  obtain ⟨_, f118, h⟩ := bO_some h
  obtain ⟨M118, e118, h⟩ := bO_some h
  refine ww_callVV0 118 X dX2_markByCode_118 mY_X0_cutTo mL_X2_104 (rcv_spec f118) ⟨_, _, rfl⟩ (by decide) (As := [.int v117]) (rest := []) rfl rfl ⟨Nat.le_of_ble_eq_true rfl, Nat.le_of_ble_eq_true rfl⟩ (Nat.le_of_ble_eq_true rfl) (fun l D A => c_X0_cutTo l D A e118) ?_
  exact ww_vretE 121 X hQ dX2_markByCode_121 h
set_option maxHeartbeats 4000000 in
set_option maxRecDepth 100000 in
theorem wP_X2_markByCode {G : mG} {F : Nat} {x : mXT} {sz : Nat} {M0 : mM} (X : mCX G RX2 cX2_markByCode 7 none "markByCode" rmX2_markByCode x) (hQ : mQV x M0 (sz, 0, 0)) {l0 : Nat} {l1 : Int32} {l2 : Nat} {l3 : Nat} {l4 : Nat} {l5 : Nat} {l6 : Int32} {M : mM} (h : P_X2_markByCode G F l0 l1 l2 l3 l4 l5 l6 M = some M0) : WW x (sz, 0, 0) M 0 [(0, .ref l0), (1, .int l1), (2, .ref l2), (3, .ref l3), (4, .ref l4), (5, .ref l5), (6, .int l6)] [] := by
  unfold P_X2_markByCode at h
  refine ww_aload_n 0 X dX2_markByCode_0 0 rfl rfl ?_
  obtain ⟨v1, e1, h⟩ := bO_some h
  refine ww_getR 1 X dX2_markByCode_1 fG_X2_29 e1 ?_
  refine ww_iload_n 4 X dX2_markByCode_4 1 rfl rfl ?_
  refine ww_if_ne 5 14 X dX2_markByCode_5 (by decide) (fun q => ?_) (fun q => ?_)
  · replace h := (if_neg q).symm.trans h
    refine ww_sipush 14 X (v := (512 : Int32)) dX2_markByCode_14 (by decide) ?_
    exact (wB_X2_markByCode_17 X hQ h)
  · replace h := (if_pos q).symm.trans h
    refine ww_sipush 8 X (v := (256 : Int32)) dX2_markByCode_8 (by decide) ?_
    refine ww_goto 11 17 X dX2_markByCode_11 (by decide) ?_
    exact (wB_X2_markByCode_17 X hQ h)
theorem c_X2_markByCode {G : mG} {F sz : Nat} {M0 : mM} (l : Launch) (D : mD) (A : Nat → Prop) {l0 : Nat} {l1 : Int32} {l2 : Nat} {l3 : Nat} {l4 : Nat} {l5 : Nat} {l6 : Int32} {M : mM} (h : P_X2_markByCode G F l0 l1 l2 l3 l4 l5 l6 M = some M0) : mMetV l D G A yX2_markByCode cX2_markByCode 7 none 4 117 0 0 [.ref l0, .int l1, .ref l2, .ref l3, .ref l4, .ref l5, .int l6] M sz M0 sz := mMetV_of l D G A (by decide) (Nat.le_of_ble_eq_true rfl) (fun x X hQ => wP_X2_markByCode X hQ h)
/-! SealedTokens$Content.startCounter(LSealedTokens$Bytes;I)V -/
theorem dX2_startCounter_0 : decode cX2_startCounter 0 = .ok (.iconst 0, 1) := by decide +kernel
theorem dX2_startCounter_1 : decode cX2_startCounter 1 = .ok (.istore_n 3, 1) := by decide +kernel
theorem dX2_startCounter_2 : decode cX2_startCounter 2 = .ok (.iload_n 3, 1) := by decide +kernel
theorem dX2_startCounter_3 : decode cX2_startCounter 3 = .ok (.bipush 12, 2) := by decide +kernel
theorem dX2_startCounter_5 : decode cX2_startCounter 5 = .ok (.if_icmp .ge 20, 3) := by decide +kernel
theorem dX2_startCounter_8 : decode cX2_startCounter 8 = .ok (.aload_n 0, 1) := by decide +kernel
theorem dX2_startCounter_9 : decode cX2_startCounter 9 = .ok (.getfield 11, 3) := by decide +kernel
theorem dX2_startCounter_12 : decode cX2_startCounter 12 = .ok (.iload_n 3, 1) := by decide +kernel
theorem dX2_startCounter_13 : decode cX2_startCounter 13 = .ok (.aload_n 1, 1) := by decide +kernel
theorem dX2_startCounter_14 : decode cX2_startCounter 14 = .ok (.iload_n 3, 1) := by decide +kernel
theorem dX2_startCounter_15 : decode cX2_startCounter 15 = .ok (.invokevirtual 90, 3) := by decide +kernel
theorem dX2_startCounter_18 : decode cX2_startCounter 18 = .ok (.iastore, 1) := by decide +kernel
theorem dX2_startCounter_19 : decode cX2_startCounter 19 = .ok (.iinc 3 1, 3) := by decide +kernel
theorem dX2_startCounter_22 : decode cX2_startCounter 22 = .ok (.goto (-20), 3) := by decide +kernel
theorem dX2_startCounter_25 : decode cX2_startCounter 25 = .ok (.aload_n 0, 1) := by decide +kernel
theorem dX2_startCounter_26 : decode cX2_startCounter 26 = .ok (.getfield 11, 3) := by decide +kernel
theorem dX2_startCounter_29 : decode cX2_startCounter 29 = .ok (.bipush 12, 2) := by decide +kernel
theorem dX2_startCounter_31 : decode cX2_startCounter 31 = .ok (.iload_n 2, 1) := by decide +kernel
theorem dX2_startCounter_32 : decode cX2_startCounter 32 = .ok (.bipush 24, 2) := by decide +kernel
theorem dX2_startCounter_34 : decode cX2_startCounter 34 = .ok (.iushr, 1) := by decide +kernel
theorem dX2_startCounter_35 : decode cX2_startCounter 35 = .ok (.iastore, 1) := by decide +kernel
theorem dX2_startCounter_36 : decode cX2_startCounter 36 = .ok (.aload_n 0, 1) := by decide +kernel
theorem dX2_startCounter_37 : decode cX2_startCounter 37 = .ok (.getfield 11, 3) := by decide +kernel
theorem dX2_startCounter_40 : decode cX2_startCounter 40 = .ok (.bipush 13, 2) := by decide +kernel
theorem dX2_startCounter_42 : decode cX2_startCounter 42 = .ok (.iload_n 2, 1) := by decide +kernel
theorem dX2_startCounter_43 : decode cX2_startCounter 43 = .ok (.bipush 16, 2) := by decide +kernel
theorem dX2_startCounter_45 : decode cX2_startCounter 45 = .ok (.iushr, 1) := by decide +kernel
theorem dX2_startCounter_46 : decode cX2_startCounter 46 = .ok (.sipush 255, 3) := by decide +kernel
theorem dX2_startCounter_49 : decode cX2_startCounter 49 = .ok (.iand, 1) := by decide +kernel
theorem dX2_startCounter_50 : decode cX2_startCounter 50 = .ok (.iastore, 1) := by decide +kernel
theorem dX2_startCounter_51 : decode cX2_startCounter 51 = .ok (.aload_n 0, 1) := by decide +kernel
theorem dX2_startCounter_52 : decode cX2_startCounter 52 = .ok (.getfield 11, 3) := by decide +kernel
theorem dX2_startCounter_55 : decode cX2_startCounter 55 = .ok (.bipush 14, 2) := by decide +kernel
theorem dX2_startCounter_57 : decode cX2_startCounter 57 = .ok (.iload_n 2, 1) := by decide +kernel
theorem dX2_startCounter_58 : decode cX2_startCounter 58 = .ok (.bipush 8, 2) := by decide +kernel
theorem dX2_startCounter_60 : decode cX2_startCounter 60 = .ok (.iushr, 1) := by decide +kernel
theorem dX2_startCounter_61 : decode cX2_startCounter 61 = .ok (.sipush 255, 3) := by decide +kernel
theorem dX2_startCounter_64 : decode cX2_startCounter 64 = .ok (.iand, 1) := by decide +kernel
theorem dX2_startCounter_65 : decode cX2_startCounter 65 = .ok (.iastore, 1) := by decide +kernel
theorem dX2_startCounter_66 : decode cX2_startCounter 66 = .ok (.aload_n 0, 1) := by decide +kernel
theorem dX2_startCounter_67 : decode cX2_startCounter 67 = .ok (.getfield 11, 3) := by decide +kernel
theorem dX2_startCounter_70 : decode cX2_startCounter 70 = .ok (.bipush 15, 2) := by decide +kernel
theorem dX2_startCounter_72 : decode cX2_startCounter 72 = .ok (.iload_n 2, 1) := by decide +kernel
theorem dX2_startCounter_73 : decode cX2_startCounter 73 = .ok (.sipush 255, 3) := by decide +kernel
theorem dX2_startCounter_76 : decode cX2_startCounter 76 = .ok (.iand, 1) := by decide +kernel
theorem dX2_startCounter_77 : decode cX2_startCounter 77 = .ok (.iastore, 1) := by decide +kernel
theorem dX2_startCounter_78 : decode cX2_startCounter 78 = .ok (.return_, 1) := by decide +kernel
abbrev rmX2_startCounter : Room := { frames := 1, cells := 0, slots := 0, locals := 21 }
set_option maxHeartbeats 4000000 in
set_option maxRecDepth 100000 in
theorem wB_X2_startCounter_2 {G : mG} {F : Nat} {x : mXT} {sz : Nat} {M0 : mM} (X : mCX G RX2 cX2_startCounter 4 none "startCounter" rmX2_startCounter x) (hQ : mQV x M0 (sz, 0, 0)) : ∀ (n : Nat) (l0 : Nat) (l1 : Nat) (l2 : Int32) (l3 : Int32) (M : mM), B_X2_startCounter_2 G F n l0 l1 l2 l3 M = some M0 → WW x (sz, 0, 0) M 2 [(0, .ref l0), (1, .ref l1), (2, .int l2), (3, .int l3)] [] := by
  intro n
  induction n with
  | zero =>
    intro l0 l1 l2 l3 M h
    exact nomatch (show (none : Option mM) = some M0 from h)
  | succ n ih =>
    intro l0 l1 l2 l3 M h
    rw [B_X2_startCounter_2] at h
    refine ww_iload_n 2 X dX2_startCounter_2 3 rfl rfl ?_
    refine ww_bipush 3 X (v := (12 : Int32)) dX2_startCounter_3 (by decide) ?_
    refine ww_icmp_ge 5 25 X dX2_startCounter_5 (by decide) (fun q => ?_) (fun q => ?_)
    · replace h := (if_pos q).symm.trans h
      refine ww_aload_n 25 X dX2_startCounter_25 0 rfl rfl ?_
      obtain ⟨v26, e26, h⟩ := bO_some h
      refine ww_getR 26 X dX2_startCounter_26 fG_X2_11 e26 ?_
      refine ww_bipush 29 X (v := (12 : Int32)) dX2_startCounter_29 (by decide) ?_
      refine ww_iload_n 31 X dX2_startCounter_31 2 rfl rfl ?_
      refine ww_bipush 32 X (v := (24 : Int32)) dX2_startCounter_32 (by decide) ?_
      refine ww_iushr 34 X dX2_startCounter_34 ?_
      obtain ⟨M35, e35, h⟩ := bO_some h
      refine ww_iast 35 X dX2_startCounter_35 e35 ?_
      refine ww_aload_n 36 X dX2_startCounter_36 0 rfl rfl ?_
      obtain ⟨v37, e37, h⟩ := bO_some h
      refine ww_getR 37 X dX2_startCounter_37 fG_X2_11 e37 ?_
      refine ww_bipush 40 X (v := (13 : Int32)) dX2_startCounter_40 (by decide) ?_
      refine ww_iload_n 42 X dX2_startCounter_42 2 rfl rfl ?_
      refine ww_bipush 43 X (v := (16 : Int32)) dX2_startCounter_43 (by decide) ?_
      refine ww_iushr 45 X dX2_startCounter_45 ?_
      refine ww_sipush 46 X (v := (255 : Int32)) dX2_startCounter_46 (by decide) ?_
      refine ww_iand 49 X dX2_startCounter_49 ?_
      obtain ⟨M50, e50, h⟩ := bO_some h
      refine ww_iast 50 X dX2_startCounter_50 e50 ?_
      refine ww_aload_n 51 X dX2_startCounter_51 0 rfl rfl ?_
      obtain ⟨v52, e52, h⟩ := bO_some h
      refine ww_getR 52 X dX2_startCounter_52 fG_X2_11 e52 ?_
      refine ww_bipush 55 X (v := (14 : Int32)) dX2_startCounter_55 (by decide) ?_
      refine ww_iload_n 57 X dX2_startCounter_57 2 rfl rfl ?_
      refine ww_bipush 58 X (v := (8 : Int32)) dX2_startCounter_58 (by decide) ?_
      refine ww_iushr 60 X dX2_startCounter_60 ?_
      refine ww_sipush 61 X (v := (255 : Int32)) dX2_startCounter_61 (by decide) ?_
      refine ww_iand 64 X dX2_startCounter_64 ?_
      obtain ⟨M65, e65, h⟩ := bO_some h
      refine ww_iast 65 X dX2_startCounter_65 e65 ?_
      refine ww_aload_n 66 X dX2_startCounter_66 0 rfl rfl ?_
      obtain ⟨v67, e67, h⟩ := bO_some h
      refine ww_getR 67 X dX2_startCounter_67 fG_X2_11 e67 ?_
      refine ww_bipush 70 X (v := (15 : Int32)) dX2_startCounter_70 (by decide) ?_
      refine ww_iload_n 72 X dX2_startCounter_72 2 rfl rfl ?_
      refine ww_sipush 73 X (v := (255 : Int32)) dX2_startCounter_73 (by decide) ?_
      refine ww_iand 76 X dX2_startCounter_76 ?_
      obtain ⟨M77, e77, h⟩ := bO_some h
      refine ww_iast 77 X dX2_startCounter_77 e77 ?_
      exact ww_vretE 78 X hQ dX2_startCounter_78 h
    · replace h := (if_neg q).symm.trans h
      refine ww_aload_n 8 X dX2_startCounter_8 0 rfl rfl ?_
      obtain ⟨v9, e9, h⟩ := bO_some h
      refine ww_getR 9 X dX2_startCounter_9 fG_X2_11 e9 ?_
      refine ww_iload_n 12 X dX2_startCounter_12 3 rfl rfl ?_
      refine ww_aload_n 13 X dX2_startCounter_13 1 rfl rfl ?_
      refine ww_iload_n 14 X dX2_startCounter_14 3 rfl rfl ?_
      obtain ⟨_, f15, h⟩ := bO_some h
      obtain ⟨v15, M15, e15, h⟩ := bP_some h
      refine ww_callVI0 15 X dX2_startCounter_15 mY_X0_get mL_X2_90 (rcv_spec f15) ⟨_, _, rfl⟩ (by decide) (As := [.int l3]) (rest := [.int l3, .ref v9]) rfl rfl ⟨Nat.le_of_ble_eq_true rfl, Nat.le_of_ble_eq_true rfl⟩ (Nat.le_of_ble_eq_true rfl) (fun l D A => c_X0_get l D A e15) ?_
      obtain ⟨M18, e18, h⟩ := bO_some h
      refine ww_iast 18 X dX2_startCounter_18 e18 ?_
      refine ww_iinc 19 X dX2_startCounter_19 (lv' := [(0, .ref l0), (1, .ref l1), (2, .int l2), (3, .int (l3 + 1))]) 3 rfl rfl (by decide) [1, 2, 3, 0] rfl ?_
      refine ww_goto 22 2 X dX2_startCounter_22 (by decide) ?_
      exact (ih _ _ _ _ _ h)
set_option maxHeartbeats 4000000 in
set_option maxRecDepth 100000 in
theorem wP_X2_startCounter {G : mG} {F : Nat} {x : mXT} {sz : Nat} {M0 : mM} (X : mCX G RX2 cX2_startCounter 4 none "startCounter" rmX2_startCounter x) (hQ : mQV x M0 (sz, 0, 0)) {l0 : Nat} {l1 : Nat} {l2 : Int32} {M : mM} (h : P_X2_startCounter G F l0 l1 l2 M = some M0) : WW x (sz, 0, 0) M 0 [(0, .ref l0), (1, .ref l1), (2, .int l2)] [] := by
  unfold P_X2_startCounter at h
  refine ww_iconst 0 X (v := (0 : Int32)) dX2_startCounter_0 (by decide) ?_
  refine ww_istore_n 1 X dX2_startCounter_1 (lv' := [(0, .ref l0), (1, .ref l1), (2, .int l2), (3, .int (0 : Int32))]) rfl (by decide) [1, 2, 3, 0] rfl ?_
  exact (wB_X2_startCounter_2 X hQ F _ _ _ _ _ h)
theorem c_X2_startCounter {G : mG} {F sz : Nat} {M0 : mM} (l : Launch) (D : mD) (A : Nat → Prop) {l0 : Nat} {l1 : Nat} {l2 : Int32} {M : mM} (h : P_X2_startCounter G F l0 l1 l2 M = some M0) : mMetV l D G A yX2_startCounter cX2_startCounter 4 none 1 21 0 0 [.ref l0, .ref l1, .int l2] M sz M0 sz := mMetV_of l D G A (by decide) (Nat.le_of_ble_eq_true rfl) (fun x X hQ => wP_X2_startCounter X hQ h)
/-! SealedTokens$Content.putCounted(LSealedTokens$Bytes;LSealedTokens$Bytes;LSealedTokens$Bytes;ILSealedTokens$Bytes;)V -/
theorem dX2_putCounted_0 : decode cX2_putCounted 0 = .ok (.aload_n 0, 1) := by decide +kernel
theorem dX2_putCounted_1 : decode cX2_putCounted 1 = .ok (.getfield 33, 3) := by decide +kernel
theorem dX2_putCounted_4 : decode cX2_putCounted 4 = .ok (.aload_n 1, 1) := by decide +kernel
theorem dX2_putCounted_5 : decode cX2_putCounted 5 = .ok (.iconst 0, 1) := by decide +kernel
theorem dX2_putCounted_6 : decode cX2_putCounted 6 = .ok (.aload_n 1, 1) := by decide +kernel
theorem dX2_putCounted_7 : decode cX2_putCounted 7 = .ok (.getfield 44, 3) := by decide +kernel
theorem dX2_putCounted_10 : decode cX2_putCounted 10 = .ok (.invokevirtual 82, 3) := by decide +kernel
theorem dX2_putCounted_13 : decode cX2_putCounted 13 = .ok (.iconst 0, 1) := by decide +kernel
theorem dX2_putCounted_14 : decode cX2_putCounted 14 = .ok (.istore 6, 2) := by decide +kernel
theorem dX2_putCounted_16 : decode cX2_putCounted 16 = .ok (.iload 6, 2) := by decide +kernel
theorem dX2_putCounted_18 : decode cX2_putCounted 18 = .ok (.iload 4, 2) := by decide +kernel
theorem dX2_putCounted_20 : decode cX2_putCounted 20 = .ok (.if_icmp .ge 80, 3) := by decide +kernel
theorem dX2_putCounted_23 : decode cX2_putCounted 23 = .ok (.aload_n 0, 1) := by decide +kernel
theorem dX2_putCounted_24 : decode cX2_putCounted 24 = .ok (.aload_n 2, 1) := by decide +kernel
theorem dX2_putCounted_25 : decode cX2_putCounted 25 = .ok (.iload 6, 2) := by decide +kernel
theorem dX2_putCounted_27 : decode cX2_putCounted 27 = .ok (.bipush 16, 2) := by decide +kernel
theorem dX2_putCounted_29 : decode cX2_putCounted 29 = .ok (.idiv, 1) := by decide +kernel
theorem dX2_putCounted_30 : decode cX2_putCounted 30 = .ok (.iconst 2, 1) := by decide +kernel
theorem dX2_putCounted_31 : decode cX2_putCounted 31 = .ok (.iadd, 1) := by decide +kernel
theorem dX2_putCounted_32 : decode cX2_putCounted 32 = .ok (.invokevirtual 122, 3) := by decide +kernel
theorem dX2_putCounted_35 : decode cX2_putCounted 35 = .ok (.aload_n 0, 1) := by decide +kernel
theorem dX2_putCounted_36 : decode cX2_putCounted 36 = .ok (.getfield 33, 3) := by decide +kernel
theorem dX2_putCounted_39 : decode cX2_putCounted 39 = .ok (.aload_n 0, 1) := by decide +kernel
theorem dX2_putCounted_40 : decode cX2_putCounted 40 = .ok (.getfield 11, 3) := by decide +kernel
theorem dX2_putCounted_43 : decode cX2_putCounted 43 = .ok (.invokevirtual 94, 3) := by decide +kernel
theorem dX2_putCounted_46 : decode cX2_putCounted 46 = .ok (.iconst 0, 1) := by decide +kernel
theorem dX2_putCounted_47 : decode cX2_putCounted 47 = .ok (.istore 7, 2) := by decide +kernel
theorem dX2_putCounted_49 : decode cX2_putCounted 49 = .ok (.iload 7, 2) := by decide +kernel
theorem dX2_putCounted_51 : decode cX2_putCounted 51 = .ok (.bipush 16, 2) := by decide +kernel
theorem dX2_putCounted_53 : decode cX2_putCounted 53 = .ok (.if_icmp .ge 41, 3) := by decide +kernel
theorem dX2_putCounted_56 : decode cX2_putCounted 56 = .ok (.iload 6, 2) := by decide +kernel
theorem dX2_putCounted_58 : decode cX2_putCounted 58 = .ok (.iload 7, 2) := by decide +kernel
theorem dX2_putCounted_60 : decode cX2_putCounted 60 = .ok (.iadd, 1) := by decide +kernel
theorem dX2_putCounted_61 : decode cX2_putCounted 61 = .ok (.iload 4, 2) := by decide +kernel
theorem dX2_putCounted_63 : decode cX2_putCounted 63 = .ok (.if_icmp .ge 31, 3) := by decide +kernel
theorem dX2_putCounted_66 : decode cX2_putCounted 66 = .ok (.aload 5, 2) := by decide +kernel
theorem dX2_putCounted_68 : decode cX2_putCounted 68 = .ok (.aload_n 0, 1) := by decide +kernel
theorem dX2_putCounted_69 : decode cX2_putCounted 69 = .ok (.getfield 11, 3) := by decide +kernel
theorem dX2_putCounted_72 : decode cX2_putCounted 72 = .ok (.iload 7, 2) := by decide +kernel
theorem dX2_putCounted_74 : decode cX2_putCounted 74 = .ok (.iaload, 1) := by decide +kernel
theorem dX2_putCounted_75 : decode cX2_putCounted 75 = .ok (.aload_n 3, 1) := by decide +kernel
theorem dX2_putCounted_76 : decode cX2_putCounted 76 = .ok (.iload 6, 2) := by decide +kernel
theorem dX2_putCounted_78 : decode cX2_putCounted 78 = .ok (.iload 7, 2) := by decide +kernel
theorem dX2_putCounted_80 : decode cX2_putCounted 80 = .ok (.iadd, 1) := by decide +kernel
theorem dX2_putCounted_81 : decode cX2_putCounted 81 = .ok (.invokevirtual 90, 3) := by decide +kernel
theorem dX2_putCounted_84 : decode cX2_putCounted 84 = .ok (.ixor, 1) := by decide +kernel
theorem dX2_putCounted_85 : decode cX2_putCounted 85 = .ok (.invokevirtual 98, 3) := by decide +kernel
theorem dX2_putCounted_88 : decode cX2_putCounted 88 = .ok (.iinc 7 1, 3) := by decide +kernel
theorem dX2_putCounted_91 : decode cX2_putCounted 91 = .ok (.goto (-42), 3) := by decide +kernel
theorem dX2_putCounted_94 : decode cX2_putCounted 94 = .ok (.iinc 6 16, 3) := by decide +kernel
theorem dX2_putCounted_97 : decode cX2_putCounted 97 = .ok (.goto (-81), 3) := by decide +kernel
theorem dX2_putCounted_100 : decode cX2_putCounted 100 = .ok (.return_, 1) := by decide +kernel
abbrev rmX2_putCounted : Room := { frames := 3, cells := 0, slots := 0, locals := 83 }
set_option maxHeartbeats 4000000 in
set_option maxRecDepth 100000 in
theorem wB_X2_putCounted_49 {G : mG} {F : Nat} {x : mXT} {sz : Nat} {M0 : mM} (X : mCX G RX2 cX2_putCounted 8 none "putCounted" rmX2_putCounted x) (hQ : mQV x M0 (sz, 0, 0)) (r16 : Nat → Nat → Nat → Int32 → Nat → Int32 → mM → Option mM) (hr16 : ∀ (l0 : Nat) (l2 : Nat) (l3 : Nat) (l4 : Int32) (l5 : Nat) (l6 : Int32) (M : mM), r16 l0 l2 l3 l4 l5 l6 M = some M0 → WW x (sz, 0, 0) M 16 [(0, .ref l0), (2, .ref l2), (3, .ref l3), (4, .int l4), (5, .ref l5), (6, .int l6)] []) : ∀ (n : Nat) (l0 : Nat) (l2 : Nat) (l3 : Nat) (l4 : Int32) (l5 : Nat) (l6 : Int32) (l7 : Int32) (M : mM), B_X2_putCounted_49 G F r16 n l0 l2 l3 l4 l5 l6 l7 M = some M0 → WW x (sz, 0, 0) M 49 [(0, .ref l0), (2, .ref l2), (3, .ref l3), (4, .int l4), (5, .ref l5), (6, .int l6), (7, .int l7)] [] := by
  intro n
  induction n with
  | zero =>
    intro l0 l2 l3 l4 l5 l6 l7 M h
    exact nomatch (show (none : Option mM) = some M0 from h)
  | succ n ih =>
    intro l0 l2 l3 l4 l5 l6 l7 M h
    rw [B_X2_putCounted_49] at h
    refine ww_iload 49 X dX2_putCounted_49 6 rfl ?_
    refine ww_bipush 51 X (v := (16 : Int32)) dX2_putCounted_51 (by decide) ?_
    refine ww_icmp_ge 53 94 X dX2_putCounted_53 (by decide) (fun q => ?_) (fun q => ?_)
    · replace h := (if_pos q).symm.trans h
      refine ww_iinc 94 X dX2_putCounted_94 (lv' := [(0, .ref l0), (2, .ref l2), (3, .ref l3), (4, .int l4), (5, .ref l5), (6, .int (l6 + 16)), (7, .int l7)]) 5 rfl rfl (by decide) [1, 2, 3, 4, 5, 0, 6] rfl ?_
      refine ww_goto 97 16 X dX2_putCounted_97 (by decide) ?_
      exact ww_sub [0, 1, 2, 3, 4, 5] rfl (hr16 _ _ _ _ _ _ _ h)
    · replace h := (if_neg q).symm.trans h
      refine ww_iload 56 X dX2_putCounted_56 5 rfl ?_
      refine ww_iload 58 X dX2_putCounted_58 6 rfl ?_
      refine ww_iadd 60 X dX2_putCounted_60 ?_
      refine ww_iload 61 X dX2_putCounted_61 3 rfl ?_
      refine ww_icmp_ge 63 94 X dX2_putCounted_63 (by decide) (fun q => ?_) (fun q => ?_)
      · replace h := (if_pos q).symm.trans h
        refine ww_iinc 94 X dX2_putCounted_94 (lv' := [(0, .ref l0), (2, .ref l2), (3, .ref l3), (4, .int l4), (5, .ref l5), (6, .int (l6 + 16)), (7, .int l7)]) 5 rfl rfl (by decide) [1, 2, 3, 4, 5, 0, 6] rfl ?_
        refine ww_goto 97 16 X dX2_putCounted_97 (by decide) ?_
        exact ww_sub [0, 1, 2, 3, 4, 5] rfl (hr16 _ _ _ _ _ _ _ h)
      · replace h := (if_neg q).symm.trans h
        refine ww_aload 66 X dX2_putCounted_66 4 rfl ?_
        refine ww_aload_n 68 X dX2_putCounted_68 0 rfl rfl ?_
        obtain ⟨v69, e69, h⟩ := bO_some h
        refine ww_getR 69 X dX2_putCounted_69 fG_X2_11 e69 ?_
        refine ww_iload 72 X dX2_putCounted_72 6 rfl ?_
        obtain ⟨v74, e74, h⟩ := bO_some h
        refine ww_iald 74 X dX2_putCounted_74 e74 ?_
        refine ww_aload_n 75 X dX2_putCounted_75 2 rfl rfl ?_
        refine ww_iload 76 X dX2_putCounted_76 5 rfl ?_
        refine ww_iload 78 X dX2_putCounted_78 6 rfl ?_
        refine ww_iadd 80 X dX2_putCounted_80 ?_
        obtain ⟨_, f81, h⟩ := bO_some h
        obtain ⟨v81, M81, e81, h⟩ := bP_some h
        refine ww_callVI0 81 X dX2_putCounted_81 mY_X0_get mL_X2_90 (rcv_spec f81) ⟨_, _, rfl⟩ (by decide) (As := [.int (l6 + l7)]) (rest := [.int v74, .ref l5]) rfl rfl ⟨Nat.le_of_ble_eq_true rfl, Nat.le_of_ble_eq_true rfl⟩ (Nat.le_of_ble_eq_true rfl) (fun l D A => c_X0_get l D A e81) ?_
        refine ww_ixor 84 X dX2_putCounted_84 ?_
        obtain ⟨_, f85, h⟩ := bO_some h
        obtain ⟨M85, e85, h⟩ := bO_some h
        refine ww_callVV0 85 X dX2_putCounted_85 mY_X0_put mL_X2_98 (rcv_spec f85) ⟨_, _, rfl⟩ (by decide) (As := [.int (v74 ^^^ v81)]) (rest := []) rfl rfl ⟨Nat.le_of_ble_eq_true rfl, Nat.le_of_ble_eq_true rfl⟩ (Nat.le_of_ble_eq_true rfl) (fun l D A => c_X0_put l D A e85) ?_
        refine ww_iinc 88 X dX2_putCounted_88 (lv' := [(0, .ref l0), (2, .ref l2), (3, .ref l3), (4, .int l4), (5, .ref l5), (6, .int l6), (7, .int (l7 + 1))]) 6 rfl rfl (by decide) [1, 2, 3, 4, 5, 6, 0] rfl ?_
        refine ww_goto 91 49 X dX2_putCounted_91 (by decide) ?_
        exact (ih _ _ _ _ _ _ _ _ h)
set_option maxHeartbeats 4000000 in
set_option maxRecDepth 100000 in
theorem wB_X2_putCounted_16 {G : mG} {F : Nat} {x : mXT} {sz : Nat} {M0 : mM} (X : mCX G RX2 cX2_putCounted 8 none "putCounted" rmX2_putCounted x) (hQ : mQV x M0 (sz, 0, 0)) : ∀ (n : Nat) (l0 : Nat) (l2 : Nat) (l3 : Nat) (l4 : Int32) (l5 : Nat) (l6 : Int32) (M : mM), B_X2_putCounted_16 G F n l0 l2 l3 l4 l5 l6 M = some M0 → WW x (sz, 0, 0) M 16 [(0, .ref l0), (2, .ref l2), (3, .ref l3), (4, .int l4), (5, .ref l5), (6, .int l6)] [] := by
  intro n
  induction n with
  | zero =>
    intro l0 l2 l3 l4 l5 l6 M h
    exact nomatch (show (none : Option mM) = some M0 from h)
  | succ n ih =>
    intro l0 l2 l3 l4 l5 l6 M h
    rw [B_X2_putCounted_16] at h
    refine ww_iload 16 X dX2_putCounted_16 5 rfl ?_
    refine ww_iload 18 X dX2_putCounted_18 3 rfl ?_
    refine ww_icmp_ge 20 100 X dX2_putCounted_20 (by decide) (fun q => ?_) (fun q => ?_)
    · replace h := (if_pos q).symm.trans h
      exact ww_vretE 100 X hQ dX2_putCounted_100 h
    · replace h := (if_neg q).symm.trans h
      refine ww_aload_n 23 X dX2_putCounted_23 0 rfl rfl ?_
      refine ww_aload_n 24 X dX2_putCounted_24 1 rfl rfl ?_
      refine ww_iload 25 X dX2_putCounted_25 5 rfl ?_
      refine ww_bipush 27 X (v := (16 : Int32)) dX2_putCounted_27 (by decide) ?_
      refine ww_idiv 29 X (v := (l6 / (16 : Int32))) dX2_putCounted_29 rfl ?_
      refine ww_iconst 30 X (v := (2 : Int32)) dX2_putCounted_30 (by decide) ?_
      refine ww_iadd 31 X dX2_putCounted_31 ?_
      obtain ⟨_, f32, h⟩ := bO_some h
      obtain ⟨M32, e32, h⟩ := bO_some h
      refine ww_callVV0 32 X dX2_putCounted_32 mY_X2_startCounter mL_X2_122 (rcv_spec f32) ⟨_, _, rfl⟩ (by decide) (As := [.ref l2, .int ((l6 / (16 : Int32)) + (2 : Int32))]) (rest := []) rfl rfl ⟨Nat.le_of_ble_eq_true rfl, Nat.le_of_ble_eq_true rfl⟩ (Nat.le_of_ble_eq_true rfl) (fun l D A => c_X2_startCounter l D A e32) ?_
      refine ww_aload_n 35 X dX2_putCounted_35 0 rfl rfl ?_
      obtain ⟨v36, e36, h⟩ := bO_some h
      refine ww_getR 36 X dX2_putCounted_36 fG_X2_33 e36 ?_
      refine ww_aload_n 39 X dX2_putCounted_39 0 rfl rfl ?_
      obtain ⟨v40, e40, h⟩ := bO_some h
      refine ww_getR 40 X dX2_putCounted_40 fG_X2_11 e40 ?_
      obtain ⟨_, f43, h⟩ := bO_some h
      obtain ⟨M43, e43, h⟩ := bO_some h
      refine ww_callVV0 43 X dX2_putCounted_43 mY_X1_forward mL_X2_94 (rcv_spec f43) ⟨_, _, rfl⟩ (by decide) (As := [.ref v40]) (rest := []) rfl rfl ⟨Nat.le_of_ble_eq_true rfl, Nat.le_of_ble_eq_true rfl⟩ (Nat.le_of_ble_eq_true rfl) (fun l D A => c_X1_forward l D A e43) ?_
      refine ww_iconst 46 X (v := (0 : Int32)) dX2_putCounted_46 (by decide) ?_
      refine ww_istore 47 X dX2_putCounted_47 (lv' := [(0, .ref l0), (2, .ref l2), (3, .ref l3), (4, .int l4), (5, .ref l5), (6, .int l6), (7, .int (0 : Int32))]) (by decide) [1, 2, 3, 4, 5, 6, 0] rfl ?_
      exact (wB_X2_putCounted_49 X hQ _ ih F _ _ _ _ _ _ _ _ h)
set_option maxHeartbeats 4000000 in
set_option maxRecDepth 100000 in
theorem wP_X2_putCounted {G : mG} {F : Nat} {x : mXT} {sz : Nat} {M0 : mM} (X : mCX G RX2 cX2_putCounted 8 none "putCounted" rmX2_putCounted x) (hQ : mQV x M0 (sz, 0, 0)) {l0 : Nat} {l1 : Nat} {l2 : Nat} {l3 : Nat} {l4 : Int32} {l5 : Nat} {M : mM} (h : P_X2_putCounted G F l0 l1 l2 l3 l4 l5 M = some M0) : WW x (sz, 0, 0) M 0 [(0, .ref l0), (1, .ref l1), (2, .ref l2), (3, .ref l3), (4, .int l4), (5, .ref l5)] [] := by
  unfold P_X2_putCounted at h
  refine ww_aload_n 0 X dX2_putCounted_0 0 rfl rfl ?_
  obtain ⟨v1, e1, h⟩ := bO_some h
  refine ww_getR 1 X dX2_putCounted_1 fG_X2_33 e1 ?_
  refine ww_aload_n 4 X dX2_putCounted_4 1 rfl rfl ?_
  refine ww_iconst 5 X (v := (0 : Int32)) dX2_putCounted_5 (by decide) ?_
  refine ww_aload_n 6 X dX2_putCounted_6 1 rfl rfl ?_
  obtain ⟨v7, e7, h⟩ := bO_some h
  refine ww_getI 7 X dX2_putCounted_7 fG_X2_44 e7 ?_
  obtain ⟨_, f10, h⟩ := bO_some h
  obtain ⟨M10, e10, h⟩ := bO_some h
  refine ww_callVV0 10 X dX2_putCounted_10 mY_X1_become mL_X2_82 (rcv_spec f10) ⟨_, _, rfl⟩ (by decide) (As := [.ref l1, .int (0 : Int32), .int v7]) (rest := []) rfl rfl ⟨Nat.le_of_ble_eq_true rfl, Nat.le_of_ble_eq_true rfl⟩ (Nat.le_of_ble_eq_true rfl) (fun l D A => c_X1_become l D A e10) ?_
  refine ww_iconst 13 X (v := (0 : Int32)) dX2_putCounted_13 (by decide) ?_
  refine ww_istore 14 X dX2_putCounted_14 (lv' := [(0, .ref l0), (1, .ref l1), (2, .ref l2), (3, .ref l3), (4, .int l4), (5, .ref l5), (6, .int (0 : Int32))]) (by decide) [1, 2, 3, 4, 5, 6, 0] rfl ?_
  exact ww_sub [0, 2, 3, 4, 5, 6] rfl (wB_X2_putCounted_16 X hQ F _ _ _ _ _ _ _ h)
theorem c_X2_putCounted {G : mG} {F sz : Nat} {M0 : mM} (l : Launch) (D : mD) (A : Nat → Prop) {l0 : Nat} {l1 : Nat} {l2 : Nat} {l3 : Nat} {l4 : Int32} {l5 : Nat} {M : mM} (h : P_X2_putCounted G F l0 l1 l2 l3 l4 l5 M = some M0) : mMetV l D G A yX2_putCounted cX2_putCounted 8 none 3 83 0 0 [.ref l0, .ref l1, .ref l2, .ref l3, .int l4, .ref l5] M sz M0 sz := mMetV_of l D G A (by decide) (Nat.le_of_ble_eq_true rfl) (fun x X hQ => wP_X2_putCounted X hQ h)
/-! SealedTokens$Content.half(I)J -/
theorem dX2_half_0 : decode cX2_half 0 = .ok (.lconst 0, 1) := by decide +kernel
theorem dX2_half_1 : decode cX2_half 1 = .ok (.lstore_n 2, 1) := by decide +kernel
theorem dX2_half_2 : decode cX2_half 2 = .ok (.iload_n 1, 1) := by decide +kernel
theorem dX2_half_3 : decode cX2_half 3 = .ok (.istore 4, 2) := by decide +kernel
theorem dX2_half_5 : decode cX2_half 5 = .ok (.iload 4, 2) := by decide +kernel
theorem dX2_half_7 : decode cX2_half 7 = .ok (.iload_n 1, 1) := by decide +kernel
theorem dX2_half_8 : decode cX2_half 8 = .ok (.bipush 8, 2) := by decide +kernel
theorem dX2_half_10 : decode cX2_half 10 = .ok (.iadd, 1) := by decide +kernel
theorem dX2_half_11 : decode cX2_half 11 = .ok (.if_icmp .ge 30, 3) := by decide +kernel
theorem dX2_half_14 : decode cX2_half 14 = .ok (.iload 4, 2) := by decide +kernel
theorem dX2_half_16 : decode cX2_half 16 = .ok (.bipush 16, 2) := by decide +kernel
theorem dX2_half_18 : decode cX2_half 18 = .ok (.if_icmp .ge 23, 3) := by decide +kernel
theorem dX2_half_21 : decode cX2_half 21 = .ok (.lload_n 2, 1) := by decide +kernel
theorem dX2_half_22 : decode cX2_half 22 = .ok (.bipush 8, 2) := by decide +kernel
theorem dX2_half_24 : decode cX2_half 24 = .ok (.lshl, 1) := by decide +kernel
theorem dX2_half_25 : decode cX2_half 25 = .ok (.aload_n 0, 1) := by decide +kernel
theorem dX2_half_26 : decode cX2_half 26 = .ok (.getfield 11, 3) := by decide +kernel
theorem dX2_half_29 : decode cX2_half 29 = .ok (.iload 4, 2) := by decide +kernel
theorem dX2_half_31 : decode cX2_half 31 = .ok (.iaload, 1) := by decide +kernel
theorem dX2_half_32 : decode cX2_half 32 = .ok (.i2l, 1) := by decide +kernel
theorem dX2_half_33 : decode cX2_half 33 = .ok (.lor, 1) := by decide +kernel
theorem dX2_half_34 : decode cX2_half 34 = .ok (.lstore_n 2, 1) := by decide +kernel
theorem dX2_half_35 : decode cX2_half 35 = .ok (.iinc 4 1, 3) := by decide +kernel
theorem dX2_half_38 : decode cX2_half 38 = .ok (.goto (-33), 3) := by decide +kernel
theorem dX2_half_41 : decode cX2_half 41 = .ok (.lload_n 2, 1) := by decide +kernel
theorem dX2_half_42 : decode cX2_half 42 = .ok (.lreturn, 1) := by decide +kernel
abbrev rmX2_half : Room := { frames := 0, cells := 0, slots := 0, locals := 0 }
set_option maxHeartbeats 4000000 in
set_option maxRecDepth 100000 in
theorem wB_X2_half_5 {G : mG} {F : Nat} {x : mXT} {sz : Nat} {r0 : Int64} {M0 : mM} (X : mCX G RX2 cX2_half 5 (some .long) "half" rmX2_half x) (hQ : mQL x r0 M0 (sz, 0, 0)) : ∀ (n : Nat) (l0 : Nat) (l1 : Int32) (l2 : Int64) (l4 : Int32) (M : mM), B_X2_half_5 G F n l0 l1 l2 l4 M = some (r0, M0) → WW x (sz, 0, 0) M 5 [(0, .ref l0), (1, .int l1), (2, .long l2), (4, .int l4)] [] := by
  intro n
  induction n with
  | zero =>
    intro l0 l1 l2 l4 M h
    exact nomatch (show (none : Option (Int64 × mM)) = some (r0, M0) from h)
  | succ n ih =>
    intro l0 l1 l2 l4 M h
    rw [B_X2_half_5] at h
    refine ww_iload 5 X dX2_half_5 3 rfl ?_
    refine ww_iload_n 7 X dX2_half_7 1 rfl rfl ?_
    refine ww_bipush 8 X (v := (8 : Int32)) dX2_half_8 (by decide) ?_
    refine ww_iadd 10 X dX2_half_10 ?_
    refine ww_icmp_ge 11 41 X dX2_half_11 (by decide) (fun q => ?_) (fun q => ?_)
    · replace h := (if_pos q).symm.trans h
      refine ww_lload_n 41 X dX2_half_41 2 rfl rfl ?_
      exact ww_lretE 42 X hQ dX2_half_42 h
    · replace h := (if_neg q).symm.trans h
      refine ww_iload 14 X dX2_half_14 3 rfl ?_
      refine ww_bipush 16 X (v := (16 : Int32)) dX2_half_16 (by decide) ?_
      refine ww_icmp_ge 18 41 X dX2_half_18 (by decide) (fun q => ?_) (fun q => ?_)
      · replace h := (if_pos q).symm.trans h
        refine ww_lload_n 41 X dX2_half_41 2 rfl rfl ?_
        exact ww_lretE 42 X hQ dX2_half_42 h
      · replace h := (if_neg q).symm.trans h
        refine ww_lload_n 21 X dX2_half_21 2 rfl rfl ?_
        refine ww_bipush 22 X (v := (8 : Int32)) dX2_half_22 (by decide) ?_
        refine ww_lshl 24 X dX2_half_24 ?_
        refine ww_aload_n 25 X dX2_half_25 0 rfl rfl ?_
        obtain ⟨v26, e26, h⟩ := bO_some h
        refine ww_getR 26 X dX2_half_26 fG_X2_11 e26 ?_
        refine ww_iload 29 X dX2_half_29 3 rfl ?_
        obtain ⟨v31, e31, h⟩ := bO_some h
        refine ww_iald 31 X dX2_half_31 e31 ?_
        refine ww_i2l 32 X dX2_half_32 ?_
        refine ww_lor 33 X dX2_half_33 ?_
        refine ww_lstore_n 34 X dX2_half_34 (lv' := [(0, .ref l0), (1, .int l1), (2, .long ((shlL l2 (8 : Int32)) ||| (v31.toInt64))), (4, .int l4)]) rfl (by decide) [1, 2, 0, 3] rfl ?_
        refine ww_iinc 35 X dX2_half_35 (lv' := [(0, .ref l0), (1, .int l1), (2, .long ((shlL l2 (8 : Int32)) ||| (v31.toInt64))), (4, .int (l4 + 1))]) 3 rfl rfl (by decide) [1, 2, 3, 0] rfl ?_
        refine ww_goto 38 5 X dX2_half_38 (by decide) ?_
        exact (ih _ _ _ _ _ h)
set_option maxHeartbeats 4000000 in
set_option maxRecDepth 100000 in
theorem wP_X2_half {G : mG} {F : Nat} {x : mXT} {sz : Nat} {r0 : Int64} {M0 : mM} (X : mCX G RX2 cX2_half 5 (some .long) "half" rmX2_half x) (hQ : mQL x r0 M0 (sz, 0, 0)) {l0 : Nat} {l1 : Int32} {M : mM} (h : P_X2_half G F l0 l1 M = some (r0, M0)) : WW x (sz, 0, 0) M 0 [(0, .ref l0), (1, .int l1)] [] := by
  unfold P_X2_half at h
  refine ww_lconst 0 X (v := (0 : Int64)) dX2_half_0 (by decide) ?_
  refine ww_lstore_n 1 X dX2_half_1 (lv' := [(0, .ref l0), (1, .int l1), (2, .long (0 : Int64))]) rfl (by decide) [1, 2, 0] rfl ?_
  refine ww_iload_n 2 X dX2_half_2 1 rfl rfl ?_
  refine ww_istore 3 X dX2_half_3 (lv' := [(0, .ref l0), (1, .int l1), (2, .long (0 : Int64)), (4, .int l1)]) (by decide) [1, 2, 3, 0] rfl ?_
  exact (wB_X2_half_5 X hQ F _ _ _ _ _ h)
theorem c_X2_half {G : mG} {F sz : Nat} {r0 : Int64} {M0 : mM} (l : Launch) (D : mD) (A : Nat → Prop) {l0 : Nat} {l1 : Int32} {M : mM} (h : P_X2_half G F l0 l1 M = some (r0, M0)) : mMetL l D G A yX2_half cX2_half 5 (some .long) 0 0 0 0 [.ref l0, .int l1] M sz r0 M0 sz := mMetL_of l D G A (by decide) (Nat.le_of_ble_eq_true rfl) (fun x X hQ => wP_X2_half X hQ h)
/-! SealedTokens$Content.timesFactor(JJ)V -/
theorem dX2_timesFactor_0 : decode cX2_timesFactor 0 = .ok (.aload_n 0, 1) := by decide +kernel
theorem dX2_timesFactor_1 : decode cX2_timesFactor 1 = .ok (.getfield 137, 3) := by decide +kernel
theorem dX2_timesFactor_4 : decode cX2_timesFactor 4 = .ok (.lload_n 1, 1) := by decide +kernel
theorem dX2_timesFactor_5 : decode cX2_timesFactor 5 = .ok (.lxor, 1) := by decide +kernel
theorem dX2_timesFactor_6 : decode cX2_timesFactor 6 = .ok (.lstore 5, 2) := by decide +kernel
theorem dX2_timesFactor_8 : decode cX2_timesFactor 8 = .ok (.aload_n 0, 1) := by decide +kernel
theorem dX2_timesFactor_9 : decode cX2_timesFactor 9 = .ok (.getfield 140, 3) := by decide +kernel
theorem dX2_timesFactor_12 : decode cX2_timesFactor 12 = .ok (.lload_n 3, 1) := by decide +kernel
theorem dX2_timesFactor_13 : decode cX2_timesFactor 13 = .ok (.lxor, 1) := by decide +kernel
theorem dX2_timesFactor_14 : decode cX2_timesFactor 14 = .ok (.lstore 7, 2) := by decide +kernel
theorem dX2_timesFactor_16 : decode cX2_timesFactor 16 = .ok (.aload_n 0, 1) := by decide +kernel
theorem dX2_timesFactor_17 : decode cX2_timesFactor 17 = .ok (.getfield 130, 3) := by decide +kernel
theorem dX2_timesFactor_20 : decode cX2_timesFactor 20 = .ok (.lstore 9, 2) := by decide +kernel
theorem dX2_timesFactor_22 : decode cX2_timesFactor 22 = .ok (.aload_n 0, 1) := by decide +kernel
theorem dX2_timesFactor_23 : decode cX2_timesFactor 23 = .ok (.getfield 134, 3) := by decide +kernel
theorem dX2_timesFactor_26 : decode cX2_timesFactor 26 = .ok (.lstore 11, 2) := by decide +kernel
theorem dX2_timesFactor_28 : decode cX2_timesFactor 28 = .ok (.aload_n 0, 1) := by decide +kernel
theorem dX2_timesFactor_29 : decode cX2_timesFactor 29 = .ok (.lconst 0, 1) := by decide +kernel
theorem dX2_timesFactor_30 : decode cX2_timesFactor 30 = .ok (.putfield 137, 3) := by decide +kernel
theorem dX2_timesFactor_33 : decode cX2_timesFactor 33 = .ok (.aload_n 0, 1) := by decide +kernel
theorem dX2_timesFactor_34 : decode cX2_timesFactor 34 = .ok (.lconst 0, 1) := by decide +kernel
theorem dX2_timesFactor_35 : decode cX2_timesFactor 35 = .ok (.putfield 140, 3) := by decide +kernel
theorem dX2_timesFactor_38 : decode cX2_timesFactor 38 = .ok (.iconst 0, 1) := by decide +kernel
theorem dX2_timesFactor_39 : decode cX2_timesFactor 39 = .ok (.istore 13, 2) := by decide +kernel
theorem dX2_timesFactor_41 : decode cX2_timesFactor 41 = .ok (.iload 13, 2) := by decide +kernel
theorem dX2_timesFactor_43 : decode cX2_timesFactor 43 = .ok (.sipush 128, 3) := by decide +kernel
theorem dX2_timesFactor_46 : decode cX2_timesFactor 46 = .ok (.if_icmp .ge 103, 3) := by decide +kernel
theorem dX2_timesFactor_49 : decode cX2_timesFactor 49 = .ok (.lload 5, 2) := by decide +kernel
theorem dX2_timesFactor_51 : decode cX2_timesFactor 51 = .ok (.lconst 0, 1) := by decide +kernel
theorem dX2_timesFactor_52 : decode cX2_timesFactor 52 = .ok (.lcmp, 1) := by decide +kernel
theorem dX2_timesFactor_53 : decode cX2_timesFactor 53 = .ok (.ifCond .ge 25, 3) := by decide +kernel
theorem dX2_timesFactor_56 : decode cX2_timesFactor 56 = .ok (.aload_n 0, 1) := by decide +kernel
theorem dX2_timesFactor_57 : decode cX2_timesFactor 57 = .ok (.dup, 1) := by decide +kernel
theorem dX2_timesFactor_58 : decode cX2_timesFactor 58 = .ok (.getfield 137, 3) := by decide +kernel
theorem dX2_timesFactor_61 : decode cX2_timesFactor 61 = .ok (.lload 9, 2) := by decide +kernel
theorem dX2_timesFactor_63 : decode cX2_timesFactor 63 = .ok (.lxor, 1) := by decide +kernel
theorem dX2_timesFactor_64 : decode cX2_timesFactor 64 = .ok (.putfield 137, 3) := by decide +kernel
theorem dX2_timesFactor_67 : decode cX2_timesFactor 67 = .ok (.aload_n 0, 1) := by decide +kernel
theorem dX2_timesFactor_68 : decode cX2_timesFactor 68 = .ok (.dup, 1) := by decide +kernel
theorem dX2_timesFactor_69 : decode cX2_timesFactor 69 = .ok (.getfield 140, 3) := by decide +kernel
theorem dX2_timesFactor_72 : decode cX2_timesFactor 72 = .ok (.lload 11, 2) := by decide +kernel
theorem dX2_timesFactor_74 : decode cX2_timesFactor 74 = .ok (.lxor, 1) := by decide +kernel
theorem dX2_timesFactor_75 : decode cX2_timesFactor 75 = .ok (.putfield 140, 3) := by decide +kernel
theorem dX2_timesFactor_78 : decode cX2_timesFactor 78 = .ok (.lload 5, 2) := by decide +kernel
theorem dX2_timesFactor_80 : decode cX2_timesFactor 80 = .ok (.iconst 1, 1) := by decide +kernel
theorem dX2_timesFactor_81 : decode cX2_timesFactor 81 = .ok (.lshl, 1) := by decide +kernel
theorem dX2_timesFactor_82 : decode cX2_timesFactor 82 = .ok (.lload 7, 2) := by decide +kernel
theorem dX2_timesFactor_84 : decode cX2_timesFactor 84 = .ok (.bipush 63, 2) := by decide +kernel
theorem dX2_timesFactor_86 : decode cX2_timesFactor 86 = .ok (.lushr, 1) := by decide +kernel
theorem dX2_timesFactor_87 : decode cX2_timesFactor 87 = .ok (.lor, 1) := by decide +kernel
theorem dX2_timesFactor_88 : decode cX2_timesFactor 88 = .ok (.lstore 5, 2) := by decide +kernel
theorem dX2_timesFactor_90 : decode cX2_timesFactor 90 = .ok (.lload 7, 2) := by decide +kernel
theorem dX2_timesFactor_92 : decode cX2_timesFactor 92 = .ok (.iconst 1, 1) := by decide +kernel
theorem dX2_timesFactor_93 : decode cX2_timesFactor 93 = .ok (.lshl, 1) := by decide +kernel
theorem dX2_timesFactor_94 : decode cX2_timesFactor 94 = .ok (.lstore 7, 2) := by decide +kernel
theorem dX2_timesFactor_96 : decode cX2_timesFactor 96 = .ok (.lload 11, 2) := by decide +kernel
theorem dX2_timesFactor_98 : decode cX2_timesFactor 98 = .ok (.lconst 1, 1) := by decide +kernel
theorem dX2_timesFactor_99 : decode cX2_timesFactor 99 = .ok (.land, 1) := by decide +kernel
theorem dX2_timesFactor_100 : decode cX2_timesFactor 100 = .ok (.lconst 0, 1) := by decide +kernel
theorem dX2_timesFactor_101 : decode cX2_timesFactor 101 = .ok (.lcmp, 1) := by decide +kernel
theorem dX2_timesFactor_102 : decode cX2_timesFactor 102 = .ok (.ifCond .eq 7, 3) := by decide +kernel
theorem dX2_timesFactor_105 : decode cX2_timesFactor 105 = .ok (.iconst 1, 1) := by decide +kernel
theorem dX2_timesFactor_106 : decode cX2_timesFactor 106 = .ok (.goto 4, 3) := by decide +kernel
theorem dX2_timesFactor_109 : decode cX2_timesFactor 109 = .ok (.iconst 0, 1) := by decide +kernel
theorem dX2_timesFactor_110 : decode cX2_timesFactor 110 = .ok (.istore 14, 2) := by decide +kernel
theorem dX2_timesFactor_112 : decode cX2_timesFactor 112 = .ok (.lload 11, 2) := by decide +kernel
theorem dX2_timesFactor_114 : decode cX2_timesFactor 114 = .ok (.iconst 1, 1) := by decide +kernel
theorem dX2_timesFactor_115 : decode cX2_timesFactor 115 = .ok (.lushr, 1) := by decide +kernel
theorem dX2_timesFactor_116 : decode cX2_timesFactor 116 = .ok (.lload 9, 2) := by decide +kernel
theorem dX2_timesFactor_118 : decode cX2_timesFactor 118 = .ok (.bipush 63, 2) := by decide +kernel
theorem dX2_timesFactor_120 : decode cX2_timesFactor 120 = .ok (.lshl, 1) := by decide +kernel
theorem dX2_timesFactor_121 : decode cX2_timesFactor 121 = .ok (.lor, 1) := by decide +kernel
theorem dX2_timesFactor_122 : decode cX2_timesFactor 122 = .ok (.lstore 11, 2) := by decide +kernel
theorem dX2_timesFactor_124 : decode cX2_timesFactor 124 = .ok (.lload 9, 2) := by decide +kernel
theorem dX2_timesFactor_126 : decode cX2_timesFactor 126 = .ok (.iconst 1, 1) := by decide +kernel
theorem dX2_timesFactor_127 : decode cX2_timesFactor 127 = .ok (.lushr, 1) := by decide +kernel
theorem dX2_timesFactor_128 : decode cX2_timesFactor 128 = .ok (.iload 14, 2) := by decide +kernel
theorem dX2_timesFactor_130 : decode cX2_timesFactor 130 = .ok (.ifCond .eq 9, 3) := by decide +kernel
theorem dX2_timesFactor_133 : decode cX2_timesFactor 133 = .ok (.ldc2_w 159, 3) := by decide +kernel
theorem dX2_timesFactor_136 : decode cX2_timesFactor 136 = .ok (.goto 4, 3) := by decide +kernel
theorem dX2_timesFactor_139 : decode cX2_timesFactor 139 = .ok (.lconst 0, 1) := by decide +kernel
theorem dX2_timesFactor_140 : decode cX2_timesFactor 140 = .ok (.lxor, 1) := by decide +kernel
theorem dX2_timesFactor_141 : decode cX2_timesFactor 141 = .ok (.lstore 9, 2) := by decide +kernel
theorem dX2_timesFactor_143 : decode cX2_timesFactor 143 = .ok (.iinc 13 1, 3) := by decide +kernel
theorem dX2_timesFactor_146 : decode cX2_timesFactor 146 = .ok (.goto (-105), 3) := by decide +kernel
theorem dX2_timesFactor_149 : decode cX2_timesFactor 149 = .ok (.return_, 1) := by decide +kernel
abbrev rmX2_timesFactor : Room := { frames := 0, cells := 0, slots := 0, locals := 0 }
set_option maxHeartbeats 4000000 in
set_option maxRecDepth 100000 in
theorem wB_X2_timesFactor_110 {G : mG} {F : Nat} {x : mXT} {sz : Nat} {M0 : mM} (X : mCX G RX2 cX2_timesFactor 15 none "timesFactor" rmX2_timesFactor x) (hQ : mQV x M0 (sz, 0, 0)) (r41 : Nat → Int64 → Int64 → Int64 → Int64 → Int32 → mM → Option mM) (hr41 : ∀ (l0 : Nat) (l5 : Int64) (l7 : Int64) (l9 : Int64) (l11 : Int64) (l13 : Int32) (M : mM), r41 l0 l5 l7 l9 l11 l13 M = some M0 → WW x (sz, 0, 0) M 41 [(0, .ref l0), (5, .long l5), (7, .long l7), (9, .long l9), (11, .long l11), (13, .int l13)] []) {l0 : Nat} {l5 : Int64} {l7 : Int64} {l9 : Int64} {l11 : Int64} {l13 : Int32} {sk0 : Int32} {M : mM} (h : B_X2_timesFactor_110 G F r41 l0 l5 l7 l9 l11 l13 sk0 M = some M0) : WW x (sz, 0, 0) M 110 [(0, .ref l0), (5, .long l5), (7, .long l7), (9, .long l9), (11, .long l11), (13, .int l13)] [.int sk0] := by
  unfold B_X2_timesFactor_110 at h
  refine ww_istore 110 X dX2_timesFactor_110 (lv' := [(0, .ref l0), (5, .long l5), (7, .long l7), (9, .long l9), (11, .long l11), (13, .int l13), (14, .int sk0)]) (by decide) [1, 2, 3, 4, 5, 6, 0] rfl ?_
  refine ww_lload 112 X dX2_timesFactor_112 4 rfl ?_
  refine ww_iconst 114 X (v := (1 : Int32)) dX2_timesFactor_114 (by decide) ?_
  refine ww_lushr 115 X dX2_timesFactor_115 ?_
  refine ww_lload 116 X dX2_timesFactor_116 3 rfl ?_
  refine ww_bipush 118 X (v := (63 : Int32)) dX2_timesFactor_118 (by decide) ?_
  refine ww_lshl 120 X dX2_timesFactor_120 ?_
  refine ww_lor 121 X dX2_timesFactor_121 ?_
  refine ww_lstore 122 X dX2_timesFactor_122 (lv' := [(0, .ref l0), (5, .long l5), (7, .long l7), (9, .long l9), (11, .long ((ushL l11 (1 : Int32)) ||| (shlL l9 (63 : Int32)))), (13, .int l13), (14, .int sk0)]) (by decide) [1, 2, 3, 4, 0, 5, 6] rfl ?_
  refine ww_lload 124 X dX2_timesFactor_124 3 rfl ?_
  refine ww_iconst 126 X (v := (1 : Int32)) dX2_timesFactor_126 (by decide) ?_
  refine ww_lushr 127 X dX2_timesFactor_127 ?_
  refine ww_iload 128 X dX2_timesFactor_128 6 rfl ?_
  refine ww_if_eq 130 139 X dX2_timesFactor_130 (by decide) (fun q => ?_) (fun q => ?_)
  · replace h := (if_pos q).symm.trans h
    refine ww_lconst 139 X (v := (0 : Int64)) dX2_timesFactor_139 (by decide) ?_
    refine ww_lxor 140 X dX2_timesFactor_140 ?_
    refine ww_lstore 141 X dX2_timesFactor_141 (lv' := [(0, .ref l0), (5, .long l5), (7, .long l7), (9, .long ((ushL l9 (1 : Int32)) ^^^ (0 : Int64))), (11, .long ((ushL l11 (1 : Int32)) ||| (shlL l9 (63 : Int32)))), (13, .int l13), (14, .int sk0)]) (by decide) [1, 2, 3, 0, 4, 5, 6] rfl ?_
    refine ww_iinc 143 X dX2_timesFactor_143 (lv' := [(0, .ref l0), (5, .long l5), (7, .long l7), (9, .long ((ushL l9 (1 : Int32)) ^^^ (0 : Int64))), (11, .long ((ushL l11 (1 : Int32)) ||| (shlL l9 (63 : Int32)))), (13, .int (l13 + 1)), (14, .int sk0)]) 5 rfl rfl (by decide) [1, 2, 3, 4, 5, 0, 6] rfl ?_
    refine ww_goto 146 41 X dX2_timesFactor_146 (by decide) ?_
    exact ww_sub [0, 1, 2, 3, 4, 5] rfl (hr41 _ _ _ _ _ _ _ h)
  · replace h := (if_neg q).symm.trans h
    refine ww_ldc2 133 X (v := (-2233785415175766016 : Int64)) dX2_timesFactor_133 kL_X2_159 ?_
    refine ww_goto 136 140 X dX2_timesFactor_136 (by decide) ?_
    refine ww_lxor 140 X dX2_timesFactor_140 ?_
    refine ww_lstore 141 X dX2_timesFactor_141 (lv' := [(0, .ref l0), (5, .long l5), (7, .long l7), (9, .long ((ushL l9 (1 : Int32)) ^^^ (-2233785415175766016 : Int64))), (11, .long ((ushL l11 (1 : Int32)) ||| (shlL l9 (63 : Int32)))), (13, .int l13), (14, .int sk0)]) (by decide) [1, 2, 3, 0, 4, 5, 6] rfl ?_
    refine ww_iinc 143 X dX2_timesFactor_143 (lv' := [(0, .ref l0), (5, .long l5), (7, .long l7), (9, .long ((ushL l9 (1 : Int32)) ^^^ (-2233785415175766016 : Int64))), (11, .long ((ushL l11 (1 : Int32)) ||| (shlL l9 (63 : Int32)))), (13, .int (l13 + 1)), (14, .int sk0)]) 5 rfl rfl (by decide) [1, 2, 3, 4, 5, 0, 6] rfl ?_
    refine ww_goto 146 41 X dX2_timesFactor_146 (by decide) ?_
    exact ww_sub [0, 1, 2, 3, 4, 5] rfl (hr41 _ _ _ _ _ _ _ h)
set_option maxHeartbeats 4000000 in
set_option maxRecDepth 100000 in
theorem wB_X2_timesFactor_78 {G : mG} {F : Nat} {x : mXT} {sz : Nat} {M0 : mM} (X : mCX G RX2 cX2_timesFactor 15 none "timesFactor" rmX2_timesFactor x) (hQ : mQV x M0 (sz, 0, 0)) (r41 : Nat → Int64 → Int64 → Int64 → Int64 → Int32 → mM → Option mM) (hr41 : ∀ (l0 : Nat) (l5 : Int64) (l7 : Int64) (l9 : Int64) (l11 : Int64) (l13 : Int32) (M : mM), r41 l0 l5 l7 l9 l11 l13 M = some M0 → WW x (sz, 0, 0) M 41 [(0, .ref l0), (5, .long l5), (7, .long l7), (9, .long l9), (11, .long l11), (13, .int l13)] []) {l0 : Nat} {l5 : Int64} {l7 : Int64} {l9 : Int64} {l11 : Int64} {l13 : Int32} {M : mM} (h : B_X2_timesFactor_78 G F r41 l0 l5 l7 l9 l11 l13 M = some M0) : WW x (sz, 0, 0) M 78 [(0, .ref l0), (5, .long l5), (7, .long l7), (9, .long l9), (11, .long l11), (13, .int l13)] [] := by
  unfold B_X2_timesFactor_78 at h
  refine ww_lload 78 X dX2_timesFactor_78 1 rfl ?_
  refine ww_iconst 80 X (v := (1 : Int32)) dX2_timesFactor_80 (by decide) ?_
  refine ww_lshl 81 X dX2_timesFactor_81 ?_
  refine ww_lload 82 X dX2_timesFactor_82 2 rfl ?_
  refine ww_bipush 84 X (v := (63 : Int32)) dX2_timesFactor_84 (by decide) ?_
  refine ww_lushr 86 X dX2_timesFactor_86 ?_
  refine ww_lor 87 X dX2_timesFactor_87 ?_
  refine ww_lstore 88 X dX2_timesFactor_88 (lv' := [(0, .ref l0), (5, .long ((shlL l5 (1 : Int32)) ||| (ushL l7 (63 : Int32)))), (7, .long l7), (9, .long l9), (11, .long l11), (13, .int l13)]) (by decide) [1, 0, 2, 3, 4, 5] rfl ?_
  refine ww_lload 90 X dX2_timesFactor_90 2 rfl ?_
  refine ww_iconst 92 X (v := (1 : Int32)) dX2_timesFactor_92 (by decide) ?_
  refine ww_lshl 93 X dX2_timesFactor_93 ?_
  refine ww_lstore 94 X dX2_timesFactor_94 (lv' := [(0, .ref l0), (5, .long ((shlL l5 (1 : Int32)) ||| (ushL l7 (63 : Int32)))), (7, .long (shlL l7 (1 : Int32))), (9, .long l9), (11, .long l11), (13, .int l13)]) (by decide) [1, 2, 0, 3, 4, 5] rfl ?_
  refine ww_lload 96 X dX2_timesFactor_96 4 rfl ?_
  refine ww_lconst 98 X (v := (1 : Int64)) dX2_timesFactor_98 (by decide) ?_
  refine ww_land 99 X dX2_timesFactor_99 ?_
  refine ww_lconst 100 X (v := (0 : Int64)) dX2_timesFactor_100 (by decide) ?_
  refine ww_lcmp 101 X dX2_timesFactor_101 ?_
  refine ww_if_eq 102 109 X dX2_timesFactor_102 (by decide) (fun q => ?_) (fun q => ?_)
  · replace h := (if_pos q).symm.trans h
    refine ww_iconst 109 X (v := (0 : Int32)) dX2_timesFactor_109 (by decide) ?_
    exact (wB_X2_timesFactor_110 X hQ _ hr41 h)
  · replace h := (if_neg q).symm.trans h
    refine ww_iconst 105 X (v := (1 : Int32)) dX2_timesFactor_105 (by decide) ?_
    refine ww_goto 106 110 X dX2_timesFactor_106 (by decide) ?_
    exact (wB_X2_timesFactor_110 X hQ _ hr41 h)
set_option maxHeartbeats 4000000 in
set_option maxRecDepth 100000 in
theorem wB_X2_timesFactor_41 {G : mG} {F : Nat} {x : mXT} {sz : Nat} {M0 : mM} (X : mCX G RX2 cX2_timesFactor 15 none "timesFactor" rmX2_timesFactor x) (hQ : mQV x M0 (sz, 0, 0)) : ∀ (n : Nat) (l0 : Nat) (l5 : Int64) (l7 : Int64) (l9 : Int64) (l11 : Int64) (l13 : Int32) (M : mM), B_X2_timesFactor_41 G F n l0 l5 l7 l9 l11 l13 M = some M0 → WW x (sz, 0, 0) M 41 [(0, .ref l0), (5, .long l5), (7, .long l7), (9, .long l9), (11, .long l11), (13, .int l13)] [] := by
  intro n
  induction n with
  | zero =>
    intro l0 l5 l7 l9 l11 l13 M h
    exact nomatch (show (none : Option mM) = some M0 from h)
  | succ n ih =>
    intro l0 l5 l7 l9 l11 l13 M h
    rw [B_X2_timesFactor_41] at h
    refine ww_iload 41 X dX2_timesFactor_41 5 rfl ?_
    refine ww_sipush 43 X (v := (128 : Int32)) dX2_timesFactor_43 (by decide) ?_
    refine ww_icmp_ge 46 149 X dX2_timesFactor_46 (by decide) (fun q => ?_) (fun q => ?_)
    · replace h := (if_pos q).symm.trans h
      exact ww_vretE 149 X hQ dX2_timesFactor_149 h
    · replace h := (if_neg q).symm.trans h
      refine ww_lload 49 X dX2_timesFactor_49 1 rfl ?_
      refine ww_lconst 51 X (v := (0 : Int64)) dX2_timesFactor_51 (by decide) ?_
      refine ww_lcmp 52 X dX2_timesFactor_52 ?_
      refine ww_if_ge 53 78 X dX2_timesFactor_53 (by decide) (fun q => ?_) (fun q => ?_)
      · replace h := (if_pos q).symm.trans h
        exact (wB_X2_timesFactor_78 X hQ _ ih h)
      · replace h := (if_neg q).symm.trans h
        refine ww_aload_n 56 X dX2_timesFactor_56 0 rfl rfl ?_
        refine ww_dup 57 X dX2_timesFactor_57 rfl ?_
        obtain ⟨v58, e58, h⟩ := bO_some h
        refine ww_getL 58 X dX2_timesFactor_58 fG_X2_137 e58 ?_
        refine ww_lload 61 X dX2_timesFactor_61 3 rfl ?_
        refine ww_lxor 63 X dX2_timesFactor_63 ?_
        obtain ⟨M64, e64, h⟩ := bO_some h
        refine ww_putL 64 X dX2_timesFactor_64 (fP_X2_137 _) e64 ?_
        refine ww_aload_n 67 X dX2_timesFactor_67 0 rfl rfl ?_
        refine ww_dup 68 X dX2_timesFactor_68 rfl ?_
        obtain ⟨v69, e69, h⟩ := bO_some h
        refine ww_getL 69 X dX2_timesFactor_69 fG_X2_140 e69 ?_
        refine ww_lload 72 X dX2_timesFactor_72 4 rfl ?_
        refine ww_lxor 74 X dX2_timesFactor_74 ?_
        obtain ⟨M75, e75, h⟩ := bO_some h
        refine ww_putL 75 X dX2_timesFactor_75 (fP_X2_140 _) e75 ?_
        exact (wB_X2_timesFactor_78 X hQ _ ih h)
set_option maxHeartbeats 4000000 in
set_option maxRecDepth 100000 in
theorem wP_X2_timesFactor {G : mG} {F : Nat} {x : mXT} {sz : Nat} {M0 : mM} (X : mCX G RX2 cX2_timesFactor 15 none "timesFactor" rmX2_timesFactor x) (hQ : mQV x M0 (sz, 0, 0)) {l0 : Nat} {l1 : Int64} {l3 : Int64} {M : mM} (h : P_X2_timesFactor G F l0 l1 l3 M = some M0) : WW x (sz, 0, 0) M 0 [(0, .ref l0), (1, .long l1), (3, .long l3)] [] := by
  unfold P_X2_timesFactor at h
  refine ww_aload_n 0 X dX2_timesFactor_0 0 rfl rfl ?_
  obtain ⟨v1, e1, h⟩ := bO_some h
  refine ww_getL 1 X dX2_timesFactor_1 fG_X2_137 e1 ?_
  refine ww_lload_n 4 X dX2_timesFactor_4 1 rfl rfl ?_
  refine ww_lxor 5 X dX2_timesFactor_5 ?_
  refine ww_lstore 6 X dX2_timesFactor_6 (lv' := [(0, .ref l0), (1, .long l1), (3, .long l3), (5, .long (v1 ^^^ l1))]) (by decide) [1, 2, 3, 0] rfl ?_
  refine ww_aload_n 8 X dX2_timesFactor_8 0 rfl rfl ?_
  obtain ⟨v9, e9, h⟩ := bO_some h
  refine ww_getL 9 X dX2_timesFactor_9 fG_X2_140 e9 ?_
  refine ww_lload_n 12 X dX2_timesFactor_12 2 rfl rfl ?_
  refine ww_lxor 13 X dX2_timesFactor_13 ?_
  refine ww_lstore 14 X dX2_timesFactor_14 (lv' := [(0, .ref l0), (1, .long l1), (3, .long l3), (5, .long (v1 ^^^ l1)), (7, .long (v9 ^^^ l3))]) (by decide) [1, 2, 3, 4, 0] rfl ?_
  refine ww_aload_n 16 X dX2_timesFactor_16 0 rfl rfl ?_
  obtain ⟨v17, e17, h⟩ := bO_some h
  refine ww_getL 17 X dX2_timesFactor_17 fG_X2_130 e17 ?_
  refine ww_lstore 20 X dX2_timesFactor_20 (lv' := [(0, .ref l0), (1, .long l1), (3, .long l3), (5, .long (v1 ^^^ l1)), (7, .long (v9 ^^^ l3)), (9, .long v17)]) (by decide) [1, 2, 3, 4, 5, 0] rfl ?_
  refine ww_aload_n 22 X dX2_timesFactor_22 0 rfl rfl ?_
  obtain ⟨v23, e23, h⟩ := bO_some h
  refine ww_getL 23 X dX2_timesFactor_23 fG_X2_134 e23 ?_
  refine ww_lstore 26 X dX2_timesFactor_26 (lv' := [(0, .ref l0), (1, .long l1), (3, .long l3), (5, .long (v1 ^^^ l1)), (7, .long (v9 ^^^ l3)), (9, .long v17), (11, .long v23)]) (by decide) [1, 2, 3, 4, 5, 6, 0] rfl ?_
  refine ww_aload_n 28 X dX2_timesFactor_28 0 rfl rfl ?_
  refine ww_lconst 29 X (v := (0 : Int64)) dX2_timesFactor_29 (by decide) ?_
  obtain ⟨M30, e30, h⟩ := bO_some h
  refine ww_putL 30 X dX2_timesFactor_30 (fP_X2_137 _) e30 ?_
  refine ww_aload_n 33 X dX2_timesFactor_33 0 rfl rfl ?_
  refine ww_lconst 34 X (v := (0 : Int64)) dX2_timesFactor_34 (by decide) ?_
  obtain ⟨M35, e35, h⟩ := bO_some h
  refine ww_putL 35 X dX2_timesFactor_35 (fP_X2_140 _) e35 ?_
  refine ww_iconst 38 X (v := (0 : Int32)) dX2_timesFactor_38 (by decide) ?_
  refine ww_istore 39 X dX2_timesFactor_39 (lv' := [(0, .ref l0), (1, .long l1), (3, .long l3), (5, .long (v1 ^^^ l1)), (7, .long (v9 ^^^ l3)), (9, .long v17), (11, .long v23), (13, .int (0 : Int32))]) (by decide) [1, 2, 3, 4, 5, 6, 7, 0] rfl ?_
  exact ww_sub [0, 3, 4, 5, 6, 7] rfl (wB_X2_timesFactor_41 X hQ F _ _ _ _ _ _ _ h)
theorem c_X2_timesFactor {G : mG} {F sz : Nat} {M0 : mM} (l : Launch) (D : mD) (A : Nat → Prop) {l0 : Nat} {l1 : Int64} {l3 : Int64} {M : mM} (h : P_X2_timesFactor G F l0 l1 l3 M = some M0) : mMetV l D G A yX2_timesFactor cX2_timesFactor 15 none 0 0 0 0 [.ref l0, .long l1, .long l3] M sz M0 sz := mMetV_of l D G A (by decide) (Nat.le_of_ble_eq_true rfl) (fun x X hQ => wP_X2_timesFactor X hQ h)
/-! SealedTokens$Content.addToSum(LSealedTokens$Bytes;I)V -/
theorem dX2_addToSum_0 : decode cX2_addToSum 0 = .ok (.iconst 0, 1) := by decide +kernel
theorem dX2_addToSum_1 : decode cX2_addToSum 1 = .ok (.istore_n 3, 1) := by decide +kernel
theorem dX2_addToSum_2 : decode cX2_addToSum 2 = .ok (.iload_n 3, 1) := by decide +kernel
theorem dX2_addToSum_3 : decode cX2_addToSum 3 = .ok (.iload_n 2, 1) := by decide +kernel
theorem dX2_addToSum_4 : decode cX2_addToSum 4 = .ok (.if_icmp .ge 67, 3) := by decide +kernel
theorem dX2_addToSum_7 : decode cX2_addToSum 7 = .ok (.iconst 0, 1) := by decide +kernel
theorem dX2_addToSum_8 : decode cX2_addToSum 8 = .ok (.istore 4, 2) := by decide +kernel
theorem dX2_addToSum_10 : decode cX2_addToSum 10 = .ok (.iload 4, 2) := by decide +kernel
theorem dX2_addToSum_12 : decode cX2_addToSum 12 = .ok (.bipush 16, 2) := by decide +kernel
theorem dX2_addToSum_14 : decode cX2_addToSum 14 = .ok (.if_icmp .ge 36, 3) := by decide +kernel
theorem dX2_addToSum_17 : decode cX2_addToSum 17 = .ok (.aload_n 0, 1) := by decide +kernel
theorem dX2_addToSum_18 : decode cX2_addToSum 18 = .ok (.getfield 11, 3) := by decide +kernel
theorem dX2_addToSum_21 : decode cX2_addToSum 21 = .ok (.iload 4, 2) := by decide +kernel
theorem dX2_addToSum_23 : decode cX2_addToSum 23 = .ok (.iload_n 3, 1) := by decide +kernel
theorem dX2_addToSum_24 : decode cX2_addToSum 24 = .ok (.iload 4, 2) := by decide +kernel
theorem dX2_addToSum_26 : decode cX2_addToSum 26 = .ok (.iadd, 1) := by decide +kernel
theorem dX2_addToSum_27 : decode cX2_addToSum 27 = .ok (.iload_n 2, 1) := by decide +kernel
theorem dX2_addToSum_28 : decode cX2_addToSum 28 = .ok (.if_icmp .ge 14, 3) := by decide +kernel
theorem dX2_addToSum_31 : decode cX2_addToSum 31 = .ok (.aload_n 1, 1) := by decide +kernel
theorem dX2_addToSum_32 : decode cX2_addToSum 32 = .ok (.iload_n 3, 1) := by decide +kernel
theorem dX2_addToSum_33 : decode cX2_addToSum 33 = .ok (.iload 4, 2) := by decide +kernel
theorem dX2_addToSum_35 : decode cX2_addToSum 35 = .ok (.iadd, 1) := by decide +kernel
theorem dX2_addToSum_36 : decode cX2_addToSum 36 = .ok (.invokevirtual 90, 3) := by decide +kernel
theorem dX2_addToSum_39 : decode cX2_addToSum 39 = .ok (.goto 4, 3) := by decide +kernel
theorem dX2_addToSum_42 : decode cX2_addToSum 42 = .ok (.iconst 0, 1) := by decide +kernel
theorem dX2_addToSum_43 : decode cX2_addToSum 43 = .ok (.iastore, 1) := by decide +kernel
theorem dX2_addToSum_44 : decode cX2_addToSum 44 = .ok (.iinc 4 1, 3) := by decide +kernel
theorem dX2_addToSum_47 : decode cX2_addToSum 47 = .ok (.goto (-37), 3) := by decide +kernel
theorem dX2_addToSum_50 : decode cX2_addToSum 50 = .ok (.aload_n 0, 1) := by decide +kernel
theorem dX2_addToSum_51 : decode cX2_addToSum 51 = .ok (.aload_n 0, 1) := by decide +kernel
theorem dX2_addToSum_52 : decode cX2_addToSum 52 = .ok (.iconst 0, 1) := by decide +kernel
theorem dX2_addToSum_53 : decode cX2_addToSum 53 = .ok (.invokevirtual 126, 3) := by decide +kernel
theorem dX2_addToSum_56 : decode cX2_addToSum 56 = .ok (.aload_n 0, 1) := by decide +kernel
theorem dX2_addToSum_57 : decode cX2_addToSum 57 = .ok (.bipush 8, 2) := by decide +kernel
theorem dX2_addToSum_59 : decode cX2_addToSum 59 = .ok (.invokevirtual 126, 3) := by decide +kernel
theorem dX2_addToSum_62 : decode cX2_addToSum 62 = .ok (.invokevirtual 148, 3) := by decide +kernel
theorem dX2_addToSum_65 : decode cX2_addToSum 65 = .ok (.iinc 3 16, 3) := by decide +kernel
theorem dX2_addToSum_68 : decode cX2_addToSum 68 = .ok (.goto (-66), 3) := by decide +kernel
theorem dX2_addToSum_71 : decode cX2_addToSum 71 = .ok (.return_, 1) := by decide +kernel
abbrev rmX2_addToSum : Room := { frames := 1, cells := 0, slots := 0, locals := 34 }
set_option maxHeartbeats 4000000 in
set_option maxRecDepth 100000 in
theorem wB_X2_addToSum_10 {G : mG} {F : Nat} {x : mXT} {sz : Nat} {M0 : mM} (X : mCX G RX2 cX2_addToSum 5 none "addToSum" rmX2_addToSum x) (hQ : mQV x M0 (sz, 0, 0)) (r2 : Nat → Nat → Int32 → Int32 → mM → Option mM) (hr2 : ∀ (l0 : Nat) (l1 : Nat) (l2 : Int32) (l3 : Int32) (M : mM), r2 l0 l1 l2 l3 M = some M0 → WW x (sz, 0, 0) M 2 [(0, .ref l0), (1, .ref l1), (2, .int l2), (3, .int l3)] []) : ∀ (n : Nat) (l0 : Nat) (l1 : Nat) (l2 : Int32) (l3 : Int32) (l4 : Int32) (M : mM), B_X2_addToSum_10 G F r2 n l0 l1 l2 l3 l4 M = some M0 → WW x (sz, 0, 0) M 10 [(0, .ref l0), (1, .ref l1), (2, .int l2), (3, .int l3), (4, .int l4)] [] := by
  intro n
  induction n with
  | zero =>
    intro l0 l1 l2 l3 l4 M h
    exact nomatch (show (none : Option mM) = some M0 from h)
  | succ n ih =>
    intro l0 l1 l2 l3 l4 M h
    rw [B_X2_addToSum_10] at h
    refine ww_iload 10 X dX2_addToSum_10 4 rfl ?_
    refine ww_bipush 12 X (v := (16 : Int32)) dX2_addToSum_12 (by decide) ?_
    refine ww_icmp_ge 14 50 X dX2_addToSum_14 (by decide) (fun q => ?_) (fun q => ?_)
    · replace h := (if_pos q).symm.trans h
      refine ww_aload_n 50 X dX2_addToSum_50 0 rfl rfl ?_
      refine ww_aload_n 51 X dX2_addToSum_51 0 rfl rfl ?_
      refine ww_iconst 52 X (v := (0 : Int32)) dX2_addToSum_52 (by decide) ?_
      obtain ⟨_, f53, h⟩ := bO_some h
      obtain ⟨v53, M53, e53, h⟩ := bP_some h
      refine ww_callVL0 53 X dX2_addToSum_53 mY_X2_half mL_X2_126 (rcv_spec f53) ⟨_, _, rfl⟩ (by decide) (As := [.int (0 : Int32)]) (rest := [.ref l0]) rfl rfl ⟨Nat.le_of_ble_eq_true rfl, Nat.le_of_ble_eq_true rfl⟩ (Nat.le_of_ble_eq_true rfl) (fun l D A => c_X2_half l D A e53) ?_
      refine ww_aload_n 56 X dX2_addToSum_56 0 rfl rfl ?_
      refine ww_bipush 57 X (v := (8 : Int32)) dX2_addToSum_57 (by decide) ?_
      obtain ⟨_, f59, h⟩ := bO_some h
      obtain ⟨v59, M59, e59, h⟩ := bP_some h
      refine ww_callVL0 59 X dX2_addToSum_59 mY_X2_half mL_X2_126 (rcv_spec f59) ⟨_, _, rfl⟩ (by decide) (As := [.int (8 : Int32)]) (rest := [.long v53, .ref l0]) rfl rfl ⟨Nat.le_of_ble_eq_true rfl, Nat.le_of_ble_eq_true rfl⟩ (Nat.le_of_ble_eq_true rfl) (fun l D A => c_X2_half l D A e59) ?_
      obtain ⟨_, f62, h⟩ := bO_some h
      obtain ⟨M62, e62, h⟩ := bO_some h
      refine ww_callVV0 62 X dX2_addToSum_62 mY_X2_timesFactor mL_X2_148 (rcv_spec f62) ⟨_, _, rfl⟩ (by decide) (As := [.long v53, .long v59]) (rest := []) rfl rfl ⟨Nat.le_of_ble_eq_true rfl, Nat.le_of_ble_eq_true rfl⟩ (Nat.le_of_ble_eq_true rfl) (fun l D A => c_X2_timesFactor l D A e62) ?_
      refine ww_iinc 65 X dX2_addToSum_65 (lv' := [(0, .ref l0), (1, .ref l1), (2, .int l2), (3, .int (l3 + 16)), (4, .int l4)]) 3 rfl rfl (by decide) [1, 2, 3, 0, 4] rfl ?_
      refine ww_goto 68 2 X dX2_addToSum_68 (by decide) ?_
      exact ww_sub [0, 1, 2, 3] rfl (hr2 _ _ _ _ _ h)
    · replace h := (if_neg q).symm.trans h
      refine ww_aload_n 17 X dX2_addToSum_17 0 rfl rfl ?_
      obtain ⟨v18, e18, h⟩ := bO_some h
      refine ww_getR 18 X dX2_addToSum_18 fG_X2_11 e18 ?_
      refine ww_iload 21 X dX2_addToSum_21 4 rfl ?_
      refine ww_iload_n 23 X dX2_addToSum_23 3 rfl rfl ?_
      refine ww_iload 24 X dX2_addToSum_24 4 rfl ?_
      refine ww_iadd 26 X dX2_addToSum_26 ?_
      refine ww_iload_n 27 X dX2_addToSum_27 2 rfl rfl ?_
      refine ww_icmp_ge 28 42 X dX2_addToSum_28 (by decide) (fun q => ?_) (fun q => ?_)
      · replace h := (if_pos q).symm.trans h
        refine ww_iconst 42 X (v := (0 : Int32)) dX2_addToSum_42 (by decide) ?_
        obtain ⟨M43, e43, h⟩ := bO_some h
        refine ww_iast 43 X dX2_addToSum_43 e43 ?_
        refine ww_iinc 44 X dX2_addToSum_44 (lv' := [(0, .ref l0), (1, .ref l1), (2, .int l2), (3, .int l3), (4, .int (l4 + 1))]) 4 rfl rfl (by decide) [1, 2, 3, 4, 0] rfl ?_
        refine ww_goto 47 10 X dX2_addToSum_47 (by decide) ?_
        exact (ih _ _ _ _ _ _ h)
      · replace h := (if_neg q).symm.trans h
        refine ww_aload_n 31 X dX2_addToSum_31 1 rfl rfl ?_
        refine ww_iload_n 32 X dX2_addToSum_32 3 rfl rfl ?_
        refine ww_iload 33 X dX2_addToSum_33 4 rfl ?_
        refine ww_iadd 35 X dX2_addToSum_35 ?_
        obtain ⟨_, f36, h⟩ := bO_some h
        obtain ⟨v36, M36, e36, h⟩ := bP_some h
        refine ww_callVI0 36 X dX2_addToSum_36 mY_X0_get mL_X2_90 (rcv_spec f36) ⟨_, _, rfl⟩ (by decide) (As := [.int (l3 + l4)]) (rest := [.int l4, .ref v18]) rfl rfl ⟨Nat.le_of_ble_eq_true rfl, Nat.le_of_ble_eq_true rfl⟩ (Nat.le_of_ble_eq_true rfl) (fun l D A => c_X0_get l D A e36) ?_
        refine ww_goto 39 43 X dX2_addToSum_39 (by decide) ?_
        obtain ⟨M43, e43, h⟩ := bO_some h
        refine ww_iast 43 X dX2_addToSum_43 e43 ?_
        refine ww_iinc 44 X dX2_addToSum_44 (lv' := [(0, .ref l0), (1, .ref l1), (2, .int l2), (3, .int l3), (4, .int (l4 + 1))]) 4 rfl rfl (by decide) [1, 2, 3, 4, 0] rfl ?_
        refine ww_goto 47 10 X dX2_addToSum_47 (by decide) ?_
        exact (ih _ _ _ _ _ _ h)
set_option maxHeartbeats 4000000 in
set_option maxRecDepth 100000 in
theorem wB_X2_addToSum_2 {G : mG} {F : Nat} {x : mXT} {sz : Nat} {M0 : mM} (X : mCX G RX2 cX2_addToSum 5 none "addToSum" rmX2_addToSum x) (hQ : mQV x M0 (sz, 0, 0)) : ∀ (n : Nat) (l0 : Nat) (l1 : Nat) (l2 : Int32) (l3 : Int32) (M : mM), B_X2_addToSum_2 G F n l0 l1 l2 l3 M = some M0 → WW x (sz, 0, 0) M 2 [(0, .ref l0), (1, .ref l1), (2, .int l2), (3, .int l3)] [] := by
  intro n
  induction n with
  | zero =>
    intro l0 l1 l2 l3 M h
    exact nomatch (show (none : Option mM) = some M0 from h)
  | succ n ih =>
    intro l0 l1 l2 l3 M h
    rw [B_X2_addToSum_2] at h
    refine ww_iload_n 2 X dX2_addToSum_2 3 rfl rfl ?_
    refine ww_iload_n 3 X dX2_addToSum_3 2 rfl rfl ?_
    refine ww_icmp_ge 4 71 X dX2_addToSum_4 (by decide) (fun q => ?_) (fun q => ?_)
    · replace h := (if_pos q).symm.trans h
      exact ww_vretE 71 X hQ dX2_addToSum_71 h
    · replace h := (if_neg q).symm.trans h
      refine ww_iconst 7 X (v := (0 : Int32)) dX2_addToSum_7 (by decide) ?_
      refine ww_istore 8 X dX2_addToSum_8 (lv' := [(0, .ref l0), (1, .ref l1), (2, .int l2), (3, .int l3), (4, .int (0 : Int32))]) (by decide) [1, 2, 3, 4, 0] rfl ?_
      exact (wB_X2_addToSum_10 X hQ _ ih F _ _ _ _ _ _ h)
set_option maxHeartbeats 4000000 in
set_option maxRecDepth 100000 in
theorem wP_X2_addToSum {G : mG} {F : Nat} {x : mXT} {sz : Nat} {M0 : mM} (X : mCX G RX2 cX2_addToSum 5 none "addToSum" rmX2_addToSum x) (hQ : mQV x M0 (sz, 0, 0)) {l0 : Nat} {l1 : Nat} {l2 : Int32} {M : mM} (h : P_X2_addToSum G F l0 l1 l2 M = some M0) : WW x (sz, 0, 0) M 0 [(0, .ref l0), (1, .ref l1), (2, .int l2)] [] := by
  unfold P_X2_addToSum at h
  refine ww_iconst 0 X (v := (0 : Int32)) dX2_addToSum_0 (by decide) ?_
  refine ww_istore_n 1 X dX2_addToSum_1 (lv' := [(0, .ref l0), (1, .ref l1), (2, .int l2), (3, .int (0 : Int32))]) rfl (by decide) [1, 2, 3, 0] rfl ?_
  exact (wB_X2_addToSum_2 X hQ F _ _ _ _ _ h)
theorem c_X2_addToSum {G : mG} {F sz : Nat} {M0 : mM} (l : Launch) (D : mD) (A : Nat → Prop) {l0 : Nat} {l1 : Nat} {l2 : Int32} {M : mM} (h : P_X2_addToSum G F l0 l1 l2 M = some M0) : mMetV l D G A yX2_addToSum cX2_addToSum 5 none 1 34 0 0 [.ref l0, .ref l1, .int l2] M sz M0 sz := mMetV_of l D G A (by decide) (Nat.le_of_ble_eq_true rfl) (fun x X hQ => wP_X2_addToSum X hQ h)
/-! SealedTokens$Content.putMarkHalf(J)V -/
theorem dX2_putMarkHalf_0 : decode cX2_putMarkHalf 0 = .ok (.aload_n 0, 1) := by decide +kernel
theorem dX2_putMarkHalf_1 : decode cX2_putMarkHalf 1 = .ok (.getfield 25, 3) := by decide +kernel
theorem dX2_putMarkHalf_4 : decode cX2_putMarkHalf 4 = .ok (.lload_n 1, 1) := by decide +kernel
theorem dX2_putMarkHalf_5 : decode cX2_putMarkHalf 5 = .ok (.bipush 32, 2) := by decide +kernel
theorem dX2_putMarkHalf_7 : decode cX2_putMarkHalf 7 = .ok (.lushr, 1) := by decide +kernel
theorem dX2_putMarkHalf_8 : decode cX2_putMarkHalf 8 = .ok (.l2i, 1) := by decide +kernel
theorem dX2_putMarkHalf_9 : decode cX2_putMarkHalf 9 = .ok (.invokevirtual 156, 3) := by decide +kernel
theorem dX2_putMarkHalf_12 : decode cX2_putMarkHalf 12 = .ok (.aload_n 0, 1) := by decide +kernel
theorem dX2_putMarkHalf_13 : decode cX2_putMarkHalf 13 = .ok (.getfield 25, 3) := by decide +kernel
theorem dX2_putMarkHalf_16 : decode cX2_putMarkHalf 16 = .ok (.lload_n 1, 1) := by decide +kernel
theorem dX2_putMarkHalf_17 : decode cX2_putMarkHalf 17 = .ok (.l2i, 1) := by decide +kernel
theorem dX2_putMarkHalf_18 : decode cX2_putMarkHalf 18 = .ok (.invokevirtual 156, 3) := by decide +kernel
theorem dX2_putMarkHalf_21 : decode cX2_putMarkHalf 21 = .ok (.return_, 1) := by decide +kernel
abbrev rmX2_putMarkHalf : Room := { frames := 2, cells := 0, slots := 0, locals := 42 }
set_option maxHeartbeats 4000000 in
set_option maxRecDepth 100000 in
theorem wP_X2_putMarkHalf {G : mG} {F : Nat} {x : mXT} {sz : Nat} {M0 : mM} (X : mCX G RX2 cX2_putMarkHalf 3 none "putMarkHalf" rmX2_putMarkHalf x) (hQ : mQV x M0 (sz, 0, 0)) {l0 : Nat} {l1 : Int64} {M : mM} (h : P_X2_putMarkHalf G F l0 l1 M = some M0) : WW x (sz, 0, 0) M 0 [(0, .ref l0), (1, .long l1)] [] := by
  unfold P_X2_putMarkHalf at h
  refine ww_aload_n 0 X dX2_putMarkHalf_0 0 rfl rfl ?_
  obtain ⟨v1, e1, h⟩ := bO_some h
  refine ww_getR 1 X dX2_putMarkHalf_1 fG_X2_25 e1 ?_
  refine ww_lload_n 4 X dX2_putMarkHalf_4 1 rfl rfl ?_
  refine ww_bipush 5 X (v := (32 : Int32)) dX2_putMarkHalf_5 (by decide) ?_
  refine ww_lushr 7 X dX2_putMarkHalf_7 ?_
  refine ww_l2i 8 X dX2_putMarkHalf_8 ?_
  obtain ⟨_, f9, h⟩ := bO_some h
  obtain ⟨M9, e9, h⟩ := bO_some h
  refine ww_callVV0 9 X dX2_putMarkHalf_9 mY_X0_putWord mL_X2_156 (rcv_spec f9) ⟨_, _, rfl⟩ (by decide) (As := [.int ((ushL l1 (32 : Int32)).toInt32)]) (rest := []) rfl rfl ⟨Nat.le_of_ble_eq_true rfl, Nat.le_of_ble_eq_true rfl⟩ (Nat.le_of_ble_eq_true rfl) (fun l D A => c_X0_putWord l D A e9) ?_
  refine ww_aload_n 12 X dX2_putMarkHalf_12 0 rfl rfl ?_
  obtain ⟨v13, e13, h⟩ := bO_some h
  refine ww_getR 13 X dX2_putMarkHalf_13 fG_X2_25 e13 ?_
  refine ww_lload_n 16 X dX2_putMarkHalf_16 1 rfl rfl ?_
  refine ww_l2i 17 X dX2_putMarkHalf_17 ?_
  obtain ⟨_, f18, h⟩ := bO_some h
  obtain ⟨M18, e18, h⟩ := bO_some h
  refine ww_callVV0 18 X dX2_putMarkHalf_18 mY_X0_putWord mL_X2_156 (rcv_spec f18) ⟨_, _, rfl⟩ (by decide) (As := [.int (l1.toInt32)]) (rest := []) rfl rfl ⟨Nat.le_of_ble_eq_true rfl, Nat.le_of_ble_eq_true rfl⟩ (Nat.le_of_ble_eq_true rfl) (fun l D A => c_X0_putWord l D A e18) ?_
  exact ww_vretE 21 X hQ dX2_putMarkHalf_21 h
theorem c_X2_putMarkHalf {G : mG} {F sz : Nat} {M0 : mM} (l : Launch) (D : mD) (A : Nat → Prop) {l0 : Nat} {l1 : Int64} {M : mM} (h : P_X2_putMarkHalf G F l0 l1 M = some M0) : mMetV l D G A yX2_putMarkHalf cX2_putMarkHalf 3 none 2 42 0 0 [.ref l0, .long l1] M sz M0 sz := mMetV_of l D G A (by decide) (Nat.le_of_ble_eq_true rfl) (fun x X hQ => wP_X2_putMarkHalf X hQ h)
