/-! SealedTokensModel.isRow(I)Z -/
theorem dX13_isRow_0 : decode cX13_isRow 0 = .ok (.iload_n 0, 1) := by decide +kernel
theorem dX13_isRow_1 : decode cX13_isRow 1 = .ok (.ifCond .lt 13, 3) := by decide +kernel
theorem dX13_isRow_4 : decode cX13_isRow 4 = .ok (.iload_n 0, 1) := by decide +kernel
theorem dX13_isRow_5 : decode cX13_isRow 5 = .ok (.bipush 8, 2) := by decide +kernel
theorem dX13_isRow_7 : decode cX13_isRow 7 = .ok (.if_icmp .ge 7, 3) := by decide +kernel
theorem dX13_isRow_10 : decode cX13_isRow 10 = .ok (.iconst 1, 1) := by decide +kernel
theorem dX13_isRow_11 : decode cX13_isRow 11 = .ok (.goto 4, 3) := by decide +kernel
theorem dX13_isRow_14 : decode cX13_isRow 14 = .ok (.iconst 0, 1) := by decide +kernel
theorem dX13_isRow_15 : decode cX13_isRow 15 = .ok (.ireturn, 1) := by decide +kernel
abbrev rmX13_isRow : Room := { frames := 0, cells := 0, slots := 0, locals := 0 }
set_option maxHeartbeats 4000000 in
set_option maxRecDepth 100000 in
theorem wP_X13_isRow {G : mG} {F : Nat} {x : mXT} {sz : Nat} {r0 : Int32} {M0 : mM} (X : mCX G RX13 cX13_isRow 1 (some .boolean) "isRow" rmX13_isRow x) (hQ : mQI x r0 M0 (sz, 0, 0)) {l0 : Int32} {M : mM} (h : P_X13_isRow G F l0 M = some (r0, M0)) : WW x (sz, 0, 0) M 0 [(0, .int l0)] [] := by
  unfold P_X13_isRow at h
  refine ww_iload_n 0 X dX13_isRow_0 0 rfl rfl ?_
  refine ww_if_lt 1 14 X dX13_isRow_1 (by decide) (fun q => ?_) (fun q => ?_)
  · replace h := (if_pos q).symm.trans h
    refine ww_iconst 14 X (v := (0 : Int32)) dX13_isRow_14 (by decide) ?_
    exact ww_zretE 15 X hQ dX13_isRow_15 h
  · replace h := (if_neg q).symm.trans h
    refine ww_iload_n 4 X dX13_isRow_4 0 rfl rfl ?_
    refine ww_bipush 5 X (v := (8 : Int32)) dX13_isRow_5 (by decide) ?_
    refine ww_icmp_ge 7 14 X dX13_isRow_7 (by decide) (fun q => ?_) (fun q => ?_)
    · replace h := (if_pos q).symm.trans h
      refine ww_iconst 14 X (v := (0 : Int32)) dX13_isRow_14 (by decide) ?_
      exact ww_zretE 15 X hQ dX13_isRow_15 h
    · replace h := (if_neg q).symm.trans h
      refine ww_iconst 10 X (v := (1 : Int32)) dX13_isRow_10 (by decide) ?_
      refine ww_goto 11 15 X dX13_isRow_11 (by decide) ?_
      exact ww_zretE 15 X hQ dX13_isRow_15 h
theorem c_X13_isRow {G : mG} {F sz : Nat} {r0 : Int32} {M0 : mM} (l : Launch) (D : mD) (A : Nat → Prop) {l0 : Int32} {M : mM} (h : P_X13_isRow G F l0 M = some (r0, M0)) : mMetI l D G A yX13_isRow cX13_isRow 1 (some .boolean) 0 0 0 0 [.int l0] M sz r0 M0 sz := mMetI_of l D G A (by decide) (Nat.le_of_ble_eq_true rfl) (fun x X hQ => wP_X13_isRow X hQ h)
/-! SealedTokensModel.put([BIIJ)V -/
theorem dX13_put_0 : decode cX13_put 0 = .ok (.iconst 0, 1) := by decide +kernel
theorem dX13_put_1 : decode cX13_put 1 = .ok (.istore 5, 2) := by decide +kernel
theorem dX13_put_3 : decode cX13_put 3 = .ok (.iload 5, 2) := by decide +kernel
theorem dX13_put_5 : decode cX13_put 5 = .ok (.iload_n 2, 1) := by decide +kernel
theorem dX13_put_6 : decode cX13_put 6 = .ok (.if_icmp .ge 28, 3) := by decide +kernel
theorem dX13_put_9 : decode cX13_put 9 = .ok (.aload_n 0, 1) := by decide +kernel
theorem dX13_put_10 : decode cX13_put 10 = .ok (.iload_n 1, 1) := by decide +kernel
theorem dX13_put_11 : decode cX13_put 11 = .ok (.iload 5, 2) := by decide +kernel
theorem dX13_put_13 : decode cX13_put 13 = .ok (.iadd, 1) := by decide +kernel
theorem dX13_put_14 : decode cX13_put 14 = .ok (.lload_n 3, 1) := by decide +kernel
theorem dX13_put_15 : decode cX13_put 15 = .ok (.bipush 8, 2) := by decide +kernel
theorem dX13_put_17 : decode cX13_put 17 = .ok (.iload_n 2, 1) := by decide +kernel
theorem dX13_put_18 : decode cX13_put 18 = .ok (.iconst 1, 1) := by decide +kernel
theorem dX13_put_19 : decode cX13_put 19 = .ok (.isub, 1) := by decide +kernel
theorem dX13_put_20 : decode cX13_put 20 = .ok (.iload 5, 2) := by decide +kernel
theorem dX13_put_22 : decode cX13_put 22 = .ok (.isub, 1) := by decide +kernel
theorem dX13_put_23 : decode cX13_put 23 = .ok (.imul, 1) := by decide +kernel
theorem dX13_put_24 : decode cX13_put 24 = .ok (.lshr, 1) := by decide +kernel
theorem dX13_put_25 : decode cX13_put 25 = .ok (.l2i, 1) := by decide +kernel
theorem dX13_put_26 : decode cX13_put 26 = .ok (.i2b, 1) := by decide +kernel
theorem dX13_put_27 : decode cX13_put 27 = .ok (.bastore, 1) := by decide +kernel
theorem dX13_put_28 : decode cX13_put 28 = .ok (.iinc 5 1, 3) := by decide +kernel
theorem dX13_put_31 : decode cX13_put 31 = .ok (.goto (-28), 3) := by decide +kernel
theorem dX13_put_34 : decode cX13_put 34 = .ok (.return_, 1) := by decide +kernel
abbrev rmX13_put : Room := { frames := 0, cells := 0, slots := 0, locals := 0 }
set_option maxHeartbeats 4000000 in
set_option maxRecDepth 100000 in
theorem wB_X13_put_3 {G : mG} {F : Nat} {x : mXT} {sz : Nat} {M0 : mM} (X : mCX G RX13 cX13_put 6 none "put" rmX13_put x) (hQ : mQV x M0 (sz, 0, 0)) : ∀ (n : Nat) (l0 : Nat) (l1 : Int32) (l2 : Int32) (l3 : Int64) (l5 : Int32) (M : mM), B_X13_put_3 G F n l0 l1 l2 l3 l5 M = some M0 → WW x (sz, 0, 0) M 3 [(0, .ref l0), (1, .int l1), (2, .int l2), (3, .long l3), (5, .int l5)] [] := by
  intro n
  induction n with
  | zero =>
    intro l0 l1 l2 l3 l5 M h
    exact nomatch (show (none : Option mM) = some M0 from h)
  | succ n ih =>
    intro l0 l1 l2 l3 l5 M h
    rw [B_X13_put_3] at h
    refine ww_iload 3 X dX13_put_3 4 rfl ?_
    refine ww_iload_n 5 X dX13_put_5 2 rfl rfl ?_
    refine ww_icmp_ge 6 34 X dX13_put_6 (by decide) (fun q => ?_) (fun q => ?_)
    · replace h := (if_pos q).symm.trans h
      exact ww_vretE 34 X hQ dX13_put_34 h
    · replace h := (if_neg q).symm.trans h
      refine ww_aload_n 9 X dX13_put_9 0 rfl rfl ?_
      refine ww_iload_n 10 X dX13_put_10 1 rfl rfl ?_
      refine ww_iload 11 X dX13_put_11 4 rfl ?_
      refine ww_iadd 13 X dX13_put_13 ?_
      refine ww_lload_n 14 X dX13_put_14 3 rfl rfl ?_
      refine ww_bipush 15 X (v := (8 : Int32)) dX13_put_15 (by decide) ?_
      refine ww_iload_n 17 X dX13_put_17 2 rfl rfl ?_
      refine ww_iconst 18 X (v := (1 : Int32)) dX13_put_18 (by decide) ?_
      refine ww_isub 19 X dX13_put_19 ?_
      refine ww_iload 20 X dX13_put_20 4 rfl ?_
      refine ww_isub 22 X dX13_put_22 ?_
      refine ww_imul 23 X dX13_put_23 ?_
      refine ww_lshr 24 X dX13_put_24 ?_
      refine ww_l2i 25 X dX13_put_25 ?_
      refine ww_i2b 26 X dX13_put_26 ?_
      obtain ⟨M27, e27, h⟩ := bO_some h
      refine ww_bast 27 X dX13_put_27 e27 ?_
      refine ww_iinc 28 X dX13_put_28 (lv' := [(0, .ref l0), (1, .int l1), (2, .int l2), (3, .long l3), (5, .int (l5 + 1))]) 4 rfl rfl (by decide) [1, 2, 3, 4, 0] rfl ?_
      refine ww_goto 31 3 X dX13_put_31 (by decide) ?_
      exact (ih _ _ _ _ _ _ h)
set_option maxHeartbeats 4000000 in
set_option maxRecDepth 100000 in
theorem wP_X13_put {G : mG} {F : Nat} {x : mXT} {sz : Nat} {M0 : mM} (X : mCX G RX13 cX13_put 6 none "put" rmX13_put x) (hQ : mQV x M0 (sz, 0, 0)) {l0 : Nat} {l1 : Int32} {l2 : Int32} {l3 : Int64} {M : mM} (h : P_X13_put G F l0 l1 l2 l3 M = some M0) : WW x (sz, 0, 0) M 0 [(0, .ref l0), (1, .int l1), (2, .int l2), (3, .long l3)] [] := by
  unfold P_X13_put at h
  refine ww_iconst 0 X (v := (0 : Int32)) dX13_put_0 (by decide) ?_
  refine ww_istore 1 X dX13_put_1 (lv' := [(0, .ref l0), (1, .int l1), (2, .int l2), (3, .long l3), (5, .int (0 : Int32))]) (by decide) [1, 2, 3, 4, 0] rfl ?_
  exact (wB_X13_put_3 X hQ F _ _ _ _ _ _ h)
theorem c_X13_put {G : mG} {F sz : Nat} {M0 : mM} (l : Launch) (D : mD) (A : Nat → Prop) {l0 : Nat} {l1 : Int32} {l2 : Int32} {l3 : Int64} {M : mM} (h : P_X13_put G F l0 l1 l2 l3 M = some M0) : mMetV l D G A yX13_put cX13_put 6 none 0 0 0 0 [.ref l0, .int l1, .int l2, .long l3] M sz M0 sz := mMetV_of l D G A (by decide) (Nat.le_of_ble_eq_true rfl) (fun x X hQ => wP_X13_put X hQ h)
/-! SealedTokensModel.longAt([BII)J -/
theorem dX13_longAt_0 : decode cX13_longAt 0 = .ok (.lconst 0, 1) := by decide +kernel
theorem dX13_longAt_1 : decode cX13_longAt 1 = .ok (.lstore_n 3, 1) := by decide +kernel
theorem dX13_longAt_2 : decode cX13_longAt 2 = .ok (.iconst 0, 1) := by decide +kernel
theorem dX13_longAt_3 : decode cX13_longAt 3 = .ok (.istore 5, 2) := by decide +kernel
theorem dX13_longAt_5 : decode cX13_longAt 5 = .ok (.iload 5, 2) := by decide +kernel
theorem dX13_longAt_7 : decode cX13_longAt 7 = .ok (.iload_n 2, 1) := by decide +kernel
theorem dX13_longAt_8 : decode cX13_longAt 8 = .ok (.if_icmp .ge 26, 3) := by decide +kernel
theorem dX13_longAt_11 : decode cX13_longAt 11 = .ok (.lload_n 3, 1) := by decide +kernel
theorem dX13_longAt_12 : decode cX13_longAt 12 = .ok (.bipush 8, 2) := by decide +kernel
theorem dX13_longAt_14 : decode cX13_longAt 14 = .ok (.lshl, 1) := by decide +kernel
theorem dX13_longAt_15 : decode cX13_longAt 15 = .ok (.aload_n 0, 1) := by decide +kernel
theorem dX13_longAt_16 : decode cX13_longAt 16 = .ok (.iload_n 1, 1) := by decide +kernel
theorem dX13_longAt_17 : decode cX13_longAt 17 = .ok (.iload 5, 2) := by decide +kernel
theorem dX13_longAt_19 : decode cX13_longAt 19 = .ok (.iadd, 1) := by decide +kernel
theorem dX13_longAt_20 : decode cX13_longAt 20 = .ok (.baload, 1) := by decide +kernel
theorem dX13_longAt_21 : decode cX13_longAt 21 = .ok (.i2l, 1) := by decide +kernel
theorem dX13_longAt_22 : decode cX13_longAt 22 = .ok (.ldc2_w 315, 3) := by decide +kernel
theorem dX13_longAt_25 : decode cX13_longAt 25 = .ok (.land, 1) := by decide +kernel
theorem dX13_longAt_26 : decode cX13_longAt 26 = .ok (.lor, 1) := by decide +kernel
theorem dX13_longAt_27 : decode cX13_longAt 27 = .ok (.lstore_n 3, 1) := by decide +kernel
theorem dX13_longAt_28 : decode cX13_longAt 28 = .ok (.iinc 5 1, 3) := by decide +kernel
theorem dX13_longAt_31 : decode cX13_longAt 31 = .ok (.goto (-26), 3) := by decide +kernel
theorem dX13_longAt_34 : decode cX13_longAt 34 = .ok (.lload_n 3, 1) := by decide +kernel
theorem dX13_longAt_35 : decode cX13_longAt 35 = .ok (.lreturn, 1) := by decide +kernel
abbrev rmX13_longAt : Room := { frames := 0, cells := 0, slots := 0, locals := 0 }
set_option maxHeartbeats 4000000 in
set_option maxRecDepth 100000 in
theorem wB_X13_longAt_5 {G : mG} {F : Nat} {x : mXT} {sz : Nat} {r0 : Int64} {M0 : mM} (X : mCX G RX13 cX13_longAt 6 (some .long) "longAt" rmX13_longAt x) (hQ : mQL x r0 M0 (sz, 0, 0)) : ∀ (n : Nat) (l0 : Nat) (l1 : Int32) (l2 : Int32) (l3 : Int64) (l5 : Int32) (M : mM), B_X13_longAt_5 G F n l0 l1 l2 l3 l5 M = some (r0, M0) → WW x (sz, 0, 0) M 5 [(0, .ref l0), (1, .int l1), (2, .int l2), (3, .long l3), (5, .int l5)] [] := by
  intro n
  induction n with
  | zero =>
    intro l0 l1 l2 l3 l5 M h
    exact nomatch (show (none : Option (Int64 × mM)) = some (r0, M0) from h)
  | succ n ih =>
    intro l0 l1 l2 l3 l5 M h
    rw [B_X13_longAt_5] at h
    refine ww_iload 5 X dX13_longAt_5 4 rfl ?_
    refine ww_iload_n 7 X dX13_longAt_7 2 rfl rfl ?_
    refine ww_icmp_ge 8 34 X dX13_longAt_8 (by decide) (fun q => ?_) (fun q => ?_)
    · replace h := (if_pos q).symm.trans h
      refine ww_lload_n 34 X dX13_longAt_34 3 rfl rfl ?_
      exact ww_lretE 35 X hQ dX13_longAt_35 h
    · replace h := (if_neg q).symm.trans h
      refine ww_lload_n 11 X dX13_longAt_11 3 rfl rfl ?_
      refine ww_bipush 12 X (v := (8 : Int32)) dX13_longAt_12 (by decide) ?_
      refine ww_lshl 14 X dX13_longAt_14 ?_
      refine ww_aload_n 15 X dX13_longAt_15 0 rfl rfl ?_
      refine ww_iload_n 16 X dX13_longAt_16 1 rfl rfl ?_
      refine ww_iload 17 X dX13_longAt_17 4 rfl ?_
      refine ww_iadd 19 X dX13_longAt_19 ?_
      obtain ⟨v20, e20, h⟩ := bO_some h
      refine ww_bald 20 X dX13_longAt_20 e20 ?_
      refine ww_i2l 21 X dX13_longAt_21 ?_
      refine ww_ldc2 22 X (v := (255 : Int64)) dX13_longAt_22 kL_X13_315 ?_
      refine ww_land 25 X dX13_longAt_25 ?_
      refine ww_lor 26 X dX13_longAt_26 ?_
      refine ww_lstore_n 27 X dX13_longAt_27 (lv' := [(0, .ref l0), (1, .int l1), (2, .int l2), (3, .long ((shlL l3 (8 : Int32)) ||| ((v20.toInt64) &&& (255 : Int64)))), (5, .int l5)]) rfl (by decide) [1, 2, 3, 0, 4] rfl ?_
      refine ww_iinc 28 X dX13_longAt_28 (lv' := [(0, .ref l0), (1, .int l1), (2, .int l2), (3, .long ((shlL l3 (8 : Int32)) ||| ((v20.toInt64) &&& (255 : Int64)))), (5, .int (l5 + 1))]) 4 rfl rfl (by decide) [1, 2, 3, 4, 0] rfl ?_
      refine ww_goto 31 5 X dX13_longAt_31 (by decide) ?_
      exact (ih _ _ _ _ _ _ h)
set_option maxHeartbeats 4000000 in
set_option maxRecDepth 100000 in
theorem wP_X13_longAt {G : mG} {F : Nat} {x : mXT} {sz : Nat} {r0 : Int64} {M0 : mM} (X : mCX G RX13 cX13_longAt 6 (some .long) "longAt" rmX13_longAt x) (hQ : mQL x r0 M0 (sz, 0, 0)) {l0 : Nat} {l1 : Int32} {l2 : Int32} {M : mM} (h : P_X13_longAt G F l0 l1 l2 M = some (r0, M0)) : WW x (sz, 0, 0) M 0 [(0, .ref l0), (1, .int l1), (2, .int l2)] [] := by
  unfold P_X13_longAt at h
  refine ww_lconst 0 X (v := (0 : Int64)) dX13_longAt_0 (by decide) ?_
  refine ww_lstore_n 1 X dX13_longAt_1 (lv' := [(0, .ref l0), (1, .int l1), (2, .int l2), (3, .long (0 : Int64))]) rfl (by decide) [1, 2, 3, 0] rfl ?_
  refine ww_iconst 2 X (v := (0 : Int32)) dX13_longAt_2 (by decide) ?_
  refine ww_istore 3 X dX13_longAt_3 (lv' := [(0, .ref l0), (1, .int l1), (2, .int l2), (3, .long (0 : Int64)), (5, .int (0 : Int32))]) (by decide) [1, 2, 3, 4, 0] rfl ?_
  exact (wB_X13_longAt_5 X hQ F _ _ _ _ _ _ h)
theorem c_X13_longAt {G : mG} {F sz : Nat} {r0 : Int64} {M0 : mM} (l : Launch) (D : mD) (A : Nat → Prop) {l0 : Nat} {l1 : Int32} {l2 : Int32} {M : mM} (h : P_X13_longAt G F l0 l1 l2 M = some (r0, M0)) : mMetL l D G A yX13_longAt cX13_longAt 6 (some .long) 0 0 0 0 [.ref l0, .int l1, .int l2] M sz r0 M0 sz := mMetL_of l D G A (by decide) (Nat.le_of_ble_eq_true rfl) (fun x X hQ => wP_X13_longAt X hQ h)
/-! SealedTokensModel.move([BI[BII)V -/
theorem dX13_move_0 : decode cX13_move 0 = .ok (.iconst 0, 1) := by decide +kernel
theorem dX13_move_1 : decode cX13_move 1 = .ok (.istore 5, 2) := by decide +kernel
theorem dX13_move_3 : decode cX13_move 3 = .ok (.iload 5, 2) := by decide +kernel
theorem dX13_move_5 : decode cX13_move 5 = .ok (.iload 4, 2) := by decide +kernel
theorem dX13_move_7 : decode cX13_move 7 = .ok (.if_icmp .ge 21, 3) := by decide +kernel
theorem dX13_move_10 : decode cX13_move 10 = .ok (.aload_n 2, 1) := by decide +kernel
theorem dX13_move_11 : decode cX13_move 11 = .ok (.iload_n 3, 1) := by decide +kernel
theorem dX13_move_12 : decode cX13_move 12 = .ok (.iload 5, 2) := by decide +kernel
theorem dX13_move_14 : decode cX13_move 14 = .ok (.iadd, 1) := by decide +kernel
theorem dX13_move_15 : decode cX13_move 15 = .ok (.aload_n 0, 1) := by decide +kernel
theorem dX13_move_16 : decode cX13_move 16 = .ok (.iload_n 1, 1) := by decide +kernel
theorem dX13_move_17 : decode cX13_move 17 = .ok (.iload 5, 2) := by decide +kernel
theorem dX13_move_19 : decode cX13_move 19 = .ok (.iadd, 1) := by decide +kernel
theorem dX13_move_20 : decode cX13_move 20 = .ok (.baload, 1) := by decide +kernel
theorem dX13_move_21 : decode cX13_move 21 = .ok (.bastore, 1) := by decide +kernel
theorem dX13_move_22 : decode cX13_move 22 = .ok (.iinc 5 1, 3) := by decide +kernel
theorem dX13_move_25 : decode cX13_move 25 = .ok (.goto (-22), 3) := by decide +kernel
theorem dX13_move_28 : decode cX13_move 28 = .ok (.return_, 1) := by decide +kernel
abbrev rmX13_move : Room := { frames := 0, cells := 0, slots := 0, locals := 0 }
set_option maxHeartbeats 4000000 in
set_option maxRecDepth 100000 in
theorem wB_X13_move_3 {G : mG} {F : Nat} {x : mXT} {sz : Nat} {M0 : mM} (X : mCX G RX13 cX13_move 6 none "move" rmX13_move x) (hQ : mQV x M0 (sz, 0, 0)) : ∀ (n : Nat) (l0 : Nat) (l1 : Int32) (l2 : Nat) (l3 : Int32) (l4 : Int32) (l5 : Int32) (M : mM), B_X13_move_3 G F n l0 l1 l2 l3 l4 l5 M = some M0 → WW x (sz, 0, 0) M 3 [(0, .ref l0), (1, .int l1), (2, .ref l2), (3, .int l3), (4, .int l4), (5, .int l5)] [] := by
  intro n
  induction n with
  | zero =>
    intro l0 l1 l2 l3 l4 l5 M h
    exact nomatch (show (none : Option mM) = some M0 from h)
  | succ n ih =>
    intro l0 l1 l2 l3 l4 l5 M h
    rw [B_X13_move_3] at h
    refine ww_iload 3 X dX13_move_3 5 rfl ?_
    refine ww_iload 5 X dX13_move_5 4 rfl ?_
    refine ww_icmp_ge 7 28 X dX13_move_7 (by decide) (fun q => ?_) (fun q => ?_)
    · replace h := (if_pos q).symm.trans h
      exact ww_vretE 28 X hQ dX13_move_28 h
    · replace h := (if_neg q).symm.trans h
      refine ww_aload_n 10 X dX13_move_10 2 rfl rfl ?_
      refine ww_iload_n 11 X dX13_move_11 3 rfl rfl ?_
      refine ww_iload 12 X dX13_move_12 5 rfl ?_
      refine ww_iadd 14 X dX13_move_14 ?_
      refine ww_aload_n 15 X dX13_move_15 0 rfl rfl ?_
      refine ww_iload_n 16 X dX13_move_16 1 rfl rfl ?_
      refine ww_iload 17 X dX13_move_17 5 rfl ?_
      refine ww_iadd 19 X dX13_move_19 ?_
      obtain ⟨v20, e20, h⟩ := bO_some h
      refine ww_bald 20 X dX13_move_20 e20 ?_
      obtain ⟨M21, e21, h⟩ := bO_some h
      refine ww_bast 21 X dX13_move_21 e21 ?_
      refine ww_iinc 22 X dX13_move_22 (lv' := [(0, .ref l0), (1, .int l1), (2, .ref l2), (3, .int l3), (4, .int l4), (5, .int (l5 + 1))]) 5 rfl rfl (by decide) [1, 2, 3, 4, 5, 0] rfl ?_
      refine ww_goto 25 3 X dX13_move_25 (by decide) ?_
      exact (ih _ _ _ _ _ _ _ h)
set_option maxHeartbeats 4000000 in
set_option maxRecDepth 100000 in
theorem wP_X13_move {G : mG} {F : Nat} {x : mXT} {sz : Nat} {M0 : mM} (X : mCX G RX13 cX13_move 6 none "move" rmX13_move x) (hQ : mQV x M0 (sz, 0, 0)) {l0 : Nat} {l1 : Int32} {l2 : Nat} {l3 : Int32} {l4 : Int32} {M : mM} (h : P_X13_move G F l0 l1 l2 l3 l4 M = some M0) : WW x (sz, 0, 0) M 0 [(0, .ref l0), (1, .int l1), (2, .ref l2), (3, .int l3), (4, .int l4)] [] := by
  unfold P_X13_move at h
  refine ww_iconst 0 X (v := (0 : Int32)) dX13_move_0 (by decide) ?_
  refine ww_istore 1 X dX13_move_1 (lv' := [(0, .ref l0), (1, .int l1), (2, .ref l2), (3, .int l3), (4, .int l4), (5, .int (0 : Int32))]) (by decide) [1, 2, 3, 4, 5, 0] rfl ?_
  exact (wB_X13_move_3 X hQ F _ _ _ _ _ _ _ h)
theorem c_X13_move {G : mG} {F sz : Nat} {M0 : mM} (l : Launch) (D : mD) (A : Nat → Prop) {l0 : Nat} {l1 : Int32} {l2 : Nat} {l3 : Int32} {l4 : Int32} {M : mM} (h : P_X13_move G F l0 l1 l2 l3 l4 M = some M0) : mMetV l D G A yX13_move cX13_move 6 none 0 0 0 0 [.ref l0, .int l1, .ref l2, .int l3, .int l4] M sz M0 sz := mMetV_of l D G A (by decide) (Nat.le_of_ble_eq_true rfl) (fun x X hQ => wP_X13_move X hQ h)
/-! SealedTokensModel.same([BI[BII)Z -/
theorem dX13_same_0 : decode cX13_same 0 = .ok (.iconst 1, 1) := by decide +kernel
theorem dX13_same_1 : decode cX13_same 1 = .ok (.istore 5, 2) := by decide +kernel
theorem dX13_same_3 : decode cX13_same 3 = .ok (.iconst 0, 1) := by decide +kernel
theorem dX13_same_4 : decode cX13_same 4 = .ok (.istore 6, 2) := by decide +kernel
theorem dX13_same_6 : decode cX13_same 6 = .ok (.iload 6, 2) := by decide +kernel
theorem dX13_same_8 : decode cX13_same 8 = .ok (.iload 4, 2) := by decide +kernel
theorem dX13_same_10 : decode cX13_same 10 = .ok (.if_icmp .ge 36, 3) := by decide +kernel
theorem dX13_same_13 : decode cX13_same 13 = .ok (.iload 5, 2) := by decide +kernel
theorem dX13_same_15 : decode cX13_same 15 = .ok (.ifCond .eq 22, 3) := by decide +kernel
theorem dX13_same_18 : decode cX13_same 18 = .ok (.aload_n 0, 1) := by decide +kernel
theorem dX13_same_19 : decode cX13_same 19 = .ok (.iload_n 1, 1) := by decide +kernel
theorem dX13_same_20 : decode cX13_same 20 = .ok (.iload 6, 2) := by decide +kernel
theorem dX13_same_22 : decode cX13_same 22 = .ok (.iadd, 1) := by decide +kernel
theorem dX13_same_23 : decode cX13_same 23 = .ok (.baload, 1) := by decide +kernel
theorem dX13_same_24 : decode cX13_same 24 = .ok (.aload_n 2, 1) := by decide +kernel
theorem dX13_same_25 : decode cX13_same 25 = .ok (.iload_n 3, 1) := by decide +kernel
theorem dX13_same_26 : decode cX13_same 26 = .ok (.iload 6, 2) := by decide +kernel
theorem dX13_same_28 : decode cX13_same 28 = .ok (.iadd, 1) := by decide +kernel
theorem dX13_same_29 : decode cX13_same 29 = .ok (.baload, 1) := by decide +kernel
theorem dX13_same_30 : decode cX13_same 30 = .ok (.if_icmp .ne 7, 3) := by decide +kernel
theorem dX13_same_33 : decode cX13_same 33 = .ok (.iconst 1, 1) := by decide +kernel
theorem dX13_same_34 : decode cX13_same 34 = .ok (.goto 4, 3) := by decide +kernel
theorem dX13_same_37 : decode cX13_same 37 = .ok (.iconst 0, 1) := by decide +kernel
theorem dX13_same_38 : decode cX13_same 38 = .ok (.istore 5, 2) := by decide +kernel
theorem dX13_same_40 : decode cX13_same 40 = .ok (.iinc 6 1, 3) := by decide +kernel
theorem dX13_same_43 : decode cX13_same 43 = .ok (.goto (-37), 3) := by decide +kernel
theorem dX13_same_46 : decode cX13_same 46 = .ok (.iload 5, 2) := by decide +kernel
theorem dX13_same_48 : decode cX13_same 48 = .ok (.ireturn, 1) := by decide +kernel
abbrev rmX13_same : Room := { frames := 0, cells := 0, slots := 0, locals := 0 }
set_option maxHeartbeats 4000000 in
set_option maxRecDepth 100000 in
theorem wB_X13_same_6 {G : mG} {F : Nat} {x : mXT} {sz : Nat} {r0 : Int32} {M0 : mM} (X : mCX G RX13 cX13_same 7 (some .boolean) "same" rmX13_same x) (hQ : mQI x r0 M0 (sz, 0, 0)) : ∀ (n : Nat) (l0 : Nat) (l1 : Int32) (l2 : Nat) (l3 : Int32) (l4 : Int32) (l5 : Int32) (l6 : Int32) (M : mM), B_X13_same_6 G F n l0 l1 l2 l3 l4 l5 l6 M = some (r0, M0) → WW x (sz, 0, 0) M 6 [(0, .ref l0), (1, .int l1), (2, .ref l2), (3, .int l3), (4, .int l4), (5, .int l5), (6, .int l6)] [] := by
  intro n
  induction n with
  | zero =>
    intro l0 l1 l2 l3 l4 l5 l6 M h
    exact nomatch (show (none : Option (Int32 × mM)) = some (r0, M0) from h)
  | succ n ih =>
    intro l0 l1 l2 l3 l4 l5 l6 M h
    rw [B_X13_same_6] at h
    refine ww_iload 6 X dX13_same_6 6 rfl ?_
    refine ww_iload 8 X dX13_same_8 4 rfl ?_
    refine ww_icmp_ge 10 46 X dX13_same_10 (by decide) (fun q => ?_) (fun q => ?_)
    · replace h := (if_pos q).symm.trans h
      refine ww_iload 46 X dX13_same_46 5 rfl ?_
      exact ww_zretE 48 X hQ dX13_same_48 h
    · replace h := (if_neg q).symm.trans h
      refine ww_iload 13 X dX13_same_13 5 rfl ?_
      refine ww_if_eq 15 37 X dX13_same_15 (by decide) (fun q => ?_) (fun q => ?_)
      · replace h := (if_pos q).symm.trans h
        refine ww_iconst 37 X (v := (0 : Int32)) dX13_same_37 (by decide) ?_
        refine ww_istore 38 X dX13_same_38 (lv' := [(0, .ref l0), (1, .int l1), (2, .ref l2), (3, .int l3), (4, .int l4), (5, .int (0 : Int32)), (6, .int l6)]) (by decide) [1, 2, 3, 4, 5, 0, 6] rfl ?_
        refine ww_iinc 40 X dX13_same_40 (lv' := [(0, .ref l0), (1, .int l1), (2, .ref l2), (3, .int l3), (4, .int l4), (5, .int (0 : Int32)), (6, .int (l6 + 1))]) 6 rfl rfl (by decide) [1, 2, 3, 4, 5, 6, 0] rfl ?_
        refine ww_goto 43 6 X dX13_same_43 (by decide) ?_
        exact (ih _ _ _ _ _ _ _ _ h)
      · replace h := (if_neg q).symm.trans h
        refine ww_aload_n 18 X dX13_same_18 0 rfl rfl ?_
        refine ww_iload_n 19 X dX13_same_19 1 rfl rfl ?_
        refine ww_iload 20 X dX13_same_20 6 rfl ?_
        refine ww_iadd 22 X dX13_same_22 ?_
        obtain ⟨v23, e23, h⟩ := bO_some h
        refine ww_bald 23 X dX13_same_23 e23 ?_
        refine ww_aload_n 24 X dX13_same_24 2 rfl rfl ?_
        refine ww_iload_n 25 X dX13_same_25 3 rfl rfl ?_
        refine ww_iload 26 X dX13_same_26 6 rfl ?_
        refine ww_iadd 28 X dX13_same_28 ?_
        obtain ⟨v29, e29, h⟩ := bO_some h
        refine ww_bald 29 X dX13_same_29 e29 ?_
        refine ww_icmp_ne 30 37 X dX13_same_30 (by decide) (fun q => ?_) (fun q => ?_)
        · replace h := (if_neg q).symm.trans h
          refine ww_iconst 37 X (v := (0 : Int32)) dX13_same_37 (by decide) ?_
          refine ww_istore 38 X dX13_same_38 (lv' := [(0, .ref l0), (1, .int l1), (2, .ref l2), (3, .int l3), (4, .int l4), (5, .int (0 : Int32)), (6, .int l6)]) (by decide) [1, 2, 3, 4, 5, 0, 6] rfl ?_
          refine ww_iinc 40 X dX13_same_40 (lv' := [(0, .ref l0), (1, .int l1), (2, .ref l2), (3, .int l3), (4, .int l4), (5, .int (0 : Int32)), (6, .int (l6 + 1))]) 6 rfl rfl (by decide) [1, 2, 3, 4, 5, 6, 0] rfl ?_
          refine ww_goto 43 6 X dX13_same_43 (by decide) ?_
          exact (ih _ _ _ _ _ _ _ _ h)
        · replace h := (if_pos q).symm.trans h
          refine ww_iconst 33 X (v := (1 : Int32)) dX13_same_33 (by decide) ?_
          refine ww_goto 34 38 X dX13_same_34 (by decide) ?_
          refine ww_istore 38 X dX13_same_38 (lv' := [(0, .ref l0), (1, .int l1), (2, .ref l2), (3, .int l3), (4, .int l4), (5, .int (1 : Int32)), (6, .int l6)]) (by decide) [1, 2, 3, 4, 5, 0, 6] rfl ?_
          refine ww_iinc 40 X dX13_same_40 (lv' := [(0, .ref l0), (1, .int l1), (2, .ref l2), (3, .int l3), (4, .int l4), (5, .int (1 : Int32)), (6, .int (l6 + 1))]) 6 rfl rfl (by decide) [1, 2, 3, 4, 5, 6, 0] rfl ?_
          refine ww_goto 43 6 X dX13_same_43 (by decide) ?_
          exact (ih _ _ _ _ _ _ _ _ h)
set_option maxHeartbeats 4000000 in
set_option maxRecDepth 100000 in
theorem wP_X13_same {G : mG} {F : Nat} {x : mXT} {sz : Nat} {r0 : Int32} {M0 : mM} (X : mCX G RX13 cX13_same 7 (some .boolean) "same" rmX13_same x) (hQ : mQI x r0 M0 (sz, 0, 0)) {l0 : Nat} {l1 : Int32} {l2 : Nat} {l3 : Int32} {l4 : Int32} {M : mM} (h : P_X13_same G F l0 l1 l2 l3 l4 M = some (r0, M0)) : WW x (sz, 0, 0) M 0 [(0, .ref l0), (1, .int l1), (2, .ref l2), (3, .int l3), (4, .int l4)] [] := by
  unfold P_X13_same at h
  refine ww_iconst 0 X (v := (1 : Int32)) dX13_same_0 (by decide) ?_
  refine ww_istore 1 X dX13_same_1 (lv' := [(0, .ref l0), (1, .int l1), (2, .ref l2), (3, .int l3), (4, .int l4), (5, .int (1 : Int32))]) (by decide) [1, 2, 3, 4, 5, 0] rfl ?_
  refine ww_iconst 3 X (v := (0 : Int32)) dX13_same_3 (by decide) ?_
  refine ww_istore 4 X dX13_same_4 (lv' := [(0, .ref l0), (1, .int l1), (2, .ref l2), (3, .int l3), (4, .int l4), (5, .int (1 : Int32)), (6, .int (0 : Int32))]) (by decide) [1, 2, 3, 4, 5, 6, 0] rfl ?_
  exact (wB_X13_same_6 X hQ F _ _ _ _ _ _ _ _ h)
theorem c_X13_same {G : mG} {F sz : Nat} {r0 : Int32} {M0 : mM} (l : Launch) (D : mD) (A : Nat → Prop) {l0 : Nat} {l1 : Int32} {l2 : Nat} {l3 : Int32} {l4 : Int32} {M : mM} (h : P_X13_same G F l0 l1 l2 l3 l4 M = some (r0, M0)) : mMetI l D G A yX13_same cX13_same 7 (some .boolean) 0 0 0 0 [.ref l0, .int l1, .ref l2, .int l3, .int l4] M sz r0 M0 sz := mMetI_of l D G A (by decide) (Nat.le_of_ble_eq_true rfl) (fun x X hQ => wP_X13_same X hQ h)
/-! SealedTokensModel.tell([BII)I -/
theorem dX13_tell_0 : decode cX13_tell 0 = .ok (.aload_n 1, 1) := by decide +kernel
theorem dX13_tell_1 : decode cX13_tell 1 = .ok (.iload_n 2, 1) := by decide +kernel
theorem dX13_tell_2 : decode cX13_tell 2 = .ok (.aload_n 0, 1) := by decide +kernel
theorem dX13_tell_3 : decode cX13_tell 3 = .ok (.getfield 21, 3) := by decide +kernel
theorem dX13_tell_6 : decode cX13_tell 6 = .ok (.iconst 0, 1) := by decide +kernel
theorem dX13_tell_7 : decode cX13_tell 7 = .ok (.iload_n 3, 1) := by decide +kernel
theorem dX13_tell_8 : decode cX13_tell 8 = .ok (.invokestatic 317, 3) := by decide +kernel
theorem dX13_tell_11 : decode cX13_tell 11 = .ok (.aload_n 0, 1) := by decide +kernel
theorem dX13_tell_12 : decode cX13_tell 12 = .ok (.iload_n 3, 1) := by decide +kernel
theorem dX13_tell_13 : decode cX13_tell 13 = .ok (.putfield 321, 3) := by decide +kernel
theorem dX13_tell_16 : decode cX13_tell 16 = .ok (.iload_n 3, 1) := by decide +kernel
theorem dX13_tell_17 : decode cX13_tell 17 = .ok (.ireturn, 1) := by decide +kernel
abbrev rmX13_tell : Room := { frames := 1, cells := 0, slots := 0, locals := 25 }
set_option maxHeartbeats 4000000 in
set_option maxRecDepth 100000 in
theorem wP_X13_tell {G : mG} {F : Nat} {x : mXT} {sz : Nat} {r0 : Int32} {M0 : mM} (X : mCX G RX13 cX13_tell 4 (some .int) "tell" rmX13_tell x) (hQ : mQI x r0 M0 (sz, 0, 0)) {l0 : Nat} {l1 : Nat} {l2 : Int32} {l3 : Int32} {M : mM} (h : P_X13_tell G F l0 l1 l2 l3 M = some (r0, M0)) : WW x (sz, 0, 0) M 0 [(0, .ref l0), (1, .ref l1), (2, .int l2), (3, .int l3)] [] := by
  unfold P_X13_tell at h
  refine ww_aload_n 0 X dX13_tell_0 1 rfl rfl ?_
  refine ww_iload_n 1 X dX13_tell_1 2 rfl rfl ?_
  refine ww_aload_n 2 X dX13_tell_2 0 rfl rfl ?_
  obtain ⟨v3, e3, h⟩ := bO_some h
  refine ww_getR 3 X dX13_tell_3 fG_X13_21 e3 ?_
  refine ww_iconst 6 X (v := (0 : Int32)) dX13_tell_6 (by decide) ?_
  refine ww_iload_n 7 X dX13_tell_7 3 rfl rfl ?_
  obtain ⟨M8, e8, h⟩ := bO_some h
  refine ww_callSV0 8 X dX13_tell_8 mY_X13_move mL_X13_317 (As := [.ref l1, .int l2, .ref v3, .int (0 : Int32), .int l3]) (rest := []) rfl rfl ⟨Nat.le_of_ble_eq_true rfl, Nat.le_of_ble_eq_true rfl⟩ (Nat.le_of_ble_eq_true rfl) (fun l D A => c_X13_move l D A e8) ?_
  refine ww_aload_n 11 X dX13_tell_11 0 rfl rfl ?_
  refine ww_iload_n 12 X dX13_tell_12 3 rfl rfl ?_
  obtain ⟨M13, e13, h⟩ := bO_some h
  refine ww_putI 13 X dX13_tell_13 (fP_X13_321 _) e13 ?_
  refine ww_iload_n 16 X dX13_tell_16 3 rfl rfl ?_
  exact ww_iretE 17 X hQ dX13_tell_17 h
theorem c_X13_tell {G : mG} {F sz : Nat} {r0 : Int32} {M0 : mM} (l : Launch) (D : mD) (A : Nat → Prop) {l0 : Nat} {l1 : Nat} {l2 : Int32} {l3 : Int32} {M : mM} (h : P_X13_tell G F l0 l1 l2 l3 M = some (r0, M0)) : mMetI l D G A yX13_tell cX13_tell 4 (some .int) 1 25 0 0 [.ref l0, .ref l1, .int l2, .int l3] M sz r0 M0 sz := mMetI_of l D G A (by decide) (Nat.le_of_ble_eq_true rfl) (fun x X hQ => wP_X13_tell X hQ h)
/-! SealedTokensModel.feed(IIIII)I -/
theorem dX13_feed_0 : decode cX13_feed 0 = .ok (.aload_n 0, 1) := by decide +kernel
theorem dX13_feed_1 : decode cX13_feed 1 = .ok (.getfield 325, 3) := by decide +kernel
theorem dX13_feed_4 : decode cX13_feed 4 = .ok (.bipush 20, 2) := by decide +kernel
theorem dX13_feed_6 : decode cX13_feed 6 = .ok (.iadd, 1) := by decide +kernel
theorem dX13_feed_7 : decode cX13_feed 7 = .ok (.sipush 8192, 3) := by decide +kernel
theorem dX13_feed_10 : decode cX13_feed 10 = .ok (.if_icmp .le 6, 3) := by decide +kernel
theorem dX13_feed_13 : decode cX13_feed 13 = .ok (.bipush (-2), 2) := by decide +kernel
theorem dX13_feed_15 : decode cX13_feed 15 = .ok (.ireturn, 1) := by decide +kernel
theorem dX13_feed_16 : decode cX13_feed 16 = .ok (.aload_n 0, 1) := by decide +kernel
theorem dX13_feed_17 : decode cX13_feed 17 = .ok (.getfield 7, 3) := by decide +kernel
theorem dX13_feed_20 : decode cX13_feed 20 = .ok (.aload_n 0, 1) := by decide +kernel
theorem dX13_feed_21 : decode cX13_feed 21 = .ok (.getfield 325, 3) := by decide +kernel
theorem dX13_feed_24 : decode cX13_feed 24 = .ok (.iconst 4, 1) := by decide +kernel
theorem dX13_feed_25 : decode cX13_feed 25 = .ok (.iload_n 1, 1) := by decide +kernel
theorem dX13_feed_26 : decode cX13_feed 26 = .ok (.i2l, 1) := by decide +kernel
theorem dX13_feed_27 : decode cX13_feed 27 = .ok (.invokestatic 328, 3) := by decide +kernel
theorem dX13_feed_30 : decode cX13_feed 30 = .ok (.aload_n 0, 1) := by decide +kernel
theorem dX13_feed_31 : decode cX13_feed 31 = .ok (.getfield 7, 3) := by decide +kernel
theorem dX13_feed_34 : decode cX13_feed 34 = .ok (.aload_n 0, 1) := by decide +kernel
theorem dX13_feed_35 : decode cX13_feed 35 = .ok (.getfield 325, 3) := by decide +kernel
theorem dX13_feed_38 : decode cX13_feed 38 = .ok (.iconst 4, 1) := by decide +kernel
theorem dX13_feed_39 : decode cX13_feed 39 = .ok (.iadd, 1) := by decide +kernel
theorem dX13_feed_40 : decode cX13_feed 40 = .ok (.iconst 4, 1) := by decide +kernel
theorem dX13_feed_41 : decode cX13_feed 41 = .ok (.iload_n 2, 1) := by decide +kernel
theorem dX13_feed_42 : decode cX13_feed 42 = .ok (.i2l, 1) := by decide +kernel
theorem dX13_feed_43 : decode cX13_feed 43 = .ok (.invokestatic 328, 3) := by decide +kernel
theorem dX13_feed_46 : decode cX13_feed 46 = .ok (.aload_n 0, 1) := by decide +kernel
theorem dX13_feed_47 : decode cX13_feed 47 = .ok (.getfield 7, 3) := by decide +kernel
theorem dX13_feed_50 : decode cX13_feed 50 = .ok (.aload_n 0, 1) := by decide +kernel
theorem dX13_feed_51 : decode cX13_feed 51 = .ok (.getfield 325, 3) := by decide +kernel
theorem dX13_feed_54 : decode cX13_feed 54 = .ok (.bipush 8, 2) := by decide +kernel
theorem dX13_feed_56 : decode cX13_feed 56 = .ok (.iadd, 1) := by decide +kernel
theorem dX13_feed_57 : decode cX13_feed 57 = .ok (.iconst 4, 1) := by decide +kernel
theorem dX13_feed_58 : decode cX13_feed 58 = .ok (.iload_n 3, 1) := by decide +kernel
theorem dX13_feed_59 : decode cX13_feed 59 = .ok (.i2l, 1) := by decide +kernel
theorem dX13_feed_60 : decode cX13_feed 60 = .ok (.invokestatic 328, 3) := by decide +kernel
theorem dX13_feed_63 : decode cX13_feed 63 = .ok (.aload_n 0, 1) := by decide +kernel
theorem dX13_feed_64 : decode cX13_feed 64 = .ok (.getfield 7, 3) := by decide +kernel
theorem dX13_feed_67 : decode cX13_feed 67 = .ok (.aload_n 0, 1) := by decide +kernel
theorem dX13_feed_68 : decode cX13_feed 68 = .ok (.getfield 325, 3) := by decide +kernel
theorem dX13_feed_71 : decode cX13_feed 71 = .ok (.bipush 12, 2) := by decide +kernel
theorem dX13_feed_73 : decode cX13_feed 73 = .ok (.iadd, 1) := by decide +kernel
theorem dX13_feed_74 : decode cX13_feed 74 = .ok (.iconst 4, 1) := by decide +kernel
theorem dX13_feed_75 : decode cX13_feed 75 = .ok (.iload 4, 2) := by decide +kernel
theorem dX13_feed_77 : decode cX13_feed 77 = .ok (.i2l, 1) := by decide +kernel
theorem dX13_feed_78 : decode cX13_feed 78 = .ok (.invokestatic 328, 3) := by decide +kernel
theorem dX13_feed_81 : decode cX13_feed 81 = .ok (.aload_n 0, 1) := by decide +kernel
theorem dX13_feed_82 : decode cX13_feed 82 = .ok (.getfield 7, 3) := by decide +kernel
theorem dX13_feed_85 : decode cX13_feed 85 = .ok (.aload_n 0, 1) := by decide +kernel
theorem dX13_feed_86 : decode cX13_feed 86 = .ok (.getfield 325, 3) := by decide +kernel
theorem dX13_feed_89 : decode cX13_feed 89 = .ok (.bipush 16, 2) := by decide +kernel
theorem dX13_feed_91 : decode cX13_feed 91 = .ok (.iadd, 1) := by decide +kernel
theorem dX13_feed_92 : decode cX13_feed 92 = .ok (.iconst 4, 1) := by decide +kernel
theorem dX13_feed_93 : decode cX13_feed 93 = .ok (.iload 5, 2) := by decide +kernel
theorem dX13_feed_95 : decode cX13_feed 95 = .ok (.i2l, 1) := by decide +kernel
theorem dX13_feed_96 : decode cX13_feed 96 = .ok (.invokestatic 328, 3) := by decide +kernel
theorem dX13_feed_99 : decode cX13_feed 99 = .ok (.aload_n 0, 1) := by decide +kernel
theorem dX13_feed_100 : decode cX13_feed 100 = .ok (.dup, 1) := by decide +kernel
theorem dX13_feed_101 : decode cX13_feed 101 = .ok (.getfield 325, 3) := by decide +kernel
theorem dX13_feed_104 : decode cX13_feed 104 = .ok (.bipush 20, 2) := by decide +kernel
theorem dX13_feed_106 : decode cX13_feed 106 = .ok (.iadd, 1) := by decide +kernel
theorem dX13_feed_107 : decode cX13_feed 107 = .ok (.putfield 325, 3) := by decide +kernel
theorem dX13_feed_110 : decode cX13_feed 110 = .ok (.aload_n 0, 1) := by decide +kernel
theorem dX13_feed_111 : decode cX13_feed 111 = .ok (.getfield 325, 3) := by decide +kernel
theorem dX13_feed_114 : decode cX13_feed 114 = .ok (.ireturn, 1) := by decide +kernel
abbrev rmX13_feed : Room := { frames := 1, cells := 0, slots := 0, locals := 25 }
set_option maxHeartbeats 4000000 in
set_option maxRecDepth 100000 in
theorem wP_X13_feed {G : mG} {F : Nat} {x : mXT} {sz : Nat} {r0 : Int32} {M0 : mM} (X : mCX G RX13 cX13_feed 6 (some .int) "feed" rmX13_feed x) (hQ : mQI x r0 M0 (sz, 0, 0)) {l0 : Nat} {l1 : Int32} {l2 : Int32} {l3 : Int32} {l4 : Int32} {l5 : Int32} {M : mM} (h : P_X13_feed G F l0 l1 l2 l3 l4 l5 M = some (r0, M0)) : WW x (sz, 0, 0) M 0 [(0, .ref l0), (1, .int l1), (2, .int l2), (3, .int l3), (4, .int l4), (5, .int l5)] [] := by
  unfold P_X13_feed at h
  refine ww_aload_n 0 X dX13_feed_0 0 rfl rfl ?_
  obtain ⟨v1, e1, h⟩ := bO_some h
  refine ww_getI 1 X dX13_feed_1 fG_X13_325 e1 ?_
  refine ww_bipush 4 X (v := (20 : Int32)) dX13_feed_4 (by decide) ?_
  refine ww_iadd 6 X dX13_feed_6 ?_
  refine ww_sipush 7 X (v := (8192 : Int32)) dX13_feed_7 (by decide) ?_
  refine ww_icmp_le 10 16 X dX13_feed_10 (by decide) (fun q => ?_) (fun q => ?_)
  · replace h := (if_pos q).symm.trans h
    refine ww_aload_n 16 X dX13_feed_16 0 rfl rfl ?_
    obtain ⟨v17, e17, h⟩ := bO_some h
    refine ww_getR 17 X dX13_feed_17 fG_X13_7 e17 ?_
    refine ww_aload_n 20 X dX13_feed_20 0 rfl rfl ?_
    obtain ⟨v21, e21, h⟩ := bO_some h
    refine ww_getI 21 X dX13_feed_21 fG_X13_325 e21 ?_
    refine ww_iconst 24 X (v := (4 : Int32)) dX13_feed_24 (by decide) ?_
    refine ww_iload_n 25 X dX13_feed_25 1 rfl rfl ?_
    refine ww_i2l 26 X dX13_feed_26 ?_
    obtain ⟨M27, e27, h⟩ := bO_some h
    refine ww_callSV0 27 X dX13_feed_27 mY_X13_put mL_X13_328 (As := [.ref v17, .int v21, .int (4 : Int32), .long (l1.toInt64)]) (rest := []) rfl rfl ⟨Nat.le_of_ble_eq_true rfl, Nat.le_of_ble_eq_true rfl⟩ (Nat.le_of_ble_eq_true rfl) (fun l D A => c_X13_put l D A e27) ?_
    refine ww_aload_n 30 X dX13_feed_30 0 rfl rfl ?_
    obtain ⟨v31, e31, h⟩ := bO_some h
    refine ww_getR 31 X dX13_feed_31 fG_X13_7 e31 ?_
    refine ww_aload_n 34 X dX13_feed_34 0 rfl rfl ?_
    obtain ⟨v35, e35, h⟩ := bO_some h
    refine ww_getI 35 X dX13_feed_35 fG_X13_325 e35 ?_
    refine ww_iconst 38 X (v := (4 : Int32)) dX13_feed_38 (by decide) ?_
    refine ww_iadd 39 X dX13_feed_39 ?_
    refine ww_iconst 40 X (v := (4 : Int32)) dX13_feed_40 (by decide) ?_
    refine ww_iload_n 41 X dX13_feed_41 2 rfl rfl ?_
    refine ww_i2l 42 X dX13_feed_42 ?_
    obtain ⟨M43, e43, h⟩ := bO_some h
    refine ww_callSV0 43 X dX13_feed_43 mY_X13_put mL_X13_328 (As := [.ref v31, .int (v35 + (4 : Int32)), .int (4 : Int32), .long (l2.toInt64)]) (rest := []) rfl rfl ⟨Nat.le_of_ble_eq_true rfl, Nat.le_of_ble_eq_true rfl⟩ (Nat.le_of_ble_eq_true rfl) (fun l D A => c_X13_put l D A e43) ?_
    refine ww_aload_n 46 X dX13_feed_46 0 rfl rfl ?_
    obtain ⟨v47, e47, h⟩ := bO_some h
    refine ww_getR 47 X dX13_feed_47 fG_X13_7 e47 ?_
    refine ww_aload_n 50 X dX13_feed_50 0 rfl rfl ?_
    obtain ⟨v51, e51, h⟩ := bO_some h
    refine ww_getI 51 X dX13_feed_51 fG_X13_325 e51 ?_
    refine ww_bipush 54 X (v := (8 : Int32)) dX13_feed_54 (by decide) ?_
    refine ww_iadd 56 X dX13_feed_56 ?_
    refine ww_iconst 57 X (v := (4 : Int32)) dX13_feed_57 (by decide) ?_
    refine ww_iload_n 58 X dX13_feed_58 3 rfl rfl ?_
    refine ww_i2l 59 X dX13_feed_59 ?_
    obtain ⟨M60, e60, h⟩ := bO_some h
    refine ww_callSV0 60 X dX13_feed_60 mY_X13_put mL_X13_328 (As := [.ref v47, .int (v51 + (8 : Int32)), .int (4 : Int32), .long (l3.toInt64)]) (rest := []) rfl rfl ⟨Nat.le_of_ble_eq_true rfl, Nat.le_of_ble_eq_true rfl⟩ (Nat.le_of_ble_eq_true rfl) (fun l D A => c_X13_put l D A e60) ?_
    refine ww_aload_n 63 X dX13_feed_63 0 rfl rfl ?_
    obtain ⟨v64, e64, h⟩ := bO_some h
    refine ww_getR 64 X dX13_feed_64 fG_X13_7 e64 ?_
    refine ww_aload_n 67 X dX13_feed_67 0 rfl rfl ?_
    obtain ⟨v68, e68, h⟩ := bO_some h
    refine ww_getI 68 X dX13_feed_68 fG_X13_325 e68 ?_
    refine ww_bipush 71 X (v := (12 : Int32)) dX13_feed_71 (by decide) ?_
    refine ww_iadd 73 X dX13_feed_73 ?_
    refine ww_iconst 74 X (v := (4 : Int32)) dX13_feed_74 (by decide) ?_
    refine ww_iload 75 X dX13_feed_75 4 rfl ?_
    refine ww_i2l 77 X dX13_feed_77 ?_
    obtain ⟨M78, e78, h⟩ := bO_some h
    refine ww_callSV0 78 X dX13_feed_78 mY_X13_put mL_X13_328 (As := [.ref v64, .int (v68 + (12 : Int32)), .int (4 : Int32), .long (l4.toInt64)]) (rest := []) rfl rfl ⟨Nat.le_of_ble_eq_true rfl, Nat.le_of_ble_eq_true rfl⟩ (Nat.le_of_ble_eq_true rfl) (fun l D A => c_X13_put l D A e78) ?_
    refine ww_aload_n 81 X dX13_feed_81 0 rfl rfl ?_
    obtain ⟨v82, e82, h⟩ := bO_some h
    refine ww_getR 82 X dX13_feed_82 fG_X13_7 e82 ?_
    refine ww_aload_n 85 X dX13_feed_85 0 rfl rfl ?_
    obtain ⟨v86, e86, h⟩ := bO_some h
    refine ww_getI 86 X dX13_feed_86 fG_X13_325 e86 ?_
    refine ww_bipush 89 X (v := (16 : Int32)) dX13_feed_89 (by decide) ?_
    refine ww_iadd 91 X dX13_feed_91 ?_
    refine ww_iconst 92 X (v := (4 : Int32)) dX13_feed_92 (by decide) ?_
    refine ww_iload 93 X dX13_feed_93 5 rfl ?_
    refine ww_i2l 95 X dX13_feed_95 ?_
    obtain ⟨M96, e96, h⟩ := bO_some h
    refine ww_callSV0 96 X dX13_feed_96 mY_X13_put mL_X13_328 (As := [.ref v82, .int (v86 + (16 : Int32)), .int (4 : Int32), .long (l5.toInt64)]) (rest := []) rfl rfl ⟨Nat.le_of_ble_eq_true rfl, Nat.le_of_ble_eq_true rfl⟩ (Nat.le_of_ble_eq_true rfl) (fun l D A => c_X13_put l D A e96) ?_
    refine ww_aload_n 99 X dX13_feed_99 0 rfl rfl ?_
    refine ww_dup 100 X dX13_feed_100 rfl ?_
    obtain ⟨v101, e101, h⟩ := bO_some h
    refine ww_getI 101 X dX13_feed_101 fG_X13_325 e101 ?_
    refine ww_bipush 104 X (v := (20 : Int32)) dX13_feed_104 (by decide) ?_
    refine ww_iadd 106 X dX13_feed_106 ?_
    obtain ⟨M107, e107, h⟩ := bO_some h
    refine ww_putI 107 X dX13_feed_107 (fP_X13_325 _) e107 ?_
    refine ww_aload_n 110 X dX13_feed_110 0 rfl rfl ?_
    obtain ⟨v111, e111, h⟩ := bO_some h
    refine ww_getI 111 X dX13_feed_111 fG_X13_325 e111 ?_
    exact ww_iretE 114 X hQ dX13_feed_114 h
  · replace h := (if_neg q).symm.trans h
    refine ww_bipush 13 X (v := (-2 : Int32)) dX13_feed_13 (by decide) ?_
    exact ww_iretE 15 X hQ dX13_feed_15 h
theorem c_X13_feed {G : mG} {F sz : Nat} {r0 : Int32} {M0 : mM} (l : Launch) (D : mD) (A : Nat → Prop) {l0 : Nat} {l1 : Int32} {l2 : Int32} {l3 : Int32} {l4 : Int32} {l5 : Int32} {M : mM} (h : P_X13_feed G F l0 l1 l2 l3 l4 l5 M = some (r0, M0)) : mMetI l D G A yX13_feed cX13_feed 6 (some .int) 1 25 0 0 [.ref l0, .int l1, .int l2, .int l3, .int l4, .int l5] M sz r0 M0 sz := mMetI_of l D G A (by decide) (Nat.le_of_ble_eq_true rfl) (fun x X hQ => wP_X13_feed X hQ h)
/-! SealedTokensModel.end(I)I -/
theorem dX13_end_0 : decode cX13_end 0 = .ok (.iload_n 1, 1) := by decide +kernel
theorem dX13_end_1 : decode cX13_end 1 = .ok (.ifCond .lt 11, 3) := by decide +kernel
theorem dX13_end_4 : decode cX13_end 4 = .ok (.iload_n 1, 1) := by decide +kernel
theorem dX13_end_5 : decode cX13_end 5 = .ok (.aload_n 0, 1) := by decide +kernel
theorem dX13_end_6 : decode cX13_end 6 = .ok (.getfield 325, 3) := by decide +kernel
theorem dX13_end_9 : decode cX13_end 9 = .ok (.if_icmp .le 6, 3) := by decide +kernel
theorem dX13_end_12 : decode cX13_end 12 = .ok (.bipush (-2), 2) := by decide +kernel
theorem dX13_end_14 : decode cX13_end 14 = .ok (.ireturn, 1) := by decide +kernel
theorem dX13_end_15 : decode cX13_end 15 = .ok (.aload_n 0, 1) := by decide +kernel
theorem dX13_end_16 : decode cX13_end 16 = .ok (.iload_n 1, 1) := by decide +kernel
theorem dX13_end_17 : decode cX13_end 17 = .ok (.putfield 325, 3) := by decide +kernel
theorem dX13_end_20 : decode cX13_end 20 = .ok (.iload_n 1, 1) := by decide +kernel
theorem dX13_end_21 : decode cX13_end 21 = .ok (.ireturn, 1) := by decide +kernel
abbrev rmX13_end : Room := { frames := 0, cells := 0, slots := 0, locals := 0 }
set_option maxHeartbeats 4000000 in
set_option maxRecDepth 100000 in
theorem wP_X13_end {G : mG} {F : Nat} {x : mXT} {sz : Nat} {r0 : Int32} {M0 : mM} (X : mCX G RX13 cX13_end 2 (some .int) "end" rmX13_end x) (hQ : mQI x r0 M0 (sz, 0, 0)) {l0 : Nat} {l1 : Int32} {M : mM} (h : P_X13_end G F l0 l1 M = some (r0, M0)) : WW x (sz, 0, 0) M 0 [(0, .ref l0), (1, .int l1)] [] := by
  unfold P_X13_end at h
  refine ww_iload_n 0 X dX13_end_0 1 rfl rfl ?_
  refine ww_if_lt 1 12 X dX13_end_1 (by decide) (fun q => ?_) (fun q => ?_)
  · replace h := (if_pos q).symm.trans h
    refine ww_bipush 12 X (v := (-2 : Int32)) dX13_end_12 (by decide) ?_
    exact ww_iretE 14 X hQ dX13_end_14 h
  · replace h := (if_neg q).symm.trans h
    refine ww_iload_n 4 X dX13_end_4 1 rfl rfl ?_
    refine ww_aload_n 5 X dX13_end_5 0 rfl rfl ?_
    obtain ⟨v6, e6, h⟩ := bO_some h
    refine ww_getI 6 X dX13_end_6 fG_X13_325 e6 ?_
    refine ww_icmp_le 9 15 X dX13_end_9 (by decide) (fun q => ?_) (fun q => ?_)
    · replace h := (if_pos q).symm.trans h
      refine ww_aload_n 15 X dX13_end_15 0 rfl rfl ?_
      refine ww_iload_n 16 X dX13_end_16 1 rfl rfl ?_
      obtain ⟨M17, e17, h⟩ := bO_some h
      refine ww_putI 17 X dX13_end_17 (fP_X13_325 _) e17 ?_
      refine ww_iload_n 20 X dX13_end_20 1 rfl rfl ?_
      exact ww_iretE 21 X hQ dX13_end_21 h
    · replace h := (if_neg q).symm.trans h
      refine ww_bipush 12 X (v := (-2 : Int32)) dX13_end_12 (by decide) ?_
      exact ww_iretE 14 X hQ dX13_end_14 h
theorem c_X13_end {G : mG} {F sz : Nat} {r0 : Int32} {M0 : mM} (l : Launch) (D : mD) (A : Nat → Prop) {l0 : Nat} {l1 : Int32} {M : mM} (h : P_X13_end G F l0 l1 M = some (r0, M0)) : mMetI l D G A yX13_end cX13_end 2 (some .int) 0 0 0 0 [.ref l0, .int l1] M sz r0 M0 sz := mMetI_of l D G A (by decide) (Nat.le_of_ble_eq_true rfl) (fun x X hQ => wP_X13_end X hQ h)
/-! SealedTokensModel.row(I)I -/
theorem dX13_row_0 : decode cX13_row 0 = .ok (.iload_n 1, 1) := by decide +kernel
theorem dX13_row_1 : decode cX13_row 1 = .ok (.invokestatic 332, 3) := by decide +kernel
theorem dX13_row_4 : decode cX13_row 4 = .ok (.ifCond .ne 6, 3) := by decide +kernel
theorem dX13_row_7 : decode cX13_row 7 = .ok (.bipush (-2), 2) := by decide +kernel
theorem dX13_row_9 : decode cX13_row 9 = .ok (.ireturn, 1) := by decide +kernel
theorem dX13_row_10 : decode cX13_row 10 = .ok (.aload_n 0, 1) := by decide +kernel
theorem dX13_row_11 : decode cX13_row 11 = .ok (.getfield 7, 3) := by decide +kernel
theorem dX13_row_14 : decode cX13_row 14 = .ok (.iconst 0, 1) := by decide +kernel
theorem dX13_row_15 : decode cX13_row 15 = .ok (.aload_n 0, 1) := by decide +kernel
theorem dX13_row_16 : decode cX13_row 16 = .ok (.getfield 14, 3) := by decide +kernel
theorem dX13_row_19 : decode cX13_row 19 = .ok (.sipush 8192, 3) := by decide +kernel
theorem dX13_row_22 : decode cX13_row 22 = .ok (.iload_n 1, 1) := by decide +kernel
theorem dX13_row_23 : decode cX13_row 23 = .ok (.imul, 1) := by decide +kernel
theorem dX13_row_24 : decode cX13_row 24 = .ok (.aload_n 0, 1) := by decide +kernel
theorem dX13_row_25 : decode cX13_row 25 = .ok (.getfield 325, 3) := by decide +kernel
theorem dX13_row_28 : decode cX13_row 28 = .ok (.invokestatic 317, 3) := by decide +kernel
theorem dX13_row_31 : decode cX13_row 31 = .ok (.aload_n 0, 1) := by decide +kernel
theorem dX13_row_32 : decode cX13_row 32 = .ok (.getfield 17, 3) := by decide +kernel
theorem dX13_row_35 : decode cX13_row 35 = .ok (.iload_n 1, 1) := by decide +kernel
theorem dX13_row_36 : decode cX13_row 36 = .ok (.aload_n 0, 1) := by decide +kernel
theorem dX13_row_37 : decode cX13_row 37 = .ok (.getfield 325, 3) := by decide +kernel
theorem dX13_row_40 : decode cX13_row 40 = .ok (.iastore, 1) := by decide +kernel
theorem dX13_row_41 : decode cX13_row 41 = .ok (.aload_n 0, 1) := by decide +kernel
theorem dX13_row_42 : decode cX13_row 42 = .ok (.iconst 0, 1) := by decide +kernel
theorem dX13_row_43 : decode cX13_row 43 = .ok (.putfield 325, 3) := by decide +kernel
theorem dX13_row_46 : decode cX13_row 46 = .ok (.aload_n 0, 1) := by decide +kernel
theorem dX13_row_47 : decode cX13_row 47 = .ok (.getfield 17, 3) := by decide +kernel
theorem dX13_row_50 : decode cX13_row 50 = .ok (.iload_n 1, 1) := by decide +kernel
theorem dX13_row_51 : decode cX13_row 51 = .ok (.iaload, 1) := by decide +kernel
theorem dX13_row_52 : decode cX13_row 52 = .ok (.ireturn, 1) := by decide +kernel
abbrev rmX13_row : Room := { frames := 1, cells := 0, slots := 0, locals := 25 }
set_option maxHeartbeats 4000000 in
set_option maxRecDepth 100000 in
theorem wP_X13_row {G : mG} {F : Nat} {x : mXT} {sz : Nat} {r0 : Int32} {M0 : mM} (X : mCX G RX13 cX13_row 2 (some .int) "row" rmX13_row x) (hQ : mQI x r0 M0 (sz, 0, 0)) {l0 : Nat} {l1 : Int32} {M : mM} (h : P_X13_row G F l0 l1 M = some (r0, M0)) : WW x (sz, 0, 0) M 0 [(0, .ref l0), (1, .int l1)] [] := by
  unfold P_X13_row at h
  refine ww_iload_n 0 X dX13_row_0 1 rfl rfl ?_
  obtain ⟨v1, M1, e1, h⟩ := bP_some h
  refine ww_callSI0 1 X dX13_row_1 mY_X13_isRow mL_X13_332 (As := [.int l1]) (rest := []) rfl rfl ⟨Nat.le_of_ble_eq_true rfl, Nat.le_of_ble_eq_true rfl⟩ (Nat.le_of_ble_eq_true rfl) (fun l D A => c_X13_isRow l D A e1) ?_
  refine ww_if_ne 4 10 X dX13_row_4 (by decide) (fun q => ?_) (fun q => ?_)
  · replace h := (if_neg q).symm.trans h
    refine ww_aload_n 10 X dX13_row_10 0 rfl rfl ?_
    obtain ⟨v11, e11, h⟩ := bO_some h
    refine ww_getR 11 X dX13_row_11 fG_X13_7 e11 ?_
    refine ww_iconst 14 X (v := (0 : Int32)) dX13_row_14 (by decide) ?_
    refine ww_aload_n 15 X dX13_row_15 0 rfl rfl ?_
    obtain ⟨v16, e16, h⟩ := bO_some h
    refine ww_getR 16 X dX13_row_16 fG_X13_14 e16 ?_
    refine ww_sipush 19 X (v := (8192 : Int32)) dX13_row_19 (by decide) ?_
    refine ww_iload_n 22 X dX13_row_22 1 rfl rfl ?_
    refine ww_imul 23 X dX13_row_23 ?_
    refine ww_aload_n 24 X dX13_row_24 0 rfl rfl ?_
    obtain ⟨v25, e25, h⟩ := bO_some h
    refine ww_getI 25 X dX13_row_25 fG_X13_325 e25 ?_
    obtain ⟨M28, e28, h⟩ := bO_some h
    refine ww_callSV0 28 X dX13_row_28 mY_X13_move mL_X13_317 (As := [.ref v11, .int (0 : Int32), .ref v16, .int ((8192 : Int32) * l1), .int v25]) (rest := []) rfl rfl ⟨Nat.le_of_ble_eq_true rfl, Nat.le_of_ble_eq_true rfl⟩ (Nat.le_of_ble_eq_true rfl) (fun l D A => c_X13_move l D A e28) ?_
    refine ww_aload_n 31 X dX13_row_31 0 rfl rfl ?_
    obtain ⟨v32, e32, h⟩ := bO_some h
    refine ww_getR 32 X dX13_row_32 fG_X13_17 e32 ?_
    refine ww_iload_n 35 X dX13_row_35 1 rfl rfl ?_
    refine ww_aload_n 36 X dX13_row_36 0 rfl rfl ?_
    obtain ⟨v37, e37, h⟩ := bO_some h
    refine ww_getI 37 X dX13_row_37 fG_X13_325 e37 ?_
    obtain ⟨M40, e40, h⟩ := bO_some h
    refine ww_iast 40 X dX13_row_40 e40 ?_
    refine ww_aload_n 41 X dX13_row_41 0 rfl rfl ?_
    refine ww_iconst 42 X (v := (0 : Int32)) dX13_row_42 (by decide) ?_
    obtain ⟨M43, e43, h⟩ := bO_some h
    refine ww_putI 43 X dX13_row_43 (fP_X13_325 _) e43 ?_
    refine ww_aload_n 46 X dX13_row_46 0 rfl rfl ?_
    obtain ⟨v47, e47, h⟩ := bO_some h
    refine ww_getR 47 X dX13_row_47 fG_X13_17 e47 ?_
    refine ww_iload_n 50 X dX13_row_50 1 rfl rfl ?_
    obtain ⟨v51, e51, h⟩ := bO_some h
    refine ww_iald 51 X dX13_row_51 e51 ?_
    exact ww_iretE 52 X hQ dX13_row_52 h
  · replace h := (if_pos q).symm.trans h
    refine ww_bipush 7 X (v := (-2 : Int32)) dX13_row_7 (by decide) ?_
    exact ww_iretE 9 X hQ dX13_row_9 h
theorem c_X13_row {G : mG} {F sz : Nat} {r0 : Int32} {M0 : mM} (l : Launch) (D : mD) (A : Nat → Prop) {l0 : Nat} {l1 : Int32} {M : mM} (h : P_X13_row G F l0 l1 M = some (r0, M0)) : mMetI l D G A yX13_row cX13_row 2 (some .int) 1 25 0 0 [.ref l0, .int l1] M sz r0 M0 sz := mMetI_of l D G A (by decide) (Nat.le_of_ble_eq_true rfl) (fun x X hQ => wP_X13_row X hQ h)
/-! SealedTokensModel.keep(I)I -/
theorem dX13_keep_0 : decode cX13_keep 0 = .ok (.iload_n 1, 1) := by decide +kernel
theorem dX13_keep_1 : decode cX13_keep 1 = .ok (.invokestatic 332, 3) := by decide +kernel
theorem dX13_keep_4 : decode cX13_keep 4 = .ok (.ifCond .ne 6, 3) := by decide +kernel
theorem dX13_keep_7 : decode cX13_keep 7 = .ok (.bipush (-2), 2) := by decide +kernel
theorem dX13_keep_9 : decode cX13_keep 9 = .ok (.ireturn, 1) := by decide +kernel
theorem dX13_keep_10 : decode cX13_keep 10 = .ok (.aload_n 0, 1) := by decide +kernel
theorem dX13_keep_11 : decode cX13_keep 11 = .ok (.getfield 21, 3) := by decide +kernel
theorem dX13_keep_14 : decode cX13_keep 14 = .ok (.iconst 0, 1) := by decide +kernel
theorem dX13_keep_15 : decode cX13_keep 15 = .ok (.aload_n 0, 1) := by decide +kernel
theorem dX13_keep_16 : decode cX13_keep 16 = .ok (.getfield 14, 3) := by decide +kernel
theorem dX13_keep_19 : decode cX13_keep 19 = .ok (.sipush 8192, 3) := by decide +kernel
theorem dX13_keep_22 : decode cX13_keep 22 = .ok (.iload_n 1, 1) := by decide +kernel
theorem dX13_keep_23 : decode cX13_keep 23 = .ok (.imul, 1) := by decide +kernel
theorem dX13_keep_24 : decode cX13_keep 24 = .ok (.aload_n 0, 1) := by decide +kernel
theorem dX13_keep_25 : decode cX13_keep 25 = .ok (.getfield 321, 3) := by decide +kernel
theorem dX13_keep_28 : decode cX13_keep 28 = .ok (.invokestatic 317, 3) := by decide +kernel
theorem dX13_keep_31 : decode cX13_keep 31 = .ok (.aload_n 0, 1) := by decide +kernel
theorem dX13_keep_32 : decode cX13_keep 32 = .ok (.getfield 17, 3) := by decide +kernel
theorem dX13_keep_35 : decode cX13_keep 35 = .ok (.iload_n 1, 1) := by decide +kernel
theorem dX13_keep_36 : decode cX13_keep 36 = .ok (.aload_n 0, 1) := by decide +kernel
theorem dX13_keep_37 : decode cX13_keep 37 = .ok (.getfield 321, 3) := by decide +kernel
theorem dX13_keep_40 : decode cX13_keep 40 = .ok (.iastore, 1) := by decide +kernel
theorem dX13_keep_41 : decode cX13_keep 41 = .ok (.aload_n 0, 1) := by decide +kernel
theorem dX13_keep_42 : decode cX13_keep 42 = .ok (.getfield 321, 3) := by decide +kernel
theorem dX13_keep_45 : decode cX13_keep 45 = .ok (.ireturn, 1) := by decide +kernel
abbrev rmX13_keep : Room := { frames := 1, cells := 0, slots := 0, locals := 25 }
set_option maxHeartbeats 4000000 in
set_option maxRecDepth 100000 in
theorem wP_X13_keep {G : mG} {F : Nat} {x : mXT} {sz : Nat} {r0 : Int32} {M0 : mM} (X : mCX G RX13 cX13_keep 2 (some .int) "keep" rmX13_keep x) (hQ : mQI x r0 M0 (sz, 0, 0)) {l0 : Nat} {l1 : Int32} {M : mM} (h : P_X13_keep G F l0 l1 M = some (r0, M0)) : WW x (sz, 0, 0) M 0 [(0, .ref l0), (1, .int l1)] [] := by
  unfold P_X13_keep at h
  refine ww_iload_n 0 X dX13_keep_0 1 rfl rfl ?_
  obtain ⟨v1, M1, e1, h⟩ := bP_some h
  refine ww_callSI0 1 X dX13_keep_1 mY_X13_isRow mL_X13_332 (As := [.int l1]) (rest := []) rfl rfl ⟨Nat.le_of_ble_eq_true rfl, Nat.le_of_ble_eq_true rfl⟩ (Nat.le_of_ble_eq_true rfl) (fun l D A => c_X13_isRow l D A e1) ?_
  refine ww_if_ne 4 10 X dX13_keep_4 (by decide) (fun q => ?_) (fun q => ?_)
  · replace h := (if_neg q).symm.trans h
    refine ww_aload_n 10 X dX13_keep_10 0 rfl rfl ?_
    obtain ⟨v11, e11, h⟩ := bO_some h
    refine ww_getR 11 X dX13_keep_11 fG_X13_21 e11 ?_
    refine ww_iconst 14 X (v := (0 : Int32)) dX13_keep_14 (by decide) ?_
    refine ww_aload_n 15 X dX13_keep_15 0 rfl rfl ?_
    obtain ⟨v16, e16, h⟩ := bO_some h
    refine ww_getR 16 X dX13_keep_16 fG_X13_14 e16 ?_
    refine ww_sipush 19 X (v := (8192 : Int32)) dX13_keep_19 (by decide) ?_
    refine ww_iload_n 22 X dX13_keep_22 1 rfl rfl ?_
    refine ww_imul 23 X dX13_keep_23 ?_
    refine ww_aload_n 24 X dX13_keep_24 0 rfl rfl ?_
    obtain ⟨v25, e25, h⟩ := bO_some h
    refine ww_getI 25 X dX13_keep_25 fG_X13_321 e25 ?_
    obtain ⟨M28, e28, h⟩ := bO_some h
    refine ww_callSV0 28 X dX13_keep_28 mY_X13_move mL_X13_317 (As := [.ref v11, .int (0 : Int32), .ref v16, .int ((8192 : Int32) * l1), .int v25]) (rest := []) rfl rfl ⟨Nat.le_of_ble_eq_true rfl, Nat.le_of_ble_eq_true rfl⟩ (Nat.le_of_ble_eq_true rfl) (fun l D A => c_X13_move l D A e28) ?_
    refine ww_aload_n 31 X dX13_keep_31 0 rfl rfl ?_
    obtain ⟨v32, e32, h⟩ := bO_some h
    refine ww_getR 32 X dX13_keep_32 fG_X13_17 e32 ?_
    refine ww_iload_n 35 X dX13_keep_35 1 rfl rfl ?_
    refine ww_aload_n 36 X dX13_keep_36 0 rfl rfl ?_
    obtain ⟨v37, e37, h⟩ := bO_some h
    refine ww_getI 37 X dX13_keep_37 fG_X13_321 e37 ?_
    obtain ⟨M40, e40, h⟩ := bO_some h
    refine ww_iast 40 X dX13_keep_40 e40 ?_
    refine ww_aload_n 41 X dX13_keep_41 0 rfl rfl ?_
    obtain ⟨v42, e42, h⟩ := bO_some h
    refine ww_getI 42 X dX13_keep_42 fG_X13_321 e42 ?_
    exact ww_iretE 45 X hQ dX13_keep_45 h
  · replace h := (if_pos q).symm.trans h
    refine ww_bipush 7 X (v := (-2 : Int32)) dX13_keep_7 (by decide) ?_
    exact ww_iretE 9 X hQ dX13_keep_9 h
theorem c_X13_keep {G : mG} {F sz : Nat} {r0 : Int32} {M0 : mM} (l : Launch) (D : mD) (A : Nat → Prop) {l0 : Nat} {l1 : Int32} {M : mM} (h : P_X13_keep G F l0 l1 M = some (r0, M0)) : mMetI l D G A yX13_keep cX13_keep 2 (some .int) 1 25 0 0 [.ref l0, .int l1] M sz r0 M0 sz := mMetI_of l D G A (by decide) (Nat.le_of_ble_eq_true rfl) (fun x X hQ => wP_X13_keep X hQ h)
/-! SealedTokensModel.poke(III)I -/
theorem dX13_poke_0 : decode cX13_poke 0 = .ok (.iload_n 1, 1) := by decide +kernel
theorem dX13_poke_1 : decode cX13_poke 1 = .ok (.invokestatic 332, 3) := by decide +kernel
theorem dX13_poke_4 : decode cX13_poke 4 = .ok (.ifCond .eq 28, 3) := by decide +kernel
theorem dX13_poke_7 : decode cX13_poke 7 = .ok (.iload_n 2, 1) := by decide +kernel
theorem dX13_poke_8 : decode cX13_poke 8 = .ok (.ifCond .lt 24, 3) := by decide +kernel
theorem dX13_poke_11 : decode cX13_poke 11 = .ok (.iload_n 2, 1) := by decide +kernel
theorem dX13_poke_12 : decode cX13_poke 12 = .ok (.aload_n 0, 1) := by decide +kernel
theorem dX13_poke_13 : decode cX13_poke 13 = .ok (.getfield 17, 3) := by decide +kernel
theorem dX13_poke_16 : decode cX13_poke 16 = .ok (.iload_n 1, 1) := by decide +kernel
theorem dX13_poke_17 : decode cX13_poke 17 = .ok (.iaload, 1) := by decide +kernel
theorem dX13_poke_18 : decode cX13_poke 18 = .ok (.if_icmp .ge 14, 3) := by decide +kernel
theorem dX13_poke_21 : decode cX13_poke 21 = .ok (.iload_n 3, 1) := by decide +kernel
theorem dX13_poke_22 : decode cX13_poke 22 = .ok (.ifCond .lt 10, 3) := by decide +kernel
theorem dX13_poke_25 : decode cX13_poke 25 = .ok (.iload_n 3, 1) := by decide +kernel
theorem dX13_poke_26 : decode cX13_poke 26 = .ok (.sipush 255, 3) := by decide +kernel
theorem dX13_poke_29 : decode cX13_poke 29 = .ok (.if_icmp .le 6, 3) := by decide +kernel
theorem dX13_poke_32 : decode cX13_poke 32 = .ok (.bipush (-2), 2) := by decide +kernel
theorem dX13_poke_34 : decode cX13_poke 34 = .ok (.ireturn, 1) := by decide +kernel
theorem dX13_poke_35 : decode cX13_poke 35 = .ok (.aload_n 0, 1) := by decide +kernel
theorem dX13_poke_36 : decode cX13_poke 36 = .ok (.getfield 14, 3) := by decide +kernel
theorem dX13_poke_39 : decode cX13_poke 39 = .ok (.sipush 8192, 3) := by decide +kernel
theorem dX13_poke_42 : decode cX13_poke 42 = .ok (.iload_n 1, 1) := by decide +kernel
theorem dX13_poke_43 : decode cX13_poke 43 = .ok (.imul, 1) := by decide +kernel
theorem dX13_poke_44 : decode cX13_poke 44 = .ok (.iload_n 2, 1) := by decide +kernel
theorem dX13_poke_45 : decode cX13_poke 45 = .ok (.iadd, 1) := by decide +kernel
theorem dX13_poke_46 : decode cX13_poke 46 = .ok (.dup2, 1) := by decide +kernel
theorem dX13_poke_47 : decode cX13_poke 47 = .ok (.baload, 1) := by decide +kernel
theorem dX13_poke_48 : decode cX13_poke 48 = .ok (.iload_n 3, 1) := by decide +kernel
theorem dX13_poke_49 : decode cX13_poke 49 = .ok (.i2b, 1) := by decide +kernel
theorem dX13_poke_50 : decode cX13_poke 50 = .ok (.ixor, 1) := by decide +kernel
theorem dX13_poke_51 : decode cX13_poke 51 = .ok (.i2b, 1) := by decide +kernel
theorem dX13_poke_52 : decode cX13_poke 52 = .ok (.bastore, 1) := by decide +kernel
theorem dX13_poke_53 : decode cX13_poke 53 = .ok (.aload_n 0, 1) := by decide +kernel
theorem dX13_poke_54 : decode cX13_poke 54 = .ok (.getfield 14, 3) := by decide +kernel
theorem dX13_poke_57 : decode cX13_poke 57 = .ok (.sipush 8192, 3) := by decide +kernel
theorem dX13_poke_60 : decode cX13_poke 60 = .ok (.iload_n 1, 1) := by decide +kernel
theorem dX13_poke_61 : decode cX13_poke 61 = .ok (.imul, 1) := by decide +kernel
theorem dX13_poke_62 : decode cX13_poke 62 = .ok (.iload_n 2, 1) := by decide +kernel
theorem dX13_poke_63 : decode cX13_poke 63 = .ok (.iadd, 1) := by decide +kernel
theorem dX13_poke_64 : decode cX13_poke 64 = .ok (.baload, 1) := by decide +kernel
theorem dX13_poke_65 : decode cX13_poke 65 = .ok (.sipush 255, 3) := by decide +kernel
theorem dX13_poke_68 : decode cX13_poke 68 = .ok (.iand, 1) := by decide +kernel
theorem dX13_poke_69 : decode cX13_poke 69 = .ok (.ireturn, 1) := by decide +kernel
abbrev rmX13_poke : Room := { frames := 1, cells := 0, slots := 0, locals := 20 }
set_option maxHeartbeats 4000000 in
set_option maxRecDepth 100000 in
theorem wP_X13_poke {G : mG} {F : Nat} {x : mXT} {sz : Nat} {r0 : Int32} {M0 : mM} (X : mCX G RX13 cX13_poke 4 (some .int) "poke" rmX13_poke x) (hQ : mQI x r0 M0 (sz, 0, 0)) {l0 : Nat} {l1 : Int32} {l2 : Int32} {l3 : Int32} {M : mM} (h : P_X13_poke G F l0 l1 l2 l3 M = some (r0, M0)) : WW x (sz, 0, 0) M 0 [(0, .ref l0), (1, .int l1), (2, .int l2), (3, .int l3)] [] := by
  unfold P_X13_poke at h
  refine ww_iload_n 0 X dX13_poke_0 1 rfl rfl ?_
  obtain ⟨v1, M1, e1, h⟩ := bP_some h
  refine ww_callSI0 1 X dX13_poke_1 mY_X13_isRow mL_X13_332 (As := [.int l1]) (rest := []) rfl rfl ⟨Nat.le_of_ble_eq_true rfl, Nat.le_of_ble_eq_true rfl⟩ (Nat.le_of_ble_eq_true rfl) (fun l D A => c_X13_isRow l D A e1) ?_
  refine ww_if_eq 4 32 X dX13_poke_4 (by decide) (fun q => ?_) (fun q => ?_)
  · replace h := (if_pos q).symm.trans h
    refine ww_bipush 32 X (v := (-2 : Int32)) dX13_poke_32 (by decide) ?_
    exact ww_iretE 34 X hQ dX13_poke_34 h
  · replace h := (if_neg q).symm.trans h
    refine ww_iload_n 7 X dX13_poke_7 2 rfl rfl ?_
    refine ww_if_lt 8 32 X dX13_poke_8 (by decide) (fun q => ?_) (fun q => ?_)
    · replace h := (if_pos q).symm.trans h
      refine ww_bipush 32 X (v := (-2 : Int32)) dX13_poke_32 (by decide) ?_
      exact ww_iretE 34 X hQ dX13_poke_34 h
    · replace h := (if_neg q).symm.trans h
      refine ww_iload_n 11 X dX13_poke_11 2 rfl rfl ?_
      refine ww_aload_n 12 X dX13_poke_12 0 rfl rfl ?_
      obtain ⟨v13, e13, h⟩ := bO_some h
      refine ww_getR 13 X dX13_poke_13 fG_X13_17 e13 ?_
      refine ww_iload_n 16 X dX13_poke_16 1 rfl rfl ?_
      obtain ⟨v17, e17, h⟩ := bO_some h
      refine ww_iald 17 X dX13_poke_17 e17 ?_
      refine ww_icmp_ge 18 32 X dX13_poke_18 (by decide) (fun q => ?_) (fun q => ?_)
      · replace h := (if_pos q).symm.trans h
        refine ww_bipush 32 X (v := (-2 : Int32)) dX13_poke_32 (by decide) ?_
        exact ww_iretE 34 X hQ dX13_poke_34 h
      · replace h := (if_neg q).symm.trans h
        refine ww_iload_n 21 X dX13_poke_21 3 rfl rfl ?_
        refine ww_if_lt 22 32 X dX13_poke_22 (by decide) (fun q => ?_) (fun q => ?_)
        · replace h := (if_pos q).symm.trans h
          refine ww_bipush 32 X (v := (-2 : Int32)) dX13_poke_32 (by decide) ?_
          exact ww_iretE 34 X hQ dX13_poke_34 h
        · replace h := (if_neg q).symm.trans h
          refine ww_iload_n 25 X dX13_poke_25 3 rfl rfl ?_
          refine ww_sipush 26 X (v := (255 : Int32)) dX13_poke_26 (by decide) ?_
          refine ww_icmp_le 29 35 X dX13_poke_29 (by decide) (fun q => ?_) (fun q => ?_)
          · replace h := (if_pos q).symm.trans h
            refine ww_aload_n 35 X dX13_poke_35 0 rfl rfl ?_
            obtain ⟨v36, e36, h⟩ := bO_some h
            refine ww_getR 36 X dX13_poke_36 fG_X13_14 e36 ?_
            refine ww_sipush 39 X (v := (8192 : Int32)) dX13_poke_39 (by decide) ?_
            refine ww_iload_n 42 X dX13_poke_42 1 rfl rfl ?_
            refine ww_imul 43 X dX13_poke_43 ?_
            refine ww_iload_n 44 X dX13_poke_44 2 rfl rfl ?_
            refine ww_iadd 45 X dX13_poke_45 ?_
            refine ww_dup2_11 46 X dX13_poke_46 rfl rfl ?_
            obtain ⟨v47, e47, h⟩ := bO_some h
            refine ww_bald 47 X dX13_poke_47 e47 ?_
            refine ww_iload_n 48 X dX13_poke_48 3 rfl rfl ?_
            refine ww_i2b 49 X dX13_poke_49 ?_
            refine ww_ixor 50 X dX13_poke_50 ?_
            refine ww_i2b 51 X dX13_poke_51 ?_
            obtain ⟨M52, e52, h⟩ := bO_some h
            refine ww_bast 52 X dX13_poke_52 e52 ?_
            refine ww_aload_n 53 X dX13_poke_53 0 rfl rfl ?_
            obtain ⟨v54, e54, h⟩ := bO_some h
            refine ww_getR 54 X dX13_poke_54 fG_X13_14 e54 ?_
            refine ww_sipush 57 X (v := (8192 : Int32)) dX13_poke_57 (by decide) ?_
            refine ww_iload_n 60 X dX13_poke_60 1 rfl rfl ?_
            refine ww_imul 61 X dX13_poke_61 ?_
            refine ww_iload_n 62 X dX13_poke_62 2 rfl rfl ?_
            refine ww_iadd 63 X dX13_poke_63 ?_
            obtain ⟨v64, e64, h⟩ := bO_some h
            refine ww_bald 64 X dX13_poke_64 e64 ?_
            refine ww_sipush 65 X (v := (255 : Int32)) dX13_poke_65 (by decide) ?_
            refine ww_iand 68 X dX13_poke_68 ?_
            exact ww_iretE 69 X hQ dX13_poke_69 h
          · replace h := (if_neg q).symm.trans h
            refine ww_bipush 32 X (v := (-2 : Int32)) dX13_poke_32 (by decide) ?_
            exact ww_iretE 34 X hQ dX13_poke_34 h
theorem c_X13_poke {G : mG} {F sz : Nat} {r0 : Int32} {M0 : mM} (l : Launch) (D : mD) (A : Nat → Prop) {l0 : Nat} {l1 : Int32} {l2 : Int32} {l3 : Int32} {M : mM} (h : P_X13_poke G F l0 l1 l2 l3 M = some (r0, M0)) : mMetI l D G A yX13_poke cX13_poke 4 (some .int) 1 20 0 0 [.ref l0, .int l1, .int l2, .int l3] M sz r0 M0 sz := mMetI_of l D G A (by decide) (Nat.le_of_ble_eq_true rfl) (fun x X hQ => wP_X13_poke X hQ h)
/-! SealedTokensModel.size(I)I -/
theorem dX13_size_0 : decode cX13_size 0 = .ok (.iload_n 1, 1) := by decide +kernel
theorem dX13_size_1 : decode cX13_size 1 = .ok (.iconst (-1), 1) := by decide +kernel
theorem dX13_size_2 : decode cX13_size 2 = .ok (.if_icmp .ne 10, 3) := by decide +kernel
theorem dX13_size_5 : decode cX13_size 5 = .ok (.aload_n 0, 1) := by decide +kernel
theorem dX13_size_6 : decode cX13_size 6 = .ok (.getfield 321, 3) := by decide +kernel
theorem dX13_size_9 : decode cX13_size 9 = .ok (.goto 21, 3) := by decide +kernel
theorem dX13_size_12 : decode cX13_size 12 = .ok (.iload_n 1, 1) := by decide +kernel
theorem dX13_size_13 : decode cX13_size 13 = .ok (.invokestatic 332, 3) := by decide +kernel
theorem dX13_size_16 : decode cX13_size 16 = .ok (.ifCond .eq 12, 3) := by decide +kernel
theorem dX13_size_19 : decode cX13_size 19 = .ok (.aload_n 0, 1) := by decide +kernel
theorem dX13_size_20 : decode cX13_size 20 = .ok (.getfield 17, 3) := by decide +kernel
theorem dX13_size_23 : decode cX13_size 23 = .ok (.iload_n 1, 1) := by decide +kernel
theorem dX13_size_24 : decode cX13_size 24 = .ok (.iaload, 1) := by decide +kernel
theorem dX13_size_25 : decode cX13_size 25 = .ok (.goto 5, 3) := by decide +kernel
theorem dX13_size_28 : decode cX13_size 28 = .ok (.bipush (-2), 2) := by decide +kernel
theorem dX13_size_30 : decode cX13_size 30 = .ok (.ireturn, 1) := by decide +kernel
abbrev rmX13_size : Room := { frames := 1, cells := 0, slots := 0, locals := 20 }
set_option maxHeartbeats 4000000 in
set_option maxRecDepth 100000 in
theorem wP_X13_size {G : mG} {F : Nat} {x : mXT} {sz : Nat} {r0 : Int32} {M0 : mM} (X : mCX G RX13 cX13_size 2 (some .int) "size" rmX13_size x) (hQ : mQI x r0 M0 (sz, 0, 0)) {l0 : Nat} {l1 : Int32} {M : mM} (h : P_X13_size G F l0 l1 M = some (r0, M0)) : WW x (sz, 0, 0) M 0 [(0, .ref l0), (1, .int l1)] [] := by
  unfold P_X13_size at h
  refine ww_iload_n 0 X dX13_size_0 1 rfl rfl ?_
  refine ww_iconst 1 X (v := (-1 : Int32)) dX13_size_1 (by decide) ?_
  refine ww_icmp_ne 2 12 X dX13_size_2 (by decide) (fun q => ?_) (fun q => ?_)
  · replace h := (if_neg q).symm.trans h
    refine ww_iload_n 12 X dX13_size_12 1 rfl rfl ?_
    obtain ⟨v13, M13, e13, h⟩ := bP_some h
    refine ww_callSI0 13 X dX13_size_13 mY_X13_isRow mL_X13_332 (As := [.int l1]) (rest := []) rfl rfl ⟨Nat.le_of_ble_eq_true rfl, Nat.le_of_ble_eq_true rfl⟩ (Nat.le_of_ble_eq_true rfl) (fun l D A => c_X13_isRow l D A e13) ?_
    refine ww_if_eq 16 28 X dX13_size_16 (by decide) (fun q => ?_) (fun q => ?_)
    · replace h := (if_pos q).symm.trans h
      refine ww_bipush 28 X (v := (-2 : Int32)) dX13_size_28 (by decide) ?_
      exact ww_iretE 30 X hQ dX13_size_30 h
    · replace h := (if_neg q).symm.trans h
      refine ww_aload_n 19 X dX13_size_19 0 rfl rfl ?_
      obtain ⟨v20, e20, h⟩ := bO_some h
      refine ww_getR 20 X dX13_size_20 fG_X13_17 e20 ?_
      refine ww_iload_n 23 X dX13_size_23 1 rfl rfl ?_
      obtain ⟨v24, e24, h⟩ := bO_some h
      refine ww_iald 24 X dX13_size_24 e24 ?_
      refine ww_goto 25 30 X dX13_size_25 (by decide) ?_
      exact ww_iretE 30 X hQ dX13_size_30 h
  · replace h := (if_pos q).symm.trans h
    refine ww_aload_n 5 X dX13_size_5 0 rfl rfl ?_
    obtain ⟨v6, e6, h⟩ := bO_some h
    refine ww_getI 6 X dX13_size_6 fG_X13_321 e6 ?_
    refine ww_goto 9 30 X dX13_size_9 (by decide) ?_
    exact ww_iretE 30 X hQ dX13_size_30 h
theorem c_X13_size {G : mG} {F sz : Nat} {r0 : Int32} {M0 : mM} (l : Launch) (D : mD) (A : Nat → Prop) {l0 : Nat} {l1 : Int32} {M : mM} (h : P_X13_size G F l0 l1 M = some (r0, M0)) : mMetI l D G A yX13_size cX13_size 2 (some .int) 1 20 0 0 [.ref l0, .int l1] M sz r0 M0 sz := mMetI_of l D G A (by decide) (Nat.le_of_ble_eq_true rfl) (fun x X hQ => wP_X13_size X hQ h)
/-! SealedTokensModel.out(I)I -/
theorem dX13_out_0 : decode cX13_out 0 = .ok (.iload_n 1, 1) := by decide +kernel
theorem dX13_out_1 : decode cX13_out 1 = .ok (.ifCond .lt 11, 3) := by decide +kernel
theorem dX13_out_4 : decode cX13_out 4 = .ok (.iload_n 1, 1) := by decide +kernel
theorem dX13_out_5 : decode cX13_out 5 = .ok (.aload_n 0, 1) := by decide +kernel
theorem dX13_out_6 : decode cX13_out 6 = .ok (.getfield 321, 3) := by decide +kernel
theorem dX13_out_9 : decode cX13_out 9 = .ok (.if_icmp .lt 7, 3) := by decide +kernel
theorem dX13_out_12 : decode cX13_out 12 = .ok (.iconst (-1), 1) := by decide +kernel
theorem dX13_out_13 : decode cX13_out 13 = .ok (.goto 13, 3) := by decide +kernel
theorem dX13_out_16 : decode cX13_out 16 = .ok (.aload_n 0, 1) := by decide +kernel
theorem dX13_out_17 : decode cX13_out 17 = .ok (.getfield 21, 3) := by decide +kernel
theorem dX13_out_20 : decode cX13_out 20 = .ok (.iload_n 1, 1) := by decide +kernel
theorem dX13_out_21 : decode cX13_out 21 = .ok (.baload, 1) := by decide +kernel
theorem dX13_out_22 : decode cX13_out 22 = .ok (.sipush 255, 3) := by decide +kernel
theorem dX13_out_25 : decode cX13_out 25 = .ok (.iand, 1) := by decide +kernel
theorem dX13_out_26 : decode cX13_out 26 = .ok (.ireturn, 1) := by decide +kernel
abbrev rmX13_out : Room := { frames := 0, cells := 0, slots := 0, locals := 0 }
set_option maxHeartbeats 4000000 in
set_option maxRecDepth 100000 in
theorem wP_X13_out {G : mG} {F : Nat} {x : mXT} {sz : Nat} {r0 : Int32} {M0 : mM} (X : mCX G RX13 cX13_out 2 (some .int) "out" rmX13_out x) (hQ : mQI x r0 M0 (sz, 0, 0)) {l0 : Nat} {l1 : Int32} {M : mM} (h : P_X13_out G F l0 l1 M = some (r0, M0)) : WW x (sz, 0, 0) M 0 [(0, .ref l0), (1, .int l1)] [] := by
  unfold P_X13_out at h
  refine ww_iload_n 0 X dX13_out_0 1 rfl rfl ?_
  refine ww_if_lt 1 12 X dX13_out_1 (by decide) (fun q => ?_) (fun q => ?_)
  · replace h := (if_pos q).symm.trans h
    refine ww_iconst 12 X (v := (-1 : Int32)) dX13_out_12 (by decide) ?_
    refine ww_goto 13 26 X dX13_out_13 (by decide) ?_
    exact ww_iretE 26 X hQ dX13_out_26 h
  · replace h := (if_neg q).symm.trans h
    refine ww_iload_n 4 X dX13_out_4 1 rfl rfl ?_
    refine ww_aload_n 5 X dX13_out_5 0 rfl rfl ?_
    obtain ⟨v6, e6, h⟩ := bO_some h
    refine ww_getI 6 X dX13_out_6 fG_X13_321 e6 ?_
    refine ww_icmp_lt 9 16 X dX13_out_9 (by decide) (fun q => ?_) (fun q => ?_)
    · replace h := (if_pos q).symm.trans h
      refine ww_aload_n 16 X dX13_out_16 0 rfl rfl ?_
      obtain ⟨v17, e17, h⟩ := bO_some h
      refine ww_getR 17 X dX13_out_17 fG_X13_21 e17 ?_
      refine ww_iload_n 20 X dX13_out_20 1 rfl rfl ?_
      obtain ⟨v21, e21, h⟩ := bO_some h
      refine ww_bald 21 X dX13_out_21 e21 ?_
      refine ww_sipush 22 X (v := (255 : Int32)) dX13_out_22 (by decide) ?_
      refine ww_iand 25 X dX13_out_25 ?_
      exact ww_iretE 26 X hQ dX13_out_26 h
    · replace h := (if_neg q).symm.trans h
      refine ww_iconst 12 X (v := (-1 : Int32)) dX13_out_12 (by decide) ?_
      refine ww_goto 13 26 X dX13_out_13 (by decide) ?_
      exact ww_iretE 26 X hQ dX13_out_26 h
theorem c_X13_out {G : mG} {F sz : Nat} {r0 : Int32} {M0 : mM} (l : Launch) (D : mD) (A : Nat → Prop) {l0 : Nat} {l1 : Int32} {M : mM} (h : P_X13_out G F l0 l1 M = some (r0, M0)) : mMetI l D G A yX13_out cX13_out 2 (some .int) 0 0 0 0 [.ref l0, .int l1] M sz r0 M0 sz := mMetI_of l D G A (by decide) (Nat.le_of_ble_eq_true rfl) (fun x X hQ => wP_X13_out X hQ h)
/-! SealedTokensModel.at()I -/
theorem dX13_at_0 : decode cX13_at 0 = .ok (.aload_n 0, 1) := by decide +kernel
theorem dX13_at_1 : decode cX13_at 1 = .ok (.getfield 336, 3) := by decide +kernel
theorem dX13_at_4 : decode cX13_at 4 = .ok (.aload_n 0, 1) := by decide +kernel
theorem dX13_at_5 : decode cX13_at 5 = .ok (.getfield 339, 3) := by decide +kernel
theorem dX13_at_8 : decode cX13_at 8 = .ok (.if_icmp .ge 24, 3) := by decide +kernel
theorem dX13_at_11 : decode cX13_at 11 = .ok (.aload_n 0, 1) := by decide +kernel
theorem dX13_at_12 : decode cX13_at 12 = .ok (.getfield 342, 3) := by decide +kernel
theorem dX13_at_15 : decode cX13_at 15 = .ok (.aload_n 0, 1) := by decide +kernel
theorem dX13_at_16 : decode cX13_at 16 = .ok (.getfield 345, 3) := by decide +kernel
theorem dX13_at_19 : decode cX13_at 19 = .ok (.aload_n 0, 1) := by decide +kernel
theorem dX13_at_20 : decode cX13_at 20 = .ok (.getfield 336, 3) := by decide +kernel
theorem dX13_at_23 : decode cX13_at 23 = .ok (.iadd, 1) := by decide +kernel
theorem dX13_at_24 : decode cX13_at 24 = .ok (.baload, 1) := by decide +kernel
theorem dX13_at_25 : decode cX13_at 25 = .ok (.sipush 255, 3) := by decide +kernel
theorem dX13_at_28 : decode cX13_at 28 = .ok (.iand, 1) := by decide +kernel
theorem dX13_at_29 : decode cX13_at 29 = .ok (.goto 4, 3) := by decide +kernel
theorem dX13_at_32 : decode cX13_at 32 = .ok (.iconst (-1), 1) := by decide +kernel
theorem dX13_at_33 : decode cX13_at 33 = .ok (.ireturn, 1) := by decide +kernel
abbrev rmX13_at : Room := { frames := 0, cells := 0, slots := 0, locals := 0 }
set_option maxHeartbeats 4000000 in
set_option maxRecDepth 100000 in
theorem wP_X13_at {G : mG} {F : Nat} {x : mXT} {sz : Nat} {r0 : Int32} {M0 : mM} (X : mCX G RX13 cX13_at 1 (some .int) "at" rmX13_at x) (hQ : mQI x r0 M0 (sz, 0, 0)) {l0 : Nat} {M : mM} (h : P_X13_at G F l0 M = some (r0, M0)) : WW x (sz, 0, 0) M 0 [(0, .ref l0)] [] := by
  unfold P_X13_at at h
  refine ww_aload_n 0 X dX13_at_0 0 rfl rfl ?_
  obtain ⟨v1, e1, h⟩ := bO_some h
  refine ww_getI 1 X dX13_at_1 fG_X13_336 e1 ?_
  refine ww_aload_n 4 X dX13_at_4 0 rfl rfl ?_
  obtain ⟨v5, e5, h⟩ := bO_some h
  refine ww_getI 5 X dX13_at_5 fG_X13_339 e5 ?_
  refine ww_icmp_ge 8 32 X dX13_at_8 (by decide) (fun q => ?_) (fun q => ?_)
  · replace h := (if_pos q).symm.trans h
    refine ww_iconst 32 X (v := (-1 : Int32)) dX13_at_32 (by decide) ?_
    exact ww_iretE 33 X hQ dX13_at_33 h
  · replace h := (if_neg q).symm.trans h
    refine ww_aload_n 11 X dX13_at_11 0 rfl rfl ?_
    obtain ⟨v12, e12, h⟩ := bO_some h
    refine ww_getR 12 X dX13_at_12 fG_X13_342 e12 ?_
    refine ww_aload_n 15 X dX13_at_15 0 rfl rfl ?_
    obtain ⟨v16, e16, h⟩ := bO_some h
    refine ww_getI 16 X dX13_at_16 fG_X13_345 e16 ?_
    refine ww_aload_n 19 X dX13_at_19 0 rfl rfl ?_
    obtain ⟨v20, e20, h⟩ := bO_some h
    refine ww_getI 20 X dX13_at_20 fG_X13_336 e20 ?_
    refine ww_iadd 23 X dX13_at_23 ?_
    obtain ⟨v24, e24, h⟩ := bO_some h
    refine ww_bald 24 X dX13_at_24 e24 ?_
    refine ww_sipush 25 X (v := (255 : Int32)) dX13_at_25 (by decide) ?_
    refine ww_iand 28 X dX13_at_28 ?_
    refine ww_goto 29 33 X dX13_at_29 (by decide) ?_
    exact ww_iretE 33 X hQ dX13_at_33 h
theorem c_X13_at {G : mG} {F sz : Nat} {r0 : Int32} {M0 : mM} (l : Launch) (D : mD) (A : Nat → Prop) {l0 : Nat} {M : mM} (h : P_X13_at G F l0 M = some (r0, M0)) : mMetI l D G A yX13_at cX13_at 1 (some .int) 0 0 0 0 [.ref l0] M sz r0 M0 sz := mMetI_of l D G A (by decide) (Nat.le_of_ble_eq_true rfl) (fun x X hQ => wP_X13_at X hQ h)
/-! SealedTokensModel.fail(I)V -/
theorem dX13_fail_0 : decode cX13_fail 0 = .ok (.aload_n 0, 1) := by decide +kernel
theorem dX13_fail_1 : decode cX13_fail 1 = .ok (.aload_n 0, 1) := by decide +kernel
theorem dX13_fail_2 : decode cX13_fail 2 = .ok (.getfield 348, 3) := by decide +kernel
theorem dX13_fail_5 : decode cX13_fail 5 = .ok (.ifCond .ge 7, 3) := by decide +kernel
theorem dX13_fail_8 : decode cX13_fail 8 = .ok (.iload_n 1, 1) := by decide +kernel
theorem dX13_fail_9 : decode cX13_fail 9 = .ok (.goto 7, 3) := by decide +kernel
theorem dX13_fail_12 : decode cX13_fail 12 = .ok (.aload_n 0, 1) := by decide +kernel
theorem dX13_fail_13 : decode cX13_fail 13 = .ok (.getfield 348, 3) := by decide +kernel
theorem dX13_fail_16 : decode cX13_fail 16 = .ok (.putfield 348, 3) := by decide +kernel
theorem dX13_fail_19 : decode cX13_fail 19 = .ok (.return_, 1) := by decide +kernel
abbrev rmX13_fail : Room := { frames := 0, cells := 0, slots := 0, locals := 0 }
set_option maxHeartbeats 4000000 in
set_option maxRecDepth 100000 in
theorem wP_X13_fail {G : mG} {F : Nat} {x : mXT} {sz : Nat} {M0 : mM} (X : mCX G RX13 cX13_fail 2 none "fail" rmX13_fail x) (hQ : mQV x M0 (sz, 0, 0)) {l0 : Nat} {l1 : Int32} {M : mM} (h : P_X13_fail G F l0 l1 M = some M0) : WW x (sz, 0, 0) M 0 [(0, .ref l0), (1, .int l1)] [] := by
  unfold P_X13_fail at h
  refine ww_aload_n 0 X dX13_fail_0 0 rfl rfl ?_
  refine ww_aload_n 1 X dX13_fail_1 0 rfl rfl ?_
  obtain ⟨v2, e2, h⟩ := bO_some h
  refine ww_getI 2 X dX13_fail_2 fG_X13_348 e2 ?_
  refine ww_if_ge 5 12 X dX13_fail_5 (by decide) (fun q => ?_) (fun q => ?_)
  · replace h := (if_pos q).symm.trans h
    refine ww_aload_n 12 X dX13_fail_12 0 rfl rfl ?_
    obtain ⟨v13, e13, h⟩ := bO_some h
    refine ww_getI 13 X dX13_fail_13 fG_X13_348 e13 ?_
    obtain ⟨M16, e16, h⟩ := bO_some h
    refine ww_putI 16 X dX13_fail_16 (fP_X13_348 _) e16 ?_
    exact ww_vretE 19 X hQ dX13_fail_19 h
  · replace h := (if_neg q).symm.trans h
    refine ww_iload_n 8 X dX13_fail_8 1 rfl rfl ?_
    refine ww_goto 9 16 X dX13_fail_9 (by decide) ?_
    obtain ⟨M16, e16, h⟩ := bO_some h
    refine ww_putI 16 X dX13_fail_16 (fP_X13_348 _) e16 ?_
    exact ww_vretE 19 X hQ dX13_fail_19 h
theorem c_X13_fail {G : mG} {F sz : Nat} {M0 : mM} (l : Launch) (D : mD) (A : Nat → Prop) {l0 : Nat} {l1 : Int32} {M : mM} (h : P_X13_fail G F l0 l1 M = some M0) : mMetV l D G A yX13_fail cX13_fail 2 none 0 0 0 0 [.ref l0, .int l1] M sz M0 sz := mMetV_of l D G A (by decide) (Nat.le_of_ble_eq_true rfl) (fun x X hQ => wP_X13_fail X hQ h)
/-! SealedTokensModel.good()Z -/
theorem dX13_good_0 : decode cX13_good 0 = .ok (.aload_n 0, 1) := by decide +kernel
theorem dX13_good_1 : decode cX13_good 1 = .ok (.getfield 348, 3) := by decide +kernel
theorem dX13_good_4 : decode cX13_good 4 = .ok (.ifCond .ge 7, 3) := by decide +kernel
theorem dX13_good_7 : decode cX13_good 7 = .ok (.iconst 1, 1) := by decide +kernel
theorem dX13_good_8 : decode cX13_good 8 = .ok (.goto 4, 3) := by decide +kernel
theorem dX13_good_11 : decode cX13_good 11 = .ok (.iconst 0, 1) := by decide +kernel
theorem dX13_good_12 : decode cX13_good 12 = .ok (.ireturn, 1) := by decide +kernel
abbrev rmX13_good : Room := { frames := 0, cells := 0, slots := 0, locals := 0 }
set_option maxHeartbeats 4000000 in
set_option maxRecDepth 100000 in
theorem wP_X13_good {G : mG} {F : Nat} {x : mXT} {sz : Nat} {r0 : Int32} {M0 : mM} (X : mCX G RX13 cX13_good 1 (some .boolean) "good" rmX13_good x) (hQ : mQI x r0 M0 (sz, 0, 0)) {l0 : Nat} {M : mM} (h : P_X13_good G F l0 M = some (r0, M0)) : WW x (sz, 0, 0) M 0 [(0, .ref l0)] [] := by
  unfold P_X13_good at h
  refine ww_aload_n 0 X dX13_good_0 0 rfl rfl ?_
  obtain ⟨v1, e1, h⟩ := bO_some h
  refine ww_getI 1 X dX13_good_1 fG_X13_348 e1 ?_
  refine ww_if_ge 4 11 X dX13_good_4 (by decide) (fun q => ?_) (fun q => ?_)
  · replace h := (if_pos q).symm.trans h
    refine ww_iconst 11 X (v := (0 : Int32)) dX13_good_11 (by decide) ?_
    exact ww_zretE 12 X hQ dX13_good_12 h
  · replace h := (if_neg q).symm.trans h
    refine ww_iconst 7 X (v := (1 : Int32)) dX13_good_7 (by decide) ?_
    refine ww_goto 8 12 X dX13_good_8 (by decide) ?_
    exact ww_zretE 12 X hQ dX13_good_12 h
theorem c_X13_good {G : mG} {F sz : Nat} {r0 : Int32} {M0 : mM} (l : Launch) (D : mD) (A : Nat → Prop) {l0 : Nat} {M : mM} (h : P_X13_good G F l0 M = some (r0, M0)) : mMetI l D G A yX13_good cX13_good 1 (some .boolean) 0 0 0 0 [.ref l0] M sz r0 M0 sz := mMetI_of l D G A (by decide) (Nat.le_of_ble_eq_true rfl) (fun x X hQ => wP_X13_good X hQ h)
/-! SealedTokensModel.blanks()V -/
theorem dX13_blanks_0 : decode cX13_blanks 0 = .ok (.aload_n 0, 1) := by decide +kernel
theorem dX13_blanks_1 : decode cX13_blanks 1 = .ok (.invokevirtual 351, 3) := by decide +kernel
theorem dX13_blanks_4 : decode cX13_blanks 4 = .ok (.bipush 32, 2) := by decide +kernel
theorem dX13_blanks_6 : decode cX13_blanks 6 = .ok (.if_icmp .eq 30, 3) := by decide +kernel
theorem dX13_blanks_9 : decode cX13_blanks 9 = .ok (.aload_n 0, 1) := by decide +kernel
theorem dX13_blanks_10 : decode cX13_blanks 10 = .ok (.invokevirtual 351, 3) := by decide +kernel
theorem dX13_blanks_13 : decode cX13_blanks 13 = .ok (.bipush 9, 2) := by decide +kernel
theorem dX13_blanks_15 : decode cX13_blanks 15 = .ok (.if_icmp .eq 21, 3) := by decide +kernel
theorem dX13_blanks_18 : decode cX13_blanks 18 = .ok (.aload_n 0, 1) := by decide +kernel
theorem dX13_blanks_19 : decode cX13_blanks 19 = .ok (.invokevirtual 351, 3) := by decide +kernel
theorem dX13_blanks_22 : decode cX13_blanks 22 = .ok (.bipush 10, 2) := by decide +kernel
theorem dX13_blanks_24 : decode cX13_blanks 24 = .ok (.if_icmp .eq 12, 3) := by decide +kernel
theorem dX13_blanks_27 : decode cX13_blanks 27 = .ok (.aload_n 0, 1) := by decide +kernel
theorem dX13_blanks_28 : decode cX13_blanks 28 = .ok (.invokevirtual 351, 3) := by decide +kernel
theorem dX13_blanks_31 : decode cX13_blanks 31 = .ok (.bipush 13, 2) := by decide +kernel
theorem dX13_blanks_33 : decode cX13_blanks 33 = .ok (.if_icmp .ne 16, 3) := by decide +kernel
theorem dX13_blanks_36 : decode cX13_blanks 36 = .ok (.aload_n 0, 1) := by decide +kernel
theorem dX13_blanks_37 : decode cX13_blanks 37 = .ok (.dup, 1) := by decide +kernel
theorem dX13_blanks_38 : decode cX13_blanks 38 = .ok (.getfield 336, 3) := by decide +kernel
theorem dX13_blanks_41 : decode cX13_blanks 41 = .ok (.iconst 1, 1) := by decide +kernel
theorem dX13_blanks_42 : decode cX13_blanks 42 = .ok (.iadd, 1) := by decide +kernel
theorem dX13_blanks_43 : decode cX13_blanks 43 = .ok (.putfield 336, 3) := by decide +kernel
theorem dX13_blanks_46 : decode cX13_blanks 46 = .ok (.goto (-46), 3) := by decide +kernel
theorem dX13_blanks_49 : decode cX13_blanks 49 = .ok (.return_, 1) := by decide +kernel
abbrev rmX13_blanks : Room := { frames := 1, cells := 0, slots := 0, locals := 20 }
set_option maxHeartbeats 4000000 in
set_option maxRecDepth 100000 in
theorem wB_X13_blanks_0 {G : mG} {F : Nat} {x : mXT} {sz : Nat} {M0 : mM} (X : mCX G RX13 cX13_blanks 1 none "blanks" rmX13_blanks x) (hQ : mQV x M0 (sz, 0, 0)) : ∀ (n : Nat) (l0 : Nat) (M : mM), B_X13_blanks_0 G F n l0 M = some M0 → WW x (sz, 0, 0) M 0 [(0, .ref l0)] [] := by
  intro n
  induction n with
  | zero =>
    intro l0 M h
    exact nomatch (show (none : Option mM) = some M0 from h)
  | succ n ih =>
    intro l0 M h
    rw [B_X13_blanks_0] at h
    refine ww_aload_n 0 X dX13_blanks_0 0 rfl rfl ?_
    obtain ⟨_, f1, h⟩ := bO_some h
    obtain ⟨v1, M1, e1, h⟩ := bP_some h
    refine ww_callVI0 1 X dX13_blanks_1 mY_X13_at mL_X13_351 (rcv_spec f1) ⟨_, _, rfl⟩ (by decide) (As := []) (rest := []) rfl rfl ⟨Nat.le_of_ble_eq_true rfl, Nat.le_of_ble_eq_true rfl⟩ (Nat.le_of_ble_eq_true rfl) (fun l D A => c_X13_at l D A e1) ?_
    refine ww_bipush 4 X (v := (32 : Int32)) dX13_blanks_4 (by decide) ?_
    refine ww_icmp_eq 6 36 X dX13_blanks_6 (by decide) (fun q => ?_) (fun q => ?_)
    · replace h := (if_pos q).symm.trans h
      refine ww_aload_n 36 X dX13_blanks_36 0 rfl rfl ?_
      refine ww_dup 37 X dX13_blanks_37 rfl ?_
      obtain ⟨v38, e38, h⟩ := bO_some h
      refine ww_getI 38 X dX13_blanks_38 fG_X13_336 e38 ?_
      refine ww_iconst 41 X (v := (1 : Int32)) dX13_blanks_41 (by decide) ?_
      refine ww_iadd 42 X dX13_blanks_42 ?_
      obtain ⟨M43, e43, h⟩ := bO_some h
      refine ww_putI 43 X dX13_blanks_43 (fP_X13_336 _) e43 ?_
      refine ww_goto 46 0 X dX13_blanks_46 (by decide) ?_
      exact (ih _ _ h)
    · replace h := (if_neg q).symm.trans h
      refine ww_aload_n 9 X dX13_blanks_9 0 rfl rfl ?_
      obtain ⟨_, f10, h⟩ := bO_some h
      obtain ⟨v10, M10, e10, h⟩ := bP_some h
      refine ww_callVI0 10 X dX13_blanks_10 mY_X13_at mL_X13_351 (rcv_spec f10) ⟨_, _, rfl⟩ (by decide) (As := []) (rest := []) rfl rfl ⟨Nat.le_of_ble_eq_true rfl, Nat.le_of_ble_eq_true rfl⟩ (Nat.le_of_ble_eq_true rfl) (fun l D A => c_X13_at l D A e10) ?_
      refine ww_bipush 13 X (v := (9 : Int32)) dX13_blanks_13 (by decide) ?_
      refine ww_icmp_eq 15 36 X dX13_blanks_15 (by decide) (fun q => ?_) (fun q => ?_)
      · replace h := (if_pos q).symm.trans h
        refine ww_aload_n 36 X dX13_blanks_36 0 rfl rfl ?_
        refine ww_dup 37 X dX13_blanks_37 rfl ?_
        obtain ⟨v38, e38, h⟩ := bO_some h
        refine ww_getI 38 X dX13_blanks_38 fG_X13_336 e38 ?_
        refine ww_iconst 41 X (v := (1 : Int32)) dX13_blanks_41 (by decide) ?_
        refine ww_iadd 42 X dX13_blanks_42 ?_
        obtain ⟨M43, e43, h⟩ := bO_some h
        refine ww_putI 43 X dX13_blanks_43 (fP_X13_336 _) e43 ?_
        refine ww_goto 46 0 X dX13_blanks_46 (by decide) ?_
        exact (ih _ _ h)
      · replace h := (if_neg q).symm.trans h
        refine ww_aload_n 18 X dX13_blanks_18 0 rfl rfl ?_
        obtain ⟨_, f19, h⟩ := bO_some h
        obtain ⟨v19, M19, e19, h⟩ := bP_some h
        refine ww_callVI0 19 X dX13_blanks_19 mY_X13_at mL_X13_351 (rcv_spec f19) ⟨_, _, rfl⟩ (by decide) (As := []) (rest := []) rfl rfl ⟨Nat.le_of_ble_eq_true rfl, Nat.le_of_ble_eq_true rfl⟩ (Nat.le_of_ble_eq_true rfl) (fun l D A => c_X13_at l D A e19) ?_
        refine ww_bipush 22 X (v := (10 : Int32)) dX13_blanks_22 (by decide) ?_
        refine ww_icmp_eq 24 36 X dX13_blanks_24 (by decide) (fun q => ?_) (fun q => ?_)
        · replace h := (if_pos q).symm.trans h
          refine ww_aload_n 36 X dX13_blanks_36 0 rfl rfl ?_
          refine ww_dup 37 X dX13_blanks_37 rfl ?_
          obtain ⟨v38, e38, h⟩ := bO_some h
          refine ww_getI 38 X dX13_blanks_38 fG_X13_336 e38 ?_
          refine ww_iconst 41 X (v := (1 : Int32)) dX13_blanks_41 (by decide) ?_
          refine ww_iadd 42 X dX13_blanks_42 ?_
          obtain ⟨M43, e43, h⟩ := bO_some h
          refine ww_putI 43 X dX13_blanks_43 (fP_X13_336 _) e43 ?_
          refine ww_goto 46 0 X dX13_blanks_46 (by decide) ?_
          exact (ih _ _ h)
        · replace h := (if_neg q).symm.trans h
          refine ww_aload_n 27 X dX13_blanks_27 0 rfl rfl ?_
          obtain ⟨_, f28, h⟩ := bO_some h
          obtain ⟨v28, M28, e28, h⟩ := bP_some h
          refine ww_callVI0 28 X dX13_blanks_28 mY_X13_at mL_X13_351 (rcv_spec f28) ⟨_, _, rfl⟩ (by decide) (As := []) (rest := []) rfl rfl ⟨Nat.le_of_ble_eq_true rfl, Nat.le_of_ble_eq_true rfl⟩ (Nat.le_of_ble_eq_true rfl) (fun l D A => c_X13_at l D A e28) ?_
          refine ww_bipush 31 X (v := (13 : Int32)) dX13_blanks_31 (by decide) ?_
          refine ww_icmp_ne 33 49 X dX13_blanks_33 (by decide) (fun q => ?_) (fun q => ?_)
          · replace h := (if_neg q).symm.trans h
            exact ww_vretE 49 X hQ dX13_blanks_49 h
          · replace h := (if_pos q).symm.trans h
            refine ww_aload_n 36 X dX13_blanks_36 0 rfl rfl ?_
            refine ww_dup 37 X dX13_blanks_37 rfl ?_
            obtain ⟨v38, e38, h⟩ := bO_some h
            refine ww_getI 38 X dX13_blanks_38 fG_X13_336 e38 ?_
            refine ww_iconst 41 X (v := (1 : Int32)) dX13_blanks_41 (by decide) ?_
            refine ww_iadd 42 X dX13_blanks_42 ?_
            obtain ⟨M43, e43, h⟩ := bO_some h
            refine ww_putI 43 X dX13_blanks_43 (fP_X13_336 _) e43 ?_
            refine ww_goto 46 0 X dX13_blanks_46 (by decide) ?_
            exact (ih _ _ h)
theorem c_X13_blanks {G : mG} {F sz : Nat} {M0 : mM} (l : Launch) (D : mD) (A : Nat → Prop) {l0 : Nat} {M : mM} (h : P_X13_blanks G F l0 M = some M0) : mMetV l D G A yX13_blanks cX13_blanks 1 none 1 20 0 0 [.ref l0] M sz M0 sz := mMetV_of l D G A (by decide) (Nat.le_of_ble_eq_true rfl) (fun x X hQ => wB_X13_blanks_0 X hQ F _ _ h)
/-! SealedTokensModel.keep8(I)V -/
theorem dX13_keep8_0 : decode cX13_keep8 0 = .ok (.aload_n 0, 1) := by decide +kernel
theorem dX13_keep8_1 : decode cX13_keep8 1 = .ok (.getfield 51, 3) := by decide +kernel
theorem dX13_keep8_4 : decode cX13_keep8 4 = .ok (.aload_n 0, 1) := by decide +kernel
theorem dX13_keep8_5 : decode cX13_keep8 5 = .ok (.getfield 358, 3) := by decide +kernel
theorem dX13_keep8_8 : decode cX13_keep8 8 = .ok (.iload_n 1, 1) := by decide +kernel
theorem dX13_keep8_9 : decode cX13_keep8 9 = .ok (.i2b, 1) := by decide +kernel
theorem dX13_keep8_10 : decode cX13_keep8 10 = .ok (.bastore, 1) := by decide +kernel
theorem dX13_keep8_11 : decode cX13_keep8 11 = .ok (.aload_n 0, 1) := by decide +kernel
theorem dX13_keep8_12 : decode cX13_keep8 12 = .ok (.dup, 1) := by decide +kernel
theorem dX13_keep8_13 : decode cX13_keep8 13 = .ok (.getfield 358, 3) := by decide +kernel
theorem dX13_keep8_16 : decode cX13_keep8 16 = .ok (.iconst 1, 1) := by decide +kernel
theorem dX13_keep8_17 : decode cX13_keep8 17 = .ok (.iadd, 1) := by decide +kernel
theorem dX13_keep8_18 : decode cX13_keep8 18 = .ok (.putfield 358, 3) := by decide +kernel
theorem dX13_keep8_21 : decode cX13_keep8 21 = .ok (.return_, 1) := by decide +kernel
abbrev rmX13_keep8 : Room := { frames := 0, cells := 0, slots := 0, locals := 0 }
set_option maxHeartbeats 4000000 in
set_option maxRecDepth 100000 in
theorem wP_X13_keep8 {G : mG} {F : Nat} {x : mXT} {sz : Nat} {M0 : mM} (X : mCX G RX13 cX13_keep8 2 none "keep8" rmX13_keep8 x) (hQ : mQV x M0 (sz, 0, 0)) {l0 : Nat} {l1 : Int32} {M : mM} (h : P_X13_keep8 G F l0 l1 M = some M0) : WW x (sz, 0, 0) M 0 [(0, .ref l0), (1, .int l1)] [] := by
  unfold P_X13_keep8 at h
  refine ww_aload_n 0 X dX13_keep8_0 0 rfl rfl ?_
  obtain ⟨v1, e1, h⟩ := bO_some h
  refine ww_getR 1 X dX13_keep8_1 fG_X13_51 e1 ?_
  refine ww_aload_n 4 X dX13_keep8_4 0 rfl rfl ?_
  obtain ⟨v5, e5, h⟩ := bO_some h
  refine ww_getI 5 X dX13_keep8_5 fG_X13_358 e5 ?_
  refine ww_iload_n 8 X dX13_keep8_8 1 rfl rfl ?_
  refine ww_i2b 9 X dX13_keep8_9 ?_
  obtain ⟨M10, e10, h⟩ := bO_some h
  refine ww_bast 10 X dX13_keep8_10 e10 ?_
  refine ww_aload_n 11 X dX13_keep8_11 0 rfl rfl ?_
  refine ww_dup 12 X dX13_keep8_12 rfl ?_
  obtain ⟨v13, e13, h⟩ := bO_some h
  refine ww_getI 13 X dX13_keep8_13 fG_X13_358 e13 ?_
  refine ww_iconst 16 X (v := (1 : Int32)) dX13_keep8_16 (by decide) ?_
  refine ww_iadd 17 X dX13_keep8_17 ?_
  obtain ⟨M18, e18, h⟩ := bO_some h
  refine ww_putI 18 X dX13_keep8_18 (fP_X13_358 _) e18 ?_
  exact ww_vretE 21 X hQ dX13_keep8_21 h
theorem c_X13_keep8 {G : mG} {F sz : Nat} {M0 : mM} (l : Launch) (D : mD) (A : Nat → Prop) {l0 : Nat} {l1 : Int32} {M : mM} (h : P_X13_keep8 G F l0 l1 M = some M0) : mMetV l D G A yX13_keep8 cX13_keep8 2 none 0 0 0 0 [.ref l0, .int l1] M sz M0 sz := mMetV_of l D G A (by decide) (Nat.le_of_ble_eq_true rfl) (fun x X hQ => wP_X13_keep8 X hQ h)
/-! SealedTokensModel.four(Z)I -/
theorem dX13_four_0 : decode cX13_four 0 = .ok (.iconst 0, 1) := by decide +kernel
theorem dX13_four_1 : decode cX13_four 1 = .ok (.istore_n 2, 1) := by decide +kernel
theorem dX13_four_2 : decode cX13_four 2 = .ok (.iconst 0, 1) := by decide +kernel
theorem dX13_four_3 : decode cX13_four 3 = .ok (.istore_n 3, 1) := by decide +kernel
theorem dX13_four_4 : decode cX13_four 4 = .ok (.iload_n 3, 1) := by decide +kernel
theorem dX13_four_5 : decode cX13_four 5 = .ok (.iconst 4, 1) := by decide +kernel
theorem dX13_four_6 : decode cX13_four 6 = .ok (.if_icmp .ge 120, 3) := by decide +kernel
theorem dX13_four_9 : decode cX13_four 9 = .ok (.aload_n 0, 1) := by decide +kernel
theorem dX13_four_10 : decode cX13_four 10 = .ok (.invokevirtual 371, 3) := by decide +kernel
theorem dX13_four_13 : decode cX13_four 13 = .ok (.ifCond .eq 113, 3) := by decide +kernel
theorem dX13_four_16 : decode cX13_four 16 = .ok (.aload_n 0, 1) := by decide +kernel
theorem dX13_four_17 : decode cX13_four 17 = .ok (.invokevirtual 351, 3) := by decide +kernel
theorem dX13_four_20 : decode cX13_four 20 = .ok (.invokestatic 446, 3) := by decide +kernel
theorem dX13_four_23 : decode cX13_four 23 = .ok (.istore 4, 2) := by decide +kernel
theorem dX13_four_25 : decode cX13_four 25 = .ok (.iload 4, 2) := by decide +kernel
theorem dX13_four_27 : decode cX13_four 27 = .ok (.ifCond .lt 52, 3) := by decide +kernel
theorem dX13_four_30 : decode cX13_four 30 = .ok (.iload_n 1, 1) := by decide +kernel
theorem dX13_four_31 : decode cX13_four 31 = .ok (.ifCond .eq 26, 3) := by decide +kernel
theorem dX13_four_34 : decode cX13_four 34 = .ok (.iload_n 3, 1) := by decide +kernel
theorem dX13_four_35 : decode cX13_four 35 = .ok (.ifCond .ne 10, 3) := by decide +kernel
theorem dX13_four_38 : decode cX13_four 38 = .ok (.iload 4, 2) := by decide +kernel
theorem dX13_four_40 : decode cX13_four 40 = .ok (.bipush 13, 2) := by decide +kernel
theorem dX13_four_42 : decode cX13_four 42 = .ok (.if_icmp .ne 37, 3) := by decide +kernel
theorem dX13_four_45 : decode cX13_four 45 = .ok (.iload_n 3, 1) := by decide +kernel
theorem dX13_four_46 : decode cX13_four 46 = .ok (.iconst 1, 1) := by decide +kernel
theorem dX13_four_47 : decode cX13_four 47 = .ok (.if_icmp .ne 10, 3) := by decide +kernel
theorem dX13_four_50 : decode cX13_four 50 = .ok (.iload 4, 2) := by decide +kernel
theorem dX13_four_52 : decode cX13_four 52 = .ok (.bipush 12, 2) := by decide +kernel
theorem dX13_four_54 : decode cX13_four 54 = .ok (.if_icmp .lt 25, 3) := by decide +kernel
theorem dX13_four_57 : decode cX13_four 57 = .ok (.iload_n 1, 1) := by decide +kernel
theorem dX13_four_58 : decode cX13_four 58 = .ok (.ifCond .ne 25, 3) := by decide +kernel
theorem dX13_four_61 : decode cX13_four 61 = .ok (.iload_n 3, 1) := by decide +kernel
theorem dX13_four_62 : decode cX13_four 62 = .ok (.iconst 1, 1) := by decide +kernel
theorem dX13_four_63 : decode cX13_four 63 = .ok (.if_icmp .ne 20, 3) := by decide +kernel
theorem dX13_four_66 : decode cX13_four 66 = .ok (.iload_n 2, 1) := by decide +kernel
theorem dX13_four_67 : decode cX13_four 67 = .ok (.bipush 13, 2) := by decide +kernel
theorem dX13_four_69 : decode cX13_four 69 = .ok (.if_icmp .ne 14, 3) := by decide +kernel
theorem dX13_four_72 : decode cX13_four 72 = .ok (.iload 4, 2) := by decide +kernel
theorem dX13_four_74 : decode cX13_four 74 = .ok (.bipush 12, 2) := by decide +kernel
theorem dX13_four_76 : decode cX13_four 76 = .ok (.if_icmp .lt 7, 3) := by decide +kernel
theorem dX13_four_79 : decode cX13_four 79 = .ok (.iconst 1, 1) := by decide +kernel
theorem dX13_four_80 : decode cX13_four 80 = .ok (.goto 4, 3) := by decide +kernel
theorem dX13_four_83 : decode cX13_four 83 = .ok (.iconst 0, 1) := by decide +kernel
theorem dX13_four_84 : decode cX13_four 84 = .ok (.istore 5, 2) := by decide +kernel
theorem dX13_four_86 : decode cX13_four 86 = .ok (.iload 5, 2) := by decide +kernel
theorem dX13_four_88 : decode cX13_four 88 = .ok (.ifCond .eq 14, 3) := by decide +kernel
theorem dX13_four_91 : decode cX13_four 91 = .ok (.aload_n 0, 1) := by decide +kernel
theorem dX13_four_92 : decode cX13_four 92 = .ok (.aload_n 0, 1) := by decide +kernel
theorem dX13_four_93 : decode cX13_four 93 = .ok (.getfield 336, 3) := by decide +kernel
theorem dX13_four_96 : decode cX13_four 96 = .ok (.invokevirtual 375, 3) := by decide +kernel
theorem dX13_four_99 : decode cX13_four 99 = .ok (.goto 21, 3) := by decide +kernel
theorem dX13_four_102 : decode cX13_four 102 = .ok (.bipush 16, 2) := by decide +kernel
theorem dX13_four_104 : decode cX13_four 104 = .ok (.iload_n 2, 1) := by decide +kernel
theorem dX13_four_105 : decode cX13_four 105 = .ok (.imul, 1) := by decide +kernel
theorem dX13_four_106 : decode cX13_four 106 = .ok (.iload 4, 2) := by decide +kernel
theorem dX13_four_108 : decode cX13_four 108 = .ok (.iadd, 1) := by decide +kernel
theorem dX13_four_109 : decode cX13_four 109 = .ok (.istore_n 2, 1) := by decide +kernel
theorem dX13_four_110 : decode cX13_four 110 = .ok (.aload_n 0, 1) := by decide +kernel
theorem dX13_four_111 : decode cX13_four 111 = .ok (.dup, 1) := by decide +kernel
theorem dX13_four_112 : decode cX13_four 112 = .ok (.getfield 336, 3) := by decide +kernel
theorem dX13_four_115 : decode cX13_four 115 = .ok (.iconst 1, 1) := by decide +kernel
theorem dX13_four_116 : decode cX13_four 116 = .ok (.iadd, 1) := by decide +kernel
theorem dX13_four_117 : decode cX13_four 117 = .ok (.putfield 336, 3) := by decide +kernel
theorem dX13_four_120 : decode cX13_four 120 = .ok (.iinc 3 1, 3) := by decide +kernel
theorem dX13_four_123 : decode cX13_four 123 = .ok (.goto (-119), 3) := by decide +kernel
theorem dX13_four_126 : decode cX13_four 126 = .ok (.iload_n 2, 1) := by decide +kernel
theorem dX13_four_127 : decode cX13_four 127 = .ok (.ireturn, 1) := by decide +kernel
abbrev rmX13_four : Room := { frames := 2, cells := 0, slots := 0, locals := 40 }
set_option maxHeartbeats 4000000 in
set_option maxRecDepth 100000 in
theorem wB_X13_four_84 {G : mG} {F : Nat} {x : mXT} {sz : Nat} {r0 : Int32} {M0 : mM} (X : mCX G RX13 cX13_four 6 (some .int) "four" rmX13_four x) (hQ : mQI x r0 M0 (sz, 0, 0)) (r4 : Nat → Int32 → Int32 → Int32 → mM → Option (Int32 × mM)) (hr4 : ∀ (l0 : Nat) (l1 : Int32) (l2 : Int32) (l3 : Int32) (M : mM), r4 l0 l1 l2 l3 M = some (r0, M0) → WW x (sz, 0, 0) M 4 [(0, .ref l0), (1, .int l1), (2, .int l2), (3, .int l3)] []) {l0 : Nat} {l1 : Int32} {l2 : Int32} {l3 : Int32} {l4 : Int32} {sk0 : Int32} {M : mM} (h : B_X13_four_84 G F r4 l0 l1 l2 l3 l4 sk0 M = some (r0, M0)) : WW x (sz, 0, 0) M 84 [(0, .ref l0), (1, .int l1), (2, .int l2), (3, .int l3), (4, .int l4)] [.int sk0] := by
  unfold B_X13_four_84 at h
  refine ww_istore 84 X dX13_four_84 (lv' := [(0, .ref l0), (1, .int l1), (2, .int l2), (3, .int l3), (4, .int l4), (5, .int sk0)]) (by decide) [1, 2, 3, 4, 5, 0] rfl ?_
  refine ww_iload 86 X dX13_four_86 5 rfl ?_
  refine ww_if_eq 88 102 X dX13_four_88 (by decide) (fun q => ?_) (fun q => ?_)
  · replace h := (if_pos q).symm.trans h
    refine ww_bipush 102 X (v := (16 : Int32)) dX13_four_102 (by decide) ?_
    refine ww_iload_n 104 X dX13_four_104 2 rfl rfl ?_
    refine ww_imul 105 X dX13_four_105 ?_
    refine ww_iload 106 X dX13_four_106 4 rfl ?_
    refine ww_iadd 108 X dX13_four_108 ?_
    refine ww_istore_n 109 X dX13_four_109 (lv' := [(0, .ref l0), (1, .int l1), (2, .int (((16 : Int32) * l2) + l4)), (3, .int l3), (4, .int l4), (5, .int sk0)]) rfl (by decide) [1, 2, 0, 3, 4, 5] rfl ?_
    refine ww_aload_n 110 X dX13_four_110 0 rfl rfl ?_
    refine ww_dup 111 X dX13_four_111 rfl ?_
    obtain ⟨v112, e112, h⟩ := bO_some h
    refine ww_getI 112 X dX13_four_112 fG_X13_336 e112 ?_
    refine ww_iconst 115 X (v := (1 : Int32)) dX13_four_115 (by decide) ?_
    refine ww_iadd 116 X dX13_four_116 ?_
    obtain ⟨M117, e117, h⟩ := bO_some h
    refine ww_putI 117 X dX13_four_117 (fP_X13_336 _) e117 ?_
    refine ww_iinc 120 X dX13_four_120 (lv' := [(0, .ref l0), (1, .int l1), (2, .int (((16 : Int32) * l2) + l4)), (3, .int (l3 + 1)), (4, .int l4), (5, .int sk0)]) 3 rfl rfl (by decide) [1, 2, 3, 0, 4, 5] rfl ?_
    refine ww_goto 123 4 X dX13_four_123 (by decide) ?_
    exact ww_sub [0, 1, 2, 3] rfl (hr4 _ _ _ _ _ h)
  · replace h := (if_neg q).symm.trans h
    refine ww_aload_n 91 X dX13_four_91 0 rfl rfl ?_
    refine ww_aload_n 92 X dX13_four_92 0 rfl rfl ?_
    obtain ⟨v93, e93, h⟩ := bO_some h
    refine ww_getI 93 X dX13_four_93 fG_X13_336 e93 ?_
    obtain ⟨_, f96, h⟩ := bO_some h
    obtain ⟨M96, e96, h⟩ := bO_some h
    refine ww_callVV0 96 X dX13_four_96 mY_X13_fail mL_X13_375 (rcv_spec f96) ⟨_, _, rfl⟩ (by decide) (As := [.int v93]) (rest := []) rfl rfl ⟨Nat.le_of_ble_eq_true rfl, Nat.le_of_ble_eq_true rfl⟩ (Nat.le_of_ble_eq_true rfl) (fun l D A => c_X13_fail l D A e96) ?_
    refine ww_goto 99 120 X dX13_four_99 (by decide) ?_
    refine ww_iinc 120 X dX13_four_120 (lv' := [(0, .ref l0), (1, .int l1), (2, .int l2), (3, .int (l3 + 1)), (4, .int l4), (5, .int sk0)]) 3 rfl rfl (by decide) [1, 2, 3, 0, 4, 5] rfl ?_
    refine ww_goto 123 4 X dX13_four_123 (by decide) ?_
    exact ww_sub [0, 1, 2, 3] rfl (hr4 _ _ _ _ _ h)
set_option maxHeartbeats 4000000 in
set_option maxRecDepth 100000 in
theorem wB_X13_four_57 {G : mG} {F : Nat} {x : mXT} {sz : Nat} {r0 : Int32} {M0 : mM} (X : mCX G RX13 cX13_four 6 (some .int) "four" rmX13_four x) (hQ : mQI x r0 M0 (sz, 0, 0)) (r4 : Nat → Int32 → Int32 → Int32 → mM → Option (Int32 × mM)) (hr4 : ∀ (l0 : Nat) (l1 : Int32) (l2 : Int32) (l3 : Int32) (M : mM), r4 l0 l1 l2 l3 M = some (r0, M0) → WW x (sz, 0, 0) M 4 [(0, .ref l0), (1, .int l1), (2, .int l2), (3, .int l3)] []) {l0 : Nat} {l1 : Int32} {l2 : Int32} {l3 : Int32} {l4 : Int32} {M : mM} (h : B_X13_four_57 G F r4 l0 l1 l2 l3 l4 M = some (r0, M0)) : WW x (sz, 0, 0) M 57 [(0, .ref l0), (1, .int l1), (2, .int l2), (3, .int l3), (4, .int l4)] [] := by
  unfold B_X13_four_57 at h
  refine ww_iload_n 57 X dX13_four_57 1 rfl rfl ?_
  refine ww_if_ne 58 83 X dX13_four_58 (by decide) (fun q => ?_) (fun q => ?_)
  · replace h := (if_neg q).symm.trans h
    refine ww_iconst 83 X (v := (0 : Int32)) dX13_four_83 (by decide) ?_
    exact (wB_X13_four_84 X hQ _ hr4 h)
  · replace h := (if_pos q).symm.trans h
    refine ww_iload_n 61 X dX13_four_61 3 rfl rfl ?_
    refine ww_iconst 62 X (v := (1 : Int32)) dX13_four_62 (by decide) ?_
    refine ww_icmp_ne 63 83 X dX13_four_63 (by decide) (fun q => ?_) (fun q => ?_)
    · replace h := (if_neg q).symm.trans h
      refine ww_iconst 83 X (v := (0 : Int32)) dX13_four_83 (by decide) ?_
      exact (wB_X13_four_84 X hQ _ hr4 h)
    · replace h := (if_pos q).symm.trans h
      refine ww_iload_n 66 X dX13_four_66 2 rfl rfl ?_
      refine ww_bipush 67 X (v := (13 : Int32)) dX13_four_67 (by decide) ?_
      refine ww_icmp_ne 69 83 X dX13_four_69 (by decide) (fun q => ?_) (fun q => ?_)
      · replace h := (if_neg q).symm.trans h
        refine ww_iconst 83 X (v := (0 : Int32)) dX13_four_83 (by decide) ?_
        exact (wB_X13_four_84 X hQ _ hr4 h)
      · replace h := (if_pos q).symm.trans h
        refine ww_iload 72 X dX13_four_72 4 rfl ?_
        refine ww_bipush 74 X (v := (12 : Int32)) dX13_four_74 (by decide) ?_
        refine ww_icmp_lt 76 83 X dX13_four_76 (by decide) (fun q => ?_) (fun q => ?_)
        · replace h := (if_pos q).symm.trans h
          refine ww_iconst 83 X (v := (0 : Int32)) dX13_four_83 (by decide) ?_
          exact (wB_X13_four_84 X hQ _ hr4 h)
        · replace h := (if_neg q).symm.trans h
          refine ww_iconst 79 X (v := (1 : Int32)) dX13_four_79 (by decide) ?_
          refine ww_goto 80 84 X dX13_four_80 (by decide) ?_
          exact (wB_X13_four_84 X hQ _ hr4 h)
set_option maxHeartbeats 4000000 in
set_option maxRecDepth 100000 in
theorem wB_X13_four_4 {G : mG} {F : Nat} {x : mXT} {sz : Nat} {r0 : Int32} {M0 : mM} (X : mCX G RX13 cX13_four 6 (some .int) "four" rmX13_four x) (hQ : mQI x r0 M0 (sz, 0, 0)) : ∀ (n : Nat) (l0 : Nat) (l1 : Int32) (l2 : Int32) (l3 : Int32) (M : mM), B_X13_four_4 G F n l0 l1 l2 l3 M = some (r0, M0) → WW x (sz, 0, 0) M 4 [(0, .ref l0), (1, .int l1), (2, .int l2), (3, .int l3)] [] := by
  intro n
  induction n with
  | zero =>
    intro l0 l1 l2 l3 M h
    exact nomatch (show (none : Option (Int32 × mM)) = some (r0, M0) from h)
  | succ n ih =>
    intro l0 l1 l2 l3 M h
    rw [B_X13_four_4] at h
    refine ww_iload_n 4 X dX13_four_4 3 rfl rfl ?_
    refine ww_iconst 5 X (v := (4 : Int32)) dX13_four_5 (by decide) ?_
    refine ww_icmp_ge 6 126 X dX13_four_6 (by decide) (fun q => ?_) (fun q => ?_)
    · replace h := (if_pos q).symm.trans h
      refine ww_iload_n 126 X dX13_four_126 2 rfl rfl ?_
      exact ww_iretE 127 X hQ dX13_four_127 h
    · replace h := (if_neg q).symm.trans h
      refine ww_aload_n 9 X dX13_four_9 0 rfl rfl ?_
      obtain ⟨_, f10, h⟩ := bO_some h
      obtain ⟨v10, M10, e10, h⟩ := bP_some h
      refine ww_callVI0 10 X dX13_four_10 mY_X13_good mL_X13_371 (rcv_spec f10) ⟨_, _, rfl⟩ (by decide) (As := []) (rest := []) rfl rfl ⟨Nat.le_of_ble_eq_true rfl, Nat.le_of_ble_eq_true rfl⟩ (Nat.le_of_ble_eq_true rfl) (fun l D A => c_X13_good l D A e10) ?_
      refine ww_if_eq 13 126 X dX13_four_13 (by decide) (fun q => ?_) (fun q => ?_)
      · replace h := (if_pos q).symm.trans h
        refine ww_iload_n 126 X dX13_four_126 2 rfl rfl ?_
        exact ww_iretE 127 X hQ dX13_four_127 h
      · replace h := (if_neg q).symm.trans h
        refine ww_aload_n 16 X dX13_four_16 0 rfl rfl ?_
        obtain ⟨_, f17, h⟩ := bO_some h
        obtain ⟨v17, M17, e17, h⟩ := bP_some h
        refine ww_callVI0 17 X dX13_four_17 mY_X13_at mL_X13_351 (rcv_spec f17) ⟨_, _, rfl⟩ (by decide) (As := []) (rest := []) rfl rfl ⟨Nat.le_of_ble_eq_true rfl, Nat.le_of_ble_eq_true rfl⟩ (Nat.le_of_ble_eq_true rfl) (fun l D A => c_X13_at l D A e17) ?_
        obtain ⟨v20, M20, e20, h⟩ := bP_some h
        refine ww_callSI0 20 X dX13_four_20 mY_X13_hexOf mL_X13_446 (As := [.int v17]) (rest := []) rfl rfl ⟨Nat.le_of_ble_eq_true rfl, Nat.le_of_ble_eq_true rfl⟩ (Nat.le_of_ble_eq_true rfl) (fun l D A => c_X13_hexOf l D A e20) ?_
        refine ww_istore 23 X dX13_four_23 (lv' := [(0, .ref l0), (1, .int l1), (2, .int l2), (3, .int l3), (4, .int v20)]) (by decide) [1, 2, 3, 4, 0] rfl ?_
        refine ww_iload 25 X dX13_four_25 4 rfl ?_
        refine ww_if_lt 27 79 X dX13_four_27 (by decide) (fun q => ?_) (fun q => ?_)
        · replace h := (if_pos q).symm.trans h
          refine ww_iconst 79 X (v := (1 : Int32)) dX13_four_79 (by decide) ?_
          refine ww_goto 80 84 X dX13_four_80 (by decide) ?_
          exact (wB_X13_four_84 X hQ _ ih h)
        · replace h := (if_neg q).symm.trans h
          refine ww_iload_n 30 X dX13_four_30 1 rfl rfl ?_
          refine ww_if_eq 31 57 X dX13_four_31 (by decide) (fun q => ?_) (fun q => ?_)
          · replace h := (if_pos q).symm.trans h
            exact (wB_X13_four_57 X hQ _ ih h)
          · replace h := (if_neg q).symm.trans h
            refine ww_iload_n 34 X dX13_four_34 3 rfl rfl ?_
            refine ww_if_ne 35 45 X dX13_four_35 (by decide) (fun q => ?_) (fun q => ?_)
            · replace h := (if_neg q).symm.trans h
              refine ww_iload_n 45 X dX13_four_45 3 rfl rfl ?_
              refine ww_iconst 46 X (v := (1 : Int32)) dX13_four_46 (by decide) ?_
              refine ww_icmp_ne 47 57 X dX13_four_47 (by decide) (fun q => ?_) (fun q => ?_)
              · replace h := (if_neg q).symm.trans h
                exact (wB_X13_four_57 X hQ _ ih h)
              · replace h := (if_pos q).symm.trans h
                refine ww_iload 50 X dX13_four_50 4 rfl ?_
                refine ww_bipush 52 X (v := (12 : Int32)) dX13_four_52 (by decide) ?_
                refine ww_icmp_lt 54 79 X dX13_four_54 (by decide) (fun q => ?_) (fun q => ?_)
                · replace h := (if_pos q).symm.trans h
                  refine ww_iconst 79 X (v := (1 : Int32)) dX13_four_79 (by decide) ?_
                  refine ww_goto 80 84 X dX13_four_80 (by decide) ?_
                  exact (wB_X13_four_84 X hQ _ ih h)
                · replace h := (if_neg q).symm.trans h
                  exact (wB_X13_four_57 X hQ _ ih h)
            · replace h := (if_pos q).symm.trans h
              refine ww_iload 38 X dX13_four_38 4 rfl ?_
              refine ww_bipush 40 X (v := (13 : Int32)) dX13_four_40 (by decide) ?_
              refine ww_icmp_ne 42 79 X dX13_four_42 (by decide) (fun q => ?_) (fun q => ?_)
              · replace h := (if_neg q).symm.trans h
                refine ww_iconst 79 X (v := (1 : Int32)) dX13_four_79 (by decide) ?_
                refine ww_goto 80 84 X dX13_four_80 (by decide) ?_
                exact (wB_X13_four_84 X hQ _ ih h)
              · replace h := (if_pos q).symm.trans h
                refine ww_iload_n 45 X dX13_four_45 3 rfl rfl ?_
                refine ww_iconst 46 X (v := (1 : Int32)) dX13_four_46 (by decide) ?_
                refine ww_icmp_ne 47 57 X dX13_four_47 (by decide) (fun q => ?_) (fun q => ?_)
                · replace h := (if_neg q).symm.trans h
                  exact (wB_X13_four_57 X hQ _ ih h)
                · replace h := (if_pos q).symm.trans h
                  refine ww_iload 50 X dX13_four_50 4 rfl ?_
                  refine ww_bipush 52 X (v := (12 : Int32)) dX13_four_52 (by decide) ?_
                  refine ww_icmp_lt 54 79 X dX13_four_54 (by decide) (fun q => ?_) (fun q => ?_)
                  · replace h := (if_pos q).symm.trans h
                    refine ww_iconst 79 X (v := (1 : Int32)) dX13_four_79 (by decide) ?_
                    refine ww_goto 80 84 X dX13_four_80 (by decide) ?_
                    exact (wB_X13_four_84 X hQ _ ih h)
                  · replace h := (if_neg q).symm.trans h
                    exact (wB_X13_four_57 X hQ _ ih h)
set_option maxHeartbeats 4000000 in
set_option maxRecDepth 100000 in
theorem wP_X13_four {G : mG} {F : Nat} {x : mXT} {sz : Nat} {r0 : Int32} {M0 : mM} (X : mCX G RX13 cX13_four 6 (some .int) "four" rmX13_four x) (hQ : mQI x r0 M0 (sz, 0, 0)) {l0 : Nat} {l1 : Int32} {M : mM} (h : P_X13_four G F l0 l1 M = some (r0, M0)) : WW x (sz, 0, 0) M 0 [(0, .ref l0), (1, .int l1)] [] := by
  unfold P_X13_four at h
  refine ww_iconst 0 X (v := (0 : Int32)) dX13_four_0 (by decide) ?_
  refine ww_istore_n 1 X dX13_four_1 (lv' := [(0, .ref l0), (1, .int l1), (2, .int (0 : Int32))]) rfl (by decide) [1, 2, 0] rfl ?_
  refine ww_iconst 2 X (v := (0 : Int32)) dX13_four_2 (by decide) ?_
  refine ww_istore_n 3 X dX13_four_3 (lv' := [(0, .ref l0), (1, .int l1), (2, .int (0 : Int32)), (3, .int (0 : Int32))]) rfl (by decide) [1, 2, 3, 0] rfl ?_
  exact (wB_X13_four_4 X hQ F _ _ _ _ _ h)
theorem c_X13_four {G : mG} {F sz : Nat} {r0 : Int32} {M0 : mM} (l : Launch) (D : mD) (A : Nat → Prop) {l0 : Nat} {l1 : Int32} {M : mM} (h : P_X13_four G F l0 l1 M = some (r0, M0)) : mMetI l D G A yX13_four cX13_four 6 (some .int) 2 40 0 0 [.ref l0, .int l1] M sz r0 M0 sz := mMetI_of l D G A (by decide) (Nat.le_of_ble_eq_true rfl) (fun x X hQ => wP_X13_four X hQ h)
/-! SealedTokensModel.sign8(I)V -/
theorem dX13_sign8_0 : decode cX13_sign8 0 = .ok (.iload_n 1, 1) := by decide +kernel
theorem dX13_sign8_1 : decode cX13_sign8 1 = .ok (.sipush 128, 3) := by decide +kernel
theorem dX13_sign8_4 : decode cX13_sign8 4 = .ok (.if_icmp .ge 11, 3) := by decide +kernel
theorem dX13_sign8_7 : decode cX13_sign8 7 = .ok (.aload_n 0, 1) := by decide +kernel
theorem dX13_sign8_8 : decode cX13_sign8 8 = .ok (.iload_n 1, 1) := by decide +kernel
theorem dX13_sign8_9 : decode cX13_sign8 9 = .ok (.invokevirtual 402, 3) := by decide +kernel
theorem dX13_sign8_12 : decode cX13_sign8 12 = .ok (.goto 139, 3) := by decide +kernel
theorem dX13_sign8_15 : decode cX13_sign8 15 = .ok (.iload_n 1, 1) := by decide +kernel
theorem dX13_sign8_16 : decode cX13_sign8 16 = .ok (.sipush 2048, 3) := by decide +kernel
theorem dX13_sign8_19 : decode cX13_sign8 19 = .ok (.if_icmp .ge 30, 3) := by decide +kernel
theorem dX13_sign8_22 : decode cX13_sign8 22 = .ok (.aload_n 0, 1) := by decide +kernel
theorem dX13_sign8_23 : decode cX13_sign8 23 = .ok (.sipush 192, 3) := by decide +kernel
theorem dX13_sign8_26 : decode cX13_sign8 26 = .ok (.iload_n 1, 1) := by decide +kernel
theorem dX13_sign8_27 : decode cX13_sign8 27 = .ok (.bipush 6, 2) := by decide +kernel
theorem dX13_sign8_29 : decode cX13_sign8 29 = .ok (.ishr, 1) := by decide +kernel
theorem dX13_sign8_30 : decode cX13_sign8 30 = .ok (.ior, 1) := by decide +kernel
theorem dX13_sign8_31 : decode cX13_sign8 31 = .ok (.invokevirtual 402, 3) := by decide +kernel
theorem dX13_sign8_34 : decode cX13_sign8 34 = .ok (.aload_n 0, 1) := by decide +kernel
theorem dX13_sign8_35 : decode cX13_sign8 35 = .ok (.sipush 128, 3) := by decide +kernel
theorem dX13_sign8_38 : decode cX13_sign8 38 = .ok (.iload_n 1, 1) := by decide +kernel
theorem dX13_sign8_39 : decode cX13_sign8 39 = .ok (.bipush 63, 2) := by decide +kernel
theorem dX13_sign8_41 : decode cX13_sign8 41 = .ok (.iand, 1) := by decide +kernel
theorem dX13_sign8_42 : decode cX13_sign8 42 = .ok (.ior, 1) := by decide +kernel
theorem dX13_sign8_43 : decode cX13_sign8 43 = .ok (.invokevirtual 402, 3) := by decide +kernel
theorem dX13_sign8_46 : decode cX13_sign8 46 = .ok (.goto 105, 3) := by decide +kernel
theorem dX13_sign8_49 : decode cX13_sign8 49 = .ok (.iload_n 1, 1) := by decide +kernel
theorem dX13_sign8_50 : decode cX13_sign8 50 = .ok (.ldc 13, 2) := by decide +kernel
theorem dX13_sign8_52 : decode cX13_sign8 52 = .ok (.if_icmp .ge 45, 3) := by decide +kernel
theorem dX13_sign8_55 : decode cX13_sign8 55 = .ok (.aload_n 0, 1) := by decide +kernel
theorem dX13_sign8_56 : decode cX13_sign8 56 = .ok (.sipush 224, 3) := by decide +kernel
theorem dX13_sign8_59 : decode cX13_sign8 59 = .ok (.iload_n 1, 1) := by decide +kernel
theorem dX13_sign8_60 : decode cX13_sign8 60 = .ok (.bipush 12, 2) := by decide +kernel
theorem dX13_sign8_62 : decode cX13_sign8 62 = .ok (.ishr, 1) := by decide +kernel
theorem dX13_sign8_63 : decode cX13_sign8 63 = .ok (.ior, 1) := by decide +kernel
theorem dX13_sign8_64 : decode cX13_sign8 64 = .ok (.invokevirtual 402, 3) := by decide +kernel
theorem dX13_sign8_67 : decode cX13_sign8 67 = .ok (.aload_n 0, 1) := by decide +kernel
theorem dX13_sign8_68 : decode cX13_sign8 68 = .ok (.sipush 128, 3) := by decide +kernel
theorem dX13_sign8_71 : decode cX13_sign8 71 = .ok (.iload_n 1, 1) := by decide +kernel
theorem dX13_sign8_72 : decode cX13_sign8 72 = .ok (.bipush 6, 2) := by decide +kernel
theorem dX13_sign8_74 : decode cX13_sign8 74 = .ok (.ishr, 1) := by decide +kernel
theorem dX13_sign8_75 : decode cX13_sign8 75 = .ok (.bipush 63, 2) := by decide +kernel
theorem dX13_sign8_77 : decode cX13_sign8 77 = .ok (.iand, 1) := by decide +kernel
theorem dX13_sign8_78 : decode cX13_sign8 78 = .ok (.ior, 1) := by decide +kernel
theorem dX13_sign8_79 : decode cX13_sign8 79 = .ok (.invokevirtual 402, 3) := by decide +kernel
theorem dX13_sign8_82 : decode cX13_sign8 82 = .ok (.aload_n 0, 1) := by decide +kernel
theorem dX13_sign8_83 : decode cX13_sign8 83 = .ok (.sipush 128, 3) := by decide +kernel
theorem dX13_sign8_86 : decode cX13_sign8 86 = .ok (.iload_n 1, 1) := by decide +kernel
theorem dX13_sign8_87 : decode cX13_sign8 87 = .ok (.bipush 63, 2) := by decide +kernel
theorem dX13_sign8_89 : decode cX13_sign8 89 = .ok (.iand, 1) := by decide +kernel
theorem dX13_sign8_90 : decode cX13_sign8 90 = .ok (.ior, 1) := by decide +kernel
theorem dX13_sign8_91 : decode cX13_sign8 91 = .ok (.invokevirtual 402, 3) := by decide +kernel
theorem dX13_sign8_94 : decode cX13_sign8 94 = .ok (.goto 57, 3) := by decide +kernel
theorem dX13_sign8_97 : decode cX13_sign8 97 = .ok (.aload_n 0, 1) := by decide +kernel
theorem dX13_sign8_98 : decode cX13_sign8 98 = .ok (.sipush 240, 3) := by decide +kernel
theorem dX13_sign8_101 : decode cX13_sign8 101 = .ok (.iload_n 1, 1) := by decide +kernel
theorem dX13_sign8_102 : decode cX13_sign8 102 = .ok (.bipush 18, 2) := by decide +kernel
theorem dX13_sign8_104 : decode cX13_sign8 104 = .ok (.ishr, 1) := by decide +kernel
theorem dX13_sign8_105 : decode cX13_sign8 105 = .ok (.ior, 1) := by decide +kernel
theorem dX13_sign8_106 : decode cX13_sign8 106 = .ok (.invokevirtual 402, 3) := by decide +kernel
theorem dX13_sign8_109 : decode cX13_sign8 109 = .ok (.aload_n 0, 1) := by decide +kernel
theorem dX13_sign8_110 : decode cX13_sign8 110 = .ok (.sipush 128, 3) := by decide +kernel
theorem dX13_sign8_113 : decode cX13_sign8 113 = .ok (.iload_n 1, 1) := by decide +kernel
theorem dX13_sign8_114 : decode cX13_sign8 114 = .ok (.bipush 12, 2) := by decide +kernel
theorem dX13_sign8_116 : decode cX13_sign8 116 = .ok (.ishr, 1) := by decide +kernel
theorem dX13_sign8_117 : decode cX13_sign8 117 = .ok (.bipush 63, 2) := by decide +kernel
theorem dX13_sign8_119 : decode cX13_sign8 119 = .ok (.iand, 1) := by decide +kernel
theorem dX13_sign8_120 : decode cX13_sign8 120 = .ok (.ior, 1) := by decide +kernel
theorem dX13_sign8_121 : decode cX13_sign8 121 = .ok (.invokevirtual 402, 3) := by decide +kernel
theorem dX13_sign8_124 : decode cX13_sign8 124 = .ok (.aload_n 0, 1) := by decide +kernel
theorem dX13_sign8_125 : decode cX13_sign8 125 = .ok (.sipush 128, 3) := by decide +kernel
theorem dX13_sign8_128 : decode cX13_sign8 128 = .ok (.iload_n 1, 1) := by decide +kernel
theorem dX13_sign8_129 : decode cX13_sign8 129 = .ok (.bipush 6, 2) := by decide +kernel
theorem dX13_sign8_131 : decode cX13_sign8 131 = .ok (.ishr, 1) := by decide +kernel
theorem dX13_sign8_132 : decode cX13_sign8 132 = .ok (.bipush 63, 2) := by decide +kernel
theorem dX13_sign8_134 : decode cX13_sign8 134 = .ok (.iand, 1) := by decide +kernel
theorem dX13_sign8_135 : decode cX13_sign8 135 = .ok (.ior, 1) := by decide +kernel
theorem dX13_sign8_136 : decode cX13_sign8 136 = .ok (.invokevirtual 402, 3) := by decide +kernel
theorem dX13_sign8_139 : decode cX13_sign8 139 = .ok (.aload_n 0, 1) := by decide +kernel
theorem dX13_sign8_140 : decode cX13_sign8 140 = .ok (.sipush 128, 3) := by decide +kernel
theorem dX13_sign8_143 : decode cX13_sign8 143 = .ok (.iload_n 1, 1) := by decide +kernel
theorem dX13_sign8_144 : decode cX13_sign8 144 = .ok (.bipush 63, 2) := by decide +kernel
theorem dX13_sign8_146 : decode cX13_sign8 146 = .ok (.iand, 1) := by decide +kernel
theorem dX13_sign8_147 : decode cX13_sign8 147 = .ok (.ior, 1) := by decide +kernel
theorem dX13_sign8_148 : decode cX13_sign8 148 = .ok (.invokevirtual 402, 3) := by decide +kernel
theorem dX13_sign8_151 : decode cX13_sign8 151 = .ok (.return_, 1) := by decide +kernel
abbrev rmX13_sign8 : Room := { frames := 1, cells := 0, slots := 0, locals := 21 }
set_option maxHeartbeats 4000000 in
set_option maxRecDepth 100000 in
theorem wP_X13_sign8 {G : mG} {F : Nat} {x : mXT} {sz : Nat} {M0 : mM} (X : mCX G RX13 cX13_sign8 2 none "sign8" rmX13_sign8 x) (hQ : mQV x M0 (sz, 0, 0)) {l0 : Nat} {l1 : Int32} {M : mM} (h : P_X13_sign8 G F l0 l1 M = some M0) : WW x (sz, 0, 0) M 0 [(0, .ref l0), (1, .int l1)] [] := by
  unfold P_X13_sign8 at h
  refine ww_iload_n 0 X dX13_sign8_0 1 rfl rfl ?_
  refine ww_sipush 1 X (v := (128 : Int32)) dX13_sign8_1 (by decide) ?_
  refine ww_icmp_ge 4 15 X dX13_sign8_4 (by decide) (fun q => ?_) (fun q => ?_)
  · replace h := (if_pos q).symm.trans h
    refine ww_iload_n 15 X dX13_sign8_15 1 rfl rfl ?_
    refine ww_sipush 16 X (v := (2048 : Int32)) dX13_sign8_16 (by decide) ?_
    refine ww_icmp_ge 19 49 X dX13_sign8_19 (by decide) (fun q => ?_) (fun q => ?_)
    · replace h := (if_pos q).symm.trans h
      refine ww_iload_n 49 X dX13_sign8_49 1 rfl rfl ?_
      refine ww_ldc 50 X (v := (65536 : Int32)) dX13_sign8_50 kI_X13_13 ?_
      refine ww_icmp_ge 52 97 X dX13_sign8_52 (by decide) (fun q => ?_) (fun q => ?_)
      · replace h := (if_pos q).symm.trans h
        refine ww_aload_n 97 X dX13_sign8_97 0 rfl rfl ?_
        refine ww_sipush 98 X (v := (240 : Int32)) dX13_sign8_98 (by decide) ?_
        refine ww_iload_n 101 X dX13_sign8_101 1 rfl rfl ?_
        refine ww_bipush 102 X (v := (18 : Int32)) dX13_sign8_102 (by decide) ?_
        refine ww_ishr 104 X dX13_sign8_104 ?_
        refine ww_ior 105 X dX13_sign8_105 ?_
        obtain ⟨_, f106, h⟩ := bO_some h
        obtain ⟨M106, e106, h⟩ := bO_some h
        refine ww_callVV0 106 X dX13_sign8_106 mY_X13_keep8 mL_X13_402 (rcv_spec f106) ⟨_, _, rfl⟩ (by decide) (As := [.int ((240 : Int32) ||| (l1 >>> ((18 : Int32) &&& 31)))]) (rest := []) rfl rfl ⟨Nat.le_of_ble_eq_true rfl, Nat.le_of_ble_eq_true rfl⟩ (Nat.le_of_ble_eq_true rfl) (fun l D A => c_X13_keep8 l D A e106) ?_
        refine ww_aload_n 109 X dX13_sign8_109 0 rfl rfl ?_
        refine ww_sipush 110 X (v := (128 : Int32)) dX13_sign8_110 (by decide) ?_
        refine ww_iload_n 113 X dX13_sign8_113 1 rfl rfl ?_
        refine ww_bipush 114 X (v := (12 : Int32)) dX13_sign8_114 (by decide) ?_
        refine ww_ishr 116 X dX13_sign8_116 ?_
        refine ww_bipush 117 X (v := (63 : Int32)) dX13_sign8_117 (by decide) ?_
        refine ww_iand 119 X dX13_sign8_119 ?_
        refine ww_ior 120 X dX13_sign8_120 ?_
        obtain ⟨_, f121, h⟩ := bO_some h
        obtain ⟨M121, e121, h⟩ := bO_some h
        refine ww_callVV0 121 X dX13_sign8_121 mY_X13_keep8 mL_X13_402 (rcv_spec f121) ⟨_, _, rfl⟩ (by decide) (As := [.int ((128 : Int32) ||| ((l1 >>> ((12 : Int32) &&& 31)) &&& (63 : Int32)))]) (rest := []) rfl rfl ⟨Nat.le_of_ble_eq_true rfl, Nat.le_of_ble_eq_true rfl⟩ (Nat.le_of_ble_eq_true rfl) (fun l D A => c_X13_keep8 l D A e121) ?_
        refine ww_aload_n 124 X dX13_sign8_124 0 rfl rfl ?_
        refine ww_sipush 125 X (v := (128 : Int32)) dX13_sign8_125 (by decide) ?_
        refine ww_iload_n 128 X dX13_sign8_128 1 rfl rfl ?_
        refine ww_bipush 129 X (v := (6 : Int32)) dX13_sign8_129 (by decide) ?_
        refine ww_ishr 131 X dX13_sign8_131 ?_
        refine ww_bipush 132 X (v := (63 : Int32)) dX13_sign8_132 (by decide) ?_
        refine ww_iand 134 X dX13_sign8_134 ?_
        refine ww_ior 135 X dX13_sign8_135 ?_
        obtain ⟨_, f136, h⟩ := bO_some h
        obtain ⟨M136, e136, h⟩ := bO_some h
        refine ww_callVV0 136 X dX13_sign8_136 mY_X13_keep8 mL_X13_402 (rcv_spec f136) ⟨_, _, rfl⟩ (by decide) (As := [.int ((128 : Int32) ||| ((l1 >>> ((6 : Int32) &&& 31)) &&& (63 : Int32)))]) (rest := []) rfl rfl ⟨Nat.le_of_ble_eq_true rfl, Nat.le_of_ble_eq_true rfl⟩ (Nat.le_of_ble_eq_true rfl) (fun l D A => c_X13_keep8 l D A e136) ?_
        refine ww_aload_n 139 X dX13_sign8_139 0 rfl rfl ?_
        refine ww_sipush 140 X (v := (128 : Int32)) dX13_sign8_140 (by decide) ?_
        refine ww_iload_n 143 X dX13_sign8_143 1 rfl rfl ?_
        refine ww_bipush 144 X (v := (63 : Int32)) dX13_sign8_144 (by decide) ?_
        refine ww_iand 146 X dX13_sign8_146 ?_
        refine ww_ior 147 X dX13_sign8_147 ?_
        obtain ⟨_, f148, h⟩ := bO_some h
        obtain ⟨M148, e148, h⟩ := bO_some h
        refine ww_callVV0 148 X dX13_sign8_148 mY_X13_keep8 mL_X13_402 (rcv_spec f148) ⟨_, _, rfl⟩ (by decide) (As := [.int ((128 : Int32) ||| (l1 &&& (63 : Int32)))]) (rest := []) rfl rfl ⟨Nat.le_of_ble_eq_true rfl, Nat.le_of_ble_eq_true rfl⟩ (Nat.le_of_ble_eq_true rfl) (fun l D A => c_X13_keep8 l D A e148) ?_
        exact ww_vretE 151 X hQ dX13_sign8_151 h
      · replace h := (if_neg q).symm.trans h
        refine ww_aload_n 55 X dX13_sign8_55 0 rfl rfl ?_
        refine ww_sipush 56 X (v := (224 : Int32)) dX13_sign8_56 (by decide) ?_
        refine ww_iload_n 59 X dX13_sign8_59 1 rfl rfl ?_
        refine ww_bipush 60 X (v := (12 : Int32)) dX13_sign8_60 (by decide) ?_
        refine ww_ishr 62 X dX13_sign8_62 ?_
        refine ww_ior 63 X dX13_sign8_63 ?_
        obtain ⟨_, f64, h⟩ := bO_some h
        obtain ⟨M64, e64, h⟩ := bO_some h
        refine ww_callVV0 64 X dX13_sign8_64 mY_X13_keep8 mL_X13_402 (rcv_spec f64) ⟨_, _, rfl⟩ (by decide) (As := [.int ((224 : Int32) ||| (l1 >>> ((12 : Int32) &&& 31)))]) (rest := []) rfl rfl ⟨Nat.le_of_ble_eq_true rfl, Nat.le_of_ble_eq_true rfl⟩ (Nat.le_of_ble_eq_true rfl) (fun l D A => c_X13_keep8 l D A e64) ?_
        refine ww_aload_n 67 X dX13_sign8_67 0 rfl rfl ?_
        refine ww_sipush 68 X (v := (128 : Int32)) dX13_sign8_68 (by decide) ?_
        refine ww_iload_n 71 X dX13_sign8_71 1 rfl rfl ?_
        refine ww_bipush 72 X (v := (6 : Int32)) dX13_sign8_72 (by decide) ?_
        refine ww_ishr 74 X dX13_sign8_74 ?_
        refine ww_bipush 75 X (v := (63 : Int32)) dX13_sign8_75 (by decide) ?_
        refine ww_iand 77 X dX13_sign8_77 ?_
        refine ww_ior 78 X dX13_sign8_78 ?_
        obtain ⟨_, f79, h⟩ := bO_some h
        obtain ⟨M79, e79, h⟩ := bO_some h
        refine ww_callVV0 79 X dX13_sign8_79 mY_X13_keep8 mL_X13_402 (rcv_spec f79) ⟨_, _, rfl⟩ (by decide) (As := [.int ((128 : Int32) ||| ((l1 >>> ((6 : Int32) &&& 31)) &&& (63 : Int32)))]) (rest := []) rfl rfl ⟨Nat.le_of_ble_eq_true rfl, Nat.le_of_ble_eq_true rfl⟩ (Nat.le_of_ble_eq_true rfl) (fun l D A => c_X13_keep8 l D A e79) ?_
        refine ww_aload_n 82 X dX13_sign8_82 0 rfl rfl ?_
        refine ww_sipush 83 X (v := (128 : Int32)) dX13_sign8_83 (by decide) ?_
        refine ww_iload_n 86 X dX13_sign8_86 1 rfl rfl ?_
        refine ww_bipush 87 X (v := (63 : Int32)) dX13_sign8_87 (by decide) ?_
        refine ww_iand 89 X dX13_sign8_89 ?_
        refine ww_ior 90 X dX13_sign8_90 ?_
        obtain ⟨_, f91, h⟩ := bO_some h
        obtain ⟨M91, e91, h⟩ := bO_some h
        refine ww_callVV0 91 X dX13_sign8_91 mY_X13_keep8 mL_X13_402 (rcv_spec f91) ⟨_, _, rfl⟩ (by decide) (As := [.int ((128 : Int32) ||| (l1 &&& (63 : Int32)))]) (rest := []) rfl rfl ⟨Nat.le_of_ble_eq_true rfl, Nat.le_of_ble_eq_true rfl⟩ (Nat.le_of_ble_eq_true rfl) (fun l D A => c_X13_keep8 l D A e91) ?_
        refine ww_goto 94 151 X dX13_sign8_94 (by decide) ?_
        exact ww_vretE 151 X hQ dX13_sign8_151 h
    · replace h := (if_neg q).symm.trans h
      refine ww_aload_n 22 X dX13_sign8_22 0 rfl rfl ?_
      refine ww_sipush 23 X (v := (192 : Int32)) dX13_sign8_23 (by decide) ?_
      refine ww_iload_n 26 X dX13_sign8_26 1 rfl rfl ?_
      refine ww_bipush 27 X (v := (6 : Int32)) dX13_sign8_27 (by decide) ?_
      refine ww_ishr 29 X dX13_sign8_29 ?_
      refine ww_ior 30 X dX13_sign8_30 ?_
      obtain ⟨_, f31, h⟩ := bO_some h
      obtain ⟨M31, e31, h⟩ := bO_some h
      refine ww_callVV0 31 X dX13_sign8_31 mY_X13_keep8 mL_X13_402 (rcv_spec f31) ⟨_, _, rfl⟩ (by decide) (As := [.int ((192 : Int32) ||| (l1 >>> ((6 : Int32) &&& 31)))]) (rest := []) rfl rfl ⟨Nat.le_of_ble_eq_true rfl, Nat.le_of_ble_eq_true rfl⟩ (Nat.le_of_ble_eq_true rfl) (fun l D A => c_X13_keep8 l D A e31) ?_
      refine ww_aload_n 34 X dX13_sign8_34 0 rfl rfl ?_
      refine ww_sipush 35 X (v := (128 : Int32)) dX13_sign8_35 (by decide) ?_
      refine ww_iload_n 38 X dX13_sign8_38 1 rfl rfl ?_
      refine ww_bipush 39 X (v := (63 : Int32)) dX13_sign8_39 (by decide) ?_
      refine ww_iand 41 X dX13_sign8_41 ?_
      refine ww_ior 42 X dX13_sign8_42 ?_
      obtain ⟨_, f43, h⟩ := bO_some h
      obtain ⟨M43, e43, h⟩ := bO_some h
      refine ww_callVV0 43 X dX13_sign8_43 mY_X13_keep8 mL_X13_402 (rcv_spec f43) ⟨_, _, rfl⟩ (by decide) (As := [.int ((128 : Int32) ||| (l1 &&& (63 : Int32)))]) (rest := []) rfl rfl ⟨Nat.le_of_ble_eq_true rfl, Nat.le_of_ble_eq_true rfl⟩ (Nat.le_of_ble_eq_true rfl) (fun l D A => c_X13_keep8 l D A e43) ?_
      refine ww_goto 46 151 X dX13_sign8_46 (by decide) ?_
      exact ww_vretE 151 X hQ dX13_sign8_151 h
  · replace h := (if_neg q).symm.trans h
    refine ww_aload_n 7 X dX13_sign8_7 0 rfl rfl ?_
    refine ww_iload_n 8 X dX13_sign8_8 1 rfl rfl ?_
    obtain ⟨_, f9, h⟩ := bO_some h
    obtain ⟨M9, e9, h⟩ := bO_some h
    refine ww_callVV0 9 X dX13_sign8_9 mY_X13_keep8 mL_X13_402 (rcv_spec f9) ⟨_, _, rfl⟩ (by decide) (As := [.int l1]) (rest := []) rfl rfl ⟨Nat.le_of_ble_eq_true rfl, Nat.le_of_ble_eq_true rfl⟩ (Nat.le_of_ble_eq_true rfl) (fun l D A => c_X13_keep8 l D A e9) ?_
    refine ww_goto 12 151 X dX13_sign8_12 (by decide) ?_
    exact ww_vretE 151 X hQ dX13_sign8_151 h
theorem c_X13_sign8 {G : mG} {F sz : Nat} {M0 : mM} (l : Launch) (D : mD) (A : Nat → Prop) {l0 : Nat} {l1 : Int32} {M : mM} (h : P_X13_sign8 G F l0 l1 M = some M0) : mMetV l D G A yX13_sign8 cX13_sign8 2 none 1 21 0 0 [.ref l0, .int l1] M sz M0 sz := mMetV_of l D G A (by decide) (Nat.le_of_ble_eq_true rfl) (fun x X hQ => wP_X13_sign8 X hQ h)
/-! SealedTokensModel.escape()V -/
theorem dX13_escape_0 : decode cX13_escape 0 = .ok (.aload_n 0, 1) := by decide +kernel
theorem dX13_escape_1 : decode cX13_escape 1 = .ok (.invokevirtual 351, 3) := by decide +kernel
theorem dX13_escape_4 : decode cX13_escape 4 = .ok (.istore_n 1, 1) := by decide +kernel
theorem dX13_escape_5 : decode cX13_escape 5 = .ok (.iload_n 1, 1) := by decide +kernel
theorem dX13_escape_6 : decode cX13_escape 6 = .ok (.ifCond .ge 7, 3) := by decide +kernel
theorem dX13_escape_9 : decode cX13_escape 9 = .ok (.iconst (-1), 1) := by decide +kernel
theorem dX13_escape_10 : decode cX13_escape 10 = .ok (.goto 10, 3) := by decide +kernel
theorem dX13_escape_13 : decode cX13_escape 13 = .ok (.ldc_w 430, 3) := by decide +kernel
theorem dX13_escape_16 : decode cX13_escape 16 = .ok (.iload_n 1, 1) := by decide +kernel
theorem dX13_escape_17 : decode cX13_escape 17 = .ok (.invokevirtual 432, 3) := by decide +kernel
theorem dX13_escape_20 : decode cX13_escape 20 = .ok (.istore_n 2, 1) := by decide +kernel
theorem dX13_escape_21 : decode cX13_escape 21 = .ok (.iload_n 2, 1) := by decide +kernel
theorem dX13_escape_22 : decode cX13_escape 22 = .ok (.ifCond .ge 12, 3) := by decide +kernel
theorem dX13_escape_25 : decode cX13_escape 25 = .ok (.aload_n 0, 1) := by decide +kernel
theorem dX13_escape_26 : decode cX13_escape 26 = .ok (.aload_n 0, 1) := by decide +kernel
theorem dX13_escape_27 : decode cX13_escape 27 = .ok (.getfield 336, 3) := by decide +kernel
theorem dX13_escape_30 : decode cX13_escape 30 = .ok (.invokevirtual 375, 3) := by decide +kernel
theorem dX13_escape_33 : decode cX13_escape 33 = .ok (.return_, 1) := by decide +kernel
theorem dX13_escape_34 : decode cX13_escape 34 = .ok (.aload_n 0, 1) := by decide +kernel
theorem dX13_escape_35 : decode cX13_escape 35 = .ok (.dup, 1) := by decide +kernel
theorem dX13_escape_36 : decode cX13_escape 36 = .ok (.getfield 336, 3) := by decide +kernel
theorem dX13_escape_39 : decode cX13_escape 39 = .ok (.iconst 1, 1) := by decide +kernel
theorem dX13_escape_40 : decode cX13_escape 40 = .ok (.iadd, 1) := by decide +kernel
theorem dX13_escape_41 : decode cX13_escape 41 = .ok (.putfield 336, 3) := by decide +kernel
theorem dX13_escape_44 : decode cX13_escape 44 = .ok (.iload_n 1, 1) := by decide +kernel
theorem dX13_escape_45 : decode cX13_escape 45 = .ok (.bipush 117, 2) := by decide +kernel
theorem dX13_escape_47 : decode cX13_escape 47 = .ok (.if_icmp .eq 60, 3) := by decide +kernel
theorem dX13_escape_50 : decode cX13_escape 50 = .ok (.aload_n 0, 1) := by decide +kernel
theorem dX13_escape_51 : decode cX13_escape 51 = .ok (.iload_n 2, 1) := by decide +kernel
theorem dX13_escape_52 : decode cX13_escape 52 = .ok (.iconst 3, 1) := by decide +kernel
theorem dX13_escape_53 : decode cX13_escape 53 = .ok (.if_icmp .ge 7, 3) := by decide +kernel
theorem dX13_escape_56 : decode cX13_escape 56 = .ok (.iload_n 1, 1) := by decide +kernel
theorem dX13_escape_57 : decode cX13_escape 57 = .ok (.goto 46, 3) := by decide +kernel
theorem dX13_escape_60 : decode cX13_escape 60 = .ok (.iload_n 2, 1) := by decide +kernel
theorem dX13_escape_61 : decode cX13_escape 61 = .ok (.iconst 3, 1) := by decide +kernel
theorem dX13_escape_62 : decode cX13_escape 62 = .ok (.if_icmp .ne 8, 3) := by decide +kernel
theorem dX13_escape_65 : decode cX13_escape 65 = .ok (.bipush 8, 2) := by decide +kernel
theorem dX13_escape_67 : decode cX13_escape 67 = .ok (.goto 36, 3) := by decide +kernel
theorem dX13_escape_70 : decode cX13_escape 70 = .ok (.iload_n 2, 1) := by decide +kernel
theorem dX13_escape_71 : decode cX13_escape 71 = .ok (.iconst 4, 1) := by decide +kernel
theorem dX13_escape_72 : decode cX13_escape 72 = .ok (.if_icmp .ne 8, 3) := by decide +kernel
theorem dX13_escape_75 : decode cX13_escape 75 = .ok (.bipush 12, 2) := by decide +kernel
theorem dX13_escape_77 : decode cX13_escape 77 = .ok (.goto 26, 3) := by decide +kernel
theorem dX13_escape_80 : decode cX13_escape 80 = .ok (.iload_n 2, 1) := by decide +kernel
theorem dX13_escape_81 : decode cX13_escape 81 = .ok (.iconst 5, 1) := by decide +kernel
theorem dX13_escape_82 : decode cX13_escape 82 = .ok (.if_icmp .ne 8, 3) := by decide +kernel
theorem dX13_escape_85 : decode cX13_escape 85 = .ok (.bipush 10, 2) := by decide +kernel
theorem dX13_escape_87 : decode cX13_escape 87 = .ok (.goto 16, 3) := by decide +kernel
theorem dX13_escape_90 : decode cX13_escape 90 = .ok (.iload_n 2, 1) := by decide +kernel
theorem dX13_escape_91 : decode cX13_escape 91 = .ok (.bipush 6, 2) := by decide +kernel
theorem dX13_escape_93 : decode cX13_escape 93 = .ok (.if_icmp .ne 8, 3) := by decide +kernel
theorem dX13_escape_96 : decode cX13_escape 96 = .ok (.bipush 13, 2) := by decide +kernel
theorem dX13_escape_98 : decode cX13_escape 98 = .ok (.goto 5, 3) := by decide +kernel
theorem dX13_escape_101 : decode cX13_escape 101 = .ok (.bipush 9, 2) := by decide +kernel
theorem dX13_escape_103 : decode cX13_escape 103 = .ok (.invokevirtual 402, 3) := by decide +kernel
theorem dX13_escape_106 : decode cX13_escape 106 = .ok (.return_, 1) := by decide +kernel
theorem dX13_escape_107 : decode cX13_escape 107 = .ok (.aload_n 0, 1) := by decide +kernel
theorem dX13_escape_108 : decode cX13_escape 108 = .ok (.iconst 0, 1) := by decide +kernel
theorem dX13_escape_109 : decode cX13_escape 109 = .ok (.invokevirtual 436, 3) := by decide +kernel
theorem dX13_escape_112 : decode cX13_escape 112 = .ok (.istore_n 3, 1) := by decide +kernel
theorem dX13_escape_113 : decode cX13_escape 113 = .ok (.aload_n 0, 1) := by decide +kernel
theorem dX13_escape_114 : decode cX13_escape 114 = .ok (.invokevirtual 371, 3) := by decide +kernel
theorem dX13_escape_117 : decode cX13_escape 117 = .ok (.ifCond .eq 103, 3) := by decide +kernel
theorem dX13_escape_120 : decode cX13_escape 120 = .ok (.iload_n 3, 1) := by decide +kernel
theorem dX13_escape_121 : decode cX13_escape 121 = .ok (.ldc_w 440, 3) := by decide +kernel
theorem dX13_escape_124 : decode cX13_escape 124 = .ok (.if_icmp .lt 96, 3) := by decide +kernel
theorem dX13_escape_127 : decode cX13_escape 127 = .ok (.iload_n 3, 1) := by decide +kernel
theorem dX13_escape_128 : decode cX13_escape 128 = .ok (.ldc_w 441, 3) := by decide +kernel
theorem dX13_escape_131 : decode cX13_escape 131 = .ok (.if_icmp .gt 89, 3) := by decide +kernel
theorem dX13_escape_134 : decode cX13_escape 134 = .ok (.aload_n 0, 1) := by decide +kernel
theorem dX13_escape_135 : decode cX13_escape 135 = .ok (.invokevirtual 351, 3) := by decide +kernel
theorem dX13_escape_138 : decode cX13_escape 138 = .ok (.bipush 92, 2) := by decide +kernel
theorem dX13_escape_140 : decode cX13_escape 140 = .ok (.if_icmp .ne 72, 3) := by decide +kernel
theorem dX13_escape_143 : decode cX13_escape 143 = .ok (.aload_n 0, 1) := by decide +kernel
theorem dX13_escape_144 : decode cX13_escape 144 = .ok (.dup, 1) := by decide +kernel
theorem dX13_escape_145 : decode cX13_escape 145 = .ok (.getfield 336, 3) := by decide +kernel
theorem dX13_escape_148 : decode cX13_escape 148 = .ok (.iconst 1, 1) := by decide +kernel
theorem dX13_escape_149 : decode cX13_escape 149 = .ok (.iadd, 1) := by decide +kernel
theorem dX13_escape_150 : decode cX13_escape 150 = .ok (.putfield 336, 3) := by decide +kernel
theorem dX13_escape_153 : decode cX13_escape 153 = .ok (.aload_n 0, 1) := by decide +kernel
theorem dX13_escape_154 : decode cX13_escape 154 = .ok (.invokevirtual 351, 3) := by decide +kernel
theorem dX13_escape_157 : decode cX13_escape 157 = .ok (.bipush 117, 2) := by decide +kernel
theorem dX13_escape_159 : decode cX13_escape 159 = .ok (.if_icmp .ne 42, 3) := by decide +kernel
theorem dX13_escape_162 : decode cX13_escape 162 = .ok (.aload_n 0, 1) := by decide +kernel
theorem dX13_escape_163 : decode cX13_escape 163 = .ok (.dup, 1) := by decide +kernel
theorem dX13_escape_164 : decode cX13_escape 164 = .ok (.getfield 336, 3) := by decide +kernel
theorem dX13_escape_167 : decode cX13_escape 167 = .ok (.iconst 1, 1) := by decide +kernel
theorem dX13_escape_168 : decode cX13_escape 168 = .ok (.iadd, 1) := by decide +kernel
theorem dX13_escape_169 : decode cX13_escape 169 = .ok (.putfield 336, 3) := by decide +kernel
theorem dX13_escape_172 : decode cX13_escape 172 = .ok (.aload_n 0, 1) := by decide +kernel
theorem dX13_escape_173 : decode cX13_escape 173 = .ok (.iconst 1, 1) := by decide +kernel
theorem dX13_escape_174 : decode cX13_escape 174 = .ok (.invokevirtual 436, 3) := by decide +kernel
theorem dX13_escape_177 : decode cX13_escape 177 = .ok (.istore 4, 2) := by decide +kernel
theorem dX13_escape_179 : decode cX13_escape 179 = .ok (.ldc 13, 2) := by decide +kernel
theorem dX13_escape_181 : decode cX13_escape 181 = .ok (.iload_n 3, 1) := by decide +kernel
theorem dX13_escape_182 : decode cX13_escape 182 = .ok (.ldc_w 440, 3) := by decide +kernel
theorem dX13_escape_185 : decode cX13_escape 185 = .ok (.isub, 1) := by decide +kernel
theorem dX13_escape_186 : decode cX13_escape 186 = .ok (.bipush 10, 2) := by decide +kernel
theorem dX13_escape_188 : decode cX13_escape 188 = .ok (.ishl, 1) := by decide +kernel
theorem dX13_escape_189 : decode cX13_escape 189 = .ok (.iadd, 1) := by decide +kernel
theorem dX13_escape_190 : decode cX13_escape 190 = .ok (.iload 4, 2) := by decide +kernel
theorem dX13_escape_192 : decode cX13_escape 192 = .ok (.iadd, 1) := by decide +kernel
theorem dX13_escape_193 : decode cX13_escape 193 = .ok (.ldc_w 442, 3) := by decide +kernel
theorem dX13_escape_196 : decode cX13_escape 196 = .ok (.isub, 1) := by decide +kernel
theorem dX13_escape_197 : decode cX13_escape 197 = .ok (.istore_n 3, 1) := by decide +kernel
theorem dX13_escape_198 : decode cX13_escape 198 = .ok (.goto 22, 3) := by decide +kernel
theorem dX13_escape_201 : decode cX13_escape 201 = .ok (.aload_n 0, 1) := by decide +kernel
theorem dX13_escape_202 : decode cX13_escape 202 = .ok (.aload_n 0, 1) := by decide +kernel
theorem dX13_escape_203 : decode cX13_escape 203 = .ok (.getfield 336, 3) := by decide +kernel
theorem dX13_escape_206 : decode cX13_escape 206 = .ok (.invokevirtual 375, 3) := by decide +kernel
theorem dX13_escape_209 : decode cX13_escape 209 = .ok (.goto 11, 3) := by decide +kernel
theorem dX13_escape_212 : decode cX13_escape 212 = .ok (.aload_n 0, 1) := by decide +kernel
theorem dX13_escape_213 : decode cX13_escape 213 = .ok (.aload_n 0, 1) := by decide +kernel
theorem dX13_escape_214 : decode cX13_escape 214 = .ok (.getfield 336, 3) := by decide +kernel
theorem dX13_escape_217 : decode cX13_escape 217 = .ok (.invokevirtual 375, 3) := by decide +kernel
theorem dX13_escape_220 : decode cX13_escape 220 = .ok (.aload_n 0, 1) := by decide +kernel
theorem dX13_escape_221 : decode cX13_escape 221 = .ok (.invokevirtual 371, 3) := by decide +kernel
theorem dX13_escape_224 : decode cX13_escape 224 = .ok (.ifCond .eq 8, 3) := by decide +kernel
theorem dX13_escape_227 : decode cX13_escape 227 = .ok (.aload_n 0, 1) := by decide +kernel
theorem dX13_escape_228 : decode cX13_escape 228 = .ok (.iload_n 3, 1) := by decide +kernel
theorem dX13_escape_229 : decode cX13_escape 229 = .ok (.invokevirtual 443, 3) := by decide +kernel
theorem dX13_escape_232 : decode cX13_escape 232 = .ok (.return_, 1) := by decide +kernel
abbrev rmX13_escape : Room := { frames := 4, cells := 0, slots := 0, locals := 91 }
set_option maxHeartbeats 4000000 in
set_option maxRecDepth 100000 in
theorem wB_X13_escape_20 {G : mG} {F : Nat} {x : mXT} {sz : Nat} {M0 : mM} (X : mCX G RX13 cX13_escape 5 none "escape" rmX13_escape x) (hQ : mQV x M0 (sz, 0, 0)) {l0 : Nat} {l1 : Int32} {sk0 : Int32} {M : mM} (h : B_X13_escape_20 G F l0 l1 sk0 M = some M0) : WW x (sz, 0, 0) M 20 [(0, .ref l0), (1, .int l1)] [.int sk0] := by
  unfold B_X13_escape_20 at h
  refine ww_istore_n 20 X dX13_escape_20 (lv' := [(0, .ref l0), (1, .int l1), (2, .int sk0)]) rfl (by decide) [1, 2, 0] rfl ?_
  refine ww_iload_n 21 X dX13_escape_21 2 rfl rfl ?_
  refine ww_if_ge 22 34 X dX13_escape_22 (by decide) (fun q => ?_) (fun q => ?_)
  · replace h := (if_pos q).symm.trans h
    refine ww_aload_n 34 X dX13_escape_34 0 rfl rfl ?_
    refine ww_dup 35 X dX13_escape_35 rfl ?_
    obtain ⟨v36, e36, h⟩ := bO_some h
    refine ww_getI 36 X dX13_escape_36 fG_X13_336 e36 ?_
    refine ww_iconst 39 X (v := (1 : Int32)) dX13_escape_39 (by decide) ?_
    refine ww_iadd 40 X dX13_escape_40 ?_
    obtain ⟨M41, e41, h⟩ := bO_some h
    refine ww_putI 41 X dX13_escape_41 (fP_X13_336 _) e41 ?_
    refine ww_iload_n 44 X dX13_escape_44 1 rfl rfl ?_
    refine ww_bipush 45 X (v := (117 : Int32)) dX13_escape_45 (by decide) ?_
    refine ww_icmp_eq 47 107 X dX13_escape_47 (by decide) (fun q => ?_) (fun q => ?_)
    · replace h := (if_pos q).symm.trans h
      refine ww_aload_n 107 X dX13_escape_107 0 rfl rfl ?_
      refine ww_iconst 108 X (v := (0 : Int32)) dX13_escape_108 (by decide) ?_
      obtain ⟨_, f109, h⟩ := bO_some h
      obtain ⟨v109, M109, e109, h⟩ := bP_some h
      refine ww_callVI0 109 X dX13_escape_109 mY_X13_four mL_X13_436 (rcv_spec f109) ⟨_, _, rfl⟩ (by decide) (As := [.int (0 : Int32)]) (rest := []) rfl rfl ⟨Nat.le_of_ble_eq_true rfl, Nat.le_of_ble_eq_true rfl⟩ (Nat.le_of_ble_eq_true rfl) (fun l D A => c_X13_four l D A e109) ?_
      refine ww_istore_n 112 X dX13_escape_112 (lv' := [(0, .ref l0), (1, .int l1), (2, .int sk0), (3, .int v109)]) rfl (by decide) [1, 2, 3, 0] rfl ?_
      refine ww_aload_n 113 X dX13_escape_113 0 rfl rfl ?_
      obtain ⟨_, f114, h⟩ := bO_some h
      obtain ⟨v114, M114, e114, h⟩ := bP_some h
      refine ww_callVI0 114 X dX13_escape_114 mY_X13_good mL_X13_371 (rcv_spec f114) ⟨_, _, rfl⟩ (by decide) (As := []) (rest := []) rfl rfl ⟨Nat.le_of_ble_eq_true rfl, Nat.le_of_ble_eq_true rfl⟩ (Nat.le_of_ble_eq_true rfl) (fun l D A => c_X13_good l D A e114) ?_
      refine ww_if_eq 117 220 X dX13_escape_117 (by decide) (fun q => ?_) (fun q => ?_)
      · replace h := (if_pos q).symm.trans h
        refine ww_aload_n 220 X dX13_escape_220 0 rfl rfl ?_
        obtain ⟨_, f221, h⟩ := bO_some h
        obtain ⟨v221, M221, e221, h⟩ := bP_some h
        refine ww_callVI0 221 X dX13_escape_221 mY_X13_good mL_X13_371 (rcv_spec f221) ⟨_, _, rfl⟩ (by decide) (As := []) (rest := []) rfl rfl ⟨Nat.le_of_ble_eq_true rfl, Nat.le_of_ble_eq_true rfl⟩ (Nat.le_of_ble_eq_true rfl) (fun l D A => c_X13_good l D A e221) ?_
        refine ww_if_eq 224 232 X dX13_escape_224 (by decide) (fun q => ?_) (fun q => ?_)
        · replace h := (if_pos q).symm.trans h
          exact ww_vretE 232 X hQ dX13_escape_232 h
        · replace h := (if_neg q).symm.trans h
          refine ww_aload_n 227 X dX13_escape_227 0 rfl rfl ?_
          refine ww_iload_n 228 X dX13_escape_228 3 rfl rfl ?_
          obtain ⟨_, f229, h⟩ := bO_some h
          obtain ⟨M229, e229, h⟩ := bO_some h
          refine ww_callVV0 229 X dX13_escape_229 mY_X13_sign8 mL_X13_443 (rcv_spec f229) ⟨_, _, rfl⟩ (by decide) (As := [.int v109]) (rest := []) rfl rfl ⟨Nat.le_of_ble_eq_true rfl, Nat.le_of_ble_eq_true rfl⟩ (Nat.le_of_ble_eq_true rfl) (fun l D A => c_X13_sign8 l D A e229) ?_
          exact ww_vretE 232 X hQ dX13_escape_232 h
      · replace h := (if_neg q).symm.trans h
        refine ww_iload_n 120 X dX13_escape_120 3 rfl rfl ?_
        refine ww_ldcw 121 X (v := (55296 : Int32)) dX13_escape_121 kI_X13_440 ?_
        refine ww_icmp_lt 124 220 X dX13_escape_124 (by decide) (fun q => ?_) (fun q => ?_)
        · replace h := (if_pos q).symm.trans h
          refine ww_aload_n 220 X dX13_escape_220 0 rfl rfl ?_
          obtain ⟨_, f221, h⟩ := bO_some h
          obtain ⟨v221, M221, e221, h⟩ := bP_some h
          refine ww_callVI0 221 X dX13_escape_221 mY_X13_good mL_X13_371 (rcv_spec f221) ⟨_, _, rfl⟩ (by decide) (As := []) (rest := []) rfl rfl ⟨Nat.le_of_ble_eq_true rfl, Nat.le_of_ble_eq_true rfl⟩ (Nat.le_of_ble_eq_true rfl) (fun l D A => c_X13_good l D A e221) ?_
          refine ww_if_eq 224 232 X dX13_escape_224 (by decide) (fun q => ?_) (fun q => ?_)
          · replace h := (if_pos q).symm.trans h
            exact ww_vretE 232 X hQ dX13_escape_232 h
          · replace h := (if_neg q).symm.trans h
            refine ww_aload_n 227 X dX13_escape_227 0 rfl rfl ?_
            refine ww_iload_n 228 X dX13_escape_228 3 rfl rfl ?_
            obtain ⟨_, f229, h⟩ := bO_some h
            obtain ⟨M229, e229, h⟩ := bO_some h
            refine ww_callVV0 229 X dX13_escape_229 mY_X13_sign8 mL_X13_443 (rcv_spec f229) ⟨_, _, rfl⟩ (by decide) (As := [.int v109]) (rest := []) rfl rfl ⟨Nat.le_of_ble_eq_true rfl, Nat.le_of_ble_eq_true rfl⟩ (Nat.le_of_ble_eq_true rfl) (fun l D A => c_X13_sign8 l D A e229) ?_
            exact ww_vretE 232 X hQ dX13_escape_232 h
        · replace h := (if_neg q).symm.trans h
          refine ww_iload_n 127 X dX13_escape_127 3 rfl rfl ?_
          refine ww_ldcw 128 X (v := (56319 : Int32)) dX13_escape_128 kI_X13_441 ?_
          refine ww_icmp_gt 131 220 X dX13_escape_131 (by decide) (fun q => ?_) (fun q => ?_)
          · replace h := (if_pos q).symm.trans h
            refine ww_aload_n 220 X dX13_escape_220 0 rfl rfl ?_
            obtain ⟨_, f221, h⟩ := bO_some h
            obtain ⟨v221, M221, e221, h⟩ := bP_some h
            refine ww_callVI0 221 X dX13_escape_221 mY_X13_good mL_X13_371 (rcv_spec f221) ⟨_, _, rfl⟩ (by decide) (As := []) (rest := []) rfl rfl ⟨Nat.le_of_ble_eq_true rfl, Nat.le_of_ble_eq_true rfl⟩ (Nat.le_of_ble_eq_true rfl) (fun l D A => c_X13_good l D A e221) ?_
            refine ww_if_eq 224 232 X dX13_escape_224 (by decide) (fun q => ?_) (fun q => ?_)
            · replace h := (if_pos q).symm.trans h
              exact ww_vretE 232 X hQ dX13_escape_232 h
            · replace h := (if_neg q).symm.trans h
              refine ww_aload_n 227 X dX13_escape_227 0 rfl rfl ?_
              refine ww_iload_n 228 X dX13_escape_228 3 rfl rfl ?_
              obtain ⟨_, f229, h⟩ := bO_some h
              obtain ⟨M229, e229, h⟩ := bO_some h
              refine ww_callVV0 229 X dX13_escape_229 mY_X13_sign8 mL_X13_443 (rcv_spec f229) ⟨_, _, rfl⟩ (by decide) (As := [.int v109]) (rest := []) rfl rfl ⟨Nat.le_of_ble_eq_true rfl, Nat.le_of_ble_eq_true rfl⟩ (Nat.le_of_ble_eq_true rfl) (fun l D A => c_X13_sign8 l D A e229) ?_
              exact ww_vretE 232 X hQ dX13_escape_232 h
          · replace h := (if_neg q).symm.trans h
            refine ww_aload_n 134 X dX13_escape_134 0 rfl rfl ?_
            obtain ⟨_, f135, h⟩ := bO_some h
            obtain ⟨v135, M135, e135, h⟩ := bP_some h
            refine ww_callVI0 135 X dX13_escape_135 mY_X13_at mL_X13_351 (rcv_spec f135) ⟨_, _, rfl⟩ (by decide) (As := []) (rest := []) rfl rfl ⟨Nat.le_of_ble_eq_true rfl, Nat.le_of_ble_eq_true rfl⟩ (Nat.le_of_ble_eq_true rfl) (fun l D A => c_X13_at l D A e135) ?_
            refine ww_bipush 138 X (v := (92 : Int32)) dX13_escape_138 (by decide) ?_
            refine ww_icmp_ne 140 212 X dX13_escape_140 (by decide) (fun q => ?_) (fun q => ?_)
            · replace h := (if_neg q).symm.trans h
              refine ww_aload_n 212 X dX13_escape_212 0 rfl rfl ?_
              refine ww_aload_n 213 X dX13_escape_213 0 rfl rfl ?_
              obtain ⟨v214, e214, h⟩ := bO_some h
              refine ww_getI 214 X dX13_escape_214 fG_X13_336 e214 ?_
              obtain ⟨_, f217, h⟩ := bO_some h
              obtain ⟨M217, e217, h⟩ := bO_some h
              refine ww_callVV0 217 X dX13_escape_217 mY_X13_fail mL_X13_375 (rcv_spec f217) ⟨_, _, rfl⟩ (by decide) (As := [.int v214]) (rest := []) rfl rfl ⟨Nat.le_of_ble_eq_true rfl, Nat.le_of_ble_eq_true rfl⟩ (Nat.le_of_ble_eq_true rfl) (fun l D A => c_X13_fail l D A e217) ?_
              refine ww_aload_n 220 X dX13_escape_220 0 rfl rfl ?_
              obtain ⟨_, f221, h⟩ := bO_some h
              obtain ⟨v221, M221, e221, h⟩ := bP_some h
              refine ww_callVI0 221 X dX13_escape_221 mY_X13_good mL_X13_371 (rcv_spec f221) ⟨_, _, rfl⟩ (by decide) (As := []) (rest := []) rfl rfl ⟨Nat.le_of_ble_eq_true rfl, Nat.le_of_ble_eq_true rfl⟩ (Nat.le_of_ble_eq_true rfl) (fun l D A => c_X13_good l D A e221) ?_
              refine ww_if_eq 224 232 X dX13_escape_224 (by decide) (fun q => ?_) (fun q => ?_)
              · replace h := (if_pos q).symm.trans h
                exact ww_vretE 232 X hQ dX13_escape_232 h
              · replace h := (if_neg q).symm.trans h
                refine ww_aload_n 227 X dX13_escape_227 0 rfl rfl ?_
                refine ww_iload_n 228 X dX13_escape_228 3 rfl rfl ?_
                obtain ⟨_, f229, h⟩ := bO_some h
                obtain ⟨M229, e229, h⟩ := bO_some h
                refine ww_callVV0 229 X dX13_escape_229 mY_X13_sign8 mL_X13_443 (rcv_spec f229) ⟨_, _, rfl⟩ (by decide) (As := [.int v109]) (rest := []) rfl rfl ⟨Nat.le_of_ble_eq_true rfl, Nat.le_of_ble_eq_true rfl⟩ (Nat.le_of_ble_eq_true rfl) (fun l D A => c_X13_sign8 l D A e229) ?_
                exact ww_vretE 232 X hQ dX13_escape_232 h
            · replace h := (if_pos q).symm.trans h
              refine ww_aload_n 143 X dX13_escape_143 0 rfl rfl ?_
              refine ww_dup 144 X dX13_escape_144 rfl ?_
              obtain ⟨v145, e145, h⟩ := bO_some h
              refine ww_getI 145 X dX13_escape_145 fG_X13_336 e145 ?_
              refine ww_iconst 148 X (v := (1 : Int32)) dX13_escape_148 (by decide) ?_
              refine ww_iadd 149 X dX13_escape_149 ?_
              obtain ⟨M150, e150, h⟩ := bO_some h
              refine ww_putI 150 X dX13_escape_150 (fP_X13_336 _) e150 ?_
              refine ww_aload_n 153 X dX13_escape_153 0 rfl rfl ?_
              obtain ⟨_, f154, h⟩ := bO_some h
              obtain ⟨v154, M154, e154, h⟩ := bP_some h
              refine ww_callVI0 154 X dX13_escape_154 mY_X13_at mL_X13_351 (rcv_spec f154) ⟨_, _, rfl⟩ (by decide) (As := []) (rest := []) rfl rfl ⟨Nat.le_of_ble_eq_true rfl, Nat.le_of_ble_eq_true rfl⟩ (Nat.le_of_ble_eq_true rfl) (fun l D A => c_X13_at l D A e154) ?_
              refine ww_bipush 157 X (v := (117 : Int32)) dX13_escape_157 (by decide) ?_
              refine ww_icmp_ne 159 201 X dX13_escape_159 (by decide) (fun q => ?_) (fun q => ?_)
              · replace h := (if_neg q).symm.trans h
                refine ww_aload_n 201 X dX13_escape_201 0 rfl rfl ?_
                refine ww_aload_n 202 X dX13_escape_202 0 rfl rfl ?_
                obtain ⟨v203, e203, h⟩ := bO_some h
                refine ww_getI 203 X dX13_escape_203 fG_X13_336 e203 ?_
                obtain ⟨_, f206, h⟩ := bO_some h
                obtain ⟨M206, e206, h⟩ := bO_some h
                refine ww_callVV0 206 X dX13_escape_206 mY_X13_fail mL_X13_375 (rcv_spec f206) ⟨_, _, rfl⟩ (by decide) (As := [.int v203]) (rest := []) rfl rfl ⟨Nat.le_of_ble_eq_true rfl, Nat.le_of_ble_eq_true rfl⟩ (Nat.le_of_ble_eq_true rfl) (fun l D A => c_X13_fail l D A e206) ?_
                refine ww_goto 209 220 X dX13_escape_209 (by decide) ?_
                refine ww_aload_n 220 X dX13_escape_220 0 rfl rfl ?_
                obtain ⟨_, f221, h⟩ := bO_some h
                obtain ⟨v221, M221, e221, h⟩ := bP_some h
                refine ww_callVI0 221 X dX13_escape_221 mY_X13_good mL_X13_371 (rcv_spec f221) ⟨_, _, rfl⟩ (by decide) (As := []) (rest := []) rfl rfl ⟨Nat.le_of_ble_eq_true rfl, Nat.le_of_ble_eq_true rfl⟩ (Nat.le_of_ble_eq_true rfl) (fun l D A => c_X13_good l D A e221) ?_
                refine ww_if_eq 224 232 X dX13_escape_224 (by decide) (fun q => ?_) (fun q => ?_)
                · replace h := (if_pos q).symm.trans h
                  exact ww_vretE 232 X hQ dX13_escape_232 h
                · replace h := (if_neg q).symm.trans h
                  refine ww_aload_n 227 X dX13_escape_227 0 rfl rfl ?_
                  refine ww_iload_n 228 X dX13_escape_228 3 rfl rfl ?_
                  obtain ⟨_, f229, h⟩ := bO_some h
                  obtain ⟨M229, e229, h⟩ := bO_some h
                  refine ww_callVV0 229 X dX13_escape_229 mY_X13_sign8 mL_X13_443 (rcv_spec f229) ⟨_, _, rfl⟩ (by decide) (As := [.int v109]) (rest := []) rfl rfl ⟨Nat.le_of_ble_eq_true rfl, Nat.le_of_ble_eq_true rfl⟩ (Nat.le_of_ble_eq_true rfl) (fun l D A => c_X13_sign8 l D A e229) ?_
                  exact ww_vretE 232 X hQ dX13_escape_232 h
              · replace h := (if_pos q).symm.trans h
                refine ww_aload_n 162 X dX13_escape_162 0 rfl rfl ?_
                refine ww_dup 163 X dX13_escape_163 rfl ?_
                obtain ⟨v164, e164, h⟩ := bO_some h
                refine ww_getI 164 X dX13_escape_164 fG_X13_336 e164 ?_
                refine ww_iconst 167 X (v := (1 : Int32)) dX13_escape_167 (by decide) ?_
                refine ww_iadd 168 X dX13_escape_168 ?_
                obtain ⟨M169, e169, h⟩ := bO_some h
                refine ww_putI 169 X dX13_escape_169 (fP_X13_336 _) e169 ?_
                refine ww_aload_n 172 X dX13_escape_172 0 rfl rfl ?_
                refine ww_iconst 173 X (v := (1 : Int32)) dX13_escape_173 (by decide) ?_
                obtain ⟨_, f174, h⟩ := bO_some h
                obtain ⟨v174, M174, e174, h⟩ := bP_some h
                refine ww_callVI0 174 X dX13_escape_174 mY_X13_four mL_X13_436 (rcv_spec f174) ⟨_, _, rfl⟩ (by decide) (As := [.int (1 : Int32)]) (rest := []) rfl rfl ⟨Nat.le_of_ble_eq_true rfl, Nat.le_of_ble_eq_true rfl⟩ (Nat.le_of_ble_eq_true rfl) (fun l D A => c_X13_four l D A e174) ?_
                refine ww_istore 177 X dX13_escape_177 (lv' := [(0, .ref l0), (1, .int l1), (2, .int sk0), (3, .int v109), (4, .int v174)]) (by decide) [1, 2, 3, 4, 0] rfl ?_
                refine ww_ldc 179 X (v := (65536 : Int32)) dX13_escape_179 kI_X13_13 ?_
                refine ww_iload_n 181 X dX13_escape_181 3 rfl rfl ?_
                refine ww_ldcw 182 X (v := (55296 : Int32)) dX13_escape_182 kI_X13_440 ?_
                refine ww_isub 185 X dX13_escape_185 ?_
                refine ww_bipush 186 X (v := (10 : Int32)) dX13_escape_186 (by decide) ?_
                refine ww_ishl 188 X dX13_escape_188 ?_
                refine ww_iadd 189 X dX13_escape_189 ?_
                refine ww_iload 190 X dX13_escape_190 4 rfl ?_
                refine ww_iadd 192 X dX13_escape_192 ?_
                refine ww_ldcw 193 X (v := (56320 : Int32)) dX13_escape_193 kI_X13_442 ?_
                refine ww_isub 196 X dX13_escape_196 ?_
                refine ww_istore_n 197 X dX13_escape_197 (lv' := [(0, .ref l0), (1, .int l1), (2, .int sk0), (3, .int ((((65536 : Int32) + ((v109 - (55296 : Int32)) <<< ((10 : Int32) &&& 31))) + v174) - (56320 : Int32))), (4, .int v174)]) rfl (by decide) [1, 2, 3, 0, 4] rfl ?_
                refine ww_goto 198 220 X dX13_escape_198 (by decide) ?_
                refine ww_aload_n 220 X dX13_escape_220 0 rfl rfl ?_
                obtain ⟨_, f221, h⟩ := bO_some h
                obtain ⟨v221, M221, e221, h⟩ := bP_some h
                refine ww_callVI0 221 X dX13_escape_221 mY_X13_good mL_X13_371 (rcv_spec f221) ⟨_, _, rfl⟩ (by decide) (As := []) (rest := []) rfl rfl ⟨Nat.le_of_ble_eq_true rfl, Nat.le_of_ble_eq_true rfl⟩ (Nat.le_of_ble_eq_true rfl) (fun l D A => c_X13_good l D A e221) ?_
                refine ww_if_eq 224 232 X dX13_escape_224 (by decide) (fun q => ?_) (fun q => ?_)
                · replace h := (if_pos q).symm.trans h
                  exact ww_vretE 232 X hQ dX13_escape_232 h
                · replace h := (if_neg q).symm.trans h
                  refine ww_aload_n 227 X dX13_escape_227 0 rfl rfl ?_
                  refine ww_iload_n 228 X dX13_escape_228 3 rfl rfl ?_
                  obtain ⟨_, f229, h⟩ := bO_some h
                  obtain ⟨M229, e229, h⟩ := bO_some h
                  refine ww_callVV0 229 X dX13_escape_229 mY_X13_sign8 mL_X13_443 (rcv_spec f229) ⟨_, _, rfl⟩ (by decide) (As := [.int ((((65536 : Int32) + ((v109 - (55296 : Int32)) <<< ((10 : Int32) &&& 31))) + v174) - (56320 : Int32))]) (rest := []) rfl rfl ⟨Nat.le_of_ble_eq_true rfl, Nat.le_of_ble_eq_true rfl⟩ (Nat.le_of_ble_eq_true rfl) (fun l D A => c_X13_sign8 l D A e229) ?_
                  exact ww_vretE 232 X hQ dX13_escape_232 h
    · replace h := (if_neg q).symm.trans h
      refine ww_aload_n 50 X dX13_escape_50 0 rfl rfl ?_
      refine ww_iload_n 51 X dX13_escape_51 2 rfl rfl ?_
      refine ww_iconst 52 X (v := (3 : Int32)) dX13_escape_52 (by decide) ?_
      refine ww_icmp_ge 53 60 X dX13_escape_53 (by decide) (fun q => ?_) (fun q => ?_)
      · replace h := (if_pos q).symm.trans h
        refine ww_iload_n 60 X dX13_escape_60 2 rfl rfl ?_
        refine ww_iconst 61 X (v := (3 : Int32)) dX13_escape_61 (by decide) ?_
        refine ww_icmp_ne 62 70 X dX13_escape_62 (by decide) (fun q => ?_) (fun q => ?_)
        · replace h := (if_neg q).symm.trans h
          refine ww_iload_n 70 X dX13_escape_70 2 rfl rfl ?_
          refine ww_iconst 71 X (v := (4 : Int32)) dX13_escape_71 (by decide) ?_
          refine ww_icmp_ne 72 80 X dX13_escape_72 (by decide) (fun q => ?_) (fun q => ?_)
          · replace h := (if_neg q).symm.trans h
            refine ww_iload_n 80 X dX13_escape_80 2 rfl rfl ?_
            refine ww_iconst 81 X (v := (5 : Int32)) dX13_escape_81 (by decide) ?_
            refine ww_icmp_ne 82 90 X dX13_escape_82 (by decide) (fun q => ?_) (fun q => ?_)
            · replace h := (if_neg q).symm.trans h
              refine ww_iload_n 90 X dX13_escape_90 2 rfl rfl ?_
              refine ww_bipush 91 X (v := (6 : Int32)) dX13_escape_91 (by decide) ?_
              refine ww_icmp_ne 93 101 X dX13_escape_93 (by decide) (fun q => ?_) (fun q => ?_)
              · replace h := (if_neg q).symm.trans h
                refine ww_bipush 101 X (v := (9 : Int32)) dX13_escape_101 (by decide) ?_
                obtain ⟨_, f103, h⟩ := bO_some h
                obtain ⟨M103, e103, h⟩ := bO_some h
                refine ww_callVV0 103 X dX13_escape_103 mY_X13_keep8 mL_X13_402 (rcv_spec f103) ⟨_, _, rfl⟩ (by decide) (As := [.int (9 : Int32)]) (rest := []) rfl rfl ⟨Nat.le_of_ble_eq_true rfl, Nat.le_of_ble_eq_true rfl⟩ (Nat.le_of_ble_eq_true rfl) (fun l D A => c_X13_keep8 l D A e103) ?_
                exact ww_vretE 106 X hQ dX13_escape_106 h
              · replace h := (if_pos q).symm.trans h
                refine ww_bipush 96 X (v := (13 : Int32)) dX13_escape_96 (by decide) ?_
                refine ww_goto 98 103 X dX13_escape_98 (by decide) ?_
                obtain ⟨_, f103, h⟩ := bO_some h
                obtain ⟨M103, e103, h⟩ := bO_some h
                refine ww_callVV0 103 X dX13_escape_103 mY_X13_keep8 mL_X13_402 (rcv_spec f103) ⟨_, _, rfl⟩ (by decide) (As := [.int (13 : Int32)]) (rest := []) rfl rfl ⟨Nat.le_of_ble_eq_true rfl, Nat.le_of_ble_eq_true rfl⟩ (Nat.le_of_ble_eq_true rfl) (fun l D A => c_X13_keep8 l D A e103) ?_
                exact ww_vretE 106 X hQ dX13_escape_106 h
            · replace h := (if_pos q).symm.trans h
              refine ww_bipush 85 X (v := (10 : Int32)) dX13_escape_85 (by decide) ?_
              refine ww_goto 87 103 X dX13_escape_87 (by decide) ?_
              obtain ⟨_, f103, h⟩ := bO_some h
              obtain ⟨M103, e103, h⟩ := bO_some h
              refine ww_callVV0 103 X dX13_escape_103 mY_X13_keep8 mL_X13_402 (rcv_spec f103) ⟨_, _, rfl⟩ (by decide) (As := [.int (10 : Int32)]) (rest := []) rfl rfl ⟨Nat.le_of_ble_eq_true rfl, Nat.le_of_ble_eq_true rfl⟩ (Nat.le_of_ble_eq_true rfl) (fun l D A => c_X13_keep8 l D A e103) ?_
              exact ww_vretE 106 X hQ dX13_escape_106 h
          · replace h := (if_pos q).symm.trans h
            refine ww_bipush 75 X (v := (12 : Int32)) dX13_escape_75 (by decide) ?_
            refine ww_goto 77 103 X dX13_escape_77 (by decide) ?_
            obtain ⟨_, f103, h⟩ := bO_some h
            obtain ⟨M103, e103, h⟩ := bO_some h
            refine ww_callVV0 103 X dX13_escape_103 mY_X13_keep8 mL_X13_402 (rcv_spec f103) ⟨_, _, rfl⟩ (by decide) (As := [.int (12 : Int32)]) (rest := []) rfl rfl ⟨Nat.le_of_ble_eq_true rfl, Nat.le_of_ble_eq_true rfl⟩ (Nat.le_of_ble_eq_true rfl) (fun l D A => c_X13_keep8 l D A e103) ?_
            exact ww_vretE 106 X hQ dX13_escape_106 h
        · replace h := (if_pos q).symm.trans h
          refine ww_bipush 65 X (v := (8 : Int32)) dX13_escape_65 (by decide) ?_
          refine ww_goto 67 103 X dX13_escape_67 (by decide) ?_
          obtain ⟨_, f103, h⟩ := bO_some h
          obtain ⟨M103, e103, h⟩ := bO_some h
          refine ww_callVV0 103 X dX13_escape_103 mY_X13_keep8 mL_X13_402 (rcv_spec f103) ⟨_, _, rfl⟩ (by decide) (As := [.int (8 : Int32)]) (rest := []) rfl rfl ⟨Nat.le_of_ble_eq_true rfl, Nat.le_of_ble_eq_true rfl⟩ (Nat.le_of_ble_eq_true rfl) (fun l D A => c_X13_keep8 l D A e103) ?_
          exact ww_vretE 106 X hQ dX13_escape_106 h
      · replace h := (if_neg q).symm.trans h
        refine ww_iload_n 56 X dX13_escape_56 1 rfl rfl ?_
        refine ww_goto 57 103 X dX13_escape_57 (by decide) ?_
        obtain ⟨_, f103, h⟩ := bO_some h
        obtain ⟨M103, e103, h⟩ := bO_some h
        refine ww_callVV0 103 X dX13_escape_103 mY_X13_keep8 mL_X13_402 (rcv_spec f103) ⟨_, _, rfl⟩ (by decide) (As := [.int l1]) (rest := []) rfl rfl ⟨Nat.le_of_ble_eq_true rfl, Nat.le_of_ble_eq_true rfl⟩ (Nat.le_of_ble_eq_true rfl) (fun l D A => c_X13_keep8 l D A e103) ?_
        exact ww_vretE 106 X hQ dX13_escape_106 h
  · replace h := (if_neg q).symm.trans h
    refine ww_aload_n 25 X dX13_escape_25 0 rfl rfl ?_
    refine ww_aload_n 26 X dX13_escape_26 0 rfl rfl ?_
    obtain ⟨v27, e27, h⟩ := bO_some h
    refine ww_getI 27 X dX13_escape_27 fG_X13_336 e27 ?_
    obtain ⟨_, f30, h⟩ := bO_some h
    obtain ⟨M30, e30, h⟩ := bO_some h
    refine ww_callVV0 30 X dX13_escape_30 mY_X13_fail mL_X13_375 (rcv_spec f30) ⟨_, _, rfl⟩ (by decide) (As := [.int v27]) (rest := []) rfl rfl ⟨Nat.le_of_ble_eq_true rfl, Nat.le_of_ble_eq_true rfl⟩ (Nat.le_of_ble_eq_true rfl) (fun l D A => c_X13_fail l D A e30) ?_
    exact ww_vretE 33 X hQ dX13_escape_33 h
set_option maxHeartbeats 4000000 in
set_option maxRecDepth 100000 in
theorem wP_X13_escape {G : mG} {F : Nat} {x : mXT} {sz : Nat} {M0 : mM} (X : mCX G RX13 cX13_escape 5 none "escape" rmX13_escape x) (hQ : mQV x M0 (sz, 0, 0)) {l0 : Nat} {M : mM} (h : P_X13_escape G F l0 M = some M0) : WW x (sz, 0, 0) M 0 [(0, .ref l0)] [] := by
  unfold P_X13_escape at h
  refine ww_aload_n 0 X dX13_escape_0 0 rfl rfl ?_
  obtain ⟨_, f1, h⟩ := bO_some h
  obtain ⟨v1, M1, e1, h⟩ := bP_some h
  refine ww_callVI0 1 X dX13_escape_1 mY_X13_at mL_X13_351 (rcv_spec f1) ⟨_, _, rfl⟩ (by decide) (As := []) (rest := []) rfl rfl ⟨Nat.le_of_ble_eq_true rfl, Nat.le_of_ble_eq_true rfl⟩ (Nat.le_of_ble_eq_true rfl) (fun l D A => c_X13_at l D A e1) ?_
  refine ww_istore_n 4 X dX13_escape_4 (lv' := [(0, .ref l0), (1, .int v1)]) rfl (by decide) [1, 0] rfl ?_
  refine ww_iload_n 5 X dX13_escape_5 1 rfl rfl ?_
  refine ww_if_ge 6 13 X dX13_escape_6 (by decide) (fun q => ?_) (fun q => ?_)
  · replace h := (if_pos q).symm.trans h
    refine ww_ldsw 13 X (j := 78) dX13_escape_13 rfl ?_
    refine ww_iload_n 16 X dX13_escape_16 1 rfl rfl ?_
    obtain ⟨_, f17, h⟩ := bO_some h
    obtain ⟨v17, M17, e17, h⟩ := bP_some h
    refine ww_callVIs 17 X dX13_escape_17 mY_J0_indexOf_0f7a4 mL_X13_432 (rcs_spec f17) rfl (As := [.int v1]) (rest := []) rfl rfl ⟨Nat.le_of_ble_eq_true rfl, Nat.le_of_ble_eq_true rfl⟩ (Nat.le_of_ble_eq_true rfl) (fun l D A => c_J0_indexOf_0f7a4 l D A e17) ?_
    exact (wB_X13_escape_20 X hQ h)
  · replace h := (if_neg q).symm.trans h
    refine ww_iconst 9 X (v := (-1 : Int32)) dX13_escape_9 (by decide) ?_
    refine ww_goto 10 20 X dX13_escape_10 (by decide) ?_
    exact (wB_X13_escape_20 X hQ h)
theorem c_X13_escape {G : mG} {F sz : Nat} {M0 : mM} (l : Launch) (D : mD) (A : Nat → Prop) {l0 : Nat} {M : mM} (h : P_X13_escape G F l0 M = some M0) : mMetV l D G A yX13_escape cX13_escape 5 none 4 91 0 0 [.ref l0] M sz M0 sz := mMetV_of l D G A (by decide) (Nat.le_of_ble_eq_true rfl) (fun x X hQ => wP_X13_escape X hQ h)
/-! SealedTokensModel.wide(I)V -/
theorem dX13_wide_0 : decode cX13_wide 0 = .ok (.iload_n 1, 1) := by decide +kernel
theorem dX13_wide_1 : decode cX13_wide 1 = .ok (.sipush 194, 3) := by decide +kernel
theorem dX13_wide_4 : decode cX13_wide 4 = .ok (.if_icmp .lt 14, 3) := by decide +kernel
theorem dX13_wide_7 : decode cX13_wide 7 = .ok (.iload_n 1, 1) := by decide +kernel
theorem dX13_wide_8 : decode cX13_wide 8 = .ok (.sipush 223, 3) := by decide +kernel
theorem dX13_wide_11 : decode cX13_wide 11 = .ok (.if_icmp .gt 7, 3) := by decide +kernel
theorem dX13_wide_14 : decode cX13_wide 14 = .ok (.iconst 1, 1) := by decide +kernel
theorem dX13_wide_15 : decode cX13_wide 15 = .ok (.goto 40, 3) := by decide +kernel
theorem dX13_wide_18 : decode cX13_wide 18 = .ok (.iload_n 1, 1) := by decide +kernel
theorem dX13_wide_19 : decode cX13_wide 19 = .ok (.sipush 224, 3) := by decide +kernel
theorem dX13_wide_22 : decode cX13_wide 22 = .ok (.if_icmp .lt 14, 3) := by decide +kernel
theorem dX13_wide_25 : decode cX13_wide 25 = .ok (.iload_n 1, 1) := by decide +kernel
theorem dX13_wide_26 : decode cX13_wide 26 = .ok (.sipush 239, 3) := by decide +kernel
theorem dX13_wide_29 : decode cX13_wide 29 = .ok (.if_icmp .gt 7, 3) := by decide +kernel
theorem dX13_wide_32 : decode cX13_wide 32 = .ok (.iconst 2, 1) := by decide +kernel
theorem dX13_wide_33 : decode cX13_wide 33 = .ok (.goto 22, 3) := by decide +kernel
theorem dX13_wide_36 : decode cX13_wide 36 = .ok (.iload_n 1, 1) := by decide +kernel
theorem dX13_wide_37 : decode cX13_wide 37 = .ok (.sipush 240, 3) := by decide +kernel
theorem dX13_wide_40 : decode cX13_wide 40 = .ok (.if_icmp .lt 14, 3) := by decide +kernel
theorem dX13_wide_43 : decode cX13_wide 43 = .ok (.iload_n 1, 1) := by decide +kernel
theorem dX13_wide_44 : decode cX13_wide 44 = .ok (.sipush 244, 3) := by decide +kernel
theorem dX13_wide_47 : decode cX13_wide 47 = .ok (.if_icmp .gt 7, 3) := by decide +kernel
theorem dX13_wide_50 : decode cX13_wide 50 = .ok (.iconst 3, 1) := by decide +kernel
theorem dX13_wide_51 : decode cX13_wide 51 = .ok (.goto 4, 3) := by decide +kernel
theorem dX13_wide_54 : decode cX13_wide 54 = .ok (.iconst 0, 1) := by decide +kernel
theorem dX13_wide_55 : decode cX13_wide 55 = .ok (.istore_n 2, 1) := by decide +kernel
theorem dX13_wide_56 : decode cX13_wide 56 = .ok (.iload_n 2, 1) := by decide +kernel
theorem dX13_wide_57 : decode cX13_wide 57 = .ok (.ifCond .ne 12, 3) := by decide +kernel
theorem dX13_wide_60 : decode cX13_wide 60 = .ok (.aload_n 0, 1) := by decide +kernel
theorem dX13_wide_61 : decode cX13_wide 61 = .ok (.aload_n 0, 1) := by decide +kernel
theorem dX13_wide_62 : decode cX13_wide 62 = .ok (.getfield 336, 3) := by decide +kernel
theorem dX13_wide_65 : decode cX13_wide 65 = .ok (.invokevirtual 375, 3) := by decide +kernel
theorem dX13_wide_68 : decode cX13_wide 68 = .ok (.return_, 1) := by decide +kernel
theorem dX13_wide_69 : decode cX13_wide 69 = .ok (.aload_n 0, 1) := by decide +kernel
theorem dX13_wide_70 : decode cX13_wide 70 = .ok (.iload_n 1, 1) := by decide +kernel
theorem dX13_wide_71 : decode cX13_wide 71 = .ok (.invokevirtual 402, 3) := by decide +kernel
theorem dX13_wide_74 : decode cX13_wide 74 = .ok (.aload_n 0, 1) := by decide +kernel
theorem dX13_wide_75 : decode cX13_wide 75 = .ok (.dup, 1) := by decide +kernel
theorem dX13_wide_76 : decode cX13_wide 76 = .ok (.getfield 336, 3) := by decide +kernel
theorem dX13_wide_79 : decode cX13_wide 79 = .ok (.iconst 1, 1) := by decide +kernel
theorem dX13_wide_80 : decode cX13_wide 80 = .ok (.iadd, 1) := by decide +kernel
theorem dX13_wide_81 : decode cX13_wide 81 = .ok (.putfield 336, 3) := by decide +kernel
theorem dX13_wide_84 : decode cX13_wide 84 = .ok (.iload_n 1, 1) := by decide +kernel
theorem dX13_wide_85 : decode cX13_wide 85 = .ok (.sipush 224, 3) := by decide +kernel
theorem dX13_wide_88 : decode cX13_wide 88 = .ok (.if_icmp .ne 9, 3) := by decide +kernel
theorem dX13_wide_91 : decode cX13_wide 91 = .ok (.sipush 160, 3) := by decide +kernel
theorem dX13_wide_94 : decode cX13_wide 94 = .ok (.goto 19, 3) := by decide +kernel
theorem dX13_wide_97 : decode cX13_wide 97 = .ok (.iload_n 1, 1) := by decide +kernel
theorem dX13_wide_98 : decode cX13_wide 98 = .ok (.sipush 240, 3) := by decide +kernel
theorem dX13_wide_101 : decode cX13_wide 101 = .ok (.if_icmp .ne 9, 3) := by decide +kernel
theorem dX13_wide_104 : decode cX13_wide 104 = .ok (.sipush 144, 3) := by decide +kernel
theorem dX13_wide_107 : decode cX13_wide 107 = .ok (.goto 6, 3) := by decide +kernel
theorem dX13_wide_110 : decode cX13_wide 110 = .ok (.sipush 128, 3) := by decide +kernel
theorem dX13_wide_113 : decode cX13_wide 113 = .ok (.istore_n 3, 1) := by decide +kernel
theorem dX13_wide_114 : decode cX13_wide 114 = .ok (.iload_n 1, 1) := by decide +kernel
theorem dX13_wide_115 : decode cX13_wide 115 = .ok (.sipush 237, 3) := by decide +kernel
theorem dX13_wide_118 : decode cX13_wide 118 = .ok (.if_icmp .ne 9, 3) := by decide +kernel
theorem dX13_wide_121 : decode cX13_wide 121 = .ok (.sipush 159, 3) := by decide +kernel
theorem dX13_wide_124 : decode cX13_wide 124 = .ok (.goto 19, 3) := by decide +kernel
theorem dX13_wide_127 : decode cX13_wide 127 = .ok (.iload_n 1, 1) := by decide +kernel
theorem dX13_wide_128 : decode cX13_wide 128 = .ok (.sipush 244, 3) := by decide +kernel
theorem dX13_wide_131 : decode cX13_wide 131 = .ok (.if_icmp .ne 9, 3) := by decide +kernel
theorem dX13_wide_134 : decode cX13_wide 134 = .ok (.sipush 143, 3) := by decide +kernel
theorem dX13_wide_137 : decode cX13_wide 137 = .ok (.goto 6, 3) := by decide +kernel
theorem dX13_wide_140 : decode cX13_wide 140 = .ok (.sipush 191, 3) := by decide +kernel
theorem dX13_wide_143 : decode cX13_wide 143 = .ok (.istore 4, 2) := by decide +kernel
theorem dX13_wide_145 : decode cX13_wide 145 = .ok (.iconst 0, 1) := by decide +kernel
theorem dX13_wide_146 : decode cX13_wide 146 = .ok (.istore 5, 2) := by decide +kernel
theorem dX13_wide_148 : decode cX13_wide 148 = .ok (.iload 5, 2) := by decide +kernel
theorem dX13_wide_150 : decode cX13_wide 150 = .ok (.iload_n 2, 1) := by decide +kernel
theorem dX13_wide_151 : decode cX13_wide 151 = .ok (.if_icmp .ge 71, 3) := by decide +kernel
theorem dX13_wide_154 : decode cX13_wide 154 = .ok (.aload_n 0, 1) := by decide +kernel
theorem dX13_wide_155 : decode cX13_wide 155 = .ok (.invokevirtual 371, 3) := by decide +kernel
theorem dX13_wide_158 : decode cX13_wide 158 = .ok (.ifCond .eq 64, 3) := by decide +kernel
theorem dX13_wide_161 : decode cX13_wide 161 = .ok (.aload_n 0, 1) := by decide +kernel
theorem dX13_wide_162 : decode cX13_wide 162 = .ok (.invokevirtual 351, 3) := by decide +kernel
theorem dX13_wide_165 : decode cX13_wide 165 = .ok (.istore 6, 2) := by decide +kernel
theorem dX13_wide_167 : decode cX13_wide 167 = .ok (.iload 6, 2) := by decide +kernel
theorem dX13_wide_169 : decode cX13_wide 169 = .ok (.iload_n 3, 1) := by decide +kernel
theorem dX13_wide_170 : decode cX13_wide 170 = .ok (.if_icmp .lt 10, 3) := by decide +kernel
theorem dX13_wide_173 : decode cX13_wide 173 = .ok (.iload 6, 2) := by decide +kernel
theorem dX13_wide_175 : decode cX13_wide 175 = .ok (.iload 4, 2) := by decide +kernel
theorem dX13_wide_177 : decode cX13_wide 177 = .ok (.if_icmp .le 14, 3) := by decide +kernel
theorem dX13_wide_180 : decode cX13_wide 180 = .ok (.aload_n 0, 1) := by decide +kernel
theorem dX13_wide_181 : decode cX13_wide 181 = .ok (.aload_n 0, 1) := by decide +kernel
theorem dX13_wide_182 : decode cX13_wide 182 = .ok (.getfield 336, 3) := by decide +kernel
theorem dX13_wide_185 : decode cX13_wide 185 = .ok (.invokevirtual 375, 3) := by decide +kernel
theorem dX13_wide_188 : decode cX13_wide 188 = .ok (.goto 19, 3) := by decide +kernel
theorem dX13_wide_191 : decode cX13_wide 191 = .ok (.aload_n 0, 1) := by decide +kernel
theorem dX13_wide_192 : decode cX13_wide 192 = .ok (.iload 6, 2) := by decide +kernel
theorem dX13_wide_194 : decode cX13_wide 194 = .ok (.invokevirtual 402, 3) := by decide +kernel
theorem dX13_wide_197 : decode cX13_wide 197 = .ok (.aload_n 0, 1) := by decide +kernel
theorem dX13_wide_198 : decode cX13_wide 198 = .ok (.dup, 1) := by decide +kernel
theorem dX13_wide_199 : decode cX13_wide 199 = .ok (.getfield 336, 3) := by decide +kernel
theorem dX13_wide_202 : decode cX13_wide 202 = .ok (.iconst 1, 1) := by decide +kernel
theorem dX13_wide_203 : decode cX13_wide 203 = .ok (.iadd, 1) := by decide +kernel
theorem dX13_wide_204 : decode cX13_wide 204 = .ok (.putfield 336, 3) := by decide +kernel
theorem dX13_wide_207 : decode cX13_wide 207 = .ok (.sipush 128, 3) := by decide +kernel
theorem dX13_wide_210 : decode cX13_wide 210 = .ok (.istore_n 3, 1) := by decide +kernel
theorem dX13_wide_211 : decode cX13_wide 211 = .ok (.sipush 191, 3) := by decide +kernel
theorem dX13_wide_214 : decode cX13_wide 214 = .ok (.istore 4, 2) := by decide +kernel
theorem dX13_wide_216 : decode cX13_wide 216 = .ok (.iinc 5 1, 3) := by decide +kernel
theorem dX13_wide_219 : decode cX13_wide 219 = .ok (.goto (-71), 3) := by decide +kernel
theorem dX13_wide_222 : decode cX13_wide 222 = .ok (.return_, 1) := by decide +kernel
abbrev rmX13_wide : Room := { frames := 1, cells := 0, slots := 0, locals := 21 }
set_option maxHeartbeats 4000000 in
set_option maxRecDepth 100000 in
theorem wB_X13_wide_148 {G : mG} {F : Nat} {x : mXT} {sz : Nat} {M0 : mM} (X : mCX G RX13 cX13_wide 7 none "wide" rmX13_wide x) (hQ : mQV x M0 (sz, 0, 0)) : ∀ (n : Nat) (l0 : Nat) (l2 : Int32) (l3 : Int32) (l4 : Int32) (l5 : Int32) (M : mM), B_X13_wide_148 G F n l0 l2 l3 l4 l5 M = some M0 → WW x (sz, 0, 0) M 148 [(0, .ref l0), (2, .int l2), (3, .int l3), (4, .int l4), (5, .int l5)] [] := by
  intro n
  induction n with
  | zero =>
    intro l0 l2 l3 l4 l5 M h
    exact nomatch (show (none : Option mM) = some M0 from h)
  | succ n ih =>
    intro l0 l2 l3 l4 l5 M h
    rw [B_X13_wide_148] at h
    refine ww_iload 148 X dX13_wide_148 4 rfl ?_
    refine ww_iload_n 150 X dX13_wide_150 1 rfl rfl ?_
    refine ww_icmp_ge 151 222 X dX13_wide_151 (by decide) (fun q => ?_) (fun q => ?_)
    · replace h := (if_pos q).symm.trans h
      exact ww_vretE 222 X hQ dX13_wide_222 h
    · replace h := (if_neg q).symm.trans h
      refine ww_aload_n 154 X dX13_wide_154 0 rfl rfl ?_
      obtain ⟨_, f155, h⟩ := bO_some h
      obtain ⟨v155, M155, e155, h⟩ := bP_some h
      refine ww_callVI0 155 X dX13_wide_155 mY_X13_good mL_X13_371 (rcv_spec f155) ⟨_, _, rfl⟩ (by decide) (As := []) (rest := []) rfl rfl ⟨Nat.le_of_ble_eq_true rfl, Nat.le_of_ble_eq_true rfl⟩ (Nat.le_of_ble_eq_true rfl) (fun l D A => c_X13_good l D A e155) ?_
      refine ww_if_eq 158 222 X dX13_wide_158 (by decide) (fun q => ?_) (fun q => ?_)
      · replace h := (if_pos q).symm.trans h
        exact ww_vretE 222 X hQ dX13_wide_222 h
      · replace h := (if_neg q).symm.trans h
        refine ww_aload_n 161 X dX13_wide_161 0 rfl rfl ?_
        obtain ⟨_, f162, h⟩ := bO_some h
        obtain ⟨v162, M162, e162, h⟩ := bP_some h
        refine ww_callVI0 162 X dX13_wide_162 mY_X13_at mL_X13_351 (rcv_spec f162) ⟨_, _, rfl⟩ (by decide) (As := []) (rest := []) rfl rfl ⟨Nat.le_of_ble_eq_true rfl, Nat.le_of_ble_eq_true rfl⟩ (Nat.le_of_ble_eq_true rfl) (fun l D A => c_X13_at l D A e162) ?_
        refine ww_istore 165 X dX13_wide_165 (lv' := [(0, .ref l0), (2, .int l2), (3, .int l3), (4, .int l4), (5, .int l5), (6, .int v162)]) (by decide) [1, 2, 3, 4, 5, 0] rfl ?_
        refine ww_iload 167 X dX13_wide_167 5 rfl ?_
        refine ww_iload_n 169 X dX13_wide_169 2 rfl rfl ?_
        refine ww_icmp_lt 170 180 X dX13_wide_170 (by decide) (fun q => ?_) (fun q => ?_)
        · replace h := (if_pos q).symm.trans h
          refine ww_aload_n 180 X dX13_wide_180 0 rfl rfl ?_
          refine ww_aload_n 181 X dX13_wide_181 0 rfl rfl ?_
          obtain ⟨v182, e182, h⟩ := bO_some h
          refine ww_getI 182 X dX13_wide_182 fG_X13_336 e182 ?_
          obtain ⟨_, f185, h⟩ := bO_some h
          obtain ⟨M185, e185, h⟩ := bO_some h
          refine ww_callVV0 185 X dX13_wide_185 mY_X13_fail mL_X13_375 (rcv_spec f185) ⟨_, _, rfl⟩ (by decide) (As := [.int v182]) (rest := []) rfl rfl ⟨Nat.le_of_ble_eq_true rfl, Nat.le_of_ble_eq_true rfl⟩ (Nat.le_of_ble_eq_true rfl) (fun l D A => c_X13_fail l D A e185) ?_
          refine ww_goto 188 207 X dX13_wide_188 (by decide) ?_
          refine ww_sipush 207 X (v := (128 : Int32)) dX13_wide_207 (by decide) ?_
          refine ww_istore_n 210 X dX13_wide_210 (lv' := [(0, .ref l0), (2, .int l2), (3, .int (128 : Int32)), (4, .int l4), (5, .int l5), (6, .int v162)]) rfl (by decide) [1, 2, 0, 3, 4, 5] rfl ?_
          refine ww_sipush 211 X (v := (191 : Int32)) dX13_wide_211 (by decide) ?_
          refine ww_istore 214 X dX13_wide_214 (lv' := [(0, .ref l0), (2, .int l2), (3, .int (128 : Int32)), (4, .int (191 : Int32)), (5, .int l5), (6, .int v162)]) (by decide) [1, 2, 3, 0, 4, 5] rfl ?_
          refine ww_iinc 216 X dX13_wide_216 (lv' := [(0, .ref l0), (2, .int l2), (3, .int (128 : Int32)), (4, .int (191 : Int32)), (5, .int (l5 + 1)), (6, .int v162)]) 4 rfl rfl (by decide) [1, 2, 3, 4, 0, 5] rfl ?_
          refine ww_goto 219 148 X dX13_wide_219 (by decide) ?_
          exact ww_sub [0, 1, 2, 3, 4] rfl (ih _ _ _ _ _ _ h)
        · replace h := (if_neg q).symm.trans h
          refine ww_iload 173 X dX13_wide_173 5 rfl ?_
          refine ww_iload 175 X dX13_wide_175 3 rfl ?_
          refine ww_icmp_le 177 191 X dX13_wide_177 (by decide) (fun q => ?_) (fun q => ?_)
          · replace h := (if_pos q).symm.trans h
            refine ww_aload_n 191 X dX13_wide_191 0 rfl rfl ?_
            refine ww_iload 192 X dX13_wide_192 5 rfl ?_
            obtain ⟨_, f194, h⟩ := bO_some h
            obtain ⟨M194, e194, h⟩ := bO_some h
            refine ww_callVV0 194 X dX13_wide_194 mY_X13_keep8 mL_X13_402 (rcv_spec f194) ⟨_, _, rfl⟩ (by decide) (As := [.int v162]) (rest := []) rfl rfl ⟨Nat.le_of_ble_eq_true rfl, Nat.le_of_ble_eq_true rfl⟩ (Nat.le_of_ble_eq_true rfl) (fun l D A => c_X13_keep8 l D A e194) ?_
            refine ww_aload_n 197 X dX13_wide_197 0 rfl rfl ?_
            refine ww_dup 198 X dX13_wide_198 rfl ?_
            obtain ⟨v199, e199, h⟩ := bO_some h
            refine ww_getI 199 X dX13_wide_199 fG_X13_336 e199 ?_
            refine ww_iconst 202 X (v := (1 : Int32)) dX13_wide_202 (by decide) ?_
            refine ww_iadd 203 X dX13_wide_203 ?_
            obtain ⟨M204, e204, h⟩ := bO_some h
            refine ww_putI 204 X dX13_wide_204 (fP_X13_336 _) e204 ?_
            refine ww_sipush 207 X (v := (128 : Int32)) dX13_wide_207 (by decide) ?_
            refine ww_istore_n 210 X dX13_wide_210 (lv' := [(0, .ref l0), (2, .int l2), (3, .int (128 : Int32)), (4, .int l4), (5, .int l5), (6, .int v162)]) rfl (by decide) [1, 2, 0, 3, 4, 5] rfl ?_
            refine ww_sipush 211 X (v := (191 : Int32)) dX13_wide_211 (by decide) ?_
            refine ww_istore 214 X dX13_wide_214 (lv' := [(0, .ref l0), (2, .int l2), (3, .int (128 : Int32)), (4, .int (191 : Int32)), (5, .int l5), (6, .int v162)]) (by decide) [1, 2, 3, 0, 4, 5] rfl ?_
            refine ww_iinc 216 X dX13_wide_216 (lv' := [(0, .ref l0), (2, .int l2), (3, .int (128 : Int32)), (4, .int (191 : Int32)), (5, .int (l5 + 1)), (6, .int v162)]) 4 rfl rfl (by decide) [1, 2, 3, 4, 0, 5] rfl ?_
            refine ww_goto 219 148 X dX13_wide_219 (by decide) ?_
            exact ww_sub [0, 1, 2, 3, 4] rfl (ih _ _ _ _ _ _ h)
          · replace h := (if_neg q).symm.trans h
            refine ww_aload_n 180 X dX13_wide_180 0 rfl rfl ?_
            refine ww_aload_n 181 X dX13_wide_181 0 rfl rfl ?_
            obtain ⟨v182, e182, h⟩ := bO_some h
            refine ww_getI 182 X dX13_wide_182 fG_X13_336 e182 ?_
            obtain ⟨_, f185, h⟩ := bO_some h
            obtain ⟨M185, e185, h⟩ := bO_some h
            refine ww_callVV0 185 X dX13_wide_185 mY_X13_fail mL_X13_375 (rcv_spec f185) ⟨_, _, rfl⟩ (by decide) (As := [.int v182]) (rest := []) rfl rfl ⟨Nat.le_of_ble_eq_true rfl, Nat.le_of_ble_eq_true rfl⟩ (Nat.le_of_ble_eq_true rfl) (fun l D A => c_X13_fail l D A e185) ?_
            refine ww_goto 188 207 X dX13_wide_188 (by decide) ?_
            refine ww_sipush 207 X (v := (128 : Int32)) dX13_wide_207 (by decide) ?_
            refine ww_istore_n 210 X dX13_wide_210 (lv' := [(0, .ref l0), (2, .int l2), (3, .int (128 : Int32)), (4, .int l4), (5, .int l5), (6, .int v162)]) rfl (by decide) [1, 2, 0, 3, 4, 5] rfl ?_
            refine ww_sipush 211 X (v := (191 : Int32)) dX13_wide_211 (by decide) ?_
            refine ww_istore 214 X dX13_wide_214 (lv' := [(0, .ref l0), (2, .int l2), (3, .int (128 : Int32)), (4, .int (191 : Int32)), (5, .int l5), (6, .int v162)]) (by decide) [1, 2, 3, 0, 4, 5] rfl ?_
            refine ww_iinc 216 X dX13_wide_216 (lv' := [(0, .ref l0), (2, .int l2), (3, .int (128 : Int32)), (4, .int (191 : Int32)), (5, .int (l5 + 1)), (6, .int v162)]) 4 rfl rfl (by decide) [1, 2, 3, 4, 0, 5] rfl ?_
            refine ww_goto 219 148 X dX13_wide_219 (by decide) ?_
            exact ww_sub [0, 1, 2, 3, 4] rfl (ih _ _ _ _ _ _ h)
set_option maxHeartbeats 4000000 in
set_option maxRecDepth 100000 in
theorem wB_X13_wide_113 {G : mG} {F : Nat} {x : mXT} {sz : Nat} {M0 : mM} (X : mCX G RX13 cX13_wide 7 none "wide" rmX13_wide x) (hQ : mQV x M0 (sz, 0, 0)) {l0 : Nat} {l1 : Int32} {l2 : Int32} {sk0 : Int32} {M : mM} (h : B_X13_wide_113 G F l0 l1 l2 sk0 M = some M0) : WW x (sz, 0, 0) M 113 [(0, .ref l0), (1, .int l1), (2, .int l2)] [.int sk0] := by
  unfold B_X13_wide_113 at h
  refine ww_istore_n 113 X dX13_wide_113 (lv' := [(0, .ref l0), (1, .int l1), (2, .int l2), (3, .int sk0)]) rfl (by decide) [1, 2, 3, 0] rfl ?_
  refine ww_iload_n 114 X dX13_wide_114 1 rfl rfl ?_
  refine ww_sipush 115 X (v := (237 : Int32)) dX13_wide_115 (by decide) ?_
  refine ww_icmp_ne 118 127 X dX13_wide_118 (by decide) (fun q => ?_) (fun q => ?_)
  · replace h := (if_neg q).symm.trans h
    refine ww_iload_n 127 X dX13_wide_127 1 rfl rfl ?_
    refine ww_sipush 128 X (v := (244 : Int32)) dX13_wide_128 (by decide) ?_
    refine ww_icmp_ne 131 140 X dX13_wide_131 (by decide) (fun q => ?_) (fun q => ?_)
    · replace h := (if_neg q).symm.trans h
      refine ww_sipush 140 X (v := (191 : Int32)) dX13_wide_140 (by decide) ?_
      refine ww_istore 143 X dX13_wide_143 (lv' := [(0, .ref l0), (1, .int l1), (2, .int l2), (3, .int sk0), (4, .int (191 : Int32))]) (by decide) [1, 2, 3, 4, 0] rfl ?_
      refine ww_iconst 145 X (v := (0 : Int32)) dX13_wide_145 (by decide) ?_
      refine ww_istore 146 X dX13_wide_146 (lv' := [(0, .ref l0), (1, .int l1), (2, .int l2), (3, .int sk0), (4, .int (191 : Int32)), (5, .int (0 : Int32))]) (by decide) [1, 2, 3, 4, 5, 0] rfl ?_
      exact ww_sub [0, 2, 3, 4, 5] rfl (wB_X13_wide_148 X hQ F _ _ _ _ _ _ h)
    · replace h := (if_pos q).symm.trans h
      refine ww_sipush 134 X (v := (143 : Int32)) dX13_wide_134 (by decide) ?_
      refine ww_goto 137 143 X dX13_wide_137 (by decide) ?_
      refine ww_istore 143 X dX13_wide_143 (lv' := [(0, .ref l0), (1, .int l1), (2, .int l2), (3, .int sk0), (4, .int (143 : Int32))]) (by decide) [1, 2, 3, 4, 0] rfl ?_
      refine ww_iconst 145 X (v := (0 : Int32)) dX13_wide_145 (by decide) ?_
      refine ww_istore 146 X dX13_wide_146 (lv' := [(0, .ref l0), (1, .int l1), (2, .int l2), (3, .int sk0), (4, .int (143 : Int32)), (5, .int (0 : Int32))]) (by decide) [1, 2, 3, 4, 5, 0] rfl ?_
      exact ww_sub [0, 2, 3, 4, 5] rfl (wB_X13_wide_148 X hQ F _ _ _ _ _ _ h)
  · replace h := (if_pos q).symm.trans h
    refine ww_sipush 121 X (v := (159 : Int32)) dX13_wide_121 (by decide) ?_
    refine ww_goto 124 143 X dX13_wide_124 (by decide) ?_
    refine ww_istore 143 X dX13_wide_143 (lv' := [(0, .ref l0), (1, .int l1), (2, .int l2), (3, .int sk0), (4, .int (159 : Int32))]) (by decide) [1, 2, 3, 4, 0] rfl ?_
    refine ww_iconst 145 X (v := (0 : Int32)) dX13_wide_145 (by decide) ?_
    refine ww_istore 146 X dX13_wide_146 (lv' := [(0, .ref l0), (1, .int l1), (2, .int l2), (3, .int sk0), (4, .int (159 : Int32)), (5, .int (0 : Int32))]) (by decide) [1, 2, 3, 4, 5, 0] rfl ?_
    exact ww_sub [0, 2, 3, 4, 5] rfl (wB_X13_wide_148 X hQ F _ _ _ _ _ _ h)
set_option maxHeartbeats 4000000 in
set_option maxRecDepth 100000 in
theorem wB_X13_wide_55 {G : mG} {F : Nat} {x : mXT} {sz : Nat} {M0 : mM} (X : mCX G RX13 cX13_wide 7 none "wide" rmX13_wide x) (hQ : mQV x M0 (sz, 0, 0)) {l0 : Nat} {l1 : Int32} {sk0 : Int32} {M : mM} (h : B_X13_wide_55 G F l0 l1 sk0 M = some M0) : WW x (sz, 0, 0) M 55 [(0, .ref l0), (1, .int l1)] [.int sk0] := by
  unfold B_X13_wide_55 at h
  refine ww_istore_n 55 X dX13_wide_55 (lv' := [(0, .ref l0), (1, .int l1), (2, .int sk0)]) rfl (by decide) [1, 2, 0] rfl ?_
  refine ww_iload_n 56 X dX13_wide_56 2 rfl rfl ?_
  refine ww_if_ne 57 69 X dX13_wide_57 (by decide) (fun q => ?_) (fun q => ?_)
  · replace h := (if_neg q).symm.trans h
    refine ww_aload_n 69 X dX13_wide_69 0 rfl rfl ?_
    refine ww_iload_n 70 X dX13_wide_70 1 rfl rfl ?_
    obtain ⟨_, f71, h⟩ := bO_some h
    obtain ⟨M71, e71, h⟩ := bO_some h
    refine ww_callVV0 71 X dX13_wide_71 mY_X13_keep8 mL_X13_402 (rcv_spec f71) ⟨_, _, rfl⟩ (by decide) (As := [.int l1]) (rest := []) rfl rfl ⟨Nat.le_of_ble_eq_true rfl, Nat.le_of_ble_eq_true rfl⟩ (Nat.le_of_ble_eq_true rfl) (fun l D A => c_X13_keep8 l D A e71) ?_
    refine ww_aload_n 74 X dX13_wide_74 0 rfl rfl ?_
    refine ww_dup 75 X dX13_wide_75 rfl ?_
    obtain ⟨v76, e76, h⟩ := bO_some h
    refine ww_getI 76 X dX13_wide_76 fG_X13_336 e76 ?_
    refine ww_iconst 79 X (v := (1 : Int32)) dX13_wide_79 (by decide) ?_
    refine ww_iadd 80 X dX13_wide_80 ?_
    obtain ⟨M81, e81, h⟩ := bO_some h
    refine ww_putI 81 X dX13_wide_81 (fP_X13_336 _) e81 ?_
    refine ww_iload_n 84 X dX13_wide_84 1 rfl rfl ?_
    refine ww_sipush 85 X (v := (224 : Int32)) dX13_wide_85 (by decide) ?_
    refine ww_icmp_ne 88 97 X dX13_wide_88 (by decide) (fun q => ?_) (fun q => ?_)
    · replace h := (if_neg q).symm.trans h
      refine ww_iload_n 97 X dX13_wide_97 1 rfl rfl ?_
      refine ww_sipush 98 X (v := (240 : Int32)) dX13_wide_98 (by decide) ?_
      refine ww_icmp_ne 101 110 X dX13_wide_101 (by decide) (fun q => ?_) (fun q => ?_)
      · replace h := (if_neg q).symm.trans h
        refine ww_sipush 110 X (v := (128 : Int32)) dX13_wide_110 (by decide) ?_
        exact (wB_X13_wide_113 X hQ h)
      · replace h := (if_pos q).symm.trans h
        refine ww_sipush 104 X (v := (144 : Int32)) dX13_wide_104 (by decide) ?_
        refine ww_goto 107 113 X dX13_wide_107 (by decide) ?_
        exact (wB_X13_wide_113 X hQ h)
    · replace h := (if_pos q).symm.trans h
      refine ww_sipush 91 X (v := (160 : Int32)) dX13_wide_91 (by decide) ?_
      refine ww_goto 94 113 X dX13_wide_94 (by decide) ?_
      exact (wB_X13_wide_113 X hQ h)
  · replace h := (if_pos q).symm.trans h
    refine ww_aload_n 60 X dX13_wide_60 0 rfl rfl ?_
    refine ww_aload_n 61 X dX13_wide_61 0 rfl rfl ?_
    obtain ⟨v62, e62, h⟩ := bO_some h
    refine ww_getI 62 X dX13_wide_62 fG_X13_336 e62 ?_
    obtain ⟨_, f65, h⟩ := bO_some h
    obtain ⟨M65, e65, h⟩ := bO_some h
    refine ww_callVV0 65 X dX13_wide_65 mY_X13_fail mL_X13_375 (rcv_spec f65) ⟨_, _, rfl⟩ (by decide) (As := [.int v62]) (rest := []) rfl rfl ⟨Nat.le_of_ble_eq_true rfl, Nat.le_of_ble_eq_true rfl⟩ (Nat.le_of_ble_eq_true rfl) (fun l D A => c_X13_fail l D A e65) ?_
    exact ww_vretE 68 X hQ dX13_wide_68 h
set_option maxHeartbeats 4000000 in
set_option maxRecDepth 100000 in
theorem wB_X13_wide_36 {G : mG} {F : Nat} {x : mXT} {sz : Nat} {M0 : mM} (X : mCX G RX13 cX13_wide 7 none "wide" rmX13_wide x) (hQ : mQV x M0 (sz, 0, 0)) {l0 : Nat} {l1 : Int32} {M : mM} (h : B_X13_wide_36 G F l0 l1 M = some M0) : WW x (sz, 0, 0) M 36 [(0, .ref l0), (1, .int l1)] [] := by
  unfold B_X13_wide_36 at h
  refine ww_iload_n 36 X dX13_wide_36 1 rfl rfl ?_
  refine ww_sipush 37 X (v := (240 : Int32)) dX13_wide_37 (by decide) ?_
  refine ww_icmp_lt 40 54 X dX13_wide_40 (by decide) (fun q => ?_) (fun q => ?_)
  · replace h := (if_pos q).symm.trans h
    refine ww_iconst 54 X (v := (0 : Int32)) dX13_wide_54 (by decide) ?_
    exact (wB_X13_wide_55 X hQ h)
  · replace h := (if_neg q).symm.trans h
    refine ww_iload_n 43 X dX13_wide_43 1 rfl rfl ?_
    refine ww_sipush 44 X (v := (244 : Int32)) dX13_wide_44 (by decide) ?_
    refine ww_icmp_gt 47 54 X dX13_wide_47 (by decide) (fun q => ?_) (fun q => ?_)
    · replace h := (if_pos q).symm.trans h
      refine ww_iconst 54 X (v := (0 : Int32)) dX13_wide_54 (by decide) ?_
      exact (wB_X13_wide_55 X hQ h)
    · replace h := (if_neg q).symm.trans h
      refine ww_iconst 50 X (v := (3 : Int32)) dX13_wide_50 (by decide) ?_
      refine ww_goto 51 55 X dX13_wide_51 (by decide) ?_
      exact (wB_X13_wide_55 X hQ h)
set_option maxHeartbeats 4000000 in
set_option maxRecDepth 100000 in
theorem wP_X13_wide {G : mG} {F : Nat} {x : mXT} {sz : Nat} {M0 : mM} (X : mCX G RX13 cX13_wide 7 none "wide" rmX13_wide x) (hQ : mQV x M0 (sz, 0, 0)) {l0 : Nat} {l1 : Int32} {M : mM} (h : P_X13_wide G F l0 l1 M = some M0) : WW x (sz, 0, 0) M 0 [(0, .ref l0), (1, .int l1)] [] := by
  unfold P_X13_wide at h
  refine ww_iload_n 0 X dX13_wide_0 1 rfl rfl ?_
  refine ww_sipush 1 X (v := (194 : Int32)) dX13_wide_1 (by decide) ?_
  refine ww_icmp_lt 4 18 X dX13_wide_4 (by decide) (fun q => ?_) (fun q => ?_)
  · replace h := (if_pos q).symm.trans h
    refine ww_iload_n 18 X dX13_wide_18 1 rfl rfl ?_
    refine ww_sipush 19 X (v := (224 : Int32)) dX13_wide_19 (by decide) ?_
    refine ww_icmp_lt 22 36 X dX13_wide_22 (by decide) (fun q => ?_) (fun q => ?_)
    · replace h := (if_pos q).symm.trans h
      exact (wB_X13_wide_36 X hQ h)
    · replace h := (if_neg q).symm.trans h
      refine ww_iload_n 25 X dX13_wide_25 1 rfl rfl ?_
      refine ww_sipush 26 X (v := (239 : Int32)) dX13_wide_26 (by decide) ?_
      refine ww_icmp_gt 29 36 X dX13_wide_29 (by decide) (fun q => ?_) (fun q => ?_)
      · replace h := (if_pos q).symm.trans h
        exact (wB_X13_wide_36 X hQ h)
      · replace h := (if_neg q).symm.trans h
        refine ww_iconst 32 X (v := (2 : Int32)) dX13_wide_32 (by decide) ?_
        refine ww_goto 33 55 X dX13_wide_33 (by decide) ?_
        exact (wB_X13_wide_55 X hQ h)
  · replace h := (if_neg q).symm.trans h
    refine ww_iload_n 7 X dX13_wide_7 1 rfl rfl ?_
    refine ww_sipush 8 X (v := (223 : Int32)) dX13_wide_8 (by decide) ?_
    refine ww_icmp_gt 11 18 X dX13_wide_11 (by decide) (fun q => ?_) (fun q => ?_)
    · replace h := (if_pos q).symm.trans h
      refine ww_iload_n 18 X dX13_wide_18 1 rfl rfl ?_
      refine ww_sipush 19 X (v := (224 : Int32)) dX13_wide_19 (by decide) ?_
      refine ww_icmp_lt 22 36 X dX13_wide_22 (by decide) (fun q => ?_) (fun q => ?_)
      · replace h := (if_pos q).symm.trans h
        exact (wB_X13_wide_36 X hQ h)
      · replace h := (if_neg q).symm.trans h
        refine ww_iload_n 25 X dX13_wide_25 1 rfl rfl ?_
        refine ww_sipush 26 X (v := (239 : Int32)) dX13_wide_26 (by decide) ?_
        refine ww_icmp_gt 29 36 X dX13_wide_29 (by decide) (fun q => ?_) (fun q => ?_)
        · replace h := (if_pos q).symm.trans h
          exact (wB_X13_wide_36 X hQ h)
        · replace h := (if_neg q).symm.trans h
          refine ww_iconst 32 X (v := (2 : Int32)) dX13_wide_32 (by decide) ?_
          refine ww_goto 33 55 X dX13_wide_33 (by decide) ?_
          exact (wB_X13_wide_55 X hQ h)
    · replace h := (if_neg q).symm.trans h
      refine ww_iconst 14 X (v := (1 : Int32)) dX13_wide_14 (by decide) ?_
      refine ww_goto 15 55 X dX13_wide_15 (by decide) ?_
      exact (wB_X13_wide_55 X hQ h)
theorem c_X13_wide {G : mG} {F sz : Nat} {M0 : mM} (l : Launch) (D : mD) (A : Nat → Prop) {l0 : Nat} {l1 : Int32} {M : mM} (h : P_X13_wide G F l0 l1 M = some M0) : mMetV l D G A yX13_wide cX13_wide 7 none 1 21 0 0 [.ref l0, .int l1] M sz M0 sz := mMetV_of l D G A (by decide) (Nat.le_of_ble_eq_true rfl) (fun x X hQ => wP_X13_wide X hQ h)
/-! SealedTokensModel.readString()V -/
theorem dX13_readString_0 : decode cX13_readString 0 = .ok (.aload_n 0, 1) := by decide +kernel
theorem dX13_readString_1 : decode cX13_readString 1 = .ok (.dup, 1) := by decide +kernel
theorem dX13_readString_2 : decode cX13_readString 2 = .ok (.getfield 336, 3) := by decide +kernel
theorem dX13_readString_5 : decode cX13_readString 5 = .ok (.iconst 1, 1) := by decide +kernel
theorem dX13_readString_6 : decode cX13_readString 6 = .ok (.iadd, 1) := by decide +kernel
theorem dX13_readString_7 : decode cX13_readString 7 = .ok (.putfield 336, 3) := by decide +kernel
theorem dX13_readString_10 : decode cX13_readString 10 = .ok (.aload_n 0, 1) := by decide +kernel
theorem dX13_readString_11 : decode cX13_readString 11 = .ok (.invokevirtual 371, 3) := by decide +kernel
theorem dX13_readString_14 : decode cX13_readString 14 = .ok (.ifCond .eq 90, 3) := by decide +kernel
theorem dX13_readString_17 : decode cX13_readString 17 = .ok (.aload_n 0, 1) := by decide +kernel
theorem dX13_readString_18 : decode cX13_readString 18 = .ok (.invokevirtual 351, 3) := by decide +kernel
theorem dX13_readString_21 : decode cX13_readString 21 = .ok (.bipush 34, 2) := by decide +kernel
theorem dX13_readString_23 : decode cX13_readString 23 = .ok (.if_icmp .eq 81, 3) := by decide +kernel
theorem dX13_readString_26 : decode cX13_readString 26 = .ok (.aload_n 0, 1) := by decide +kernel
theorem dX13_readString_27 : decode cX13_readString 27 = .ok (.invokevirtual 351, 3) := by decide +kernel
theorem dX13_readString_30 : decode cX13_readString 30 = .ok (.istore_n 1, 1) := by decide +kernel
theorem dX13_readString_31 : decode cX13_readString 31 = .ok (.iload_n 1, 1) := by decide +kernel
theorem dX13_readString_32 : decode cX13_readString 32 = .ok (.bipush 32, 2) := by decide +kernel
theorem dX13_readString_34 : decode cX13_readString 34 = .ok (.if_icmp .ge 14, 3) := by decide +kernel
theorem dX13_readString_37 : decode cX13_readString 37 = .ok (.aload_n 0, 1) := by decide +kernel
theorem dX13_readString_38 : decode cX13_readString 38 = .ok (.aload_n 0, 1) := by decide +kernel
theorem dX13_readString_39 : decode cX13_readString 39 = .ok (.getfield 336, 3) := by decide +kernel
theorem dX13_readString_42 : decode cX13_readString 42 = .ok (.invokevirtual 375, 3) := by decide +kernel
theorem dX13_readString_45 : decode cX13_readString 45 = .ok (.goto 56, 3) := by decide +kernel
theorem dX13_readString_48 : decode cX13_readString 48 = .ok (.iload_n 1, 1) := by decide +kernel
theorem dX13_readString_49 : decode cX13_readString 49 = .ok (.bipush 92, 2) := by decide +kernel
theorem dX13_readString_51 : decode cX13_readString 51 = .ok (.if_icmp .ne 20, 3) := by decide +kernel
theorem dX13_readString_54 : decode cX13_readString 54 = .ok (.aload_n 0, 1) := by decide +kernel
theorem dX13_readString_55 : decode cX13_readString 55 = .ok (.dup, 1) := by decide +kernel
theorem dX13_readString_56 : decode cX13_readString 56 = .ok (.getfield 336, 3) := by decide +kernel
theorem dX13_readString_59 : decode cX13_readString 59 = .ok (.iconst 1, 1) := by decide +kernel
theorem dX13_readString_60 : decode cX13_readString 60 = .ok (.iadd, 1) := by decide +kernel
theorem dX13_readString_61 : decode cX13_readString 61 = .ok (.putfield 336, 3) := by decide +kernel
theorem dX13_readString_64 : decode cX13_readString 64 = .ok (.aload_n 0, 1) := by decide +kernel
theorem dX13_readString_65 : decode cX13_readString 65 = .ok (.invokevirtual 424, 3) := by decide +kernel
theorem dX13_readString_68 : decode cX13_readString 68 = .ok (.goto 33, 3) := by decide +kernel
theorem dX13_readString_71 : decode cX13_readString 71 = .ok (.iload_n 1, 1) := by decide +kernel
theorem dX13_readString_72 : decode cX13_readString 72 = .ok (.sipush 128, 3) := by decide +kernel
theorem dX13_readString_75 : decode cX13_readString 75 = .ok (.if_icmp .ge 21, 3) := by decide +kernel
theorem dX13_readString_78 : decode cX13_readString 78 = .ok (.aload_n 0, 1) := by decide +kernel
theorem dX13_readString_79 : decode cX13_readString 79 = .ok (.iload_n 1, 1) := by decide +kernel
theorem dX13_readString_80 : decode cX13_readString 80 = .ok (.invokevirtual 402, 3) := by decide +kernel
theorem dX13_readString_83 : decode cX13_readString 83 = .ok (.aload_n 0, 1) := by decide +kernel
theorem dX13_readString_84 : decode cX13_readString 84 = .ok (.dup, 1) := by decide +kernel
theorem dX13_readString_85 : decode cX13_readString 85 = .ok (.getfield 336, 3) := by decide +kernel
theorem dX13_readString_88 : decode cX13_readString 88 = .ok (.iconst 1, 1) := by decide +kernel
theorem dX13_readString_89 : decode cX13_readString 89 = .ok (.iadd, 1) := by decide +kernel
theorem dX13_readString_90 : decode cX13_readString 90 = .ok (.putfield 336, 3) := by decide +kernel
theorem dX13_readString_93 : decode cX13_readString 93 = .ok (.goto 8, 3) := by decide +kernel
theorem dX13_readString_96 : decode cX13_readString 96 = .ok (.aload_n 0, 1) := by decide +kernel
theorem dX13_readString_97 : decode cX13_readString 97 = .ok (.iload_n 1, 1) := by decide +kernel
theorem dX13_readString_98 : decode cX13_readString 98 = .ok (.invokevirtual 427, 3) := by decide +kernel
theorem dX13_readString_101 : decode cX13_readString 101 = .ok (.goto (-91), 3) := by decide +kernel
theorem dX13_readString_104 : decode cX13_readString 104 = .ok (.aload_n 0, 1) := by decide +kernel
theorem dX13_readString_105 : decode cX13_readString 105 = .ok (.dup, 1) := by decide +kernel
theorem dX13_readString_106 : decode cX13_readString 106 = .ok (.getfield 336, 3) := by decide +kernel
theorem dX13_readString_109 : decode cX13_readString 109 = .ok (.iconst 1, 1) := by decide +kernel
theorem dX13_readString_110 : decode cX13_readString 110 = .ok (.iadd, 1) := by decide +kernel
theorem dX13_readString_111 : decode cX13_readString 111 = .ok (.putfield 336, 3) := by decide +kernel
theorem dX13_readString_114 : decode cX13_readString 114 = .ok (.return_, 1) := by decide +kernel
abbrev rmX13_readString : Room := { frames := 5, cells := 0, slots := 0, locals := 115 }
set_option maxHeartbeats 4000000 in
set_option maxRecDepth 100000 in
theorem wB_X13_readString_10 {G : mG} {F : Nat} {x : mXT} {sz : Nat} {M0 : mM} (X : mCX G RX13 cX13_readString 2 none "readString" rmX13_readString x) (hQ : mQV x M0 (sz, 0, 0)) : ∀ (n : Nat) (l0 : Nat) (M : mM), B_X13_readString_10 G F n l0 M = some M0 → WW x (sz, 0, 0) M 10 [(0, .ref l0)] [] := by
  intro n
  induction n with
  | zero =>
    intro l0 M h
    exact nomatch (show (none : Option mM) = some M0 from h)
  | succ n ih =>
    intro l0 M h
    rw [B_X13_readString_10] at h
    refine ww_aload_n 10 X dX13_readString_10 0 rfl rfl ?_
    obtain ⟨_, f11, h⟩ := bO_some h
    obtain ⟨v11, M11, e11, h⟩ := bP_some h
    refine ww_callVI0 11 X dX13_readString_11 mY_X13_good mL_X13_371 (rcv_spec f11) ⟨_, _, rfl⟩ (by decide) (As := []) (rest := []) rfl rfl ⟨Nat.le_of_ble_eq_true rfl, Nat.le_of_ble_eq_true rfl⟩ (Nat.le_of_ble_eq_true rfl) (fun l D A => c_X13_good l D A e11) ?_
    refine ww_if_eq 14 104 X dX13_readString_14 (by decide) (fun q => ?_) (fun q => ?_)
    · replace h := (if_pos q).symm.trans h
      refine ww_aload_n 104 X dX13_readString_104 0 rfl rfl ?_
      refine ww_dup 105 X dX13_readString_105 rfl ?_
      obtain ⟨v106, e106, h⟩ := bO_some h
      refine ww_getI 106 X dX13_readString_106 fG_X13_336 e106 ?_
      refine ww_iconst 109 X (v := (1 : Int32)) dX13_readString_109 (by decide) ?_
      refine ww_iadd 110 X dX13_readString_110 ?_
      obtain ⟨M111, e111, h⟩ := bO_some h
      refine ww_putI 111 X dX13_readString_111 (fP_X13_336 _) e111 ?_
      exact ww_vretE 114 X hQ dX13_readString_114 h
    · replace h := (if_neg q).symm.trans h
      refine ww_aload_n 17 X dX13_readString_17 0 rfl rfl ?_
      obtain ⟨_, f18, h⟩ := bO_some h
      obtain ⟨v18, M18, e18, h⟩ := bP_some h
      refine ww_callVI0 18 X dX13_readString_18 mY_X13_at mL_X13_351 (rcv_spec f18) ⟨_, _, rfl⟩ (by decide) (As := []) (rest := []) rfl rfl ⟨Nat.le_of_ble_eq_true rfl, Nat.le_of_ble_eq_true rfl⟩ (Nat.le_of_ble_eq_true rfl) (fun l D A => c_X13_at l D A e18) ?_
      refine ww_bipush 21 X (v := (34 : Int32)) dX13_readString_21 (by decide) ?_
      refine ww_icmp_eq 23 104 X dX13_readString_23 (by decide) (fun q => ?_) (fun q => ?_)
      · replace h := (if_pos q).symm.trans h
        refine ww_aload_n 104 X dX13_readString_104 0 rfl rfl ?_
        refine ww_dup 105 X dX13_readString_105 rfl ?_
        obtain ⟨v106, e106, h⟩ := bO_some h
        refine ww_getI 106 X dX13_readString_106 fG_X13_336 e106 ?_
        refine ww_iconst 109 X (v := (1 : Int32)) dX13_readString_109 (by decide) ?_
        refine ww_iadd 110 X dX13_readString_110 ?_
        obtain ⟨M111, e111, h⟩ := bO_some h
        refine ww_putI 111 X dX13_readString_111 (fP_X13_336 _) e111 ?_
        exact ww_vretE 114 X hQ dX13_readString_114 h
      · replace h := (if_neg q).symm.trans h
        refine ww_aload_n 26 X dX13_readString_26 0 rfl rfl ?_
        obtain ⟨_, f27, h⟩ := bO_some h
        obtain ⟨v27, M27, e27, h⟩ := bP_some h
        refine ww_callVI0 27 X dX13_readString_27 mY_X13_at mL_X13_351 (rcv_spec f27) ⟨_, _, rfl⟩ (by decide) (As := []) (rest := []) rfl rfl ⟨Nat.le_of_ble_eq_true rfl, Nat.le_of_ble_eq_true rfl⟩ (Nat.le_of_ble_eq_true rfl) (fun l D A => c_X13_at l D A e27) ?_
        refine ww_istore_n 30 X dX13_readString_30 (lv' := [(0, .ref l0), (1, .int v27)]) rfl (by decide) [1, 0] rfl ?_
        refine ww_iload_n 31 X dX13_readString_31 1 rfl rfl ?_
        refine ww_bipush 32 X (v := (32 : Int32)) dX13_readString_32 (by decide) ?_
        refine ww_icmp_ge 34 48 X dX13_readString_34 (by decide) (fun q => ?_) (fun q => ?_)
        · replace h := (if_pos q).symm.trans h
          refine ww_iload_n 48 X dX13_readString_48 1 rfl rfl ?_
          refine ww_bipush 49 X (v := (92 : Int32)) dX13_readString_49 (by decide) ?_
          refine ww_icmp_ne 51 71 X dX13_readString_51 (by decide) (fun q => ?_) (fun q => ?_)
          · replace h := (if_neg q).symm.trans h
            refine ww_iload_n 71 X dX13_readString_71 1 rfl rfl ?_
            refine ww_sipush 72 X (v := (128 : Int32)) dX13_readString_72 (by decide) ?_
            refine ww_icmp_ge 75 96 X dX13_readString_75 (by decide) (fun q => ?_) (fun q => ?_)
            · replace h := (if_pos q).symm.trans h
              refine ww_aload_n 96 X dX13_readString_96 0 rfl rfl ?_
              refine ww_iload_n 97 X dX13_readString_97 1 rfl rfl ?_
              obtain ⟨_, f98, h⟩ := bO_some h
              obtain ⟨M98, e98, h⟩ := bO_some h
              refine ww_callVV0 98 X dX13_readString_98 mY_X13_wide mL_X13_427 (rcv_spec f98) ⟨_, _, rfl⟩ (by decide) (As := [.int v27]) (rest := []) rfl rfl ⟨Nat.le_of_ble_eq_true rfl, Nat.le_of_ble_eq_true rfl⟩ (Nat.le_of_ble_eq_true rfl) (fun l D A => c_X13_wide l D A e98) ?_
              refine ww_goto 101 10 X dX13_readString_101 (by decide) ?_
              exact ww_sub [0] rfl (ih _ _ h)
            · replace h := (if_neg q).symm.trans h
              refine ww_aload_n 78 X dX13_readString_78 0 rfl rfl ?_
              refine ww_iload_n 79 X dX13_readString_79 1 rfl rfl ?_
              obtain ⟨_, f80, h⟩ := bO_some h
              obtain ⟨M80, e80, h⟩ := bO_some h
              refine ww_callVV0 80 X dX13_readString_80 mY_X13_keep8 mL_X13_402 (rcv_spec f80) ⟨_, _, rfl⟩ (by decide) (As := [.int v27]) (rest := []) rfl rfl ⟨Nat.le_of_ble_eq_true rfl, Nat.le_of_ble_eq_true rfl⟩ (Nat.le_of_ble_eq_true rfl) (fun l D A => c_X13_keep8 l D A e80) ?_
              refine ww_aload_n 83 X dX13_readString_83 0 rfl rfl ?_
              refine ww_dup 84 X dX13_readString_84 rfl ?_
              obtain ⟨v85, e85, h⟩ := bO_some h
              refine ww_getI 85 X dX13_readString_85 fG_X13_336 e85 ?_
              refine ww_iconst 88 X (v := (1 : Int32)) dX13_readString_88 (by decide) ?_
              refine ww_iadd 89 X dX13_readString_89 ?_
              obtain ⟨M90, e90, h⟩ := bO_some h
              refine ww_putI 90 X dX13_readString_90 (fP_X13_336 _) e90 ?_
              refine ww_goto 93 101 X dX13_readString_93 (by decide) ?_
              refine ww_goto 101 10 X dX13_readString_101 (by decide) ?_
              exact ww_sub [0] rfl (ih _ _ h)
          · replace h := (if_pos q).symm.trans h
            refine ww_aload_n 54 X dX13_readString_54 0 rfl rfl ?_
            refine ww_dup 55 X dX13_readString_55 rfl ?_
            obtain ⟨v56, e56, h⟩ := bO_some h
            refine ww_getI 56 X dX13_readString_56 fG_X13_336 e56 ?_
            refine ww_iconst 59 X (v := (1 : Int32)) dX13_readString_59 (by decide) ?_
            refine ww_iadd 60 X dX13_readString_60 ?_
            obtain ⟨M61, e61, h⟩ := bO_some h
            refine ww_putI 61 X dX13_readString_61 (fP_X13_336 _) e61 ?_
            refine ww_aload_n 64 X dX13_readString_64 0 rfl rfl ?_
            obtain ⟨_, f65, h⟩ := bO_some h
            obtain ⟨M65, e65, h⟩ := bO_some h
            refine ww_callVV0 65 X dX13_readString_65 mY_X13_escape mL_X13_424 (rcv_spec f65) ⟨_, _, rfl⟩ (by decide) (As := []) (rest := []) rfl rfl ⟨Nat.le_of_ble_eq_true rfl, Nat.le_of_ble_eq_true rfl⟩ (Nat.le_of_ble_eq_true rfl) (fun l D A => c_X13_escape l D A e65) ?_
            refine ww_goto 68 101 X dX13_readString_68 (by decide) ?_
            refine ww_goto 101 10 X dX13_readString_101 (by decide) ?_
            exact ww_sub [0] rfl (ih _ _ h)
        · replace h := (if_neg q).symm.trans h
          refine ww_aload_n 37 X dX13_readString_37 0 rfl rfl ?_
          refine ww_aload_n 38 X dX13_readString_38 0 rfl rfl ?_
          obtain ⟨v39, e39, h⟩ := bO_some h
          refine ww_getI 39 X dX13_readString_39 fG_X13_336 e39 ?_
          obtain ⟨_, f42, h⟩ := bO_some h
          obtain ⟨M42, e42, h⟩ := bO_some h
          refine ww_callVV0 42 X dX13_readString_42 mY_X13_fail mL_X13_375 (rcv_spec f42) ⟨_, _, rfl⟩ (by decide) (As := [.int v39]) (rest := []) rfl rfl ⟨Nat.le_of_ble_eq_true rfl, Nat.le_of_ble_eq_true rfl⟩ (Nat.le_of_ble_eq_true rfl) (fun l D A => c_X13_fail l D A e42) ?_
          refine ww_goto 45 101 X dX13_readString_45 (by decide) ?_
          refine ww_goto 101 10 X dX13_readString_101 (by decide) ?_
          exact ww_sub [0] rfl (ih _ _ h)
set_option maxHeartbeats 4000000 in
set_option maxRecDepth 100000 in
theorem wP_X13_readString {G : mG} {F : Nat} {x : mXT} {sz : Nat} {M0 : mM} (X : mCX G RX13 cX13_readString 2 none "readString" rmX13_readString x) (hQ : mQV x M0 (sz, 0, 0)) {l0 : Nat} {M : mM} (h : P_X13_readString G F l0 M = some M0) : WW x (sz, 0, 0) M 0 [(0, .ref l0)] [] := by
  unfold P_X13_readString at h
  refine ww_aload_n 0 X dX13_readString_0 0 rfl rfl ?_
  refine ww_dup 1 X dX13_readString_1 rfl ?_
  obtain ⟨v2, e2, h⟩ := bO_some h
  refine ww_getI 2 X dX13_readString_2 fG_X13_336 e2 ?_
  refine ww_iconst 5 X (v := (1 : Int32)) dX13_readString_5 (by decide) ?_
  refine ww_iadd 6 X dX13_readString_6 ?_
  obtain ⟨M7, e7, h⟩ := bO_some h
  refine ww_putI 7 X dX13_readString_7 (fP_X13_336 _) e7 ?_
  exact (wB_X13_readString_10 X hQ F _ _ h)
theorem c_X13_readString {G : mG} {F sz : Nat} {M0 : mM} (l : Launch) (D : mD) (A : Nat → Prop) {l0 : Nat} {M : mM} (h : P_X13_readString G F l0 M = some M0) : mMetV l D G A yX13_readString cX13_readString 2 none 5 115 0 0 [.ref l0] M sz M0 sz := mMetV_of l D G A (by decide) (Nat.le_of_ble_eq_true rfl) (fun x X hQ => wP_X13_readString X hQ h)
/-! SealedTokensModel.readName(I)V -/
theorem dX13_readName_0 : decode cX13_readName 0 = .ok (.aload_n 0, 1) := by decide +kernel
theorem dX13_readName_1 : decode cX13_readName 1 = .ok (.getfield 336, 3) := by decide +kernel
theorem dX13_readName_4 : decode cX13_readName 4 = .ok (.istore_n 2, 1) := by decide +kernel
theorem dX13_readName_5 : decode cX13_readName 5 = .ok (.aload_n 0, 1) := by decide +kernel
theorem dX13_readName_6 : decode cX13_readName 6 = .ok (.getfield 358, 3) := by decide +kernel
theorem dX13_readName_9 : decode cX13_readName 9 = .ok (.istore_n 3, 1) := by decide +kernel
theorem dX13_readName_10 : decode cX13_readName 10 = .ok (.aload_n 0, 1) := by decide +kernel
theorem dX13_readName_11 : decode cX13_readName 11 = .ok (.invokevirtual 351, 3) := by decide +kernel
theorem dX13_readName_14 : decode cX13_readName 14 = .ok (.bipush 34, 2) := by decide +kernel
theorem dX13_readName_16 : decode cX13_readName 16 = .ok (.if_icmp .eq 12, 3) := by decide +kernel
theorem dX13_readName_19 : decode cX13_readName 19 = .ok (.aload_n 0, 1) := by decide +kernel
theorem dX13_readName_20 : decode cX13_readName 20 = .ok (.aload_n 0, 1) := by decide +kernel
theorem dX13_readName_21 : decode cX13_readName 21 = .ok (.getfield 336, 3) := by decide +kernel
theorem dX13_readName_24 : decode cX13_readName 24 = .ok (.invokevirtual 375, 3) := by decide +kernel
theorem dX13_readName_27 : decode cX13_readName 27 = .ok (.return_, 1) := by decide +kernel
theorem dX13_readName_28 : decode cX13_readName 28 = .ok (.aload_n 0, 1) := by decide +kernel
theorem dX13_readName_29 : decode cX13_readName 29 = .ok (.invokevirtual 386, 3) := by decide +kernel
theorem dX13_readName_32 : decode cX13_readName 32 = .ok (.iload_n 1, 1) := by decide +kernel
theorem dX13_readName_33 : decode cX13_readName 33 = .ok (.iconst 1, 1) := by decide +kernel
theorem dX13_readName_34 : decode cX13_readName 34 = .ok (.iadd, 1) := by decide +kernel
theorem dX13_readName_35 : decode cX13_readName 35 = .ok (.istore 4, 2) := by decide +kernel
theorem dX13_readName_37 : decode cX13_readName 37 = .ok (.iload 4, 2) := by decide +kernel
theorem dX13_readName_39 : decode cX13_readName 39 = .ok (.sipush 600, 3) := by decide +kernel
theorem dX13_readName_42 : decode cX13_readName 42 = .ok (.aload_n 0, 1) := by decide +kernel
theorem dX13_readName_43 : decode cX13_readName 43 = .ok (.getfield 355, 3) := by decide +kernel
theorem dX13_readName_46 : decode cX13_readName 46 = .ok (.imul, 1) := by decide +kernel
theorem dX13_readName_47 : decode cX13_readName 47 = .ok (.aload_n 0, 1) := by decide +kernel
theorem dX13_readName_48 : decode cX13_readName 48 = .ok (.getfield 54, 3) := by decide +kernel
theorem dX13_readName_51 : decode cX13_readName 51 = .ok (.aload_n 0, 1) := by decide +kernel
theorem dX13_readName_52 : decode cX13_readName 52 = .ok (.getfield 355, 3) := by decide +kernel
theorem dX13_readName_55 : decode cX13_readName 55 = .ok (.iaload, 1) := by decide +kernel
theorem dX13_readName_56 : decode cX13_readName 56 = .ok (.iadd, 1) := by decide +kernel
theorem dX13_readName_57 : decode cX13_readName 57 = .ok (.if_icmp .ge 85, 3) := by decide +kernel
theorem dX13_readName_60 : decode cX13_readName 60 = .ok (.aload_n 0, 1) := by decide +kernel
theorem dX13_readName_61 : decode cX13_readName 61 = .ok (.invokevirtual 371, 3) := by decide +kernel
theorem dX13_readName_64 : decode cX13_readName 64 = .ok (.ifCond .eq 78, 3) := by decide +kernel
theorem dX13_readName_67 : decode cX13_readName 67 = .ok (.aload_n 0, 1) := by decide +kernel
theorem dX13_readName_68 : decode cX13_readName 68 = .ok (.getfield 27, 3) := by decide +kernel
theorem dX13_readName_71 : decode cX13_readName 71 = .ok (.iload 4, 2) := by decide +kernel
theorem dX13_readName_73 : decode cX13_readName 73 = .ok (.iaload, 1) := by decide +kernel
theorem dX13_readName_74 : decode cX13_readName 74 = .ok (.iload_n 1, 1) := by decide +kernel
theorem dX13_readName_75 : decode cX13_readName 75 = .ok (.sipush 600, 3) := by decide +kernel
theorem dX13_readName_78 : decode cX13_readName 78 = .ok (.aload_n 0, 1) := by decide +kernel
theorem dX13_readName_79 : decode cX13_readName 79 = .ok (.getfield 355, 3) := by decide +kernel
theorem dX13_readName_82 : decode cX13_readName 82 = .ok (.imul, 1) := by decide +kernel
theorem dX13_readName_83 : decode cX13_readName 83 = .ok (.isub, 1) := by decide +kernel
theorem dX13_readName_84 : decode cX13_readName 84 = .ok (.if_icmp .ne 52, 3) := by decide +kernel
theorem dX13_readName_87 : decode cX13_readName 87 = .ok (.aload_n 0, 1) := by decide +kernel
theorem dX13_readName_88 : decode cX13_readName 88 = .ok (.getfield 48, 3) := by decide +kernel
theorem dX13_readName_91 : decode cX13_readName 91 = .ok (.iload 4, 2) := by decide +kernel
theorem dX13_readName_93 : decode cX13_readName 93 = .ok (.iaload, 1) := by decide +kernel
theorem dX13_readName_94 : decode cX13_readName 94 = .ok (.aload_n 0, 1) := by decide +kernel
theorem dX13_readName_95 : decode cX13_readName 95 = .ok (.getfield 358, 3) := by decide +kernel
theorem dX13_readName_98 : decode cX13_readName 98 = .ok (.iload_n 3, 1) := by decide +kernel
theorem dX13_readName_99 : decode cX13_readName 99 = .ok (.isub, 1) := by decide +kernel
theorem dX13_readName_100 : decode cX13_readName 100 = .ok (.if_icmp .ne 36, 3) := by decide +kernel
theorem dX13_readName_103 : decode cX13_readName 103 = .ok (.aload_n 0, 1) := by decide +kernel
theorem dX13_readName_104 : decode cX13_readName 104 = .ok (.getfield 51, 3) := by decide +kernel
theorem dX13_readName_107 : decode cX13_readName 107 = .ok (.aload_n 0, 1) := by decide +kernel
theorem dX13_readName_108 : decode cX13_readName 108 = .ok (.getfield 45, 3) := by decide +kernel
theorem dX13_readName_111 : decode cX13_readName 111 = .ok (.iload 4, 2) := by decide +kernel
theorem dX13_readName_113 : decode cX13_readName 113 = .ok (.iaload, 1) := by decide +kernel
theorem dX13_readName_114 : decode cX13_readName 114 = .ok (.aload_n 0, 1) := by decide +kernel
theorem dX13_readName_115 : decode cX13_readName 115 = .ok (.getfield 51, 3) := by decide +kernel
theorem dX13_readName_118 : decode cX13_readName 118 = .ok (.iload_n 3, 1) := by decide +kernel
theorem dX13_readName_119 : decode cX13_readName 119 = .ok (.aload_n 0, 1) := by decide +kernel
theorem dX13_readName_120 : decode cX13_readName 120 = .ok (.getfield 358, 3) := by decide +kernel
theorem dX13_readName_123 : decode cX13_readName 123 = .ok (.iload_n 3, 1) := by decide +kernel
theorem dX13_readName_124 : decode cX13_readName 124 = .ok (.isub, 1) := by decide +kernel
theorem dX13_readName_125 : decode cX13_readName 125 = .ok (.invokestatic 420, 3) := by decide +kernel
theorem dX13_readName_128 : decode cX13_readName 128 = .ok (.ifCond .eq 8, 3) := by decide +kernel
theorem dX13_readName_131 : decode cX13_readName 131 = .ok (.aload_n 0, 1) := by decide +kernel
theorem dX13_readName_132 : decode cX13_readName 132 = .ok (.iload_n 2, 1) := by decide +kernel
theorem dX13_readName_133 : decode cX13_readName 133 = .ok (.invokevirtual 375, 3) := by decide +kernel
theorem dX13_readName_136 : decode cX13_readName 136 = .ok (.iinc 4 1, 3) := by decide +kernel
theorem dX13_readName_139 : decode cX13_readName 139 = .ok (.goto (-102), 3) := by decide +kernel
theorem dX13_readName_142 : decode cX13_readName 142 = .ok (.aload_n 0, 1) := by decide +kernel
theorem dX13_readName_143 : decode cX13_readName 143 = .ok (.invokevirtual 371, 3) := by decide +kernel
theorem dX13_readName_146 : decode cX13_readName 146 = .ok (.ifCond .eq 41, 3) := by decide +kernel
theorem dX13_readName_149 : decode cX13_readName 149 = .ok (.aload_n 0, 1) := by decide +kernel
theorem dX13_readName_150 : decode cX13_readName 150 = .ok (.invokevirtual 364, 3) := by decide +kernel
theorem dX13_readName_153 : decode cX13_readName 153 = .ok (.aload_n 0, 1) := by decide +kernel
theorem dX13_readName_154 : decode cX13_readName 154 = .ok (.invokevirtual 351, 3) := by decide +kernel
theorem dX13_readName_157 : decode cX13_readName 157 = .ok (.bipush 58, 2) := by decide +kernel
theorem dX13_readName_159 : decode cX13_readName 159 = .ok (.if_icmp .ne 20, 3) := by decide +kernel
theorem dX13_readName_162 : decode cX13_readName 162 = .ok (.aload_n 0, 1) := by decide +kernel
theorem dX13_readName_163 : decode cX13_readName 163 = .ok (.dup, 1) := by decide +kernel
theorem dX13_readName_164 : decode cX13_readName 164 = .ok (.getfield 336, 3) := by decide +kernel
theorem dX13_readName_167 : decode cX13_readName 167 = .ok (.iconst 1, 1) := by decide +kernel
theorem dX13_readName_168 : decode cX13_readName 168 = .ok (.iadd, 1) := by decide +kernel
theorem dX13_readName_169 : decode cX13_readName 169 = .ok (.putfield 336, 3) := by decide +kernel
theorem dX13_readName_172 : decode cX13_readName 172 = .ok (.aload_n 0, 1) := by decide +kernel
theorem dX13_readName_173 : decode cX13_readName 173 = .ok (.invokevirtual 364, 3) := by decide +kernel
theorem dX13_readName_176 : decode cX13_readName 176 = .ok (.goto 11, 3) := by decide +kernel
theorem dX13_readName_179 : decode cX13_readName 179 = .ok (.aload_n 0, 1) := by decide +kernel
theorem dX13_readName_180 : decode cX13_readName 180 = .ok (.aload_n 0, 1) := by decide +kernel
theorem dX13_readName_181 : decode cX13_readName 181 = .ok (.getfield 336, 3) := by decide +kernel
theorem dX13_readName_184 : decode cX13_readName 184 = .ok (.invokevirtual 375, 3) := by decide +kernel
theorem dX13_readName_187 : decode cX13_readName 187 = .ok (.return_, 1) := by decide +kernel
abbrev rmX13_readName : Room := { frames := 6, cells := 0, slots := 0, locals := 136 }
set_option maxHeartbeats 4000000 in
set_option maxRecDepth 100000 in
theorem wB_X13_readName_142 {G : mG} {F : Nat} {x : mXT} {sz : Nat} {M0 : mM} (X : mCX G RX13 cX13_readName 5 none "readName" rmX13_readName x) (hQ : mQV x M0 (sz, 0, 0)) {l0 : Nat} {M : mM} (h : B_X13_readName_142 G F l0 M = some M0) : WW x (sz, 0, 0) M 142 [(0, .ref l0)] [] := by
  unfold B_X13_readName_142 at h
  refine ww_aload_n 142 X dX13_readName_142 0 rfl rfl ?_
  obtain ⟨_, f143, h⟩ := bO_some h
  obtain ⟨v143, M143, e143, h⟩ := bP_some h
  refine ww_callVI0 143 X dX13_readName_143 mY_X13_good mL_X13_371 (rcv_spec f143) ⟨_, _, rfl⟩ (by decide) (As := []) (rest := []) rfl rfl ⟨Nat.le_of_ble_eq_true rfl, Nat.le_of_ble_eq_true rfl⟩ (Nat.le_of_ble_eq_true rfl) (fun l D A => c_X13_good l D A e143) ?_
  refine ww_if_eq 146 187 X dX13_readName_146 (by decide) (fun q => ?_) (fun q => ?_)
  · replace h := (if_pos q).symm.trans h
    exact ww_vretE 187 X hQ dX13_readName_187 h
  · replace h := (if_neg q).symm.trans h
    refine ww_aload_n 149 X dX13_readName_149 0 rfl rfl ?_
    obtain ⟨_, f150, h⟩ := bO_some h
    obtain ⟨M150, e150, h⟩ := bO_some h
    refine ww_callVV0 150 X dX13_readName_150 mY_X13_blanks mL_X13_364 (rcv_spec f150) ⟨_, _, rfl⟩ (by decide) (As := []) (rest := []) rfl rfl ⟨Nat.le_of_ble_eq_true rfl, Nat.le_of_ble_eq_true rfl⟩ (Nat.le_of_ble_eq_true rfl) (fun l D A => c_X13_blanks l D A e150) ?_
    refine ww_aload_n 153 X dX13_readName_153 0 rfl rfl ?_
    obtain ⟨_, f154, h⟩ := bO_some h
    obtain ⟨v154, M154, e154, h⟩ := bP_some h
    refine ww_callVI0 154 X dX13_readName_154 mY_X13_at mL_X13_351 (rcv_spec f154) ⟨_, _, rfl⟩ (by decide) (As := []) (rest := []) rfl rfl ⟨Nat.le_of_ble_eq_true rfl, Nat.le_of_ble_eq_true rfl⟩ (Nat.le_of_ble_eq_true rfl) (fun l D A => c_X13_at l D A e154) ?_
    refine ww_bipush 157 X (v := (58 : Int32)) dX13_readName_157 (by decide) ?_
    refine ww_icmp_ne 159 179 X dX13_readName_159 (by decide) (fun q => ?_) (fun q => ?_)
    · replace h := (if_neg q).symm.trans h
      refine ww_aload_n 179 X dX13_readName_179 0 rfl rfl ?_
      refine ww_aload_n 180 X dX13_readName_180 0 rfl rfl ?_
      obtain ⟨v181, e181, h⟩ := bO_some h
      refine ww_getI 181 X dX13_readName_181 fG_X13_336 e181 ?_
      obtain ⟨_, f184, h⟩ := bO_some h
      obtain ⟨M184, e184, h⟩ := bO_some h
      refine ww_callVV0 184 X dX13_readName_184 mY_X13_fail mL_X13_375 (rcv_spec f184) ⟨_, _, rfl⟩ (by decide) (As := [.int v181]) (rest := []) rfl rfl ⟨Nat.le_of_ble_eq_true rfl, Nat.le_of_ble_eq_true rfl⟩ (Nat.le_of_ble_eq_true rfl) (fun l D A => c_X13_fail l D A e184) ?_
      exact ww_vretE 187 X hQ dX13_readName_187 h
    · replace h := (if_pos q).symm.trans h
      refine ww_aload_n 162 X dX13_readName_162 0 rfl rfl ?_
      refine ww_dup 163 X dX13_readName_163 rfl ?_
      obtain ⟨v164, e164, h⟩ := bO_some h
      refine ww_getI 164 X dX13_readName_164 fG_X13_336 e164 ?_
      refine ww_iconst 167 X (v := (1 : Int32)) dX13_readName_167 (by decide) ?_
      refine ww_iadd 168 X dX13_readName_168 ?_
      obtain ⟨M169, e169, h⟩ := bO_some h
      refine ww_putI 169 X dX13_readName_169 (fP_X13_336 _) e169 ?_
      refine ww_aload_n 172 X dX13_readName_172 0 rfl rfl ?_
      obtain ⟨_, f173, h⟩ := bO_some h
      obtain ⟨M173, e173, h⟩ := bO_some h
      refine ww_callVV0 173 X dX13_readName_173 mY_X13_blanks mL_X13_364 (rcv_spec f173) ⟨_, _, rfl⟩ (by decide) (As := []) (rest := []) rfl rfl ⟨Nat.le_of_ble_eq_true rfl, Nat.le_of_ble_eq_true rfl⟩ (Nat.le_of_ble_eq_true rfl) (fun l D A => c_X13_blanks l D A e173) ?_
      refine ww_goto 176 187 X dX13_readName_176 (by decide) ?_
      exact ww_vretE 187 X hQ dX13_readName_187 h
set_option maxHeartbeats 4000000 in
set_option maxRecDepth 100000 in
theorem wB_X13_readName_37 {G : mG} {F : Nat} {x : mXT} {sz : Nat} {M0 : mM} (X : mCX G RX13 cX13_readName 5 none "readName" rmX13_readName x) (hQ : mQV x M0 (sz, 0, 0)) : ∀ (n : Nat) (l0 : Nat) (l1 : Int32) (l2 : Int32) (l3 : Int32) (l4 : Int32) (M : mM), B_X13_readName_37 G F n l0 l1 l2 l3 l4 M = some M0 → WW x (sz, 0, 0) M 37 [(0, .ref l0), (1, .int l1), (2, .int l2), (3, .int l3), (4, .int l4)] [] := by
  intro n
  induction n with
  | zero =>
    intro l0 l1 l2 l3 l4 M h
    exact nomatch (show (none : Option mM) = some M0 from h)
  | succ n ih =>
    intro l0 l1 l2 l3 l4 M h
    rw [B_X13_readName_37] at h
    refine ww_iload 37 X dX13_readName_37 4 rfl ?_
    refine ww_sipush 39 X (v := (600 : Int32)) dX13_readName_39 (by decide) ?_
    refine ww_aload_n 42 X dX13_readName_42 0 rfl rfl ?_
    obtain ⟨v43, e43, h⟩ := bO_some h
    refine ww_getI 43 X dX13_readName_43 fG_X13_355 e43 ?_
    refine ww_imul 46 X dX13_readName_46 ?_
    refine ww_aload_n 47 X dX13_readName_47 0 rfl rfl ?_
    obtain ⟨v48, e48, h⟩ := bO_some h
    refine ww_getR 48 X dX13_readName_48 fG_X13_54 e48 ?_
    refine ww_aload_n 51 X dX13_readName_51 0 rfl rfl ?_
    obtain ⟨v52, e52, h⟩ := bO_some h
    refine ww_getI 52 X dX13_readName_52 fG_X13_355 e52 ?_
    obtain ⟨v55, e55, h⟩ := bO_some h
    refine ww_iald 55 X dX13_readName_55 e55 ?_
    refine ww_iadd 56 X dX13_readName_56 ?_
    refine ww_icmp_ge 57 142 X dX13_readName_57 (by decide) (fun q => ?_) (fun q => ?_)
    · replace h := (if_pos q).symm.trans h
      exact ww_sub [0] rfl (wB_X13_readName_142 X hQ h)
    · replace h := (if_neg q).symm.trans h
      refine ww_aload_n 60 X dX13_readName_60 0 rfl rfl ?_
      obtain ⟨_, f61, h⟩ := bO_some h
      obtain ⟨v61, M61, e61, h⟩ := bP_some h
      refine ww_callVI0 61 X dX13_readName_61 mY_X13_good mL_X13_371 (rcv_spec f61) ⟨_, _, rfl⟩ (by decide) (As := []) (rest := []) rfl rfl ⟨Nat.le_of_ble_eq_true rfl, Nat.le_of_ble_eq_true rfl⟩ (Nat.le_of_ble_eq_true rfl) (fun l D A => c_X13_good l D A e61) ?_
      refine ww_if_eq 64 142 X dX13_readName_64 (by decide) (fun q => ?_) (fun q => ?_)
      · replace h := (if_pos q).symm.trans h
        exact ww_sub [0] rfl (wB_X13_readName_142 X hQ h)
      · replace h := (if_neg q).symm.trans h
        refine ww_aload_n 67 X dX13_readName_67 0 rfl rfl ?_
        obtain ⟨v68, e68, h⟩ := bO_some h
        refine ww_getR 68 X dX13_readName_68 fG_X13_27 e68 ?_
        refine ww_iload 71 X dX13_readName_71 4 rfl ?_
        obtain ⟨v73, e73, h⟩ := bO_some h
        refine ww_iald 73 X dX13_readName_73 e73 ?_
        refine ww_iload_n 74 X dX13_readName_74 1 rfl rfl ?_
        refine ww_sipush 75 X (v := (600 : Int32)) dX13_readName_75 (by decide) ?_
        refine ww_aload_n 78 X dX13_readName_78 0 rfl rfl ?_
        obtain ⟨v79, e79, h⟩ := bO_some h
        refine ww_getI 79 X dX13_readName_79 fG_X13_355 e79 ?_
        refine ww_imul 82 X dX13_readName_82 ?_
        refine ww_isub 83 X dX13_readName_83 ?_
        refine ww_icmp_ne 84 136 X dX13_readName_84 (by decide) (fun q => ?_) (fun q => ?_)
        · replace h := (if_neg q).symm.trans h
          refine ww_iinc 136 X dX13_readName_136 (lv' := [(0, .ref l0), (1, .int l1), (2, .int l2), (3, .int l3), (4, .int (l4 + 1))]) 4 rfl rfl (by decide) [1, 2, 3, 4, 0] rfl ?_
          refine ww_goto 139 37 X dX13_readName_139 (by decide) ?_
          exact (ih _ _ _ _ _ _ h)
        · replace h := (if_pos q).symm.trans h
          refine ww_aload_n 87 X dX13_readName_87 0 rfl rfl ?_
          obtain ⟨v88, e88, h⟩ := bO_some h
          refine ww_getR 88 X dX13_readName_88 fG_X13_48 e88 ?_
          refine ww_iload 91 X dX13_readName_91 4 rfl ?_
          obtain ⟨v93, e93, h⟩ := bO_some h
          refine ww_iald 93 X dX13_readName_93 e93 ?_
          refine ww_aload_n 94 X dX13_readName_94 0 rfl rfl ?_
          obtain ⟨v95, e95, h⟩ := bO_some h
          refine ww_getI 95 X dX13_readName_95 fG_X13_358 e95 ?_
          refine ww_iload_n 98 X dX13_readName_98 3 rfl rfl ?_
          refine ww_isub 99 X dX13_readName_99 ?_
          refine ww_icmp_ne 100 136 X dX13_readName_100 (by decide) (fun q => ?_) (fun q => ?_)
          · replace h := (if_neg q).symm.trans h
            refine ww_iinc 136 X dX13_readName_136 (lv' := [(0, .ref l0), (1, .int l1), (2, .int l2), (3, .int l3), (4, .int (l4 + 1))]) 4 rfl rfl (by decide) [1, 2, 3, 4, 0] rfl ?_
            refine ww_goto 139 37 X dX13_readName_139 (by decide) ?_
            exact (ih _ _ _ _ _ _ h)
          · replace h := (if_pos q).symm.trans h
            refine ww_aload_n 103 X dX13_readName_103 0 rfl rfl ?_
            obtain ⟨v104, e104, h⟩ := bO_some h
            refine ww_getR 104 X dX13_readName_104 fG_X13_51 e104 ?_
            refine ww_aload_n 107 X dX13_readName_107 0 rfl rfl ?_
            obtain ⟨v108, e108, h⟩ := bO_some h
            refine ww_getR 108 X dX13_readName_108 fG_X13_45 e108 ?_
            refine ww_iload 111 X dX13_readName_111 4 rfl ?_
            obtain ⟨v113, e113, h⟩ := bO_some h
            refine ww_iald 113 X dX13_readName_113 e113 ?_
            refine ww_aload_n 114 X dX13_readName_114 0 rfl rfl ?_
            obtain ⟨v115, e115, h⟩ := bO_some h
            refine ww_getR 115 X dX13_readName_115 fG_X13_51 e115 ?_
            refine ww_iload_n 118 X dX13_readName_118 3 rfl rfl ?_
            refine ww_aload_n 119 X dX13_readName_119 0 rfl rfl ?_
            obtain ⟨v120, e120, h⟩ := bO_some h
            refine ww_getI 120 X dX13_readName_120 fG_X13_358 e120 ?_
            refine ww_iload_n 123 X dX13_readName_123 3 rfl rfl ?_
            refine ww_isub 124 X dX13_readName_124 ?_
            obtain ⟨v125, M125, e125, h⟩ := bP_some h
            refine ww_callSI0 125 X dX13_readName_125 mY_X13_same mL_X13_420 (As := [.ref v104, .int v113, .ref v115, .int l3, .int (v120 - l3)]) (rest := []) rfl rfl ⟨Nat.le_of_ble_eq_true rfl, Nat.le_of_ble_eq_true rfl⟩ (Nat.le_of_ble_eq_true rfl) (fun l D A => c_X13_same l D A e125) ?_
            refine ww_if_eq 128 136 X dX13_readName_128 (by decide) (fun q => ?_) (fun q => ?_)
            · replace h := (if_pos q).symm.trans h
              refine ww_iinc 136 X dX13_readName_136 (lv' := [(0, .ref l0), (1, .int l1), (2, .int l2), (3, .int l3), (4, .int (l4 + 1))]) 4 rfl rfl (by decide) [1, 2, 3, 4, 0] rfl ?_
              refine ww_goto 139 37 X dX13_readName_139 (by decide) ?_
              exact (ih _ _ _ _ _ _ h)
            · replace h := (if_neg q).symm.trans h
              refine ww_aload_n 131 X dX13_readName_131 0 rfl rfl ?_
              refine ww_iload_n 132 X dX13_readName_132 2 rfl rfl ?_
              obtain ⟨_, f133, h⟩ := bO_some h
              obtain ⟨M133, e133, h⟩ := bO_some h
              refine ww_callVV0 133 X dX13_readName_133 mY_X13_fail mL_X13_375 (rcv_spec f133) ⟨_, _, rfl⟩ (by decide) (As := [.int l2]) (rest := []) rfl rfl ⟨Nat.le_of_ble_eq_true rfl, Nat.le_of_ble_eq_true rfl⟩ (Nat.le_of_ble_eq_true rfl) (fun l D A => c_X13_fail l D A e133) ?_
              refine ww_iinc 136 X dX13_readName_136 (lv' := [(0, .ref l0), (1, .int l1), (2, .int l2), (3, .int l3), (4, .int (l4 + 1))]) 4 rfl rfl (by decide) [1, 2, 3, 4, 0] rfl ?_
              refine ww_goto 139 37 X dX13_readName_139 (by decide) ?_
              exact (ih _ _ _ _ _ _ h)
set_option maxHeartbeats 4000000 in
set_option maxRecDepth 100000 in
theorem wP_X13_readName {G : mG} {F : Nat} {x : mXT} {sz : Nat} {M0 : mM} (X : mCX G RX13 cX13_readName 5 none "readName" rmX13_readName x) (hQ : mQV x M0 (sz, 0, 0)) {l0 : Nat} {l1 : Int32} {M : mM} (h : P_X13_readName G F l0 l1 M = some M0) : WW x (sz, 0, 0) M 0 [(0, .ref l0), (1, .int l1)] [] := by
  unfold P_X13_readName at h
  refine ww_aload_n 0 X dX13_readName_0 0 rfl rfl ?_
  obtain ⟨v1, e1, h⟩ := bO_some h
  refine ww_getI 1 X dX13_readName_1 fG_X13_336 e1 ?_
  refine ww_istore_n 4 X dX13_readName_4 (lv' := [(0, .ref l0), (1, .int l1), (2, .int v1)]) rfl (by decide) [1, 2, 0] rfl ?_
  refine ww_aload_n 5 X dX13_readName_5 0 rfl rfl ?_
  obtain ⟨v6, e6, h⟩ := bO_some h
  refine ww_getI 6 X dX13_readName_6 fG_X13_358 e6 ?_
  refine ww_istore_n 9 X dX13_readName_9 (lv' := [(0, .ref l0), (1, .int l1), (2, .int v1), (3, .int v6)]) rfl (by decide) [1, 2, 3, 0] rfl ?_
  refine ww_aload_n 10 X dX13_readName_10 0 rfl rfl ?_
  obtain ⟨_, f11, h⟩ := bO_some h
  obtain ⟨v11, M11, e11, h⟩ := bP_some h
  refine ww_callVI0 11 X dX13_readName_11 mY_X13_at mL_X13_351 (rcv_spec f11) ⟨_, _, rfl⟩ (by decide) (As := []) (rest := []) rfl rfl ⟨Nat.le_of_ble_eq_true rfl, Nat.le_of_ble_eq_true rfl⟩ (Nat.le_of_ble_eq_true rfl) (fun l D A => c_X13_at l D A e11) ?_
  refine ww_bipush 14 X (v := (34 : Int32)) dX13_readName_14 (by decide) ?_
  refine ww_icmp_eq 16 28 X dX13_readName_16 (by decide) (fun q => ?_) (fun q => ?_)
  · replace h := (if_pos q).symm.trans h
    refine ww_aload_n 28 X dX13_readName_28 0 rfl rfl ?_
    obtain ⟨_, f29, h⟩ := bO_some h
    obtain ⟨M29, e29, h⟩ := bO_some h
    refine ww_callVV0 29 X dX13_readName_29 mY_X13_readString mL_X13_386 (rcv_spec f29) ⟨_, _, rfl⟩ (by decide) (As := []) (rest := []) rfl rfl ⟨Nat.le_of_ble_eq_true rfl, Nat.le_of_ble_eq_true rfl⟩ (Nat.le_of_ble_eq_true rfl) (fun l D A => c_X13_readString l D A e29) ?_
    refine ww_iload_n 32 X dX13_readName_32 1 rfl rfl ?_
    refine ww_iconst 33 X (v := (1 : Int32)) dX13_readName_33 (by decide) ?_
    refine ww_iadd 34 X dX13_readName_34 ?_
    refine ww_istore 35 X dX13_readName_35 (lv' := [(0, .ref l0), (1, .int l1), (2, .int v1), (3, .int v6), (4, .int (l1 + (1 : Int32)))]) (by decide) [1, 2, 3, 4, 0] rfl ?_
    exact (wB_X13_readName_37 X hQ F _ _ _ _ _ _ h)
  · replace h := (if_neg q).symm.trans h
    refine ww_aload_n 19 X dX13_readName_19 0 rfl rfl ?_
    refine ww_aload_n 20 X dX13_readName_20 0 rfl rfl ?_
    obtain ⟨v21, e21, h⟩ := bO_some h
    refine ww_getI 21 X dX13_readName_21 fG_X13_336 e21 ?_
    obtain ⟨_, f24, h⟩ := bO_some h
    obtain ⟨M24, e24, h⟩ := bO_some h
    refine ww_callVV0 24 X dX13_readName_24 mY_X13_fail mL_X13_375 (rcv_spec f24) ⟨_, _, rfl⟩ (by decide) (As := [.int v21]) (rest := []) rfl rfl ⟨Nat.le_of_ble_eq_true rfl, Nat.le_of_ble_eq_true rfl⟩ (Nat.le_of_ble_eq_true rfl) (fun l D A => c_X13_fail l D A e24) ?_
    exact ww_vretE 27 X hQ dX13_readName_27 h
theorem c_X13_readName {G : mG} {F sz : Nat} {M0 : mM} (l : Launch) (D : mD) (A : Nat → Prop) {l0 : Nat} {l1 : Int32} {M : mM} (h : P_X13_readName G F l0 l1 M = some M0) : mMetV l D G A yX13_readName cX13_readName 5 none 6 136 0 0 [.ref l0, .int l1] M sz M0 sz := mMetV_of l D G A (by decide) (Nat.le_of_ble_eq_true rfl) (fun x X hQ => wP_X13_readName X hQ h)
/-! SealedTokensModel.word(Ljava/lang/String;)V -/
theorem dX13_word_0 : decode cX13_word 0 = .ok (.iconst 0, 1) := by decide +kernel
theorem dX13_word_1 : decode cX13_word 1 = .ok (.istore_n 2, 1) := by decide +kernel
theorem dX13_word_2 : decode cX13_word 2 = .ok (.iload_n 2, 1) := by decide +kernel
theorem dX13_word_3 : decode cX13_word 3 = .ok (.aload_n 1, 1) := by decide +kernel
theorem dX13_word_4 : decode cX13_word 4 = .ok (.invokevirtual 405, 3) := by decide +kernel
theorem dX13_word_7 : decode cX13_word 7 = .ok (.if_icmp .ge 49, 3) := by decide +kernel
theorem dX13_word_10 : decode cX13_word 10 = .ok (.aload_n 0, 1) := by decide +kernel
theorem dX13_word_11 : decode cX13_word 11 = .ok (.invokevirtual 371, 3) := by decide +kernel
theorem dX13_word_14 : decode cX13_word 14 = .ok (.ifCond .eq 42, 3) := by decide +kernel
theorem dX13_word_17 : decode cX13_word 17 = .ok (.aload_n 0, 1) := by decide +kernel
theorem dX13_word_18 : decode cX13_word 18 = .ok (.invokevirtual 351, 3) := by decide +kernel
theorem dX13_word_21 : decode cX13_word 21 = .ok (.aload_n 1, 1) := by decide +kernel
theorem dX13_word_22 : decode cX13_word 22 = .ok (.iload_n 2, 1) := by decide +kernel
theorem dX13_word_23 : decode cX13_word 23 = .ok (.invokevirtual 410, 3) := by decide +kernel
theorem dX13_word_26 : decode cX13_word 26 = .ok (.if_icmp .ne 16, 3) := by decide +kernel
theorem dX13_word_29 : decode cX13_word 29 = .ok (.aload_n 0, 1) := by decide +kernel
theorem dX13_word_30 : decode cX13_word 30 = .ok (.dup, 1) := by decide +kernel
theorem dX13_word_31 : decode cX13_word 31 = .ok (.getfield 336, 3) := by decide +kernel
theorem dX13_word_34 : decode cX13_word 34 = .ok (.iconst 1, 1) := by decide +kernel
theorem dX13_word_35 : decode cX13_word 35 = .ok (.iadd, 1) := by decide +kernel
theorem dX13_word_36 : decode cX13_word 36 = .ok (.putfield 336, 3) := by decide +kernel
theorem dX13_word_39 : decode cX13_word 39 = .ok (.goto 11, 3) := by decide +kernel
theorem dX13_word_42 : decode cX13_word 42 = .ok (.aload_n 0, 1) := by decide +kernel
theorem dX13_word_43 : decode cX13_word 43 = .ok (.aload_n 0, 1) := by decide +kernel
theorem dX13_word_44 : decode cX13_word 44 = .ok (.getfield 336, 3) := by decide +kernel
theorem dX13_word_47 : decode cX13_word 47 = .ok (.invokevirtual 375, 3) := by decide +kernel
theorem dX13_word_50 : decode cX13_word 50 = .ok (.iinc 2 1, 3) := by decide +kernel
theorem dX13_word_53 : decode cX13_word 53 = .ok (.goto (-51), 3) := by decide +kernel
theorem dX13_word_56 : decode cX13_word 56 = .ok (.return_, 1) := by decide +kernel
abbrev rmX13_word : Room := { frames := 4, cells := 0, slots := 0, locals := 85 }
set_option maxHeartbeats 4000000 in
set_option maxRecDepth 100000 in
theorem wB_X13_word_2 {G : mG} {F : Nat} {x : mXT} {sz : Nat} {M0 : mM} (X : mCX G RX13 cX13_word 3 none "word" rmX13_word x) (hQ : mQV x M0 (sz, 0, 0)) : ∀ (n : Nat) (l0 : Nat) (l1 : Nat) (l2 : Int32) (M : mM), B_X13_word_2 G F n l0 l1 l2 M = some M0 → WW x (sz, 0, 0) M 2 [(0, .ref l0), (1, .ref l1), (2, .int l2)] [] := by
  intro n
  induction n with
  | zero =>
    intro l0 l1 l2 M h
    exact nomatch (show (none : Option mM) = some M0 from h)
  | succ n ih =>
    intro l0 l1 l2 M h
    rw [B_X13_word_2] at h
    refine ww_iload_n 2 X dX13_word_2 2 rfl rfl ?_
    refine ww_aload_n 3 X dX13_word_3 1 rfl rfl ?_
    obtain ⟨_, f4, h⟩ := bO_some h
    obtain ⟨v4, M4, e4, h⟩ := bP_some h
    refine ww_callVIs 4 X dX13_word_4 mY_J0_length_8abf5 mL_X13_405 (rcs_spec f4) rfl (As := []) (rest := [.int l2]) rfl rfl ⟨Nat.le_of_ble_eq_true rfl, Nat.le_of_ble_eq_true rfl⟩ (Nat.le_of_ble_eq_true rfl) (fun l D A => c_J0_length_8abf5 l D A e4) ?_
    refine ww_icmp_ge 7 56 X dX13_word_7 (by decide) (fun q => ?_) (fun q => ?_)
    · replace h := (if_pos q).symm.trans h
      exact ww_vretE 56 X hQ dX13_word_56 h
    · replace h := (if_neg q).symm.trans h
      refine ww_aload_n 10 X dX13_word_10 0 rfl rfl ?_
      obtain ⟨_, f11, h⟩ := bO_some h
      obtain ⟨v11, M11, e11, h⟩ := bP_some h
      refine ww_callVI0 11 X dX13_word_11 mY_X13_good mL_X13_371 (rcv_spec f11) ⟨_, _, rfl⟩ (by decide) (As := []) (rest := []) rfl rfl ⟨Nat.le_of_ble_eq_true rfl, Nat.le_of_ble_eq_true rfl⟩ (Nat.le_of_ble_eq_true rfl) (fun l D A => c_X13_good l D A e11) ?_
      refine ww_if_eq 14 56 X dX13_word_14 (by decide) (fun q => ?_) (fun q => ?_)
      · replace h := (if_pos q).symm.trans h
        exact ww_vretE 56 X hQ dX13_word_56 h
      · replace h := (if_neg q).symm.trans h
        refine ww_aload_n 17 X dX13_word_17 0 rfl rfl ?_
        obtain ⟨_, f18, h⟩ := bO_some h
        obtain ⟨v18, M18, e18, h⟩ := bP_some h
        refine ww_callVI0 18 X dX13_word_18 mY_X13_at mL_X13_351 (rcv_spec f18) ⟨_, _, rfl⟩ (by decide) (As := []) (rest := []) rfl rfl ⟨Nat.le_of_ble_eq_true rfl, Nat.le_of_ble_eq_true rfl⟩ (Nat.le_of_ble_eq_true rfl) (fun l D A => c_X13_at l D A e18) ?_
        refine ww_aload_n 21 X dX13_word_21 1 rfl rfl ?_
        refine ww_iload_n 22 X dX13_word_22 2 rfl rfl ?_
        obtain ⟨_, f23, h⟩ := bO_some h
        obtain ⟨v23, M23, e23, h⟩ := bP_some h
        refine ww_callVIs 23 X dX13_word_23 mY_J0_charAt_5068e mL_X13_410 (rcs_spec f23) rfl (As := [.int l2]) (rest := [.int v18]) rfl rfl ⟨Nat.le_of_ble_eq_true rfl, Nat.le_of_ble_eq_true rfl⟩ (Nat.le_of_ble_eq_true rfl) (fun l D A => c_J0_charAt_5068e l D A e23) ?_
        refine ww_icmp_ne 26 42 X dX13_word_26 (by decide) (fun q => ?_) (fun q => ?_)
        · replace h := (if_neg q).symm.trans h
          refine ww_aload_n 42 X dX13_word_42 0 rfl rfl ?_
          refine ww_aload_n 43 X dX13_word_43 0 rfl rfl ?_
          obtain ⟨v44, e44, h⟩ := bO_some h
          refine ww_getI 44 X dX13_word_44 fG_X13_336 e44 ?_
          obtain ⟨_, f47, h⟩ := bO_some h
          obtain ⟨M47, e47, h⟩ := bO_some h
          refine ww_callVV0 47 X dX13_word_47 mY_X13_fail mL_X13_375 (rcv_spec f47) ⟨_, _, rfl⟩ (by decide) (As := [.int v44]) (rest := []) rfl rfl ⟨Nat.le_of_ble_eq_true rfl, Nat.le_of_ble_eq_true rfl⟩ (Nat.le_of_ble_eq_true rfl) (fun l D A => c_X13_fail l D A e47) ?_
          refine ww_iinc 50 X dX13_word_50 (lv' := [(0, .ref l0), (1, .ref l1), (2, .int (l2 + 1))]) 2 rfl rfl (by decide) [1, 2, 0] rfl ?_
          refine ww_goto 53 2 X dX13_word_53 (by decide) ?_
          exact (ih _ _ _ _ h)
        · replace h := (if_pos q).symm.trans h
          refine ww_aload_n 29 X dX13_word_29 0 rfl rfl ?_
          refine ww_dup 30 X dX13_word_30 rfl ?_
          obtain ⟨v31, e31, h⟩ := bO_some h
          refine ww_getI 31 X dX13_word_31 fG_X13_336 e31 ?_
          refine ww_iconst 34 X (v := (1 : Int32)) dX13_word_34 (by decide) ?_
          refine ww_iadd 35 X dX13_word_35 ?_
          obtain ⟨M36, e36, h⟩ := bO_some h
          refine ww_putI 36 X dX13_word_36 (fP_X13_336 _) e36 ?_
          refine ww_goto 39 50 X dX13_word_39 (by decide) ?_
          refine ww_iinc 50 X dX13_word_50 (lv' := [(0, .ref l0), (1, .ref l1), (2, .int (l2 + 1))]) 2 rfl rfl (by decide) [1, 2, 0] rfl ?_
          refine ww_goto 53 2 X dX13_word_53 (by decide) ?_
          exact (ih _ _ _ _ h)
set_option maxHeartbeats 4000000 in
set_option maxRecDepth 100000 in
theorem wP_X13_word {G : mG} {F : Nat} {x : mXT} {sz : Nat} {M0 : mM} (X : mCX G RX13 cX13_word 3 none "word" rmX13_word x) (hQ : mQV x M0 (sz, 0, 0)) {l0 : Nat} {l1 : Nat} {M : mM} (h : P_X13_word G F l0 l1 M = some M0) : WW x (sz, 0, 0) M 0 [(0, .ref l0), (1, .ref l1)] [] := by
  unfold P_X13_word at h
  refine ww_iconst 0 X (v := (0 : Int32)) dX13_word_0 (by decide) ?_
  refine ww_istore_n 1 X dX13_word_1 (lv' := [(0, .ref l0), (1, .ref l1), (2, .int (0 : Int32))]) rfl (by decide) [1, 2, 0] rfl ?_
  exact (wB_X13_word_2 X hQ F _ _ _ _ h)
theorem c_X13_word {G : mG} {F sz : Nat} {M0 : mM} (l : Launch) (D : mD) (A : Nat → Prop) {l0 : Nat} {l1 : Nat} {M : mM} (h : P_X13_word G F l0 l1 M = some M0) : mMetV l D G A yX13_word cX13_word 3 none 4 85 0 0 [.ref l0, .ref l1] M sz M0 sz := mMetV_of l D G A (by decide) (Nat.le_of_ble_eq_true rfl) (fun x X hQ => wP_X13_word X hQ h)
/-! SealedTokensModel.digits()V -/
theorem dX13_digits_0 : decode cX13_digits 0 = .ok (.aload_n 0, 1) := by decide +kernel
theorem dX13_digits_1 : decode cX13_digits 1 = .ok (.invokevirtual 351, 3) := by decide +kernel
theorem dX13_digits_4 : decode cX13_digits 4 = .ok (.invokestatic 379, 3) := by decide +kernel
theorem dX13_digits_7 : decode cX13_digits 7 = .ok (.ifCond .ne 11, 3) := by decide +kernel
theorem dX13_digits_10 : decode cX13_digits 10 = .ok (.aload_n 0, 1) := by decide +kernel
theorem dX13_digits_11 : decode cX13_digits 11 = .ok (.aload_n 0, 1) := by decide +kernel
theorem dX13_digits_12 : decode cX13_digits 12 = .ok (.getfield 336, 3) := by decide +kernel
theorem dX13_digits_15 : decode cX13_digits 15 = .ok (.invokevirtual 375, 3) := by decide +kernel
theorem dX13_digits_18 : decode cX13_digits 18 = .ok (.aload_n 0, 1) := by decide +kernel
theorem dX13_digits_19 : decode cX13_digits 19 = .ok (.invokevirtual 351, 3) := by decide +kernel
theorem dX13_digits_22 : decode cX13_digits 22 = .ok (.invokestatic 379, 3) := by decide +kernel
theorem dX13_digits_25 : decode cX13_digits 25 = .ok (.ifCond .eq 16, 3) := by decide +kernel
theorem dX13_digits_28 : decode cX13_digits 28 = .ok (.aload_n 0, 1) := by decide +kernel
theorem dX13_digits_29 : decode cX13_digits 29 = .ok (.dup, 1) := by decide +kernel
theorem dX13_digits_30 : decode cX13_digits 30 = .ok (.getfield 336, 3) := by decide +kernel
theorem dX13_digits_33 : decode cX13_digits 33 = .ok (.iconst 1, 1) := by decide +kernel
theorem dX13_digits_34 : decode cX13_digits 34 = .ok (.iadd, 1) := by decide +kernel
theorem dX13_digits_35 : decode cX13_digits 35 = .ok (.putfield 336, 3) := by decide +kernel
theorem dX13_digits_38 : decode cX13_digits 38 = .ok (.goto (-20), 3) := by decide +kernel
theorem dX13_digits_41 : decode cX13_digits 41 = .ok (.return_, 1) := by decide +kernel
abbrev rmX13_digits : Room := { frames := 1, cells := 0, slots := 0, locals := 21 }
set_option maxHeartbeats 4000000 in
set_option maxRecDepth 100000 in
theorem wB_X13_digits_18 {G : mG} {F : Nat} {x : mXT} {sz : Nat} {M0 : mM} (X : mCX G RX13 cX13_digits 1 none "digits" rmX13_digits x) (hQ : mQV x M0 (sz, 0, 0)) : ∀ (n : Nat) (l0 : Nat) (M : mM), B_X13_digits_18 G F n l0 M = some M0 → WW x (sz, 0, 0) M 18 [(0, .ref l0)] [] := by
  intro n
  induction n with
  | zero =>
    intro l0 M h
    exact nomatch (show (none : Option mM) = some M0 from h)
  | succ n ih =>
    intro l0 M h
    rw [B_X13_digits_18] at h
    refine ww_aload_n 18 X dX13_digits_18 0 rfl rfl ?_
    obtain ⟨_, f19, h⟩ := bO_some h
    obtain ⟨v19, M19, e19, h⟩ := bP_some h
    refine ww_callVI0 19 X dX13_digits_19 mY_X13_at mL_X13_351 (rcv_spec f19) ⟨_, _, rfl⟩ (by decide) (As := []) (rest := []) rfl rfl ⟨Nat.le_of_ble_eq_true rfl, Nat.le_of_ble_eq_true rfl⟩ (Nat.le_of_ble_eq_true rfl) (fun l D A => c_X13_at l D A e19) ?_
    obtain ⟨v22, M22, e22, h⟩ := bP_some h
    refine ww_callSI0 22 X dX13_digits_22 mY_X13_isDigit mL_X13_379 (As := [.int v19]) (rest := []) rfl rfl ⟨Nat.le_of_ble_eq_true rfl, Nat.le_of_ble_eq_true rfl⟩ (Nat.le_of_ble_eq_true rfl) (fun l D A => c_X13_isDigit l D A e22) ?_
    refine ww_if_eq 25 41 X dX13_digits_25 (by decide) (fun q => ?_) (fun q => ?_)
    · replace h := (if_pos q).symm.trans h
      exact ww_vretE 41 X hQ dX13_digits_41 h
    · replace h := (if_neg q).symm.trans h
      refine ww_aload_n 28 X dX13_digits_28 0 rfl rfl ?_
      refine ww_dup 29 X dX13_digits_29 rfl ?_
      obtain ⟨v30, e30, h⟩ := bO_some h
      refine ww_getI 30 X dX13_digits_30 fG_X13_336 e30 ?_
      refine ww_iconst 33 X (v := (1 : Int32)) dX13_digits_33 (by decide) ?_
      refine ww_iadd 34 X dX13_digits_34 ?_
      obtain ⟨M35, e35, h⟩ := bO_some h
      refine ww_putI 35 X dX13_digits_35 (fP_X13_336 _) e35 ?_
      refine ww_goto 38 18 X dX13_digits_38 (by decide) ?_
      exact (ih _ _ h)
set_option maxHeartbeats 4000000 in
set_option maxRecDepth 100000 in
theorem wP_X13_digits {G : mG} {F : Nat} {x : mXT} {sz : Nat} {M0 : mM} (X : mCX G RX13 cX13_digits 1 none "digits" rmX13_digits x) (hQ : mQV x M0 (sz, 0, 0)) {l0 : Nat} {M : mM} (h : P_X13_digits G F l0 M = some M0) : WW x (sz, 0, 0) M 0 [(0, .ref l0)] [] := by
  unfold P_X13_digits at h
  refine ww_aload_n 0 X dX13_digits_0 0 rfl rfl ?_
  obtain ⟨_, f1, h⟩ := bO_some h
  obtain ⟨v1, M1, e1, h⟩ := bP_some h
  refine ww_callVI0 1 X dX13_digits_1 mY_X13_at mL_X13_351 (rcv_spec f1) ⟨_, _, rfl⟩ (by decide) (As := []) (rest := []) rfl rfl ⟨Nat.le_of_ble_eq_true rfl, Nat.le_of_ble_eq_true rfl⟩ (Nat.le_of_ble_eq_true rfl) (fun l D A => c_X13_at l D A e1) ?_
  obtain ⟨v4, M4, e4, h⟩ := bP_some h
  refine ww_callSI0 4 X dX13_digits_4 mY_X13_isDigit mL_X13_379 (As := [.int v1]) (rest := []) rfl rfl ⟨Nat.le_of_ble_eq_true rfl, Nat.le_of_ble_eq_true rfl⟩ (Nat.le_of_ble_eq_true rfl) (fun l D A => c_X13_isDigit l D A e4) ?_
  refine ww_if_ne 7 18 X dX13_digits_7 (by decide) (fun q => ?_) (fun q => ?_)
  · replace h := (if_neg q).symm.trans h
    exact (wB_X13_digits_18 X hQ F _ _ h)
  · replace h := (if_pos q).symm.trans h
    refine ww_aload_n 10 X dX13_digits_10 0 rfl rfl ?_
    refine ww_aload_n 11 X dX13_digits_11 0 rfl rfl ?_
    obtain ⟨v12, e12, h⟩ := bO_some h
    refine ww_getI 12 X dX13_digits_12 fG_X13_336 e12 ?_
    obtain ⟨_, f15, h⟩ := bO_some h
    obtain ⟨M15, e15, h⟩ := bO_some h
    refine ww_callVV0 15 X dX13_digits_15 mY_X13_fail mL_X13_375 (rcv_spec f15) ⟨_, _, rfl⟩ (by decide) (As := [.int v12]) (rest := []) rfl rfl ⟨Nat.le_of_ble_eq_true rfl, Nat.le_of_ble_eq_true rfl⟩ (Nat.le_of_ble_eq_true rfl) (fun l D A => c_X13_fail l D A e15) ?_
    exact (wB_X13_digits_18 X hQ F _ _ h)
theorem c_X13_digits {G : mG} {F sz : Nat} {M0 : mM} (l : Launch) (D : mD) (A : Nat → Prop) {l0 : Nat} {M : mM} (h : P_X13_digits G F l0 M = some M0) : mMetV l D G A yX13_digits cX13_digits 1 none 1 21 0 0 [.ref l0] M sz M0 sz := mMetV_of l D G A (by decide) (Nat.le_of_ble_eq_true rfl) (fun x X hQ => wP_X13_digits X hQ h)
/-! SealedTokensModel.number()V -/
theorem dX13_number_0 : decode cX13_number 0 = .ok (.aload_n 0, 1) := by decide +kernel
theorem dX13_number_1 : decode cX13_number 1 = .ok (.dup, 1) := by decide +kernel
theorem dX13_number_2 : decode cX13_number 2 = .ok (.getfield 336, 3) := by decide +kernel
theorem dX13_number_5 : decode cX13_number 5 = .ok (.aload_n 0, 1) := by decide +kernel
theorem dX13_number_6 : decode cX13_number 6 = .ok (.invokevirtual 351, 3) := by decide +kernel
theorem dX13_number_9 : decode cX13_number 9 = .ok (.bipush 45, 2) := by decide +kernel
theorem dX13_number_11 : decode cX13_number 11 = .ok (.if_icmp .ne 7, 3) := by decide +kernel
theorem dX13_number_14 : decode cX13_number 14 = .ok (.iconst 1, 1) := by decide +kernel
theorem dX13_number_15 : decode cX13_number 15 = .ok (.goto 4, 3) := by decide +kernel
theorem dX13_number_18 : decode cX13_number 18 = .ok (.iconst 0, 1) := by decide +kernel
theorem dX13_number_19 : decode cX13_number 19 = .ok (.iadd, 1) := by decide +kernel
theorem dX13_number_20 : decode cX13_number 20 = .ok (.putfield 336, 3) := by decide +kernel
theorem dX13_number_23 : decode cX13_number 23 = .ok (.aload_n 0, 1) := by decide +kernel
theorem dX13_number_24 : decode cX13_number 24 = .ok (.invokevirtual 351, 3) := by decide +kernel
theorem dX13_number_27 : decode cX13_number 27 = .ok (.bipush 48, 2) := by decide +kernel
theorem dX13_number_29 : decode cX13_number 29 = .ok (.if_icmp .ne 16, 3) := by decide +kernel
theorem dX13_number_32 : decode cX13_number 32 = .ok (.aload_n 0, 1) := by decide +kernel
theorem dX13_number_33 : decode cX13_number 33 = .ok (.dup, 1) := by decide +kernel
theorem dX13_number_34 : decode cX13_number 34 = .ok (.getfield 336, 3) := by decide +kernel
theorem dX13_number_37 : decode cX13_number 37 = .ok (.iconst 1, 1) := by decide +kernel
theorem dX13_number_38 : decode cX13_number 38 = .ok (.iadd, 1) := by decide +kernel
theorem dX13_number_39 : decode cX13_number 39 = .ok (.putfield 336, 3) := by decide +kernel
theorem dX13_number_42 : decode cX13_number 42 = .ok (.goto 7, 3) := by decide +kernel
theorem dX13_number_45 : decode cX13_number 45 = .ok (.aload_n 0, 1) := by decide +kernel
theorem dX13_number_46 : decode cX13_number 46 = .ok (.invokevirtual 414, 3) := by decide +kernel
theorem dX13_number_49 : decode cX13_number 49 = .ok (.aload_n 0, 1) := by decide +kernel
theorem dX13_number_50 : decode cX13_number 50 = .ok (.invokevirtual 371, 3) := by decide +kernel
theorem dX13_number_53 : decode cX13_number 53 = .ok (.ifCond .eq 26, 3) := by decide +kernel
theorem dX13_number_56 : decode cX13_number 56 = .ok (.aload_n 0, 1) := by decide +kernel
theorem dX13_number_57 : decode cX13_number 57 = .ok (.invokevirtual 351, 3) := by decide +kernel
theorem dX13_number_60 : decode cX13_number 60 = .ok (.bipush 46, 2) := by decide +kernel
theorem dX13_number_62 : decode cX13_number 62 = .ok (.if_icmp .ne 17, 3) := by decide +kernel
theorem dX13_number_65 : decode cX13_number 65 = .ok (.aload_n 0, 1) := by decide +kernel
theorem dX13_number_66 : decode cX13_number 66 = .ok (.dup, 1) := by decide +kernel
theorem dX13_number_67 : decode cX13_number 67 = .ok (.getfield 336, 3) := by decide +kernel
theorem dX13_number_70 : decode cX13_number 70 = .ok (.iconst 1, 1) := by decide +kernel
theorem dX13_number_71 : decode cX13_number 71 = .ok (.iadd, 1) := by decide +kernel
theorem dX13_number_72 : decode cX13_number 72 = .ok (.putfield 336, 3) := by decide +kernel
theorem dX13_number_75 : decode cX13_number 75 = .ok (.aload_n 0, 1) := by decide +kernel
theorem dX13_number_76 : decode cX13_number 76 = .ok (.invokevirtual 414, 3) := by decide +kernel
theorem dX13_number_79 : decode cX13_number 79 = .ok (.aload_n 0, 1) := by decide +kernel
theorem dX13_number_80 : decode cX13_number 80 = .ok (.invokevirtual 371, 3) := by decide +kernel
theorem dX13_number_83 : decode cX13_number 83 = .ok (.ifCond .eq 67, 3) := by decide +kernel
theorem dX13_number_86 : decode cX13_number 86 = .ok (.aload_n 0, 1) := by decide +kernel
theorem dX13_number_87 : decode cX13_number 87 = .ok (.invokevirtual 351, 3) := by decide +kernel
theorem dX13_number_90 : decode cX13_number 90 = .ok (.bipush 101, 2) := by decide +kernel
theorem dX13_number_92 : decode cX13_number 92 = .ok (.if_icmp .eq 12, 3) := by decide +kernel
theorem dX13_number_95 : decode cX13_number 95 = .ok (.aload_n 0, 1) := by decide +kernel
theorem dX13_number_96 : decode cX13_number 96 = .ok (.invokevirtual 351, 3) := by decide +kernel
theorem dX13_number_99 : decode cX13_number 99 = .ok (.bipush 69, 2) := by decide +kernel
theorem dX13_number_101 : decode cX13_number 101 = .ok (.if_icmp .ne 49, 3) := by decide +kernel
theorem dX13_number_104 : decode cX13_number 104 = .ok (.aload_n 0, 1) := by decide +kernel
theorem dX13_number_105 : decode cX13_number 105 = .ok (.dup, 1) := by decide +kernel
theorem dX13_number_106 : decode cX13_number 106 = .ok (.getfield 336, 3) := by decide +kernel
theorem dX13_number_109 : decode cX13_number 109 = .ok (.iconst 1, 1) := by decide +kernel
theorem dX13_number_110 : decode cX13_number 110 = .ok (.iadd, 1) := by decide +kernel
theorem dX13_number_111 : decode cX13_number 111 = .ok (.putfield 336, 3) := by decide +kernel
theorem dX13_number_114 : decode cX13_number 114 = .ok (.aload_n 0, 1) := by decide +kernel
theorem dX13_number_115 : decode cX13_number 115 = .ok (.dup, 1) := by decide +kernel
theorem dX13_number_116 : decode cX13_number 116 = .ok (.getfield 336, 3) := by decide +kernel
theorem dX13_number_119 : decode cX13_number 119 = .ok (.aload_n 0, 1) := by decide +kernel
theorem dX13_number_120 : decode cX13_number 120 = .ok (.invokevirtual 351, 3) := by decide +kernel
theorem dX13_number_123 : decode cX13_number 123 = .ok (.bipush 43, 2) := by decide +kernel
theorem dX13_number_125 : decode cX13_number 125 = .ok (.if_icmp .eq 12, 3) := by decide +kernel
theorem dX13_number_128 : decode cX13_number 128 = .ok (.aload_n 0, 1) := by decide +kernel
theorem dX13_number_129 : decode cX13_number 129 = .ok (.invokevirtual 351, 3) := by decide +kernel
theorem dX13_number_132 : decode cX13_number 132 = .ok (.bipush 45, 2) := by decide +kernel
theorem dX13_number_134 : decode cX13_number 134 = .ok (.if_icmp .ne 7, 3) := by decide +kernel
theorem dX13_number_137 : decode cX13_number 137 = .ok (.iconst 1, 1) := by decide +kernel
theorem dX13_number_138 : decode cX13_number 138 = .ok (.goto 4, 3) := by decide +kernel
theorem dX13_number_141 : decode cX13_number 141 = .ok (.iconst 0, 1) := by decide +kernel
theorem dX13_number_142 : decode cX13_number 142 = .ok (.iadd, 1) := by decide +kernel
theorem dX13_number_143 : decode cX13_number 143 = .ok (.putfield 336, 3) := by decide +kernel
theorem dX13_number_146 : decode cX13_number 146 = .ok (.aload_n 0, 1) := by decide +kernel
theorem dX13_number_147 : decode cX13_number 147 = .ok (.invokevirtual 414, 3) := by decide +kernel
theorem dX13_number_150 : decode cX13_number 150 = .ok (.return_, 1) := by decide +kernel
abbrev rmX13_number : Room := { frames := 2, cells := 0, slots := 0, locals := 41 }
set_option maxHeartbeats 4000000 in
set_option maxRecDepth 100000 in
theorem wB_X13_number_104 {G : mG} {F : Nat} {x : mXT} {sz : Nat} {M0 : mM} (X : mCX G RX13 cX13_number 1 none "number" rmX13_number x) (hQ : mQV x M0 (sz, 0, 0)) {l0 : Nat} {M : mM} (h : B_X13_number_104 G F l0 M = some M0) : WW x (sz, 0, 0) M 104 [(0, .ref l0)] [] := by
  unfold B_X13_number_104 at h
  refine ww_aload_n 104 X dX13_number_104 0 rfl rfl ?_
  refine ww_dup 105 X dX13_number_105 rfl ?_
  obtain ⟨v106, e106, h⟩ := bO_some h
  refine ww_getI 106 X dX13_number_106 fG_X13_336 e106 ?_
  refine ww_iconst 109 X (v := (1 : Int32)) dX13_number_109 (by decide) ?_
  refine ww_iadd 110 X dX13_number_110 ?_
  obtain ⟨M111, e111, h⟩ := bO_some h
  refine ww_putI 111 X dX13_number_111 (fP_X13_336 _) e111 ?_
  refine ww_aload_n 114 X dX13_number_114 0 rfl rfl ?_
  refine ww_dup 115 X dX13_number_115 rfl ?_
  obtain ⟨v116, e116, h⟩ := bO_some h
  refine ww_getI 116 X dX13_number_116 fG_X13_336 e116 ?_
  refine ww_aload_n 119 X dX13_number_119 0 rfl rfl ?_
  obtain ⟨_, f120, h⟩ := bO_some h
  obtain ⟨v120, M120, e120, h⟩ := bP_some h
  refine ww_callVI0 120 X dX13_number_120 mY_X13_at mL_X13_351 (rcv_spec f120) ⟨_, _, rfl⟩ (by decide) (As := []) (rest := [.int v116, .ref l0]) rfl rfl ⟨Nat.le_of_ble_eq_true rfl, Nat.le_of_ble_eq_true rfl⟩ (Nat.le_of_ble_eq_true rfl) (fun l D A => c_X13_at l D A e120) ?_
  refine ww_bipush 123 X (v := (43 : Int32)) dX13_number_123 (by decide) ?_
  refine ww_icmp_eq 125 137 X dX13_number_125 (by decide) (fun q => ?_) (fun q => ?_)
  · replace h := (if_pos q).symm.trans h
    refine ww_iconst 137 X (v := (1 : Int32)) dX13_number_137 (by decide) ?_
    refine ww_goto 138 142 X dX13_number_138 (by decide) ?_
    refine ww_iadd 142 X dX13_number_142 ?_
    obtain ⟨M143, e143, h⟩ := bO_some h
    refine ww_putI 143 X dX13_number_143 (fP_X13_336 _) e143 ?_
    refine ww_aload_n 146 X dX13_number_146 0 rfl rfl ?_
    obtain ⟨_, f147, h⟩ := bO_some h
    obtain ⟨M147, e147, h⟩ := bO_some h
    refine ww_callVV0 147 X dX13_number_147 mY_X13_digits mL_X13_414 (rcv_spec f147) ⟨_, _, rfl⟩ (by decide) (As := []) (rest := []) rfl rfl ⟨Nat.le_of_ble_eq_true rfl, Nat.le_of_ble_eq_true rfl⟩ (Nat.le_of_ble_eq_true rfl) (fun l D A => c_X13_digits l D A e147) ?_
    exact ww_vretE 150 X hQ dX13_number_150 h
  · replace h := (if_neg q).symm.trans h
    refine ww_aload_n 128 X dX13_number_128 0 rfl rfl ?_
    obtain ⟨_, f129, h⟩ := bO_some h
    obtain ⟨v129, M129, e129, h⟩ := bP_some h
    refine ww_callVI0 129 X dX13_number_129 mY_X13_at mL_X13_351 (rcv_spec f129) ⟨_, _, rfl⟩ (by decide) (As := []) (rest := [.int v116, .ref l0]) rfl rfl ⟨Nat.le_of_ble_eq_true rfl, Nat.le_of_ble_eq_true rfl⟩ (Nat.le_of_ble_eq_true rfl) (fun l D A => c_X13_at l D A e129) ?_
    refine ww_bipush 132 X (v := (45 : Int32)) dX13_number_132 (by decide) ?_
    refine ww_icmp_ne 134 141 X dX13_number_134 (by decide) (fun q => ?_) (fun q => ?_)
    · replace h := (if_neg q).symm.trans h
      refine ww_iconst 141 X (v := (0 : Int32)) dX13_number_141 (by decide) ?_
      refine ww_iadd 142 X dX13_number_142 ?_
      obtain ⟨M143, e143, h⟩ := bO_some h
      refine ww_putI 143 X dX13_number_143 (fP_X13_336 _) e143 ?_
      refine ww_aload_n 146 X dX13_number_146 0 rfl rfl ?_
      obtain ⟨_, f147, h⟩ := bO_some h
      obtain ⟨M147, e147, h⟩ := bO_some h
      refine ww_callVV0 147 X dX13_number_147 mY_X13_digits mL_X13_414 (rcv_spec f147) ⟨_, _, rfl⟩ (by decide) (As := []) (rest := []) rfl rfl ⟨Nat.le_of_ble_eq_true rfl, Nat.le_of_ble_eq_true rfl⟩ (Nat.le_of_ble_eq_true rfl) (fun l D A => c_X13_digits l D A e147) ?_
      exact ww_vretE 150 X hQ dX13_number_150 h
    · replace h := (if_pos q).symm.trans h
      refine ww_iconst 137 X (v := (1 : Int32)) dX13_number_137 (by decide) ?_
      refine ww_goto 138 142 X dX13_number_138 (by decide) ?_
      refine ww_iadd 142 X dX13_number_142 ?_
      obtain ⟨M143, e143, h⟩ := bO_some h
      refine ww_putI 143 X dX13_number_143 (fP_X13_336 _) e143 ?_
      refine ww_aload_n 146 X dX13_number_146 0 rfl rfl ?_
      obtain ⟨_, f147, h⟩ := bO_some h
      obtain ⟨M147, e147, h⟩ := bO_some h
      refine ww_callVV0 147 X dX13_number_147 mY_X13_digits mL_X13_414 (rcv_spec f147) ⟨_, _, rfl⟩ (by decide) (As := []) (rest := []) rfl rfl ⟨Nat.le_of_ble_eq_true rfl, Nat.le_of_ble_eq_true rfl⟩ (Nat.le_of_ble_eq_true rfl) (fun l D A => c_X13_digits l D A e147) ?_
      exact ww_vretE 150 X hQ dX13_number_150 h
set_option maxHeartbeats 4000000 in
set_option maxRecDepth 100000 in
theorem wB_X13_number_79 {G : mG} {F : Nat} {x : mXT} {sz : Nat} {M0 : mM} (X : mCX G RX13 cX13_number 1 none "number" rmX13_number x) (hQ : mQV x M0 (sz, 0, 0)) {l0 : Nat} {M : mM} (h : B_X13_number_79 G F l0 M = some M0) : WW x (sz, 0, 0) M 79 [(0, .ref l0)] [] := by
  unfold B_X13_number_79 at h
  refine ww_aload_n 79 X dX13_number_79 0 rfl rfl ?_
  obtain ⟨_, f80, h⟩ := bO_some h
  obtain ⟨v80, M80, e80, h⟩ := bP_some h
  refine ww_callVI0 80 X dX13_number_80 mY_X13_good mL_X13_371 (rcv_spec f80) ⟨_, _, rfl⟩ (by decide) (As := []) (rest := []) rfl rfl ⟨Nat.le_of_ble_eq_true rfl, Nat.le_of_ble_eq_true rfl⟩ (Nat.le_of_ble_eq_true rfl) (fun l D A => c_X13_good l D A e80) ?_
  refine ww_if_eq 83 150 X dX13_number_83 (by decide) (fun q => ?_) (fun q => ?_)
  · replace h := (if_pos q).symm.trans h
    exact ww_vretE 150 X hQ dX13_number_150 h
  · replace h := (if_neg q).symm.trans h
    refine ww_aload_n 86 X dX13_number_86 0 rfl rfl ?_
    obtain ⟨_, f87, h⟩ := bO_some h
    obtain ⟨v87, M87, e87, h⟩ := bP_some h
    refine ww_callVI0 87 X dX13_number_87 mY_X13_at mL_X13_351 (rcv_spec f87) ⟨_, _, rfl⟩ (by decide) (As := []) (rest := []) rfl rfl ⟨Nat.le_of_ble_eq_true rfl, Nat.le_of_ble_eq_true rfl⟩ (Nat.le_of_ble_eq_true rfl) (fun l D A => c_X13_at l D A e87) ?_
    refine ww_bipush 90 X (v := (101 : Int32)) dX13_number_90 (by decide) ?_
    refine ww_icmp_eq 92 104 X dX13_number_92 (by decide) (fun q => ?_) (fun q => ?_)
    · replace h := (if_pos q).symm.trans h
      exact (wB_X13_number_104 X hQ h)
    · replace h := (if_neg q).symm.trans h
      refine ww_aload_n 95 X dX13_number_95 0 rfl rfl ?_
      obtain ⟨_, f96, h⟩ := bO_some h
      obtain ⟨v96, M96, e96, h⟩ := bP_some h
      refine ww_callVI0 96 X dX13_number_96 mY_X13_at mL_X13_351 (rcv_spec f96) ⟨_, _, rfl⟩ (by decide) (As := []) (rest := []) rfl rfl ⟨Nat.le_of_ble_eq_true rfl, Nat.le_of_ble_eq_true rfl⟩ (Nat.le_of_ble_eq_true rfl) (fun l D A => c_X13_at l D A e96) ?_
      refine ww_bipush 99 X (v := (69 : Int32)) dX13_number_99 (by decide) ?_
      refine ww_icmp_ne 101 150 X dX13_number_101 (by decide) (fun q => ?_) (fun q => ?_)
      · replace h := (if_neg q).symm.trans h
        exact ww_vretE 150 X hQ dX13_number_150 h
      · replace h := (if_pos q).symm.trans h
        exact (wB_X13_number_104 X hQ h)
set_option maxHeartbeats 4000000 in
set_option maxRecDepth 100000 in
theorem wB_X13_number_49 {G : mG} {F : Nat} {x : mXT} {sz : Nat} {M0 : mM} (X : mCX G RX13 cX13_number 1 none "number" rmX13_number x) (hQ : mQV x M0 (sz, 0, 0)) {l0 : Nat} {M : mM} (h : B_X13_number_49 G F l0 M = some M0) : WW x (sz, 0, 0) M 49 [(0, .ref l0)] [] := by
  unfold B_X13_number_49 at h
  refine ww_aload_n 49 X dX13_number_49 0 rfl rfl ?_
  obtain ⟨_, f50, h⟩ := bO_some h
  obtain ⟨v50, M50, e50, h⟩ := bP_some h
  refine ww_callVI0 50 X dX13_number_50 mY_X13_good mL_X13_371 (rcv_spec f50) ⟨_, _, rfl⟩ (by decide) (As := []) (rest := []) rfl rfl ⟨Nat.le_of_ble_eq_true rfl, Nat.le_of_ble_eq_true rfl⟩ (Nat.le_of_ble_eq_true rfl) (fun l D A => c_X13_good l D A e50) ?_
  refine ww_if_eq 53 79 X dX13_number_53 (by decide) (fun q => ?_) (fun q => ?_)
  · replace h := (if_pos q).symm.trans h
    exact (wB_X13_number_79 X hQ h)
  · replace h := (if_neg q).symm.trans h
    refine ww_aload_n 56 X dX13_number_56 0 rfl rfl ?_
    obtain ⟨_, f57, h⟩ := bO_some h
    obtain ⟨v57, M57, e57, h⟩ := bP_some h
    refine ww_callVI0 57 X dX13_number_57 mY_X13_at mL_X13_351 (rcv_spec f57) ⟨_, _, rfl⟩ (by decide) (As := []) (rest := []) rfl rfl ⟨Nat.le_of_ble_eq_true rfl, Nat.le_of_ble_eq_true rfl⟩ (Nat.le_of_ble_eq_true rfl) (fun l D A => c_X13_at l D A e57) ?_
    refine ww_bipush 60 X (v := (46 : Int32)) dX13_number_60 (by decide) ?_
    refine ww_icmp_ne 62 79 X dX13_number_62 (by decide) (fun q => ?_) (fun q => ?_)
    · replace h := (if_neg q).symm.trans h
      exact (wB_X13_number_79 X hQ h)
    · replace h := (if_pos q).symm.trans h
      refine ww_aload_n 65 X dX13_number_65 0 rfl rfl ?_
      refine ww_dup 66 X dX13_number_66 rfl ?_
      obtain ⟨v67, e67, h⟩ := bO_some h
      refine ww_getI 67 X dX13_number_67 fG_X13_336 e67 ?_
      refine ww_iconst 70 X (v := (1 : Int32)) dX13_number_70 (by decide) ?_
      refine ww_iadd 71 X dX13_number_71 ?_
      obtain ⟨M72, e72, h⟩ := bO_some h
      refine ww_putI 72 X dX13_number_72 (fP_X13_336 _) e72 ?_
      refine ww_aload_n 75 X dX13_number_75 0 rfl rfl ?_
      obtain ⟨_, f76, h⟩ := bO_some h
      obtain ⟨M76, e76, h⟩ := bO_some h
      refine ww_callVV0 76 X dX13_number_76 mY_X13_digits mL_X13_414 (rcv_spec f76) ⟨_, _, rfl⟩ (by decide) (As := []) (rest := []) rfl rfl ⟨Nat.le_of_ble_eq_true rfl, Nat.le_of_ble_eq_true rfl⟩ (Nat.le_of_ble_eq_true rfl) (fun l D A => c_X13_digits l D A e76) ?_
      exact (wB_X13_number_79 X hQ h)
set_option maxHeartbeats 4000000 in
set_option maxRecDepth 100000 in
theorem wB_X13_number_19 {G : mG} {F : Nat} {x : mXT} {sz : Nat} {M0 : mM} (X : mCX G RX13 cX13_number 1 none "number" rmX13_number x) (hQ : mQV x M0 (sz, 0, 0)) {l0 : Nat} {sk0 : Nat} {sk1 : Int32} {sk2 : Int32} {M : mM} (h : B_X13_number_19 G F l0 sk0 sk1 sk2 M = some M0) : WW x (sz, 0, 0) M 19 [(0, .ref l0)] [.int sk2, .int sk1, .ref sk0] := by
  unfold B_X13_number_19 at h
  refine ww_iadd 19 X dX13_number_19 ?_
  obtain ⟨M20, e20, h⟩ := bO_some h
  refine ww_putI 20 X dX13_number_20 (fP_X13_336 _) e20 ?_
  refine ww_aload_n 23 X dX13_number_23 0 rfl rfl ?_
  obtain ⟨_, f24, h⟩ := bO_some h
  obtain ⟨v24, M24, e24, h⟩ := bP_some h
  refine ww_callVI0 24 X dX13_number_24 mY_X13_at mL_X13_351 (rcv_spec f24) ⟨_, _, rfl⟩ (by decide) (As := []) (rest := []) rfl rfl ⟨Nat.le_of_ble_eq_true rfl, Nat.le_of_ble_eq_true rfl⟩ (Nat.le_of_ble_eq_true rfl) (fun l D A => c_X13_at l D A e24) ?_
  refine ww_bipush 27 X (v := (48 : Int32)) dX13_number_27 (by decide) ?_
  refine ww_icmp_ne 29 45 X dX13_number_29 (by decide) (fun q => ?_) (fun q => ?_)
  · replace h := (if_neg q).symm.trans h
    refine ww_aload_n 45 X dX13_number_45 0 rfl rfl ?_
    obtain ⟨_, f46, h⟩ := bO_some h
    obtain ⟨M46, e46, h⟩ := bO_some h
    refine ww_callVV0 46 X dX13_number_46 mY_X13_digits mL_X13_414 (rcv_spec f46) ⟨_, _, rfl⟩ (by decide) (As := []) (rest := []) rfl rfl ⟨Nat.le_of_ble_eq_true rfl, Nat.le_of_ble_eq_true rfl⟩ (Nat.le_of_ble_eq_true rfl) (fun l D A => c_X13_digits l D A e46) ?_
    exact (wB_X13_number_49 X hQ h)
  · replace h := (if_pos q).symm.trans h
    refine ww_aload_n 32 X dX13_number_32 0 rfl rfl ?_
    refine ww_dup 33 X dX13_number_33 rfl ?_
    obtain ⟨v34, e34, h⟩ := bO_some h
    refine ww_getI 34 X dX13_number_34 fG_X13_336 e34 ?_
    refine ww_iconst 37 X (v := (1 : Int32)) dX13_number_37 (by decide) ?_
    refine ww_iadd 38 X dX13_number_38 ?_
    obtain ⟨M39, e39, h⟩ := bO_some h
    refine ww_putI 39 X dX13_number_39 (fP_X13_336 _) e39 ?_
    refine ww_goto 42 49 X dX13_number_42 (by decide) ?_
    exact (wB_X13_number_49 X hQ h)
set_option maxHeartbeats 4000000 in
set_option maxRecDepth 100000 in
theorem wP_X13_number {G : mG} {F : Nat} {x : mXT} {sz : Nat} {M0 : mM} (X : mCX G RX13 cX13_number 1 none "number" rmX13_number x) (hQ : mQV x M0 (sz, 0, 0)) {l0 : Nat} {M : mM} (h : P_X13_number G F l0 M = some M0) : WW x (sz, 0, 0) M 0 [(0, .ref l0)] [] := by
  unfold P_X13_number at h
  refine ww_aload_n 0 X dX13_number_0 0 rfl rfl ?_
  refine ww_dup 1 X dX13_number_1 rfl ?_
  obtain ⟨v2, e2, h⟩ := bO_some h
  refine ww_getI 2 X dX13_number_2 fG_X13_336 e2 ?_
  refine ww_aload_n 5 X dX13_number_5 0 rfl rfl ?_
  obtain ⟨_, f6, h⟩ := bO_some h
  obtain ⟨v6, M6, e6, h⟩ := bP_some h
  refine ww_callVI0 6 X dX13_number_6 mY_X13_at mL_X13_351 (rcv_spec f6) ⟨_, _, rfl⟩ (by decide) (As := []) (rest := [.int v2, .ref l0]) rfl rfl ⟨Nat.le_of_ble_eq_true rfl, Nat.le_of_ble_eq_true rfl⟩ (Nat.le_of_ble_eq_true rfl) (fun l D A => c_X13_at l D A e6) ?_
  refine ww_bipush 9 X (v := (45 : Int32)) dX13_number_9 (by decide) ?_
  refine ww_icmp_ne 11 18 X dX13_number_11 (by decide) (fun q => ?_) (fun q => ?_)
  · replace h := (if_neg q).symm.trans h
    refine ww_iconst 18 X (v := (0 : Int32)) dX13_number_18 (by decide) ?_
    exact (wB_X13_number_19 X hQ h)
  · replace h := (if_pos q).symm.trans h
    refine ww_iconst 14 X (v := (1 : Int32)) dX13_number_14 (by decide) ?_
    refine ww_goto 15 19 X dX13_number_15 (by decide) ?_
    exact (wB_X13_number_19 X hQ h)
theorem c_X13_number {G : mG} {F sz : Nat} {M0 : mM} (l : Launch) (D : mD) (A : Nat → Prop) {l0 : Nat} {M : mM} (h : P_X13_number G F l0 M = some M0) : mMetV l D G A yX13_number cX13_number 1 none 2 41 0 0 [.ref l0] M sz M0 sz := mMetV_of l D G A (by decide) (Nat.le_of_ble_eq_true rfl) (fun x X hQ => wP_X13_number X hQ h)
/-! SealedTokensModel.readMany(IZ)V -/
theorem dX13_readMany_0 : decode cX13_readMany 0 = .ok (.iload_n 2, 1) := by decide +kernel
theorem dX13_readMany_1 : decode cX13_readMany 1 = .ok (.ifCond .eq 8, 3) := by decide +kernel
theorem dX13_readMany_4 : decode cX13_readMany 4 = .ok (.bipush 125, 2) := by decide +kernel
theorem dX13_readMany_6 : decode cX13_readMany 6 = .ok (.goto 5, 3) := by decide +kernel
theorem dX13_readMany_9 : decode cX13_readMany 9 = .ok (.bipush 93, 2) := by decide +kernel
theorem dX13_readMany_11 : decode cX13_readMany 11 = .ok (.istore_n 3, 1) := by decide +kernel
theorem dX13_readMany_12 : decode cX13_readMany 12 = .ok (.aload_n 0, 1) := by decide +kernel
theorem dX13_readMany_13 : decode cX13_readMany 13 = .ok (.invokevirtual 364, 3) := by decide +kernel
theorem dX13_readMany_16 : decode cX13_readMany 16 = .ok (.aload_n 0, 1) := by decide +kernel
theorem dX13_readMany_17 : decode cX13_readMany 17 = .ok (.invokevirtual 351, 3) := by decide +kernel
theorem dX13_readMany_20 : decode cX13_readMany 20 = .ok (.iload_n 3, 1) := by decide +kernel
theorem dX13_readMany_21 : decode cX13_readMany 21 = .ok (.if_icmp .ne 14, 3) := by decide +kernel
theorem dX13_readMany_24 : decode cX13_readMany 24 = .ok (.aload_n 0, 1) := by decide +kernel
theorem dX13_readMany_25 : decode cX13_readMany 25 = .ok (.dup, 1) := by decide +kernel
theorem dX13_readMany_26 : decode cX13_readMany 26 = .ok (.getfield 336, 3) := by decide +kernel
theorem dX13_readMany_29 : decode cX13_readMany 29 = .ok (.iconst 1, 1) := by decide +kernel
theorem dX13_readMany_30 : decode cX13_readMany 30 = .ok (.iadd, 1) := by decide +kernel
theorem dX13_readMany_31 : decode cX13_readMany 31 = .ok (.putfield 336, 3) := by decide +kernel
theorem dX13_readMany_34 : decode cX13_readMany 34 = .ok (.return_, 1) := by decide +kernel
theorem dX13_readMany_35 : decode cX13_readMany 35 = .ok (.iconst 0, 1) := by decide +kernel
theorem dX13_readMany_36 : decode cX13_readMany 36 = .ok (.istore 4, 2) := by decide +kernel
theorem dX13_readMany_38 : decode cX13_readMany 38 = .ok (.iconst 1, 1) := by decide +kernel
theorem dX13_readMany_39 : decode cX13_readMany 39 = .ok (.istore 5, 2) := by decide +kernel
theorem dX13_readMany_41 : decode cX13_readMany 41 = .ok (.iload 5, 2) := by decide +kernel
theorem dX13_readMany_43 : decode cX13_readMany 43 = .ok (.ifCond .eq 214, 3) := by decide +kernel
theorem dX13_readMany_46 : decode cX13_readMany 46 = .ok (.aload_n 0, 1) := by decide +kernel
theorem dX13_readMany_47 : decode cX13_readMany 47 = .ok (.invokevirtual 371, 3) := by decide +kernel
theorem dX13_readMany_50 : decode cX13_readMany 50 = .ok (.ifCond .eq 207, 3) := by decide +kernel
theorem dX13_readMany_53 : decode cX13_readMany 53 = .ok (.sipush 600, 3) := by decide +kernel
theorem dX13_readMany_56 : decode cX13_readMany 56 = .ok (.aload_n 0, 1) := by decide +kernel
theorem dX13_readMany_57 : decode cX13_readMany 57 = .ok (.getfield 355, 3) := by decide +kernel
theorem dX13_readMany_60 : decode cX13_readMany 60 = .ok (.imul, 1) := by decide +kernel
theorem dX13_readMany_61 : decode cX13_readMany 61 = .ok (.aload_n 0, 1) := by decide +kernel
theorem dX13_readMany_62 : decode cX13_readMany 62 = .ok (.getfield 54, 3) := by decide +kernel
theorem dX13_readMany_65 : decode cX13_readMany 65 = .ok (.aload_n 0, 1) := by decide +kernel
theorem dX13_readMany_66 : decode cX13_readMany 66 = .ok (.getfield 355, 3) := by decide +kernel
theorem dX13_readMany_69 : decode cX13_readMany 69 = .ok (.iaload, 1) := by decide +kernel
theorem dX13_readMany_70 : decode cX13_readMany 70 = .ok (.iadd, 1) := by decide +kernel
theorem dX13_readMany_71 : decode cX13_readMany 71 = .ok (.istore 6, 2) := by decide +kernel
theorem dX13_readMany_73 : decode cX13_readMany 73 = .ok (.aload_n 0, 1) := by decide +kernel
theorem dX13_readMany_74 : decode cX13_readMany 74 = .ok (.getfield 358, 3) := by decide +kernel
theorem dX13_readMany_77 : decode cX13_readMany 77 = .ok (.istore 7, 2) := by decide +kernel
theorem dX13_readMany_79 : decode cX13_readMany 79 = .ok (.iload_n 2, 1) := by decide +kernel
theorem dX13_readMany_80 : decode cX13_readMany 80 = .ok (.ifCond .eq 8, 3) := by decide +kernel
theorem dX13_readMany_83 : decode cX13_readMany 83 = .ok (.aload_n 0, 1) := by decide +kernel
theorem dX13_readMany_84 : decode cX13_readMany 84 = .ok (.iload_n 1, 1) := by decide +kernel
theorem dX13_readMany_85 : decode cX13_readMany 85 = .ok (.invokevirtual 417, 3) := by decide +kernel
theorem dX13_readMany_88 : decode cX13_readMany 88 = .ok (.aload_n 0, 1) := by decide +kernel
theorem dX13_readMany_89 : decode cX13_readMany 89 = .ok (.getfield 358, 3) := by decide +kernel
theorem dX13_readMany_92 : decode cX13_readMany 92 = .ok (.iload 7, 2) := by decide +kernel
theorem dX13_readMany_94 : decode cX13_readMany 94 = .ok (.isub, 1) := by decide +kernel
theorem dX13_readMany_95 : decode cX13_readMany 95 = .ok (.istore 8, 2) := by decide +kernel
theorem dX13_readMany_97 : decode cX13_readMany 97 = .ok (.aload_n 0, 1) := by decide +kernel
theorem dX13_readMany_98 : decode cX13_readMany 98 = .ok (.invokevirtual 371, 3) := by decide +kernel
theorem dX13_readMany_101 : decode cX13_readMany 101 = .ok (.ifCond .eq 64, 3) := by decide +kernel
theorem dX13_readMany_104 : decode cX13_readMany 104 = .ok (.aload_n 0, 1) := by decide +kernel
theorem dX13_readMany_105 : decode cX13_readMany 105 = .ok (.getfield 54, 3) := by decide +kernel
theorem dX13_readMany_108 : decode cX13_readMany 108 = .ok (.aload_n 0, 1) := by decide +kernel
theorem dX13_readMany_109 : decode cX13_readMany 109 = .ok (.getfield 355, 3) := by decide +kernel
theorem dX13_readMany_112 : decode cX13_readMany 112 = .ok (.iaload, 1) := by decide +kernel
theorem dX13_readMany_113 : decode cX13_readMany 113 = .ok (.istore 9, 2) := by decide +kernel
theorem dX13_readMany_115 : decode cX13_readMany 115 = .ok (.iload 9, 2) := by decide +kernel
theorem dX13_readMany_117 : decode cX13_readMany 117 = .ok (.sipush 600, 3) := by decide +kernel
theorem dX13_readMany_120 : decode cX13_readMany 120 = .ok (.if_icmp .ge 29, 3) := by decide +kernel
theorem dX13_readMany_123 : decode cX13_readMany 123 = .ok (.aload_n 0, 1) := by decide +kernel
theorem dX13_readMany_124 : decode cX13_readMany 124 = .ok (.getfield 45, 3) := by decide +kernel
theorem dX13_readMany_127 : decode cX13_readMany 127 = .ok (.iload 6, 2) := by decide +kernel
theorem dX13_readMany_129 : decode cX13_readMany 129 = .ok (.iload 7, 2) := by decide +kernel
theorem dX13_readMany_131 : decode cX13_readMany 131 = .ok (.iastore, 1) := by decide +kernel
theorem dX13_readMany_132 : decode cX13_readMany 132 = .ok (.aload_n 0, 1) := by decide +kernel
theorem dX13_readMany_133 : decode cX13_readMany 133 = .ok (.getfield 48, 3) := by decide +kernel
theorem dX13_readMany_136 : decode cX13_readMany 136 = .ok (.iload 6, 2) := by decide +kernel
theorem dX13_readMany_138 : decode cX13_readMany 138 = .ok (.iload_n 2, 1) := by decide +kernel
theorem dX13_readMany_139 : decode cX13_readMany 139 = .ok (.ifCond .eq 8, 3) := by decide +kernel
theorem dX13_readMany_142 : decode cX13_readMany 142 = .ok (.iload 8, 2) := by decide +kernel
theorem dX13_readMany_144 : decode cX13_readMany 144 = .ok (.goto 4, 3) := by decide +kernel
theorem dX13_readMany_147 : decode cX13_readMany 147 = .ok (.iconst (-1), 1) := by decide +kernel
theorem dX13_readMany_148 : decode cX13_readMany 148 = .ok (.iastore, 1) := by decide +kernel
theorem dX13_readMany_149 : decode cX13_readMany 149 = .ok (.aload_n 0, 1) := by decide +kernel
theorem dX13_readMany_150 : decode cX13_readMany 150 = .ok (.iload_n 1, 1) := by decide +kernel
theorem dX13_readMany_151 : decode cX13_readMany 151 = .ok (.sipush 600, 3) := by decide +kernel
theorem dX13_readMany_154 : decode cX13_readMany 154 = .ok (.aload_n 0, 1) := by decide +kernel
theorem dX13_readMany_155 : decode cX13_readMany 155 = .ok (.getfield 355, 3) := by decide +kernel
theorem dX13_readMany_158 : decode cX13_readMany 158 = .ok (.imul, 1) := by decide +kernel
theorem dX13_readMany_159 : decode cX13_readMany 159 = .ok (.isub, 1) := by decide +kernel
theorem dX13_readMany_160 : decode cX13_readMany 160 = .ok (.iload 4, 2) := by decide +kernel
theorem dX13_readMany_162 : decode cX13_readMany 162 = .ok (.invokevirtual 367, 3) := by decide +kernel
theorem dX13_readMany_165 : decode cX13_readMany 165 = .ok (.aload_n 0, 1) := by decide +kernel
theorem dX13_readMany_166 : decode cX13_readMany 166 = .ok (.invokevirtual 371, 3) := by decide +kernel
theorem dX13_readMany_169 : decode cX13_readMany 169 = .ok (.ifCond .eq 85, 3) := by decide +kernel
theorem dX13_readMany_172 : decode cX13_readMany 172 = .ok (.iinc 4 1, 3) := by decide +kernel
theorem dX13_readMany_175 : decode cX13_readMany 175 = .ok (.aload_n 0, 1) := by decide +kernel
theorem dX13_readMany_176 : decode cX13_readMany 176 = .ok (.getfield 36, 3) := by decide +kernel
theorem dX13_readMany_179 : decode cX13_readMany 179 = .ok (.iload_n 1, 1) := by decide +kernel
theorem dX13_readMany_180 : decode cX13_readMany 180 = .ok (.iload 4, 2) := by decide +kernel
theorem dX13_readMany_182 : decode cX13_readMany 182 = .ok (.iastore, 1) := by decide +kernel
theorem dX13_readMany_183 : decode cX13_readMany 183 = .ok (.aload_n 0, 1) := by decide +kernel
theorem dX13_readMany_184 : decode cX13_readMany 184 = .ok (.invokevirtual 364, 3) := by decide +kernel
theorem dX13_readMany_187 : decode cX13_readMany 187 = .ok (.aload_n 0, 1) := by decide +kernel
theorem dX13_readMany_188 : decode cX13_readMany 188 = .ok (.invokevirtual 351, 3) := by decide +kernel
theorem dX13_readMany_191 : decode cX13_readMany 191 = .ok (.bipush 44, 2) := by decide +kernel
theorem dX13_readMany_193 : decode cX13_readMany 193 = .ok (.if_icmp .ne 7, 3) := by decide +kernel
theorem dX13_readMany_196 : decode cX13_readMany 196 = .ok (.iconst 1, 1) := by decide +kernel
theorem dX13_readMany_197 : decode cX13_readMany 197 = .ok (.goto 4, 3) := by decide +kernel
theorem dX13_readMany_200 : decode cX13_readMany 200 = .ok (.iconst 0, 1) := by decide +kernel
theorem dX13_readMany_201 : decode cX13_readMany 201 = .ok (.istore 5, 2) := by decide +kernel
theorem dX13_readMany_203 : decode cX13_readMany 203 = .ok (.iload 5, 2) := by decide +kernel
theorem dX13_readMany_205 : decode cX13_readMany 205 = .ok (.ifCond .eq 20, 3) := by decide +kernel
theorem dX13_readMany_208 : decode cX13_readMany 208 = .ok (.aload_n 0, 1) := by decide +kernel
theorem dX13_readMany_209 : decode cX13_readMany 209 = .ok (.dup, 1) := by decide +kernel
theorem dX13_readMany_210 : decode cX13_readMany 210 = .ok (.getfield 336, 3) := by decide +kernel
theorem dX13_readMany_213 : decode cX13_readMany 213 = .ok (.iconst 1, 1) := by decide +kernel
theorem dX13_readMany_214 : decode cX13_readMany 214 = .ok (.iadd, 1) := by decide +kernel
theorem dX13_readMany_215 : decode cX13_readMany 215 = .ok (.putfield 336, 3) := by decide +kernel
theorem dX13_readMany_218 : decode cX13_readMany 218 = .ok (.aload_n 0, 1) := by decide +kernel
theorem dX13_readMany_219 : decode cX13_readMany 219 = .ok (.invokevirtual 364, 3) := by decide +kernel
theorem dX13_readMany_222 : decode cX13_readMany 222 = .ok (.goto 32, 3) := by decide +kernel
theorem dX13_readMany_225 : decode cX13_readMany 225 = .ok (.aload_n 0, 1) := by decide +kernel
theorem dX13_readMany_226 : decode cX13_readMany 226 = .ok (.invokevirtual 351, 3) := by decide +kernel
theorem dX13_readMany_229 : decode cX13_readMany 229 = .ok (.iload_n 3, 1) := by decide +kernel
theorem dX13_readMany_230 : decode cX13_readMany 230 = .ok (.if_icmp .ne 16, 3) := by decide +kernel
theorem dX13_readMany_233 : decode cX13_readMany 233 = .ok (.aload_n 0, 1) := by decide +kernel
theorem dX13_readMany_234 : decode cX13_readMany 234 = .ok (.dup, 1) := by decide +kernel
theorem dX13_readMany_235 : decode cX13_readMany 235 = .ok (.getfield 336, 3) := by decide +kernel
theorem dX13_readMany_238 : decode cX13_readMany 238 = .ok (.iconst 1, 1) := by decide +kernel
theorem dX13_readMany_239 : decode cX13_readMany 239 = .ok (.iadd, 1) := by decide +kernel
theorem dX13_readMany_240 : decode cX13_readMany 240 = .ok (.putfield 336, 3) := by decide +kernel
theorem dX13_readMany_243 : decode cX13_readMany 243 = .ok (.goto 11, 3) := by decide +kernel
theorem dX13_readMany_246 : decode cX13_readMany 246 = .ok (.aload_n 0, 1) := by decide +kernel
theorem dX13_readMany_247 : decode cX13_readMany 247 = .ok (.aload_n 0, 1) := by decide +kernel
theorem dX13_readMany_248 : decode cX13_readMany 248 = .ok (.getfield 336, 3) := by decide +kernel
theorem dX13_readMany_251 : decode cX13_readMany 251 = .ok (.invokevirtual 375, 3) := by decide +kernel
theorem dX13_readMany_254 : decode cX13_readMany 254 = .ok (.goto (-213), 3) := by decide +kernel
theorem dX13_readMany_257 : decode cX13_readMany 257 = .ok (.return_, 1) := by decide +kernel
abbrev rmX13_readMany (fv lw : Nat) : Room := { frames := fv + 7, cells := 0, slots := 0, locals := lw + 160 }
set_option maxHeartbeats 4000000 in
set_option maxRecDepth 100000 in
theorem wB_X13_readMany_201 {G : mG} {F : Nat} {fv lw : Nat} {rv : Nat → Int32 → Int32 → mM → Option mM} (hrv : ∀ (a0 : Nat) (a1 : Int32) (a2 : Int32) (M M1 : mM) (sz : Nat) (l : Launch) (D : mD) (A : Nat → Prop), rv a0 a1 a2 M = some M1 → mMetV l D G A yX13_readValue cX13_readValue 8 none fv lw 0 0 [.ref a0, .int a1, .int a2] M sz M1 sz) {x : mXT} {sz : Nat} {M0 : mM} (X : mCX G RX13 cX13_readMany 10 none "readMany" (rmX13_readMany fv lw) x) (hQ : mQV x M0 (sz, 0, 0)) (r41 : Nat → Int32 → Int32 → Int32 → Int32 → Int32 → mM → Option mM) (hr41 : ∀ (l0 : Nat) (l1 : Int32) (l2 : Int32) (l3 : Int32) (l4 : Int32) (l5 : Int32) (M : mM), r41 l0 l1 l2 l3 l4 l5 M = some M0 → WW x (sz, 0, 0) M 41 [(0, .ref l0), (1, .int l1), (2, .int l2), (3, .int l3), (4, .int l4), (5, .int l5)] []) {l0 : Nat} {l1 : Int32} {l2 : Int32} {l3 : Int32} {l4 : Int32} {sk0 : Int32} {M : mM} (h : B_X13_readMany_201 G F rv r41 l0 l1 l2 l3 l4 sk0 M = some M0) : WW x (sz, 0, 0) M 201 [(0, .ref l0), (1, .int l1), (2, .int l2), (3, .int l3), (4, .int l4)] [.int sk0] := by
  unfold B_X13_readMany_201 at h
  refine ww_istore 201 X dX13_readMany_201 (lv' := [(0, .ref l0), (1, .int l1), (2, .int l2), (3, .int l3), (4, .int l4), (5, .int sk0)]) (by decide) [1, 2, 3, 4, 5, 0] rfl ?_
  refine ww_iload 203 X dX13_readMany_203 5 rfl ?_
  refine ww_if_eq 205 225 X dX13_readMany_205 (by decide) (fun q => ?_) (fun q => ?_)
  · replace h := (if_pos q).symm.trans h
    refine ww_aload_n 225 X dX13_readMany_225 0 rfl rfl ?_
    obtain ⟨_, f226, h⟩ := bO_some h
    obtain ⟨v226, M226, e226, h⟩ := bP_some h
    refine ww_callVI0 226 X dX13_readMany_226 mY_X13_at mL_X13_351 (rcv_spec f226) ⟨_, _, rfl⟩ (by decide) (As := []) (rest := []) rfl rfl ⟨by show _ ≤ fv + 7; omega, by show _ ≤ lw + 160; omega⟩ (Nat.le_of_ble_eq_true rfl) (fun l D A => c_X13_at l D A e226) ?_
    refine ww_iload_n 229 X dX13_readMany_229 3 rfl rfl ?_
    refine ww_icmp_ne 230 246 X dX13_readMany_230 (by decide) (fun q => ?_) (fun q => ?_)
    · replace h := (if_neg q).symm.trans h
      refine ww_aload_n 246 X dX13_readMany_246 0 rfl rfl ?_
      refine ww_aload_n 247 X dX13_readMany_247 0 rfl rfl ?_
      obtain ⟨v248, e248, h⟩ := bO_some h
      refine ww_getI 248 X dX13_readMany_248 fG_X13_336 e248 ?_
      obtain ⟨_, f251, h⟩ := bO_some h
      obtain ⟨M251, e251, h⟩ := bO_some h
      refine ww_callVV0 251 X dX13_readMany_251 mY_X13_fail mL_X13_375 (rcv_spec f251) ⟨_, _, rfl⟩ (by decide) (As := [.int v248]) (rest := []) rfl rfl ⟨by show _ ≤ fv + 7; omega, by show _ ≤ lw + 160; omega⟩ (Nat.le_of_ble_eq_true rfl) (fun l D A => c_X13_fail l D A e251) ?_
      refine ww_goto 254 41 X dX13_readMany_254 (by decide) ?_
      exact (hr41 _ _ _ _ _ _ _ h)
    · replace h := (if_pos q).symm.trans h
      refine ww_aload_n 233 X dX13_readMany_233 0 rfl rfl ?_
      refine ww_dup 234 X dX13_readMany_234 rfl ?_
      obtain ⟨v235, e235, h⟩ := bO_some h
      refine ww_getI 235 X dX13_readMany_235 fG_X13_336 e235 ?_
      refine ww_iconst 238 X (v := (1 : Int32)) dX13_readMany_238 (by decide) ?_
      refine ww_iadd 239 X dX13_readMany_239 ?_
      obtain ⟨M240, e240, h⟩ := bO_some h
      refine ww_putI 240 X dX13_readMany_240 (fP_X13_336 _) e240 ?_
      refine ww_goto 243 254 X dX13_readMany_243 (by decide) ?_
      refine ww_goto 254 41 X dX13_readMany_254 (by decide) ?_
      exact (hr41 _ _ _ _ _ _ _ h)
  · replace h := (if_neg q).symm.trans h
    refine ww_aload_n 208 X dX13_readMany_208 0 rfl rfl ?_
    refine ww_dup 209 X dX13_readMany_209 rfl ?_
    obtain ⟨v210, e210, h⟩ := bO_some h
    refine ww_getI 210 X dX13_readMany_210 fG_X13_336 e210 ?_
    refine ww_iconst 213 X (v := (1 : Int32)) dX13_readMany_213 (by decide) ?_
    refine ww_iadd 214 X dX13_readMany_214 ?_
    obtain ⟨M215, e215, h⟩ := bO_some h
    refine ww_putI 215 X dX13_readMany_215 (fP_X13_336 _) e215 ?_
    refine ww_aload_n 218 X dX13_readMany_218 0 rfl rfl ?_
    obtain ⟨_, f219, h⟩ := bO_some h
    obtain ⟨M219, e219, h⟩ := bO_some h
    refine ww_callVV0 219 X dX13_readMany_219 mY_X13_blanks mL_X13_364 (rcv_spec f219) ⟨_, _, rfl⟩ (by decide) (As := []) (rest := []) rfl rfl ⟨by show _ ≤ fv + 7; omega, by show _ ≤ lw + 160; omega⟩ (Nat.le_of_ble_eq_true rfl) (fun l D A => c_X13_blanks l D A e219) ?_
    refine ww_goto 222 254 X dX13_readMany_222 (by decide) ?_
    refine ww_goto 254 41 X dX13_readMany_254 (by decide) ?_
    exact (hr41 _ _ _ _ _ _ _ h)
set_option maxHeartbeats 4000000 in
set_option maxRecDepth 100000 in
theorem wB_X13_readMany_165 {G : mG} {F : Nat} {fv lw : Nat} {rv : Nat → Int32 → Int32 → mM → Option mM} (hrv : ∀ (a0 : Nat) (a1 : Int32) (a2 : Int32) (M M1 : mM) (sz : Nat) (l : Launch) (D : mD) (A : Nat → Prop), rv a0 a1 a2 M = some M1 → mMetV l D G A yX13_readValue cX13_readValue 8 none fv lw 0 0 [.ref a0, .int a1, .int a2] M sz M1 sz) {x : mXT} {sz : Nat} {M0 : mM} (X : mCX G RX13 cX13_readMany 10 none "readMany" (rmX13_readMany fv lw) x) (hQ : mQV x M0 (sz, 0, 0)) (r41 : Nat → Int32 → Int32 → Int32 → Int32 → Int32 → mM → Option mM) (hr41 : ∀ (l0 : Nat) (l1 : Int32) (l2 : Int32) (l3 : Int32) (l4 : Int32) (l5 : Int32) (M : mM), r41 l0 l1 l2 l3 l4 l5 M = some M0 → WW x (sz, 0, 0) M 41 [(0, .ref l0), (1, .int l1), (2, .int l2), (3, .int l3), (4, .int l4), (5, .int l5)] []) {l0 : Nat} {l1 : Int32} {l2 : Int32} {l3 : Int32} {l4 : Int32} {l5 : Int32} {M : mM} (h : B_X13_readMany_165 G F rv r41 l0 l1 l2 l3 l4 l5 M = some M0) : WW x (sz, 0, 0) M 165 [(0, .ref l0), (1, .int l1), (2, .int l2), (3, .int l3), (4, .int l4), (5, .int l5)] [] := by
  unfold B_X13_readMany_165 at h
  refine ww_aload_n 165 X dX13_readMany_165 0 rfl rfl ?_
  obtain ⟨_, f166, h⟩ := bO_some h
  obtain ⟨v166, M166, e166, h⟩ := bP_some h
  refine ww_callVI0 166 X dX13_readMany_166 mY_X13_good mL_X13_371 (rcv_spec f166) ⟨_, _, rfl⟩ (by decide) (As := []) (rest := []) rfl rfl ⟨by show _ ≤ fv + 7; omega, by show _ ≤ lw + 160; omega⟩ (Nat.le_of_ble_eq_true rfl) (fun l D A => c_X13_good l D A e166) ?_
  refine ww_if_eq 169 254 X dX13_readMany_169 (by decide) (fun q => ?_) (fun q => ?_)
  · replace h := (if_pos q).symm.trans h
    refine ww_goto 254 41 X dX13_readMany_254 (by decide) ?_
    exact (hr41 _ _ _ _ _ _ _ h)
  · replace h := (if_neg q).symm.trans h
    refine ww_iinc 172 X dX13_readMany_172 (lv' := [(0, .ref l0), (1, .int l1), (2, .int l2), (3, .int l3), (4, .int (l4 + 1)), (5, .int l5)]) 4 rfl rfl (by decide) [1, 2, 3, 4, 0, 5] rfl ?_
    refine ww_aload_n 175 X dX13_readMany_175 0 rfl rfl ?_
    obtain ⟨v176, e176, h⟩ := bO_some h
    refine ww_getR 176 X dX13_readMany_176 fG_X13_36 e176 ?_
    refine ww_iload_n 179 X dX13_readMany_179 1 rfl rfl ?_
    refine ww_iload 180 X dX13_readMany_180 4 rfl ?_
    obtain ⟨M182, e182, h⟩ := bO_some h
    refine ww_iast 182 X dX13_readMany_182 e182 ?_
    refine ww_aload_n 183 X dX13_readMany_183 0 rfl rfl ?_
    obtain ⟨_, f184, h⟩ := bO_some h
    obtain ⟨M184, e184, h⟩ := bO_some h
    refine ww_callVV0 184 X dX13_readMany_184 mY_X13_blanks mL_X13_364 (rcv_spec f184) ⟨_, _, rfl⟩ (by decide) (As := []) (rest := []) rfl rfl ⟨by show _ ≤ fv + 7; omega, by show _ ≤ lw + 160; omega⟩ (Nat.le_of_ble_eq_true rfl) (fun l D A => c_X13_blanks l D A e184) ?_
    refine ww_aload_n 187 X dX13_readMany_187 0 rfl rfl ?_
    obtain ⟨_, f188, h⟩ := bO_some h
    obtain ⟨v188, M188, e188, h⟩ := bP_some h
    refine ww_callVI0 188 X dX13_readMany_188 mY_X13_at mL_X13_351 (rcv_spec f188) ⟨_, _, rfl⟩ (by decide) (As := []) (rest := []) rfl rfl ⟨by show _ ≤ fv + 7; omega, by show _ ≤ lw + 160; omega⟩ (Nat.le_of_ble_eq_true rfl) (fun l D A => c_X13_at l D A e188) ?_
    refine ww_bipush 191 X (v := (44 : Int32)) dX13_readMany_191 (by decide) ?_
    refine ww_icmp_ne 193 200 X dX13_readMany_193 (by decide) (fun q => ?_) (fun q => ?_)
    · replace h := (if_neg q).symm.trans h
      refine ww_iconst 200 X (v := (0 : Int32)) dX13_readMany_200 (by decide) ?_
      exact ww_sub [0, 1, 2, 3, 4] rfl (wB_X13_readMany_201 hrv X hQ _ hr41 h)
    · replace h := (if_pos q).symm.trans h
      refine ww_iconst 196 X (v := (1 : Int32)) dX13_readMany_196 (by decide) ?_
      refine ww_goto 197 201 X dX13_readMany_197 (by decide) ?_
      exact ww_sub [0, 1, 2, 3, 4] rfl (wB_X13_readMany_201 hrv X hQ _ hr41 h)
set_option maxHeartbeats 4000000 in
set_option maxRecDepth 100000 in
theorem wB_X13_readMany_88 {G : mG} {F : Nat} {fv lw : Nat} {rv : Nat → Int32 → Int32 → mM → Option mM} (hrv : ∀ (a0 : Nat) (a1 : Int32) (a2 : Int32) (M M1 : mM) (sz : Nat) (l : Launch) (D : mD) (A : Nat → Prop), rv a0 a1 a2 M = some M1 → mMetV l D G A yX13_readValue cX13_readValue 8 none fv lw 0 0 [.ref a0, .int a1, .int a2] M sz M1 sz) {x : mXT} {sz : Nat} {M0 : mM} (X : mCX G RX13 cX13_readMany 10 none "readMany" (rmX13_readMany fv lw) x) (hQ : mQV x M0 (sz, 0, 0)) (r41 : Nat → Int32 → Int32 → Int32 → Int32 → Int32 → mM → Option mM) (hr41 : ∀ (l0 : Nat) (l1 : Int32) (l2 : Int32) (l3 : Int32) (l4 : Int32) (l5 : Int32) (M : mM), r41 l0 l1 l2 l3 l4 l5 M = some M0 → WW x (sz, 0, 0) M 41 [(0, .ref l0), (1, .int l1), (2, .int l2), (3, .int l3), (4, .int l4), (5, .int l5)] []) {l0 : Nat} {l1 : Int32} {l2 : Int32} {l3 : Int32} {l4 : Int32} {l5 : Int32} {l6 : Int32} {l7 : Int32} {M : mM} (h : B_X13_readMany_88 G F rv r41 l0 l1 l2 l3 l4 l5 l6 l7 M = some M0) : WW x (sz, 0, 0) M 88 [(0, .ref l0), (1, .int l1), (2, .int l2), (3, .int l3), (4, .int l4), (5, .int l5), (6, .int l6), (7, .int l7)] [] := by
  unfold B_X13_readMany_88 at h
  refine ww_aload_n 88 X dX13_readMany_88 0 rfl rfl ?_
  obtain ⟨v89, e89, h⟩ := bO_some h
  refine ww_getI 89 X dX13_readMany_89 fG_X13_358 e89 ?_
  refine ww_iload 92 X dX13_readMany_92 7 rfl ?_
  refine ww_isub 94 X dX13_readMany_94 ?_
  refine ww_istore 95 X dX13_readMany_95 (lv' := [(0, .ref l0), (1, .int l1), (2, .int l2), (3, .int l3), (4, .int l4), (5, .int l5), (6, .int l6), (7, .int l7), (8, .int (v89 - l7))]) (by decide) [1, 2, 3, 4, 5, 6, 7, 8, 0] rfl ?_
  refine ww_aload_n 97 X dX13_readMany_97 0 rfl rfl ?_
  obtain ⟨_, f98, h⟩ := bO_some h
  obtain ⟨v98, M98, e98, h⟩ := bP_some h
  refine ww_callVI0 98 X dX13_readMany_98 mY_X13_good mL_X13_371 (rcv_spec f98) ⟨_, _, rfl⟩ (by decide) (As := []) (rest := []) rfl rfl ⟨by show _ ≤ fv + 7; omega, by show _ ≤ lw + 160; omega⟩ (Nat.le_of_ble_eq_true rfl) (fun l D A => c_X13_good l D A e98) ?_
  refine ww_if_eq 101 165 X dX13_readMany_101 (by decide) (fun q => ?_) (fun q => ?_)
  · replace h := (if_pos q).symm.trans h
    exact ww_sub [0, 1, 2, 3, 4, 5] rfl (wB_X13_readMany_165 hrv X hQ _ hr41 h)
  · replace h := (if_neg q).symm.trans h
    refine ww_aload_n 104 X dX13_readMany_104 0 rfl rfl ?_
    obtain ⟨v105, e105, h⟩ := bO_some h
    refine ww_getR 105 X dX13_readMany_105 fG_X13_54 e105 ?_
    refine ww_aload_n 108 X dX13_readMany_108 0 rfl rfl ?_
    obtain ⟨v109, e109, h⟩ := bO_some h
    refine ww_getI 109 X dX13_readMany_109 fG_X13_355 e109 ?_
    obtain ⟨v112, e112, h⟩ := bO_some h
    refine ww_iald 112 X dX13_readMany_112 e112 ?_
    refine ww_istore 113 X dX13_readMany_113 (lv' := [(0, .ref l0), (1, .int l1), (2, .int l2), (3, .int l3), (4, .int l4), (5, .int l5), (6, .int l6), (7, .int l7), (8, .int (v89 - l7)), (9, .int v112)]) (by decide) [1, 2, 3, 4, 5, 6, 7, 8, 9, 0] rfl ?_
    refine ww_iload 115 X dX13_readMany_115 9 rfl ?_
    refine ww_sipush 117 X (v := (600 : Int32)) dX13_readMany_117 (by decide) ?_
    refine ww_icmp_ge 120 149 X dX13_readMany_120 (by decide) (fun q => ?_) (fun q => ?_)
    · replace h := (if_pos q).symm.trans h
      refine ww_aload_n 149 X dX13_readMany_149 0 rfl rfl ?_
      refine ww_iload_n 150 X dX13_readMany_150 1 rfl rfl ?_
      refine ww_sipush 151 X (v := (600 : Int32)) dX13_readMany_151 (by decide) ?_
      refine ww_aload_n 154 X dX13_readMany_154 0 rfl rfl ?_
      obtain ⟨v155, e155, h⟩ := bO_some h
      refine ww_getI 155 X dX13_readMany_155 fG_X13_355 e155 ?_
      refine ww_imul 158 X dX13_readMany_158 ?_
      refine ww_isub 159 X dX13_readMany_159 ?_
      refine ww_iload 160 X dX13_readMany_160 4 rfl ?_
      obtain ⟨_, f162, h⟩ := bO_some h
      obtain ⟨M162, e162, h⟩ := bO_some h
      refine ww_callVV0 162 X dX13_readMany_162 mY_X13_readValue mL_X13_367 (rcv_spec f162) ⟨_, _, rfl⟩ (by decide) (As := [.int (l1 - ((600 : Int32) * v155)), .int l4]) (rest := []) rfl rfl ⟨by show _ ≤ fv + 7; omega, by show _ ≤ lw + 160; omega⟩ (Nat.le_of_ble_eq_true rfl) (fun l D A => hrv _ _ _ _ _ _ l D A e162) ?_
      exact ww_sub [0, 1, 2, 3, 4, 5] rfl (wB_X13_readMany_165 hrv X hQ _ hr41 h)
    · replace h := (if_neg q).symm.trans h
      refine ww_aload_n 123 X dX13_readMany_123 0 rfl rfl ?_
      obtain ⟨v124, e124, h⟩ := bO_some h
      refine ww_getR 124 X dX13_readMany_124 fG_X13_45 e124 ?_
      refine ww_iload 127 X dX13_readMany_127 6 rfl ?_
      refine ww_iload 129 X dX13_readMany_129 7 rfl ?_
      obtain ⟨M131, e131, h⟩ := bO_some h
      refine ww_iast 131 X dX13_readMany_131 e131 ?_
      refine ww_aload_n 132 X dX13_readMany_132 0 rfl rfl ?_
      obtain ⟨v133, e133, h⟩ := bO_some h
      refine ww_getR 133 X dX13_readMany_133 fG_X13_48 e133 ?_
      refine ww_iload 136 X dX13_readMany_136 6 rfl ?_
      refine ww_iload_n 138 X dX13_readMany_138 2 rfl rfl ?_
      refine ww_if_eq 139 147 X dX13_readMany_139 (by decide) (fun q => ?_) (fun q => ?_)
      · replace h := (if_pos q).symm.trans h
        refine ww_iconst 147 X (v := (-1 : Int32)) dX13_readMany_147 (by decide) ?_
        obtain ⟨M148, e148, h⟩ := bO_some h
        refine ww_iast 148 X dX13_readMany_148 e148 ?_
        refine ww_aload_n 149 X dX13_readMany_149 0 rfl rfl ?_
        refine ww_iload_n 150 X dX13_readMany_150 1 rfl rfl ?_
        refine ww_sipush 151 X (v := (600 : Int32)) dX13_readMany_151 (by decide) ?_
        refine ww_aload_n 154 X dX13_readMany_154 0 rfl rfl ?_
        obtain ⟨v155, e155, h⟩ := bO_some h
        refine ww_getI 155 X dX13_readMany_155 fG_X13_355 e155 ?_
        refine ww_imul 158 X dX13_readMany_158 ?_
        refine ww_isub 159 X dX13_readMany_159 ?_
        refine ww_iload 160 X dX13_readMany_160 4 rfl ?_
        obtain ⟨_, f162, h⟩ := bO_some h
        obtain ⟨M162, e162, h⟩ := bO_some h
        refine ww_callVV0 162 X dX13_readMany_162 mY_X13_readValue mL_X13_367 (rcv_spec f162) ⟨_, _, rfl⟩ (by decide) (As := [.int (l1 - ((600 : Int32) * v155)), .int l4]) (rest := []) rfl rfl ⟨by show _ ≤ fv + 7; omega, by show _ ≤ lw + 160; omega⟩ (Nat.le_of_ble_eq_true rfl) (fun l D A => hrv _ _ _ _ _ _ l D A e162) ?_
        exact ww_sub [0, 1, 2, 3, 4, 5] rfl (wB_X13_readMany_165 hrv X hQ _ hr41 h)
      · replace h := (if_neg q).symm.trans h
        refine ww_iload 142 X dX13_readMany_142 8 rfl ?_
        refine ww_goto 144 148 X dX13_readMany_144 (by decide) ?_
        obtain ⟨M148, e148, h⟩ := bO_some h
        refine ww_iast 148 X dX13_readMany_148 e148 ?_
        refine ww_aload_n 149 X dX13_readMany_149 0 rfl rfl ?_
        refine ww_iload_n 150 X dX13_readMany_150 1 rfl rfl ?_
        refine ww_sipush 151 X (v := (600 : Int32)) dX13_readMany_151 (by decide) ?_
        refine ww_aload_n 154 X dX13_readMany_154 0 rfl rfl ?_
        obtain ⟨v155, e155, h⟩ := bO_some h
        refine ww_getI 155 X dX13_readMany_155 fG_X13_355 e155 ?_
        refine ww_imul 158 X dX13_readMany_158 ?_
        refine ww_isub 159 X dX13_readMany_159 ?_
        refine ww_iload 160 X dX13_readMany_160 4 rfl ?_
        obtain ⟨_, f162, h⟩ := bO_some h
        obtain ⟨M162, e162, h⟩ := bO_some h
        refine ww_callVV0 162 X dX13_readMany_162 mY_X13_readValue mL_X13_367 (rcv_spec f162) ⟨_, _, rfl⟩ (by decide) (As := [.int (l1 - ((600 : Int32) * v155)), .int l4]) (rest := []) rfl rfl ⟨by show _ ≤ fv + 7; omega, by show _ ≤ lw + 160; omega⟩ (Nat.le_of_ble_eq_true rfl) (fun l D A => hrv _ _ _ _ _ _ l D A e162) ?_
        exact ww_sub [0, 1, 2, 3, 4, 5] rfl (wB_X13_readMany_165 hrv X hQ _ hr41 h)
set_option maxHeartbeats 4000000 in
set_option maxRecDepth 100000 in
theorem wB_X13_readMany_41 {G : mG} {F : Nat} {fv lw : Nat} {rv : Nat → Int32 → Int32 → mM → Option mM} (hrv : ∀ (a0 : Nat) (a1 : Int32) (a2 : Int32) (M M1 : mM) (sz : Nat) (l : Launch) (D : mD) (A : Nat → Prop), rv a0 a1 a2 M = some M1 → mMetV l D G A yX13_readValue cX13_readValue 8 none fv lw 0 0 [.ref a0, .int a1, .int a2] M sz M1 sz) {x : mXT} {sz : Nat} {M0 : mM} (X : mCX G RX13 cX13_readMany 10 none "readMany" (rmX13_readMany fv lw) x) (hQ : mQV x M0 (sz, 0, 0)) : ∀ (n : Nat) (l0 : Nat) (l1 : Int32) (l2 : Int32) (l3 : Int32) (l4 : Int32) (l5 : Int32) (M : mM), B_X13_readMany_41 G F rv n l0 l1 l2 l3 l4 l5 M = some M0 → WW x (sz, 0, 0) M 41 [(0, .ref l0), (1, .int l1), (2, .int l2), (3, .int l3), (4, .int l4), (5, .int l5)] [] := by
  intro n
  induction n with
  | zero =>
    intro l0 l1 l2 l3 l4 l5 M h
    exact nomatch (show (none : Option mM) = some M0 from h)
  | succ n ih =>
    intro l0 l1 l2 l3 l4 l5 M h
    rw [B_X13_readMany_41] at h
    refine ww_iload 41 X dX13_readMany_41 5 rfl ?_
    refine ww_if_eq 43 257 X dX13_readMany_43 (by decide) (fun q => ?_) (fun q => ?_)
    · replace h := (if_pos q).symm.trans h
      exact ww_vretE 257 X hQ dX13_readMany_257 h
    · replace h := (if_neg q).symm.trans h
      refine ww_aload_n 46 X dX13_readMany_46 0 rfl rfl ?_
      obtain ⟨_, f47, h⟩ := bO_some h
      obtain ⟨v47, M47, e47, h⟩ := bP_some h
      refine ww_callVI0 47 X dX13_readMany_47 mY_X13_good mL_X13_371 (rcv_spec f47) ⟨_, _, rfl⟩ (by decide) (As := []) (rest := []) rfl rfl ⟨by show _ ≤ fv + 7; omega, by show _ ≤ lw + 160; omega⟩ (Nat.le_of_ble_eq_true rfl) (fun l D A => c_X13_good l D A e47) ?_
      refine ww_if_eq 50 257 X dX13_readMany_50 (by decide) (fun q => ?_) (fun q => ?_)
      · replace h := (if_pos q).symm.trans h
        exact ww_vretE 257 X hQ dX13_readMany_257 h
      · replace h := (if_neg q).symm.trans h
        refine ww_sipush 53 X (v := (600 : Int32)) dX13_readMany_53 (by decide) ?_
        refine ww_aload_n 56 X dX13_readMany_56 0 rfl rfl ?_
        obtain ⟨v57, e57, h⟩ := bO_some h
        refine ww_getI 57 X dX13_readMany_57 fG_X13_355 e57 ?_
        refine ww_imul 60 X dX13_readMany_60 ?_
        refine ww_aload_n 61 X dX13_readMany_61 0 rfl rfl ?_
        obtain ⟨v62, e62, h⟩ := bO_some h
        refine ww_getR 62 X dX13_readMany_62 fG_X13_54 e62 ?_
        refine ww_aload_n 65 X dX13_readMany_65 0 rfl rfl ?_
        obtain ⟨v66, e66, h⟩ := bO_some h
        refine ww_getI 66 X dX13_readMany_66 fG_X13_355 e66 ?_
        obtain ⟨v69, e69, h⟩ := bO_some h
        refine ww_iald 69 X dX13_readMany_69 e69 ?_
        refine ww_iadd 70 X dX13_readMany_70 ?_
        refine ww_istore 71 X dX13_readMany_71 (lv' := [(0, .ref l0), (1, .int l1), (2, .int l2), (3, .int l3), (4, .int l4), (5, .int l5), (6, .int (((600 : Int32) * v57) + v69))]) (by decide) [1, 2, 3, 4, 5, 6, 0] rfl ?_
        refine ww_aload_n 73 X dX13_readMany_73 0 rfl rfl ?_
        obtain ⟨v74, e74, h⟩ := bO_some h
        refine ww_getI 74 X dX13_readMany_74 fG_X13_358 e74 ?_
        refine ww_istore 77 X dX13_readMany_77 (lv' := [(0, .ref l0), (1, .int l1), (2, .int l2), (3, .int l3), (4, .int l4), (5, .int l5), (6, .int (((600 : Int32) * v57) + v69)), (7, .int v74)]) (by decide) [1, 2, 3, 4, 5, 6, 7, 0] rfl ?_
        refine ww_iload_n 79 X dX13_readMany_79 2 rfl rfl ?_
        refine ww_if_eq 80 88 X dX13_readMany_80 (by decide) (fun q => ?_) (fun q => ?_)
        · replace h := (if_pos q).symm.trans h
          exact (wB_X13_readMany_88 hrv X hQ _ ih h)
        · replace h := (if_neg q).symm.trans h
          refine ww_aload_n 83 X dX13_readMany_83 0 rfl rfl ?_
          refine ww_iload_n 84 X dX13_readMany_84 1 rfl rfl ?_
          obtain ⟨_, f85, h⟩ := bO_some h
          obtain ⟨M85, e85, h⟩ := bO_some h
          refine ww_callVV0 85 X dX13_readMany_85 mY_X13_readName mL_X13_417 (rcv_spec f85) ⟨_, _, rfl⟩ (by decide) (As := [.int l1]) (rest := []) rfl rfl ⟨by show _ ≤ fv + 7; omega, by show _ ≤ lw + 160; omega⟩ (Nat.le_of_ble_eq_true rfl) (fun l D A => c_X13_readName l D A e85) ?_
          exact (wB_X13_readMany_88 hrv X hQ _ ih h)
set_option maxHeartbeats 4000000 in
set_option maxRecDepth 100000 in
theorem wB_X13_readMany_11 {G : mG} {F : Nat} {fv lw : Nat} {rv : Nat → Int32 → Int32 → mM → Option mM} (hrv : ∀ (a0 : Nat) (a1 : Int32) (a2 : Int32) (M M1 : mM) (sz : Nat) (l : Launch) (D : mD) (A : Nat → Prop), rv a0 a1 a2 M = some M1 → mMetV l D G A yX13_readValue cX13_readValue 8 none fv lw 0 0 [.ref a0, .int a1, .int a2] M sz M1 sz) {x : mXT} {sz : Nat} {M0 : mM} (X : mCX G RX13 cX13_readMany 10 none "readMany" (rmX13_readMany fv lw) x) (hQ : mQV x M0 (sz, 0, 0)) {l0 : Nat} {l1 : Int32} {l2 : Int32} {sk0 : Int32} {M : mM} (h : B_X13_readMany_11 G F rv l0 l1 l2 sk0 M = some M0) : WW x (sz, 0, 0) M 11 [(0, .ref l0), (1, .int l1), (2, .int l2)] [.int sk0] := by
  unfold B_X13_readMany_11 at h
  refine ww_istore_n 11 X dX13_readMany_11 (lv' := [(0, .ref l0), (1, .int l1), (2, .int l2), (3, .int sk0)]) rfl (by decide) [1, 2, 3, 0] rfl ?_
  refine ww_aload_n 12 X dX13_readMany_12 0 rfl rfl ?_
  obtain ⟨_, f13, h⟩ := bO_some h
  obtain ⟨M13, e13, h⟩ := bO_some h
  refine ww_callVV0 13 X dX13_readMany_13 mY_X13_blanks mL_X13_364 (rcv_spec f13) ⟨_, _, rfl⟩ (by decide) (As := []) (rest := []) rfl rfl ⟨by show _ ≤ fv + 7; omega, by show _ ≤ lw + 160; omega⟩ (Nat.le_of_ble_eq_true rfl) (fun l D A => c_X13_blanks l D A e13) ?_
  refine ww_aload_n 16 X dX13_readMany_16 0 rfl rfl ?_
  obtain ⟨_, f17, h⟩ := bO_some h
  obtain ⟨v17, M17, e17, h⟩ := bP_some h
  refine ww_callVI0 17 X dX13_readMany_17 mY_X13_at mL_X13_351 (rcv_spec f17) ⟨_, _, rfl⟩ (by decide) (As := []) (rest := []) rfl rfl ⟨by show _ ≤ fv + 7; omega, by show _ ≤ lw + 160; omega⟩ (Nat.le_of_ble_eq_true rfl) (fun l D A => c_X13_at l D A e17) ?_
  refine ww_iload_n 20 X dX13_readMany_20 3 rfl rfl ?_
  refine ww_icmp_ne 21 35 X dX13_readMany_21 (by decide) (fun q => ?_) (fun q => ?_)
  · replace h := (if_neg q).symm.trans h
    refine ww_iconst 35 X (v := (0 : Int32)) dX13_readMany_35 (by decide) ?_
    refine ww_istore 36 X dX13_readMany_36 (lv' := [(0, .ref l0), (1, .int l1), (2, .int l2), (3, .int sk0), (4, .int (0 : Int32))]) (by decide) [1, 2, 3, 4, 0] rfl ?_
    refine ww_iconst 38 X (v := (1 : Int32)) dX13_readMany_38 (by decide) ?_
    refine ww_istore 39 X dX13_readMany_39 (lv' := [(0, .ref l0), (1, .int l1), (2, .int l2), (3, .int sk0), (4, .int (0 : Int32)), (5, .int (1 : Int32))]) (by decide) [1, 2, 3, 4, 5, 0] rfl ?_
    exact (wB_X13_readMany_41 hrv X hQ F _ _ _ _ _ _ _ h)
  · replace h := (if_pos q).symm.trans h
    refine ww_aload_n 24 X dX13_readMany_24 0 rfl rfl ?_
    refine ww_dup 25 X dX13_readMany_25 rfl ?_
    obtain ⟨v26, e26, h⟩ := bO_some h
    refine ww_getI 26 X dX13_readMany_26 fG_X13_336 e26 ?_
    refine ww_iconst 29 X (v := (1 : Int32)) dX13_readMany_29 (by decide) ?_
    refine ww_iadd 30 X dX13_readMany_30 ?_
    obtain ⟨M31, e31, h⟩ := bO_some h
    refine ww_putI 31 X dX13_readMany_31 (fP_X13_336 _) e31 ?_
    exact ww_vretE 34 X hQ dX13_readMany_34 h
set_option maxHeartbeats 4000000 in
set_option maxRecDepth 100000 in
theorem wP_X13_readMany {G : mG} {F : Nat} {fv lw : Nat} {rv : Nat → Int32 → Int32 → mM → Option mM} (hrv : ∀ (a0 : Nat) (a1 : Int32) (a2 : Int32) (M M1 : mM) (sz : Nat) (l : Launch) (D : mD) (A : Nat → Prop), rv a0 a1 a2 M = some M1 → mMetV l D G A yX13_readValue cX13_readValue 8 none fv lw 0 0 [.ref a0, .int a1, .int a2] M sz M1 sz) {x : mXT} {sz : Nat} {M0 : mM} (X : mCX G RX13 cX13_readMany 10 none "readMany" (rmX13_readMany fv lw) x) (hQ : mQV x M0 (sz, 0, 0)) {l0 : Nat} {l1 : Int32} {l2 : Int32} {M : mM} (h : P_X13_readMany G F rv l0 l1 l2 M = some M0) : WW x (sz, 0, 0) M 0 [(0, .ref l0), (1, .int l1), (2, .int l2)] [] := by
  unfold P_X13_readMany at h
  refine ww_iload_n 0 X dX13_readMany_0 2 rfl rfl ?_
  refine ww_if_eq 1 9 X dX13_readMany_1 (by decide) (fun q => ?_) (fun q => ?_)
  · replace h := (if_pos q).symm.trans h
    refine ww_bipush 9 X (v := (93 : Int32)) dX13_readMany_9 (by decide) ?_
    exact (wB_X13_readMany_11 hrv X hQ h)
  · replace h := (if_neg q).symm.trans h
    refine ww_bipush 4 X (v := (125 : Int32)) dX13_readMany_4 (by decide) ?_
    refine ww_goto 6 11 X dX13_readMany_6 (by decide) ?_
    exact (wB_X13_readMany_11 hrv X hQ h)
theorem c_X13_readMany {G : mG} {F sz fv lw : Nat} {rv : Nat → Int32 → Int32 → mM → Option mM} {M0 : mM} (hrv : ∀ (a0 : Nat) (a1 : Int32) (a2 : Int32) (M M1 : mM) (sz : Nat) (l : Launch) (D : mD) (A : Nat → Prop), rv a0 a1 a2 M = some M1 → mMetV l D G A yX13_readValue cX13_readValue 8 none fv lw 0 0 [.ref a0, .int a1, .int a2] M sz M1 sz) (l : Launch) (D : mD) (A : Nat → Prop) {l0 : Nat} {l1 : Int32} {l2 : Int32} {M : mM} (h : P_X13_readMany G F rv l0 l1 l2 M = some M0) : mMetV l D G A yX13_readMany cX13_readMany 10 none (fv + 7) (lw + 160) 0 0 [.ref l0, .int l1, .int l2] M sz M0 sz := mMetV_of l D G A (by decide) (Nat.le_of_ble_eq_true rfl) (fun x X hQ => wP_X13_readMany hrv X hQ h)
/-! SealedTokensModel.readValue(II)V -/
theorem dX13_readValue_0 : decode cX13_readValue 0 = .ok (.aload_n 0, 1) := by decide +kernel
theorem dX13_readValue_1 : decode cX13_readValue 1 = .ok (.invokevirtual 351, 3) := by decide +kernel
theorem dX13_readValue_4 : decode cX13_readValue 4 = .ok (.istore_n 3, 1) := by decide +kernel
theorem dX13_readValue_5 : decode cX13_readValue 5 = .ok (.iload_n 3, 1) := by decide +kernel
theorem dX13_readValue_6 : decode cX13_readValue 6 = .ok (.bipush 123, 2) := by decide +kernel
theorem dX13_readValue_8 : decode cX13_readValue 8 = .ok (.if_icmp .eq 46, 3) := by decide +kernel
theorem dX13_readValue_11 : decode cX13_readValue 11 = .ok (.iload_n 3, 1) := by decide +kernel
theorem dX13_readValue_12 : decode cX13_readValue 12 = .ok (.bipush 91, 2) := by decide +kernel
theorem dX13_readValue_14 : decode cX13_readValue 14 = .ok (.if_icmp .eq 40, 3) := by decide +kernel
theorem dX13_readValue_17 : decode cX13_readValue 17 = .ok (.iload_n 3, 1) := by decide +kernel
theorem dX13_readValue_18 : decode cX13_readValue 18 = .ok (.bipush 34, 2) := by decide +kernel
theorem dX13_readValue_20 : decode cX13_readValue 20 = .ok (.if_icmp .eq 34, 3) := by decide +kernel
theorem dX13_readValue_23 : decode cX13_readValue 23 = .ok (.iload_n 3, 1) := by decide +kernel
theorem dX13_readValue_24 : decode cX13_readValue 24 = .ok (.bipush 45, 2) := by decide +kernel
theorem dX13_readValue_26 : decode cX13_readValue 26 = .ok (.if_icmp .eq 28, 3) := by decide +kernel
theorem dX13_readValue_29 : decode cX13_readValue 29 = .ok (.iload_n 3, 1) := by decide +kernel
theorem dX13_readValue_30 : decode cX13_readValue 30 = .ok (.invokestatic 379, 3) := by decide +kernel
theorem dX13_readValue_33 : decode cX13_readValue 33 = .ok (.ifCond .ne 21, 3) := by decide +kernel
theorem dX13_readValue_36 : decode cX13_readValue 36 = .ok (.iload_n 3, 1) := by decide +kernel
theorem dX13_readValue_37 : decode cX13_readValue 37 = .ok (.bipush 116, 2) := by decide +kernel
theorem dX13_readValue_39 : decode cX13_readValue 39 = .ok (.if_icmp .eq 15, 3) := by decide +kernel
theorem dX13_readValue_42 : decode cX13_readValue 42 = .ok (.iload_n 3, 1) := by decide +kernel
theorem dX13_readValue_43 : decode cX13_readValue 43 = .ok (.bipush 102, 2) := by decide +kernel
theorem dX13_readValue_45 : decode cX13_readValue 45 = .ok (.if_icmp .eq 9, 3) := by decide +kernel
theorem dX13_readValue_48 : decode cX13_readValue 48 = .ok (.iload_n 3, 1) := by decide +kernel
theorem dX13_readValue_49 : decode cX13_readValue 49 = .ok (.bipush 110, 2) := by decide +kernel
theorem dX13_readValue_51 : decode cX13_readValue 51 = .ok (.if_icmp .ne 7, 3) := by decide +kernel
theorem dX13_readValue_54 : decode cX13_readValue 54 = .ok (.iconst 1, 1) := by decide +kernel
theorem dX13_readValue_55 : decode cX13_readValue 55 = .ok (.goto 4, 3) := by decide +kernel
theorem dX13_readValue_58 : decode cX13_readValue 58 = .ok (.iconst 0, 1) := by decide +kernel
theorem dX13_readValue_59 : decode cX13_readValue 59 = .ok (.istore 4, 2) := by decide +kernel
theorem dX13_readValue_61 : decode cX13_readValue 61 = .ok (.iload 4, 2) := by decide +kernel
theorem dX13_readValue_63 : decode cX13_readValue 63 = .ok (.ifCond .eq 39, 3) := by decide +kernel
theorem dX13_readValue_66 : decode cX13_readValue 66 = .ok (.aload_n 0, 1) := by decide +kernel
theorem dX13_readValue_67 : decode cX13_readValue 67 = .ok (.getfield 54, 3) := by decide +kernel
theorem dX13_readValue_70 : decode cX13_readValue 70 = .ok (.aload_n 0, 1) := by decide +kernel
theorem dX13_readValue_71 : decode cX13_readValue 71 = .ok (.getfield 355, 3) := by decide +kernel
theorem dX13_readValue_74 : decode cX13_readValue 74 = .ok (.iaload, 1) := by decide +kernel
theorem dX13_readValue_75 : decode cX13_readValue 75 = .ok (.sipush 600, 3) := by decide +kernel
theorem dX13_readValue_78 : decode cX13_readValue 78 = .ok (.if_icmp .eq 24, 3) := by decide +kernel
theorem dX13_readValue_81 : decode cX13_readValue 81 = .ok (.iload_n 3, 1) := by decide +kernel
theorem dX13_readValue_82 : decode cX13_readValue 82 = .ok (.bipush 123, 2) := by decide +kernel
theorem dX13_readValue_84 : decode cX13_readValue 84 = .ok (.if_icmp .eq 9, 3) := by decide +kernel
theorem dX13_readValue_87 : decode cX13_readValue 87 = .ok (.iload_n 3, 1) := by decide +kernel
theorem dX13_readValue_88 : decode cX13_readValue 88 = .ok (.bipush 91, 2) := by decide +kernel
theorem dX13_readValue_90 : decode cX13_readValue 90 = .ok (.if_icmp .ne 21, 3) := by decide +kernel
theorem dX13_readValue_93 : decode cX13_readValue 93 = .ok (.aload_n 0, 1) := by decide +kernel
theorem dX13_readValue_94 : decode cX13_readValue 94 = .ok (.getfield 361, 3) := by decide +kernel
theorem dX13_readValue_97 : decode cX13_readValue 97 = .ok (.bipush 40, 2) := by decide +kernel
theorem dX13_readValue_99 : decode cX13_readValue 99 = .ok (.if_icmp .ne 12, 3) := by decide +kernel
theorem dX13_readValue_102 : decode cX13_readValue 102 = .ok (.aload_n 0, 1) := by decide +kernel
theorem dX13_readValue_103 : decode cX13_readValue 103 = .ok (.aload_n 0, 1) := by decide +kernel
theorem dX13_readValue_104 : decode cX13_readValue 104 = .ok (.getfield 336, 3) := by decide +kernel
theorem dX13_readValue_107 : decode cX13_readValue 107 = .ok (.invokevirtual 375, 3) := by decide +kernel
theorem dX13_readValue_110 : decode cX13_readValue 110 = .ok (.return_, 1) := by decide +kernel
theorem dX13_readValue_111 : decode cX13_readValue 111 = .ok (.sipush 600, 3) := by decide +kernel
theorem dX13_readValue_114 : decode cX13_readValue 114 = .ok (.aload_n 0, 1) := by decide +kernel
theorem dX13_readValue_115 : decode cX13_readValue 115 = .ok (.getfield 355, 3) := by decide +kernel
theorem dX13_readValue_118 : decode cX13_readValue 118 = .ok (.imul, 1) := by decide +kernel
theorem dX13_readValue_119 : decode cX13_readValue 119 = .ok (.aload_n 0, 1) := by decide +kernel
theorem dX13_readValue_120 : decode cX13_readValue 120 = .ok (.getfield 54, 3) := by decide +kernel
theorem dX13_readValue_123 : decode cX13_readValue 123 = .ok (.aload_n 0, 1) := by decide +kernel
theorem dX13_readValue_124 : decode cX13_readValue 124 = .ok (.getfield 355, 3) := by decide +kernel
theorem dX13_readValue_127 : decode cX13_readValue 127 = .ok (.iaload, 1) := by decide +kernel
theorem dX13_readValue_128 : decode cX13_readValue 128 = .ok (.iadd, 1) := by decide +kernel
theorem dX13_readValue_129 : decode cX13_readValue 129 = .ok (.istore 5, 2) := by decide +kernel
theorem dX13_readValue_131 : decode cX13_readValue 131 = .ok (.aload_n 0, 1) := by decide +kernel
theorem dX13_readValue_132 : decode cX13_readValue 132 = .ok (.getfield 54, 3) := by decide +kernel
theorem dX13_readValue_135 : decode cX13_readValue 135 = .ok (.aload_n 0, 1) := by decide +kernel
theorem dX13_readValue_136 : decode cX13_readValue 136 = .ok (.getfield 355, 3) := by decide +kernel
theorem dX13_readValue_139 : decode cX13_readValue 139 = .ok (.dup2, 1) := by decide +kernel
theorem dX13_readValue_140 : decode cX13_readValue 140 = .ok (.iaload, 1) := by decide +kernel
theorem dX13_readValue_141 : decode cX13_readValue 141 = .ok (.iconst 1, 1) := by decide +kernel
theorem dX13_readValue_142 : decode cX13_readValue 142 = .ok (.iadd, 1) := by decide +kernel
theorem dX13_readValue_143 : decode cX13_readValue 143 = .ok (.iastore, 1) := by decide +kernel
theorem dX13_readValue_144 : decode cX13_readValue 144 = .ok (.aload_n 0, 1) := by decide +kernel
theorem dX13_readValue_145 : decode cX13_readValue 145 = .ok (.getfield 27, 3) := by decide +kernel
theorem dX13_readValue_148 : decode cX13_readValue 148 = .ok (.iload 5, 2) := by decide +kernel
theorem dX13_readValue_150 : decode cX13_readValue 150 = .ok (.iload_n 1, 1) := by decide +kernel
theorem dX13_readValue_151 : decode cX13_readValue 151 = .ok (.iastore, 1) := by decide +kernel
theorem dX13_readValue_152 : decode cX13_readValue 152 = .ok (.aload_n 0, 1) := by decide +kernel
theorem dX13_readValue_153 : decode cX13_readValue 153 = .ok (.getfield 30, 3) := by decide +kernel
theorem dX13_readValue_156 : decode cX13_readValue 156 = .ok (.iload 5, 2) := by decide +kernel
theorem dX13_readValue_158 : decode cX13_readValue 158 = .ok (.iload_n 2, 1) := by decide +kernel
theorem dX13_readValue_159 : decode cX13_readValue 159 = .ok (.iastore, 1) := by decide +kernel
theorem dX13_readValue_160 : decode cX13_readValue 160 = .ok (.aload_n 0, 1) := by decide +kernel
theorem dX13_readValue_161 : decode cX13_readValue 161 = .ok (.getfield 33, 3) := by decide +kernel
theorem dX13_readValue_164 : decode cX13_readValue 164 = .ok (.iload 5, 2) := by decide +kernel
theorem dX13_readValue_166 : decode cX13_readValue 166 = .ok (.aload_n 0, 1) := by decide +kernel
theorem dX13_readValue_167 : decode cX13_readValue 167 = .ok (.getfield 336, 3) := by decide +kernel
theorem dX13_readValue_170 : decode cX13_readValue 170 = .ok (.iastore, 1) := by decide +kernel
theorem dX13_readValue_171 : decode cX13_readValue 171 = .ok (.aload_n 0, 1) := by decide +kernel
theorem dX13_readValue_172 : decode cX13_readValue 172 = .ok (.getfield 36, 3) := by decide +kernel
theorem dX13_readValue_175 : decode cX13_readValue 175 = .ok (.iload 5, 2) := by decide +kernel
theorem dX13_readValue_177 : decode cX13_readValue 177 = .ok (.iconst 0, 1) := by decide +kernel
theorem dX13_readValue_178 : decode cX13_readValue 178 = .ok (.iastore, 1) := by decide +kernel
theorem dX13_readValue_179 : decode cX13_readValue 179 = .ok (.aload_n 0, 1) := by decide +kernel
theorem dX13_readValue_180 : decode cX13_readValue 180 = .ok (.getfield 39, 3) := by decide +kernel
theorem dX13_readValue_183 : decode cX13_readValue 183 = .ok (.iload 5, 2) := by decide +kernel
theorem dX13_readValue_185 : decode cX13_readValue 185 = .ok (.aload_n 0, 1) := by decide +kernel
theorem dX13_readValue_186 : decode cX13_readValue 186 = .ok (.getfield 358, 3) := by decide +kernel
theorem dX13_readValue_189 : decode cX13_readValue 189 = .ok (.iastore, 1) := by decide +kernel
theorem dX13_readValue_190 : decode cX13_readValue 190 = .ok (.aload_n 0, 1) := by decide +kernel
theorem dX13_readValue_191 : decode cX13_readValue 191 = .ok (.getfield 42, 3) := by decide +kernel
theorem dX13_readValue_194 : decode cX13_readValue 194 = .ok (.iload 5, 2) := by decide +kernel
theorem dX13_readValue_196 : decode cX13_readValue 196 = .ok (.iconst 0, 1) := by decide +kernel
theorem dX13_readValue_197 : decode cX13_readValue 197 = .ok (.iastore, 1) := by decide +kernel
theorem dX13_readValue_198 : decode cX13_readValue 198 = .ok (.iload_n 1, 1) := by decide +kernel
theorem dX13_readValue_199 : decode cX13_readValue 199 = .ok (.ifCond .ge 11, 3) := by decide +kernel
theorem dX13_readValue_202 : decode cX13_readValue 202 = .ok (.aload_n 0, 1) := by decide +kernel
theorem dX13_readValue_203 : decode cX13_readValue 203 = .ok (.getfield 48, 3) := by decide +kernel
theorem dX13_readValue_206 : decode cX13_readValue 206 = .ok (.iload 5, 2) := by decide +kernel
theorem dX13_readValue_208 : decode cX13_readValue 208 = .ok (.iconst (-1), 1) := by decide +kernel
theorem dX13_readValue_209 : decode cX13_readValue 209 = .ok (.iastore, 1) := by decide +kernel
theorem dX13_readValue_210 : decode cX13_readValue 210 = .ok (.iload_n 3, 1) := by decide +kernel
theorem dX13_readValue_211 : decode cX13_readValue 211 = .ok (.bipush 123, 2) := by decide +kernel
theorem dX13_readValue_213 : decode cX13_readValue 213 = .ok (.if_icmp .eq 9, 3) := by decide +kernel
theorem dX13_readValue_216 : decode cX13_readValue 216 = .ok (.iload_n 3, 1) := by decide +kernel
theorem dX13_readValue_217 : decode cX13_readValue 217 = .ok (.bipush 91, 2) := by decide +kernel
theorem dX13_readValue_219 : decode cX13_readValue 219 = .ok (.if_icmp .ne 72, 3) := by decide +kernel
theorem dX13_readValue_222 : decode cX13_readValue 222 = .ok (.aload_n 0, 1) := by decide +kernel
theorem dX13_readValue_223 : decode cX13_readValue 223 = .ok (.getfield 24, 3) := by decide +kernel
theorem dX13_readValue_226 : decode cX13_readValue 226 = .ok (.iload 5, 2) := by decide +kernel
theorem dX13_readValue_228 : decode cX13_readValue 228 = .ok (.iload_n 3, 1) := by decide +kernel
theorem dX13_readValue_229 : decode cX13_readValue 229 = .ok (.bipush 123, 2) := by decide +kernel
theorem dX13_readValue_231 : decode cX13_readValue 231 = .ok (.if_icmp .ne 8, 3) := by decide +kernel
theorem dX13_readValue_234 : decode cX13_readValue 234 = .ok (.bipush 6, 2) := by decide +kernel
theorem dX13_readValue_236 : decode cX13_readValue 236 = .ok (.goto 4, 3) := by decide +kernel
theorem dX13_readValue_239 : decode cX13_readValue 239 = .ok (.iconst 5, 1) := by decide +kernel
theorem dX13_readValue_240 : decode cX13_readValue 240 = .ok (.iastore, 1) := by decide +kernel
theorem dX13_readValue_241 : decode cX13_readValue 241 = .ok (.aload_n 0, 1) := by decide +kernel
theorem dX13_readValue_242 : decode cX13_readValue 242 = .ok (.dup, 1) := by decide +kernel
theorem dX13_readValue_243 : decode cX13_readValue 243 = .ok (.getfield 361, 3) := by decide +kernel
theorem dX13_readValue_246 : decode cX13_readValue 246 = .ok (.iconst 1, 1) := by decide +kernel
theorem dX13_readValue_247 : decode cX13_readValue 247 = .ok (.iadd, 1) := by decide +kernel
theorem dX13_readValue_248 : decode cX13_readValue 248 = .ok (.putfield 361, 3) := by decide +kernel
theorem dX13_readValue_251 : decode cX13_readValue 251 = .ok (.aload_n 0, 1) := by decide +kernel
theorem dX13_readValue_252 : decode cX13_readValue 252 = .ok (.dup, 1) := by decide +kernel
theorem dX13_readValue_253 : decode cX13_readValue 253 = .ok (.getfield 336, 3) := by decide +kernel
theorem dX13_readValue_256 : decode cX13_readValue 256 = .ok (.iconst 1, 1) := by decide +kernel
theorem dX13_readValue_257 : decode cX13_readValue 257 = .ok (.iadd, 1) := by decide +kernel
theorem dX13_readValue_258 : decode cX13_readValue 258 = .ok (.putfield 336, 3) := by decide +kernel
theorem dX13_readValue_261 : decode cX13_readValue 261 = .ok (.aload_n 0, 1) := by decide +kernel
theorem dX13_readValue_262 : decode cX13_readValue 262 = .ok (.iload 5, 2) := by decide +kernel
theorem dX13_readValue_264 : decode cX13_readValue 264 = .ok (.iload_n 3, 1) := by decide +kernel
theorem dX13_readValue_265 : decode cX13_readValue 265 = .ok (.bipush 123, 2) := by decide +kernel
theorem dX13_readValue_267 : decode cX13_readValue 267 = .ok (.if_icmp .ne 7, 3) := by decide +kernel
theorem dX13_readValue_270 : decode cX13_readValue 270 = .ok (.iconst 1, 1) := by decide +kernel
theorem dX13_readValue_271 : decode cX13_readValue 271 = .ok (.goto 4, 3) := by decide +kernel
theorem dX13_readValue_274 : decode cX13_readValue 274 = .ok (.iconst 0, 1) := by decide +kernel
theorem dX13_readValue_275 : decode cX13_readValue 275 = .ok (.invokevirtual 382, 3) := by decide +kernel
theorem dX13_readValue_278 : decode cX13_readValue 278 = .ok (.aload_n 0, 1) := by decide +kernel
theorem dX13_readValue_279 : decode cX13_readValue 279 = .ok (.dup, 1) := by decide +kernel
theorem dX13_readValue_280 : decode cX13_readValue 280 = .ok (.getfield 361, 3) := by decide +kernel
theorem dX13_readValue_283 : decode cX13_readValue 283 = .ok (.iconst 1, 1) := by decide +kernel
theorem dX13_readValue_284 : decode cX13_readValue 284 = .ok (.isub, 1) := by decide +kernel
theorem dX13_readValue_285 : decode cX13_readValue 285 = .ok (.putfield 361, 3) := by decide +kernel
theorem dX13_readValue_288 : decode cX13_readValue 288 = .ok (.goto 202, 3) := by decide +kernel
theorem dX13_readValue_291 : decode cX13_readValue 291 = .ok (.iload_n 3, 1) := by decide +kernel
theorem dX13_readValue_292 : decode cX13_readValue 292 = .ok (.bipush 34, 2) := by decide +kernel
theorem dX13_readValue_294 : decode cX13_readValue 294 = .ok (.if_icmp .ne 37, 3) := by decide +kernel
theorem dX13_readValue_297 : decode cX13_readValue 297 = .ok (.aload_n 0, 1) := by decide +kernel
theorem dX13_readValue_298 : decode cX13_readValue 298 = .ok (.getfield 24, 3) := by decide +kernel
theorem dX13_readValue_301 : decode cX13_readValue 301 = .ok (.iload 5, 2) := by decide +kernel
theorem dX13_readValue_303 : decode cX13_readValue 303 = .ok (.iconst 4, 1) := by decide +kernel
theorem dX13_readValue_304 : decode cX13_readValue 304 = .ok (.iastore, 1) := by decide +kernel
theorem dX13_readValue_305 : decode cX13_readValue 305 = .ok (.aload_n 0, 1) := by decide +kernel
theorem dX13_readValue_306 : decode cX13_readValue 306 = .ok (.invokevirtual 386, 3) := by decide +kernel
theorem dX13_readValue_309 : decode cX13_readValue 309 = .ok (.aload_n 0, 1) := by decide +kernel
theorem dX13_readValue_310 : decode cX13_readValue 310 = .ok (.getfield 42, 3) := by decide +kernel
theorem dX13_readValue_313 : decode cX13_readValue 313 = .ok (.iload 5, 2) := by decide +kernel
theorem dX13_readValue_315 : decode cX13_readValue 315 = .ok (.aload_n 0, 1) := by decide +kernel
theorem dX13_readValue_316 : decode cX13_readValue 316 = .ok (.getfield 358, 3) := by decide +kernel
theorem dX13_readValue_319 : decode cX13_readValue 319 = .ok (.aload_n 0, 1) := by decide +kernel
theorem dX13_readValue_320 : decode cX13_readValue 320 = .ok (.getfield 39, 3) := by decide +kernel
theorem dX13_readValue_323 : decode cX13_readValue 323 = .ok (.iload 5, 2) := by decide +kernel
theorem dX13_readValue_325 : decode cX13_readValue 325 = .ok (.iaload, 1) := by decide +kernel
theorem dX13_readValue_326 : decode cX13_readValue 326 = .ok (.isub, 1) := by decide +kernel
theorem dX13_readValue_327 : decode cX13_readValue 327 = .ok (.iastore, 1) := by decide +kernel
theorem dX13_readValue_328 : decode cX13_readValue 328 = .ok (.goto 162, 3) := by decide +kernel
theorem dX13_readValue_331 : decode cX13_readValue 331 = .ok (.iload_n 3, 1) := by decide +kernel
theorem dX13_readValue_332 : decode cX13_readValue 332 = .ok (.bipush 116, 2) := by decide +kernel
theorem dX13_readValue_334 : decode cX13_readValue 334 = .ok (.if_icmp .eq 15, 3) := by decide +kernel
theorem dX13_readValue_337 : decode cX13_readValue 337 = .ok (.iload_n 3, 1) := by decide +kernel
theorem dX13_readValue_338 : decode cX13_readValue 338 = .ok (.bipush 102, 2) := by decide +kernel
theorem dX13_readValue_340 : decode cX13_readValue 340 = .ok (.if_icmp .eq 9, 3) := by decide +kernel
theorem dX13_readValue_343 : decode cX13_readValue 343 = .ok (.iload_n 3, 1) := by decide +kernel
theorem dX13_readValue_344 : decode cX13_readValue 344 = .ok (.bipush 110, 2) := by decide +kernel
theorem dX13_readValue_346 : decode cX13_readValue 346 = .ok (.if_icmp .ne 65, 3) := by decide +kernel
theorem dX13_readValue_349 : decode cX13_readValue 349 = .ok (.aload_n 0, 1) := by decide +kernel
theorem dX13_readValue_350 : decode cX13_readValue 350 = .ok (.getfield 24, 3) := by decide +kernel
theorem dX13_readValue_353 : decode cX13_readValue 353 = .ok (.iload 5, 2) := by decide +kernel
theorem dX13_readValue_355 : decode cX13_readValue 355 = .ok (.iload_n 3, 1) := by decide +kernel
theorem dX13_readValue_356 : decode cX13_readValue 356 = .ok (.bipush 116, 2) := by decide +kernel
theorem dX13_readValue_358 : decode cX13_readValue 358 = .ok (.if_icmp .ne 7, 3) := by decide +kernel
theorem dX13_readValue_361 : decode cX13_readValue 361 = .ok (.iconst 2, 1) := by decide +kernel
theorem dX13_readValue_362 : decode cX13_readValue 362 = .ok (.goto 14, 3) := by decide +kernel
theorem dX13_readValue_365 : decode cX13_readValue 365 = .ok (.iload_n 3, 1) := by decide +kernel
theorem dX13_readValue_366 : decode cX13_readValue 366 = .ok (.bipush 102, 2) := by decide +kernel
theorem dX13_readValue_368 : decode cX13_readValue 368 = .ok (.if_icmp .ne 7, 3) := by decide +kernel
theorem dX13_readValue_371 : decode cX13_readValue 371 = .ok (.iconst 1, 1) := by decide +kernel
theorem dX13_readValue_372 : decode cX13_readValue 372 = .ok (.goto 4, 3) := by decide +kernel
theorem dX13_readValue_375 : decode cX13_readValue 375 = .ok (.iconst 0, 1) := by decide +kernel
theorem dX13_readValue_376 : decode cX13_readValue 376 = .ok (.iastore, 1) := by decide +kernel
theorem dX13_readValue_377 : decode cX13_readValue 377 = .ok (.aload_n 0, 1) := by decide +kernel
theorem dX13_readValue_378 : decode cX13_readValue 378 = .ok (.iload_n 3, 1) := by decide +kernel
theorem dX13_readValue_379 : decode cX13_readValue 379 = .ok (.bipush 116, 2) := by decide +kernel
theorem dX13_readValue_381 : decode cX13_readValue 381 = .ok (.if_icmp .ne 9, 3) := by decide +kernel
theorem dX13_readValue_384 : decode cX13_readValue 384 = .ok (.ldc_w 389, 3) := by decide +kernel
theorem dX13_readValue_387 : decode cX13_readValue 387 = .ok (.goto 18, 3) := by decide +kernel
theorem dX13_readValue_390 : decode cX13_readValue 390 = .ok (.iload_n 3, 1) := by decide +kernel
theorem dX13_readValue_391 : decode cX13_readValue 391 = .ok (.bipush 102, 2) := by decide +kernel
theorem dX13_readValue_393 : decode cX13_readValue 393 = .ok (.if_icmp .ne 9, 3) := by decide +kernel
theorem dX13_readValue_396 : decode cX13_readValue 396 = .ok (.ldc_w 391, 3) := by decide +kernel
theorem dX13_readValue_399 : decode cX13_readValue 399 = .ok (.goto 6, 3) := by decide +kernel
theorem dX13_readValue_402 : decode cX13_readValue 402 = .ok (.ldc_w 393, 3) := by decide +kernel
theorem dX13_readValue_405 : decode cX13_readValue 405 = .ok (.invokevirtual 395, 3) := by decide +kernel
theorem dX13_readValue_408 : decode cX13_readValue 408 = .ok (.goto 82, 3) := by decide +kernel
theorem dX13_readValue_411 : decode cX13_readValue 411 = .ok (.aload_n 0, 1) := by decide +kernel
theorem dX13_readValue_412 : decode cX13_readValue 412 = .ok (.getfield 24, 3) := by decide +kernel
theorem dX13_readValue_415 : decode cX13_readValue 415 = .ok (.iload 5, 2) := by decide +kernel
theorem dX13_readValue_417 : decode cX13_readValue 417 = .ok (.iconst 3, 1) := by decide +kernel
theorem dX13_readValue_418 : decode cX13_readValue 418 = .ok (.iastore, 1) := by decide +kernel
theorem dX13_readValue_419 : decode cX13_readValue 419 = .ok (.aload_n 0, 1) := by decide +kernel
theorem dX13_readValue_420 : decode cX13_readValue 420 = .ok (.getfield 336, 3) := by decide +kernel
theorem dX13_readValue_423 : decode cX13_readValue 423 = .ok (.istore 6, 2) := by decide +kernel
theorem dX13_readValue_425 : decode cX13_readValue 425 = .ok (.aload_n 0, 1) := by decide +kernel
theorem dX13_readValue_426 : decode cX13_readValue 426 = .ok (.invokevirtual 399, 3) := by decide +kernel
theorem dX13_readValue_429 : decode cX13_readValue 429 = .ok (.iload 6, 2) := by decide +kernel
theorem dX13_readValue_431 : decode cX13_readValue 431 = .ok (.istore 7, 2) := by decide +kernel
theorem dX13_readValue_433 : decode cX13_readValue 433 = .ok (.iload 7, 2) := by decide +kernel
theorem dX13_readValue_435 : decode cX13_readValue 435 = .ok (.aload_n 0, 1) := by decide +kernel
theorem dX13_readValue_436 : decode cX13_readValue 436 = .ok (.getfield 336, 3) := by decide +kernel
theorem dX13_readValue_439 : decode cX13_readValue 439 = .ok (.if_icmp .ge 32, 3) := by decide +kernel
theorem dX13_readValue_442 : decode cX13_readValue 442 = .ok (.aload_n 0, 1) := by decide +kernel
theorem dX13_readValue_443 : decode cX13_readValue 443 = .ok (.invokevirtual 371, 3) := by decide +kernel
theorem dX13_readValue_446 : decode cX13_readValue 446 = .ok (.ifCond .eq 25, 3) := by decide +kernel
theorem dX13_readValue_449 : decode cX13_readValue 449 = .ok (.aload_n 0, 1) := by decide +kernel
theorem dX13_readValue_450 : decode cX13_readValue 450 = .ok (.aload_n 0, 1) := by decide +kernel
theorem dX13_readValue_451 : decode cX13_readValue 451 = .ok (.getfield 342, 3) := by decide +kernel
theorem dX13_readValue_454 : decode cX13_readValue 454 = .ok (.aload_n 0, 1) := by decide +kernel
theorem dX13_readValue_455 : decode cX13_readValue 455 = .ok (.getfield 345, 3) := by decide +kernel
theorem dX13_readValue_458 : decode cX13_readValue 458 = .ok (.iload 7, 2) := by decide +kernel
theorem dX13_readValue_460 : decode cX13_readValue 460 = .ok (.iadd, 1) := by decide +kernel
theorem dX13_readValue_461 : decode cX13_readValue 461 = .ok (.baload, 1) := by decide +kernel
theorem dX13_readValue_462 : decode cX13_readValue 462 = .ok (.invokevirtual 402, 3) := by decide +kernel
theorem dX13_readValue_465 : decode cX13_readValue 465 = .ok (.iinc 7 1, 3) := by decide +kernel
theorem dX13_readValue_468 : decode cX13_readValue 468 = .ok (.goto (-35), 3) := by decide +kernel
theorem dX13_readValue_471 : decode cX13_readValue 471 = .ok (.aload_n 0, 1) := by decide +kernel
theorem dX13_readValue_472 : decode cX13_readValue 472 = .ok (.getfield 42, 3) := by decide +kernel
theorem dX13_readValue_475 : decode cX13_readValue 475 = .ok (.iload 5, 2) := by decide +kernel
theorem dX13_readValue_477 : decode cX13_readValue 477 = .ok (.aload_n 0, 1) := by decide +kernel
theorem dX13_readValue_478 : decode cX13_readValue 478 = .ok (.getfield 358, 3) := by decide +kernel
theorem dX13_readValue_481 : decode cX13_readValue 481 = .ok (.aload_n 0, 1) := by decide +kernel
theorem dX13_readValue_482 : decode cX13_readValue 482 = .ok (.getfield 39, 3) := by decide +kernel
theorem dX13_readValue_485 : decode cX13_readValue 485 = .ok (.iload 5, 2) := by decide +kernel
theorem dX13_readValue_487 : decode cX13_readValue 487 = .ok (.iaload, 1) := by decide +kernel
theorem dX13_readValue_488 : decode cX13_readValue 488 = .ok (.isub, 1) := by decide +kernel
theorem dX13_readValue_489 : decode cX13_readValue 489 = .ok (.iastore, 1) := by decide +kernel
theorem dX13_readValue_490 : decode cX13_readValue 490 = .ok (.return_, 1) := by decide +kernel
abbrev rmX13_readValue_o (fv lw : Nat) : Room := { frames := fv + 8, cells := 0, slots := 0, locals := lw + 189 }
set_option maxHeartbeats 4000000 in
set_option maxRecDepth 100000 in
theorem wB_X13_readValue_o_433 {G : mG} {F : Nat} {fv lw : Nat} {rv : Nat → Int32 → Int32 → mM → Option mM} (hrv : ∀ (a0 : Nat) (a1 : Int32) (a2 : Int32) (M M1 : mM) (sz : Nat) (l : Launch) (D : mD) (A : Nat → Prop), rv a0 a1 a2 M = some M1 → mMetV l D G A yX13_readValue cX13_readValue 8 none fv lw 0 0 [.ref a0, .int a1, .int a2] M sz M1 sz) {x : mXT} {sz : Nat} {M0 : mM} (X : mCX G RX13 cX13_readValue 8 none "readValue" (rmX13_readValue_o fv lw) x) (hQ : mQV x M0 (sz, 0, 0)) : ∀ (n : Nat) (l0 : Nat) (l5 : Int32) (l7 : Int32) (M : mM), B_X13_readValue_o_433 G F rv n l0 l5 l7 M = some M0 → WW x (sz, 0, 0) M 433 [(0, .ref l0), (5, .int l5), (7, .int l7)] [] := by
  intro n
  induction n with
  | zero =>
    intro l0 l5 l7 M h
    exact nomatch (show (none : Option mM) = some M0 from h)
  | succ n ih =>
    intro l0 l5 l7 M h
    rw [B_X13_readValue_o_433] at h
    refine ww_iload 433 X dX13_readValue_433 2 rfl ?_
    refine ww_aload_n 435 X dX13_readValue_435 0 rfl rfl ?_
    obtain ⟨v436, e436, h⟩ := bO_some h
    refine ww_getI 436 X dX13_readValue_436 fG_X13_336 e436 ?_
    refine ww_icmp_ge 439 471 X dX13_readValue_439 (by decide) (fun q => ?_) (fun q => ?_)
    · replace h := (if_pos q).symm.trans h
      refine ww_aload_n 471 X dX13_readValue_471 0 rfl rfl ?_
      obtain ⟨v472, e472, h⟩ := bO_some h
      refine ww_getR 472 X dX13_readValue_472 fG_X13_42 e472 ?_
      refine ww_iload 475 X dX13_readValue_475 1 rfl ?_
      refine ww_aload_n 477 X dX13_readValue_477 0 rfl rfl ?_
      obtain ⟨v478, e478, h⟩ := bO_some h
      refine ww_getI 478 X dX13_readValue_478 fG_X13_358 e478 ?_
      refine ww_aload_n 481 X dX13_readValue_481 0 rfl rfl ?_
      obtain ⟨v482, e482, h⟩ := bO_some h
      refine ww_getR 482 X dX13_readValue_482 fG_X13_39 e482 ?_
      refine ww_iload 485 X dX13_readValue_485 1 rfl ?_
      obtain ⟨v487, e487, h⟩ := bO_some h
      refine ww_iald 487 X dX13_readValue_487 e487 ?_
      refine ww_isub 488 X dX13_readValue_488 ?_
      obtain ⟨M489, e489, h⟩ := bO_some h
      refine ww_iast 489 X dX13_readValue_489 e489 ?_
      exact ww_vretE 490 X hQ dX13_readValue_490 h
    · replace h := (if_neg q).symm.trans h
      refine ww_aload_n 442 X dX13_readValue_442 0 rfl rfl ?_
      obtain ⟨_, f443, h⟩ := bO_some h
      obtain ⟨v443, M443, e443, h⟩ := bP_some h
      refine ww_callVI0 443 X dX13_readValue_443 mY_X13_good mL_X13_371 (rcv_spec f443) ⟨_, _, rfl⟩ (by decide) (As := []) (rest := []) rfl rfl ⟨by show _ ≤ fv + 8; omega, by show _ ≤ lw + 189; omega⟩ (Nat.le_of_ble_eq_true rfl) (fun l D A => c_X13_good l D A e443) ?_
      refine ww_if_eq 446 471 X dX13_readValue_446 (by decide) (fun q => ?_) (fun q => ?_)
      · replace h := (if_pos q).symm.trans h
        refine ww_aload_n 471 X dX13_readValue_471 0 rfl rfl ?_
        obtain ⟨v472, e472, h⟩ := bO_some h
        refine ww_getR 472 X dX13_readValue_472 fG_X13_42 e472 ?_
        refine ww_iload 475 X dX13_readValue_475 1 rfl ?_
        refine ww_aload_n 477 X dX13_readValue_477 0 rfl rfl ?_
        obtain ⟨v478, e478, h⟩ := bO_some h
        refine ww_getI 478 X dX13_readValue_478 fG_X13_358 e478 ?_
        refine ww_aload_n 481 X dX13_readValue_481 0 rfl rfl ?_
        obtain ⟨v482, e482, h⟩ := bO_some h
        refine ww_getR 482 X dX13_readValue_482 fG_X13_39 e482 ?_
        refine ww_iload 485 X dX13_readValue_485 1 rfl ?_
        obtain ⟨v487, e487, h⟩ := bO_some h
        refine ww_iald 487 X dX13_readValue_487 e487 ?_
        refine ww_isub 488 X dX13_readValue_488 ?_
        obtain ⟨M489, e489, h⟩ := bO_some h
        refine ww_iast 489 X dX13_readValue_489 e489 ?_
        exact ww_vretE 490 X hQ dX13_readValue_490 h
      · replace h := (if_neg q).symm.trans h
        refine ww_aload_n 449 X dX13_readValue_449 0 rfl rfl ?_
        refine ww_aload_n 450 X dX13_readValue_450 0 rfl rfl ?_
        obtain ⟨v451, e451, h⟩ := bO_some h
        refine ww_getR 451 X dX13_readValue_451 fG_X13_342 e451 ?_
        refine ww_aload_n 454 X dX13_readValue_454 0 rfl rfl ?_
        obtain ⟨v455, e455, h⟩ := bO_some h
        refine ww_getI 455 X dX13_readValue_455 fG_X13_345 e455 ?_
        refine ww_iload 458 X dX13_readValue_458 2 rfl ?_
        refine ww_iadd 460 X dX13_readValue_460 ?_
        obtain ⟨v461, e461, h⟩ := bO_some h
        refine ww_bald 461 X dX13_readValue_461 e461 ?_
        obtain ⟨_, f462, h⟩ := bO_some h
        obtain ⟨M462, e462, h⟩ := bO_some h
        refine ww_callVV0 462 X dX13_readValue_462 mY_X13_keep8 mL_X13_402 (rcv_spec f462) ⟨_, _, rfl⟩ (by decide) (As := [.int v461]) (rest := []) rfl rfl ⟨by show _ ≤ fv + 8; omega, by show _ ≤ lw + 189; omega⟩ (Nat.le_of_ble_eq_true rfl) (fun l D A => c_X13_keep8 l D A e462) ?_
        refine ww_iinc 465 X dX13_readValue_465 (lv' := [(0, .ref l0), (5, .int l5), (7, .int (l7 + 1))]) 2 rfl rfl (by decide) [1, 2, 0] rfl ?_
        refine ww_goto 468 433 X dX13_readValue_468 (by decide) ?_
        exact (ih _ _ _ _ h)
set_option maxHeartbeats 4000000 in
set_option maxRecDepth 100000 in
theorem wB_X13_readValue_o_376 {G : mG} {F : Nat} {fv lw : Nat} {rv : Nat → Int32 → Int32 → mM → Option mM} (hrv : ∀ (a0 : Nat) (a1 : Int32) (a2 : Int32) (M M1 : mM) (sz : Nat) (l : Launch) (D : mD) (A : Nat → Prop), rv a0 a1 a2 M = some M1 → mMetV l D G A yX13_readValue cX13_readValue 8 none fv lw 0 0 [.ref a0, .int a1, .int a2] M sz M1 sz) {x : mXT} {sz : Nat} {M0 : mM} (X : mCX G RX13 cX13_readValue 8 none "readValue" (rmX13_readValue_o fv lw) x) (hQ : mQV x M0 (sz, 0, 0)) {l0 : Nat} {l3 : Int32} {sk0 : Nat} {sk1 : Int32} {sk2 : Int32} {M : mM} (h : B_X13_readValue_o_376 G F rv l0 l3 sk0 sk1 sk2 M = some M0) : WW x (sz, 0, 0) M 376 [(0, .ref l0), (3, .int l3)] [.int sk2, .int sk1, .ref sk0] := by
  unfold B_X13_readValue_o_376 at h
  obtain ⟨M376, e376, h⟩ := bO_some h
  refine ww_iast 376 X dX13_readValue_376 e376 ?_
  refine ww_aload_n 377 X dX13_readValue_377 0 rfl rfl ?_
  refine ww_iload_n 378 X dX13_readValue_378 1 rfl rfl ?_
  refine ww_bipush 379 X (v := (116 : Int32)) dX13_readValue_379 (by decide) ?_
  refine ww_icmp_ne 381 390 X dX13_readValue_381 (by decide) (fun q => ?_) (fun q => ?_)
  · replace h := (if_neg q).symm.trans h
    refine ww_iload_n 390 X dX13_readValue_390 1 rfl rfl ?_
    refine ww_bipush 391 X (v := (102 : Int32)) dX13_readValue_391 (by decide) ?_
    refine ww_icmp_ne 393 402 X dX13_readValue_393 (by decide) (fun q => ?_) (fun q => ?_)
    · replace h := (if_neg q).symm.trans h
      refine ww_ldsw 402 X (j := 81) dX13_readValue_402 rfl ?_
      obtain ⟨_, f405, h⟩ := bO_some h
      obtain ⟨M405, e405, h⟩ := bO_some h
      refine ww_callVV0 405 X dX13_readValue_405 mY_X13_word mL_X13_395 (rcv_spec f405) ⟨_, _, rfl⟩ (by decide) (As := [.ref (G.1 81)]) (rest := []) rfl rfl ⟨by show _ ≤ fv + 8; omega, by show _ ≤ lw + 189; omega⟩ (Nat.le_of_ble_eq_true rfl) (fun l D A => c_X13_word l D A e405) ?_
      refine ww_goto 408 490 X dX13_readValue_408 (by decide) ?_
      exact ww_vretE 490 X hQ dX13_readValue_490 h
    · replace h := (if_pos q).symm.trans h
      refine ww_ldsw 396 X (j := 80) dX13_readValue_396 rfl ?_
      refine ww_goto 399 405 X dX13_readValue_399 (by decide) ?_
      obtain ⟨_, f405, h⟩ := bO_some h
      obtain ⟨M405, e405, h⟩ := bO_some h
      refine ww_callVV0 405 X dX13_readValue_405 mY_X13_word mL_X13_395 (rcv_spec f405) ⟨_, _, rfl⟩ (by decide) (As := [.ref (G.1 80)]) (rest := []) rfl rfl ⟨by show _ ≤ fv + 8; omega, by show _ ≤ lw + 189; omega⟩ (Nat.le_of_ble_eq_true rfl) (fun l D A => c_X13_word l D A e405) ?_
      refine ww_goto 408 490 X dX13_readValue_408 (by decide) ?_
      exact ww_vretE 490 X hQ dX13_readValue_490 h
  · replace h := (if_pos q).symm.trans h
    refine ww_ldsw 384 X (j := 79) dX13_readValue_384 rfl ?_
    refine ww_goto 387 405 X dX13_readValue_387 (by decide) ?_
    obtain ⟨_, f405, h⟩ := bO_some h
    obtain ⟨M405, e405, h⟩ := bO_some h
    refine ww_callVV0 405 X dX13_readValue_405 mY_X13_word mL_X13_395 (rcv_spec f405) ⟨_, _, rfl⟩ (by decide) (As := [.ref (G.1 79)]) (rest := []) rfl rfl ⟨by show _ ≤ fv + 8; omega, by show _ ≤ lw + 189; omega⟩ (Nat.le_of_ble_eq_true rfl) (fun l D A => c_X13_word l D A e405) ?_
    refine ww_goto 408 490 X dX13_readValue_408 (by decide) ?_
    exact ww_vretE 490 X hQ dX13_readValue_490 h
set_option maxHeartbeats 4000000 in
set_option maxRecDepth 100000 in
theorem wB_X13_readValue_o_349 {G : mG} {F : Nat} {fv lw : Nat} {rv : Nat → Int32 → Int32 → mM → Option mM} (hrv : ∀ (a0 : Nat) (a1 : Int32) (a2 : Int32) (M M1 : mM) (sz : Nat) (l : Launch) (D : mD) (A : Nat → Prop), rv a0 a1 a2 M = some M1 → mMetV l D G A yX13_readValue cX13_readValue 8 none fv lw 0 0 [.ref a0, .int a1, .int a2] M sz M1 sz) {x : mXT} {sz : Nat} {M0 : mM} (X : mCX G RX13 cX13_readValue 8 none "readValue" (rmX13_readValue_o fv lw) x) (hQ : mQV x M0 (sz, 0, 0)) {l0 : Nat} {l3 : Int32} {l5 : Int32} {M : mM} (h : B_X13_readValue_o_349 G F rv l0 l3 l5 M = some M0) : WW x (sz, 0, 0) M 349 [(0, .ref l0), (3, .int l3), (5, .int l5)] [] := by
  unfold B_X13_readValue_o_349 at h
  refine ww_aload_n 349 X dX13_readValue_349 0 rfl rfl ?_
  obtain ⟨v350, e350, h⟩ := bO_some h
  refine ww_getR 350 X dX13_readValue_350 fG_X13_24 e350 ?_
  refine ww_iload 353 X dX13_readValue_353 2 rfl ?_
  refine ww_iload_n 355 X dX13_readValue_355 1 rfl rfl ?_
  refine ww_bipush 356 X (v := (116 : Int32)) dX13_readValue_356 (by decide) ?_
  refine ww_icmp_ne 358 365 X dX13_readValue_358 (by decide) (fun q => ?_) (fun q => ?_)
  · replace h := (if_neg q).symm.trans h
    refine ww_iload_n 365 X dX13_readValue_365 1 rfl rfl ?_
    refine ww_bipush 366 X (v := (102 : Int32)) dX13_readValue_366 (by decide) ?_
    refine ww_icmp_ne 368 375 X dX13_readValue_368 (by decide) (fun q => ?_) (fun q => ?_)
    · replace h := (if_neg q).symm.trans h
      refine ww_iconst 375 X (v := (0 : Int32)) dX13_readValue_375 (by decide) ?_
      exact ww_sub [0, 1] rfl (wB_X13_readValue_o_376 hrv X hQ h)
    · replace h := (if_pos q).symm.trans h
      refine ww_iconst 371 X (v := (1 : Int32)) dX13_readValue_371 (by decide) ?_
      refine ww_goto 372 376 X dX13_readValue_372 (by decide) ?_
      exact ww_sub [0, 1] rfl (wB_X13_readValue_o_376 hrv X hQ h)
  · replace h := (if_pos q).symm.trans h
    refine ww_iconst 361 X (v := (2 : Int32)) dX13_readValue_361 (by decide) ?_
    refine ww_goto 362 376 X dX13_readValue_362 (by decide) ?_
    exact ww_sub [0, 1] rfl (wB_X13_readValue_o_376 hrv X hQ h)
set_option maxHeartbeats 4000000 in
set_option maxRecDepth 100000 in
theorem wB_X13_readValue_o_240 {G : mG} {F : Nat} {fv lw : Nat} {rv : Nat → Int32 → Int32 → mM → Option mM} (hrv : ∀ (a0 : Nat) (a1 : Int32) (a2 : Int32) (M M1 : mM) (sz : Nat) (l : Launch) (D : mD) (A : Nat → Prop), rv a0 a1 a2 M = some M1 → mMetV l D G A yX13_readValue cX13_readValue 8 none fv lw 0 0 [.ref a0, .int a1, .int a2] M sz M1 sz) {x : mXT} {sz : Nat} {M0 : mM} (X : mCX G RX13 cX13_readValue 8 none "readValue" (rmX13_readValue_o fv lw) x) (hQ : mQV x M0 (sz, 0, 0)) {l0 : Nat} {l3 : Int32} {l5 : Int32} {sk0 : Nat} {sk1 : Int32} {sk2 : Int32} {M : mM} (h : B_X13_readValue_o_240 G F rv l0 l3 l5 sk0 sk1 sk2 M = some M0) : WW x (sz, 0, 0) M 240 [(0, .ref l0), (3, .int l3), (5, .int l5)] [.int sk2, .int sk1, .ref sk0] := by
  unfold B_X13_readValue_o_240 at h
  obtain ⟨M240, e240, h⟩ := bO_some h
  refine ww_iast 240 X dX13_readValue_240 e240 ?_
  refine ww_aload_n 241 X dX13_readValue_241 0 rfl rfl ?_
  refine ww_dup 242 X dX13_readValue_242 rfl ?_
  obtain ⟨v243, e243, h⟩ := bO_some h
  refine ww_getI 243 X dX13_readValue_243 fG_X13_361 e243 ?_
  refine ww_iconst 246 X (v := (1 : Int32)) dX13_readValue_246 (by decide) ?_
  refine ww_iadd 247 X dX13_readValue_247 ?_
  obtain ⟨M248, e248, h⟩ := bO_some h
  refine ww_putI 248 X dX13_readValue_248 (fP_X13_361 _) e248 ?_
  refine ww_aload_n 251 X dX13_readValue_251 0 rfl rfl ?_
  refine ww_dup 252 X dX13_readValue_252 rfl ?_
  obtain ⟨v253, e253, h⟩ := bO_some h
  refine ww_getI 253 X dX13_readValue_253 fG_X13_336 e253 ?_
  refine ww_iconst 256 X (v := (1 : Int32)) dX13_readValue_256 (by decide) ?_
  refine ww_iadd 257 X dX13_readValue_257 ?_
  obtain ⟨M258, e258, h⟩ := bO_some h
  refine ww_putI 258 X dX13_readValue_258 (fP_X13_336 _) e258 ?_
  refine ww_aload_n 261 X dX13_readValue_261 0 rfl rfl ?_
  refine ww_iload 262 X dX13_readValue_262 2 rfl ?_
  refine ww_iload_n 264 X dX13_readValue_264 1 rfl rfl ?_
  refine ww_bipush 265 X (v := (123 : Int32)) dX13_readValue_265 (by decide) ?_
  refine ww_icmp_ne 267 274 X dX13_readValue_267 (by decide) (fun q => ?_) (fun q => ?_)
  · replace h := (if_neg q).symm.trans h
    refine ww_iconst 274 X (v := (0 : Int32)) dX13_readValue_274 (by decide) ?_
    obtain ⟨_, f275, h⟩ := bO_some h
    obtain ⟨M275, e275, h⟩ := bO_some h
    refine ww_callVV0 275 X dX13_readValue_275 mY_X13_readMany mL_X13_382 (rcv_spec f275) ⟨_, _, rfl⟩ (by decide) (As := [.int l5, .int (0 : Int32)]) (rest := []) rfl rfl ⟨by show _ ≤ fv + 8; omega, by show _ ≤ lw + 189; omega⟩ (Nat.le_of_ble_eq_true rfl) (fun l D A => c_X13_readMany hrv l D A e275) ?_
    refine ww_aload_n 278 X dX13_readValue_278 0 rfl rfl ?_
    refine ww_dup 279 X dX13_readValue_279 rfl ?_
    obtain ⟨v280, e280, h⟩ := bO_some h
    refine ww_getI 280 X dX13_readValue_280 fG_X13_361 e280 ?_
    refine ww_iconst 283 X (v := (1 : Int32)) dX13_readValue_283 (by decide) ?_
    refine ww_isub 284 X dX13_readValue_284 ?_
    obtain ⟨M285, e285, h⟩ := bO_some h
    refine ww_putI 285 X dX13_readValue_285 (fP_X13_361 _) e285 ?_
    refine ww_goto 288 490 X dX13_readValue_288 (by decide) ?_
    exact ww_vretE 490 X hQ dX13_readValue_490 h
  · replace h := (if_pos q).symm.trans h
    refine ww_iconst 270 X (v := (1 : Int32)) dX13_readValue_270 (by decide) ?_
    refine ww_goto 271 275 X dX13_readValue_271 (by decide) ?_
    obtain ⟨_, f275, h⟩ := bO_some h
    obtain ⟨M275, e275, h⟩ := bO_some h
    refine ww_callVV0 275 X dX13_readValue_275 mY_X13_readMany mL_X13_382 (rcv_spec f275) ⟨_, _, rfl⟩ (by decide) (As := [.int l5, .int (1 : Int32)]) (rest := []) rfl rfl ⟨by show _ ≤ fv + 8; omega, by show _ ≤ lw + 189; omega⟩ (Nat.le_of_ble_eq_true rfl) (fun l D A => c_X13_readMany hrv l D A e275) ?_
    refine ww_aload_n 278 X dX13_readValue_278 0 rfl rfl ?_
    refine ww_dup 279 X dX13_readValue_279 rfl ?_
    obtain ⟨v280, e280, h⟩ := bO_some h
    refine ww_getI 280 X dX13_readValue_280 fG_X13_361 e280 ?_
    refine ww_iconst 283 X (v := (1 : Int32)) dX13_readValue_283 (by decide) ?_
    refine ww_isub 284 X dX13_readValue_284 ?_
    obtain ⟨M285, e285, h⟩ := bO_some h
    refine ww_putI 285 X dX13_readValue_285 (fP_X13_361 _) e285 ?_
    refine ww_goto 288 490 X dX13_readValue_288 (by decide) ?_
    exact ww_vretE 490 X hQ dX13_readValue_490 h
set_option maxHeartbeats 4000000 in
set_option maxRecDepth 100000 in
theorem wB_X13_readValue_o_210 {G : mG} {F : Nat} {fv lw : Nat} {rv : Nat → Int32 → Int32 → mM → Option mM} (hrv : ∀ (a0 : Nat) (a1 : Int32) (a2 : Int32) (M M1 : mM) (sz : Nat) (l : Launch) (D : mD) (A : Nat → Prop), rv a0 a1 a2 M = some M1 → mMetV l D G A yX13_readValue cX13_readValue 8 none fv lw 0 0 [.ref a0, .int a1, .int a2] M sz M1 sz) {x : mXT} {sz : Nat} {M0 : mM} (X : mCX G RX13 cX13_readValue 8 none "readValue" (rmX13_readValue_o fv lw) x) (hQ : mQV x M0 (sz, 0, 0)) {l0 : Nat} {l3 : Int32} {l5 : Int32} {M : mM} (h : B_X13_readValue_o_210 G F rv l0 l3 l5 M = some M0) : WW x (sz, 0, 0) M 210 [(0, .ref l0), (3, .int l3), (5, .int l5)] [] := by
  unfold B_X13_readValue_o_210 at h
  refine ww_iload_n 210 X dX13_readValue_210 1 rfl rfl ?_
  refine ww_bipush 211 X (v := (123 : Int32)) dX13_readValue_211 (by decide) ?_
  refine ww_icmp_eq 213 222 X dX13_readValue_213 (by decide) (fun q => ?_) (fun q => ?_)
  · replace h := (if_pos q).symm.trans h
    refine ww_aload_n 222 X dX13_readValue_222 0 rfl rfl ?_
    obtain ⟨v223, e223, h⟩ := bO_some h
    refine ww_getR 223 X dX13_readValue_223 fG_X13_24 e223 ?_
    refine ww_iload 226 X dX13_readValue_226 2 rfl ?_
    refine ww_iload_n 228 X dX13_readValue_228 1 rfl rfl ?_
    refine ww_bipush 229 X (v := (123 : Int32)) dX13_readValue_229 (by decide) ?_
    refine ww_icmp_ne 231 239 X dX13_readValue_231 (by decide) (fun q => ?_) (fun q => ?_)
    · replace h := (if_neg q).symm.trans h
      refine ww_iconst 239 X (v := (5 : Int32)) dX13_readValue_239 (by decide) ?_
      exact (wB_X13_readValue_o_240 hrv X hQ h)
    · replace h := (if_pos q).symm.trans h
      refine ww_bipush 234 X (v := (6 : Int32)) dX13_readValue_234 (by decide) ?_
      refine ww_goto 236 240 X dX13_readValue_236 (by decide) ?_
      exact (wB_X13_readValue_o_240 hrv X hQ h)
  · replace h := (if_neg q).symm.trans h
    refine ww_iload_n 216 X dX13_readValue_216 1 rfl rfl ?_
    refine ww_bipush 217 X (v := (91 : Int32)) dX13_readValue_217 (by decide) ?_
    refine ww_icmp_ne 219 291 X dX13_readValue_219 (by decide) (fun q => ?_) (fun q => ?_)
    · replace h := (if_neg q).symm.trans h
      refine ww_iload_n 291 X dX13_readValue_291 1 rfl rfl ?_
      refine ww_bipush 292 X (v := (34 : Int32)) dX13_readValue_292 (by decide) ?_
      refine ww_icmp_ne 294 331 X dX13_readValue_294 (by decide) (fun q => ?_) (fun q => ?_)
      · replace h := (if_neg q).symm.trans h
        refine ww_iload_n 331 X dX13_readValue_331 1 rfl rfl ?_
        refine ww_bipush 332 X (v := (116 : Int32)) dX13_readValue_332 (by decide) ?_
        refine ww_icmp_eq 334 349 X dX13_readValue_334 (by decide) (fun q => ?_) (fun q => ?_)
        · replace h := (if_pos q).symm.trans h
          exact (wB_X13_readValue_o_349 hrv X hQ h)
        · replace h := (if_neg q).symm.trans h
          refine ww_iload_n 337 X dX13_readValue_337 1 rfl rfl ?_
          refine ww_bipush 338 X (v := (102 : Int32)) dX13_readValue_338 (by decide) ?_
          refine ww_icmp_eq 340 349 X dX13_readValue_340 (by decide) (fun q => ?_) (fun q => ?_)
          · replace h := (if_pos q).symm.trans h
            exact (wB_X13_readValue_o_349 hrv X hQ h)
          · replace h := (if_neg q).symm.trans h
            refine ww_iload_n 343 X dX13_readValue_343 1 rfl rfl ?_
            refine ww_bipush 344 X (v := (110 : Int32)) dX13_readValue_344 (by decide) ?_
            refine ww_icmp_ne 346 411 X dX13_readValue_346 (by decide) (fun q => ?_) (fun q => ?_)
            · replace h := (if_neg q).symm.trans h
              refine ww_aload_n 411 X dX13_readValue_411 0 rfl rfl ?_
              obtain ⟨v412, e412, h⟩ := bO_some h
              refine ww_getR 412 X dX13_readValue_412 fG_X13_24 e412 ?_
              refine ww_iload 415 X dX13_readValue_415 2 rfl ?_
              refine ww_iconst 417 X (v := (3 : Int32)) dX13_readValue_417 (by decide) ?_
              obtain ⟨M418, e418, h⟩ := bO_some h
              refine ww_iast 418 X dX13_readValue_418 e418 ?_
              refine ww_aload_n 419 X dX13_readValue_419 0 rfl rfl ?_
              obtain ⟨v420, e420, h⟩ := bO_some h
              refine ww_getI 420 X dX13_readValue_420 fG_X13_336 e420 ?_
              refine ww_istore 423 X dX13_readValue_423 (lv' := [(0, .ref l0), (3, .int l3), (5, .int l5), (6, .int v420)]) (by decide) [1, 2, 3, 0] rfl ?_
              refine ww_aload_n 425 X dX13_readValue_425 0 rfl rfl ?_
              obtain ⟨_, f426, h⟩ := bO_some h
              obtain ⟨M426, e426, h⟩ := bO_some h
              refine ww_callVV0 426 X dX13_readValue_426 mY_X13_number mL_X13_399 (rcv_spec f426) ⟨_, _, rfl⟩ (by decide) (As := []) (rest := []) rfl rfl ⟨by show _ ≤ fv + 8; omega, by show _ ≤ lw + 189; omega⟩ (Nat.le_of_ble_eq_true rfl) (fun l D A => c_X13_number l D A e426) ?_
              refine ww_iload 429 X dX13_readValue_429 3 rfl ?_
              refine ww_istore 431 X dX13_readValue_431 (lv' := [(0, .ref l0), (3, .int l3), (5, .int l5), (6, .int v420), (7, .int v420)]) (by decide) [1, 2, 3, 4, 0] rfl ?_
              exact ww_sub [0, 2, 4] rfl (wB_X13_readValue_o_433 hrv X hQ F _ _ _ _ h)
            · replace h := (if_pos q).symm.trans h
              exact (wB_X13_readValue_o_349 hrv X hQ h)
      · replace h := (if_pos q).symm.trans h
        refine ww_aload_n 297 X dX13_readValue_297 0 rfl rfl ?_
        obtain ⟨v298, e298, h⟩ := bO_some h
        refine ww_getR 298 X dX13_readValue_298 fG_X13_24 e298 ?_
        refine ww_iload 301 X dX13_readValue_301 2 rfl ?_
        refine ww_iconst 303 X (v := (4 : Int32)) dX13_readValue_303 (by decide) ?_
        obtain ⟨M304, e304, h⟩ := bO_some h
        refine ww_iast 304 X dX13_readValue_304 e304 ?_
        refine ww_aload_n 305 X dX13_readValue_305 0 rfl rfl ?_
        obtain ⟨_, f306, h⟩ := bO_some h
        obtain ⟨M306, e306, h⟩ := bO_some h
        refine ww_callVV0 306 X dX13_readValue_306 mY_X13_readString mL_X13_386 (rcv_spec f306) ⟨_, _, rfl⟩ (by decide) (As := []) (rest := []) rfl rfl ⟨by show _ ≤ fv + 8; omega, by show _ ≤ lw + 189; omega⟩ (Nat.le_of_ble_eq_true rfl) (fun l D A => c_X13_readString l D A e306) ?_
        refine ww_aload_n 309 X dX13_readValue_309 0 rfl rfl ?_
        obtain ⟨v310, e310, h⟩ := bO_some h
        refine ww_getR 310 X dX13_readValue_310 fG_X13_42 e310 ?_
        refine ww_iload 313 X dX13_readValue_313 2 rfl ?_
        refine ww_aload_n 315 X dX13_readValue_315 0 rfl rfl ?_
        obtain ⟨v316, e316, h⟩ := bO_some h
        refine ww_getI 316 X dX13_readValue_316 fG_X13_358 e316 ?_
        refine ww_aload_n 319 X dX13_readValue_319 0 rfl rfl ?_
        obtain ⟨v320, e320, h⟩ := bO_some h
        refine ww_getR 320 X dX13_readValue_320 fG_X13_39 e320 ?_
        refine ww_iload 323 X dX13_readValue_323 2 rfl ?_
        obtain ⟨v325, e325, h⟩ := bO_some h
        refine ww_iald 325 X dX13_readValue_325 e325 ?_
        refine ww_isub 326 X dX13_readValue_326 ?_
        obtain ⟨M327, e327, h⟩ := bO_some h
        refine ww_iast 327 X dX13_readValue_327 e327 ?_
        refine ww_goto 328 490 X dX13_readValue_328 (by decide) ?_
        exact ww_vretE 490 X hQ dX13_readValue_490 h
    · replace h := (if_pos q).symm.trans h
      refine ww_aload_n 222 X dX13_readValue_222 0 rfl rfl ?_
      obtain ⟨v223, e223, h⟩ := bO_some h
      refine ww_getR 223 X dX13_readValue_223 fG_X13_24 e223 ?_
      refine ww_iload 226 X dX13_readValue_226 2 rfl ?_
      refine ww_iload_n 228 X dX13_readValue_228 1 rfl rfl ?_
      refine ww_bipush 229 X (v := (123 : Int32)) dX13_readValue_229 (by decide) ?_
      refine ww_icmp_ne 231 239 X dX13_readValue_231 (by decide) (fun q => ?_) (fun q => ?_)
      · replace h := (if_neg q).symm.trans h
        refine ww_iconst 239 X (v := (5 : Int32)) dX13_readValue_239 (by decide) ?_
        exact (wB_X13_readValue_o_240 hrv X hQ h)
      · replace h := (if_pos q).symm.trans h
        refine ww_bipush 234 X (v := (6 : Int32)) dX13_readValue_234 (by decide) ?_
        refine ww_goto 236 240 X dX13_readValue_236 (by decide) ?_
        exact (wB_X13_readValue_o_240 hrv X hQ h)
set_option maxHeartbeats 4000000 in
set_option maxRecDepth 100000 in
theorem wB_X13_readValue_o_111 {G : mG} {F : Nat} {fv lw : Nat} {rv : Nat → Int32 → Int32 → mM → Option mM} (hrv : ∀ (a0 : Nat) (a1 : Int32) (a2 : Int32) (M M1 : mM) (sz : Nat) (l : Launch) (D : mD) (A : Nat → Prop), rv a0 a1 a2 M = some M1 → mMetV l D G A yX13_readValue cX13_readValue 8 none fv lw 0 0 [.ref a0, .int a1, .int a2] M sz M1 sz) {x : mXT} {sz : Nat} {M0 : mM} (X : mCX G RX13 cX13_readValue 8 none "readValue" (rmX13_readValue_o fv lw) x) (hQ : mQV x M0 (sz, 0, 0)) {l0 : Nat} {l1 : Int32} {l2 : Int32} {l3 : Int32} {M : mM} (h : B_X13_readValue_o_111 G F rv l0 l1 l2 l3 M = some M0) : WW x (sz, 0, 0) M 111 [(0, .ref l0), (1, .int l1), (2, .int l2), (3, .int l3)] [] := by
  unfold B_X13_readValue_o_111 at h
  refine ww_sipush 111 X (v := (600 : Int32)) dX13_readValue_111 (by decide) ?_
  refine ww_aload_n 114 X dX13_readValue_114 0 rfl rfl ?_
  obtain ⟨v115, e115, h⟩ := bO_some h
  refine ww_getI 115 X dX13_readValue_115 fG_X13_355 e115 ?_
  refine ww_imul 118 X dX13_readValue_118 ?_
  refine ww_aload_n 119 X dX13_readValue_119 0 rfl rfl ?_
  obtain ⟨v120, e120, h⟩ := bO_some h
  refine ww_getR 120 X dX13_readValue_120 fG_X13_54 e120 ?_
  refine ww_aload_n 123 X dX13_readValue_123 0 rfl rfl ?_
  obtain ⟨v124, e124, h⟩ := bO_some h
  refine ww_getI 124 X dX13_readValue_124 fG_X13_355 e124 ?_
  obtain ⟨v127, e127, h⟩ := bO_some h
  refine ww_iald 127 X dX13_readValue_127 e127 ?_
  refine ww_iadd 128 X dX13_readValue_128 ?_
  refine ww_istore 129 X dX13_readValue_129 (lv' := [(0, .ref l0), (1, .int l1), (2, .int l2), (3, .int l3), (5, .int (((600 : Int32) * v115) + v127))]) (by decide) [1, 2, 3, 4, 0] rfl ?_
  refine ww_aload_n 131 X dX13_readValue_131 0 rfl rfl ?_
  obtain ⟨v132, e132, h⟩ := bO_some h
  refine ww_getR 132 X dX13_readValue_132 fG_X13_54 e132 ?_
  refine ww_aload_n 135 X dX13_readValue_135 0 rfl rfl ?_
  obtain ⟨v136, e136, h⟩ := bO_some h
  refine ww_getI 136 X dX13_readValue_136 fG_X13_355 e136 ?_
  refine ww_dup2_11 139 X dX13_readValue_139 rfl rfl ?_
  obtain ⟨v140, e140, h⟩ := bO_some h
  refine ww_iald 140 X dX13_readValue_140 e140 ?_
  refine ww_iconst 141 X (v := (1 : Int32)) dX13_readValue_141 (by decide) ?_
  refine ww_iadd 142 X dX13_readValue_142 ?_
  obtain ⟨M143, e143, h⟩ := bO_some h
  refine ww_iast 143 X dX13_readValue_143 e143 ?_
  refine ww_aload_n 144 X dX13_readValue_144 0 rfl rfl ?_
  obtain ⟨v145, e145, h⟩ := bO_some h
  refine ww_getR 145 X dX13_readValue_145 fG_X13_27 e145 ?_
  refine ww_iload 148 X dX13_readValue_148 4 rfl ?_
  refine ww_iload_n 150 X dX13_readValue_150 1 rfl rfl ?_
  obtain ⟨M151, e151, h⟩ := bO_some h
  refine ww_iast 151 X dX13_readValue_151 e151 ?_
  refine ww_aload_n 152 X dX13_readValue_152 0 rfl rfl ?_
  obtain ⟨v153, e153, h⟩ := bO_some h
  refine ww_getR 153 X dX13_readValue_153 fG_X13_30 e153 ?_
  refine ww_iload 156 X dX13_readValue_156 4 rfl ?_
  refine ww_iload_n 158 X dX13_readValue_158 2 rfl rfl ?_
  obtain ⟨M159, e159, h⟩ := bO_some h
  refine ww_iast 159 X dX13_readValue_159 e159 ?_
  refine ww_aload_n 160 X dX13_readValue_160 0 rfl rfl ?_
  obtain ⟨v161, e161, h⟩ := bO_some h
  refine ww_getR 161 X dX13_readValue_161 fG_X13_33 e161 ?_
  refine ww_iload 164 X dX13_readValue_164 4 rfl ?_
  refine ww_aload_n 166 X dX13_readValue_166 0 rfl rfl ?_
  obtain ⟨v167, e167, h⟩ := bO_some h
  refine ww_getI 167 X dX13_readValue_167 fG_X13_336 e167 ?_
  obtain ⟨M170, e170, h⟩ := bO_some h
  refine ww_iast 170 X dX13_readValue_170 e170 ?_
  refine ww_aload_n 171 X dX13_readValue_171 0 rfl rfl ?_
  obtain ⟨v172, e172, h⟩ := bO_some h
  refine ww_getR 172 X dX13_readValue_172 fG_X13_36 e172 ?_
  refine ww_iload 175 X dX13_readValue_175 4 rfl ?_
  refine ww_iconst 177 X (v := (0 : Int32)) dX13_readValue_177 (by decide) ?_
  obtain ⟨M178, e178, h⟩ := bO_some h
  refine ww_iast 178 X dX13_readValue_178 e178 ?_
  refine ww_aload_n 179 X dX13_readValue_179 0 rfl rfl ?_
  obtain ⟨v180, e180, h⟩ := bO_some h
  refine ww_getR 180 X dX13_readValue_180 fG_X13_39 e180 ?_
  refine ww_iload 183 X dX13_readValue_183 4 rfl ?_
  refine ww_aload_n 185 X dX13_readValue_185 0 rfl rfl ?_
  obtain ⟨v186, e186, h⟩ := bO_some h
  refine ww_getI 186 X dX13_readValue_186 fG_X13_358 e186 ?_
  obtain ⟨M189, e189, h⟩ := bO_some h
  refine ww_iast 189 X dX13_readValue_189 e189 ?_
  refine ww_aload_n 190 X dX13_readValue_190 0 rfl rfl ?_
  obtain ⟨v191, e191, h⟩ := bO_some h
  refine ww_getR 191 X dX13_readValue_191 fG_X13_42 e191 ?_
  refine ww_iload 194 X dX13_readValue_194 4 rfl ?_
  refine ww_iconst 196 X (v := (0 : Int32)) dX13_readValue_196 (by decide) ?_
  obtain ⟨M197, e197, h⟩ := bO_some h
  refine ww_iast 197 X dX13_readValue_197 e197 ?_
  refine ww_iload_n 198 X dX13_readValue_198 1 rfl rfl ?_
  refine ww_if_ge 199 210 X dX13_readValue_199 (by decide) (fun q => ?_) (fun q => ?_)
  · replace h := (if_pos q).symm.trans h
    exact ww_sub [0, 3, 4] rfl (wB_X13_readValue_o_210 hrv X hQ h)
  · replace h := (if_neg q).symm.trans h
    refine ww_aload_n 202 X dX13_readValue_202 0 rfl rfl ?_
    obtain ⟨v203, e203, h⟩ := bO_some h
    refine ww_getR 203 X dX13_readValue_203 fG_X13_48 e203 ?_
    refine ww_iload 206 X dX13_readValue_206 4 rfl ?_
    refine ww_iconst 208 X (v := (-1 : Int32)) dX13_readValue_208 (by decide) ?_
    obtain ⟨M209, e209, h⟩ := bO_some h
    refine ww_iast 209 X dX13_readValue_209 e209 ?_
    exact ww_sub [0, 3, 4] rfl (wB_X13_readValue_o_210 hrv X hQ h)
set_option maxHeartbeats 4000000 in
set_option maxRecDepth 100000 in
theorem wB_X13_readValue_o_59 {G : mG} {F : Nat} {fv lw : Nat} {rv : Nat → Int32 → Int32 → mM → Option mM} (hrv : ∀ (a0 : Nat) (a1 : Int32) (a2 : Int32) (M M1 : mM) (sz : Nat) (l : Launch) (D : mD) (A : Nat → Prop), rv a0 a1 a2 M = some M1 → mMetV l D G A yX13_readValue cX13_readValue 8 none fv lw 0 0 [.ref a0, .int a1, .int a2] M sz M1 sz) {x : mXT} {sz : Nat} {M0 : mM} (X : mCX G RX13 cX13_readValue 8 none "readValue" (rmX13_readValue_o fv lw) x) (hQ : mQV x M0 (sz, 0, 0)) {l0 : Nat} {l1 : Int32} {l2 : Int32} {l3 : Int32} {sk0 : Int32} {M : mM} (h : B_X13_readValue_o_59 G F rv l0 l1 l2 l3 sk0 M = some M0) : WW x (sz, 0, 0) M 59 [(0, .ref l0), (1, .int l1), (2, .int l2), (3, .int l3)] [.int sk0] := by
  unfold B_X13_readValue_o_59 at h
  refine ww_istore 59 X dX13_readValue_59 (lv' := [(0, .ref l0), (1, .int l1), (2, .int l2), (3, .int l3), (4, .int sk0)]) (by decide) [1, 2, 3, 4, 0] rfl ?_
  refine ww_iload 61 X dX13_readValue_61 4 rfl ?_
  refine ww_if_eq 63 102 X dX13_readValue_63 (by decide) (fun q => ?_) (fun q => ?_)
  · replace h := (if_pos q).symm.trans h
    refine ww_aload_n 102 X dX13_readValue_102 0 rfl rfl ?_
    refine ww_aload_n 103 X dX13_readValue_103 0 rfl rfl ?_
    obtain ⟨v104, e104, h⟩ := bO_some h
    refine ww_getI 104 X dX13_readValue_104 fG_X13_336 e104 ?_
    obtain ⟨_, f107, h⟩ := bO_some h
    obtain ⟨M107, e107, h⟩ := bO_some h
    refine ww_callVV0 107 X dX13_readValue_107 mY_X13_fail mL_X13_375 (rcv_spec f107) ⟨_, _, rfl⟩ (by decide) (As := [.int v104]) (rest := []) rfl rfl ⟨by show _ ≤ fv + 8; omega, by show _ ≤ lw + 189; omega⟩ (Nat.le_of_ble_eq_true rfl) (fun l D A => c_X13_fail l D A e107) ?_
    exact ww_vretE 110 X hQ dX13_readValue_110 h
  · replace h := (if_neg q).symm.trans h
    refine ww_aload_n 66 X dX13_readValue_66 0 rfl rfl ?_
    obtain ⟨v67, e67, h⟩ := bO_some h
    refine ww_getR 67 X dX13_readValue_67 fG_X13_54 e67 ?_
    refine ww_aload_n 70 X dX13_readValue_70 0 rfl rfl ?_
    obtain ⟨v71, e71, h⟩ := bO_some h
    refine ww_getI 71 X dX13_readValue_71 fG_X13_355 e71 ?_
    obtain ⟨v74, e74, h⟩ := bO_some h
    refine ww_iald 74 X dX13_readValue_74 e74 ?_
    refine ww_sipush 75 X (v := (600 : Int32)) dX13_readValue_75 (by decide) ?_
    refine ww_icmp_eq 78 102 X dX13_readValue_78 (by decide) (fun q => ?_) (fun q => ?_)
    · replace h := (if_pos q).symm.trans h
      refine ww_aload_n 102 X dX13_readValue_102 0 rfl rfl ?_
      refine ww_aload_n 103 X dX13_readValue_103 0 rfl rfl ?_
      obtain ⟨v104, e104, h⟩ := bO_some h
      refine ww_getI 104 X dX13_readValue_104 fG_X13_336 e104 ?_
      obtain ⟨_, f107, h⟩ := bO_some h
      obtain ⟨M107, e107, h⟩ := bO_some h
      refine ww_callVV0 107 X dX13_readValue_107 mY_X13_fail mL_X13_375 (rcv_spec f107) ⟨_, _, rfl⟩ (by decide) (As := [.int v104]) (rest := []) rfl rfl ⟨by show _ ≤ fv + 8; omega, by show _ ≤ lw + 189; omega⟩ (Nat.le_of_ble_eq_true rfl) (fun l D A => c_X13_fail l D A e107) ?_
      exact ww_vretE 110 X hQ dX13_readValue_110 h
    · replace h := (if_neg q).symm.trans h
      refine ww_iload_n 81 X dX13_readValue_81 3 rfl rfl ?_
      refine ww_bipush 82 X (v := (123 : Int32)) dX13_readValue_82 (by decide) ?_
      refine ww_icmp_eq 84 93 X dX13_readValue_84 (by decide) (fun q => ?_) (fun q => ?_)
      · replace h := (if_pos q).symm.trans h
        refine ww_aload_n 93 X dX13_readValue_93 0 rfl rfl ?_
        obtain ⟨v94, e94, h⟩ := bO_some h
        refine ww_getI 94 X dX13_readValue_94 fG_X13_361 e94 ?_
        refine ww_bipush 97 X (v := (40 : Int32)) dX13_readValue_97 (by decide) ?_
        refine ww_icmp_ne 99 111 X dX13_readValue_99 (by decide) (fun q => ?_) (fun q => ?_)
        · replace h := (if_neg q).symm.trans h
          exact ww_sub [0, 1, 2, 3] rfl (wB_X13_readValue_o_111 hrv X hQ h)
        · replace h := (if_pos q).symm.trans h
          refine ww_aload_n 102 X dX13_readValue_102 0 rfl rfl ?_
          refine ww_aload_n 103 X dX13_readValue_103 0 rfl rfl ?_
          obtain ⟨v104, e104, h⟩ := bO_some h
          refine ww_getI 104 X dX13_readValue_104 fG_X13_336 e104 ?_
          obtain ⟨_, f107, h⟩ := bO_some h
          obtain ⟨M107, e107, h⟩ := bO_some h
          refine ww_callVV0 107 X dX13_readValue_107 mY_X13_fail mL_X13_375 (rcv_spec f107) ⟨_, _, rfl⟩ (by decide) (As := [.int v104]) (rest := []) rfl rfl ⟨by show _ ≤ fv + 8; omega, by show _ ≤ lw + 189; omega⟩ (Nat.le_of_ble_eq_true rfl) (fun l D A => c_X13_fail l D A e107) ?_
          exact ww_vretE 110 X hQ dX13_readValue_110 h
      · replace h := (if_neg q).symm.trans h
        refine ww_iload_n 87 X dX13_readValue_87 3 rfl rfl ?_
        refine ww_bipush 88 X (v := (91 : Int32)) dX13_readValue_88 (by decide) ?_
        refine ww_icmp_ne 90 111 X dX13_readValue_90 (by decide) (fun q => ?_) (fun q => ?_)
        · replace h := (if_neg q).symm.trans h
          exact ww_sub [0, 1, 2, 3] rfl (wB_X13_readValue_o_111 hrv X hQ h)
        · replace h := (if_pos q).symm.trans h
          refine ww_aload_n 93 X dX13_readValue_93 0 rfl rfl ?_
          obtain ⟨v94, e94, h⟩ := bO_some h
          refine ww_getI 94 X dX13_readValue_94 fG_X13_361 e94 ?_
          refine ww_bipush 97 X (v := (40 : Int32)) dX13_readValue_97 (by decide) ?_
          refine ww_icmp_ne 99 111 X dX13_readValue_99 (by decide) (fun q => ?_) (fun q => ?_)
          · replace h := (if_neg q).symm.trans h
            exact ww_sub [0, 1, 2, 3] rfl (wB_X13_readValue_o_111 hrv X hQ h)
          · replace h := (if_pos q).symm.trans h
            refine ww_aload_n 102 X dX13_readValue_102 0 rfl rfl ?_
            refine ww_aload_n 103 X dX13_readValue_103 0 rfl rfl ?_
            obtain ⟨v104, e104, h⟩ := bO_some h
            refine ww_getI 104 X dX13_readValue_104 fG_X13_336 e104 ?_
            obtain ⟨_, f107, h⟩ := bO_some h
            obtain ⟨M107, e107, h⟩ := bO_some h
            refine ww_callVV0 107 X dX13_readValue_107 mY_X13_fail mL_X13_375 (rcv_spec f107) ⟨_, _, rfl⟩ (by decide) (As := [.int v104]) (rest := []) rfl rfl ⟨by show _ ≤ fv + 8; omega, by show _ ≤ lw + 189; omega⟩ (Nat.le_of_ble_eq_true rfl) (fun l D A => c_X13_fail l D A e107) ?_
            exact ww_vretE 110 X hQ dX13_readValue_110 h
set_option maxHeartbeats 4000000 in
set_option maxRecDepth 100000 in
theorem wP_X13_readValue_o {G : mG} {F : Nat} {fv lw : Nat} {rv : Nat → Int32 → Int32 → mM → Option mM} (hrv : ∀ (a0 : Nat) (a1 : Int32) (a2 : Int32) (M M1 : mM) (sz : Nat) (l : Launch) (D : mD) (A : Nat → Prop), rv a0 a1 a2 M = some M1 → mMetV l D G A yX13_readValue cX13_readValue 8 none fv lw 0 0 [.ref a0, .int a1, .int a2] M sz M1 sz) {x : mXT} {sz : Nat} {M0 : mM} (X : mCX G RX13 cX13_readValue 8 none "readValue" (rmX13_readValue_o fv lw) x) (hQ : mQV x M0 (sz, 0, 0)) {l0 : Nat} {l1 : Int32} {l2 : Int32} {M : mM} (h : P_X13_readValue_o G F rv l0 l1 l2 M = some M0) : WW x (sz, 0, 0) M 0 [(0, .ref l0), (1, .int l1), (2, .int l2)] [] := by
  unfold P_X13_readValue_o at h
  refine ww_aload_n 0 X dX13_readValue_0 0 rfl rfl ?_
  obtain ⟨_, f1, h⟩ := bO_some h
  obtain ⟨v1, M1, e1, h⟩ := bP_some h
  refine ww_callVI0 1 X dX13_readValue_1 mY_X13_at mL_X13_351 (rcv_spec f1) ⟨_, _, rfl⟩ (by decide) (As := []) (rest := []) rfl rfl ⟨by show _ ≤ fv + 8; omega, by show _ ≤ lw + 189; omega⟩ (Nat.le_of_ble_eq_true rfl) (fun l D A => c_X13_at l D A e1) ?_
  refine ww_istore_n 4 X dX13_readValue_4 (lv' := [(0, .ref l0), (1, .int l1), (2, .int l2), (3, .int v1)]) rfl (by decide) [1, 2, 3, 0] rfl ?_
  refine ww_iload_n 5 X dX13_readValue_5 3 rfl rfl ?_
  refine ww_bipush 6 X (v := (123 : Int32)) dX13_readValue_6 (by decide) ?_
  refine ww_icmp_eq 8 54 X dX13_readValue_8 (by decide) (fun q => ?_) (fun q => ?_)
  · replace h := (if_pos q).symm.trans h
    refine ww_iconst 54 X (v := (1 : Int32)) dX13_readValue_54 (by decide) ?_
    refine ww_goto 55 59 X dX13_readValue_55 (by decide) ?_
    exact (wB_X13_readValue_o_59 hrv X hQ h)
  · replace h := (if_neg q).symm.trans h
    refine ww_iload_n 11 X dX13_readValue_11 3 rfl rfl ?_
    refine ww_bipush 12 X (v := (91 : Int32)) dX13_readValue_12 (by decide) ?_
    refine ww_icmp_eq 14 54 X dX13_readValue_14 (by decide) (fun q => ?_) (fun q => ?_)
    · replace h := (if_pos q).symm.trans h
      refine ww_iconst 54 X (v := (1 : Int32)) dX13_readValue_54 (by decide) ?_
      refine ww_goto 55 59 X dX13_readValue_55 (by decide) ?_
      exact (wB_X13_readValue_o_59 hrv X hQ h)
    · replace h := (if_neg q).symm.trans h
      refine ww_iload_n 17 X dX13_readValue_17 3 rfl rfl ?_
      refine ww_bipush 18 X (v := (34 : Int32)) dX13_readValue_18 (by decide) ?_
      refine ww_icmp_eq 20 54 X dX13_readValue_20 (by decide) (fun q => ?_) (fun q => ?_)
      · replace h := (if_pos q).symm.trans h
        refine ww_iconst 54 X (v := (1 : Int32)) dX13_readValue_54 (by decide) ?_
        refine ww_goto 55 59 X dX13_readValue_55 (by decide) ?_
        exact (wB_X13_readValue_o_59 hrv X hQ h)
      · replace h := (if_neg q).symm.trans h
        refine ww_iload_n 23 X dX13_readValue_23 3 rfl rfl ?_
        refine ww_bipush 24 X (v := (45 : Int32)) dX13_readValue_24 (by decide) ?_
        refine ww_icmp_eq 26 54 X dX13_readValue_26 (by decide) (fun q => ?_) (fun q => ?_)
        · replace h := (if_pos q).symm.trans h
          refine ww_iconst 54 X (v := (1 : Int32)) dX13_readValue_54 (by decide) ?_
          refine ww_goto 55 59 X dX13_readValue_55 (by decide) ?_
          exact (wB_X13_readValue_o_59 hrv X hQ h)
        · replace h := (if_neg q).symm.trans h
          refine ww_iload_n 29 X dX13_readValue_29 3 rfl rfl ?_
          obtain ⟨v30, M30, e30, h⟩ := bP_some h
          refine ww_callSI0 30 X dX13_readValue_30 mY_X13_isDigit mL_X13_379 (As := [.int v1]) (rest := []) rfl rfl ⟨by show _ ≤ fv + 8; omega, by show _ ≤ lw + 189; omega⟩ (Nat.le_of_ble_eq_true rfl) (fun l D A => c_X13_isDigit l D A e30) ?_
          refine ww_if_ne 33 54 X dX13_readValue_33 (by decide) (fun q => ?_) (fun q => ?_)
          · replace h := (if_neg q).symm.trans h
            refine ww_iconst 54 X (v := (1 : Int32)) dX13_readValue_54 (by decide) ?_
            refine ww_goto 55 59 X dX13_readValue_55 (by decide) ?_
            exact (wB_X13_readValue_o_59 hrv X hQ h)
          · replace h := (if_pos q).symm.trans h
            refine ww_iload_n 36 X dX13_readValue_36 3 rfl rfl ?_
            refine ww_bipush 37 X (v := (116 : Int32)) dX13_readValue_37 (by decide) ?_
            refine ww_icmp_eq 39 54 X dX13_readValue_39 (by decide) (fun q => ?_) (fun q => ?_)
            · replace h := (if_pos q).symm.trans h
              refine ww_iconst 54 X (v := (1 : Int32)) dX13_readValue_54 (by decide) ?_
              refine ww_goto 55 59 X dX13_readValue_55 (by decide) ?_
              exact (wB_X13_readValue_o_59 hrv X hQ h)
            · replace h := (if_neg q).symm.trans h
              refine ww_iload_n 42 X dX13_readValue_42 3 rfl rfl ?_
              refine ww_bipush 43 X (v := (102 : Int32)) dX13_readValue_43 (by decide) ?_
              refine ww_icmp_eq 45 54 X dX13_readValue_45 (by decide) (fun q => ?_) (fun q => ?_)
              · replace h := (if_pos q).symm.trans h
                refine ww_iconst 54 X (v := (1 : Int32)) dX13_readValue_54 (by decide) ?_
                refine ww_goto 55 59 X dX13_readValue_55 (by decide) ?_
                exact (wB_X13_readValue_o_59 hrv X hQ h)
              · replace h := (if_neg q).symm.trans h
                refine ww_iload_n 48 X dX13_readValue_48 3 rfl rfl ?_
                refine ww_bipush 49 X (v := (110 : Int32)) dX13_readValue_49 (by decide) ?_
                refine ww_icmp_ne 51 58 X dX13_readValue_51 (by decide) (fun q => ?_) (fun q => ?_)
                · replace h := (if_neg q).symm.trans h
                  refine ww_iconst 58 X (v := (0 : Int32)) dX13_readValue_58 (by decide) ?_
                  exact (wB_X13_readValue_o_59 hrv X hQ h)
                · replace h := (if_pos q).symm.trans h
                  refine ww_iconst 54 X (v := (1 : Int32)) dX13_readValue_54 (by decide) ?_
                  refine ww_goto 55 59 X dX13_readValue_55 (by decide) ?_
                  exact (wB_X13_readValue_o_59 hrv X hQ h)
theorem c_X13_readValue_o {G : mG} {F sz fv lw : Nat} {rv : Nat → Int32 → Int32 → mM → Option mM} {M0 : mM} (hrv : ∀ (a0 : Nat) (a1 : Int32) (a2 : Int32) (M M1 : mM) (sz : Nat) (l : Launch) (D : mD) (A : Nat → Prop), rv a0 a1 a2 M = some M1 → mMetV l D G A yX13_readValue cX13_readValue 8 none fv lw 0 0 [.ref a0, .int a1, .int a2] M sz M1 sz) (l : Launch) (D : mD) (A : Nat → Prop) {l0 : Nat} {l1 : Int32} {l2 : Int32} {M : mM} (h : P_X13_readValue_o G F rv l0 l1 l2 M = some M0) : mMetV l D G A yX13_readValue cX13_readValue 8 none (fv + 8) (lw + 189) 0 0 [.ref l0, .int l1, .int l2] M sz M0 sz := mMetV_of l D G A (by decide) (Nat.le_of_ble_eq_true rfl) (fun x X hQ => wP_X13_readValue_o hrv X hQ h)
theorem cD_X13_readValue {G : mG} {F : Nat} : ∀ (d : Nat) (l0 : Nat) (l1 : Int32) (l2 : Int32) (M : mM) (M0 : mM) (sz : Nat) (l : Launch) (D : mD) (A : Nat → Prop), PD_X13_readValue G F d l0 l1 l2 M = some M0 → mMetV l D G A yX13_readValue cX13_readValue 8 none (8 * d) (189 * d) 0 0 [.ref l0, .int l1, .int l2] M sz M0 sz := by
  intro d
  induction d with
  | zero =>
    intro l0 l1 l2 M M0 sz l D A h
    exact nomatch (show (none : Option mM) = some M0 from h)
  | succ d ih =>
    intro l0 l1 l2 M M0 sz l D A h
    rw [PD_X13_readValue] at h
    exact c_X13_readValue_o ih l D A h
theorem c_X13_readValue {G : mG} {F sz : Nat} {M0 : mM} (l : Launch) (D : mD) (A : Nat → Prop) {l0 : Nat} {l1 : Int32} {l2 : Int32} {M : mM} (h : P_X13_readValue G F l0 l1 l2 M = some M0) : mMetV l D G A yX13_readValue cX13_readValue 8 none 360 8505 0 0 [.ref l0, .int l1, .int l2] M sz M0 sz := cD_X13_readValue 45 l0 l1 l2 M M0 sz l D A h
