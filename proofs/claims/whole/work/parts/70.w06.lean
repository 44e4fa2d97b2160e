/-! SealedTokens$Reader.close()Z -/
theorem dX7_close_0 : decode cX7_close 0 = .ok (.aload_n 0, 1) := by decide +kernel
theorem dX7_close_1 : decode cX7_close 1 = .ok (.aload_n 0, 1) := by decide +kernel
theorem dX7_close_2 : decode cX7_close 2 = .ok (.getfield 15, 3) := by decide +kernel
theorem dX7_close_5 : decode cX7_close 5 = .ok (.aload_n 0, 1) := by decide +kernel
theorem dX7_close_6 : decode cX7_close 6 = .ok (.getfield 31, 3) := by decide +kernel
theorem dX7_close_9 : decode cX7_close 9 = .ok (.invokevirtual 78, 3) := by decide +kernel
theorem dX7_close_12 : decode cX7_close 12 = .ok (.ifCond .eq 18, 3) := by decide +kernel
theorem dX7_close_15 : decode cX7_close 15 = .ok (.aload_n 0, 1) := by decide +kernel
theorem dX7_close_16 : decode cX7_close 16 = .ok (.getfield 15, 3) := by decide +kernel
theorem dX7_close_19 : decode cX7_close 19 = .ok (.getfield 81, 3) := by decide +kernel
theorem dX7_close_22 : decode cX7_close 22 = .ok (.aload_n 0, 1) := by decide +kernel
theorem dX7_close_23 : decode cX7_close 23 = .ok (.getfield 31, 3) := by decide +kernel
theorem dX7_close_26 : decode cX7_close 26 = .ok (.iaload, 1) := by decide +kernel
theorem dX7_close_27 : decode cX7_close 27 = .ok (.goto 4, 3) := by decide +kernel
theorem dX7_close_30 : decode cX7_close 30 = .ok (.iconst (-1), 1) := by decide +kernel
theorem dX7_close_31 : decode cX7_close 31 = .ok (.putfield 31, 3) := by decide +kernel
theorem dX7_close_34 : decode cX7_close 34 = .ok (.aload_n 0, 1) := by decide +kernel
theorem dX7_close_35 : decode cX7_close 35 = .ok (.dup, 1) := by decide +kernel
theorem dX7_close_36 : decode cX7_close 36 = .ok (.getfield 34, 3) := by decide +kernel
theorem dX7_close_39 : decode cX7_close 39 = .ok (.iconst 1, 1) := by decide +kernel
theorem dX7_close_40 : decode cX7_close 40 = .ok (.isub, 1) := by decide +kernel
theorem dX7_close_41 : decode cX7_close 41 = .ok (.putfield 34, 3) := by decide +kernel
theorem dX7_close_44 : decode cX7_close 44 = .ok (.aload_n 0, 1) := by decide +kernel
theorem dX7_close_45 : decode cX7_close 45 = .ok (.iconst 5, 1) := by decide +kernel
theorem dX7_close_46 : decode cX7_close 46 = .ok (.invokevirtual 63, 3) := by decide +kernel
theorem dX7_close_49 : decode cX7_close 49 = .ok (.ireturn, 1) := by decide +kernel
abbrev rmX7_close : Room := { frames := 1, cells := 0, slots := 0, locals := 21 }
set_option maxHeartbeats 4000000 in
set_option maxRecDepth 100000 in
theorem wP_X7_close {G : mG} {F : Nat} {x : mXT} {sz : Nat} {r0 : Int32} {M0 : mM} (X : mCX G RX7 cX7_close 1 (some .boolean) "close" rmX7_close x) (hQ : mQI x r0 M0 (sz, 0, 0)) {l0 : Nat} {M : mM} (h : P_X7_close G F l0 M = some (r0, M0)) : WW x (sz, 0, 0) M 0 [(0, .ref l0)] [] := by
  unfold P_X7_close at h
  refine ww_aload_n 0 X dX7_close_0 0 rfl rfl ?_
  refine ww_aload_n 1 X dX7_close_1 0 rfl rfl ?_
  obtain ⟨v2, e2, h⟩ := bO_some h
  refine ww_getR 2 X dX7_close_2 fG_X7_15 e2 ?_
  refine ww_aload_n 5 X dX7_close_5 0 rfl rfl ?_
  obtain ⟨v6, e6, h⟩ := bO_some h
  refine ww_getI 6 X dX7_close_6 fG_X7_31 e6 ?_
  obtain ⟨_, f9, h⟩ := bO_some h
  obtain ⟨v9, M9, e9, h⟩ := bP_some h
  refine ww_callVI0 9 X dX7_close_9 mY_X9_has mL_X7_78 (rcv_spec f9) ⟨_, _, rfl⟩ (by decide) (As := [.int v6]) (rest := [.ref l0]) rfl rfl ⟨Nat.le_of_ble_eq_true rfl, Nat.le_of_ble_eq_true rfl⟩ (Nat.le_of_ble_eq_true rfl) (fun l D A => c_X9_has l D A e9) ?_
  refine ww_if_eq 12 30 X dX7_close_12 (by decide) (fun q => ?_) (fun q => ?_)
  · replace h := (if_pos q).symm.trans h
    refine ww_iconst 30 X (v := (-1 : Int32)) dX7_close_30 (by decide) ?_
    obtain ⟨M31, e31, h⟩ := bO_some h
    refine ww_putI 31 X dX7_close_31 (fP_X7_31 _) e31 ?_
    refine ww_aload_n 34 X dX7_close_34 0 rfl rfl ?_
    refine ww_dup 35 X dX7_close_35 rfl ?_
    obtain ⟨v36, e36, h⟩ := bO_some h
    refine ww_getI 36 X dX7_close_36 fG_X7_34 e36 ?_
    refine ww_iconst 39 X (v := (1 : Int32)) dX7_close_39 (by decide) ?_
    refine ww_isub 40 X dX7_close_40 ?_
    obtain ⟨M41, e41, h⟩ := bO_some h
    refine ww_putI 41 X dX7_close_41 (fP_X7_34 _) e41 ?_
    refine ww_aload_n 44 X dX7_close_44 0 rfl rfl ?_
    refine ww_iconst 45 X (v := (5 : Int32)) dX7_close_45 (by decide) ?_
    obtain ⟨_, f46, h⟩ := bO_some h
    obtain ⟨v46, M46, e46, h⟩ := bP_some h
    refine ww_callVI0 46 X dX7_close_46 mY_X7_goOn mL_X7_63 (rcv_spec f46) ⟨_, _, rfl⟩ (by decide) (As := [.int (5 : Int32)]) (rest := []) rfl rfl ⟨Nat.le_of_ble_eq_true rfl, Nat.le_of_ble_eq_true rfl⟩ (Nat.le_of_ble_eq_true rfl) (fun l D A => c_X7_goOn l D A e46) ?_
    exact ww_zretE 49 X hQ dX7_close_49 h
  · replace h := (if_neg q).symm.trans h
    refine ww_aload_n 15 X dX7_close_15 0 rfl rfl ?_
    obtain ⟨v16, e16, h⟩ := bO_some h
    refine ww_getR 16 X dX7_close_16 fG_X7_15 e16 ?_
    obtain ⟨v19, e19, h⟩ := bO_some h
    refine ww_getR 19 X dX7_close_19 fG_X7_81 e19 ?_
    refine ww_aload_n 22 X dX7_close_22 0 rfl rfl ?_
    obtain ⟨v23, e23, h⟩ := bO_some h
    refine ww_getI 23 X dX7_close_23 fG_X7_31 e23 ?_
    obtain ⟨v26, e26, h⟩ := bO_some h
    refine ww_iald 26 X dX7_close_26 e26 ?_
    refine ww_goto 27 31 X dX7_close_27 (by decide) ?_
    obtain ⟨M31, e31, h⟩ := bO_some h
    refine ww_putI 31 X dX7_close_31 (fP_X7_31 _) e31 ?_
    refine ww_aload_n 34 X dX7_close_34 0 rfl rfl ?_
    refine ww_dup 35 X dX7_close_35 rfl ?_
    obtain ⟨v36, e36, h⟩ := bO_some h
    refine ww_getI 36 X dX7_close_36 fG_X7_34 e36 ?_
    refine ww_iconst 39 X (v := (1 : Int32)) dX7_close_39 (by decide) ?_
    refine ww_isub 40 X dX7_close_40 ?_
    obtain ⟨M41, e41, h⟩ := bO_some h
    refine ww_putI 41 X dX7_close_41 (fP_X7_34 _) e41 ?_
    refine ww_aload_n 44 X dX7_close_44 0 rfl rfl ?_
    refine ww_iconst 45 X (v := (5 : Int32)) dX7_close_45 (by decide) ?_
    obtain ⟨_, f46, h⟩ := bO_some h
    obtain ⟨v46, M46, e46, h⟩ := bP_some h
    refine ww_callVI0 46 X dX7_close_46 mY_X7_goOn mL_X7_63 (rcv_spec f46) ⟨_, _, rfl⟩ (by decide) (As := [.int (5 : Int32)]) (rest := []) rfl rfl ⟨Nat.le_of_ble_eq_true rfl, Nat.le_of_ble_eq_true rfl⟩ (Nat.le_of_ble_eq_true rfl) (fun l D A => c_X7_goOn l D A e46) ?_
    exact ww_zretE 49 X hQ dX7_close_49 h
theorem c_X7_close {G : mG} {F sz : Nat} {r0 : Int32} {M0 : mM} (l : Launch) (D : mD) (A : Nat → Prop) {l0 : Nat} {M : mM} (h : P_X7_close G F l0 M = some (r0, M0)) : mMetI l D G A yX7_close cX7_close 1 (some .boolean) 1 21 0 0 [.ref l0] M sz r0 M0 sz := mMetI_of l D G A (by decide) (Nat.le_of_ble_eq_true rfl) (fun x X hQ => wP_X7_close X hQ h)
/-! SealedTokens$Text.poolSays(IILSealedTokens$Bytes;II)Z -/
theorem dX9_poolSays_0 : decode cX9_poolSays 0 = .ok (.iload_n 2, 1) := by decide +kernel
theorem dX9_poolSays_1 : decode cX9_poolSays 1 = .ok (.iload 5, 2) := by decide +kernel
theorem dX9_poolSays_3 : decode cX9_poolSays 3 = .ok (.if_icmp .ne 23, 3) := by decide +kernel
theorem dX9_poolSays_6 : decode cX9_poolSays 6 = .ok (.aload_n 0, 1) := by decide +kernel
theorem dX9_poolSays_7 : decode cX9_poolSays 7 = .ok (.getfield 44, 3) := by decide +kernel
theorem dX9_poolSays_10 : decode cX9_poolSays 10 = .ok (.iload_n 1, 1) := by decide +kernel
theorem dX9_poolSays_11 : decode cX9_poolSays 11 = .ok (.aload_n 3, 1) := by decide +kernel
theorem dX9_poolSays_12 : decode cX9_poolSays 12 = .ok (.iload 4, 2) := by decide +kernel
theorem dX9_poolSays_14 : decode cX9_poolSays 14 = .ok (.iload 5, 2) := by decide +kernel
theorem dX9_poolSays_16 : decode cX9_poolSays 16 = .ok (.invokestatic 62, 3) := by decide +kernel
theorem dX9_poolSays_19 : decode cX9_poolSays 19 = .ok (.ifCond .ne 7, 3) := by decide +kernel
theorem dX9_poolSays_22 : decode cX9_poolSays 22 = .ok (.iconst 1, 1) := by decide +kernel
theorem dX9_poolSays_23 : decode cX9_poolSays 23 = .ok (.goto 4, 3) := by decide +kernel
theorem dX9_poolSays_26 : decode cX9_poolSays 26 = .ok (.iconst 0, 1) := by decide +kernel
theorem dX9_poolSays_27 : decode cX9_poolSays 27 = .ok (.ireturn, 1) := by decide +kernel
abbrev rmX9_poolSays : Room := { frames := 2, cells := 0, slots := 0, locals := 48 }
set_option maxHeartbeats 4000000 in
set_option maxRecDepth 100000 in
theorem wP_X9_poolSays {G : mG} {F : Nat} {x : mXT} {sz : Nat} {r0 : Int32} {M0 : mM} (X : mCX G RX9 cX9_poolSays 6 (some .boolean) "poolSays" rmX9_poolSays x) (hQ : mQI x r0 M0 (sz, 0, 0)) {l0 : Nat} {l1 : Int32} {l2 : Int32} {l3 : Nat} {l4 : Int32} {l5 : Int32} {M : mM} (h : P_X9_poolSays G F l0 l1 l2 l3 l4 l5 M = some (r0, M0)) : WW x (sz, 0, 0) M 0 [(0, .ref l0), (1, .int l1), (2, .int l2), (3, .ref l3), (4, .int l4), (5, .int l5)] [] := by
  unfold P_X9_poolSays at h
  refine ww_iload_n 0 X dX9_poolSays_0 2 rfl rfl ?_
  refine ww_iload 1 X dX9_poolSays_1 5 rfl ?_
  refine ww_icmp_ne 3 26 X dX9_poolSays_3 (by decide) (fun q => ?_) (fun q => ?_)
  · replace h := (if_neg q).symm.trans h
    refine ww_iconst 26 X (v := (0 : Int32)) dX9_poolSays_26 (by decide) ?_
    exact ww_zretE 27 X hQ dX9_poolSays_27 h
  · replace h := (if_pos q).symm.trans h
    refine ww_aload_n 6 X dX9_poolSays_6 0 rfl rfl ?_
    obtain ⟨v7, e7, h⟩ := bO_some h
    refine ww_getR 7 X dX9_poolSays_7 fG_X9_44 e7 ?_
    refine ww_iload_n 10 X dX9_poolSays_10 1 rfl rfl ?_
    refine ww_aload_n 11 X dX9_poolSays_11 3 rfl rfl ?_
    refine ww_iload 12 X dX9_poolSays_12 4 rfl ?_
    refine ww_iload 14 X dX9_poolSays_14 5 rfl ?_
    obtain ⟨v16, M16, e16, h⟩ := bP_some h
    refine ww_callSI0 16 X dX9_poolSays_16 mY_X0_compare mL_X9_62 (As := [.ref v7, .int l1, .ref l3, .int l4, .int l5]) (rest := []) rfl rfl ⟨Nat.le_of_ble_eq_true rfl, Nat.le_of_ble_eq_true rfl⟩ (Nat.le_of_ble_eq_true rfl) (fun l D A => c_X0_compare l D A e16) ?_
    refine ww_if_ne 19 26 X dX9_poolSays_19 (by decide) (fun q => ?_) (fun q => ?_)
    · replace h := (if_neg q).symm.trans h
      refine ww_iconst 26 X (v := (0 : Int32)) dX9_poolSays_26 (by decide) ?_
      exact ww_zretE 27 X hQ dX9_poolSays_27 h
    · replace h := (if_pos q).symm.trans h
      refine ww_iconst 22 X (v := (1 : Int32)) dX9_poolSays_22 (by decide) ?_
      refine ww_goto 23 27 X dX9_poolSays_23 (by decide) ?_
      exact ww_zretE 27 X hQ dX9_poolSays_27 h
theorem c_X9_poolSays {G : mG} {F sz : Nat} {r0 : Int32} {M0 : mM} (l : Launch) (D : mD) (A : Nat → Prop) {l0 : Nat} {l1 : Int32} {l2 : Int32} {l3 : Nat} {l4 : Int32} {l5 : Int32} {M : mM} (h : P_X9_poolSays G F l0 l1 l2 l3 l4 l5 M = some (r0, M0)) : mMetI l D G A yX9_poolSays cX9_poolSays 6 (some .boolean) 2 48 0 0 [.ref l0, .int l1, .int l2, .ref l3, .int l4, .int l5] M sz r0 M0 sz := mMetI_of l D G A (by decide) (Nat.le_of_ble_eq_true rfl) (fun x X hQ => wP_X9_poolSays X hQ h)
/-! SealedTokens$Text.named(ILSealedTokens$Bytes;II)I -/
theorem dX9_named_0 : decode cX9_named 0 = .ok (.aload_n 0, 1) := by decide +kernel
theorem dX9_named_1 : decode cX9_named 1 = .ok (.iload_n 1, 1) := by decide +kernel
theorem dX9_named_2 : decode cX9_named 2 = .ok (.bipush 6, 2) := by decide +kernel
theorem dX9_named_4 : decode cX9_named 4 = .ok (.invokevirtual 66, 3) := by decide +kernel
theorem dX9_named_7 : decode cX9_named 7 = .ok (.ifCond .ne 5, 3) := by decide +kernel
theorem dX9_named_10 : decode cX9_named 10 = .ok (.iconst (-1), 1) := by decide +kernel
theorem dX9_named_11 : decode cX9_named 11 = .ok (.ireturn, 1) := by decide +kernel
theorem dX9_named_12 : decode cX9_named 12 = .ok (.iload_n 1, 1) := by decide +kernel
theorem dX9_named_13 : decode cX9_named 13 = .ok (.iconst 1, 1) := by decide +kernel
theorem dX9_named_14 : decode cX9_named 14 = .ok (.iadd, 1) := by decide +kernel
theorem dX9_named_15 : decode cX9_named 15 = .ok (.istore 5, 2) := by decide +kernel
theorem dX9_named_17 : decode cX9_named 17 = .ok (.iload 5, 2) := by decide +kernel
theorem dX9_named_19 : decode cX9_named 19 = .ok (.aload_n 0, 1) := by decide +kernel
theorem dX9_named_20 : decode cX9_named 20 = .ok (.getfield 48, 3) := by decide +kernel
theorem dX9_named_23 : decode cX9_named 23 = .ok (.if_icmp .ge 48, 3) := by decide +kernel
theorem dX9_named_26 : decode cX9_named 26 = .ok (.aload_n 0, 1) := by decide +kernel
theorem dX9_named_27 : decode cX9_named 27 = .ok (.getfield 15, 3) := by decide +kernel
theorem dX9_named_30 : decode cX9_named 30 = .ok (.iload 5, 2) := by decide +kernel
theorem dX9_named_32 : decode cX9_named 32 = .ok (.iaload, 1) := by decide +kernel
theorem dX9_named_33 : decode cX9_named 33 = .ok (.iload_n 1, 1) := by decide +kernel
theorem dX9_named_34 : decode cX9_named 34 = .ok (.if_icmp .ne 31, 3) := by decide +kernel
theorem dX9_named_37 : decode cX9_named 37 = .ok (.aload_n 0, 1) := by decide +kernel
theorem dX9_named_38 : decode cX9_named 38 = .ok (.aload_n 0, 1) := by decide +kernel
theorem dX9_named_39 : decode cX9_named 39 = .ok (.getfield 33, 3) := by decide +kernel
theorem dX9_named_42 : decode cX9_named 42 = .ok (.iload 5, 2) := by decide +kernel
theorem dX9_named_44 : decode cX9_named 44 = .ok (.iaload, 1) := by decide +kernel
theorem dX9_named_45 : decode cX9_named 45 = .ok (.aload_n 0, 1) := by decide +kernel
theorem dX9_named_46 : decode cX9_named 46 = .ok (.getfield 36, 3) := by decide +kernel
theorem dX9_named_49 : decode cX9_named 49 = .ok (.iload 5, 2) := by decide +kernel
theorem dX9_named_51 : decode cX9_named 51 = .ok (.iaload, 1) := by decide +kernel
theorem dX9_named_52 : decode cX9_named 52 = .ok (.aload_n 2, 1) := by decide +kernel
theorem dX9_named_53 : decode cX9_named 53 = .ok (.iload_n 3, 1) := by decide +kernel
theorem dX9_named_54 : decode cX9_named 54 = .ok (.iload 4, 2) := by decide +kernel
theorem dX9_named_56 : decode cX9_named 56 = .ok (.invokevirtual 70, 3) := by decide +kernel
theorem dX9_named_59 : decode cX9_named 59 = .ok (.ifCond .eq 6, 3) := by decide +kernel
theorem dX9_named_62 : decode cX9_named 62 = .ok (.iload 5, 2) := by decide +kernel
theorem dX9_named_64 : decode cX9_named 64 = .ok (.ireturn, 1) := by decide +kernel
theorem dX9_named_65 : decode cX9_named 65 = .ok (.iinc 5 1, 3) := by decide +kernel
theorem dX9_named_68 : decode cX9_named 68 = .ok (.goto (-51), 3) := by decide +kernel
theorem dX9_named_71 : decode cX9_named 71 = .ok (.iconst (-1), 1) := by decide +kernel
theorem dX9_named_72 : decode cX9_named 72 = .ok (.ireturn, 1) := by decide +kernel
abbrev rmX9_named : Room := { frames := 3, cells := 0, slots := 0, locals := 73 }
set_option maxHeartbeats 4000000 in
set_option maxRecDepth 100000 in
theorem wB_X9_named_17 {G : mG} {F : Nat} {x : mXT} {sz : Nat} {r0 : Int32} {M0 : mM} (X : mCX G RX9 cX9_named 6 (some .int) "named" rmX9_named x) (hQ : mQI x r0 M0 (sz, 0, 0)) : ∀ (n : Nat) (l0 : Nat) (l1 : Int32) (l2 : Nat) (l3 : Int32) (l4 : Int32) (l5 : Int32) (M : mM), B_X9_named_17 G F n l0 l1 l2 l3 l4 l5 M = some (r0, M0) → WW x (sz, 0, 0) M 17 [(0, .ref l0), (1, .int l1), (2, .ref l2), (3, .int l3), (4, .int l4), (5, .int l5)] [] := by
  intro n
  induction n with
  | zero =>
    intro l0 l1 l2 l3 l4 l5 M h
    exact nomatch (show (none : Option (Int32 × mM)) = some (r0, M0) from h)
  | succ n ih =>
    intro l0 l1 l2 l3 l4 l5 M h
    rw [B_X9_named_17] at h
    refine ww_iload 17 X dX9_named_17 5 rfl ?_
    refine ww_aload_n 19 X dX9_named_19 0 rfl rfl ?_
    obtain ⟨v20, e20, h⟩ := bO_some h
    refine ww_getI 20 X dX9_named_20 fG_X9_48 e20 ?_
    refine ww_icmp_ge 23 71 X dX9_named_23 (by decide) (fun q => ?_) (fun q => ?_)
    · replace h := (if_pos q).symm.trans h
      refine ww_iconst 71 X (v := (-1 : Int32)) dX9_named_71 (by decide) ?_
      exact ww_iretE 72 X hQ dX9_named_72 h
    · replace h := (if_neg q).symm.trans h
      refine ww_aload_n 26 X dX9_named_26 0 rfl rfl ?_
      obtain ⟨v27, e27, h⟩ := bO_some h
      refine ww_getR 27 X dX9_named_27 fG_X9_15 e27 ?_
      refine ww_iload 30 X dX9_named_30 5 rfl ?_
      obtain ⟨v32, e32, h⟩ := bO_some h
      refine ww_iald 32 X dX9_named_32 e32 ?_
      refine ww_iload_n 33 X dX9_named_33 1 rfl rfl ?_
      refine ww_icmp_ne 34 65 X dX9_named_34 (by decide) (fun q => ?_) (fun q => ?_)
      · replace h := (if_neg q).symm.trans h
        refine ww_iinc 65 X dX9_named_65 (lv' := [(0, .ref l0), (1, .int l1), (2, .ref l2), (3, .int l3), (4, .int l4), (5, .int (l5 + 1))]) 5 rfl rfl (by decide) [1, 2, 3, 4, 5, 0] rfl ?_
        refine ww_goto 68 17 X dX9_named_68 (by decide) ?_
        exact (ih _ _ _ _ _ _ _ h)
      · replace h := (if_pos q).symm.trans h
        refine ww_aload_n 37 X dX9_named_37 0 rfl rfl ?_
        refine ww_aload_n 38 X dX9_named_38 0 rfl rfl ?_
        obtain ⟨v39, e39, h⟩ := bO_some h
        refine ww_getR 39 X dX9_named_39 fG_X9_33 e39 ?_
        refine ww_iload 42 X dX9_named_42 5 rfl ?_
        obtain ⟨v44, e44, h⟩ := bO_some h
        refine ww_iald 44 X dX9_named_44 e44 ?_
        refine ww_aload_n 45 X dX9_named_45 0 rfl rfl ?_
        obtain ⟨v46, e46, h⟩ := bO_some h
        refine ww_getR 46 X dX9_named_46 fG_X9_36 e46 ?_
        refine ww_iload 49 X dX9_named_49 5 rfl ?_
        obtain ⟨v51, e51, h⟩ := bO_some h
        refine ww_iald 51 X dX9_named_51 e51 ?_
        refine ww_aload_n 52 X dX9_named_52 2 rfl rfl ?_
        refine ww_iload_n 53 X dX9_named_53 3 rfl rfl ?_
        refine ww_iload 54 X dX9_named_54 4 rfl ?_
        obtain ⟨_, f56, h⟩ := bO_some h
        obtain ⟨v56, M56, e56, h⟩ := bP_some h
        refine ww_callVI0 56 X dX9_named_56 mY_X9_poolSays mL_X9_70 (rcv_spec f56) ⟨_, _, rfl⟩ (by decide) (As := [.int v44, .int v51, .ref l2, .int l3, .int l4]) (rest := []) rfl rfl ⟨Nat.le_of_ble_eq_true rfl, Nat.le_of_ble_eq_true rfl⟩ (Nat.le_of_ble_eq_true rfl) (fun l D A => c_X9_poolSays l D A e56) ?_
        refine ww_if_eq 59 65 X dX9_named_59 (by decide) (fun q => ?_) (fun q => ?_)
        · replace h := (if_pos q).symm.trans h
          refine ww_iinc 65 X dX9_named_65 (lv' := [(0, .ref l0), (1, .int l1), (2, .ref l2), (3, .int l3), (4, .int l4), (5, .int (l5 + 1))]) 5 rfl rfl (by decide) [1, 2, 3, 4, 5, 0] rfl ?_
          refine ww_goto 68 17 X dX9_named_68 (by decide) ?_
          exact (ih _ _ _ _ _ _ _ h)
        · replace h := (if_neg q).symm.trans h
          refine ww_iload 62 X dX9_named_62 5 rfl ?_
          exact ww_iretE 64 X hQ dX9_named_64 h
set_option maxHeartbeats 4000000 in
set_option maxRecDepth 100000 in
theorem wP_X9_named {G : mG} {F : Nat} {x : mXT} {sz : Nat} {r0 : Int32} {M0 : mM} (X : mCX G RX9 cX9_named 6 (some .int) "named" rmX9_named x) (hQ : mQI x r0 M0 (sz, 0, 0)) {l0 : Nat} {l1 : Int32} {l2 : Nat} {l3 : Int32} {l4 : Int32} {M : mM} (h : P_X9_named G F l0 l1 l2 l3 l4 M = some (r0, M0)) : WW x (sz, 0, 0) M 0 [(0, .ref l0), (1, .int l1), (2, .ref l2), (3, .int l3), (4, .int l4)] [] := by
  unfold P_X9_named at h
  refine ww_aload_n 0 X dX9_named_0 0 rfl rfl ?_
  refine ww_iload_n 1 X dX9_named_1 1 rfl rfl ?_
  refine ww_bipush 2 X (v := (6 : Int32)) dX9_named_2 (by decide) ?_
  obtain ⟨_, f4, h⟩ := bO_some h
  obtain ⟨v4, M4, e4, h⟩ := bP_some h
  refine ww_callVI0 4 X dX9_named_4 mY_X9_isKind mL_X9_66 (rcv_spec f4) ⟨_, _, rfl⟩ (by decide) (As := [.int l1, .int (6 : Int32)]) (rest := []) rfl rfl ⟨Nat.le_of_ble_eq_true rfl, Nat.le_of_ble_eq_true rfl⟩ (Nat.le_of_ble_eq_true rfl) (fun l D A => c_X9_isKind l D A e4) ?_
  refine ww_if_ne 7 12 X dX9_named_7 (by decide) (fun q => ?_) (fun q => ?_)
  · replace h := (if_neg q).symm.trans h
    refine ww_iload_n 12 X dX9_named_12 1 rfl rfl ?_
    refine ww_iconst 13 X (v := (1 : Int32)) dX9_named_13 (by decide) ?_
    refine ww_iadd 14 X dX9_named_14 ?_
    refine ww_istore 15 X dX9_named_15 (lv' := [(0, .ref l0), (1, .int l1), (2, .ref l2), (3, .int l3), (4, .int l4), (5, .int (l1 + (1 : Int32)))]) (by decide) [1, 2, 3, 4, 5, 0] rfl ?_
    exact (wB_X9_named_17 X hQ F _ _ _ _ _ _ _ h)
  · replace h := (if_pos q).symm.trans h
    refine ww_iconst 10 X (v := (-1 : Int32)) dX9_named_10 (by decide) ?_
    exact ww_iretE 11 X hQ dX9_named_11 h
theorem c_X9_named {G : mG} {F sz : Nat} {r0 : Int32} {M0 : mM} (l : Launch) (D : mD) (A : Nat → Prop) {l0 : Nat} {l1 : Int32} {l2 : Nat} {l3 : Int32} {l4 : Int32} {M : mM} (h : P_X9_named G F l0 l1 l2 l3 l4 M = some (r0, M0)) : mMetI l D G A yX9_named cX9_named 6 (some .int) 3 73 0 0 [.ref l0, .int l1, .ref l2, .int l3, .int l4] M sz r0 M0 sz := mMetI_of l D G A (by decide) (Nat.le_of_ble_eq_true rfl) (fun x X hQ => wP_X9_named X hQ h)
/-! SealedTokens$Reader.memberName(I)Z -/
theorem dX7_memberName_0 : decode cX7_memberName 0 = .ok (.aload_n 0, 1) := by decide +kernel
theorem dX7_memberName_1 : decode cX7_memberName 1 = .ok (.getfield 24, 3) := by decide +kernel
theorem dX7_memberName_4 : decode cX7_memberName 4 = .ok (.istore_n 2, 1) := by decide +kernel
theorem dX7_memberName_5 : decode cX7_memberName 5 = .ok (.iload_n 1, 1) := by decide +kernel
theorem dX7_memberName_6 : decode cX7_memberName 6 = .ok (.bipush 34, 2) := by decide +kernel
theorem dX7_memberName_8 : decode cX7_memberName 8 = .ok (.if_icmp .eq 12, 3) := by decide +kernel
theorem dX7_memberName_11 : decode cX7_memberName 11 = .ok (.aload_n 0, 1) := by decide +kernel
theorem dX7_memberName_12 : decode cX7_memberName 12 = .ok (.aload_n 0, 1) := by decide +kernel
theorem dX7_memberName_13 : decode cX7_memberName 13 = .ok (.getfield 24, 3) := by decide +kernel
theorem dX7_memberName_16 : decode cX7_memberName 16 = .ok (.invokevirtual 66, 3) := by decide +kernel
theorem dX7_memberName_19 : decode cX7_memberName 19 = .ok (.ireturn, 1) := by decide +kernel
theorem dX7_memberName_20 : decode cX7_memberName 20 = .ok (.aload_n 0, 1) := by decide +kernel
theorem dX7_memberName_21 : decode cX7_memberName 21 = .ok (.aload_n 0, 1) := by decide +kernel
theorem dX7_memberName_22 : decode cX7_memberName 22 = .ok (.getfield 15, 3) := by decide +kernel
theorem dX7_memberName_25 : decode cX7_memberName 25 = .ok (.getfield 88, 3) := by decide +kernel
theorem dX7_memberName_28 : decode cX7_memberName 28 = .ok (.getfield 40, 3) := by decide +kernel
theorem dX7_memberName_31 : decode cX7_memberName 31 = .ok (.putfield 91, 3) := by decide +kernel
theorem dX7_memberName_34 : decode cX7_memberName 34 = .ok (.aload_n 0, 1) := by decide +kernel
theorem dX7_memberName_35 : decode cX7_memberName 35 = .ok (.invokevirtual 94, 3) := by decide +kernel
theorem dX7_memberName_38 : decode cX7_memberName 38 = .ok (.ifCond .ne 5, 3) := by decide +kernel
theorem dX7_memberName_41 : decode cX7_memberName 41 = .ok (.iconst 0, 1) := by decide +kernel
theorem dX7_memberName_42 : decode cX7_memberName 42 = .ok (.ireturn, 1) := by decide +kernel
theorem dX7_memberName_43 : decode cX7_memberName 43 = .ok (.aload_n 0, 1) := by decide +kernel
theorem dX7_memberName_44 : decode cX7_memberName 44 = .ok (.aload_n 0, 1) := by decide +kernel
theorem dX7_memberName_45 : decode cX7_memberName 45 = .ok (.getfield 15, 3) := by decide +kernel
theorem dX7_memberName_48 : decode cX7_memberName 48 = .ok (.getfield 88, 3) := by decide +kernel
theorem dX7_memberName_51 : decode cX7_memberName 51 = .ok (.getfield 40, 3) := by decide +kernel
theorem dX7_memberName_54 : decode cX7_memberName 54 = .ok (.aload_n 0, 1) := by decide +kernel
theorem dX7_memberName_55 : decode cX7_memberName 55 = .ok (.getfield 91, 3) := by decide +kernel
theorem dX7_memberName_58 : decode cX7_memberName 58 = .ok (.isub, 1) := by decide +kernel
theorem dX7_memberName_59 : decode cX7_memberName 59 = .ok (.putfield 97, 3) := by decide +kernel
theorem dX7_memberName_62 : decode cX7_memberName 62 = .ok (.aload_n 0, 1) := by decide +kernel
theorem dX7_memberName_63 : decode cX7_memberName 63 = .ok (.getfield 15, 3) := by decide +kernel
theorem dX7_memberName_66 : decode cX7_memberName 66 = .ok (.aload_n 0, 1) := by decide +kernel
theorem dX7_memberName_67 : decode cX7_memberName 67 = .ok (.getfield 31, 3) := by decide +kernel
theorem dX7_memberName_70 : decode cX7_memberName 70 = .ok (.aload_n 0, 1) := by decide +kernel
theorem dX7_memberName_71 : decode cX7_memberName 71 = .ok (.getfield 15, 3) := by decide +kernel
theorem dX7_memberName_74 : decode cX7_memberName 74 = .ok (.getfield 88, 3) := by decide +kernel
theorem dX7_memberName_77 : decode cX7_memberName 77 = .ok (.aload_n 0, 1) := by decide +kernel
theorem dX7_memberName_78 : decode cX7_memberName 78 = .ok (.getfield 91, 3) := by decide +kernel
theorem dX7_memberName_81 : decode cX7_memberName 81 = .ok (.aload_n 0, 1) := by decide +kernel
theorem dX7_memberName_82 : decode cX7_memberName 82 = .ok (.getfield 97, 3) := by decide +kernel
theorem dX7_memberName_85 : decode cX7_memberName 85 = .ok (.invokevirtual 100, 3) := by decide +kernel
theorem dX7_memberName_88 : decode cX7_memberName 88 = .ok (.iconst (-1), 1) := by decide +kernel
theorem dX7_memberName_89 : decode cX7_memberName 89 = .ok (.if_icmp .eq 9, 3) := by decide +kernel
theorem dX7_memberName_92 : decode cX7_memberName 92 = .ok (.aload_n 0, 1) := by decide +kernel
theorem dX7_memberName_93 : decode cX7_memberName 93 = .ok (.iload_n 2, 1) := by decide +kernel
theorem dX7_memberName_94 : decode cX7_memberName 94 = .ok (.invokevirtual 66, 3) := by decide +kernel
theorem dX7_memberName_97 : decode cX7_memberName 97 = .ok (.ireturn, 1) := by decide +kernel
theorem dX7_memberName_98 : decode cX7_memberName 98 = .ok (.aload_n 0, 1) := by decide +kernel
theorem dX7_memberName_99 : decode cX7_memberName 99 = .ok (.iconst 4, 1) := by decide +kernel
theorem dX7_memberName_100 : decode cX7_memberName 100 = .ok (.putfield 37, 3) := by decide +kernel
theorem dX7_memberName_103 : decode cX7_memberName 103 = .ok (.iconst 1, 1) := by decide +kernel
theorem dX7_memberName_104 : decode cX7_memberName 104 = .ok (.ireturn, 1) := by decide +kernel
abbrev rmX7_memberName : Room := { frames := 7, cells := 0, slots := 0, locals := 153 }
set_option maxHeartbeats 4000000 in
set_option maxRecDepth 100000 in
theorem wP_X7_memberName {G : mG} {F : Nat} {x : mXT} {sz : Nat} {r0 : Int32} {M0 : mM} (X : mCX G RX7 cX7_memberName 3 (some .boolean) "memberName" rmX7_memberName x) (hQ : mQI x r0 M0 (sz, 0, 0)) {l0 : Nat} {l1 : Int32} {M : mM} (h : P_X7_memberName G F l0 l1 M = some (r0, M0)) : WW x (sz, 0, 0) M 0 [(0, .ref l0), (1, .int l1)] [] := by
  unfold P_X7_memberName at h
  refine ww_aload_n 0 X dX7_memberName_0 0 rfl rfl ?_
  obtain ⟨v1, e1, h⟩ := bO_some h
  refine ww_getI 1 X dX7_memberName_1 fG_X7_24 e1 ?_
  refine ww_istore_n 4 X dX7_memberName_4 (lv' := [(0, .ref l0), (1, .int l1), (2, .int v1)]) rfl (by decide) [1, 2, 0] rfl ?_
  refine ww_iload_n 5 X dX7_memberName_5 1 rfl rfl ?_
  refine ww_bipush 6 X (v := (34 : Int32)) dX7_memberName_6 (by decide) ?_
  refine ww_icmp_eq 8 20 X dX7_memberName_8 (by decide) (fun q => ?_) (fun q => ?_)
  · replace h := (if_pos q).symm.trans h
    refine ww_aload_n 20 X dX7_memberName_20 0 rfl rfl ?_
    refine ww_aload_n 21 X dX7_memberName_21 0 rfl rfl ?_
    obtain ⟨v22, e22, h⟩ := bO_some h
    refine ww_getR 22 X dX7_memberName_22 fG_X7_15 e22 ?_
    obtain ⟨v25, e25, h⟩ := bO_some h
    refine ww_getR 25 X dX7_memberName_25 fG_X7_88 e25 ?_
    obtain ⟨v28, e28, h⟩ := bO_some h
    refine ww_getI 28 X dX7_memberName_28 fG_X7_40 e28 ?_
    obtain ⟨M31, e31, h⟩ := bO_some h
    refine ww_putI 31 X dX7_memberName_31 (fP_X7_91 _) e31 ?_
    refine ww_aload_n 34 X dX7_memberName_34 0 rfl rfl ?_
    obtain ⟨_, f35, h⟩ := bO_some h
    obtain ⟨v35, M35, e35, h⟩ := bP_some h
    refine ww_callVI0 35 X dX7_memberName_35 mY_X7_string mL_X7_94 (rcv_spec f35) ⟨_, _, rfl⟩ (by decide) (As := []) (rest := []) rfl rfl ⟨Nat.le_of_ble_eq_true rfl, Nat.le_of_ble_eq_true rfl⟩ (Nat.le_of_ble_eq_true rfl) (fun l D A => c_X7_string l D A e35) ?_
    refine ww_if_ne 38 43 X dX7_memberName_38 (by decide) (fun q => ?_) (fun q => ?_)
    · replace h := (if_neg q).symm.trans h
      refine ww_aload_n 43 X dX7_memberName_43 0 rfl rfl ?_
      refine ww_aload_n 44 X dX7_memberName_44 0 rfl rfl ?_
      obtain ⟨v45, e45, h⟩ := bO_some h
      refine ww_getR 45 X dX7_memberName_45 fG_X7_15 e45 ?_
      obtain ⟨v48, e48, h⟩ := bO_some h
      refine ww_getR 48 X dX7_memberName_48 fG_X7_88 e48 ?_
      obtain ⟨v51, e51, h⟩ := bO_some h
      refine ww_getI 51 X dX7_memberName_51 fG_X7_40 e51 ?_
      refine ww_aload_n 54 X dX7_memberName_54 0 rfl rfl ?_
      obtain ⟨v55, e55, h⟩ := bO_some h
      refine ww_getI 55 X dX7_memberName_55 fG_X7_91 e55 ?_
      refine ww_isub 58 X dX7_memberName_58 ?_
      obtain ⟨M59, e59, h⟩ := bO_some h
      refine ww_putI 59 X dX7_memberName_59 (fP_X7_97 _) e59 ?_
      refine ww_aload_n 62 X dX7_memberName_62 0 rfl rfl ?_
      obtain ⟨v63, e63, h⟩ := bO_some h
      refine ww_getR 63 X dX7_memberName_63 fG_X7_15 e63 ?_
      refine ww_aload_n 66 X dX7_memberName_66 0 rfl rfl ?_
      obtain ⟨v67, e67, h⟩ := bO_some h
      refine ww_getI 67 X dX7_memberName_67 fG_X7_31 e67 ?_
      refine ww_aload_n 70 X dX7_memberName_70 0 rfl rfl ?_
      obtain ⟨v71, e71, h⟩ := bO_some h
      refine ww_getR 71 X dX7_memberName_71 fG_X7_15 e71 ?_
      obtain ⟨v74, e74, h⟩ := bO_some h
      refine ww_getR 74 X dX7_memberName_74 fG_X7_88 e74 ?_
      refine ww_aload_n 77 X dX7_memberName_77 0 rfl rfl ?_
      obtain ⟨v78, e78, h⟩ := bO_some h
      refine ww_getI 78 X dX7_memberName_78 fG_X7_91 e78 ?_
      refine ww_aload_n 81 X dX7_memberName_81 0 rfl rfl ?_
      obtain ⟨v82, e82, h⟩ := bO_some h
      refine ww_getI 82 X dX7_memberName_82 fG_X7_97 e82 ?_
      obtain ⟨_, f85, h⟩ := bO_some h
      obtain ⟨v85, M85, e85, h⟩ := bP_some h
      refine ww_callVI0 85 X dX7_memberName_85 mY_X9_named mL_X7_100 (rcv_spec f85) ⟨_, _, rfl⟩ (by decide) (As := [.int v67, .ref v74, .int v78, .int v82]) (rest := []) rfl rfl ⟨Nat.le_of_ble_eq_true rfl, Nat.le_of_ble_eq_true rfl⟩ (Nat.le_of_ble_eq_true rfl) (fun l D A => c_X9_named l D A e85) ?_
      refine ww_iconst 88 X (v := (-1 : Int32)) dX7_memberName_88 (by decide) ?_
      refine ww_icmp_eq 89 98 X dX7_memberName_89 (by decide) (fun q => ?_) (fun q => ?_)
      · replace h := (if_pos q).symm.trans h
        refine ww_aload_n 98 X dX7_memberName_98 0 rfl rfl ?_
        refine ww_iconst 99 X (v := (4 : Int32)) dX7_memberName_99 (by decide) ?_
        obtain ⟨M100, e100, h⟩ := bO_some h
        refine ww_putI 100 X dX7_memberName_100 (fP_X7_37 _) e100 ?_
        refine ww_iconst 103 X (v := (1 : Int32)) dX7_memberName_103 (by decide) ?_
        exact ww_zretE 104 X hQ dX7_memberName_104 h
      · replace h := (if_neg q).symm.trans h
        refine ww_aload_n 92 X dX7_memberName_92 0 rfl rfl ?_
        refine ww_iload_n 93 X dX7_memberName_93 2 rfl rfl ?_
        obtain ⟨_, f94, h⟩ := bO_some h
        obtain ⟨v94, M94, e94, h⟩ := bP_some h
        refine ww_callVI0 94 X dX7_memberName_94 mY_X7_wrong mL_X7_66 (rcv_spec f94) ⟨_, _, rfl⟩ (by decide) (As := [.int v1]) (rest := []) rfl rfl ⟨Nat.le_of_ble_eq_true rfl, Nat.le_of_ble_eq_true rfl⟩ (Nat.le_of_ble_eq_true rfl) (fun l D A => c_X7_wrong l D A e94) ?_
        exact ww_zretE 97 X hQ dX7_memberName_97 h
    · replace h := (if_pos q).symm.trans h
      refine ww_iconst 41 X (v := (0 : Int32)) dX7_memberName_41 (by decide) ?_
      exact ww_zretE 42 X hQ dX7_memberName_42 h
  · replace h := (if_neg q).symm.trans h
    refine ww_aload_n 11 X dX7_memberName_11 0 rfl rfl ?_
    refine ww_aload_n 12 X dX7_memberName_12 0 rfl rfl ?_
    obtain ⟨v13, e13, h⟩ := bO_some h
    refine ww_getI 13 X dX7_memberName_13 fG_X7_24 e13 ?_
    obtain ⟨_, f16, h⟩ := bO_some h
    obtain ⟨v16, M16, e16, h⟩ := bP_some h
    refine ww_callVI0 16 X dX7_memberName_16 mY_X7_wrong mL_X7_66 (rcv_spec f16) ⟨_, _, rfl⟩ (by decide) (As := [.int v13]) (rest := []) rfl rfl ⟨Nat.le_of_ble_eq_true rfl, Nat.le_of_ble_eq_true rfl⟩ (Nat.le_of_ble_eq_true rfl) (fun l D A => c_X7_wrong l D A e16) ?_
    exact ww_zretE 19 X hQ dX7_memberName_19 h
theorem c_X7_memberName {G : mG} {F sz : Nat} {r0 : Int32} {M0 : mM} (l : Launch) (D : mD) (A : Nat → Prop) {l0 : Nat} {l1 : Int32} {M : mM} (h : P_X7_memberName G F l0 l1 M = some (r0, M0)) : mMetI l D G A yX7_memberName cX7_memberName 3 (some .boolean) 7 153 0 0 [.ref l0, .int l1] M sz r0 M0 sz := mMetI_of l D G A (by decide) (Nat.le_of_ble_eq_true rfl) (fun x X hQ => wP_X7_memberName X hQ h)
/-! SealedTokens$Reader.after(I)Z -/
theorem dX7_after_0 : decode cX7_after 0 = .ok (.aload_n 0, 1) := by decide +kernel
theorem dX7_after_1 : decode cX7_after 1 = .ok (.getfield 15, 3) := by decide +kernel
theorem dX7_after_4 : decode cX7_after 4 = .ok (.aload_n 0, 1) := by decide +kernel
theorem dX7_after_5 : decode cX7_after 5 = .ok (.getfield 31, 3) := by decide +kernel
theorem dX7_after_8 : decode cX7_after 8 = .ok (.invokevirtual 78, 3) := by decide +kernel
theorem dX7_after_11 : decode cX7_after 11 = .ok (.ifCond .ne 12, 3) := by decide +kernel
theorem dX7_after_14 : decode cX7_after 14 = .ok (.aload_n 0, 1) := by decide +kernel
theorem dX7_after_15 : decode cX7_after 15 = .ok (.aload_n 0, 1) := by decide +kernel
theorem dX7_after_16 : decode cX7_after 16 = .ok (.getfield 24, 3) := by decide +kernel
theorem dX7_after_19 : decode cX7_after 19 = .ok (.invokevirtual 66, 3) := by decide +kernel
theorem dX7_after_22 : decode cX7_after 22 = .ok (.ireturn, 1) := by decide +kernel
theorem dX7_after_23 : decode cX7_after 23 = .ok (.aload_n 0, 1) := by decide +kernel
theorem dX7_after_24 : decode cX7_after 24 = .ok (.getfield 15, 3) := by decide +kernel
theorem dX7_after_27 : decode cX7_after 27 = .ok (.getfield 85, 3) := by decide +kernel
theorem dX7_after_30 : decode cX7_after 30 = .ok (.aload_n 0, 1) := by decide +kernel
theorem dX7_after_31 : decode cX7_after 31 = .ok (.getfield 31, 3) := by decide +kernel
theorem dX7_after_34 : decode cX7_after 34 = .ok (.iaload, 1) := by decide +kernel
theorem dX7_after_35 : decode cX7_after 35 = .ok (.bipush 6, 2) := by decide +kernel
theorem dX7_after_37 : decode cX7_after 37 = .ok (.if_icmp .ne 7, 3) := by decide +kernel
theorem dX7_after_40 : decode cX7_after 40 = .ok (.iconst 1, 1) := by decide +kernel
theorem dX7_after_41 : decode cX7_after 41 = .ok (.goto 4, 3) := by decide +kernel
theorem dX7_after_44 : decode cX7_after 44 = .ok (.iconst 0, 1) := by decide +kernel
theorem dX7_after_45 : decode cX7_after 45 = .ok (.istore_n 2, 1) := by decide +kernel
theorem dX7_after_46 : decode cX7_after 46 = .ok (.iload_n 1, 1) := by decide +kernel
theorem dX7_after_47 : decode cX7_after 47 = .ok (.bipush 44, 2) := by decide +kernel
theorem dX7_after_49 : decode cX7_after 49 = .ok (.if_icmp .ne 17, 3) := by decide +kernel
theorem dX7_after_52 : decode cX7_after 52 = .ok (.aload_n 0, 1) := by decide +kernel
theorem dX7_after_53 : decode cX7_after 53 = .ok (.iload_n 2, 1) := by decide +kernel
theorem dX7_after_54 : decode cX7_after 54 = .ok (.ifCond .eq 7, 3) := by decide +kernel
theorem dX7_after_57 : decode cX7_after 57 = .ok (.iconst 2, 1) := by decide +kernel
theorem dX7_after_58 : decode cX7_after 58 = .ok (.goto 4, 3) := by decide +kernel
theorem dX7_after_61 : decode cX7_after 61 = .ok (.iconst 0, 1) := by decide +kernel
theorem dX7_after_62 : decode cX7_after 62 = .ok (.invokevirtual 63, 3) := by decide +kernel
theorem dX7_after_65 : decode cX7_after 65 = .ok (.ireturn, 1) := by decide +kernel
theorem dX7_after_66 : decode cX7_after 66 = .ok (.iload_n 1, 1) := by decide +kernel
theorem dX7_after_67 : decode cX7_after 67 = .ok (.iload_n 2, 1) := by decide +kernel
theorem dX7_after_68 : decode cX7_after 68 = .ok (.ifCond .eq 8, 3) := by decide +kernel
theorem dX7_after_71 : decode cX7_after 71 = .ok (.bipush 125, 2) := by decide +kernel
theorem dX7_after_73 : decode cX7_after 73 = .ok (.goto 5, 3) := by decide +kernel
theorem dX7_after_76 : decode cX7_after 76 = .ok (.bipush 93, 2) := by decide +kernel
theorem dX7_after_78 : decode cX7_after 78 = .ok (.if_icmp .ne 10, 3) := by decide +kernel
theorem dX7_after_81 : decode cX7_after 81 = .ok (.aload_n 0, 1) := by decide +kernel
theorem dX7_after_82 : decode cX7_after 82 = .ok (.invokevirtual 56, 3) := by decide +kernel
theorem dX7_after_85 : decode cX7_after 85 = .ok (.goto 11, 3) := by decide +kernel
theorem dX7_after_88 : decode cX7_after 88 = .ok (.aload_n 0, 1) := by decide +kernel
theorem dX7_after_89 : decode cX7_after 89 = .ok (.aload_n 0, 1) := by decide +kernel
theorem dX7_after_90 : decode cX7_after 90 = .ok (.getfield 24, 3) := by decide +kernel
theorem dX7_after_93 : decode cX7_after 93 = .ok (.invokevirtual 66, 3) := by decide +kernel
theorem dX7_after_96 : decode cX7_after 96 = .ok (.ireturn, 1) := by decide +kernel
abbrev rmX7_after : Room := { frames := 2, cells := 0, slots := 0, locals := 41 }
set_option maxHeartbeats 4000000 in
set_option maxRecDepth 100000 in
theorem wB_X7_after_45 {G : mG} {F : Nat} {x : mXT} {sz : Nat} {r0 : Int32} {M0 : mM} (X : mCX G RX7 cX7_after 3 (some .boolean) "after" rmX7_after x) (hQ : mQI x r0 M0 (sz, 0, 0)) {l0 : Nat} {l1 : Int32} {sk0 : Int32} {M : mM} (h : B_X7_after_45 G F l0 l1 sk0 M = some (r0, M0)) : WW x (sz, 0, 0) M 45 [(0, .ref l0), (1, .int l1)] [.int sk0] := by
  unfold B_X7_after_45 at h
  refine ww_istore_n 45 X dX7_after_45 (lv' := [(0, .ref l0), (1, .int l1), (2, .int sk0)]) rfl (by decide) [1, 2, 0] rfl ?_
  refine ww_iload_n 46 X dX7_after_46 1 rfl rfl ?_
  refine ww_bipush 47 X (v := (44 : Int32)) dX7_after_47 (by decide) ?_
  refine ww_icmp_ne 49 66 X dX7_after_49 (by decide) (fun q => ?_) (fun q => ?_)
  · replace h := (if_neg q).symm.trans h
    refine ww_iload_n 66 X dX7_after_66 1 rfl rfl ?_
    refine ww_iload_n 67 X dX7_after_67 2 rfl rfl ?_
    refine ww_if_eq 68 76 X dX7_after_68 (by decide) (fun q => ?_) (fun q => ?_)
    · replace h := (if_pos q).symm.trans h
      refine ww_bipush 76 X (v := (93 : Int32)) dX7_after_76 (by decide) ?_
      refine ww_icmp_ne 78 88 X dX7_after_78 (by decide) (fun q => ?_) (fun q => ?_)
      · replace h := (if_neg q).symm.trans h
        refine ww_aload_n 88 X dX7_after_88 0 rfl rfl ?_
        refine ww_aload_n 89 X dX7_after_89 0 rfl rfl ?_
        obtain ⟨v90, e90, h⟩ := bO_some h
        refine ww_getI 90 X dX7_after_90 fG_X7_24 e90 ?_
        obtain ⟨_, f93, h⟩ := bO_some h
        obtain ⟨v93, M93, e93, h⟩ := bP_some h
        refine ww_callVI0 93 X dX7_after_93 mY_X7_wrong mL_X7_66 (rcv_spec f93) ⟨_, _, rfl⟩ (by decide) (As := [.int v90]) (rest := []) rfl rfl ⟨Nat.le_of_ble_eq_true rfl, Nat.le_of_ble_eq_true rfl⟩ (Nat.le_of_ble_eq_true rfl) (fun l D A => c_X7_wrong l D A e93) ?_
        exact ww_zretE 96 X hQ dX7_after_96 h
      · replace h := (if_pos q).symm.trans h
        refine ww_aload_n 81 X dX7_after_81 0 rfl rfl ?_
        obtain ⟨_, f82, h⟩ := bO_some h
        obtain ⟨v82, M82, e82, h⟩ := bP_some h
        refine ww_callVI0 82 X dX7_after_82 mY_X7_close mL_X7_56 (rcv_spec f82) ⟨_, _, rfl⟩ (by decide) (As := []) (rest := []) rfl rfl ⟨Nat.le_of_ble_eq_true rfl, Nat.le_of_ble_eq_true rfl⟩ (Nat.le_of_ble_eq_true rfl) (fun l D A => c_X7_close l D A e82) ?_
        refine ww_goto 85 96 X dX7_after_85 (by decide) ?_
        exact ww_zretE 96 X hQ dX7_after_96 h
    · replace h := (if_neg q).symm.trans h
      refine ww_bipush 71 X (v := (125 : Int32)) dX7_after_71 (by decide) ?_
      refine ww_goto 73 78 X dX7_after_73 (by decide) ?_
      refine ww_icmp_ne 78 88 X dX7_after_78 (by decide) (fun q => ?_) (fun q => ?_)
      · replace h := (if_neg q).symm.trans h
        refine ww_aload_n 88 X dX7_after_88 0 rfl rfl ?_
        refine ww_aload_n 89 X dX7_after_89 0 rfl rfl ?_
        obtain ⟨v90, e90, h⟩ := bO_some h
        refine ww_getI 90 X dX7_after_90 fG_X7_24 e90 ?_
        obtain ⟨_, f93, h⟩ := bO_some h
        obtain ⟨v93, M93, e93, h⟩ := bP_some h
        refine ww_callVI0 93 X dX7_after_93 mY_X7_wrong mL_X7_66 (rcv_spec f93) ⟨_, _, rfl⟩ (by decide) (As := [.int v90]) (rest := []) rfl rfl ⟨Nat.le_of_ble_eq_true rfl, Nat.le_of_ble_eq_true rfl⟩ (Nat.le_of_ble_eq_true rfl) (fun l D A => c_X7_wrong l D A e93) ?_
        exact ww_zretE 96 X hQ dX7_after_96 h
      · replace h := (if_pos q).symm.trans h
        refine ww_aload_n 81 X dX7_after_81 0 rfl rfl ?_
        obtain ⟨_, f82, h⟩ := bO_some h
        obtain ⟨v82, M82, e82, h⟩ := bP_some h
        refine ww_callVI0 82 X dX7_after_82 mY_X7_close mL_X7_56 (rcv_spec f82) ⟨_, _, rfl⟩ (by decide) (As := []) (rest := []) rfl rfl ⟨Nat.le_of_ble_eq_true rfl, Nat.le_of_ble_eq_true rfl⟩ (Nat.le_of_ble_eq_true rfl) (fun l D A => c_X7_close l D A e82) ?_
        refine ww_goto 85 96 X dX7_after_85 (by decide) ?_
        exact ww_zretE 96 X hQ dX7_after_96 h
  · replace h := (if_pos q).symm.trans h
    refine ww_aload_n 52 X dX7_after_52 0 rfl rfl ?_
    refine ww_iload_n 53 X dX7_after_53 2 rfl rfl ?_
    refine ww_if_eq 54 61 X dX7_after_54 (by decide) (fun q => ?_) (fun q => ?_)
    · replace h := (if_pos q).symm.trans h
      refine ww_iconst 61 X (v := (0 : Int32)) dX7_after_61 (by decide) ?_
      obtain ⟨_, f62, h⟩ := bO_some h
      obtain ⟨v62, M62, e62, h⟩ := bP_some h
      refine ww_callVI0 62 X dX7_after_62 mY_X7_goOn mL_X7_63 (rcv_spec f62) ⟨_, _, rfl⟩ (by decide) (As := [.int (0 : Int32)]) (rest := []) rfl rfl ⟨Nat.le_of_ble_eq_true rfl, Nat.le_of_ble_eq_true rfl⟩ (Nat.le_of_ble_eq_true rfl) (fun l D A => c_X7_goOn l D A e62) ?_
      exact ww_zretE 65 X hQ dX7_after_65 h
    · replace h := (if_neg q).symm.trans h
      refine ww_iconst 57 X (v := (2 : Int32)) dX7_after_57 (by decide) ?_
      refine ww_goto 58 62 X dX7_after_58 (by decide) ?_
      obtain ⟨_, f62, h⟩ := bO_some h
      obtain ⟨v62, M62, e62, h⟩ := bP_some h
      refine ww_callVI0 62 X dX7_after_62 mY_X7_goOn mL_X7_63 (rcv_spec f62) ⟨_, _, rfl⟩ (by decide) (As := [.int (2 : Int32)]) (rest := []) rfl rfl ⟨Nat.le_of_ble_eq_true rfl, Nat.le_of_ble_eq_true rfl⟩ (Nat.le_of_ble_eq_true rfl) (fun l D A => c_X7_goOn l D A e62) ?_
      exact ww_zretE 65 X hQ dX7_after_65 h
set_option maxHeartbeats 4000000 in
set_option maxRecDepth 100000 in
theorem wP_X7_after {G : mG} {F : Nat} {x : mXT} {sz : Nat} {r0 : Int32} {M0 : mM} (X : mCX G RX7 cX7_after 3 (some .boolean) "after" rmX7_after x) (hQ : mQI x r0 M0 (sz, 0, 0)) {l0 : Nat} {l1 : Int32} {M : mM} (h : P_X7_after G F l0 l1 M = some (r0, M0)) : WW x (sz, 0, 0) M 0 [(0, .ref l0), (1, .int l1)] [] := by
  unfold P_X7_after at h
  refine ww_aload_n 0 X dX7_after_0 0 rfl rfl ?_
  obtain ⟨v1, e1, h⟩ := bO_some h
  refine ww_getR 1 X dX7_after_1 fG_X7_15 e1 ?_
  refine ww_aload_n 4 X dX7_after_4 0 rfl rfl ?_
  obtain ⟨v5, e5, h⟩ := bO_some h
  refine ww_getI 5 X dX7_after_5 fG_X7_31 e5 ?_
  obtain ⟨_, f8, h⟩ := bO_some h
  obtain ⟨v8, M8, e8, h⟩ := bP_some h
  refine ww_callVI0 8 X dX7_after_8 mY_X9_has mL_X7_78 (rcv_spec f8) ⟨_, _, rfl⟩ (by decide) (As := [.int v5]) (rest := []) rfl rfl ⟨Nat.le_of_ble_eq_true rfl, Nat.le_of_ble_eq_true rfl⟩ (Nat.le_of_ble_eq_true rfl) (fun l D A => c_X9_has l D A e8) ?_
  refine ww_if_ne 11 23 X dX7_after_11 (by decide) (fun q => ?_) (fun q => ?_)
  · replace h := (if_neg q).symm.trans h
    refine ww_aload_n 23 X dX7_after_23 0 rfl rfl ?_
    obtain ⟨v24, e24, h⟩ := bO_some h
    refine ww_getR 24 X dX7_after_24 fG_X7_15 e24 ?_
    obtain ⟨v27, e27, h⟩ := bO_some h
    refine ww_getR 27 X dX7_after_27 fG_X7_85 e27 ?_
    refine ww_aload_n 30 X dX7_after_30 0 rfl rfl ?_
    obtain ⟨v31, e31, h⟩ := bO_some h
    refine ww_getI 31 X dX7_after_31 fG_X7_31 e31 ?_
    obtain ⟨v34, e34, h⟩ := bO_some h
    refine ww_iald 34 X dX7_after_34 e34 ?_
    refine ww_bipush 35 X (v := (6 : Int32)) dX7_after_35 (by decide) ?_
    refine ww_icmp_ne 37 44 X dX7_after_37 (by decide) (fun q => ?_) (fun q => ?_)
    · replace h := (if_neg q).symm.trans h
      refine ww_iconst 44 X (v := (0 : Int32)) dX7_after_44 (by decide) ?_
      exact (wB_X7_after_45 X hQ h)
    · replace h := (if_pos q).symm.trans h
      refine ww_iconst 40 X (v := (1 : Int32)) dX7_after_40 (by decide) ?_
      refine ww_goto 41 45 X dX7_after_41 (by decide) ?_
      exact (wB_X7_after_45 X hQ h)
  · replace h := (if_pos q).symm.trans h
    refine ww_aload_n 14 X dX7_after_14 0 rfl rfl ?_
    refine ww_aload_n 15 X dX7_after_15 0 rfl rfl ?_
    obtain ⟨v16, e16, h⟩ := bO_some h
    refine ww_getI 16 X dX7_after_16 fG_X7_24 e16 ?_
    obtain ⟨_, f19, h⟩ := bO_some h
    obtain ⟨v19, M19, e19, h⟩ := bP_some h
    refine ww_callVI0 19 X dX7_after_19 mY_X7_wrong mL_X7_66 (rcv_spec f19) ⟨_, _, rfl⟩ (by decide) (As := [.int v16]) (rest := []) rfl rfl ⟨Nat.le_of_ble_eq_true rfl, Nat.le_of_ble_eq_true rfl⟩ (Nat.le_of_ble_eq_true rfl) (fun l D A => c_X7_wrong l D A e19) ?_
    exact ww_zretE 22 X hQ dX7_after_22 h
theorem c_X7_after {G : mG} {F sz : Nat} {r0 : Int32} {M0 : mM} (l : Launch) (D : mD) (A : Nat → Prop) {l0 : Nat} {l1 : Int32} {M : mM} (h : P_X7_after G F l0 l1 M = some (r0, M0)) : mMetI l D G A yX7_after cX7_after 3 (some .boolean) 2 41 0 0 [.ref l0, .int l1] M sz r0 M0 sz := mMetI_of l D G A (by decide) (Nat.le_of_ble_eq_true rfl) (fun x X hQ => wP_X7_after X hQ h)
/-! SealedTokens$Reader.read(LSealedTokens$Bytes;LSealedTokens$Text;)I -/
theorem dX7_read_0 : decode cX7_read 0 = .ok (.aload_n 0, 1) := by decide +kernel
theorem dX7_read_1 : decode cX7_read 1 = .ok (.aload_n 1, 1) := by decide +kernel
theorem dX7_read_2 : decode cX7_read 2 = .ok (.putfield 9, 3) := by decide +kernel
theorem dX7_read_5 : decode cX7_read 5 = .ok (.aload_n 0, 1) := by decide +kernel
theorem dX7_read_6 : decode cX7_read 6 = .ok (.aload_n 2, 1) := by decide +kernel
theorem dX7_read_7 : decode cX7_read 7 = .ok (.putfield 15, 3) := by decide +kernel
theorem dX7_read_10 : decode cX7_read 10 = .ok (.aload_n 0, 1) := by decide +kernel
theorem dX7_read_11 : decode cX7_read 11 = .ok (.getfield 15, 3) := by decide +kernel
theorem dX7_read_14 : decode cX7_read 14 = .ok (.invokevirtual 19, 3) := by decide +kernel
theorem dX7_read_17 : decode cX7_read 17 = .ok (.aload_n 0, 1) := by decide +kernel
theorem dX7_read_18 : decode cX7_read 18 = .ok (.iconst 0, 1) := by decide +kernel
theorem dX7_read_19 : decode cX7_read 19 = .ok (.putfield 24, 3) := by decide +kernel
theorem dX7_read_22 : decode cX7_read 22 = .ok (.aload_n 0, 1) := by decide +kernel
theorem dX7_read_23 : decode cX7_read 23 = .ok (.iconst (-1), 1) := by decide +kernel
theorem dX7_read_24 : decode cX7_read 24 = .ok (.putfield 28, 3) := by decide +kernel
theorem dX7_read_27 : decode cX7_read 27 = .ok (.aload_n 0, 1) := by decide +kernel
theorem dX7_read_28 : decode cX7_read 28 = .ok (.iconst (-1), 1) := by decide +kernel
theorem dX7_read_29 : decode cX7_read 29 = .ok (.putfield 31, 3) := by decide +kernel
theorem dX7_read_32 : decode cX7_read 32 = .ok (.aload_n 0, 1) := by decide +kernel
theorem dX7_read_33 : decode cX7_read 33 = .ok (.iconst 0, 1) := by decide +kernel
theorem dX7_read_34 : decode cX7_read 34 = .ok (.putfield 34, 3) := by decide +kernel
theorem dX7_read_37 : decode cX7_read 37 = .ok (.aload_n 0, 1) := by decide +kernel
theorem dX7_read_38 : decode cX7_read 38 = .ok (.iconst 0, 1) := by decide +kernel
theorem dX7_read_39 : decode cX7_read 39 = .ok (.putfield 37, 3) := by decide +kernel
theorem dX7_read_42 : decode cX7_read 42 = .ok (.iconst 1, 1) := by decide +kernel
theorem dX7_read_43 : decode cX7_read 43 = .ok (.istore_n 3, 1) := by decide +kernel
theorem dX7_read_44 : decode cX7_read 44 = .ok (.iconst 0, 1) := by decide +kernel
theorem dX7_read_45 : decode cX7_read 45 = .ok (.istore 4, 2) := by decide +kernel
theorem dX7_read_47 : decode cX7_read 47 = .ok (.iload 4, 2) := by decide +kernel
theorem dX7_read_49 : decode cX7_read 49 = .ok (.aload_n 0, 1) := by decide +kernel
theorem dX7_read_50 : decode cX7_read 50 = .ok (.getfield 9, 3) := by decide +kernel
theorem dX7_read_53 : decode cX7_read 53 = .ok (.getfield 40, 3) := by decide +kernel
theorem dX7_read_56 : decode cX7_read 56 = .ok (.if_icmp .gt 200, 3) := by decide +kernel
theorem dX7_read_59 : decode cX7_read 59 = .ok (.iload_n 3, 1) := by decide +kernel
theorem dX7_read_60 : decode cX7_read 60 = .ok (.ifCond .eq 196, 3) := by decide +kernel
theorem dX7_read_63 : decode cX7_read 63 = .ok (.aload_n 0, 1) := by decide +kernel
theorem dX7_read_64 : decode cX7_read 64 = .ok (.invokevirtual 45, 3) := by decide +kernel
theorem dX7_read_67 : decode cX7_read 67 = .ok (.aload_n 0, 1) := by decide +kernel
theorem dX7_read_68 : decode cX7_read 68 = .ok (.getfield 9, 3) := by decide +kernel
theorem dX7_read_71 : decode cX7_read 71 = .ok (.aload_n 0, 1) := by decide +kernel
theorem dX7_read_72 : decode cX7_read 72 = .ok (.getfield 24, 3) := by decide +kernel
theorem dX7_read_75 : decode cX7_read 75 = .ok (.invokevirtual 48, 3) := by decide +kernel
theorem dX7_read_78 : decode cX7_read 78 = .ok (.istore 5, 2) := by decide +kernel
theorem dX7_read_80 : decode cX7_read 80 = .ok (.iload 5, 2) := by decide +kernel
theorem dX7_read_82 : decode cX7_read 82 = .ok (.iconst (-1), 1) := by decide +kernel
theorem dX7_read_83 : decode cX7_read 83 = .ok (.if_icmp .ne 28, 3) := by decide +kernel
theorem dX7_read_86 : decode cX7_read 86 = .ok (.aload_n 0, 1) := by decide +kernel
theorem dX7_read_87 : decode cX7_read 87 = .ok (.getfield 37, 3) := by decide +kernel
theorem dX7_read_90 : decode cX7_read 90 = .ok (.iconst 5, 1) := by decide +kernel
theorem dX7_read_91 : decode cX7_read 91 = .ok (.if_icmp .ne 15, 3) := by decide +kernel
theorem dX7_read_94 : decode cX7_read 94 = .ok (.aload_n 0, 1) := by decide +kernel
theorem dX7_read_95 : decode cX7_read 95 = .ok (.getfield 31, 3) := by decide +kernel
theorem dX7_read_98 : decode cX7_read 98 = .ok (.iconst (-1), 1) := by decide +kernel
theorem dX7_read_99 : decode cX7_read 99 = .ok (.if_icmp .ne 7, 3) := by decide +kernel
theorem dX7_read_102 : decode cX7_read 102 = .ok (.iconst (-1), 1) := by decide +kernel
theorem dX7_read_103 : decode cX7_read 103 = .ok (.goto 7, 3) := by decide +kernel
theorem dX7_read_106 : decode cX7_read 106 = .ok (.aload_n 0, 1) := by decide +kernel
theorem dX7_read_107 : decode cX7_read 107 = .ok (.getfield 24, 3) := by decide +kernel
theorem dX7_read_110 : decode cX7_read 110 = .ok (.ireturn, 1) := by decide +kernel
theorem dX7_read_111 : decode cX7_read 111 = .ok (.aload_n 0, 1) := by decide +kernel
theorem dX7_read_112 : decode cX7_read 112 = .ok (.getfield 37, 3) := by decide +kernel
theorem dX7_read_115 : decode cX7_read 115 = .ok (.tableswitch 128 0 4 #[33, 43, 67, 77, 101], 33) := by decide +kernel
theorem dX7_read_148 : decode cX7_read 148 = .ok (.aload_n 0, 1) := by decide +kernel
theorem dX7_read_149 : decode cX7_read 149 = .ok (.iload 5, 2) := by decide +kernel
theorem dX7_read_151 : decode cX7_read 151 = .ok (.invokevirtual 52, 3) := by decide +kernel
theorem dX7_read_154 : decode cX7_read 154 = .ok (.istore_n 3, 1) := by decide +kernel
theorem dX7_read_155 : decode cX7_read 155 = .ok (.goto 95, 3) := by decide +kernel
theorem dX7_read_158 : decode cX7_read 158 = .ok (.iload 5, 2) := by decide +kernel
theorem dX7_read_160 : decode cX7_read 160 = .ok (.bipush 93, 2) := by decide +kernel
theorem dX7_read_162 : decode cX7_read 162 = .ok (.if_icmp .ne 10, 3) := by decide +kernel
theorem dX7_read_165 : decode cX7_read 165 = .ok (.aload_n 0, 1) := by decide +kernel
theorem dX7_read_166 : decode cX7_read 166 = .ok (.invokevirtual 56, 3) := by decide +kernel
theorem dX7_read_169 : decode cX7_read 169 = .ok (.goto 9, 3) := by decide +kernel
theorem dX7_read_172 : decode cX7_read 172 = .ok (.aload_n 0, 1) := by decide +kernel
theorem dX7_read_173 : decode cX7_read 173 = .ok (.iload 5, 2) := by decide +kernel
theorem dX7_read_175 : decode cX7_read 175 = .ok (.invokevirtual 52, 3) := by decide +kernel
theorem dX7_read_178 : decode cX7_read 178 = .ok (.istore_n 3, 1) := by decide +kernel
theorem dX7_read_179 : decode cX7_read 179 = .ok (.goto 71, 3) := by decide +kernel
theorem dX7_read_182 : decode cX7_read 182 = .ok (.aload_n 0, 1) := by decide +kernel
theorem dX7_read_183 : decode cX7_read 183 = .ok (.iload 5, 2) := by decide +kernel
theorem dX7_read_185 : decode cX7_read 185 = .ok (.invokevirtual 60, 3) := by decide +kernel
theorem dX7_read_188 : decode cX7_read 188 = .ok (.istore_n 3, 1) := by decide +kernel
theorem dX7_read_189 : decode cX7_read 189 = .ok (.goto 61, 3) := by decide +kernel
theorem dX7_read_192 : decode cX7_read 192 = .ok (.iload 5, 2) := by decide +kernel
theorem dX7_read_194 : decode cX7_read 194 = .ok (.bipush 125, 2) := by decide +kernel
theorem dX7_read_196 : decode cX7_read 196 = .ok (.if_icmp .ne 10, 3) := by decide +kernel
theorem dX7_read_199 : decode cX7_read 199 = .ok (.aload_n 0, 1) := by decide +kernel
theorem dX7_read_200 : decode cX7_read 200 = .ok (.invokevirtual 56, 3) := by decide +kernel
theorem dX7_read_203 : decode cX7_read 203 = .ok (.goto 9, 3) := by decide +kernel
theorem dX7_read_206 : decode cX7_read 206 = .ok (.aload_n 0, 1) := by decide +kernel
theorem dX7_read_207 : decode cX7_read 207 = .ok (.iload 5, 2) := by decide +kernel
theorem dX7_read_209 : decode cX7_read 209 = .ok (.invokevirtual 60, 3) := by decide +kernel
theorem dX7_read_212 : decode cX7_read 212 = .ok (.istore_n 3, 1) := by decide +kernel
theorem dX7_read_213 : decode cX7_read 213 = .ok (.goto 37, 3) := by decide +kernel
theorem dX7_read_216 : decode cX7_read 216 = .ok (.iload 5, 2) := by decide +kernel
theorem dX7_read_218 : decode cX7_read 218 = .ok (.bipush 58, 2) := by decide +kernel
theorem dX7_read_220 : decode cX7_read 220 = .ok (.if_icmp .ne 11, 3) := by decide +kernel
theorem dX7_read_223 : decode cX7_read 223 = .ok (.aload_n 0, 1) := by decide +kernel
theorem dX7_read_224 : decode cX7_read 224 = .ok (.iconst 0, 1) := by decide +kernel
theorem dX7_read_225 : decode cX7_read 225 = .ok (.invokevirtual 63, 3) := by decide +kernel
theorem dX7_read_228 : decode cX7_read 228 = .ok (.goto 11, 3) := by decide +kernel
theorem dX7_read_231 : decode cX7_read 231 = .ok (.aload_n 0, 1) := by decide +kernel
theorem dX7_read_232 : decode cX7_read 232 = .ok (.aload_n 0, 1) := by decide +kernel
theorem dX7_read_233 : decode cX7_read 233 = .ok (.getfield 24, 3) := by decide +kernel
theorem dX7_read_236 : decode cX7_read 236 = .ok (.invokevirtual 66, 3) := by decide +kernel
theorem dX7_read_239 : decode cX7_read 239 = .ok (.istore_n 3, 1) := by decide +kernel
theorem dX7_read_240 : decode cX7_read 240 = .ok (.goto 10, 3) := by decide +kernel
theorem dX7_read_243 : decode cX7_read 243 = .ok (.aload_n 0, 1) := by decide +kernel
theorem dX7_read_244 : decode cX7_read 244 = .ok (.iload 5, 2) := by decide +kernel
theorem dX7_read_246 : decode cX7_read 246 = .ok (.invokevirtual 69, 3) := by decide +kernel
theorem dX7_read_249 : decode cX7_read 249 = .ok (.istore_n 3, 1) := by decide +kernel
theorem dX7_read_250 : decode cX7_read 250 = .ok (.iinc 4 1, 3) := by decide +kernel
theorem dX7_read_253 : decode cX7_read 253 = .ok (.goto (-206), 3) := by decide +kernel
theorem dX7_read_256 : decode cX7_read 256 = .ok (.aload_n 0, 1) := by decide +kernel
theorem dX7_read_257 : decode cX7_read 257 = .ok (.getfield 28, 3) := by decide +kernel
theorem dX7_read_260 : decode cX7_read 260 = .ok (.ireturn, 1) := by decide +kernel
abbrev rmX7_read : Room := { frames := 8, cells := 0, slots := 0, locals := 177 }
set_option maxHeartbeats 4000000 in
set_option maxRecDepth 100000 in
theorem wB_X7_read_47 {G : mG} {F : Nat} {x : mXT} {sz : Nat} {r0 : Int32} {M0 : mM} (X : mCX G RX7 cX7_read 6 (some .int) "read" rmX7_read x) (hQ : mQI x r0 M0 (sz, 0, 0)) : ∀ (n : Nat) (l0 : Nat) (l3 : Int32) (l4 : Int32) (M : mM), B_X7_read_47 G F n l0 l3 l4 M = some (r0, M0) → WW x (sz, 0, 0) M 47 [(0, .ref l0), (3, .int l3), (4, .int l4)] [] := by
  intro n
  induction n with
  | zero =>
    intro l0 l3 l4 M h
    exact nomatch (show (none : Option (Int32 × mM)) = some (r0, M0) from h)
  | succ n ih =>
    intro l0 l3 l4 M h
    rw [B_X7_read_47] at h
    refine ww_iload 47 X dX7_read_47 2 rfl ?_
    refine ww_aload_n 49 X dX7_read_49 0 rfl rfl ?_
    obtain ⟨v50, e50, h⟩ := bO_some h
    refine ww_getR 50 X dX7_read_50 fG_X7_9 e50 ?_
    obtain ⟨v53, e53, h⟩ := bO_some h
    refine ww_getI 53 X dX7_read_53 fG_X7_40 e53 ?_
    refine ww_icmp_gt 56 256 X dX7_read_56 (by decide) (fun q => ?_) (fun q => ?_)
    · replace h := (if_pos q).symm.trans h
      refine ww_aload_n 256 X dX7_read_256 0 rfl rfl ?_
      obtain ⟨v257, e257, h⟩ := bO_some h
      refine ww_getI 257 X dX7_read_257 fG_X7_28 e257 ?_
      exact ww_iretE 260 X hQ dX7_read_260 h
    · replace h := (if_neg q).symm.trans h
      refine ww_iload_n 59 X dX7_read_59 1 rfl rfl ?_
      refine ww_if_eq 60 256 X dX7_read_60 (by decide) (fun q => ?_) (fun q => ?_)
      · replace h := (if_pos q).symm.trans h
        refine ww_aload_n 256 X dX7_read_256 0 rfl rfl ?_
        obtain ⟨v257, e257, h⟩ := bO_some h
        refine ww_getI 257 X dX7_read_257 fG_X7_28 e257 ?_
        exact ww_iretE 260 X hQ dX7_read_260 h
      · replace h := (if_neg q).symm.trans h
        refine ww_aload_n 63 X dX7_read_63 0 rfl rfl ?_
        obtain ⟨_, f64, h⟩ := bO_some h
        obtain ⟨M64, e64, h⟩ := bO_some h
        refine ww_callVV0 64 X dX7_read_64 mY_X7_skipBlanks mL_X7_45 (rcv_spec f64) ⟨_, _, rfl⟩ (by decide) (As := []) (rest := []) rfl rfl ⟨Nat.le_of_ble_eq_true rfl, Nat.le_of_ble_eq_true rfl⟩ (Nat.le_of_ble_eq_true rfl) (fun l D A => c_X7_skipBlanks l D A e64) ?_
        refine ww_aload_n 67 X dX7_read_67 0 rfl rfl ?_
        obtain ⟨v68, e68, h⟩ := bO_some h
        refine ww_getR 68 X dX7_read_68 fG_X7_9 e68 ?_
        refine ww_aload_n 71 X dX7_read_71 0 rfl rfl ?_
        obtain ⟨v72, e72, h⟩ := bO_some h
        refine ww_getI 72 X dX7_read_72 fG_X7_24 e72 ?_
        obtain ⟨_, f75, h⟩ := bO_some h
        obtain ⟨v75, M75, e75, h⟩ := bP_some h
        refine ww_callVI0 75 X dX7_read_75 mY_X0_peek mL_X7_48 (rcv_spec f75) ⟨_, _, rfl⟩ (by decide) (As := [.int v72]) (rest := []) rfl rfl ⟨Nat.le_of_ble_eq_true rfl, Nat.le_of_ble_eq_true rfl⟩ (Nat.le_of_ble_eq_true rfl) (fun l D A => c_X0_peek l D A e75) ?_
        refine ww_istore 78 X dX7_read_78 (lv' := [(0, .ref l0), (3, .int l3), (4, .int l4), (5, .int v75)]) (by decide) [1, 2, 3, 0] rfl ?_
        refine ww_iload 80 X dX7_read_80 3 rfl ?_
        refine ww_iconst 82 X (v := (-1 : Int32)) dX7_read_82 (by decide) ?_
        refine ww_icmp_ne 83 111 X dX7_read_83 (by decide) (fun q => ?_) (fun q => ?_)
        · replace h := (if_neg q).symm.trans h
          refine ww_aload_n 111 X dX7_read_111 0 rfl rfl ?_
          obtain ⟨v112, e112, h⟩ := bO_some h
          refine ww_getI 112 X dX7_read_112 fG_X7_37 e112 ?_
          by_cases q0 : v112 = (0 : Int32)
          · replace h := (if_pos q0).symm.trans h
            refine ww_tableIn 115 148 X dX7_read_115 (off := 33) (by rw [q0]; decide) (by rw [q0]; decide) (by rw [q0]; decide) (by decide) ?_
            refine ww_aload_n 148 X dX7_read_148 0 rfl rfl ?_
            refine ww_iload 149 X dX7_read_149 3 rfl ?_
            obtain ⟨_, f151, h⟩ := bO_some h
            obtain ⟨v151, M151, e151, h⟩ := bP_some h
            refine ww_callVI0 151 X dX7_read_151 mY_X7_begin mL_X7_52 (rcv_spec f151) ⟨_, _, rfl⟩ (by decide) (As := [.int v75]) (rest := []) rfl rfl ⟨Nat.le_of_ble_eq_true rfl, Nat.le_of_ble_eq_true rfl⟩ (Nat.le_of_ble_eq_true rfl) (fun l D A => c_X7_begin l D A e151) ?_
            refine ww_istore_n 154 X dX7_read_154 (lv' := [(0, .ref l0), (3, .int v151), (4, .int l4), (5, .int v75)]) rfl (by decide) [1, 0, 2, 3] rfl ?_
            refine ww_goto 155 250 X dX7_read_155 (by decide) ?_
            refine ww_iinc 250 X dX7_read_250 (lv' := [(0, .ref l0), (3, .int v151), (4, .int (l4 + 1)), (5, .int v75)]) 2 rfl rfl (by decide) [1, 2, 0, 3] rfl ?_
            refine ww_goto 253 47 X dX7_read_253 (by decide) ?_
            exact ww_sub [0, 1, 2] rfl (ih _ _ _ _ h)
          · replace h := (if_neg q0).symm.trans h
            by_cases q1 : v112 = (1 : Int32)
            · replace h := (if_pos q1).symm.trans h
              refine ww_tableIn 115 158 X dX7_read_115 (off := 43) (by rw [q1]; decide) (by rw [q1]; decide) (by rw [q1]; decide) (by decide) ?_
              refine ww_iload 158 X dX7_read_158 3 rfl ?_
              refine ww_bipush 160 X (v := (93 : Int32)) dX7_read_160 (by decide) ?_
              refine ww_icmp_ne 162 172 X dX7_read_162 (by decide) (fun q => ?_) (fun q => ?_)
              · replace h := (if_neg q).symm.trans h
                refine ww_aload_n 172 X dX7_read_172 0 rfl rfl ?_
                refine ww_iload 173 X dX7_read_173 3 rfl ?_
                obtain ⟨_, f175, h⟩ := bO_some h
                obtain ⟨v175, M175, e175, h⟩ := bP_some h
                refine ww_callVI0 175 X dX7_read_175 mY_X7_begin mL_X7_52 (rcv_spec f175) ⟨_, _, rfl⟩ (by decide) (As := [.int v75]) (rest := []) rfl rfl ⟨Nat.le_of_ble_eq_true rfl, Nat.le_of_ble_eq_true rfl⟩ (Nat.le_of_ble_eq_true rfl) (fun l D A => c_X7_begin l D A e175) ?_
                refine ww_istore_n 178 X dX7_read_178 (lv' := [(0, .ref l0), (3, .int v175), (4, .int l4), (5, .int v75)]) rfl (by decide) [1, 0, 2, 3] rfl ?_
                refine ww_goto 179 250 X dX7_read_179 (by decide) ?_
                refine ww_iinc 250 X dX7_read_250 (lv' := [(0, .ref l0), (3, .int v175), (4, .int (l4 + 1)), (5, .int v75)]) 2 rfl rfl (by decide) [1, 2, 0, 3] rfl ?_
                refine ww_goto 253 47 X dX7_read_253 (by decide) ?_
                exact ww_sub [0, 1, 2] rfl (ih _ _ _ _ h)
              · replace h := (if_pos q).symm.trans h
                refine ww_aload_n 165 X dX7_read_165 0 rfl rfl ?_
                obtain ⟨_, f166, h⟩ := bO_some h
                obtain ⟨v166, M166, e166, h⟩ := bP_some h
                refine ww_callVI0 166 X dX7_read_166 mY_X7_close mL_X7_56 (rcv_spec f166) ⟨_, _, rfl⟩ (by decide) (As := []) (rest := []) rfl rfl ⟨Nat.le_of_ble_eq_true rfl, Nat.le_of_ble_eq_true rfl⟩ (Nat.le_of_ble_eq_true rfl) (fun l D A => c_X7_close l D A e166) ?_
                refine ww_goto 169 178 X dX7_read_169 (by decide) ?_
                refine ww_istore_n 178 X dX7_read_178 (lv' := [(0, .ref l0), (3, .int v166), (4, .int l4), (5, .int v75)]) rfl (by decide) [1, 0, 2, 3] rfl ?_
                refine ww_goto 179 250 X dX7_read_179 (by decide) ?_
                refine ww_iinc 250 X dX7_read_250 (lv' := [(0, .ref l0), (3, .int v166), (4, .int (l4 + 1)), (5, .int v75)]) 2 rfl rfl (by decide) [1, 2, 0, 3] rfl ?_
                refine ww_goto 253 47 X dX7_read_253 (by decide) ?_
                exact ww_sub [0, 1, 2] rfl (ih _ _ _ _ h)
            · replace h := (if_neg q1).symm.trans h
              by_cases q2 : v112 = (2 : Int32)
              · replace h := (if_pos q2).symm.trans h
                refine ww_tableIn 115 182 X dX7_read_115 (off := 67) (by rw [q2]; decide) (by rw [q2]; decide) (by rw [q2]; decide) (by decide) ?_
                refine ww_aload_n 182 X dX7_read_182 0 rfl rfl ?_
                refine ww_iload 183 X dX7_read_183 3 rfl ?_
                obtain ⟨_, f185, h⟩ := bO_some h
                obtain ⟨v185, M185, e185, h⟩ := bP_some h
                refine ww_callVI0 185 X dX7_read_185 mY_X7_memberName mL_X7_60 (rcv_spec f185) ⟨_, _, rfl⟩ (by decide) (As := [.int v75]) (rest := []) rfl rfl ⟨Nat.le_of_ble_eq_true rfl, Nat.le_of_ble_eq_true rfl⟩ (Nat.le_of_ble_eq_true rfl) (fun l D A => c_X7_memberName l D A e185) ?_
                refine ww_istore_n 188 X dX7_read_188 (lv' := [(0, .ref l0), (3, .int v185), (4, .int l4), (5, .int v75)]) rfl (by decide) [1, 0, 2, 3] rfl ?_
                refine ww_goto 189 250 X dX7_read_189 (by decide) ?_
                refine ww_iinc 250 X dX7_read_250 (lv' := [(0, .ref l0), (3, .int v185), (4, .int (l4 + 1)), (5, .int v75)]) 2 rfl rfl (by decide) [1, 2, 0, 3] rfl ?_
                refine ww_goto 253 47 X dX7_read_253 (by decide) ?_
                exact ww_sub [0, 1, 2] rfl (ih _ _ _ _ h)
              · replace h := (if_neg q2).symm.trans h
                by_cases q3 : v112 = (3 : Int32)
                · replace h := (if_pos q3).symm.trans h
                  refine ww_tableIn 115 192 X dX7_read_115 (off := 77) (by rw [q3]; decide) (by rw [q3]; decide) (by rw [q3]; decide) (by decide) ?_
                  refine ww_iload 192 X dX7_read_192 3 rfl ?_
                  refine ww_bipush 194 X (v := (125 : Int32)) dX7_read_194 (by decide) ?_
                  refine ww_icmp_ne 196 206 X dX7_read_196 (by decide) (fun q => ?_) (fun q => ?_)
                  · replace h := (if_neg q).symm.trans h
                    refine ww_aload_n 206 X dX7_read_206 0 rfl rfl ?_
                    refine ww_iload 207 X dX7_read_207 3 rfl ?_
                    obtain ⟨_, f209, h⟩ := bO_some h
                    obtain ⟨v209, M209, e209, h⟩ := bP_some h
                    refine ww_callVI0 209 X dX7_read_209 mY_X7_memberName mL_X7_60 (rcv_spec f209) ⟨_, _, rfl⟩ (by decide) (As := [.int v75]) (rest := []) rfl rfl ⟨Nat.le_of_ble_eq_true rfl, Nat.le_of_ble_eq_true rfl⟩ (Nat.le_of_ble_eq_true rfl) (fun l D A => c_X7_memberName l D A e209) ?_
                    refine ww_istore_n 212 X dX7_read_212 (lv' := [(0, .ref l0), (3, .int v209), (4, .int l4), (5, .int v75)]) rfl (by decide) [1, 0, 2, 3] rfl ?_
                    refine ww_goto 213 250 X dX7_read_213 (by decide) ?_
                    refine ww_iinc 250 X dX7_read_250 (lv' := [(0, .ref l0), (3, .int v209), (4, .int (l4 + 1)), (5, .int v75)]) 2 rfl rfl (by decide) [1, 2, 0, 3] rfl ?_
                    refine ww_goto 253 47 X dX7_read_253 (by decide) ?_
                    exact ww_sub [0, 1, 2] rfl (ih _ _ _ _ h)
                  · replace h := (if_pos q).symm.trans h
                    refine ww_aload_n 199 X dX7_read_199 0 rfl rfl ?_
                    obtain ⟨_, f200, h⟩ := bO_some h
                    obtain ⟨v200, M200, e200, h⟩ := bP_some h
                    refine ww_callVI0 200 X dX7_read_200 mY_X7_close mL_X7_56 (rcv_spec f200) ⟨_, _, rfl⟩ (by decide) (As := []) (rest := []) rfl rfl ⟨Nat.le_of_ble_eq_true rfl, Nat.le_of_ble_eq_true rfl⟩ (Nat.le_of_ble_eq_true rfl) (fun l D A => c_X7_close l D A e200) ?_
                    refine ww_goto 203 212 X dX7_read_203 (by decide) ?_
                    refine ww_istore_n 212 X dX7_read_212 (lv' := [(0, .ref l0), (3, .int v200), (4, .int l4), (5, .int v75)]) rfl (by decide) [1, 0, 2, 3] rfl ?_
                    refine ww_goto 213 250 X dX7_read_213 (by decide) ?_
                    refine ww_iinc 250 X dX7_read_250 (lv' := [(0, .ref l0), (3, .int v200), (4, .int (l4 + 1)), (5, .int v75)]) 2 rfl rfl (by decide) [1, 2, 0, 3] rfl ?_
                    refine ww_goto 253 47 X dX7_read_253 (by decide) ?_
                    exact ww_sub [0, 1, 2] rfl (ih _ _ _ _ h)
                · replace h := (if_neg q3).symm.trans h
                  by_cases q4 : v112 = (4 : Int32)
                  · replace h := (if_pos q4).symm.trans h
                    refine ww_tableIn 115 216 X dX7_read_115 (off := 101) (by rw [q4]; decide) (by rw [q4]; decide) (by rw [q4]; decide) (by decide) ?_
                    refine ww_iload 216 X dX7_read_216 3 rfl ?_
                    refine ww_bipush 218 X (v := (58 : Int32)) dX7_read_218 (by decide) ?_
                    refine ww_icmp_ne 220 231 X dX7_read_220 (by decide) (fun q => ?_) (fun q => ?_)
                    · replace h := (if_neg q).symm.trans h
                      refine ww_aload_n 231 X dX7_read_231 0 rfl rfl ?_
                      refine ww_aload_n 232 X dX7_read_232 0 rfl rfl ?_
                      obtain ⟨v233, e233, h⟩ := bO_some h
                      refine ww_getI 233 X dX7_read_233 fG_X7_24 e233 ?_
                      obtain ⟨_, f236, h⟩ := bO_some h
                      obtain ⟨v236, M236, e236, h⟩ := bP_some h
                      refine ww_callVI0 236 X dX7_read_236 mY_X7_wrong mL_X7_66 (rcv_spec f236) ⟨_, _, rfl⟩ (by decide) (As := [.int v233]) (rest := []) rfl rfl ⟨Nat.le_of_ble_eq_true rfl, Nat.le_of_ble_eq_true rfl⟩ (Nat.le_of_ble_eq_true rfl) (fun l D A => c_X7_wrong l D A e236) ?_
                      refine ww_istore_n 239 X dX7_read_239 (lv' := [(0, .ref l0), (3, .int v236), (4, .int l4), (5, .int v75)]) rfl (by decide) [1, 0, 2, 3] rfl ?_
                      refine ww_goto 240 250 X dX7_read_240 (by decide) ?_
                      refine ww_iinc 250 X dX7_read_250 (lv' := [(0, .ref l0), (3, .int v236), (4, .int (l4 + 1)), (5, .int v75)]) 2 rfl rfl (by decide) [1, 2, 0, 3] rfl ?_
                      refine ww_goto 253 47 X dX7_read_253 (by decide) ?_
                      exact ww_sub [0, 1, 2] rfl (ih _ _ _ _ h)
                    · replace h := (if_pos q).symm.trans h
                      refine ww_aload_n 223 X dX7_read_223 0 rfl rfl ?_
                      refine ww_iconst 224 X (v := (0 : Int32)) dX7_read_224 (by decide) ?_
                      obtain ⟨_, f225, h⟩ := bO_some h
                      obtain ⟨v225, M225, e225, h⟩ := bP_some h
                      refine ww_callVI0 225 X dX7_read_225 mY_X7_goOn mL_X7_63 (rcv_spec f225) ⟨_, _, rfl⟩ (by decide) (As := [.int (0 : Int32)]) (rest := []) rfl rfl ⟨Nat.le_of_ble_eq_true rfl, Nat.le_of_ble_eq_true rfl⟩ (Nat.le_of_ble_eq_true rfl) (fun l D A => c_X7_goOn l D A e225) ?_
                      refine ww_goto 228 239 X dX7_read_228 (by decide) ?_
                      refine ww_istore_n 239 X dX7_read_239 (lv' := [(0, .ref l0), (3, .int v225), (4, .int l4), (5, .int v75)]) rfl (by decide) [1, 0, 2, 3] rfl ?_
                      refine ww_goto 240 250 X dX7_read_240 (by decide) ?_
                      refine ww_iinc 250 X dX7_read_250 (lv' := [(0, .ref l0), (3, .int v225), (4, .int (l4 + 1)), (5, .int v75)]) 2 rfl rfl (by decide) [1, 2, 0, 3] rfl ?_
                      refine ww_goto 253 47 X dX7_read_253 (by decide) ?_
                      exact ww_sub [0, 1, 2] rfl (ih _ _ _ _ h)
                  · replace h := (if_neg q4).symm.trans h
                    have z0 := lv_neT q0 (show (0 : Int32).toInt = 0 by decide)
                    have z1 := lv_neT q1 (show (1 : Int32).toInt = 1 by decide)
                    have z2 := lv_neT q2 (show (2 : Int32).toInt = 2 by decide)
                    have z3 := lv_neT q3 (show (3 : Int32).toInt = 3 by decide)
                    have z4 := lv_neT q4 (show (4 : Int32).toInt = 4 by decide)
                    refine ww_tableOut 115 243 X dX7_read_115 (by omega) (by decide) ?_
                    refine ww_aload_n 243 X dX7_read_243 0 rfl rfl ?_
                    refine ww_iload 244 X dX7_read_244 3 rfl ?_
                    obtain ⟨_, f246, h⟩ := bO_some h
                    obtain ⟨v246, M246, e246, h⟩ := bP_some h
                    refine ww_callVI0 246 X dX7_read_246 mY_X7_after mL_X7_69 (rcv_spec f246) ⟨_, _, rfl⟩ (by decide) (As := [.int v75]) (rest := []) rfl rfl ⟨Nat.le_of_ble_eq_true rfl, Nat.le_of_ble_eq_true rfl⟩ (Nat.le_of_ble_eq_true rfl) (fun l D A => c_X7_after l D A e246) ?_
                    refine ww_istore_n 249 X dX7_read_249 (lv' := [(0, .ref l0), (3, .int v246), (4, .int l4), (5, .int v75)]) rfl (by decide) [1, 0, 2, 3] rfl ?_
                    refine ww_iinc 250 X dX7_read_250 (lv' := [(0, .ref l0), (3, .int v246), (4, .int (l4 + 1)), (5, .int v75)]) 2 rfl rfl (by decide) [1, 2, 0, 3] rfl ?_
                    refine ww_goto 253 47 X dX7_read_253 (by decide) ?_
                    exact ww_sub [0, 1, 2] rfl (ih _ _ _ _ h)
        · replace h := (if_pos q).symm.trans h
          refine ww_aload_n 86 X dX7_read_86 0 rfl rfl ?_
          obtain ⟨v87, e87, h⟩ := bO_some h
          refine ww_getI 87 X dX7_read_87 fG_X7_37 e87 ?_
          refine ww_iconst 90 X (v := (5 : Int32)) dX7_read_90 (by decide) ?_
          refine ww_icmp_ne 91 106 X dX7_read_91 (by decide) (fun q => ?_) (fun q => ?_)
          · replace h := (if_neg q).symm.trans h
            refine ww_aload_n 106 X dX7_read_106 0 rfl rfl ?_
            obtain ⟨v107, e107, h⟩ := bO_some h
            refine ww_getI 107 X dX7_read_107 fG_X7_24 e107 ?_
            exact ww_iretE 110 X hQ dX7_read_110 h
          · replace h := (if_pos q).symm.trans h
            refine ww_aload_n 94 X dX7_read_94 0 rfl rfl ?_
            obtain ⟨v95, e95, h⟩ := bO_some h
            refine ww_getI 95 X dX7_read_95 fG_X7_31 e95 ?_
            refine ww_iconst 98 X (v := (-1 : Int32)) dX7_read_98 (by decide) ?_
            refine ww_icmp_ne 99 106 X dX7_read_99 (by decide) (fun q => ?_) (fun q => ?_)
            · replace h := (if_neg q).symm.trans h
              refine ww_aload_n 106 X dX7_read_106 0 rfl rfl ?_
              obtain ⟨v107, e107, h⟩ := bO_some h
              refine ww_getI 107 X dX7_read_107 fG_X7_24 e107 ?_
              exact ww_iretE 110 X hQ dX7_read_110 h
            · replace h := (if_pos q).symm.trans h
              refine ww_iconst 102 X (v := (-1 : Int32)) dX7_read_102 (by decide) ?_
              refine ww_goto 103 110 X dX7_read_103 (by decide) ?_
              exact ww_iretE 110 X hQ dX7_read_110 h
set_option maxHeartbeats 4000000 in
set_option maxRecDepth 100000 in
theorem wP_X7_read {G : mG} {F : Nat} {x : mXT} {sz : Nat} {r0 : Int32} {M0 : mM} (X : mCX G RX7 cX7_read 6 (some .int) "read" rmX7_read x) (hQ : mQI x r0 M0 (sz, 0, 0)) {l0 : Nat} {l1 : Nat} {l2 : Nat} {M : mM} (h : P_X7_read G F l0 l1 l2 M = some (r0, M0)) : WW x (sz, 0, 0) M 0 [(0, .ref l0), (1, .ref l1), (2, .ref l2)] [] := by
  unfold P_X7_read at h
  refine ww_aload_n 0 X dX7_read_0 0 rfl rfl ?_
  refine ww_aload_n 1 X dX7_read_1 1 rfl rfl ?_
  obtain ⟨M2, e2, h⟩ := bO_some h
  refine ww_putR 2 X dX7_read_2 (fP_X7_9 _) e2 rfl rfl ?_
  refine ww_aload_n 5 X dX7_read_5 0 rfl rfl ?_
  refine ww_aload_n 6 X dX7_read_6 2 rfl rfl ?_
  obtain ⟨M7, e7, h⟩ := bO_some h
  refine ww_putR 7 X dX7_read_7 (fP_X7_15 _) e7 rfl rfl ?_
  refine ww_aload_n 10 X dX7_read_10 0 rfl rfl ?_
  obtain ⟨v11, e11, h⟩ := bO_some h
  refine ww_getR 11 X dX7_read_11 fG_X7_15 e11 ?_
  obtain ⟨_, f14, h⟩ := bO_some h
  obtain ⟨M14, e14, h⟩ := bO_some h
  refine ww_callVV0 14 X dX7_read_14 mY_X9_clear mL_X7_19 (rcv_spec f14) ⟨_, _, rfl⟩ (by decide) (As := []) (rest := []) rfl rfl ⟨Nat.le_of_ble_eq_true rfl, Nat.le_of_ble_eq_true rfl⟩ (Nat.le_of_ble_eq_true rfl) (fun l D A => c_X9_clear l D A e14) ?_
  refine ww_aload_n 17 X dX7_read_17 0 rfl rfl ?_
  refine ww_iconst 18 X (v := (0 : Int32)) dX7_read_18 (by decide) ?_
  obtain ⟨M19, e19, h⟩ := bO_some h
  refine ww_putI 19 X dX7_read_19 (fP_X7_24 _) e19 ?_
  refine ww_aload_n 22 X dX7_read_22 0 rfl rfl ?_
  refine ww_iconst 23 X (v := (-1 : Int32)) dX7_read_23 (by decide) ?_
  obtain ⟨M24, e24, h⟩ := bO_some h
  refine ww_putI 24 X dX7_read_24 (fP_X7_28 _) e24 ?_
  refine ww_aload_n 27 X dX7_read_27 0 rfl rfl ?_
  refine ww_iconst 28 X (v := (-1 : Int32)) dX7_read_28 (by decide) ?_
  obtain ⟨M29, e29, h⟩ := bO_some h
  refine ww_putI 29 X dX7_read_29 (fP_X7_31 _) e29 ?_
  refine ww_aload_n 32 X dX7_read_32 0 rfl rfl ?_
  refine ww_iconst 33 X (v := (0 : Int32)) dX7_read_33 (by decide) ?_
  obtain ⟨M34, e34, h⟩ := bO_some h
  refine ww_putI 34 X dX7_read_34 (fP_X7_34 _) e34 ?_
  refine ww_aload_n 37 X dX7_read_37 0 rfl rfl ?_
  refine ww_iconst 38 X (v := (0 : Int32)) dX7_read_38 (by decide) ?_
  obtain ⟨M39, e39, h⟩ := bO_some h
  refine ww_putI 39 X dX7_read_39 (fP_X7_37 _) e39 ?_
  refine ww_iconst 42 X (v := (1 : Int32)) dX7_read_42 (by decide) ?_
  refine ww_istore_n 43 X dX7_read_43 (lv' := [(0, .ref l0), (1, .ref l1), (2, .ref l2), (3, .int (1 : Int32))]) rfl (by decide) [1, 2, 3, 0] rfl ?_
  refine ww_iconst 44 X (v := (0 : Int32)) dX7_read_44 (by decide) ?_
  refine ww_istore 45 X dX7_read_45 (lv' := [(0, .ref l0), (1, .ref l1), (2, .ref l2), (3, .int (1 : Int32)), (4, .int (0 : Int32))]) (by decide) [1, 2, 3, 4, 0] rfl ?_
  exact ww_sub [0, 3, 4] rfl (wB_X7_read_47 X hQ F _ _ _ _ h)
theorem c_X7_read {G : mG} {F sz : Nat} {r0 : Int32} {M0 : mM} (l : Launch) (D : mD) (A : Nat → Prop) {l0 : Nat} {l1 : Nat} {l2 : Nat} {M : mM} (h : P_X7_read G F l0 l1 l2 M = some (r0, M0)) : mMetI l D G A yX7_read cX7_read 6 (some .int) 8 177 0 0 [.ref l0, .ref l1, .ref l2] M sz r0 M0 sz := mMetI_of l D G A (by decide) (Nat.le_of_ble_eq_true rfl) (fun x X hQ => wP_X7_read X hQ h)
/-! SealedTokens$Rsa.<init>(LSealedTokens$Digest;)V -/
theorem dX8_init_0 : decode cX8_init 0 = .ok (.aload_n 0, 1) := by decide +kernel
theorem dX8_init_1 : decode cX8_init 1 = .ok (.invokespecial 1, 3) := by decide +kernel
theorem dX8_init_4 : decode cX8_init 4 = .ok (.aload_n 0, 1) := by decide +kernel
theorem dX8_init_5 : decode cX8_init 5 = .ok (.new 7, 3) := by decide +kernel
theorem dX8_init_8 : decode cX8_init 8 = .ok (.dup, 1) := by decide +kernel
theorem dX8_init_9 : decode cX8_init 9 = .ok (.invokespecial 9, 3) := by decide +kernel
theorem dX8_init_12 : decode cX8_init 12 = .ok (.putfield 10, 3) := by decide +kernel
theorem dX8_init_15 : decode cX8_init 15 = .ok (.aload_n 0, 1) := by decide +kernel
theorem dX8_init_16 : decode cX8_init 16 = .ok (.bipush 32, 2) := by decide +kernel
theorem dX8_init_18 : decode cX8_init 18 = .ok (.newarray .long, 2) := by decide +kernel
theorem dX8_init_20 : decode cX8_init 20 = .ok (.putfield 16, 3) := by decide +kernel
theorem dX8_init_23 : decode cX8_init 23 = .ok (.aload_n 0, 1) := by decide +kernel
theorem dX8_init_24 : decode cX8_init 24 = .ok (.new 20, 3) := by decide +kernel
theorem dX8_init_27 : decode cX8_init 27 = .ok (.dup, 1) := by decide +kernel
theorem dX8_init_28 : decode cX8_init 28 = .ok (.sipush 128, 3) := by decide +kernel
theorem dX8_init_31 : decode cX8_init 31 = .ok (.invokespecial 22, 3) := by decide +kernel
theorem dX8_init_34 : decode cX8_init 34 = .ok (.putfield 25, 3) := by decide +kernel
theorem dX8_init_37 : decode cX8_init 37 = .ok (.aload_n 0, 1) := by decide +kernel
theorem dX8_init_38 : decode cX8_init 38 = .ok (.new 20, 3) := by decide +kernel
theorem dX8_init_41 : decode cX8_init 41 = .ok (.dup, 1) := by decide +kernel
theorem dX8_init_42 : decode cX8_init 42 = .ok (.sipush 128, 3) := by decide +kernel
theorem dX8_init_45 : decode cX8_init 45 = .ok (.invokespecial 22, 3) := by decide +kernel
theorem dX8_init_48 : decode cX8_init 48 = .ok (.putfield 29, 3) := by decide +kernel
theorem dX8_init_51 : decode cX8_init 51 = .ok (.aload_n 0, 1) := by decide +kernel
theorem dX8_init_52 : decode cX8_init 52 = .ok (.new 20, 3) := by decide +kernel
theorem dX8_init_55 : decode cX8_init 55 = .ok (.dup, 1) := by decide +kernel
theorem dX8_init_56 : decode cX8_init 56 = .ok (.bipush 32, 2) := by decide +kernel
theorem dX8_init_58 : decode cX8_init 58 = .ok (.invokespecial 22, 3) := by decide +kernel
theorem dX8_init_61 : decode cX8_init 61 = .ok (.putfield 32, 3) := by decide +kernel
theorem dX8_init_64 : decode cX8_init 64 = .ok (.aload_n 0, 1) := by decide +kernel
theorem dX8_init_65 : decode cX8_init 65 = .ok (.aload_n 1, 1) := by decide +kernel
theorem dX8_init_66 : decode cX8_init 66 = .ok (.putfield 35, 3) := by decide +kernel
theorem dX8_init_69 : decode cX8_init 69 = .ok (.return_, 1) := by decide +kernel
theorem mP_X8_init {G : mG} {F : Nat} {M0 : mM} {Z0 S0 : Nat} {l0 : Nat} {l1 : Nat} {M : mM} {sz : Nat} {sl : Nat} (h : P_X8_init G F l0 l1 M sz sl = some (M0, Z0, S0)) : sz ≤ Z0 ∧ sl ≤ S0 := by
  unfold P_X8_init at h
  obtain ⟨M5, ⟨⟩, h⟩ := bO_some h
  obtain ⟨M9, z9, k9, e9, h⟩ := bA_some h
  have g9 := mP_X6_init e9
  obtain ⟨M12, e12, h⟩ := bO_some h
  obtain ⟨M18, e18, h⟩ := bO_some h
  obtain ⟨M20, e20, h⟩ := bO_some h
  obtain ⟨M24, ⟨⟩, h⟩ := bO_some h
  obtain ⟨M31, z31, k31, e31, h⟩ := bA_some h
  have g31 := mP_X0_init e31
  obtain ⟨M34, e34, h⟩ := bO_some h
  obtain ⟨M38, ⟨⟩, h⟩ := bO_some h
  obtain ⟨M45, z45, k45, e45, h⟩ := bA_some h
  have g45 := mP_X0_init e45
  obtain ⟨M48, e48, h⟩ := bO_some h
  obtain ⟨M52, ⟨⟩, h⟩ := bO_some h
  obtain ⟨M58, z58, k58, e58, h⟩ := bA_some h
  have g58 := mP_X0_init e58
  obtain ⟨M61, e61, h⟩ := bO_some h
  obtain ⟨M66, e66, h⟩ := bO_some h
  have q := retA_v h
  omega
set_option maxHeartbeats 4000000 in
set_option maxRecDepth 100000 in
theorem wP_X8_init {G : mG} {F : Nat} {x : mXT} {z0 s0 : Nat} {M0 : mM} {Z0 S0 : Nat} (X : mCX G RX8 cX8_init 2 none "<init>" { frames := 2, cells := Z0 - z0, slots := S0 - s0, locals := 42 } x) (hQ : mQV x M0 (Z0, Z0 - z0, S0 - s0)) {l0 : Nat} {l1 : Nat} {M : mM} {sz : Nat} {sl : Nat} (hz0 : z0 ≤ sz) (hs0 : s0 ≤ sl) (h : P_X8_init G F l0 l1 M sz sl = some (M0, Z0, S0)) : WW x (sz, sz - z0, sl - s0) M 0 [(0, .ref l0), (1, .ref l1)] [] := by
  unfold P_X8_init at h
  obtain ⟨M5, ⟨⟩, h⟩ := bO_some h
  obtain ⟨M9, z9, k9, e9, h⟩ := bA_some h
  have g9 := mP_X6_init e9
  obtain ⟨M12, e12, h⟩ := bO_some h
  obtain ⟨M18, e18, h⟩ := bO_some h
  obtain ⟨M20, e20, h⟩ := bO_some h
  obtain ⟨M24, ⟨⟩, h⟩ := bO_some h
  obtain ⟨M31, z31, k31, e31, h⟩ := bA_some h
  have g31 := mP_X0_init e31
  obtain ⟨M34, e34, h⟩ := bO_some h
  obtain ⟨M38, ⟨⟩, h⟩ := bO_some h
  obtain ⟨M45, z45, k45, e45, h⟩ := bA_some h
  have g45 := mP_X0_init e45
  obtain ⟨M48, e48, h⟩ := bO_some h
  obtain ⟨M52, ⟨⟩, h⟩ := bO_some h
  obtain ⟨M58, z58, k58, e58, h⟩ := bA_some h
  have g58 := mP_X0_init e58
  obtain ⟨M61, e61, h⟩ := bO_some h
  obtain ⟨M66, e66, h⟩ := bO_some h
  have q := retA_v h
  refine ww_aload_n 0 X dX8_init_0 0 rfl rfl ?_
  refine ww_objI 1 X (st := []) dX8_init_1 oL_X8_1 oI_i oI_c (Nat.le_of_ble_eq_true rfl) (Nat.le_of_ble_eq_true rfl) (Nat.le_of_ble_eq_true rfl) ?_
  refine ww_aload_n 4 X dX8_init_4 0 rfl rfl ?_
  refine ww_newO 5 X (sz := sz) (sl := sl) (z0 := z0) (s0 := s0) dX8_init_5 nW_X8_7 (by omega) (by omega) (by show _ ≤ Z0 - z0; omega) (by show _ ≤ S0 - s0; omega) ?_
  refine ww_dup 8 X dX8_init_8 rfl ?_
  refine ww_callIVNa 9 X (sz := (sz + 1)) (sl := (sl + 8)) (z0 := z0) (s0 := s0) dX8_init_9 mY_X6_init mL_X8_9 (As := []) (rest := [.ref sz, .ref l0]) rfl rfl ⟨Nat.le_of_ble_eq_true rfl, Nat.le_of_ble_eq_true rfl⟩ (by omega) (by omega) (by omega) (by omega) (by show _ ≤ Z0 - z0; omega) (by show _ ≤ S0 - s0; omega) (Nat.le_of_ble_eq_true rfl) (fun l D A => c_X6_init l D A e9) ?_
  refine ww_putR 12 X dX8_init_12 (fP_X8_10 _ (Or.inr rfl)) e12 rfl rfl ?_
  refine ww_aload_n 15 X dX8_init_15 0 rfl rfl ?_
  refine ww_bipush 16 X (v := (32 : Int32)) dX8_init_16 (by decide) ?_
  refine ww_newA 18 X (sz := z9) (sl := k9) (z0 := z0) (s0 := s0) dX8_init_18 (k := 2) (by decide) rfl aC_2 e18 (by omega) (by omega) (by show _ ≤ Z0 - z0; omega) (by show _ ≤ S0 - s0; omega) ?_
  refine ww_putR 20 X dX8_init_20 (fP_X8_16 _ (Or.inr rfl)) e20 rfl rfl ?_
  refine ww_aload_n 23 X dX8_init_23 0 rfl rfl ?_
  refine ww_newO 24 X (sz := (z9 + 1)) (sl := (k9 + ((32 : Int32)).toNatClampNeg)) (z0 := z0) (s0 := s0) dX8_init_24 nW_X8_20 (by omega) (by omega) (by show _ ≤ Z0 - z0; omega) (by show _ ≤ S0 - s0; omega) ?_
  refine ww_dup 27 X dX8_init_27 rfl ?_
  refine ww_sipush 28 X (v := (128 : Int32)) dX8_init_28 (by decide) ?_
  refine ww_callIVa 31 X (sz := ((z9 + 1) + 1)) (sl := ((k9 + ((32 : Int32)).toNatClampNeg) + 3)) (z0 := z0) (s0 := s0) dX8_init_31 mY_X0_init mL_X8_22 (As := [.int (128 : Int32)]) (rest := [.ref (z9 + 1), .ref l0]) rfl rfl ⟨Nat.le_of_ble_eq_true rfl, Nat.le_of_ble_eq_true rfl⟩ (by omega) (by omega) (by omega) (by omega) (by show _ ≤ Z0 - z0; omega) (by show _ ≤ S0 - s0; omega) (Nat.le_of_ble_eq_true rfl) (fun l D A => c_X0_init l D A e31) ?_
  refine ww_putR 34 X dX8_init_34 (fP_X8_25 _ (Or.inr rfl)) e34 rfl rfl ?_
  refine ww_aload_n 37 X dX8_init_37 0 rfl rfl ?_
  refine ww_newO 38 X (sz := z31) (sl := k31) (z0 := z0) (s0 := s0) dX8_init_38 nW_X8_20 (by omega) (by omega) (by show _ ≤ Z0 - z0; omega) (by show _ ≤ S0 - s0; omega) ?_
  refine ww_dup 41 X dX8_init_41 rfl ?_
  refine ww_sipush 42 X (v := (128 : Int32)) dX8_init_42 (by decide) ?_
  refine ww_callIVa 45 X (sz := (z31 + 1)) (sl := (k31 + 3)) (z0 := z0) (s0 := s0) dX8_init_45 mY_X0_init mL_X8_22 (As := [.int (128 : Int32)]) (rest := [.ref z31, .ref l0]) rfl rfl ⟨Nat.le_of_ble_eq_true rfl, Nat.le_of_ble_eq_true rfl⟩ (by omega) (by omega) (by omega) (by omega) (by show _ ≤ Z0 - z0; omega) (by show _ ≤ S0 - s0; omega) (Nat.le_of_ble_eq_true rfl) (fun l D A => c_X0_init l D A e45) ?_
  refine ww_putR 48 X dX8_init_48 (fP_X8_29 _ (Or.inr rfl)) e48 rfl rfl ?_
  refine ww_aload_n 51 X dX8_init_51 0 rfl rfl ?_
  refine ww_newO 52 X (sz := z45) (sl := k45) (z0 := z0) (s0 := s0) dX8_init_52 nW_X8_20 (by omega) (by omega) (by show _ ≤ Z0 - z0; omega) (by show _ ≤ S0 - s0; omega) ?_
  refine ww_dup 55 X dX8_init_55 rfl ?_
  refine ww_bipush 56 X (v := (32 : Int32)) dX8_init_56 (by decide) ?_
  refine ww_callIVa 58 X (sz := (z45 + 1)) (sl := (k45 + 3)) (z0 := z0) (s0 := s0) dX8_init_58 mY_X0_init mL_X8_22 (As := [.int (32 : Int32)]) (rest := [.ref z45, .ref l0]) rfl rfl ⟨Nat.le_of_ble_eq_true rfl, Nat.le_of_ble_eq_true rfl⟩ (by omega) (by omega) (by omega) (by omega) (by show _ ≤ Z0 - z0; omega) (by show _ ≤ S0 - s0; omega) (Nat.le_of_ble_eq_true rfl) (fun l D A => c_X0_init l D A e58) ?_
  refine ww_putR 61 X dX8_init_61 (fP_X8_32 _ (Or.inr rfl)) e61 rfl rfl ?_
  refine ww_aload_n 64 X dX8_init_64 0 rfl rfl ?_
  refine ww_aload_n 65 X dX8_init_65 1 rfl rfl ?_
  refine ww_putR 66 X dX8_init_66 (fP_X8_35 _ (Or.inr rfl)) e66 rfl rfl ?_
  exact ww_vretA 69 X hQ dX8_init_69 h
theorem c_X8_init {G : mG} {F : Nat} {M0 : mM} {Z0 S0 : Nat} (l : Launch) (D : mD) (A : Nat → Prop) {l0 : Nat} {l1 : Nat} {M : mM} {sz : Nat} {sl : Nat} (h : P_X8_init G F l0 l1 M sz sl = some (M0, Z0, S0)) : mMetV l D G A yX8_init cX8_init 2 none 2 42 (Z0 - sz) (S0 - sl) [.ref l0, .ref l1] M sz M0 Z0 := mMetV_of l D G A (by decide) (Nat.le_of_ble_eq_true rfl) (fun x X hQ => by have K := wP_X8_init X hQ (Nat.le_refl sz) (Nat.le_refl sl) h; rw [Nat.sub_self, Nat.sub_self] at K; exact K)
/-! SealedTokens$Rsa.raise(LSealedTokens$Bytes;LSealedTokens$Bytes;LSealedTokens$Bytes;LSealedTokens$Bytes;)V -/
theorem dX8_raise_0 : decode cX8_raise 0 = .ok (.aload_n 0, 1) := by decide +kernel
theorem dX8_raise_1 : decode cX8_raise 1 = .ok (.getfield 10, 3) := by decide +kernel
theorem dX8_raise_4 : decode cX8_raise 4 = .ok (.aload_n 3, 1) := by decide +kernel
theorem dX8_raise_5 : decode cX8_raise 5 = .ok (.invokevirtual 39, 3) := by decide +kernel
theorem dX8_raise_8 : decode cX8_raise 8 = .ok (.aload_n 0, 1) := by decide +kernel
theorem dX8_raise_9 : decode cX8_raise 9 = .ok (.getfield 10, 3) := by decide +kernel
theorem dX8_raise_12 : decode cX8_raise 12 = .ok (.aload_n 1, 1) := by decide +kernel
theorem dX8_raise_13 : decode cX8_raise 13 = .ok (.iconst 0, 1) := by decide +kernel
theorem dX8_raise_14 : decode cX8_raise 14 = .ok (.aload_n 1, 1) := by decide +kernel
theorem dX8_raise_15 : decode cX8_raise 15 = .ok (.getfield 43, 3) := by decide +kernel
theorem dX8_raise_18 : decode cX8_raise 18 = .ok (.aload_n 0, 1) := by decide +kernel
theorem dX8_raise_19 : decode cX8_raise 19 = .ok (.getfield 16, 3) := by decide +kernel
theorem dX8_raise_22 : decode cX8_raise 22 = .ok (.invokevirtual 47, 3) := by decide +kernel
theorem dX8_raise_25 : decode cX8_raise 25 = .ok (.aload_n 0, 1) := by decide +kernel
theorem dX8_raise_26 : decode cX8_raise 26 = .ok (.getfield 10, 3) := by decide +kernel
theorem dX8_raise_29 : decode cX8_raise 29 = .ok (.aload_n 0, 1) := by decide +kernel
theorem dX8_raise_30 : decode cX8_raise 30 = .ok (.getfield 16, 3) := by decide +kernel
theorem dX8_raise_33 : decode cX8_raise 33 = .ok (.aload_n 2, 1) := by decide +kernel
theorem dX8_raise_34 : decode cX8_raise 34 = .ok (.aload_n 0, 1) := by decide +kernel
theorem dX8_raise_35 : decode cX8_raise 35 = .ok (.getfield 16, 3) := by decide +kernel
theorem dX8_raise_38 : decode cX8_raise 38 = .ok (.invokevirtual 51, 3) := by decide +kernel
theorem dX8_raise_41 : decode cX8_raise 41 = .ok (.aload 4, 2) := by decide +kernel
theorem dX8_raise_43 : decode cX8_raise 43 = .ok (.invokevirtual 55, 3) := by decide +kernel
theorem dX8_raise_46 : decode cX8_raise 46 = .ok (.aload_n 0, 1) := by decide +kernel
theorem dX8_raise_47 : decode cX8_raise 47 = .ok (.getfield 10, 3) := by decide +kernel
theorem dX8_raise_50 : decode cX8_raise 50 = .ok (.aload_n 0, 1) := by decide +kernel
theorem dX8_raise_51 : decode cX8_raise 51 = .ok (.getfield 16, 3) := by decide +kernel
theorem dX8_raise_54 : decode cX8_raise 54 = .ok (.aload_n 3, 1) := by decide +kernel
theorem dX8_raise_55 : decode cX8_raise 55 = .ok (.getfield 43, 3) := by decide +kernel
theorem dX8_raise_58 : decode cX8_raise 58 = .ok (.aload 4, 2) := by decide +kernel
theorem dX8_raise_60 : decode cX8_raise 60 = .ok (.invokevirtual 58, 3) := by decide +kernel
theorem dX8_raise_63 : decode cX8_raise 63 = .ok (.return_, 1) := by decide +kernel
abbrev rmX8_raise : Room := { frames := 4, cells := 0, slots := 0, locals := 144 }
set_option maxHeartbeats 4000000 in
set_option maxRecDepth 100000 in
theorem wP_X8_raise {G : mG} {F : Nat} {x : mXT} {sz : Nat} {M0 : mM} (X : mCX G RX8 cX8_raise 5 none "raise" rmX8_raise x) (hQ : mQV x M0 (sz, 0, 0)) {l0 : Nat} {l1 : Nat} {l2 : Nat} {l3 : Nat} {l4 : Nat} {M : mM} (h : P_X8_raise G F l0 l1 l2 l3 l4 M = some M0) : WW x (sz, 0, 0) M 0 [(0, .ref l0), (1, .ref l1), (2, .ref l2), (3, .ref l3), (4, .ref l4)] [] := by
  unfold P_X8_raise at h
  refine ww_aload_n 0 X dX8_raise_0 0 rfl rfl ?_
  obtain ⟨v1, e1, h⟩ := bO_some h
  refine ww_getR 1 X dX8_raise_1 fG_X8_10 e1 ?_
  refine ww_aload_n 4 X dX8_raise_4 3 rfl rfl ?_
  obtain ⟨_, f5, h⟩ := bO_some h
  obtain ⟨M5, e5, h⟩ := bO_some h
  refine ww_callVV0 5 X dX8_raise_5 mY_X6_become mL_X8_39 (rcv_spec f5) ⟨_, _, rfl⟩ (by decide) (As := [.ref l3]) (rest := []) rfl rfl ⟨Nat.le_of_ble_eq_true rfl, Nat.le_of_ble_eq_true rfl⟩ (Nat.le_of_ble_eq_true rfl) (fun l D A => c_X6_become l D A e5) ?_
  refine ww_aload_n 8 X dX8_raise_8 0 rfl rfl ?_
  obtain ⟨v9, e9, h⟩ := bO_some h
  refine ww_getR 9 X dX8_raise_9 fG_X8_10 e9 ?_
  refine ww_aload_n 12 X dX8_raise_12 1 rfl rfl ?_
  refine ww_iconst 13 X (v := (0 : Int32)) dX8_raise_13 (by decide) ?_
  refine ww_aload_n 14 X dX8_raise_14 1 rfl rfl ?_
  obtain ⟨v15, e15, h⟩ := bO_some h
  refine ww_getI 15 X dX8_raise_15 fG_X8_43 e15 ?_
  refine ww_aload_n 18 X dX8_raise_18 0 rfl rfl ?_
  obtain ⟨v19, e19, h⟩ := bO_some h
  refine ww_getR 19 X dX8_raise_19 fG_X8_16 e19 ?_
  obtain ⟨_, f22, h⟩ := bO_some h
  obtain ⟨M22, e22, h⟩ := bO_some h
  refine ww_callVV0 22 X dX8_raise_22 mY_X6_take mL_X8_47 (rcv_spec f22) ⟨_, _, rfl⟩ (by decide) (As := [.ref l1, .int (0 : Int32), .int v15, .ref v19]) (rest := []) rfl rfl ⟨Nat.le_of_ble_eq_true rfl, Nat.le_of_ble_eq_true rfl⟩ (Nat.le_of_ble_eq_true rfl) (fun l D A => c_X6_take l D A e22) ?_
  refine ww_aload_n 25 X dX8_raise_25 0 rfl rfl ?_
  obtain ⟨v26, e26, h⟩ := bO_some h
  refine ww_getR 26 X dX8_raise_26 fG_X8_10 e26 ?_
  refine ww_aload_n 29 X dX8_raise_29 0 rfl rfl ?_
  obtain ⟨v30, e30, h⟩ := bO_some h
  refine ww_getR 30 X dX8_raise_30 fG_X8_16 e30 ?_
  refine ww_aload_n 33 X dX8_raise_33 2 rfl rfl ?_
  refine ww_aload_n 34 X dX8_raise_34 0 rfl rfl ?_
  obtain ⟨v35, e35, h⟩ := bO_some h
  refine ww_getR 35 X dX8_raise_35 fG_X8_16 e35 ?_
  obtain ⟨_, f38, h⟩ := bO_some h
  obtain ⟨M38, e38, h⟩ := bO_some h
  refine ww_callVV0 38 X dX8_raise_38 mY_X6_raise mL_X8_51 (rcv_spec f38) ⟨_, _, rfl⟩ (by decide) (As := [.ref v30, .ref l2, .ref v35]) (rest := []) rfl rfl ⟨Nat.le_of_ble_eq_true rfl, Nat.le_of_ble_eq_true rfl⟩ (Nat.le_of_ble_eq_true rfl) (fun l D A => c_X6_raise l D A e38) ?_
  refine ww_aload 41 X dX8_raise_41 4 rfl ?_
  obtain ⟨_, f43, h⟩ := bO_some h
  obtain ⟨M43, e43, h⟩ := bO_some h
  refine ww_callVV0 43 X dX8_raise_43 mY_X0_clear mL_X8_55 (rcv_spec f43) ⟨_, _, rfl⟩ (by decide) (As := []) (rest := []) rfl rfl ⟨Nat.le_of_ble_eq_true rfl, Nat.le_of_ble_eq_true rfl⟩ (Nat.le_of_ble_eq_true rfl) (fun l D A => c_X0_clear l D A e43) ?_
  refine ww_aload_n 46 X dX8_raise_46 0 rfl rfl ?_
  obtain ⟨v47, e47, h⟩ := bO_some h
  refine ww_getR 47 X dX8_raise_47 fG_X8_10 e47 ?_
  refine ww_aload_n 50 X dX8_raise_50 0 rfl rfl ?_
  obtain ⟨v51, e51, h⟩ := bO_some h
  refine ww_getR 51 X dX8_raise_51 fG_X8_16 e51 ?_
  refine ww_aload_n 54 X dX8_raise_54 3 rfl rfl ?_
  obtain ⟨v55, e55, h⟩ := bO_some h
  refine ww_getI 55 X dX8_raise_55 fG_X8_43 e55 ?_
  refine ww_aload 58 X dX8_raise_58 4 rfl ?_
  obtain ⟨_, f60, h⟩ := bO_some h
  obtain ⟨M60, e60, h⟩ := bO_some h
  refine ww_callVV0 60 X dX8_raise_60 mY_X6_give mL_X8_58 (rcv_spec f60) ⟨_, _, rfl⟩ (by decide) (As := [.ref v51, .int v55, .ref l4]) (rest := []) rfl rfl ⟨Nat.le_of_ble_eq_true rfl, Nat.le_of_ble_eq_true rfl⟩ (Nat.le_of_ble_eq_true rfl) (fun l D A => c_X6_give l D A e60) ?_
  exact ww_vretE 63 X hQ dX8_raise_63 h
theorem c_X8_raise {G : mG} {F sz : Nat} {M0 : mM} (l : Launch) (D : mD) (A : Nat → Prop) {l0 : Nat} {l1 : Nat} {l2 : Nat} {l3 : Nat} {l4 : Nat} {M : mM} (h : P_X8_raise G F l0 l1 l2 l3 l4 M = some M0) : mMetV l D G A yX8_raise cX8_raise 5 none 4 144 0 0 [.ref l0, .ref l1, .ref l2, .ref l3, .ref l4] M sz M0 sz := mMetV_of l D G A (by decide) (Nat.le_of_ble_eq_true rfl) (fun x X hQ => wP_X8_raise X hQ h)
/-! SealedTokens$Rsa.isPair(LSealedTokens$Bytes;LSealedTokens$Bytes;LSealedTokens$Bytes;)Z -/
theorem dX8_isPair_0 : decode cX8_isPair 0 = .ok (.aload_n 0, 1) := by decide +kernel
theorem dX8_isPair_1 : decode cX8_isPair 1 = .ok (.getfield 25, 3) := by decide +kernel
theorem dX8_isPair_4 : decode cX8_isPair 4 = .ok (.invokevirtual 55, 3) := by decide +kernel
theorem dX8_isPair_7 : decode cX8_isPair 7 = .ok (.aload_n 0, 1) := by decide +kernel
theorem dX8_isPair_8 : decode cX8_isPair 8 = .ok (.getfield 25, 3) := by decide +kernel
theorem dX8_isPair_11 : decode cX8_isPair 11 = .ok (.iconst 2, 1) := by decide +kernel
theorem dX8_isPair_12 : decode cX8_isPair 12 = .ok (.invokevirtual 62, 3) := by decide +kernel
theorem dX8_isPair_15 : decode cX8_isPair 15 = .ok (.aload_n 0, 1) := by decide +kernel
theorem dX8_isPair_16 : decode cX8_isPair 16 = .ok (.aload_n 0, 1) := by decide +kernel
theorem dX8_isPair_17 : decode cX8_isPair 17 = .ok (.getfield 25, 3) := by decide +kernel
theorem dX8_isPair_20 : decode cX8_isPair 20 = .ok (.aload_n 2, 1) := by decide +kernel
theorem dX8_isPair_21 : decode cX8_isPair 21 = .ok (.aload_n 1, 1) := by decide +kernel
theorem dX8_isPair_22 : decode cX8_isPair 22 = .ok (.aload_n 0, 1) := by decide +kernel
theorem dX8_isPair_23 : decode cX8_isPair 23 = .ok (.getfield 29, 3) := by decide +kernel
theorem dX8_isPair_26 : decode cX8_isPair 26 = .ok (.invokevirtual 65, 3) := by decide +kernel
theorem dX8_isPair_29 : decode cX8_isPair 29 = .ok (.aload_n 0, 1) := by decide +kernel
theorem dX8_isPair_30 : decode cX8_isPair 30 = .ok (.aload_n 0, 1) := by decide +kernel
theorem dX8_isPair_31 : decode cX8_isPair 31 = .ok (.getfield 29, 3) := by decide +kernel
theorem dX8_isPair_34 : decode cX8_isPair 34 = .ok (.aload_n 3, 1) := by decide +kernel
theorem dX8_isPair_35 : decode cX8_isPair 35 = .ok (.aload_n 1, 1) := by decide +kernel
theorem dX8_isPair_36 : decode cX8_isPair 36 = .ok (.aload_n 0, 1) := by decide +kernel
theorem dX8_isPair_37 : decode cX8_isPair 37 = .ok (.getfield 25, 3) := by decide +kernel
theorem dX8_isPair_40 : decode cX8_isPair 40 = .ok (.invokevirtual 65, 3) := by decide +kernel
theorem dX8_isPair_43 : decode cX8_isPair 43 = .ok (.iconst 0, 1) := by decide +kernel
theorem dX8_isPair_44 : decode cX8_isPair 44 = .ok (.istore 4, 2) := by decide +kernel
theorem dX8_isPair_46 : decode cX8_isPair 46 = .ok (.iload 4, 2) := by decide +kernel
theorem dX8_isPair_48 : decode cX8_isPair 48 = .ok (.aload_n 1, 1) := by decide +kernel
theorem dX8_isPair_49 : decode cX8_isPair 49 = .ok (.getfield 43, 3) := by decide +kernel
theorem dX8_isPair_52 : decode cX8_isPair 52 = .ok (.iconst 1, 1) := by decide +kernel
theorem dX8_isPair_53 : decode cX8_isPair 53 = .ok (.isub, 1) := by decide +kernel
theorem dX8_isPair_54 : decode cX8_isPair 54 = .ok (.if_icmp .ge 23, 3) := by decide +kernel
theorem dX8_isPair_57 : decode cX8_isPair 57 = .ok (.aload_n 0, 1) := by decide +kernel
theorem dX8_isPair_58 : decode cX8_isPair 58 = .ok (.getfield 25, 3) := by decide +kernel
theorem dX8_isPair_61 : decode cX8_isPair 61 = .ok (.iload 4, 2) := by decide +kernel
theorem dX8_isPair_63 : decode cX8_isPair 63 = .ok (.invokevirtual 68, 3) := by decide +kernel
theorem dX8_isPair_66 : decode cX8_isPair 66 = .ok (.ifCond .eq 5, 3) := by decide +kernel
theorem dX8_isPair_69 : decode cX8_isPair 69 = .ok (.iconst 0, 1) := by decide +kernel
theorem dX8_isPair_70 : decode cX8_isPair 70 = .ok (.ireturn, 1) := by decide +kernel
theorem dX8_isPair_71 : decode cX8_isPair 71 = .ok (.iinc 4 1, 3) := by decide +kernel
theorem dX8_isPair_74 : decode cX8_isPair 74 = .ok (.goto (-28), 3) := by decide +kernel
theorem dX8_isPair_77 : decode cX8_isPair 77 = .ok (.aload_n 0, 1) := by decide +kernel
theorem dX8_isPair_78 : decode cX8_isPair 78 = .ok (.getfield 25, 3) := by decide +kernel
theorem dX8_isPair_81 : decode cX8_isPair 81 = .ok (.aload_n 1, 1) := by decide +kernel
theorem dX8_isPair_82 : decode cX8_isPair 82 = .ok (.getfield 43, 3) := by decide +kernel
theorem dX8_isPair_85 : decode cX8_isPair 85 = .ok (.iconst 1, 1) := by decide +kernel
theorem dX8_isPair_86 : decode cX8_isPair 86 = .ok (.isub, 1) := by decide +kernel
theorem dX8_isPair_87 : decode cX8_isPair 87 = .ok (.invokevirtual 68, 3) := by decide +kernel
theorem dX8_isPair_90 : decode cX8_isPair 90 = .ok (.iconst 2, 1) := by decide +kernel
theorem dX8_isPair_91 : decode cX8_isPair 91 = .ok (.if_icmp .ne 7, 3) := by decide +kernel
theorem dX8_isPair_94 : decode cX8_isPair 94 = .ok (.iconst 1, 1) := by decide +kernel
theorem dX8_isPair_95 : decode cX8_isPair 95 = .ok (.goto 4, 3) := by decide +kernel
theorem dX8_isPair_98 : decode cX8_isPair 98 = .ok (.iconst 0, 1) := by decide +kernel
theorem dX8_isPair_99 : decode cX8_isPair 99 = .ok (.ireturn, 1) := by decide +kernel
abbrev rmX8_isPair : Room := { frames := 5, cells := 0, slots := 0, locals := 168 }
set_option maxHeartbeats 4000000 in
set_option maxRecDepth 100000 in
theorem wB_X8_isPair_46 {G : mG} {F : Nat} {x : mXT} {sz : Nat} {r0 : Int32} {M0 : mM} (X : mCX G RX8 cX8_isPair 5 (some .boolean) "isPair" rmX8_isPair x) (hQ : mQI x r0 M0 (sz, 0, 0)) : ∀ (n : Nat) (l0 : Nat) (l1 : Nat) (l4 : Int32) (M : mM), B_X8_isPair_46 G F n l0 l1 l4 M = some (r0, M0) → WW x (sz, 0, 0) M 46 [(0, .ref l0), (1, .ref l1), (4, .int l4)] [] := by
  intro n
  induction n with
  | zero =>
    intro l0 l1 l4 M h
    exact nomatch (show (none : Option (Int32 × mM)) = some (r0, M0) from h)
  | succ n ih =>
    intro l0 l1 l4 M h
    rw [B_X8_isPair_46] at h
    refine ww_iload 46 X dX8_isPair_46 2 rfl ?_
    refine ww_aload_n 48 X dX8_isPair_48 1 rfl rfl ?_
    obtain ⟨v49, e49, h⟩ := bO_some h
    refine ww_getI 49 X dX8_isPair_49 fG_X8_43 e49 ?_
    refine ww_iconst 52 X (v := (1 : Int32)) dX8_isPair_52 (by decide) ?_
    refine ww_isub 53 X dX8_isPair_53 ?_
    refine ww_icmp_ge 54 77 X dX8_isPair_54 (by decide) (fun q => ?_) (fun q => ?_)
    · replace h := (if_pos q).symm.trans h
      refine ww_aload_n 77 X dX8_isPair_77 0 rfl rfl ?_
      obtain ⟨v78, e78, h⟩ := bO_some h
      refine ww_getR 78 X dX8_isPair_78 fG_X8_25 e78 ?_
      refine ww_aload_n 81 X dX8_isPair_81 1 rfl rfl ?_
      obtain ⟨v82, e82, h⟩ := bO_some h
      refine ww_getI 82 X dX8_isPair_82 fG_X8_43 e82 ?_
      refine ww_iconst 85 X (v := (1 : Int32)) dX8_isPair_85 (by decide) ?_
      refine ww_isub 86 X dX8_isPair_86 ?_
      obtain ⟨_, f87, h⟩ := bO_some h
      obtain ⟨v87, M87, e87, h⟩ := bP_some h
      refine ww_callVI0 87 X dX8_isPair_87 mY_X0_get mL_X8_68 (rcv_spec f87) ⟨_, _, rfl⟩ (by decide) (As := [.int (v82 - (1 : Int32))]) (rest := []) rfl rfl ⟨Nat.le_of_ble_eq_true rfl, Nat.le_of_ble_eq_true rfl⟩ (Nat.le_of_ble_eq_true rfl) (fun l D A => c_X0_get l D A e87) ?_
      refine ww_iconst 90 X (v := (2 : Int32)) dX8_isPair_90 (by decide) ?_
      refine ww_icmp_ne 91 98 X dX8_isPair_91 (by decide) (fun q => ?_) (fun q => ?_)
      · replace h := (if_neg q).symm.trans h
        refine ww_iconst 98 X (v := (0 : Int32)) dX8_isPair_98 (by decide) ?_
        exact ww_zretE 99 X hQ dX8_isPair_99 h
      · replace h := (if_pos q).symm.trans h
        refine ww_iconst 94 X (v := (1 : Int32)) dX8_isPair_94 (by decide) ?_
        refine ww_goto 95 99 X dX8_isPair_95 (by decide) ?_
        exact ww_zretE 99 X hQ dX8_isPair_99 h
    · replace h := (if_neg q).symm.trans h
      refine ww_aload_n 57 X dX8_isPair_57 0 rfl rfl ?_
      obtain ⟨v58, e58, h⟩ := bO_some h
      refine ww_getR 58 X dX8_isPair_58 fG_X8_25 e58 ?_
      refine ww_iload 61 X dX8_isPair_61 2 rfl ?_
      obtain ⟨_, f63, h⟩ := bO_some h
      obtain ⟨v63, M63, e63, h⟩ := bP_some h
      refine ww_callVI0 63 X dX8_isPair_63 mY_X0_get mL_X8_68 (rcv_spec f63) ⟨_, _, rfl⟩ (by decide) (As := [.int l4]) (rest := []) rfl rfl ⟨Nat.le_of_ble_eq_true rfl, Nat.le_of_ble_eq_true rfl⟩ (Nat.le_of_ble_eq_true rfl) (fun l D A => c_X0_get l D A e63) ?_
      refine ww_if_eq 66 71 X dX8_isPair_66 (by decide) (fun q => ?_) (fun q => ?_)
      · replace h := (if_pos q).symm.trans h
        refine ww_iinc 71 X dX8_isPair_71 (lv' := [(0, .ref l0), (1, .ref l1), (4, .int (l4 + 1))]) 2 rfl rfl (by decide) [1, 2, 0] rfl ?_
        refine ww_goto 74 46 X dX8_isPair_74 (by decide) ?_
        exact (ih _ _ _ _ h)
      · replace h := (if_neg q).symm.trans h
        refine ww_iconst 69 X (v := (0 : Int32)) dX8_isPair_69 (by decide) ?_
        exact ww_zretE 70 X hQ dX8_isPair_70 h
set_option maxHeartbeats 4000000 in
set_option maxRecDepth 100000 in
theorem wP_X8_isPair {G : mG} {F : Nat} {x : mXT} {sz : Nat} {r0 : Int32} {M0 : mM} (X : mCX G RX8 cX8_isPair 5 (some .boolean) "isPair" rmX8_isPair x) (hQ : mQI x r0 M0 (sz, 0, 0)) {l0 : Nat} {l1 : Nat} {l2 : Nat} {l3 : Nat} {M : mM} (h : P_X8_isPair G F l0 l1 l2 l3 M = some (r0, M0)) : WW x (sz, 0, 0) M 0 [(0, .ref l0), (1, .ref l1), (2, .ref l2), (3, .ref l3)] [] := by
  unfold P_X8_isPair at h
  refine ww_aload_n 0 X dX8_isPair_0 0 rfl rfl ?_
  obtain ⟨v1, e1, h⟩ := bO_some h
  refine ww_getR 1 X dX8_isPair_1 fG_X8_25 e1 ?_
  obtain ⟨_, f4, h⟩ := bO_some h
  obtain ⟨M4, e4, h⟩ := bO_some h
  refine ww_callVV0 4 X dX8_isPair_4 mY_X0_clear mL_X8_55 (rcv_spec f4) ⟨_, _, rfl⟩ (by decide) (As := []) (rest := []) rfl rfl ⟨Nat.le_of_ble_eq_true rfl, Nat.le_of_ble_eq_true rfl⟩ (Nat.le_of_ble_eq_true rfl) (fun l D A => c_X0_clear l D A e4) ?_
  refine ww_aload_n 7 X dX8_isPair_7 0 rfl rfl ?_
  obtain ⟨v8, e8, h⟩ := bO_some h
  refine ww_getR 8 X dX8_isPair_8 fG_X8_25 e8 ?_
  refine ww_iconst 11 X (v := (2 : Int32)) dX8_isPair_11 (by decide) ?_
  obtain ⟨_, f12, h⟩ := bO_some h
  obtain ⟨M12, e12, h⟩ := bO_some h
  refine ww_callVV0 12 X dX8_isPair_12 mY_X0_put mL_X8_62 (rcv_spec f12) ⟨_, _, rfl⟩ (by decide) (As := [.int (2 : Int32)]) (rest := []) rfl rfl ⟨Nat.le_of_ble_eq_true rfl, Nat.le_of_ble_eq_true rfl⟩ (Nat.le_of_ble_eq_true rfl) (fun l D A => c_X0_put l D A e12) ?_
  refine ww_aload_n 15 X dX8_isPair_15 0 rfl rfl ?_
  refine ww_aload_n 16 X dX8_isPair_16 0 rfl rfl ?_
  obtain ⟨v17, e17, h⟩ := bO_some h
  refine ww_getR 17 X dX8_isPair_17 fG_X8_25 e17 ?_
  refine ww_aload_n 20 X dX8_isPair_20 2 rfl rfl ?_
  refine ww_aload_n 21 X dX8_isPair_21 1 rfl rfl ?_
  refine ww_aload_n 22 X dX8_isPair_22 0 rfl rfl ?_
  obtain ⟨v23, e23, h⟩ := bO_some h
  refine ww_getR 23 X dX8_isPair_23 fG_X8_29 e23 ?_
  obtain ⟨_, f26, h⟩ := bO_some h
  obtain ⟨M26, e26, h⟩ := bO_some h
  refine ww_callVV0 26 X dX8_isPair_26 mY_X8_raise mL_X8_65 (rcv_spec f26) ⟨_, _, rfl⟩ (by decide) (As := [.ref v17, .ref l2, .ref l1, .ref v23]) (rest := []) rfl rfl ⟨Nat.le_of_ble_eq_true rfl, Nat.le_of_ble_eq_true rfl⟩ (Nat.le_of_ble_eq_true rfl) (fun l D A => c_X8_raise l D A e26) ?_
  refine ww_aload_n 29 X dX8_isPair_29 0 rfl rfl ?_
  refine ww_aload_n 30 X dX8_isPair_30 0 rfl rfl ?_
  obtain ⟨v31, e31, h⟩ := bO_some h
  refine ww_getR 31 X dX8_isPair_31 fG_X8_29 e31 ?_
  refine ww_aload_n 34 X dX8_isPair_34 3 rfl rfl ?_
  refine ww_aload_n 35 X dX8_isPair_35 1 rfl rfl ?_
  refine ww_aload_n 36 X dX8_isPair_36 0 rfl rfl ?_
  obtain ⟨v37, e37, h⟩ := bO_some h
  refine ww_getR 37 X dX8_isPair_37 fG_X8_25 e37 ?_
  obtain ⟨_, f40, h⟩ := bO_some h
  obtain ⟨M40, e40, h⟩ := bO_some h
  refine ww_callVV0 40 X dX8_isPair_40 mY_X8_raise mL_X8_65 (rcv_spec f40) ⟨_, _, rfl⟩ (by decide) (As := [.ref v31, .ref l3, .ref l1, .ref v37]) (rest := []) rfl rfl ⟨Nat.le_of_ble_eq_true rfl, Nat.le_of_ble_eq_true rfl⟩ (Nat.le_of_ble_eq_true rfl) (fun l D A => c_X8_raise l D A e40) ?_
  refine ww_iconst 43 X (v := (0 : Int32)) dX8_isPair_43 (by decide) ?_
  refine ww_istore 44 X dX8_isPair_44 (lv' := [(0, .ref l0), (1, .ref l1), (2, .ref l2), (3, .ref l3), (4, .int (0 : Int32))]) (by decide) [1, 2, 3, 4, 0] rfl ?_
  exact ww_sub [0, 1, 4] rfl (wB_X8_isPair_46 X hQ F _ _ _ _ h)
theorem c_X8_isPair {G : mG} {F sz : Nat} {r0 : Int32} {M0 : mM} (l : Launch) (D : mD) (A : Nat → Prop) {l0 : Nat} {l1 : Nat} {l2 : Nat} {l3 : Nat} {M : mM} (h : P_X8_isPair G F l0 l1 l2 l3 M = some (r0, M0)) : mMetI l D G A yX8_isPair cX8_isPair 5 (some .boolean) 5 168 0 0 [.ref l0, .ref l1, .ref l2, .ref l3] M sz r0 M0 sz := mMetI_of l D G A (by decide) (Nat.le_of_ble_eq_true rfl) (fun x X hQ => wP_X8_isPair X hQ h)
/-! SealedTokens$Rsa.framePkcs(LSealedTokens$Bytes;I)V -/
theorem dX8_framePkcs_0 : decode cX8_framePkcs 0 = .ok (.aload_n 0, 1) := by decide +kernel
theorem dX8_framePkcs_1 : decode cX8_framePkcs 1 = .ok (.getfield 25, 3) := by decide +kernel
theorem dX8_framePkcs_4 : decode cX8_framePkcs 4 = .ok (.invokevirtual 55, 3) := by decide +kernel
theorem dX8_framePkcs_7 : decode cX8_framePkcs 7 = .ok (.aload_n 0, 1) := by decide +kernel
theorem dX8_framePkcs_8 : decode cX8_framePkcs 8 = .ok (.getfield 25, 3) := by decide +kernel
theorem dX8_framePkcs_11 : decode cX8_framePkcs 11 = .ok (.iconst 0, 1) := by decide +kernel
theorem dX8_framePkcs_12 : decode cX8_framePkcs 12 = .ok (.invokevirtual 62, 3) := by decide +kernel
theorem dX8_framePkcs_15 : decode cX8_framePkcs 15 = .ok (.aload_n 0, 1) := by decide +kernel
theorem dX8_framePkcs_16 : decode cX8_framePkcs 16 = .ok (.getfield 25, 3) := by decide +kernel
theorem dX8_framePkcs_19 : decode cX8_framePkcs 19 = .ok (.iconst 1, 1) := by decide +kernel
theorem dX8_framePkcs_20 : decode cX8_framePkcs 20 = .ok (.invokevirtual 62, 3) := by decide +kernel
theorem dX8_framePkcs_23 : decode cX8_framePkcs 23 = .ok (.aload_n 0, 1) := by decide +kernel
theorem dX8_framePkcs_24 : decode cX8_framePkcs 24 = .ok (.getfield 25, 3) := by decide +kernel
theorem dX8_framePkcs_27 : decode cX8_framePkcs 27 = .ok (.sipush 255, 3) := by decide +kernel
theorem dX8_framePkcs_30 : decode cX8_framePkcs 30 = .ok (.iload_n 2, 1) := by decide +kernel
theorem dX8_framePkcs_31 : decode cX8_framePkcs 31 = .ok (.iconst 3, 1) := by decide +kernel
theorem dX8_framePkcs_32 : decode cX8_framePkcs 32 = .ok (.isub, 1) := by decide +kernel
theorem dX8_framePkcs_33 : decode cX8_framePkcs 33 = .ok (.getstatic 72, 3) := by decide +kernel
theorem dX8_framePkcs_36 : decode cX8_framePkcs 36 = .ok (.arraylength, 1) := by decide +kernel
theorem dX8_framePkcs_37 : decode cX8_framePkcs 37 = .ok (.isub, 1) := by decide +kernel
theorem dX8_framePkcs_38 : decode cX8_framePkcs 38 = .ok (.bipush 32, 2) := by decide +kernel
theorem dX8_framePkcs_40 : decode cX8_framePkcs 40 = .ok (.isub, 1) := by decide +kernel
theorem dX8_framePkcs_41 : decode cX8_framePkcs 41 = .ok (.invokevirtual 76, 3) := by decide +kernel
theorem dX8_framePkcs_44 : decode cX8_framePkcs 44 = .ok (.aload_n 0, 1) := by decide +kernel
theorem dX8_framePkcs_45 : decode cX8_framePkcs 45 = .ok (.getfield 25, 3) := by decide +kernel
theorem dX8_framePkcs_48 : decode cX8_framePkcs 48 = .ok (.iconst 0, 1) := by decide +kernel
theorem dX8_framePkcs_49 : decode cX8_framePkcs 49 = .ok (.invokevirtual 62, 3) := by decide +kernel
theorem dX8_framePkcs_52 : decode cX8_framePkcs 52 = .ok (.iconst 0, 1) := by decide +kernel
theorem dX8_framePkcs_53 : decode cX8_framePkcs 53 = .ok (.istore_n 3, 1) := by decide +kernel
theorem dX8_framePkcs_54 : decode cX8_framePkcs 54 = .ok (.iload_n 3, 1) := by decide +kernel
theorem dX8_framePkcs_55 : decode cX8_framePkcs 55 = .ok (.getstatic 72, 3) := by decide +kernel
theorem dX8_framePkcs_58 : decode cX8_framePkcs 58 = .ok (.arraylength, 1) := by decide +kernel
theorem dX8_framePkcs_59 : decode cX8_framePkcs 59 = .ok (.if_icmp .ge 21, 3) := by decide +kernel
theorem dX8_framePkcs_62 : decode cX8_framePkcs 62 = .ok (.aload_n 0, 1) := by decide +kernel
theorem dX8_framePkcs_63 : decode cX8_framePkcs 63 = .ok (.getfield 25, 3) := by decide +kernel
theorem dX8_framePkcs_66 : decode cX8_framePkcs 66 = .ok (.getstatic 72, 3) := by decide +kernel
theorem dX8_framePkcs_69 : decode cX8_framePkcs 69 = .ok (.iload_n 3, 1) := by decide +kernel
theorem dX8_framePkcs_70 : decode cX8_framePkcs 70 = .ok (.iaload, 1) := by decide +kernel
theorem dX8_framePkcs_71 : decode cX8_framePkcs 71 = .ok (.invokevirtual 62, 3) := by decide +kernel
theorem dX8_framePkcs_74 : decode cX8_framePkcs 74 = .ok (.iinc 3 1, 3) := by decide +kernel
theorem dX8_framePkcs_77 : decode cX8_framePkcs 77 = .ok (.goto (-23), 3) := by decide +kernel
theorem dX8_framePkcs_80 : decode cX8_framePkcs 80 = .ok (.aload_n 0, 1) := by decide +kernel
theorem dX8_framePkcs_81 : decode cX8_framePkcs 81 = .ok (.getfield 25, 3) := by decide +kernel
theorem dX8_framePkcs_84 : decode cX8_framePkcs 84 = .ok (.aload_n 1, 1) := by decide +kernel
theorem dX8_framePkcs_85 : decode cX8_framePkcs 85 = .ok (.invokevirtual 80, 3) := by decide +kernel
theorem dX8_framePkcs_88 : decode cX8_framePkcs 88 = .ok (.return_, 1) := by decide +kernel
abbrev rmX8_framePkcs : Room := { frames := 3, cells := 0, slots := 0, locals := 105 }
set_option maxHeartbeats 4000000 in
set_option maxRecDepth 100000 in
theorem wB_X8_framePkcs_54 {G : mG} {F : Nat} {x : mXT} {sz : Nat} {M0 : mM} (X : mCX G RX8 cX8_framePkcs 4 none "framePkcs" rmX8_framePkcs x) (hQ : mQV x M0 (sz, 0, 0)) : ∀ (n : Nat) (l0 : Nat) (l1 : Nat) (l3 : Int32) (M : mM), B_X8_framePkcs_54 G F n l0 l1 l3 M = some M0 → WW x (sz, 0, 0) M 54 [(0, .ref l0), (1, .ref l1), (3, .int l3)] [] := by
  intro n
  induction n with
  | zero =>
    intro l0 l1 l3 M h
    exact nomatch (show (none : Option mM) = some M0 from h)
  | succ n ih =>
    intro l0 l1 l3 M h
    rw [B_X8_framePkcs_54] at h
    refine ww_iload_n 54 X dX8_framePkcs_54 2 rfl rfl ?_
    refine ww_gets 55 X dX8_framePkcs_55 gS_X8_72 ?_
    obtain ⟨v58, e58, h⟩ := bO_some h
    refine ww_alen 58 X dX8_framePkcs_58 e58 ?_
    refine ww_icmp_ge 59 80 X dX8_framePkcs_59 (by decide) (fun q => ?_) (fun q => ?_)
    · replace h := (if_pos q).symm.trans h
      refine ww_aload_n 80 X dX8_framePkcs_80 0 rfl rfl ?_
      obtain ⟨v81, e81, h⟩ := bO_some h
      refine ww_getR 81 X dX8_framePkcs_81 fG_X8_25 e81 ?_
      refine ww_aload_n 84 X dX8_framePkcs_84 1 rfl rfl ?_
      obtain ⟨_, f85, h⟩ := bO_some h
      obtain ⟨M85, e85, h⟩ := bO_some h
      refine ww_callVV0 85 X dX8_framePkcs_85 mY_X0_putAll mL_X8_80 (rcv_spec f85) ⟨_, _, rfl⟩ (by decide) (As := [.ref l1]) (rest := []) rfl rfl ⟨Nat.le_of_ble_eq_true rfl, Nat.le_of_ble_eq_true rfl⟩ (Nat.le_of_ble_eq_true rfl) (fun l D A => c_X0_putAll l D A e85) ?_
      exact ww_vretE 88 X hQ dX8_framePkcs_88 h
    · replace h := (if_neg q).symm.trans h
      refine ww_aload_n 62 X dX8_framePkcs_62 0 rfl rfl ?_
      obtain ⟨v63, e63, h⟩ := bO_some h
      refine ww_getR 63 X dX8_framePkcs_63 fG_X8_25 e63 ?_
      refine ww_gets 66 X dX8_framePkcs_66 gS_X8_72 ?_
      refine ww_iload_n 69 X dX8_framePkcs_69 2 rfl rfl ?_
      obtain ⟨v70, e70, h⟩ := bO_some h
      refine ww_iald 70 X dX8_framePkcs_70 e70 ?_
      obtain ⟨_, f71, h⟩ := bO_some h
      obtain ⟨M71, e71, h⟩ := bO_some h
      refine ww_callVV0 71 X dX8_framePkcs_71 mY_X0_put mL_X8_62 (rcv_spec f71) ⟨_, _, rfl⟩ (by decide) (As := [.int v70]) (rest := []) rfl rfl ⟨Nat.le_of_ble_eq_true rfl, Nat.le_of_ble_eq_true rfl⟩ (Nat.le_of_ble_eq_true rfl) (fun l D A => c_X0_put l D A e71) ?_
      refine ww_iinc 74 X dX8_framePkcs_74 (lv' := [(0, .ref l0), (1, .ref l1), (3, .int (l3 + 1))]) 2 rfl rfl (by decide) [1, 2, 0] rfl ?_
      refine ww_goto 77 54 X dX8_framePkcs_77 (by decide) ?_
      exact (ih _ _ _ _ h)
set_option maxHeartbeats 4000000 in
set_option maxRecDepth 100000 in
theorem wP_X8_framePkcs {G : mG} {F : Nat} {x : mXT} {sz : Nat} {M0 : mM} (X : mCX G RX8 cX8_framePkcs 4 none "framePkcs" rmX8_framePkcs x) (hQ : mQV x M0 (sz, 0, 0)) {l0 : Nat} {l1 : Nat} {l2 : Int32} {M : mM} (h : P_X8_framePkcs G F l0 l1 l2 M = some M0) : WW x (sz, 0, 0) M 0 [(0, .ref l0), (1, .ref l1), (2, .int l2)] [] := by
  unfold P_X8_framePkcs at h
  refine ww_aload_n 0 X dX8_framePkcs_0 0 rfl rfl ?_
  obtain ⟨v1, e1, h⟩ := bO_some h
  refine ww_getR 1 X dX8_framePkcs_1 fG_X8_25 e1 ?_
  obtain ⟨_, f4, h⟩ := bO_some h
  obtain ⟨M4, e4, h⟩ := bO_some h
  refine ww_callVV0 4 X dX8_framePkcs_4 mY_X0_clear mL_X8_55 (rcv_spec f4) ⟨_, _, rfl⟩ (by decide) (As := []) (rest := []) rfl rfl ⟨Nat.le_of_ble_eq_true rfl, Nat.le_of_ble_eq_true rfl⟩ (Nat.le_of_ble_eq_true rfl) (fun l D A => c_X0_clear l D A e4) ?_
  refine ww_aload_n 7 X dX8_framePkcs_7 0 rfl rfl ?_
  obtain ⟨v8, e8, h⟩ := bO_some h
  refine ww_getR 8 X dX8_framePkcs_8 fG_X8_25 e8 ?_
  refine ww_iconst 11 X (v := (0 : Int32)) dX8_framePkcs_11 (by decide) ?_
  obtain ⟨_, f12, h⟩ := bO_some h
  obtain ⟨M12, e12, h⟩ := bO_some h
  refine ww_callVV0 12 X dX8_framePkcs_12 mY_X0_put mL_X8_62 (rcv_spec f12) ⟨_, _, rfl⟩ (by decide) (As := [.int (0 : Int32)]) (rest := []) rfl rfl ⟨Nat.le_of_ble_eq_true rfl, Nat.le_of_ble_eq_true rfl⟩ (Nat.le_of_ble_eq_true rfl) (fun l D A => c_X0_put l D A e12) ?_
  refine ww_aload_n 15 X dX8_framePkcs_15 0 rfl rfl ?_
  obtain ⟨v16, e16, h⟩ := bO_some h
  refine ww_getR 16 X dX8_framePkcs_16 fG_X8_25 e16 ?_
  refine ww_iconst 19 X (v := (1 : Int32)) dX8_framePkcs_19 (by decide) ?_
  obtain ⟨_, f20, h⟩ := bO_some h
  obtain ⟨M20, e20, h⟩ := bO_some h
  refine ww_callVV0 20 X dX8_framePkcs_20 mY_X0_put mL_X8_62 (rcv_spec f20) ⟨_, _, rfl⟩ (by decide) (As := [.int (1 : Int32)]) (rest := []) rfl rfl ⟨Nat.le_of_ble_eq_true rfl, Nat.le_of_ble_eq_true rfl⟩ (Nat.le_of_ble_eq_true rfl) (fun l D A => c_X0_put l D A e20) ?_
  refine ww_aload_n 23 X dX8_framePkcs_23 0 rfl rfl ?_
  obtain ⟨v24, e24, h⟩ := bO_some h
  refine ww_getR 24 X dX8_framePkcs_24 fG_X8_25 e24 ?_
  refine ww_sipush 27 X (v := (255 : Int32)) dX8_framePkcs_27 (by decide) ?_
  refine ww_iload_n 30 X dX8_framePkcs_30 2 rfl rfl ?_
  refine ww_iconst 31 X (v := (3 : Int32)) dX8_framePkcs_31 (by decide) ?_
  refine ww_isub 32 X dX8_framePkcs_32 ?_
  refine ww_gets 33 X dX8_framePkcs_33 gS_X8_72 ?_
  obtain ⟨v36, e36, h⟩ := bO_some h
  refine ww_alen 36 X dX8_framePkcs_36 e36 ?_
  refine ww_isub 37 X dX8_framePkcs_37 ?_
  refine ww_bipush 38 X (v := (32 : Int32)) dX8_framePkcs_38 (by decide) ?_
  refine ww_isub 40 X dX8_framePkcs_40 ?_
  obtain ⟨_, f41, h⟩ := bO_some h
  obtain ⟨M41, e41, h⟩ := bO_some h
  refine ww_callVV0 41 X dX8_framePkcs_41 mY_X0_putSame mL_X8_76 (rcv_spec f41) ⟨_, _, rfl⟩ (by decide) (As := [.int (255 : Int32), .int (((l2 - (3 : Int32)) - v36) - (32 : Int32))]) (rest := []) rfl rfl ⟨Nat.le_of_ble_eq_true rfl, Nat.le_of_ble_eq_true rfl⟩ (Nat.le_of_ble_eq_true rfl) (fun l D A => c_X0_putSame l D A e41) ?_
  refine ww_aload_n 44 X dX8_framePkcs_44 0 rfl rfl ?_
  obtain ⟨v45, e45, h⟩ := bO_some h
  refine ww_getR 45 X dX8_framePkcs_45 fG_X8_25 e45 ?_
  refine ww_iconst 48 X (v := (0 : Int32)) dX8_framePkcs_48 (by decide) ?_
  obtain ⟨_, f49, h⟩ := bO_some h
  obtain ⟨M49, e49, h⟩ := bO_some h
  refine ww_callVV0 49 X dX8_framePkcs_49 mY_X0_put mL_X8_62 (rcv_spec f49) ⟨_, _, rfl⟩ (by decide) (As := [.int (0 : Int32)]) (rest := []) rfl rfl ⟨Nat.le_of_ble_eq_true rfl, Nat.le_of_ble_eq_true rfl⟩ (Nat.le_of_ble_eq_true rfl) (fun l D A => c_X0_put l D A e49) ?_
  refine ww_iconst 52 X (v := (0 : Int32)) dX8_framePkcs_52 (by decide) ?_
  refine ww_istore_n 53 X dX8_framePkcs_53 (lv' := [(0, .ref l0), (1, .ref l1), (2, .int l2), (3, .int (0 : Int32))]) rfl (by decide) [1, 2, 3, 0] rfl ?_
  exact ww_sub [0, 1, 3] rfl (wB_X8_framePkcs_54 X hQ F _ _ _ _ h)
theorem c_X8_framePkcs {G : mG} {F sz : Nat} {M0 : mM} (l : Launch) (D : mD) (A : Nat → Prop) {l0 : Nat} {l1 : Nat} {l2 : Int32} {M : mM} (h : P_X8_framePkcs G F l0 l1 l2 M = some M0) : mMetV l D G A yX8_framePkcs cX8_framePkcs 4 none 3 105 0 0 [.ref l0, .ref l1, .int l2] M sz M0 sz := mMetV_of l D G A (by decide) (Nat.le_of_ble_eq_true rfl) (fun x X hQ => wP_X8_framePkcs X hQ h)
/-! SealedTokens$Rsa.signPkcs(LSealedTokens$Bytes;LSealedTokens$Bytes;LSealedTokens$Bytes;LSealedTokens$Bytes;)V -/
theorem dX8_signPkcs_0 : decode cX8_signPkcs 0 = .ok (.aload_n 0, 1) := by decide +kernel
theorem dX8_signPkcs_1 : decode cX8_signPkcs 1 = .ok (.aload_n 1, 1) := by decide +kernel
theorem dX8_signPkcs_2 : decode cX8_signPkcs 2 = .ok (.aload_n 3, 1) := by decide +kernel
theorem dX8_signPkcs_3 : decode cX8_signPkcs 3 = .ok (.getfield 43, 3) := by decide +kernel
theorem dX8_signPkcs_6 : decode cX8_signPkcs 6 = .ok (.invokevirtual 83, 3) := by decide +kernel
theorem dX8_signPkcs_9 : decode cX8_signPkcs 9 = .ok (.aload_n 0, 1) := by decide +kernel
theorem dX8_signPkcs_10 : decode cX8_signPkcs 10 = .ok (.aload_n 0, 1) := by decide +kernel
theorem dX8_signPkcs_11 : decode cX8_signPkcs 11 = .ok (.getfield 25, 3) := by decide +kernel
theorem dX8_signPkcs_14 : decode cX8_signPkcs 14 = .ok (.aload_n 2, 1) := by decide +kernel
theorem dX8_signPkcs_15 : decode cX8_signPkcs 15 = .ok (.aload_n 3, 1) := by decide +kernel
theorem dX8_signPkcs_16 : decode cX8_signPkcs 16 = .ok (.aload 4, 2) := by decide +kernel
theorem dX8_signPkcs_18 : decode cX8_signPkcs 18 = .ok (.invokevirtual 65, 3) := by decide +kernel
theorem dX8_signPkcs_21 : decode cX8_signPkcs 21 = .ok (.return_, 1) := by decide +kernel
abbrev rmX8_signPkcs : Room := { frames := 5, cells := 0, slots := 0, locals := 168 }
set_option maxHeartbeats 4000000 in
set_option maxRecDepth 100000 in
theorem wP_X8_signPkcs {G : mG} {F : Nat} {x : mXT} {sz : Nat} {M0 : mM} (X : mCX G RX8 cX8_signPkcs 5 none "signPkcs" rmX8_signPkcs x) (hQ : mQV x M0 (sz, 0, 0)) {l0 : Nat} {l1 : Nat} {l2 : Nat} {l3 : Nat} {l4 : Nat} {M : mM} (h : P_X8_signPkcs G F l0 l1 l2 l3 l4 M = some M0) : WW x (sz, 0, 0) M 0 [(0, .ref l0), (1, .ref l1), (2, .ref l2), (3, .ref l3), (4, .ref l4)] [] := by
  unfold P_X8_signPkcs at h
  refine ww_aload_n 0 X dX8_signPkcs_0 0 rfl rfl ?_
  refine ww_aload_n 1 X dX8_signPkcs_1 1 rfl rfl ?_
  refine ww_aload_n 2 X dX8_signPkcs_2 3 rfl rfl ?_
  obtain ⟨v3, e3, h⟩ := bO_some h
  refine ww_getI 3 X dX8_signPkcs_3 fG_X8_43 e3 ?_
  obtain ⟨_, f6, h⟩ := bO_some h
  obtain ⟨M6, e6, h⟩ := bO_some h
  refine ww_callVV0 6 X dX8_signPkcs_6 mY_X8_framePkcs mL_X8_83 (rcv_spec f6) ⟨_, _, rfl⟩ (by decide) (As := [.ref l1, .int v3]) (rest := []) rfl rfl ⟨Nat.le_of_ble_eq_true rfl, Nat.le_of_ble_eq_true rfl⟩ (Nat.le_of_ble_eq_true rfl) (fun l D A => c_X8_framePkcs l D A e6) ?_
  refine ww_aload_n 9 X dX8_signPkcs_9 0 rfl rfl ?_
  refine ww_aload_n 10 X dX8_signPkcs_10 0 rfl rfl ?_
  obtain ⟨v11, e11, h⟩ := bO_some h
  refine ww_getR 11 X dX8_signPkcs_11 fG_X8_25 e11 ?_
  refine ww_aload_n 14 X dX8_signPkcs_14 2 rfl rfl ?_
  refine ww_aload_n 15 X dX8_signPkcs_15 3 rfl rfl ?_
  refine ww_aload 16 X dX8_signPkcs_16 4 rfl ?_
  obtain ⟨_, f18, h⟩ := bO_some h
  obtain ⟨M18, e18, h⟩ := bO_some h
  refine ww_callVV0 18 X dX8_signPkcs_18 mY_X8_raise mL_X8_65 (rcv_spec f18) ⟨_, _, rfl⟩ (by decide) (As := [.ref v11, .ref l2, .ref l3, .ref l4]) (rest := []) rfl rfl ⟨Nat.le_of_ble_eq_true rfl, Nat.le_of_ble_eq_true rfl⟩ (Nat.le_of_ble_eq_true rfl) (fun l D A => c_X8_raise l D A e18) ?_
  exact ww_vretE 21 X hQ dX8_signPkcs_21 h
theorem c_X8_signPkcs {G : mG} {F sz : Nat} {M0 : mM} (l : Launch) (D : mD) (A : Nat → Prop) {l0 : Nat} {l1 : Nat} {l2 : Nat} {l3 : Nat} {l4 : Nat} {M : mM} (h : P_X8_signPkcs G F l0 l1 l2 l3 l4 M = some M0) : mMetV l D G A yX8_signPkcs cX8_signPkcs 5 none 5 168 0 0 [.ref l0, .ref l1, .ref l2, .ref l3, .ref l4] M sz M0 sz := mMetV_of l D G A (by decide) (Nat.le_of_ble_eq_true rfl) (fun x X hQ => wP_X8_signPkcs X hQ h)
/-! SealedTokens$Rsa.isNumberOf(LSealedTokens$Bytes;LSealedTokens$Bytes;)Z -/
theorem dX8_isNumberOf_0 : decode cX8_isNumberOf 0 = .ok (.aload_n 1, 1) := by decide +kernel
theorem dX8_isNumberOf_1 : decode cX8_isNumberOf 1 = .ok (.getfield 43, 3) := by decide +kernel
theorem dX8_isNumberOf_4 : decode cX8_isNumberOf 4 = .ok (.aload_n 2, 1) := by decide +kernel
theorem dX8_isNumberOf_5 : decode cX8_isNumberOf 5 = .ok (.getfield 43, 3) := by decide +kernel
theorem dX8_isNumberOf_8 : decode cX8_isNumberOf 8 = .ok (.if_icmp .ne 21, 3) := by decide +kernel
theorem dX8_isNumberOf_11 : decode cX8_isNumberOf 11 = .ok (.aload_n 1, 1) := by decide +kernel
theorem dX8_isNumberOf_12 : decode cX8_isNumberOf 12 = .ok (.iconst 0, 1) := by decide +kernel
theorem dX8_isNumberOf_13 : decode cX8_isNumberOf 13 = .ok (.aload_n 2, 1) := by decide +kernel
theorem dX8_isNumberOf_14 : decode cX8_isNumberOf 14 = .ok (.iconst 0, 1) := by decide +kernel
theorem dX8_isNumberOf_15 : decode cX8_isNumberOf 15 = .ok (.aload_n 2, 1) := by decide +kernel
theorem dX8_isNumberOf_16 : decode cX8_isNumberOf 16 = .ok (.getfield 43, 3) := by decide +kernel
theorem dX8_isNumberOf_19 : decode cX8_isNumberOf 19 = .ok (.invokestatic 87, 3) := by decide +kernel
theorem dX8_isNumberOf_22 : decode cX8_isNumberOf 22 = .ok (.ifCond .ge 7, 3) := by decide +kernel
theorem dX8_isNumberOf_25 : decode cX8_isNumberOf 25 = .ok (.iconst 1, 1) := by decide +kernel
theorem dX8_isNumberOf_26 : decode cX8_isNumberOf 26 = .ok (.goto 4, 3) := by decide +kernel
theorem dX8_isNumberOf_29 : decode cX8_isNumberOf 29 = .ok (.iconst 0, 1) := by decide +kernel
theorem dX8_isNumberOf_30 : decode cX8_isNumberOf 30 = .ok (.ireturn, 1) := by decide +kernel
abbrev rmX8_isNumberOf : Room := { frames := 2, cells := 0, slots := 0, locals := 48 }
set_option maxHeartbeats 4000000 in
set_option maxRecDepth 100000 in
theorem wP_X8_isNumberOf {G : mG} {F : Nat} {x : mXT} {sz : Nat} {r0 : Int32} {M0 : mM} (X : mCX G RX8 cX8_isNumberOf 3 (some .boolean) "isNumberOf" rmX8_isNumberOf x) (hQ : mQI x r0 M0 (sz, 0, 0)) {l0 : Nat} {l1 : Nat} {l2 : Nat} {M : mM} (h : P_X8_isNumberOf G F l0 l1 l2 M = some (r0, M0)) : WW x (sz, 0, 0) M 0 [(0, .ref l0), (1, .ref l1), (2, .ref l2)] [] := by
  unfold P_X8_isNumberOf at h
  refine ww_aload_n 0 X dX8_isNumberOf_0 1 rfl rfl ?_
  obtain ⟨v1, e1, h⟩ := bO_some h
  refine ww_getI 1 X dX8_isNumberOf_1 fG_X8_43 e1 ?_
  refine ww_aload_n 4 X dX8_isNumberOf_4 2 rfl rfl ?_
  obtain ⟨v5, e5, h⟩ := bO_some h
  refine ww_getI 5 X dX8_isNumberOf_5 fG_X8_43 e5 ?_
  refine ww_icmp_ne 8 29 X dX8_isNumberOf_8 (by decide) (fun q => ?_) (fun q => ?_)
  · replace h := (if_neg q).symm.trans h
    refine ww_iconst 29 X (v := (0 : Int32)) dX8_isNumberOf_29 (by decide) ?_
    exact ww_zretE 30 X hQ dX8_isNumberOf_30 h
  · replace h := (if_pos q).symm.trans h
    refine ww_aload_n 11 X dX8_isNumberOf_11 1 rfl rfl ?_
    refine ww_iconst 12 X (v := (0 : Int32)) dX8_isNumberOf_12 (by decide) ?_
    refine ww_aload_n 13 X dX8_isNumberOf_13 2 rfl rfl ?_
    refine ww_iconst 14 X (v := (0 : Int32)) dX8_isNumberOf_14 (by decide) ?_
    refine ww_aload_n 15 X dX8_isNumberOf_15 2 rfl rfl ?_
    obtain ⟨v16, e16, h⟩ := bO_some h
    refine ww_getI 16 X dX8_isNumberOf_16 fG_X8_43 e16 ?_
    obtain ⟨v19, M19, e19, h⟩ := bP_some h
    refine ww_callSI0 19 X dX8_isNumberOf_19 mY_X0_compare mL_X8_87 (As := [.ref l1, .int (0 : Int32), .ref l2, .int (0 : Int32), .int v16]) (rest := []) rfl rfl ⟨Nat.le_of_ble_eq_true rfl, Nat.le_of_ble_eq_true rfl⟩ (Nat.le_of_ble_eq_true rfl) (fun l D A => c_X0_compare l D A e19) ?_
    refine ww_if_ge 22 29 X dX8_isNumberOf_22 (by decide) (fun q => ?_) (fun q => ?_)
    · replace h := (if_pos q).symm.trans h
      refine ww_iconst 29 X (v := (0 : Int32)) dX8_isNumberOf_29 (by decide) ?_
      exact ww_zretE 30 X hQ dX8_isNumberOf_30 h
    · replace h := (if_neg q).symm.trans h
      refine ww_iconst 25 X (v := (1 : Int32)) dX8_isNumberOf_25 (by decide) ?_
      refine ww_goto 26 30 X dX8_isNumberOf_26 (by decide) ?_
      exact ww_zretE 30 X hQ dX8_isNumberOf_30 h
theorem c_X8_isNumberOf {G : mG} {F sz : Nat} {r0 : Int32} {M0 : mM} (l : Launch) (D : mD) (A : Nat → Prop) {l0 : Nat} {l1 : Nat} {l2 : Nat} {M : mM} (h : P_X8_isNumberOf G F l0 l1 l2 M = some (r0, M0)) : mMetI l D G A yX8_isNumberOf cX8_isNumberOf 3 (some .boolean) 2 48 0 0 [.ref l0, .ref l1, .ref l2] M sz r0 M0 sz := mMetI_of l D G A (by decide) (Nat.le_of_ble_eq_true rfl) (fun x X hQ => wP_X8_isNumberOf X hQ h)
/-! SealedTokens$Rsa.isPkcsRight(LSealedTokens$Bytes;LSealedTokens$Bytes;LSealedTokens$Bytes;LSealedTokens$Bytes;)Z -/
theorem dX8_isPkcsRight_0 : decode cX8_isPkcsRight 0 = .ok (.aload_n 0, 1) := by decide +kernel
theorem dX8_isPkcsRight_1 : decode cX8_isPkcsRight 1 = .ok (.aload_n 2, 1) := by decide +kernel
theorem dX8_isPkcsRight_2 : decode cX8_isPkcsRight 2 = .ok (.aload 4, 2) := by decide +kernel
theorem dX8_isPkcsRight_4 : decode cX8_isPkcsRight 4 = .ok (.invokevirtual 91, 3) := by decide +kernel
theorem dX8_isPkcsRight_7 : decode cX8_isPkcsRight 7 = .ok (.ifCond .ne 5, 3) := by decide +kernel
theorem dX8_isPkcsRight_10 : decode cX8_isPkcsRight 10 = .ok (.iconst 0, 1) := by decide +kernel
theorem dX8_isPkcsRight_11 : decode cX8_isPkcsRight 11 = .ok (.ireturn, 1) := by decide +kernel
theorem dX8_isPkcsRight_12 : decode cX8_isPkcsRight 12 = .ok (.aload_n 0, 1) := by decide +kernel
theorem dX8_isPkcsRight_13 : decode cX8_isPkcsRight 13 = .ok (.aload_n 1, 1) := by decide +kernel
theorem dX8_isPkcsRight_14 : decode cX8_isPkcsRight 14 = .ok (.aload 4, 2) := by decide +kernel
theorem dX8_isPkcsRight_16 : decode cX8_isPkcsRight 16 = .ok (.getfield 43, 3) := by decide +kernel
theorem dX8_isPkcsRight_19 : decode cX8_isPkcsRight 19 = .ok (.invokevirtual 83, 3) := by decide +kernel
theorem dX8_isPkcsRight_22 : decode cX8_isPkcsRight 22 = .ok (.aload_n 0, 1) := by decide +kernel
theorem dX8_isPkcsRight_23 : decode cX8_isPkcsRight 23 = .ok (.aload_n 2, 1) := by decide +kernel
theorem dX8_isPkcsRight_24 : decode cX8_isPkcsRight 24 = .ok (.aload_n 3, 1) := by decide +kernel
theorem dX8_isPkcsRight_25 : decode cX8_isPkcsRight 25 = .ok (.aload 4, 2) := by decide +kernel
theorem dX8_isPkcsRight_27 : decode cX8_isPkcsRight 27 = .ok (.aload_n 0, 1) := by decide +kernel
theorem dX8_isPkcsRight_28 : decode cX8_isPkcsRight 28 = .ok (.getfield 29, 3) := by decide +kernel
theorem dX8_isPkcsRight_31 : decode cX8_isPkcsRight 31 = .ok (.invokevirtual 65, 3) := by decide +kernel
theorem dX8_isPkcsRight_34 : decode cX8_isPkcsRight 34 = .ok (.aload_n 0, 1) := by decide +kernel
theorem dX8_isPkcsRight_35 : decode cX8_isPkcsRight 35 = .ok (.getfield 25, 3) := by decide +kernel
theorem dX8_isPkcsRight_38 : decode cX8_isPkcsRight 38 = .ok (.aload_n 0, 1) := by decide +kernel
theorem dX8_isPkcsRight_39 : decode cX8_isPkcsRight 39 = .ok (.getfield 29, 3) := by decide +kernel
theorem dX8_isPkcsRight_42 : decode cX8_isPkcsRight 42 = .ok (.invokevirtual 95, 3) := by decide +kernel
theorem dX8_isPkcsRight_45 : decode cX8_isPkcsRight 45 = .ok (.ireturn, 1) := by decide +kernel
abbrev rmX8_isPkcsRight : Room := { frames := 5, cells := 0, slots := 0, locals := 168 }
set_option maxHeartbeats 4000000 in
set_option maxRecDepth 100000 in
theorem wP_X8_isPkcsRight {G : mG} {F : Nat} {x : mXT} {sz : Nat} {r0 : Int32} {M0 : mM} (X : mCX G RX8 cX8_isPkcsRight 5 (some .boolean) "isPkcsRight" rmX8_isPkcsRight x) (hQ : mQI x r0 M0 (sz, 0, 0)) {l0 : Nat} {l1 : Nat} {l2 : Nat} {l3 : Nat} {l4 : Nat} {M : mM} (h : P_X8_isPkcsRight G F l0 l1 l2 l3 l4 M = some (r0, M0)) : WW x (sz, 0, 0) M 0 [(0, .ref l0), (1, .ref l1), (2, .ref l2), (3, .ref l3), (4, .ref l4)] [] := by
  unfold P_X8_isPkcsRight at h
  refine ww_aload_n 0 X dX8_isPkcsRight_0 0 rfl rfl ?_
  refine ww_aload_n 1 X dX8_isPkcsRight_1 2 rfl rfl ?_
  refine ww_aload 2 X dX8_isPkcsRight_2 4 rfl ?_
  obtain ⟨_, f4, h⟩ := bO_some h
  obtain ⟨v4, M4, e4, h⟩ := bP_some h
  refine ww_callVI0 4 X dX8_isPkcsRight_4 mY_X8_isNumberOf mL_X8_91 (rcv_spec f4) ⟨_, _, rfl⟩ (by decide) (As := [.ref l2, .ref l4]) (rest := []) rfl rfl ⟨Nat.le_of_ble_eq_true rfl, Nat.le_of_ble_eq_true rfl⟩ (Nat.le_of_ble_eq_true rfl) (fun l D A => c_X8_isNumberOf l D A e4) ?_
  refine ww_if_ne 7 12 X dX8_isPkcsRight_7 (by decide) (fun q => ?_) (fun q => ?_)
  · replace h := (if_neg q).symm.trans h
    refine ww_aload_n 12 X dX8_isPkcsRight_12 0 rfl rfl ?_
    refine ww_aload_n 13 X dX8_isPkcsRight_13 1 rfl rfl ?_
    refine ww_aload 14 X dX8_isPkcsRight_14 4 rfl ?_
    obtain ⟨v16, e16, h⟩ := bO_some h
    refine ww_getI 16 X dX8_isPkcsRight_16 fG_X8_43 e16 ?_
    obtain ⟨_, f19, h⟩ := bO_some h
    obtain ⟨M19, e19, h⟩ := bO_some h
    refine ww_callVV0 19 X dX8_isPkcsRight_19 mY_X8_framePkcs mL_X8_83 (rcv_spec f19) ⟨_, _, rfl⟩ (by decide) (As := [.ref l1, .int v16]) (rest := []) rfl rfl ⟨Nat.le_of_ble_eq_true rfl, Nat.le_of_ble_eq_true rfl⟩ (Nat.le_of_ble_eq_true rfl) (fun l D A => c_X8_framePkcs l D A e19) ?_
    refine ww_aload_n 22 X dX8_isPkcsRight_22 0 rfl rfl ?_
    refine ww_aload_n 23 X dX8_isPkcsRight_23 2 rfl rfl ?_
    refine ww_aload_n 24 X dX8_isPkcsRight_24 3 rfl rfl ?_
    refine ww_aload 25 X dX8_isPkcsRight_25 4 rfl ?_
    refine ww_aload_n 27 X dX8_isPkcsRight_27 0 rfl rfl ?_
    obtain ⟨v28, e28, h⟩ := bO_some h
    refine ww_getR 28 X dX8_isPkcsRight_28 fG_X8_29 e28 ?_
    obtain ⟨_, f31, h⟩ := bO_some h
    obtain ⟨M31, e31, h⟩ := bO_some h
    refine ww_callVV0 31 X dX8_isPkcsRight_31 mY_X8_raise mL_X8_65 (rcv_spec f31) ⟨_, _, rfl⟩ (by decide) (As := [.ref l2, .ref l3, .ref l4, .ref v28]) (rest := []) rfl rfl ⟨Nat.le_of_ble_eq_true rfl, Nat.le_of_ble_eq_true rfl⟩ (Nat.le_of_ble_eq_true rfl) (fun l D A => c_X8_raise l D A e31) ?_
    refine ww_aload_n 34 X dX8_isPkcsRight_34 0 rfl rfl ?_
    obtain ⟨v35, e35, h⟩ := bO_some h
    refine ww_getR 35 X dX8_isPkcsRight_35 fG_X8_25 e35 ?_
    refine ww_aload_n 38 X dX8_isPkcsRight_38 0 rfl rfl ?_
    obtain ⟨v39, e39, h⟩ := bO_some h
    refine ww_getR 39 X dX8_isPkcsRight_39 fG_X8_29 e39 ?_
    obtain ⟨_, f42, h⟩ := bO_some h
    obtain ⟨v42, M42, e42, h⟩ := bP_some h
    refine ww_callVI0 42 X dX8_isPkcsRight_42 mY_X0_same mL_X8_95 (rcv_spec f42) ⟨_, _, rfl⟩ (by decide) (As := [.ref v39]) (rest := []) rfl rfl ⟨Nat.le_of_ble_eq_true rfl, Nat.le_of_ble_eq_true rfl⟩ (Nat.le_of_ble_eq_true rfl) (fun l D A => c_X0_same l D A e42) ?_
    exact ww_zretE 45 X hQ dX8_isPkcsRight_45 h
  · replace h := (if_pos q).symm.trans h
    refine ww_iconst 10 X (v := (0 : Int32)) dX8_isPkcsRight_10 (by decide) ?_
    exact ww_zretE 11 X hQ dX8_isPkcsRight_11 h
theorem c_X8_isPkcsRight {G : mG} {F sz : Nat} {r0 : Int32} {M0 : mM} (l : Launch) (D : mD) (A : Nat → Prop) {l0 : Nat} {l1 : Nat} {l2 : Nat} {l3 : Nat} {l4 : Nat} {M : mM} (h : P_X8_isPkcsRight G F l0 l1 l2 l3 l4 M = some (r0, M0)) : mMetI l D G A yX8_isPkcsRight cX8_isPkcsRight 5 (some .boolean) 5 168 0 0 [.ref l0, .ref l1, .ref l2, .ref l3, .ref l4] M sz r0 M0 sz := mMetI_of l D G A (by decide) (Nat.le_of_ble_eq_true rfl) (fun x X hQ => wP_X8_isPkcsRight X hQ h)
/-! SealedTokens$Rsa.bitsOf(LSealedTokens$Bytes;)I -/
theorem dX8_bitsOf_0 : decode cX8_bitsOf 0 = .ok (.bipush 8, 2) := by decide +kernel
theorem dX8_bitsOf_2 : decode cX8_bitsOf 2 = .ok (.aload_n 0, 1) := by decide +kernel
theorem dX8_bitsOf_3 : decode cX8_bitsOf 3 = .ok (.getfield 43, 3) := by decide +kernel
theorem dX8_bitsOf_6 : decode cX8_bitsOf 6 = .ok (.imul, 1) := by decide +kernel
theorem dX8_bitsOf_7 : decode cX8_bitsOf 7 = .ok (.istore_n 1, 1) := by decide +kernel
theorem dX8_bitsOf_8 : decode cX8_bitsOf 8 = .ok (.sipush 128, 3) := by decide +kernel
theorem dX8_bitsOf_11 : decode cX8_bitsOf 11 = .ok (.istore_n 2, 1) := by decide +kernel
theorem dX8_bitsOf_12 : decode cX8_bitsOf 12 = .ok (.iload_n 2, 1) := by decide +kernel
theorem dX8_bitsOf_13 : decode cX8_bitsOf 13 = .ok (.ifCond .le 23, 3) := by decide +kernel
theorem dX8_bitsOf_16 : decode cX8_bitsOf 16 = .ok (.aload_n 0, 1) := by decide +kernel
theorem dX8_bitsOf_17 : decode cX8_bitsOf 17 = .ok (.iconst 0, 1) := by decide +kernel
theorem dX8_bitsOf_18 : decode cX8_bitsOf 18 = .ok (.invokevirtual 68, 3) := by decide +kernel
theorem dX8_bitsOf_21 : decode cX8_bitsOf 21 = .ok (.iload_n 2, 1) := by decide +kernel
theorem dX8_bitsOf_22 : decode cX8_bitsOf 22 = .ok (.iand, 1) := by decide +kernel
theorem dX8_bitsOf_23 : decode cX8_bitsOf 23 = .ok (.ifCond .ne 13, 3) := by decide +kernel
theorem dX8_bitsOf_26 : decode cX8_bitsOf 26 = .ok (.iinc 1 (-1), 3) := by decide +kernel
theorem dX8_bitsOf_29 : decode cX8_bitsOf 29 = .ok (.iload_n 2, 1) := by decide +kernel
theorem dX8_bitsOf_30 : decode cX8_bitsOf 30 = .ok (.iconst 1, 1) := by decide +kernel
theorem dX8_bitsOf_31 : decode cX8_bitsOf 31 = .ok (.ishr, 1) := by decide +kernel
theorem dX8_bitsOf_32 : decode cX8_bitsOf 32 = .ok (.istore_n 2, 1) := by decide +kernel
theorem dX8_bitsOf_33 : decode cX8_bitsOf 33 = .ok (.goto (-21), 3) := by decide +kernel
theorem dX8_bitsOf_36 : decode cX8_bitsOf 36 = .ok (.iload_n 1, 1) := by decide +kernel
theorem dX8_bitsOf_37 : decode cX8_bitsOf 37 = .ok (.ireturn, 1) := by decide +kernel
abbrev rmX8_bitsOf : Room := { frames := 1, cells := 0, slots := 0, locals := 21 }
set_option maxHeartbeats 4000000 in
set_option maxRecDepth 100000 in
theorem wB_X8_bitsOf_12 {G : mG} {F : Nat} {x : mXT} {sz : Nat} {r0 : Int32} {M0 : mM} (X : mCX G RX8 cX8_bitsOf 3 (some .int) "bitsOf" rmX8_bitsOf x) (hQ : mQI x r0 M0 (sz, 0, 0)) : ∀ (n : Nat) (l0 : Nat) (l1 : Int32) (l2 : Int32) (M : mM), B_X8_bitsOf_12 G F n l0 l1 l2 M = some (r0, M0) → WW x (sz, 0, 0) M 12 [(0, .ref l0), (1, .int l1), (2, .int l2)] [] := by
  intro n
  induction n with
  | zero =>
    intro l0 l1 l2 M h
    exact nomatch (show (none : Option (Int32 × mM)) = some (r0, M0) from h)
  | succ n ih =>
    intro l0 l1 l2 M h
    rw [B_X8_bitsOf_12] at h
    refine ww_iload_n 12 X dX8_bitsOf_12 2 rfl rfl ?_
    refine ww_if_le 13 36 X dX8_bitsOf_13 (by decide) (fun q => ?_) (fun q => ?_)
    · replace h := (if_pos q).symm.trans h
      refine ww_iload_n 36 X dX8_bitsOf_36 1 rfl rfl ?_
      exact ww_iretE 37 X hQ dX8_bitsOf_37 h
    · replace h := (if_neg q).symm.trans h
      refine ww_aload_n 16 X dX8_bitsOf_16 0 rfl rfl ?_
      refine ww_iconst 17 X (v := (0 : Int32)) dX8_bitsOf_17 (by decide) ?_
      obtain ⟨_, f18, h⟩ := bO_some h
      obtain ⟨v18, M18, e18, h⟩ := bP_some h
      refine ww_callVI0 18 X dX8_bitsOf_18 mY_X0_get mL_X8_68 (rcv_spec f18) ⟨_, _, rfl⟩ (by decide) (As := [.int (0 : Int32)]) (rest := []) rfl rfl ⟨Nat.le_of_ble_eq_true rfl, Nat.le_of_ble_eq_true rfl⟩ (Nat.le_of_ble_eq_true rfl) (fun l D A => c_X0_get l D A e18) ?_
      refine ww_iload_n 21 X dX8_bitsOf_21 2 rfl rfl ?_
      refine ww_iand 22 X dX8_bitsOf_22 ?_
      refine ww_if_ne 23 36 X dX8_bitsOf_23 (by decide) (fun q => ?_) (fun q => ?_)
      · replace h := (if_neg q).symm.trans h
        refine ww_iload_n 36 X dX8_bitsOf_36 1 rfl rfl ?_
        exact ww_iretE 37 X hQ dX8_bitsOf_37 h
      · replace h := (if_pos q).symm.trans h
        refine ww_iinc 26 X dX8_bitsOf_26 (lv' := [(0, .ref l0), (1, .int (l1 + (-1))), (2, .int l2)]) 1 rfl rfl (by decide) [1, 0, 2] rfl ?_
        refine ww_iload_n 29 X dX8_bitsOf_29 2 rfl rfl ?_
        refine ww_iconst 30 X (v := (1 : Int32)) dX8_bitsOf_30 (by decide) ?_
        refine ww_ishr 31 X dX8_bitsOf_31 ?_
        refine ww_istore_n 32 X dX8_bitsOf_32 (lv' := [(0, .ref l0), (1, .int (l1 + (-1))), (2, .int (l2 >>> ((1 : Int32) &&& 31)))]) rfl (by decide) [1, 2, 0] rfl ?_
        refine ww_goto 33 12 X dX8_bitsOf_33 (by decide) ?_
        exact (ih _ _ _ _ h)
set_option maxHeartbeats 4000000 in
set_option maxRecDepth 100000 in
theorem wP_X8_bitsOf {G : mG} {F : Nat} {x : mXT} {sz : Nat} {r0 : Int32} {M0 : mM} (X : mCX G RX8 cX8_bitsOf 3 (some .int) "bitsOf" rmX8_bitsOf x) (hQ : mQI x r0 M0 (sz, 0, 0)) {l0 : Nat} {M : mM} (h : P_X8_bitsOf G F l0 M = some (r0, M0)) : WW x (sz, 0, 0) M 0 [(0, .ref l0)] [] := by
  unfold P_X8_bitsOf at h
  refine ww_bipush 0 X (v := (8 : Int32)) dX8_bitsOf_0 (by decide) ?_
  refine ww_aload_n 2 X dX8_bitsOf_2 0 rfl rfl ?_
  obtain ⟨v3, e3, h⟩ := bO_some h
  refine ww_getI 3 X dX8_bitsOf_3 fG_X8_43 e3 ?_
  refine ww_imul 6 X dX8_bitsOf_6 ?_
  refine ww_istore_n 7 X dX8_bitsOf_7 (lv' := [(0, .ref l0), (1, .int ((8 : Int32) * v3))]) rfl (by decide) [1, 0] rfl ?_
  refine ww_sipush 8 X (v := (128 : Int32)) dX8_bitsOf_8 (by decide) ?_
  refine ww_istore_n 11 X dX8_bitsOf_11 (lv' := [(0, .ref l0), (1, .int ((8 : Int32) * v3)), (2, .int (128 : Int32))]) rfl (by decide) [1, 2, 0] rfl ?_
  exact (wB_X8_bitsOf_12 X hQ F _ _ _ _ h)
theorem c_X8_bitsOf {G : mG} {F sz : Nat} {r0 : Int32} {M0 : mM} (l : Launch) (D : mD) (A : Nat → Prop) {l0 : Nat} {M : mM} (h : P_X8_bitsOf G F l0 M = some (r0, M0)) : mMetI l D G A yX8_bitsOf cX8_bitsOf 3 (some .int) 1 21 0 0 [.ref l0] M sz r0 M0 sz := mMetI_of l D G A (by decide) (Nat.le_of_ble_eq_true rfl) (fun x X hQ => wP_X8_bitsOf X hQ h)
/-! SealedTokens$Rsa.maskFrame(IIII)V -/
theorem dX8_maskFrame_0 : decode cX8_maskFrame 0 = .ok (.iconst 0, 1) := by decide +kernel
theorem dX8_maskFrame_1 : decode cX8_maskFrame 1 = .ok (.istore 5, 2) := by decide +kernel
theorem dX8_maskFrame_3 : decode cX8_maskFrame 3 = .ok (.iload 5, 2) := by decide +kernel
theorem dX8_maskFrame_5 : decode cX8_maskFrame 5 = .ok (.iload 4, 2) := by decide +kernel
theorem dX8_maskFrame_7 : decode cX8_maskFrame 7 = .ok (.if_icmp .ge 128, 3) := by decide +kernel
theorem dX8_maskFrame_10 : decode cX8_maskFrame 10 = .ok (.aload_n 0, 1) := by decide +kernel
theorem dX8_maskFrame_11 : decode cX8_maskFrame 11 = .ok (.getfield 35, 3) := by decide +kernel
theorem dX8_maskFrame_14 : decode cX8_maskFrame 14 = .ok (.sipush 256, 3) := by decide +kernel
theorem dX8_maskFrame_17 : decode cX8_maskFrame 17 = .ok (.invokevirtual 99, 3) := by decide +kernel
theorem dX8_maskFrame_20 : decode cX8_maskFrame 20 = .ok (.aload_n 0, 1) := by decide +kernel
theorem dX8_maskFrame_21 : decode cX8_maskFrame 21 = .ok (.getfield 35, 3) := by decide +kernel
theorem dX8_maskFrame_24 : decode cX8_maskFrame 24 = .ok (.aload_n 0, 1) := by decide +kernel
theorem dX8_maskFrame_25 : decode cX8_maskFrame 25 = .ok (.getfield 25, 3) := by decide +kernel
theorem dX8_maskFrame_28 : decode cX8_maskFrame 28 = .ok (.iload_n 1, 1) := by decide +kernel
theorem dX8_maskFrame_29 : decode cX8_maskFrame 29 = .ok (.iload_n 1, 1) := by decide +kernel
theorem dX8_maskFrame_30 : decode cX8_maskFrame 30 = .ok (.iload_n 2, 1) := by decide +kernel
theorem dX8_maskFrame_31 : decode cX8_maskFrame 31 = .ok (.iadd, 1) := by decide +kernel
theorem dX8_maskFrame_32 : decode cX8_maskFrame 32 = .ok (.invokevirtual 104, 3) := by decide +kernel
theorem dX8_maskFrame_35 : decode cX8_maskFrame 35 = .ok (.aload_n 0, 1) := by decide +kernel
theorem dX8_maskFrame_36 : decode cX8_maskFrame 36 = .ok (.getfield 35, 3) := by decide +kernel
theorem dX8_maskFrame_39 : decode cX8_maskFrame 39 = .ok (.iload 5, 2) := by decide +kernel
theorem dX8_maskFrame_41 : decode cX8_maskFrame 41 = .ok (.bipush 32, 2) := by decide +kernel
theorem dX8_maskFrame_43 : decode cX8_maskFrame 43 = .ok (.idiv, 1) := by decide +kernel
theorem dX8_maskFrame_44 : decode cX8_maskFrame 44 = .ok (.invokevirtual 108, 3) := by decide +kernel
theorem dX8_maskFrame_47 : decode cX8_maskFrame 47 = .ok (.aload_n 0, 1) := by decide +kernel
theorem dX8_maskFrame_48 : decode cX8_maskFrame 48 = .ok (.getfield 32, 3) := by decide +kernel
theorem dX8_maskFrame_51 : decode cX8_maskFrame 51 = .ok (.invokevirtual 55, 3) := by decide +kernel
theorem dX8_maskFrame_54 : decode cX8_maskFrame 54 = .ok (.aload_n 0, 1) := by decide +kernel
theorem dX8_maskFrame_55 : decode cX8_maskFrame 55 = .ok (.getfield 35, 3) := by decide +kernel
theorem dX8_maskFrame_58 : decode cX8_maskFrame 58 = .ok (.aload_n 0, 1) := by decide +kernel
theorem dX8_maskFrame_59 : decode cX8_maskFrame 59 = .ok (.getfield 32, 3) := by decide +kernel
theorem dX8_maskFrame_62 : decode cX8_maskFrame 62 = .ok (.invokevirtual 111, 3) := by decide +kernel
theorem dX8_maskFrame_65 : decode cX8_maskFrame 65 = .ok (.iconst 0, 1) := by decide +kernel
theorem dX8_maskFrame_66 : decode cX8_maskFrame 66 = .ok (.istore 6, 2) := by decide +kernel
theorem dX8_maskFrame_68 : decode cX8_maskFrame 68 = .ok (.iload 6, 2) := by decide +kernel
theorem dX8_maskFrame_70 : decode cX8_maskFrame 70 = .ok (.bipush 32, 2) := by decide +kernel
theorem dX8_maskFrame_72 : decode cX8_maskFrame 72 = .ok (.if_icmp .ge 57, 3) := by decide +kernel
theorem dX8_maskFrame_75 : decode cX8_maskFrame 75 = .ok (.iload 5, 2) := by decide +kernel
theorem dX8_maskFrame_77 : decode cX8_maskFrame 77 = .ok (.iload 6, 2) := by decide +kernel
theorem dX8_maskFrame_79 : decode cX8_maskFrame 79 = .ok (.iadd, 1) := by decide +kernel
theorem dX8_maskFrame_80 : decode cX8_maskFrame 80 = .ok (.iload 4, 2) := by decide +kernel
theorem dX8_maskFrame_82 : decode cX8_maskFrame 82 = .ok (.if_icmp .ge 47, 3) := by decide +kernel
theorem dX8_maskFrame_85 : decode cX8_maskFrame 85 = .ok (.aload_n 0, 1) := by decide +kernel
theorem dX8_maskFrame_86 : decode cX8_maskFrame 86 = .ok (.getfield 25, 3) := by decide +kernel
theorem dX8_maskFrame_89 : decode cX8_maskFrame 89 = .ok (.iload_n 3, 1) := by decide +kernel
theorem dX8_maskFrame_90 : decode cX8_maskFrame 90 = .ok (.iload 5, 2) := by decide +kernel
theorem dX8_maskFrame_92 : decode cX8_maskFrame 92 = .ok (.iadd, 1) := by decide +kernel
theorem dX8_maskFrame_93 : decode cX8_maskFrame 93 = .ok (.iload 6, 2) := by decide +kernel
theorem dX8_maskFrame_95 : decode cX8_maskFrame 95 = .ok (.iadd, 1) := by decide +kernel
theorem dX8_maskFrame_96 : decode cX8_maskFrame 96 = .ok (.aload_n 0, 1) := by decide +kernel
theorem dX8_maskFrame_97 : decode cX8_maskFrame 97 = .ok (.getfield 25, 3) := by decide +kernel
theorem dX8_maskFrame_100 : decode cX8_maskFrame 100 = .ok (.iload_n 3, 1) := by decide +kernel
theorem dX8_maskFrame_101 : decode cX8_maskFrame 101 = .ok (.iload 5, 2) := by decide +kernel
theorem dX8_maskFrame_103 : decode cX8_maskFrame 103 = .ok (.iadd, 1) := by decide +kernel
theorem dX8_maskFrame_104 : decode cX8_maskFrame 104 = .ok (.iload 6, 2) := by decide +kernel
theorem dX8_maskFrame_106 : decode cX8_maskFrame 106 = .ok (.iadd, 1) := by decide +kernel
theorem dX8_maskFrame_107 : decode cX8_maskFrame 107 = .ok (.invokevirtual 68, 3) := by decide +kernel
theorem dX8_maskFrame_110 : decode cX8_maskFrame 110 = .ok (.aload_n 0, 1) := by decide +kernel
theorem dX8_maskFrame_111 : decode cX8_maskFrame 111 = .ok (.getfield 32, 3) := by decide +kernel
theorem dX8_maskFrame_114 : decode cX8_maskFrame 114 = .ok (.iload 6, 2) := by decide +kernel
theorem dX8_maskFrame_116 : decode cX8_maskFrame 116 = .ok (.invokevirtual 68, 3) := by decide +kernel
theorem dX8_maskFrame_119 : decode cX8_maskFrame 119 = .ok (.ixor, 1) := by decide +kernel
theorem dX8_maskFrame_120 : decode cX8_maskFrame 120 = .ok (.invokevirtual 114, 3) := by decide +kernel
theorem dX8_maskFrame_123 : decode cX8_maskFrame 123 = .ok (.iinc 6 1, 3) := by decide +kernel
theorem dX8_maskFrame_126 : decode cX8_maskFrame 126 = .ok (.goto (-58), 3) := by decide +kernel
theorem dX8_maskFrame_129 : decode cX8_maskFrame 129 = .ok (.iinc 5 32, 3) := by decide +kernel
theorem dX8_maskFrame_132 : decode cX8_maskFrame 132 = .ok (.goto (-129), 3) := by decide +kernel
theorem dX8_maskFrame_135 : decode cX8_maskFrame 135 = .ok (.return_, 1) := by decide +kernel
abbrev rmX8_maskFrame : Room := { frames := 3, cells := 0, slots := 0, locals := 91 }
set_option maxHeartbeats 4000000 in
set_option maxRecDepth 100000 in
theorem wB_X8_maskFrame_68 {G : mG} {F : Nat} {x : mXT} {sz : Nat} {M0 : mM} (X : mCX G RX8 cX8_maskFrame 7 none "maskFrame" rmX8_maskFrame x) (hQ : mQV x M0 (sz, 0, 0)) (r3 : Nat → Int32 → Int32 → Int32 → Int32 → Int32 → mM → Option mM) (hr3 : ∀ (l0 : Nat) (l1 : Int32) (l2 : Int32) (l3 : Int32) (l4 : Int32) (l5 : Int32) (M : mM), r3 l0 l1 l2 l3 l4 l5 M = some M0 → WW x (sz, 0, 0) M 3 [(0, .ref l0), (1, .int l1), (2, .int l2), (3, .int l3), (4, .int l4), (5, .int l5)] []) : ∀ (n : Nat) (l0 : Nat) (l1 : Int32) (l2 : Int32) (l3 : Int32) (l4 : Int32) (l5 : Int32) (l6 : Int32) (M : mM), B_X8_maskFrame_68 G F r3 n l0 l1 l2 l3 l4 l5 l6 M = some M0 → WW x (sz, 0, 0) M 68 [(0, .ref l0), (1, .int l1), (2, .int l2), (3, .int l3), (4, .int l4), (5, .int l5), (6, .int l6)] [] := by
  intro n
  induction n with
  | zero =>
    intro l0 l1 l2 l3 l4 l5 l6 M h
    exact nomatch (show (none : Option mM) = some M0 from h)
  | succ n ih =>
    intro l0 l1 l2 l3 l4 l5 l6 M h
    rw [B_X8_maskFrame_68] at h
    refine ww_iload 68 X dX8_maskFrame_68 6 rfl ?_
    refine ww_bipush 70 X (v := (32 : Int32)) dX8_maskFrame_70 (by decide) ?_
    refine ww_icmp_ge 72 129 X dX8_maskFrame_72 (by decide) (fun q => ?_) (fun q => ?_)
    · replace h := (if_pos q).symm.trans h
      refine ww_iinc 129 X dX8_maskFrame_129 (lv' := [(0, .ref l0), (1, .int l1), (2, .int l2), (3, .int l3), (4, .int l4), (5, .int (l5 + 32)), (6, .int l6)]) 5 rfl rfl (by decide) [1, 2, 3, 4, 5, 0, 6] rfl ?_
      refine ww_goto 132 3 X dX8_maskFrame_132 (by decide) ?_
      exact ww_sub [0, 1, 2, 3, 4, 5] rfl (hr3 _ _ _ _ _ _ _ h)
    · replace h := (if_neg q).symm.trans h
      refine ww_iload 75 X dX8_maskFrame_75 5 rfl ?_
      refine ww_iload 77 X dX8_maskFrame_77 6 rfl ?_
      refine ww_iadd 79 X dX8_maskFrame_79 ?_
      refine ww_iload 80 X dX8_maskFrame_80 4 rfl ?_
      refine ww_icmp_ge 82 129 X dX8_maskFrame_82 (by decide) (fun q => ?_) (fun q => ?_)
      · replace h := (if_pos q).symm.trans h
        refine ww_iinc 129 X dX8_maskFrame_129 (lv' := [(0, .ref l0), (1, .int l1), (2, .int l2), (3, .int l3), (4, .int l4), (5, .int (l5 + 32)), (6, .int l6)]) 5 rfl rfl (by decide) [1, 2, 3, 4, 5, 0, 6] rfl ?_
        refine ww_goto 132 3 X dX8_maskFrame_132 (by decide) ?_
        exact ww_sub [0, 1, 2, 3, 4, 5] rfl (hr3 _ _ _ _ _ _ _ h)
      · replace h := (if_neg q).symm.trans h
        refine ww_aload_n 85 X dX8_maskFrame_85 0 rfl rfl ?_
        obtain ⟨v86, e86, h⟩ := bO_some h
        refine ww_getR 86 X dX8_maskFrame_86 fG_X8_25 e86 ?_
        refine ww_iload_n 89 X dX8_maskFrame_89 3 rfl rfl ?_
        refine ww_iload 90 X dX8_maskFrame_90 5 rfl ?_
        refine ww_iadd 92 X dX8_maskFrame_92 ?_
        refine ww_iload 93 X dX8_maskFrame_93 6 rfl ?_
        refine ww_iadd 95 X dX8_maskFrame_95 ?_
        refine ww_aload_n 96 X dX8_maskFrame_96 0 rfl rfl ?_
        obtain ⟨v97, e97, h⟩ := bO_some h
        refine ww_getR 97 X dX8_maskFrame_97 fG_X8_25 e97 ?_
        refine ww_iload_n 100 X dX8_maskFrame_100 3 rfl rfl ?_
        refine ww_iload 101 X dX8_maskFrame_101 5 rfl ?_
        refine ww_iadd 103 X dX8_maskFrame_103 ?_
        refine ww_iload 104 X dX8_maskFrame_104 6 rfl ?_
        refine ww_iadd 106 X dX8_maskFrame_106 ?_
        obtain ⟨_, f107, h⟩ := bO_some h
        obtain ⟨v107, M107, e107, h⟩ := bP_some h
        refine ww_callVI0 107 X dX8_maskFrame_107 mY_X0_get mL_X8_68 (rcv_spec f107) ⟨_, _, rfl⟩ (by decide) (As := [.int ((l3 + l5) + l6)]) (rest := [.int ((l3 + l5) + l6), .ref v86]) rfl rfl ⟨Nat.le_of_ble_eq_true rfl, Nat.le_of_ble_eq_true rfl⟩ (Nat.le_of_ble_eq_true rfl) (fun l D A => c_X0_get l D A e107) ?_
        refine ww_aload_n 110 X dX8_maskFrame_110 0 rfl rfl ?_
        obtain ⟨v111, e111, h⟩ := bO_some h
        refine ww_getR 111 X dX8_maskFrame_111 fG_X8_32 e111 ?_
        refine ww_iload 114 X dX8_maskFrame_114 6 rfl ?_
        obtain ⟨_, f116, h⟩ := bO_some h
        obtain ⟨v116, M116, e116, h⟩ := bP_some h
        refine ww_callVI0 116 X dX8_maskFrame_116 mY_X0_get mL_X8_68 (rcv_spec f116) ⟨_, _, rfl⟩ (by decide) (As := [.int l6]) (rest := [.int v107, .int ((l3 + l5) + l6), .ref v86]) rfl rfl ⟨Nat.le_of_ble_eq_true rfl, Nat.le_of_ble_eq_true rfl⟩ (Nat.le_of_ble_eq_true rfl) (fun l D A => c_X0_get l D A e116) ?_
        refine ww_ixor 119 X dX8_maskFrame_119 ?_
        obtain ⟨_, f120, h⟩ := bO_some h
        obtain ⟨M120, e120, h⟩ := bO_some h
        refine ww_callVV0 120 X dX8_maskFrame_120 mY_X0_set mL_X8_114 (rcv_spec f120) ⟨_, _, rfl⟩ (by decide) (As := [.int ((l3 + l5) + l6), .int (v107 ^^^ v116)]) (rest := []) rfl rfl ⟨Nat.le_of_ble_eq_true rfl, Nat.le_of_ble_eq_true rfl⟩ (Nat.le_of_ble_eq_true rfl) (fun l D A => c_X0_set l D A e120) ?_
        refine ww_iinc 123 X dX8_maskFrame_123 (lv' := [(0, .ref l0), (1, .int l1), (2, .int l2), (3, .int l3), (4, .int l4), (5, .int l5), (6, .int (l6 + 1))]) 6 rfl rfl (by decide) [1, 2, 3, 4, 5, 6, 0] rfl ?_
        refine ww_goto 126 68 X dX8_maskFrame_126 (by decide) ?_
        exact (ih _ _ _ _ _ _ _ _ h)
set_option maxHeartbeats 4000000 in
set_option maxRecDepth 100000 in
theorem wB_X8_maskFrame_3 {G : mG} {F : Nat} {x : mXT} {sz : Nat} {M0 : mM} (X : mCX G RX8 cX8_maskFrame 7 none "maskFrame" rmX8_maskFrame x) (hQ : mQV x M0 (sz, 0, 0)) : ∀ (n : Nat) (l0 : Nat) (l1 : Int32) (l2 : Int32) (l3 : Int32) (l4 : Int32) (l5 : Int32) (M : mM), B_X8_maskFrame_3 G F n l0 l1 l2 l3 l4 l5 M = some M0 → WW x (sz, 0, 0) M 3 [(0, .ref l0), (1, .int l1), (2, .int l2), (3, .int l3), (4, .int l4), (5, .int l5)] [] := by
  intro n
  induction n with
  | zero =>
    intro l0 l1 l2 l3 l4 l5 M h
    exact nomatch (show (none : Option mM) = some M0 from h)
  | succ n ih =>
    intro l0 l1 l2 l3 l4 l5 M h
    rw [B_X8_maskFrame_3] at h
    refine ww_iload 3 X dX8_maskFrame_3 5 rfl ?_
    refine ww_iload 5 X dX8_maskFrame_5 4 rfl ?_
    refine ww_icmp_ge 7 135 X dX8_maskFrame_7 (by decide) (fun q => ?_) (fun q => ?_)
    · replace h := (if_pos q).symm.trans h
      exact ww_vretE 135 X hQ dX8_maskFrame_135 h
    · replace h := (if_neg q).symm.trans h
      refine ww_aload_n 10 X dX8_maskFrame_10 0 rfl rfl ?_
      obtain ⟨v11, e11, h⟩ := bO_some h
      refine ww_getR 11 X dX8_maskFrame_11 fG_X8_35 e11 ?_
      refine ww_sipush 14 X (v := (256 : Int32)) dX8_maskFrame_14 (by decide) ?_
      obtain ⟨_, f17, h⟩ := bO_some h
      obtain ⟨M17, e17, h⟩ := bO_some h
      refine ww_callVV0 17 X dX8_maskFrame_17 mY_X4_start mL_X8_99 (rcv_spec f17) ⟨_, _, rfl⟩ (by decide) (As := [.int (256 : Int32)]) (rest := []) rfl rfl ⟨Nat.le_of_ble_eq_true rfl, Nat.le_of_ble_eq_true rfl⟩ (Nat.le_of_ble_eq_true rfl) (fun l D A => c_X4_start l D A e17) ?_
      refine ww_aload_n 20 X dX8_maskFrame_20 0 rfl rfl ?_
      obtain ⟨v21, e21, h⟩ := bO_some h
      refine ww_getR 21 X dX8_maskFrame_21 fG_X8_35 e21 ?_
      refine ww_aload_n 24 X dX8_maskFrame_24 0 rfl rfl ?_
      obtain ⟨v25, e25, h⟩ := bO_some h
      refine ww_getR 25 X dX8_maskFrame_25 fG_X8_25 e25 ?_
      refine ww_iload_n 28 X dX8_maskFrame_28 1 rfl rfl ?_
      refine ww_iload_n 29 X dX8_maskFrame_29 1 rfl rfl ?_
      refine ww_iload_n 30 X dX8_maskFrame_30 2 rfl rfl ?_
      refine ww_iadd 31 X dX8_maskFrame_31 ?_
      obtain ⟨_, f32, h⟩ := bO_some h
      obtain ⟨M32, e32, h⟩ := bO_some h
      refine ww_callVV0 32 X dX8_maskFrame_32 mY_X4_add mL_X8_104 (rcv_spec f32) ⟨_, _, rfl⟩ (by decide) (As := [.ref v25, .int l1, .int (l1 + l2)]) (rest := []) rfl rfl ⟨Nat.le_of_ble_eq_true rfl, Nat.le_of_ble_eq_true rfl⟩ (Nat.le_of_ble_eq_true rfl) (fun l D A => c_X4_add l D A e32) ?_
      refine ww_aload_n 35 X dX8_maskFrame_35 0 rfl rfl ?_
      obtain ⟨v36, e36, h⟩ := bO_some h
      refine ww_getR 36 X dX8_maskFrame_36 fG_X8_35 e36 ?_
      refine ww_iload 39 X dX8_maskFrame_39 5 rfl ?_
      refine ww_bipush 41 X (v := (32 : Int32)) dX8_maskFrame_41 (by decide) ?_
      refine ww_idiv 43 X (v := (l5 / (32 : Int32))) dX8_maskFrame_43 rfl ?_
      obtain ⟨_, f44, h⟩ := bO_some h
      obtain ⟨M44, e44, h⟩ := bO_some h
      refine ww_callVV0 44 X dX8_maskFrame_44 mY_X4_addWord mL_X8_108 (rcv_spec f44) ⟨_, _, rfl⟩ (by decide) (As := [.int (l5 / (32 : Int32))]) (rest := []) rfl rfl ⟨Nat.le_of_ble_eq_true rfl, Nat.le_of_ble_eq_true rfl⟩ (Nat.le_of_ble_eq_true rfl) (fun l D A => c_X4_addWord l D A e44) ?_
      refine ww_aload_n 47 X dX8_maskFrame_47 0 rfl rfl ?_
      obtain ⟨v48, e48, h⟩ := bO_some h
      refine ww_getR 48 X dX8_maskFrame_48 fG_X8_32 e48 ?_
      obtain ⟨_, f51, h⟩ := bO_some h
      obtain ⟨M51, e51, h⟩ := bO_some h
      refine ww_callVV0 51 X dX8_maskFrame_51 mY_X0_clear mL_X8_55 (rcv_spec f51) ⟨_, _, rfl⟩ (by decide) (As := []) (rest := []) rfl rfl ⟨Nat.le_of_ble_eq_true rfl, Nat.le_of_ble_eq_true rfl⟩ (Nat.le_of_ble_eq_true rfl) (fun l D A => c_X0_clear l D A e51) ?_
      refine ww_aload_n 54 X dX8_maskFrame_54 0 rfl rfl ?_
      obtain ⟨v55, e55, h⟩ := bO_some h
      refine ww_getR 55 X dX8_maskFrame_55 fG_X8_35 e55 ?_
      refine ww_aload_n 58 X dX8_maskFrame_58 0 rfl rfl ?_
      obtain ⟨v59, e59, h⟩ := bO_some h
      refine ww_getR 59 X dX8_maskFrame_59 fG_X8_32 e59 ?_
      obtain ⟨_, f62, h⟩ := bO_some h
      obtain ⟨M62, e62, h⟩ := bO_some h
      refine ww_callVV0 62 X dX8_maskFrame_62 mY_X4_finish mL_X8_111 (rcv_spec f62) ⟨_, _, rfl⟩ (by decide) (As := [.ref v59]) (rest := []) rfl rfl ⟨Nat.le_of_ble_eq_true rfl, Nat.le_of_ble_eq_true rfl⟩ (Nat.le_of_ble_eq_true rfl) (fun l D A => c_X4_finish l D A e62) ?_
      refine ww_iconst 65 X (v := (0 : Int32)) dX8_maskFrame_65 (by decide) ?_
      refine ww_istore 66 X dX8_maskFrame_66 (lv' := [(0, .ref l0), (1, .int l1), (2, .int l2), (3, .int l3), (4, .int l4), (5, .int l5), (6, .int (0 : Int32))]) (by decide) [1, 2, 3, 4, 5, 6, 0] rfl ?_
      exact (wB_X8_maskFrame_68 X hQ _ ih F _ _ _ _ _ _ _ _ h)
set_option maxHeartbeats 4000000 in
set_option maxRecDepth 100000 in
theorem wP_X8_maskFrame {G : mG} {F : Nat} {x : mXT} {sz : Nat} {M0 : mM} (X : mCX G RX8 cX8_maskFrame 7 none "maskFrame" rmX8_maskFrame x) (hQ : mQV x M0 (sz, 0, 0)) {l0 : Nat} {l1 : Int32} {l2 : Int32} {l3 : Int32} {l4 : Int32} {M : mM} (h : P_X8_maskFrame G F l0 l1 l2 l3 l4 M = some M0) : WW x (sz, 0, 0) M 0 [(0, .ref l0), (1, .int l1), (2, .int l2), (3, .int l3), (4, .int l4)] [] := by
  unfold P_X8_maskFrame at h
  refine ww_iconst 0 X (v := (0 : Int32)) dX8_maskFrame_0 (by decide) ?_
  refine ww_istore 1 X dX8_maskFrame_1 (lv' := [(0, .ref l0), (1, .int l1), (2, .int l2), (3, .int l3), (4, .int l4), (5, .int (0 : Int32))]) (by decide) [1, 2, 3, 4, 5, 0] rfl ?_
  exact (wB_X8_maskFrame_3 X hQ F _ _ _ _ _ _ _ h)
theorem c_X8_maskFrame {G : mG} {F sz : Nat} {M0 : mM} (l : Launch) (D : mD) (A : Nat → Prop) {l0 : Nat} {l1 : Int32} {l2 : Int32} {l3 : Int32} {l4 : Int32} {M : mM} (h : P_X8_maskFrame G F l0 l1 l2 l3 l4 M = some M0) : mMetV l D G A yX8_maskFrame cX8_maskFrame 7 none 3 91 0 0 [.ref l0, .int l1, .int l2, .int l3, .int l4] M sz M0 sz := mMetV_of l D G A (by decide) (Nat.le_of_ble_eq_true rfl) (fun x X hQ => wP_X8_maskFrame X hQ h)
/-! SealedTokens$Rsa.hashSalted(LSealedTokens$Bytes;LSealedTokens$Bytes;ILSealedTokens$Bytes;)V -/
theorem dX8_hashSalted_0 : decode cX8_hashSalted 0 = .ok (.aload_n 0, 1) := by decide +kernel
theorem dX8_hashSalted_1 : decode cX8_hashSalted 1 = .ok (.getfield 35, 3) := by decide +kernel
theorem dX8_hashSalted_4 : decode cX8_hashSalted 4 = .ok (.sipush 256, 3) := by decide +kernel
theorem dX8_hashSalted_7 : decode cX8_hashSalted 7 = .ok (.invokevirtual 99, 3) := by decide +kernel
theorem dX8_hashSalted_10 : decode cX8_hashSalted 10 = .ok (.aload_n 0, 1) := by decide +kernel
theorem dX8_hashSalted_11 : decode cX8_hashSalted 11 = .ok (.getfield 35, 3) := by decide +kernel
theorem dX8_hashSalted_14 : decode cX8_hashSalted 14 = .ok (.iconst 0, 1) := by decide +kernel
theorem dX8_hashSalted_15 : decode cX8_hashSalted 15 = .ok (.invokevirtual 108, 3) := by decide +kernel
theorem dX8_hashSalted_18 : decode cX8_hashSalted 18 = .ok (.aload_n 0, 1) := by decide +kernel
theorem dX8_hashSalted_19 : decode cX8_hashSalted 19 = .ok (.getfield 35, 3) := by decide +kernel
theorem dX8_hashSalted_22 : decode cX8_hashSalted 22 = .ok (.iconst 0, 1) := by decide +kernel
theorem dX8_hashSalted_23 : decode cX8_hashSalted 23 = .ok (.invokevirtual 108, 3) := by decide +kernel
theorem dX8_hashSalted_26 : decode cX8_hashSalted 26 = .ok (.aload_n 0, 1) := by decide +kernel
theorem dX8_hashSalted_27 : decode cX8_hashSalted 27 = .ok (.getfield 35, 3) := by decide +kernel
theorem dX8_hashSalted_30 : decode cX8_hashSalted 30 = .ok (.aload_n 1, 1) := by decide +kernel
theorem dX8_hashSalted_31 : decode cX8_hashSalted 31 = .ok (.iconst 0, 1) := by decide +kernel
theorem dX8_hashSalted_32 : decode cX8_hashSalted 32 = .ok (.aload_n 1, 1) := by decide +kernel
theorem dX8_hashSalted_33 : decode cX8_hashSalted 33 = .ok (.getfield 43, 3) := by decide +kernel
theorem dX8_hashSalted_36 : decode cX8_hashSalted 36 = .ok (.invokevirtual 104, 3) := by decide +kernel
theorem dX8_hashSalted_39 : decode cX8_hashSalted 39 = .ok (.aload_n 0, 1) := by decide +kernel
theorem dX8_hashSalted_40 : decode cX8_hashSalted 40 = .ok (.getfield 35, 3) := by decide +kernel
theorem dX8_hashSalted_43 : decode cX8_hashSalted 43 = .ok (.aload_n 2, 1) := by decide +kernel
theorem dX8_hashSalted_44 : decode cX8_hashSalted 44 = .ok (.iload_n 3, 1) := by decide +kernel
theorem dX8_hashSalted_45 : decode cX8_hashSalted 45 = .ok (.iload_n 3, 1) := by decide +kernel
theorem dX8_hashSalted_46 : decode cX8_hashSalted 46 = .ok (.bipush 32, 2) := by decide +kernel
theorem dX8_hashSalted_48 : decode cX8_hashSalted 48 = .ok (.iadd, 1) := by decide +kernel
theorem dX8_hashSalted_49 : decode cX8_hashSalted 49 = .ok (.invokevirtual 104, 3) := by decide +kernel
theorem dX8_hashSalted_52 : decode cX8_hashSalted 52 = .ok (.aload_n 0, 1) := by decide +kernel
theorem dX8_hashSalted_53 : decode cX8_hashSalted 53 = .ok (.getfield 35, 3) := by decide +kernel
theorem dX8_hashSalted_56 : decode cX8_hashSalted 56 = .ok (.aload 4, 2) := by decide +kernel
theorem dX8_hashSalted_58 : decode cX8_hashSalted 58 = .ok (.invokevirtual 111, 3) := by decide +kernel
theorem dX8_hashSalted_61 : decode cX8_hashSalted 61 = .ok (.return_, 1) := by decide +kernel
abbrev rmX8_hashSalted : Room := { frames := 3, cells := 0, slots := 0, locals := 91 }
set_option maxHeartbeats 4000000 in
set_option maxRecDepth 100000 in
theorem wP_X8_hashSalted {G : mG} {F : Nat} {x : mXT} {sz : Nat} {M0 : mM} (X : mCX G RX8 cX8_hashSalted 5 none "hashSalted" rmX8_hashSalted x) (hQ : mQV x M0 (sz, 0, 0)) {l0 : Nat} {l1 : Nat} {l2 : Nat} {l3 : Int32} {l4 : Nat} {M : mM} (h : P_X8_hashSalted G F l0 l1 l2 l3 l4 M = some M0) : WW x (sz, 0, 0) M 0 [(0, .ref l0), (1, .ref l1), (2, .ref l2), (3, .int l3), (4, .ref l4)] [] := by
  unfold P_X8_hashSalted at h
  refine ww_aload_n 0 X dX8_hashSalted_0 0 rfl rfl ?_
  obtain ⟨v1, e1, h⟩ := bO_some h
  refine ww_getR 1 X dX8_hashSalted_1 fG_X8_35 e1 ?_
  refine ww_sipush 4 X (v := (256 : Int32)) dX8_hashSalted_4 (by decide) ?_
  obtain ⟨_, f7, h⟩ := bO_some h
  obtain ⟨M7, e7, h⟩ := bO_some h
  refine ww_callVV0 7 X dX8_hashSalted_7 mY_X4_start mL_X8_99 (rcv_spec f7) ⟨_, _, rfl⟩ (by decide) (As := [.int (256 : Int32)]) (rest := []) rfl rfl ⟨Nat.le_of_ble_eq_true rfl, Nat.le_of_ble_eq_true rfl⟩ (Nat.le_of_ble_eq_true rfl) (fun l D A => c_X4_start l D A e7) ?_
  refine ww_aload_n 10 X dX8_hashSalted_10 0 rfl rfl ?_
  obtain ⟨v11, e11, h⟩ := bO_some h
  refine ww_getR 11 X dX8_hashSalted_11 fG_X8_35 e11 ?_
  refine ww_iconst 14 X (v := (0 : Int32)) dX8_hashSalted_14 (by decide) ?_
  obtain ⟨_, f15, h⟩ := bO_some h
  obtain ⟨M15, e15, h⟩ := bO_some h
  refine ww_callVV0 15 X dX8_hashSalted_15 mY_X4_addWord mL_X8_108 (rcv_spec f15) ⟨_, _, rfl⟩ (by decide) (As := [.int (0 : Int32)]) (rest := []) rfl rfl ⟨Nat.le_of_ble_eq_true rfl, Nat.le_of_ble_eq_true rfl⟩ (Nat.le_of_ble_eq_true rfl) (fun l D A => c_X4_addWord l D A e15) ?_
  refine ww_aload_n 18 X dX8_hashSalted_18 0 rfl rfl ?_
  obtain ⟨v19, e19, h⟩ := bO_some h
  refine ww_getR 19 X dX8_hashSalted_19 fG_X8_35 e19 ?_
  refine ww_iconst 22 X (v := (0 : Int32)) dX8_hashSalted_22 (by decide) ?_
  obtain ⟨_, f23, h⟩ := bO_some h
  obtain ⟨M23, e23, h⟩ := bO_some h
  refine ww_callVV0 23 X dX8_hashSalted_23 mY_X4_addWord mL_X8_108 (rcv_spec f23) ⟨_, _, rfl⟩ (by decide) (As := [.int (0 : Int32)]) (rest := []) rfl rfl ⟨Nat.le_of_ble_eq_true rfl, Nat.le_of_ble_eq_true rfl⟩ (Nat.le_of_ble_eq_true rfl) (fun l D A => c_X4_addWord l D A e23) ?_
  refine ww_aload_n 26 X dX8_hashSalted_26 0 rfl rfl ?_
  obtain ⟨v27, e27, h⟩ := bO_some h
  refine ww_getR 27 X dX8_hashSalted_27 fG_X8_35 e27 ?_
  refine ww_aload_n 30 X dX8_hashSalted_30 1 rfl rfl ?_
  refine ww_iconst 31 X (v := (0 : Int32)) dX8_hashSalted_31 (by decide) ?_
  refine ww_aload_n 32 X dX8_hashSalted_32 1 rfl rfl ?_
  obtain ⟨v33, e33, h⟩ := bO_some h
  refine ww_getI 33 X dX8_hashSalted_33 fG_X8_43 e33 ?_
  obtain ⟨_, f36, h⟩ := bO_some h
  obtain ⟨M36, e36, h⟩ := bO_some h
  refine ww_callVV0 36 X dX8_hashSalted_36 mY_X4_add mL_X8_104 (rcv_spec f36) ⟨_, _, rfl⟩ (by decide) (As := [.ref l1, .int (0 : Int32), .int v33]) (rest := []) rfl rfl ⟨Nat.le_of_ble_eq_true rfl, Nat.le_of_ble_eq_true rfl⟩ (Nat.le_of_ble_eq_true rfl) (fun l D A => c_X4_add l D A e36) ?_
  refine ww_aload_n 39 X dX8_hashSalted_39 0 rfl rfl ?_
  obtain ⟨v40, e40, h⟩ := bO_some h
  refine ww_getR 40 X dX8_hashSalted_40 fG_X8_35 e40 ?_
  refine ww_aload_n 43 X dX8_hashSalted_43 2 rfl rfl ?_
  refine ww_iload_n 44 X dX8_hashSalted_44 3 rfl rfl ?_
  refine ww_iload_n 45 X dX8_hashSalted_45 3 rfl rfl ?_
  refine ww_bipush 46 X (v := (32 : Int32)) dX8_hashSalted_46 (by decide) ?_
  refine ww_iadd 48 X dX8_hashSalted_48 ?_
  obtain ⟨_, f49, h⟩ := bO_some h
  obtain ⟨M49, e49, h⟩ := bO_some h
  refine ww_callVV0 49 X dX8_hashSalted_49 mY_X4_add mL_X8_104 (rcv_spec f49) ⟨_, _, rfl⟩ (by decide) (As := [.ref l2, .int l3, .int (l3 + (32 : Int32))]) (rest := []) rfl rfl ⟨Nat.le_of_ble_eq_true rfl, Nat.le_of_ble_eq_true rfl⟩ (Nat.le_of_ble_eq_true rfl) (fun l D A => c_X4_add l D A e49) ?_
  refine ww_aload_n 52 X dX8_hashSalted_52 0 rfl rfl ?_
  obtain ⟨v53, e53, h⟩ := bO_some h
  refine ww_getR 53 X dX8_hashSalted_53 fG_X8_35 e53 ?_
  refine ww_aload 56 X dX8_hashSalted_56 4 rfl ?_
  obtain ⟨_, f58, h⟩ := bO_some h
  obtain ⟨M58, e58, h⟩ := bO_some h
  refine ww_callVV0 58 X dX8_hashSalted_58 mY_X4_finish mL_X8_111 (rcv_spec f58) ⟨_, _, rfl⟩ (by decide) (As := [.ref l4]) (rest := []) rfl rfl ⟨Nat.le_of_ble_eq_true rfl, Nat.le_of_ble_eq_true rfl⟩ (Nat.le_of_ble_eq_true rfl) (fun l D A => c_X4_finish l D A e58) ?_
  exact ww_vretE 61 X hQ dX8_hashSalted_61 h
theorem c_X8_hashSalted {G : mG} {F sz : Nat} {M0 : mM} (l : Launch) (D : mD) (A : Nat → Prop) {l0 : Nat} {l1 : Nat} {l2 : Nat} {l3 : Int32} {l4 : Nat} {M : mM} (h : P_X8_hashSalted G F l0 l1 l2 l3 l4 M = some M0) : mMetV l D G A yX8_hashSalted cX8_hashSalted 5 none 3 91 0 0 [.ref l0, .ref l1, .ref l2, .int l3, .ref l4] M sz M0 sz := mMetV_of l D G A (by decide) (Nat.le_of_ble_eq_true rfl) (fun x X hQ => wP_X8_hashSalted X hQ h)
/-! SealedTokens$Rsa.signPss(LSealedTokens$Bytes;LSealedTokens$Bytes;LSealedTokens$Bytes;LSealedTokens$Bytes;LSealedTokens$Bytes;)Z -/
theorem dX8_signPss_0 : decode cX8_signPss 0 = .ok (.aload_n 2, 1) := by decide +kernel
theorem dX8_signPss_1 : decode cX8_signPss 1 = .ok (.getfield 43, 3) := by decide +kernel
theorem dX8_signPss_4 : decode cX8_signPss 4 = .ok (.bipush 32, 2) := by decide +kernel
theorem dX8_signPss_6 : decode cX8_signPss 6 = .ok (.if_icmp .ge 5, 3) := by decide +kernel
theorem dX8_signPss_9 : decode cX8_signPss 9 = .ok (.iconst 0, 1) := by decide +kernel
theorem dX8_signPss_10 : decode cX8_signPss 10 = .ok (.ireturn, 1) := by decide +kernel
theorem dX8_signPss_11 : decode cX8_signPss 11 = .ok (.aload 4, 2) := by decide +kernel
theorem dX8_signPss_13 : decode cX8_signPss 13 = .ok (.invokestatic 117, 3) := by decide +kernel
theorem dX8_signPss_16 : decode cX8_signPss 16 = .ok (.iconst 1, 1) := by decide +kernel
theorem dX8_signPss_17 : decode cX8_signPss 17 = .ok (.isub, 1) := by decide +kernel
theorem dX8_signPss_18 : decode cX8_signPss 18 = .ok (.istore 6, 2) := by decide +kernel
theorem dX8_signPss_20 : decode cX8_signPss 20 = .ok (.iload 6, 2) := by decide +kernel
theorem dX8_signPss_22 : decode cX8_signPss 22 = .ok (.bipush 7, 2) := by decide +kernel
theorem dX8_signPss_24 : decode cX8_signPss 24 = .ok (.iadd, 1) := by decide +kernel
theorem dX8_signPss_25 : decode cX8_signPss 25 = .ok (.bipush 8, 2) := by decide +kernel
theorem dX8_signPss_27 : decode cX8_signPss 27 = .ok (.idiv, 1) := by decide +kernel
theorem dX8_signPss_28 : decode cX8_signPss 28 = .ok (.istore 7, 2) := by decide +kernel
theorem dX8_signPss_30 : decode cX8_signPss 30 = .ok (.iload 7, 2) := by decide +kernel
theorem dX8_signPss_32 : decode cX8_signPss 32 = .ok (.bipush 32, 2) := by decide +kernel
theorem dX8_signPss_34 : decode cX8_signPss 34 = .ok (.isub, 1) := by decide +kernel
theorem dX8_signPss_35 : decode cX8_signPss 35 = .ok (.iconst 1, 1) := by decide +kernel
theorem dX8_signPss_36 : decode cX8_signPss 36 = .ok (.isub, 1) := by decide +kernel
theorem dX8_signPss_37 : decode cX8_signPss 37 = .ok (.istore 8, 2) := by decide +kernel
theorem dX8_signPss_39 : decode cX8_signPss 39 = .ok (.aload_n 0, 1) := by decide +kernel
theorem dX8_signPss_40 : decode cX8_signPss 40 = .ok (.getfield 25, 3) := by decide +kernel
theorem dX8_signPss_43 : decode cX8_signPss 43 = .ok (.invokevirtual 55, 3) := by decide +kernel
theorem dX8_signPss_46 : decode cX8_signPss 46 = .ok (.aload_n 0, 1) := by decide +kernel
theorem dX8_signPss_47 : decode cX8_signPss 47 = .ok (.getfield 25, 3) := by decide +kernel
theorem dX8_signPss_50 : decode cX8_signPss 50 = .ok (.iconst 0, 1) := by decide +kernel
theorem dX8_signPss_51 : decode cX8_signPss 51 = .ok (.iload 8, 2) := by decide +kernel
theorem dX8_signPss_53 : decode cX8_signPss 53 = .ok (.bipush 32, 2) := by decide +kernel
theorem dX8_signPss_55 : decode cX8_signPss 55 = .ok (.isub, 1) := by decide +kernel
theorem dX8_signPss_56 : decode cX8_signPss 56 = .ok (.iconst 1, 1) := by decide +kernel
theorem dX8_signPss_57 : decode cX8_signPss 57 = .ok (.isub, 1) := by decide +kernel
theorem dX8_signPss_58 : decode cX8_signPss 58 = .ok (.invokevirtual 76, 3) := by decide +kernel
theorem dX8_signPss_61 : decode cX8_signPss 61 = .ok (.aload_n 0, 1) := by decide +kernel
theorem dX8_signPss_62 : decode cX8_signPss 62 = .ok (.getfield 25, 3) := by decide +kernel
theorem dX8_signPss_65 : decode cX8_signPss 65 = .ok (.iconst 1, 1) := by decide +kernel
theorem dX8_signPss_66 : decode cX8_signPss 66 = .ok (.invokevirtual 62, 3) := by decide +kernel
theorem dX8_signPss_69 : decode cX8_signPss 69 = .ok (.aload_n 0, 1) := by decide +kernel
theorem dX8_signPss_70 : decode cX8_signPss 70 = .ok (.getfield 25, 3) := by decide +kernel
theorem dX8_signPss_73 : decode cX8_signPss 73 = .ok (.aload_n 2, 1) := by decide +kernel
theorem dX8_signPss_74 : decode cX8_signPss 74 = .ok (.iconst 0, 1) := by decide +kernel
theorem dX8_signPss_75 : decode cX8_signPss 75 = .ok (.bipush 32, 2) := by decide +kernel
theorem dX8_signPss_77 : decode cX8_signPss 77 = .ok (.invokevirtual 121, 3) := by decide +kernel
theorem dX8_signPss_80 : decode cX8_signPss 80 = .ok (.aload_n 0, 1) := by decide +kernel
theorem dX8_signPss_81 : decode cX8_signPss 81 = .ok (.aload_n 1, 1) := by decide +kernel
theorem dX8_signPss_82 : decode cX8_signPss 82 = .ok (.aload_n 2, 1) := by decide +kernel
theorem dX8_signPss_83 : decode cX8_signPss 83 = .ok (.iconst 0, 1) := by decide +kernel
theorem dX8_signPss_84 : decode cX8_signPss 84 = .ok (.aload_n 0, 1) := by decide +kernel
theorem dX8_signPss_85 : decode cX8_signPss 85 = .ok (.getfield 25, 3) := by decide +kernel
theorem dX8_signPss_88 : decode cX8_signPss 88 = .ok (.invokevirtual 124, 3) := by decide +kernel
theorem dX8_signPss_91 : decode cX8_signPss 91 = .ok (.aload_n 0, 1) := by decide +kernel
theorem dX8_signPss_92 : decode cX8_signPss 92 = .ok (.getfield 25, 3) := by decide +kernel
theorem dX8_signPss_95 : decode cX8_signPss 95 = .ok (.sipush 188, 3) := by decide +kernel
theorem dX8_signPss_98 : decode cX8_signPss 98 = .ok (.invokevirtual 62, 3) := by decide +kernel
theorem dX8_signPss_101 : decode cX8_signPss 101 = .ok (.aload_n 0, 1) := by decide +kernel
theorem dX8_signPss_102 : decode cX8_signPss 102 = .ok (.iload 8, 2) := by decide +kernel
theorem dX8_signPss_104 : decode cX8_signPss 104 = .ok (.bipush 32, 2) := by decide +kernel
theorem dX8_signPss_106 : decode cX8_signPss 106 = .ok (.iconst 0, 1) := by decide +kernel
theorem dX8_signPss_107 : decode cX8_signPss 107 = .ok (.iload 8, 2) := by decide +kernel
theorem dX8_signPss_109 : decode cX8_signPss 109 = .ok (.invokevirtual 128, 3) := by decide +kernel
theorem dX8_signPss_112 : decode cX8_signPss 112 = .ok (.aload_n 0, 1) := by decide +kernel
theorem dX8_signPss_113 : decode cX8_signPss 113 = .ok (.getfield 25, 3) := by decide +kernel
theorem dX8_signPss_116 : decode cX8_signPss 116 = .ok (.iconst 0, 1) := by decide +kernel
theorem dX8_signPss_117 : decode cX8_signPss 117 = .ok (.aload_n 0, 1) := by decide +kernel
theorem dX8_signPss_118 : decode cX8_signPss 118 = .ok (.getfield 25, 3) := by decide +kernel
theorem dX8_signPss_121 : decode cX8_signPss 121 = .ok (.iconst 0, 1) := by decide +kernel
theorem dX8_signPss_122 : decode cX8_signPss 122 = .ok (.invokevirtual 68, 3) := by decide +kernel
theorem dX8_signPss_125 : decode cX8_signPss 125 = .ok (.sipush 255, 3) := by decide +kernel
theorem dX8_signPss_128 : decode cX8_signPss 128 = .ok (.bipush 8, 2) := by decide +kernel
theorem dX8_signPss_130 : decode cX8_signPss 130 = .ok (.iload 7, 2) := by decide +kernel
theorem dX8_signPss_132 : decode cX8_signPss 132 = .ok (.imul, 1) := by decide +kernel
theorem dX8_signPss_133 : decode cX8_signPss 133 = .ok (.iload 6, 2) := by decide +kernel
theorem dX8_signPss_135 : decode cX8_signPss 135 = .ok (.isub, 1) := by decide +kernel
theorem dX8_signPss_136 : decode cX8_signPss 136 = .ok (.ishr, 1) := by decide +kernel
theorem dX8_signPss_137 : decode cX8_signPss 137 = .ok (.iand, 1) := by decide +kernel
theorem dX8_signPss_138 : decode cX8_signPss 138 = .ok (.invokevirtual 114, 3) := by decide +kernel
theorem dX8_signPss_141 : decode cX8_signPss 141 = .ok (.aload_n 0, 1) := by decide +kernel
theorem dX8_signPss_142 : decode cX8_signPss 142 = .ok (.aload_n 0, 1) := by decide +kernel
theorem dX8_signPss_143 : decode cX8_signPss 143 = .ok (.getfield 25, 3) := by decide +kernel
theorem dX8_signPss_146 : decode cX8_signPss 146 = .ok (.aload_n 3, 1) := by decide +kernel
theorem dX8_signPss_147 : decode cX8_signPss 147 = .ok (.aload 4, 2) := by decide +kernel
theorem dX8_signPss_149 : decode cX8_signPss 149 = .ok (.aload 5, 2) := by decide +kernel
theorem dX8_signPss_151 : decode cX8_signPss 151 = .ok (.invokevirtual 65, 3) := by decide +kernel
theorem dX8_signPss_154 : decode cX8_signPss 154 = .ok (.iconst 1, 1) := by decide +kernel
theorem dX8_signPss_155 : decode cX8_signPss 155 = .ok (.ireturn, 1) := by decide +kernel
abbrev rmX8_signPss : Room := { frames := 5, cells := 0, slots := 0, locals := 168 }
set_option maxHeartbeats 4000000 in
set_option maxRecDepth 100000 in
theorem wP_X8_signPss {G : mG} {F : Nat} {x : mXT} {sz : Nat} {r0 : Int32} {M0 : mM} (X : mCX G RX8 cX8_signPss 9 (some .boolean) "signPss" rmX8_signPss x) (hQ : mQI x r0 M0 (sz, 0, 0)) {l0 : Nat} {l1 : Nat} {l2 : Nat} {l3 : Nat} {l4 : Nat} {l5 : Nat} {M : mM} (h : P_X8_signPss G F l0 l1 l2 l3 l4 l5 M = some (r0, M0)) : WW x (sz, 0, 0) M 0 [(0, .ref l0), (1, .ref l1), (2, .ref l2), (3, .ref l3), (4, .ref l4), (5, .ref l5)] [] := by
  unfold P_X8_signPss at h
  refine ww_aload_n 0 X dX8_signPss_0 2 rfl rfl ?_
  obtain ⟨v1, e1, h⟩ := bO_some h
  refine ww_getI 1 X dX8_signPss_1 fG_X8_43 e1 ?_
  refine ww_bipush 4 X (v := (32 : Int32)) dX8_signPss_4 (by decide) ?_
  refine ww_icmp_ge 6 11 X dX8_signPss_6 (by decide) (fun q => ?_) (fun q => ?_)
  · replace h := (if_pos q).symm.trans h
    refine ww_aload 11 X dX8_signPss_11 4 rfl ?_
    obtain ⟨v13, M13, e13, h⟩ := bP_some h
    refine ww_callSI0 13 X dX8_signPss_13 mY_X8_bitsOf mL_X8_117 (As := [.ref l4]) (rest := []) rfl rfl ⟨Nat.le_of_ble_eq_true rfl, Nat.le_of_ble_eq_true rfl⟩ (Nat.le_of_ble_eq_true rfl) (fun l D A => c_X8_bitsOf l D A e13) ?_
    refine ww_iconst 16 X (v := (1 : Int32)) dX8_signPss_16 (by decide) ?_
    refine ww_isub 17 X dX8_signPss_17 ?_
    refine ww_istore 18 X dX8_signPss_18 (lv' := [(0, .ref l0), (1, .ref l1), (2, .ref l2), (3, .ref l3), (4, .ref l4), (5, .ref l5), (6, .int (v13 - (1 : Int32)))]) (by decide) [1, 2, 3, 4, 5, 6, 0] rfl ?_
    refine ww_iload 20 X dX8_signPss_20 6 rfl ?_
    refine ww_bipush 22 X (v := (7 : Int32)) dX8_signPss_22 (by decide) ?_
    refine ww_iadd 24 X dX8_signPss_24 ?_
    refine ww_bipush 25 X (v := (8 : Int32)) dX8_signPss_25 (by decide) ?_
    refine ww_idiv 27 X (v := (((v13 - (1 : Int32)) + (7 : Int32)) / (8 : Int32))) dX8_signPss_27 rfl ?_
    refine ww_istore 28 X dX8_signPss_28 (lv' := [(0, .ref l0), (1, .ref l1), (2, .ref l2), (3, .ref l3), (4, .ref l4), (5, .ref l5), (6, .int (v13 - (1 : Int32))), (7, .int (((v13 - (1 : Int32)) + (7 : Int32)) / (8 : Int32)))]) (by decide) [1, 2, 3, 4, 5, 6, 7, 0] rfl ?_
    refine ww_iload 30 X dX8_signPss_30 7 rfl ?_
    refine ww_bipush 32 X (v := (32 : Int32)) dX8_signPss_32 (by decide) ?_
    refine ww_isub 34 X dX8_signPss_34 ?_
    refine ww_iconst 35 X (v := (1 : Int32)) dX8_signPss_35 (by decide) ?_
    refine ww_isub 36 X dX8_signPss_36 ?_
    refine ww_istore 37 X dX8_signPss_37 (lv' := [(0, .ref l0), (1, .ref l1), (2, .ref l2), (3, .ref l3), (4, .ref l4), (5, .ref l5), (6, .int (v13 - (1 : Int32))), (7, .int (((v13 - (1 : Int32)) + (7 : Int32)) / (8 : Int32))), (8, .int (((((v13 - (1 : Int32)) + (7 : Int32)) / (8 : Int32)) - (32 : Int32)) - (1 : Int32)))]) (by decide) [1, 2, 3, 4, 5, 6, 7, 8, 0] rfl ?_
    refine ww_aload_n 39 X dX8_signPss_39 0 rfl rfl ?_
    obtain ⟨v40, e40, h⟩ := bO_some h
    refine ww_getR 40 X dX8_signPss_40 fG_X8_25 e40 ?_
    obtain ⟨_, f43, h⟩ := bO_some h
    obtain ⟨M43, e43, h⟩ := bO_some h
    refine ww_callVV0 43 X dX8_signPss_43 mY_X0_clear mL_X8_55 (rcv_spec f43) ⟨_, _, rfl⟩ (by decide) (As := []) (rest := []) rfl rfl ⟨Nat.le_of_ble_eq_true rfl, Nat.le_of_ble_eq_true rfl⟩ (Nat.le_of_ble_eq_true rfl) (fun l D A => c_X0_clear l D A e43) ?_
    refine ww_aload_n 46 X dX8_signPss_46 0 rfl rfl ?_
    obtain ⟨v47, e47, h⟩ := bO_some h
    refine ww_getR 47 X dX8_signPss_47 fG_X8_25 e47 ?_
    refine ww_iconst 50 X (v := (0 : Int32)) dX8_signPss_50 (by decide) ?_
    refine ww_iload 51 X dX8_signPss_51 8 rfl ?_
    refine ww_bipush 53 X (v := (32 : Int32)) dX8_signPss_53 (by decide) ?_
    refine ww_isub 55 X dX8_signPss_55 ?_
    refine ww_iconst 56 X (v := (1 : Int32)) dX8_signPss_56 (by decide) ?_
    refine ww_isub 57 X dX8_signPss_57 ?_
    obtain ⟨_, f58, h⟩ := bO_some h
    obtain ⟨M58, e58, h⟩ := bO_some h
    refine ww_callVV0 58 X dX8_signPss_58 mY_X0_putSame mL_X8_76 (rcv_spec f58) ⟨_, _, rfl⟩ (by decide) (As := [.int (0 : Int32), .int (((((((v13 - (1 : Int32)) + (7 : Int32)) / (8 : Int32)) - (32 : Int32)) - (1 : Int32)) - (32 : Int32)) - (1 : Int32))]) (rest := []) rfl rfl ⟨Nat.le_of_ble_eq_true rfl, Nat.le_of_ble_eq_true rfl⟩ (Nat.le_of_ble_eq_true rfl) (fun l D A => c_X0_putSame l D A e58) ?_
    refine ww_aload_n 61 X dX8_signPss_61 0 rfl rfl ?_
    obtain ⟨v62, e62, h⟩ := bO_some h
    refine ww_getR 62 X dX8_signPss_62 fG_X8_25 e62 ?_
    refine ww_iconst 65 X (v := (1 : Int32)) dX8_signPss_65 (by decide) ?_
    obtain ⟨_, f66, h⟩ := bO_some h
    obtain ⟨M66, e66, h⟩ := bO_some h
    refine ww_callVV0 66 X dX8_signPss_66 mY_X0_put mL_X8_62 (rcv_spec f66) ⟨_, _, rfl⟩ (by decide) (As := [.int (1 : Int32)]) (rest := []) rfl rfl ⟨Nat.le_of_ble_eq_true rfl, Nat.le_of_ble_eq_true rfl⟩ (Nat.le_of_ble_eq_true rfl) (fun l D A => c_X0_put l D A e66) ?_
    refine ww_aload_n 69 X dX8_signPss_69 0 rfl rfl ?_
    obtain ⟨v70, e70, h⟩ := bO_some h
    refine ww_getR 70 X dX8_signPss_70 fG_X8_25 e70 ?_
    refine ww_aload_n 73 X dX8_signPss_73 2 rfl rfl ?_
    refine ww_iconst 74 X (v := (0 : Int32)) dX8_signPss_74 (by decide) ?_
    refine ww_bipush 75 X (v := (32 : Int32)) dX8_signPss_75 (by decide) ?_
    obtain ⟨_, f77, h⟩ := bO_some h
    obtain ⟨M77, e77, h⟩ := bO_some h
    refine ww_callVV0 77 X dX8_signPss_77 mY_X0_putPart mL_X8_121 (rcv_spec f77) ⟨_, _, rfl⟩ (by decide) (As := [.ref l2, .int (0 : Int32), .int (32 : Int32)]) (rest := []) rfl rfl ⟨Nat.le_of_ble_eq_true rfl, Nat.le_of_ble_eq_true rfl⟩ (Nat.le_of_ble_eq_true rfl) (fun l D A => c_X0_putPart l D A e77) ?_
    refine ww_aload_n 80 X dX8_signPss_80 0 rfl rfl ?_
    refine ww_aload_n 81 X dX8_signPss_81 1 rfl rfl ?_
    refine ww_aload_n 82 X dX8_signPss_82 2 rfl rfl ?_
    refine ww_iconst 83 X (v := (0 : Int32)) dX8_signPss_83 (by decide) ?_
    refine ww_aload_n 84 X dX8_signPss_84 0 rfl rfl ?_
    obtain ⟨v85, e85, h⟩ := bO_some h
    refine ww_getR 85 X dX8_signPss_85 fG_X8_25 e85 ?_
    obtain ⟨_, f88, h⟩ := bO_some h
    obtain ⟨M88, e88, h⟩ := bO_some h
    refine ww_callVV0 88 X dX8_signPss_88 mY_X8_hashSalted mL_X8_124 (rcv_spec f88) ⟨_, _, rfl⟩ (by decide) (As := [.ref l1, .ref l2, .int (0 : Int32), .ref v85]) (rest := []) rfl rfl ⟨Nat.le_of_ble_eq_true rfl, Nat.le_of_ble_eq_true rfl⟩ (Nat.le_of_ble_eq_true rfl) (fun l D A => c_X8_hashSalted l D A e88) ?_
    refine ww_aload_n 91 X dX8_signPss_91 0 rfl rfl ?_
    obtain ⟨v92, e92, h⟩ := bO_some h
    refine ww_getR 92 X dX8_signPss_92 fG_X8_25 e92 ?_
    refine ww_sipush 95 X (v := (188 : Int32)) dX8_signPss_95 (by decide) ?_
    obtain ⟨_, f98, h⟩ := bO_some h
    obtain ⟨M98, e98, h⟩ := bO_some h
    refine ww_callVV0 98 X dX8_signPss_98 mY_X0_put mL_X8_62 (rcv_spec f98) ⟨_, _, rfl⟩ (by decide) (As := [.int (188 : Int32)]) (rest := []) rfl rfl ⟨Nat.le_of_ble_eq_true rfl, Nat.le_of_ble_eq_true rfl⟩ (Nat.le_of_ble_eq_true rfl) (fun l D A => c_X0_put l D A e98) ?_
    refine ww_aload_n 101 X dX8_signPss_101 0 rfl rfl ?_
    refine ww_iload 102 X dX8_signPss_102 8 rfl ?_
    refine ww_bipush 104 X (v := (32 : Int32)) dX8_signPss_104 (by decide) ?_
    refine ww_iconst 106 X (v := (0 : Int32)) dX8_signPss_106 (by decide) ?_
    refine ww_iload 107 X dX8_signPss_107 8 rfl ?_
    obtain ⟨_, f109, h⟩ := bO_some h
    obtain ⟨M109, e109, h⟩ := bO_some h
    refine ww_callVV0 109 X dX8_signPss_109 mY_X8_maskFrame mL_X8_128 (rcv_spec f109) ⟨_, _, rfl⟩ (by decide) (As := [.int (((((v13 - (1 : Int32)) + (7 : Int32)) / (8 : Int32)) - (32 : Int32)) - (1 : Int32)), .int (32 : Int32), .int (0 : Int32), .int (((((v13 - (1 : Int32)) + (7 : Int32)) / (8 : Int32)) - (32 : Int32)) - (1 : Int32))]) (rest := []) rfl rfl ⟨Nat.le_of_ble_eq_true rfl, Nat.le_of_ble_eq_true rfl⟩ (Nat.le_of_ble_eq_true rfl) (fun l D A => c_X8_maskFrame l D A e109) ?_
    refine ww_aload_n 112 X dX8_signPss_112 0 rfl rfl ?_
    obtain ⟨v113, e113, h⟩ := bO_some h
    refine ww_getR 113 X dX8_signPss_113 fG_X8_25 e113 ?_
    refine ww_iconst 116 X (v := (0 : Int32)) dX8_signPss_116 (by decide) ?_
    refine ww_aload_n 117 X dX8_signPss_117 0 rfl rfl ?_
    obtain ⟨v118, e118, h⟩ := bO_some h
    refine ww_getR 118 X dX8_signPss_118 fG_X8_25 e118 ?_
    refine ww_iconst 121 X (v := (0 : Int32)) dX8_signPss_121 (by decide) ?_
    obtain ⟨_, f122, h⟩ := bO_some h
    obtain ⟨v122, M122, e122, h⟩ := bP_some h
    refine ww_callVI0 122 X dX8_signPss_122 mY_X0_get mL_X8_68 (rcv_spec f122) ⟨_, _, rfl⟩ (by decide) (As := [.int (0 : Int32)]) (rest := [.int (0 : Int32), .ref v113]) rfl rfl ⟨Nat.le_of_ble_eq_true rfl, Nat.le_of_ble_eq_true rfl⟩ (Nat.le_of_ble_eq_true rfl) (fun l D A => c_X0_get l D A e122) ?_
    refine ww_sipush 125 X (v := (255 : Int32)) dX8_signPss_125 (by decide) ?_
    refine ww_bipush 128 X (v := (8 : Int32)) dX8_signPss_128 (by decide) ?_
    refine ww_iload 130 X dX8_signPss_130 7 rfl ?_
    refine ww_imul 132 X dX8_signPss_132 ?_
    refine ww_iload 133 X dX8_signPss_133 6 rfl ?_
    refine ww_isub 135 X dX8_signPss_135 ?_
    refine ww_ishr 136 X dX8_signPss_136 ?_
    refine ww_iand 137 X dX8_signPss_137 ?_
    obtain ⟨_, f138, h⟩ := bO_some h
    obtain ⟨M138, e138, h⟩ := bO_some h
    refine ww_callVV0 138 X dX8_signPss_138 mY_X0_set mL_X8_114 (rcv_spec f138) ⟨_, _, rfl⟩ (by decide) (As := [.int (0 : Int32), .int (v122 &&& ((255 : Int32) >>> ((((8 : Int32) * (((v13 - (1 : Int32)) + (7 : Int32)) / (8 : Int32))) - (v13 - (1 : Int32))) &&& 31)))]) (rest := []) rfl rfl ⟨Nat.le_of_ble_eq_true rfl, Nat.le_of_ble_eq_true rfl⟩ (Nat.le_of_ble_eq_true rfl) (fun l D A => c_X0_set l D A e138) ?_
    refine ww_aload_n 141 X dX8_signPss_141 0 rfl rfl ?_
    refine ww_aload_n 142 X dX8_signPss_142 0 rfl rfl ?_
    obtain ⟨v143, e143, h⟩ := bO_some h
    refine ww_getR 143 X dX8_signPss_143 fG_X8_25 e143 ?_
    refine ww_aload_n 146 X dX8_signPss_146 3 rfl rfl ?_
    refine ww_aload 147 X dX8_signPss_147 4 rfl ?_
    refine ww_aload 149 X dX8_signPss_149 5 rfl ?_
    obtain ⟨_, f151, h⟩ := bO_some h
    obtain ⟨M151, e151, h⟩ := bO_some h
    refine ww_callVV0 151 X dX8_signPss_151 mY_X8_raise mL_X8_65 (rcv_spec f151) ⟨_, _, rfl⟩ (by decide) (As := [.ref v143, .ref l3, .ref l4, .ref l5]) (rest := []) rfl rfl ⟨Nat.le_of_ble_eq_true rfl, Nat.le_of_ble_eq_true rfl⟩ (Nat.le_of_ble_eq_true rfl) (fun l D A => c_X8_raise l D A e151) ?_
    refine ww_iconst 154 X (v := (1 : Int32)) dX8_signPss_154 (by decide) ?_
    exact ww_zretE 155 X hQ dX8_signPss_155 h
  · replace h := (if_neg q).symm.trans h
    refine ww_iconst 9 X (v := (0 : Int32)) dX8_signPss_9 (by decide) ?_
    exact ww_zretE 10 X hQ dX8_signPss_10 h
theorem c_X8_signPss {G : mG} {F sz : Nat} {r0 : Int32} {M0 : mM} (l : Launch) (D : mD) (A : Nat → Prop) {l0 : Nat} {l1 : Nat} {l2 : Nat} {l3 : Nat} {l4 : Nat} {l5 : Nat} {M : mM} (h : P_X8_signPss G F l0 l1 l2 l3 l4 l5 M = some (r0, M0)) : mMetI l D G A yX8_signPss cX8_signPss 9 (some .boolean) 5 168 0 0 [.ref l0, .ref l1, .ref l2, .ref l3, .ref l4, .ref l5] M sz r0 M0 sz := mMetI_of l D G A (by decide) (Nat.le_of_ble_eq_true rfl) (fun x X hQ => wP_X8_signPss X hQ h)
/-! SealedTokens$Rsa.isPssRight(LSealedTokens$Bytes;LSealedTokens$Bytes;LSealedTokens$Bytes;LSealedTokens$Bytes;)Z -/
theorem dX8_isPssRight_0 : decode cX8_isPssRight 0 = .ok (.aload_n 0, 1) := by decide +kernel
theorem dX8_isPssRight_1 : decode cX8_isPssRight 1 = .ok (.aload_n 2, 1) := by decide +kernel
theorem dX8_isPssRight_2 : decode cX8_isPssRight 2 = .ok (.aload 4, 2) := by decide +kernel
theorem dX8_isPssRight_4 : decode cX8_isPssRight 4 = .ok (.invokevirtual 91, 3) := by decide +kernel
theorem dX8_isPssRight_7 : decode cX8_isPssRight 7 = .ok (.ifCond .ne 5, 3) := by decide +kernel
theorem dX8_isPssRight_10 : decode cX8_isPssRight 10 = .ok (.iconst 0, 1) := by decide +kernel
theorem dX8_isPssRight_11 : decode cX8_isPssRight 11 = .ok (.ireturn, 1) := by decide +kernel
theorem dX8_isPssRight_12 : decode cX8_isPssRight 12 = .ok (.aload_n 0, 1) := by decide +kernel
theorem dX8_isPssRight_13 : decode cX8_isPssRight 13 = .ok (.aload_n 2, 1) := by decide +kernel
theorem dX8_isPssRight_14 : decode cX8_isPssRight 14 = .ok (.aload_n 3, 1) := by decide +kernel
theorem dX8_isPssRight_15 : decode cX8_isPssRight 15 = .ok (.aload 4, 2) := by decide +kernel
theorem dX8_isPssRight_17 : decode cX8_isPssRight 17 = .ok (.aload_n 0, 1) := by decide +kernel
theorem dX8_isPssRight_18 : decode cX8_isPssRight 18 = .ok (.getfield 29, 3) := by decide +kernel
theorem dX8_isPssRight_21 : decode cX8_isPssRight 21 = .ok (.invokevirtual 65, 3) := by decide +kernel
theorem dX8_isPssRight_24 : decode cX8_isPssRight 24 = .ok (.aload 4, 2) := by decide +kernel
theorem dX8_isPssRight_26 : decode cX8_isPssRight 26 = .ok (.invokestatic 117, 3) := by decide +kernel
theorem dX8_isPssRight_29 : decode cX8_isPssRight 29 = .ok (.iconst 1, 1) := by decide +kernel
theorem dX8_isPssRight_30 : decode cX8_isPssRight 30 = .ok (.isub, 1) := by decide +kernel
theorem dX8_isPssRight_31 : decode cX8_isPssRight 31 = .ok (.istore 5, 2) := by decide +kernel
theorem dX8_isPssRight_33 : decode cX8_isPssRight 33 = .ok (.iload 5, 2) := by decide +kernel
theorem dX8_isPssRight_35 : decode cX8_isPssRight 35 = .ok (.bipush 7, 2) := by decide +kernel
theorem dX8_isPssRight_37 : decode cX8_isPssRight 37 = .ok (.iadd, 1) := by decide +kernel
theorem dX8_isPssRight_38 : decode cX8_isPssRight 38 = .ok (.bipush 8, 2) := by decide +kernel
theorem dX8_isPssRight_40 : decode cX8_isPssRight 40 = .ok (.idiv, 1) := by decide +kernel
theorem dX8_isPssRight_41 : decode cX8_isPssRight 41 = .ok (.istore 6, 2) := by decide +kernel
theorem dX8_isPssRight_43 : decode cX8_isPssRight 43 = .ok (.aload_n 0, 1) := by decide +kernel
theorem dX8_isPssRight_44 : decode cX8_isPssRight 44 = .ok (.getfield 29, 3) := by decide +kernel
theorem dX8_isPssRight_47 : decode cX8_isPssRight 47 = .ok (.getfield 43, 3) := by decide +kernel
theorem dX8_isPssRight_50 : decode cX8_isPssRight 50 = .ok (.iload 6, 2) := by decide +kernel
theorem dX8_isPssRight_52 : decode cX8_isPssRight 52 = .ok (.isub, 1) := by decide +kernel
theorem dX8_isPssRight_53 : decode cX8_isPssRight 53 = .ok (.istore 7, 2) := by decide +kernel
theorem dX8_isPssRight_55 : decode cX8_isPssRight 55 = .ok (.iload 7, 2) := by decide +kernel
theorem dX8_isPssRight_57 : decode cX8_isPssRight 57 = .ok (.ifCond .le 16, 3) := by decide +kernel
theorem dX8_isPssRight_60 : decode cX8_isPssRight 60 = .ok (.aload_n 0, 1) := by decide +kernel
theorem dX8_isPssRight_61 : decode cX8_isPssRight 61 = .ok (.getfield 29, 3) := by decide +kernel
theorem dX8_isPssRight_64 : decode cX8_isPssRight 64 = .ok (.iconst 0, 1) := by decide +kernel
theorem dX8_isPssRight_65 : decode cX8_isPssRight 65 = .ok (.invokevirtual 68, 3) := by decide +kernel
theorem dX8_isPssRight_68 : decode cX8_isPssRight 68 = .ok (.ifCond .eq 5, 3) := by decide +kernel
theorem dX8_isPssRight_71 : decode cX8_isPssRight 71 = .ok (.iconst 0, 1) := by decide +kernel
theorem dX8_isPssRight_72 : decode cX8_isPssRight 72 = .ok (.ireturn, 1) := by decide +kernel
theorem dX8_isPssRight_73 : decode cX8_isPssRight 73 = .ok (.aload_n 0, 1) := by decide +kernel
theorem dX8_isPssRight_74 : decode cX8_isPssRight 74 = .ok (.getfield 25, 3) := by decide +kernel
theorem dX8_isPssRight_77 : decode cX8_isPssRight 77 = .ok (.invokevirtual 55, 3) := by decide +kernel
theorem dX8_isPssRight_80 : decode cX8_isPssRight 80 = .ok (.aload_n 0, 1) := by decide +kernel
theorem dX8_isPssRight_81 : decode cX8_isPssRight 81 = .ok (.getfield 25, 3) := by decide +kernel
theorem dX8_isPssRight_84 : decode cX8_isPssRight 84 = .ok (.aload_n 0, 1) := by decide +kernel
theorem dX8_isPssRight_85 : decode cX8_isPssRight 85 = .ok (.getfield 29, 3) := by decide +kernel
theorem dX8_isPssRight_88 : decode cX8_isPssRight 88 = .ok (.iload 7, 2) := by decide +kernel
theorem dX8_isPssRight_90 : decode cX8_isPssRight 90 = .ok (.iload 6, 2) := by decide +kernel
theorem dX8_isPssRight_92 : decode cX8_isPssRight 92 = .ok (.invokevirtual 121, 3) := by decide +kernel
theorem dX8_isPssRight_95 : decode cX8_isPssRight 95 = .ok (.sipush 255, 3) := by decide +kernel
theorem dX8_isPssRight_98 : decode cX8_isPssRight 98 = .ok (.bipush 8, 2) := by decide +kernel
theorem dX8_isPssRight_100 : decode cX8_isPssRight 100 = .ok (.iload 6, 2) := by decide +kernel
theorem dX8_isPssRight_102 : decode cX8_isPssRight 102 = .ok (.imul, 1) := by decide +kernel
theorem dX8_isPssRight_103 : decode cX8_isPssRight 103 = .ok (.iload 5, 2) := by decide +kernel
theorem dX8_isPssRight_105 : decode cX8_isPssRight 105 = .ok (.isub, 1) := by decide +kernel
theorem dX8_isPssRight_106 : decode cX8_isPssRight 106 = .ok (.ishr, 1) := by decide +kernel
theorem dX8_isPssRight_107 : decode cX8_isPssRight 107 = .ok (.istore 8, 2) := by decide +kernel
theorem dX8_isPssRight_109 : decode cX8_isPssRight 109 = .ok (.aload_n 0, 1) := by decide +kernel
theorem dX8_isPssRight_110 : decode cX8_isPssRight 110 = .ok (.getfield 25, 3) := by decide +kernel
theorem dX8_isPssRight_113 : decode cX8_isPssRight 113 = .ok (.iload 6, 2) := by decide +kernel
theorem dX8_isPssRight_115 : decode cX8_isPssRight 115 = .ok (.iconst 1, 1) := by decide +kernel
theorem dX8_isPssRight_116 : decode cX8_isPssRight 116 = .ok (.isub, 1) := by decide +kernel
theorem dX8_isPssRight_117 : decode cX8_isPssRight 117 = .ok (.invokevirtual 68, 3) := by decide +kernel
theorem dX8_isPssRight_120 : decode cX8_isPssRight 120 = .ok (.sipush 188, 3) := by decide +kernel
theorem dX8_isPssRight_123 : decode cX8_isPssRight 123 = .ok (.if_icmp .ne 19, 3) := by decide +kernel
theorem dX8_isPssRight_126 : decode cX8_isPssRight 126 = .ok (.aload_n 0, 1) := by decide +kernel
theorem dX8_isPssRight_127 : decode cX8_isPssRight 127 = .ok (.getfield 25, 3) := by decide +kernel
theorem dX8_isPssRight_130 : decode cX8_isPssRight 130 = .ok (.iconst 0, 1) := by decide +kernel
theorem dX8_isPssRight_131 : decode cX8_isPssRight 131 = .ok (.invokevirtual 68, 3) := by decide +kernel
theorem dX8_isPssRight_134 : decode cX8_isPssRight 134 = .ok (.iload 8, 2) := by decide +kernel
theorem dX8_isPssRight_136 : decode cX8_isPssRight 136 = .ok (.iconst (-1), 1) := by decide +kernel
theorem dX8_isPssRight_137 : decode cX8_isPssRight 137 = .ok (.ixor, 1) := by decide +kernel
theorem dX8_isPssRight_138 : decode cX8_isPssRight 138 = .ok (.iand, 1) := by decide +kernel
theorem dX8_isPssRight_139 : decode cX8_isPssRight 139 = .ok (.ifCond .eq 5, 3) := by decide +kernel
theorem dX8_isPssRight_142 : decode cX8_isPssRight 142 = .ok (.iconst 0, 1) := by decide +kernel
theorem dX8_isPssRight_143 : decode cX8_isPssRight 143 = .ok (.ireturn, 1) := by decide +kernel
theorem dX8_isPssRight_144 : decode cX8_isPssRight 144 = .ok (.iload 6, 2) := by decide +kernel
theorem dX8_isPssRight_146 : decode cX8_isPssRight 146 = .ok (.bipush 32, 2) := by decide +kernel
theorem dX8_isPssRight_148 : decode cX8_isPssRight 148 = .ok (.isub, 1) := by decide +kernel
theorem dX8_isPssRight_149 : decode cX8_isPssRight 149 = .ok (.iconst 1, 1) := by decide +kernel
theorem dX8_isPssRight_150 : decode cX8_isPssRight 150 = .ok (.isub, 1) := by decide +kernel
theorem dX8_isPssRight_151 : decode cX8_isPssRight 151 = .ok (.istore 9, 2) := by decide +kernel
theorem dX8_isPssRight_153 : decode cX8_isPssRight 153 = .ok (.aload_n 0, 1) := by decide +kernel
theorem dX8_isPssRight_154 : decode cX8_isPssRight 154 = .ok (.iload 9, 2) := by decide +kernel
theorem dX8_isPssRight_156 : decode cX8_isPssRight 156 = .ok (.bipush 32, 2) := by decide +kernel
theorem dX8_isPssRight_158 : decode cX8_isPssRight 158 = .ok (.iconst 0, 1) := by decide +kernel
theorem dX8_isPssRight_159 : decode cX8_isPssRight 159 = .ok (.iload 9, 2) := by decide +kernel
theorem dX8_isPssRight_161 : decode cX8_isPssRight 161 = .ok (.invokevirtual 128, 3) := by decide +kernel
theorem dX8_isPssRight_164 : decode cX8_isPssRight 164 = .ok (.aload_n 0, 1) := by decide +kernel
theorem dX8_isPssRight_165 : decode cX8_isPssRight 165 = .ok (.getfield 25, 3) := by decide +kernel
theorem dX8_isPssRight_168 : decode cX8_isPssRight 168 = .ok (.iconst 0, 1) := by decide +kernel
theorem dX8_isPssRight_169 : decode cX8_isPssRight 169 = .ok (.aload_n 0, 1) := by decide +kernel
theorem dX8_isPssRight_170 : decode cX8_isPssRight 170 = .ok (.getfield 25, 3) := by decide +kernel
theorem dX8_isPssRight_173 : decode cX8_isPssRight 173 = .ok (.iconst 0, 1) := by decide +kernel
theorem dX8_isPssRight_174 : decode cX8_isPssRight 174 = .ok (.invokevirtual 68, 3) := by decide +kernel
theorem dX8_isPssRight_177 : decode cX8_isPssRight 177 = .ok (.iload 8, 2) := by decide +kernel
theorem dX8_isPssRight_179 : decode cX8_isPssRight 179 = .ok (.iand, 1) := by decide +kernel
theorem dX8_isPssRight_180 : decode cX8_isPssRight 180 = .ok (.invokevirtual 114, 3) := by decide +kernel
theorem dX8_isPssRight_183 : decode cX8_isPssRight 183 = .ok (.iload 9, 2) := by decide +kernel
theorem dX8_isPssRight_185 : decode cX8_isPssRight 185 = .ok (.bipush 32, 2) := by decide +kernel
theorem dX8_isPssRight_187 : decode cX8_isPssRight 187 = .ok (.isub, 1) := by decide +kernel
theorem dX8_isPssRight_188 : decode cX8_isPssRight 188 = .ok (.iconst 1, 1) := by decide +kernel
theorem dX8_isPssRight_189 : decode cX8_isPssRight 189 = .ok (.isub, 1) := by decide +kernel
theorem dX8_isPssRight_190 : decode cX8_isPssRight 190 = .ok (.istore 10, 2) := by decide +kernel
theorem dX8_isPssRight_192 : decode cX8_isPssRight 192 = .ok (.iconst 0, 1) := by decide +kernel
theorem dX8_isPssRight_193 : decode cX8_isPssRight 193 = .ok (.istore 11, 2) := by decide +kernel
theorem dX8_isPssRight_195 : decode cX8_isPssRight 195 = .ok (.iload 11, 2) := by decide +kernel
theorem dX8_isPssRight_197 : decode cX8_isPssRight 197 = .ok (.iload 10, 2) := by decide +kernel
theorem dX8_isPssRight_199 : decode cX8_isPssRight 199 = .ok (.if_icmp .ge 23, 3) := by decide +kernel
theorem dX8_isPssRight_202 : decode cX8_isPssRight 202 = .ok (.aload_n 0, 1) := by decide +kernel
theorem dX8_isPssRight_203 : decode cX8_isPssRight 203 = .ok (.getfield 25, 3) := by decide +kernel
theorem dX8_isPssRight_206 : decode cX8_isPssRight 206 = .ok (.iload 11, 2) := by decide +kernel
theorem dX8_isPssRight_208 : decode cX8_isPssRight 208 = .ok (.invokevirtual 68, 3) := by decide +kernel
theorem dX8_isPssRight_211 : decode cX8_isPssRight 211 = .ok (.ifCond .eq 5, 3) := by decide +kernel
theorem dX8_isPssRight_214 : decode cX8_isPssRight 214 = .ok (.iconst 0, 1) := by decide +kernel
theorem dX8_isPssRight_215 : decode cX8_isPssRight 215 = .ok (.ireturn, 1) := by decide +kernel
theorem dX8_isPssRight_216 : decode cX8_isPssRight 216 = .ok (.iinc 11 1, 3) := by decide +kernel
theorem dX8_isPssRight_219 : decode cX8_isPssRight 219 = .ok (.goto (-24), 3) := by decide +kernel
theorem dX8_isPssRight_222 : decode cX8_isPssRight 222 = .ok (.aload_n 0, 1) := by decide +kernel
theorem dX8_isPssRight_223 : decode cX8_isPssRight 223 = .ok (.getfield 29, 3) := by decide +kernel
theorem dX8_isPssRight_226 : decode cX8_isPssRight 226 = .ok (.invokevirtual 55, 3) := by decide +kernel
theorem dX8_isPssRight_229 : decode cX8_isPssRight 229 = .ok (.aload_n 0, 1) := by decide +kernel
theorem dX8_isPssRight_230 : decode cX8_isPssRight 230 = .ok (.aload_n 1, 1) := by decide +kernel
theorem dX8_isPssRight_231 : decode cX8_isPssRight 231 = .ok (.aload_n 0, 1) := by decide +kernel
theorem dX8_isPssRight_232 : decode cX8_isPssRight 232 = .ok (.getfield 25, 3) := by decide +kernel
theorem dX8_isPssRight_235 : decode cX8_isPssRight 235 = .ok (.iload 10, 2) := by decide +kernel
theorem dX8_isPssRight_237 : decode cX8_isPssRight 237 = .ok (.iconst 1, 1) := by decide +kernel
theorem dX8_isPssRight_238 : decode cX8_isPssRight 238 = .ok (.iadd, 1) := by decide +kernel
theorem dX8_isPssRight_239 : decode cX8_isPssRight 239 = .ok (.aload_n 0, 1) := by decide +kernel
theorem dX8_isPssRight_240 : decode cX8_isPssRight 240 = .ok (.getfield 29, 3) := by decide +kernel
theorem dX8_isPssRight_243 : decode cX8_isPssRight 243 = .ok (.invokevirtual 124, 3) := by decide +kernel
theorem dX8_isPssRight_246 : decode cX8_isPssRight 246 = .ok (.aload_n 0, 1) := by decide +kernel
theorem dX8_isPssRight_247 : decode cX8_isPssRight 247 = .ok (.getfield 25, 3) := by decide +kernel
theorem dX8_isPssRight_250 : decode cX8_isPssRight 250 = .ok (.iload 10, 2) := by decide +kernel
theorem dX8_isPssRight_252 : decode cX8_isPssRight 252 = .ok (.invokevirtual 68, 3) := by decide +kernel
theorem dX8_isPssRight_255 : decode cX8_isPssRight 255 = .ok (.iconst 1, 1) := by decide +kernel
theorem dX8_isPssRight_256 : decode cX8_isPssRight 256 = .ok (.if_icmp .ne 26, 3) := by decide +kernel
theorem dX8_isPssRight_259 : decode cX8_isPssRight 259 = .ok (.aload_n 0, 1) := by decide +kernel
theorem dX8_isPssRight_260 : decode cX8_isPssRight 260 = .ok (.getfield 29, 3) := by decide +kernel
theorem dX8_isPssRight_263 : decode cX8_isPssRight 263 = .ok (.iconst 0, 1) := by decide +kernel
theorem dX8_isPssRight_264 : decode cX8_isPssRight 264 = .ok (.aload_n 0, 1) := by decide +kernel
theorem dX8_isPssRight_265 : decode cX8_isPssRight 265 = .ok (.getfield 25, 3) := by decide +kernel
theorem dX8_isPssRight_268 : decode cX8_isPssRight 268 = .ok (.iload 9, 2) := by decide +kernel
theorem dX8_isPssRight_270 : decode cX8_isPssRight 270 = .ok (.bipush 32, 2) := by decide +kernel
theorem dX8_isPssRight_272 : decode cX8_isPssRight 272 = .ok (.invokestatic 87, 3) := by decide +kernel
theorem dX8_isPssRight_275 : decode cX8_isPssRight 275 = .ok (.ifCond .ne 7, 3) := by decide +kernel
theorem dX8_isPssRight_278 : decode cX8_isPssRight 278 = .ok (.iconst 1, 1) := by decide +kernel
theorem dX8_isPssRight_279 : decode cX8_isPssRight 279 = .ok (.goto 4, 3) := by decide +kernel
theorem dX8_isPssRight_282 : decode cX8_isPssRight 282 = .ok (.iconst 0, 1) := by decide +kernel
theorem dX8_isPssRight_283 : decode cX8_isPssRight 283 = .ok (.ireturn, 1) := by decide +kernel
abbrev rmX8_isPssRight : Room := { frames := 5, cells := 0, slots := 0, locals := 168 }
set_option maxHeartbeats 4000000 in
set_option maxRecDepth 100000 in
theorem wB_X8_isPssRight_195 {G : mG} {F : Nat} {x : mXT} {sz : Nat} {r0 : Int32} {M0 : mM} (X : mCX G RX8 cX8_isPssRight 12 (some .boolean) "isPssRight" rmX8_isPssRight x) (hQ : mQI x r0 M0 (sz, 0, 0)) : ∀ (n : Nat) (l0 : Nat) (l1 : Nat) (l9 : Int32) (l10 : Int32) (l11 : Int32) (M : mM), B_X8_isPssRight_195 G F n l0 l1 l9 l10 l11 M = some (r0, M0) → WW x (sz, 0, 0) M 195 [(0, .ref l0), (1, .ref l1), (9, .int l9), (10, .int l10), (11, .int l11)] [] := by
  intro n
  induction n with
  | zero =>
    intro l0 l1 l9 l10 l11 M h
    exact nomatch (show (none : Option (Int32 × mM)) = some (r0, M0) from h)
  | succ n ih =>
    intro l0 l1 l9 l10 l11 M h
    rw [B_X8_isPssRight_195] at h
    refine ww_iload 195 X dX8_isPssRight_195 4 rfl ?_
    refine ww_iload 197 X dX8_isPssRight_197 3 rfl ?_
    refine ww_icmp_ge 199 222 X dX8_isPssRight_199 (by decide) (fun q => ?_) (fun q => ?_)
    · replace h := (if_pos q).symm.trans h
      refine ww_aload_n 222 X dX8_isPssRight_222 0 rfl rfl ?_
      obtain ⟨v223, e223, h⟩ := bO_some h
      refine ww_getR 223 X dX8_isPssRight_223 fG_X8_29 e223 ?_
      obtain ⟨_, f226, h⟩ := bO_some h
      obtain ⟨M226, e226, h⟩ := bO_some h
      refine ww_callVV0 226 X dX8_isPssRight_226 mY_X0_clear mL_X8_55 (rcv_spec f226) ⟨_, _, rfl⟩ (by decide) (As := []) (rest := []) rfl rfl ⟨Nat.le_of_ble_eq_true rfl, Nat.le_of_ble_eq_true rfl⟩ (Nat.le_of_ble_eq_true rfl) (fun l D A => c_X0_clear l D A e226) ?_
      refine ww_aload_n 229 X dX8_isPssRight_229 0 rfl rfl ?_
      refine ww_aload_n 230 X dX8_isPssRight_230 1 rfl rfl ?_
      refine ww_aload_n 231 X dX8_isPssRight_231 0 rfl rfl ?_
      obtain ⟨v232, e232, h⟩ := bO_some h
      refine ww_getR 232 X dX8_isPssRight_232 fG_X8_25 e232 ?_
      refine ww_iload 235 X dX8_isPssRight_235 3 rfl ?_
      refine ww_iconst 237 X (v := (1 : Int32)) dX8_isPssRight_237 (by decide) ?_
      refine ww_iadd 238 X dX8_isPssRight_238 ?_
      refine ww_aload_n 239 X dX8_isPssRight_239 0 rfl rfl ?_
      obtain ⟨v240, e240, h⟩ := bO_some h
      refine ww_getR 240 X dX8_isPssRight_240 fG_X8_29 e240 ?_
      obtain ⟨_, f243, h⟩ := bO_some h
      obtain ⟨M243, e243, h⟩ := bO_some h
      refine ww_callVV0 243 X dX8_isPssRight_243 mY_X8_hashSalted mL_X8_124 (rcv_spec f243) ⟨_, _, rfl⟩ (by decide) (As := [.ref l1, .ref v232, .int (l10 + (1 : Int32)), .ref v240]) (rest := []) rfl rfl ⟨Nat.le_of_ble_eq_true rfl, Nat.le_of_ble_eq_true rfl⟩ (Nat.le_of_ble_eq_true rfl) (fun l D A => c_X8_hashSalted l D A e243) ?_
      refine ww_aload_n 246 X dX8_isPssRight_246 0 rfl rfl ?_
      obtain ⟨v247, e247, h⟩ := bO_some h
      refine ww_getR 247 X dX8_isPssRight_247 fG_X8_25 e247 ?_
      refine ww_iload 250 X dX8_isPssRight_250 3 rfl ?_
      obtain ⟨_, f252, h⟩ := bO_some h
      obtain ⟨v252, M252, e252, h⟩ := bP_some h
      refine ww_callVI0 252 X dX8_isPssRight_252 mY_X0_get mL_X8_68 (rcv_spec f252) ⟨_, _, rfl⟩ (by decide) (As := [.int l10]) (rest := []) rfl rfl ⟨Nat.le_of_ble_eq_true rfl, Nat.le_of_ble_eq_true rfl⟩ (Nat.le_of_ble_eq_true rfl) (fun l D A => c_X0_get l D A e252) ?_
      refine ww_iconst 255 X (v := (1 : Int32)) dX8_isPssRight_255 (by decide) ?_
      refine ww_icmp_ne 256 282 X dX8_isPssRight_256 (by decide) (fun q => ?_) (fun q => ?_)
      · replace h := (if_neg q).symm.trans h
        refine ww_iconst 282 X (v := (0 : Int32)) dX8_isPssRight_282 (by decide) ?_
        exact ww_zretE 283 X hQ dX8_isPssRight_283 h
      · replace h := (if_pos q).symm.trans h
        refine ww_aload_n 259 X dX8_isPssRight_259 0 rfl rfl ?_
        obtain ⟨v260, e260, h⟩ := bO_some h
        refine ww_getR 260 X dX8_isPssRight_260 fG_X8_29 e260 ?_
        refine ww_iconst 263 X (v := (0 : Int32)) dX8_isPssRight_263 (by decide) ?_
        refine ww_aload_n 264 X dX8_isPssRight_264 0 rfl rfl ?_
        obtain ⟨v265, e265, h⟩ := bO_some h
        refine ww_getR 265 X dX8_isPssRight_265 fG_X8_25 e265 ?_
        refine ww_iload 268 X dX8_isPssRight_268 2 rfl ?_
        refine ww_bipush 270 X (v := (32 : Int32)) dX8_isPssRight_270 (by decide) ?_
        obtain ⟨v272, M272, e272, h⟩ := bP_some h
        refine ww_callSI0 272 X dX8_isPssRight_272 mY_X0_compare mL_X8_87 (As := [.ref v260, .int (0 : Int32), .ref v265, .int l9, .int (32 : Int32)]) (rest := []) rfl rfl ⟨Nat.le_of_ble_eq_true rfl, Nat.le_of_ble_eq_true rfl⟩ (Nat.le_of_ble_eq_true rfl) (fun l D A => c_X0_compare l D A e272) ?_
        refine ww_if_ne 275 282 X dX8_isPssRight_275 (by decide) (fun q => ?_) (fun q => ?_)
        · replace h := (if_neg q).symm.trans h
          refine ww_iconst 282 X (v := (0 : Int32)) dX8_isPssRight_282 (by decide) ?_
          exact ww_zretE 283 X hQ dX8_isPssRight_283 h
        · replace h := (if_pos q).symm.trans h
          refine ww_iconst 278 X (v := (1 : Int32)) dX8_isPssRight_278 (by decide) ?_
          refine ww_goto 279 283 X dX8_isPssRight_279 (by decide) ?_
          exact ww_zretE 283 X hQ dX8_isPssRight_283 h
    · replace h := (if_neg q).symm.trans h
      refine ww_aload_n 202 X dX8_isPssRight_202 0 rfl rfl ?_
      obtain ⟨v203, e203, h⟩ := bO_some h
      refine ww_getR 203 X dX8_isPssRight_203 fG_X8_25 e203 ?_
      refine ww_iload 206 X dX8_isPssRight_206 4 rfl ?_
      obtain ⟨_, f208, h⟩ := bO_some h
      obtain ⟨v208, M208, e208, h⟩ := bP_some h
      refine ww_callVI0 208 X dX8_isPssRight_208 mY_X0_get mL_X8_68 (rcv_spec f208) ⟨_, _, rfl⟩ (by decide) (As := [.int l11]) (rest := []) rfl rfl ⟨Nat.le_of_ble_eq_true rfl, Nat.le_of_ble_eq_true rfl⟩ (Nat.le_of_ble_eq_true rfl) (fun l D A => c_X0_get l D A e208) ?_
      refine ww_if_eq 211 216 X dX8_isPssRight_211 (by decide) (fun q => ?_) (fun q => ?_)
      · replace h := (if_pos q).symm.trans h
        refine ww_iinc 216 X dX8_isPssRight_216 (lv' := [(0, .ref l0), (1, .ref l1), (9, .int l9), (10, .int l10), (11, .int (l11 + 1))]) 4 rfl rfl (by decide) [1, 2, 3, 4, 0] rfl ?_
        refine ww_goto 219 195 X dX8_isPssRight_219 (by decide) ?_
        exact (ih _ _ _ _ _ _ h)
      · replace h := (if_neg q).symm.trans h
        refine ww_iconst 214 X (v := (0 : Int32)) dX8_isPssRight_214 (by decide) ?_
        exact ww_zretE 215 X hQ dX8_isPssRight_215 h
set_option maxHeartbeats 4000000 in
set_option maxRecDepth 100000 in
theorem wB_X8_isPssRight_73 {G : mG} {F : Nat} {x : mXT} {sz : Nat} {r0 : Int32} {M0 : mM} (X : mCX G RX8 cX8_isPssRight 12 (some .boolean) "isPssRight" rmX8_isPssRight x) (hQ : mQI x r0 M0 (sz, 0, 0)) {l0 : Nat} {l1 : Nat} {l5 : Int32} {l6 : Int32} {l7 : Int32} {M : mM} (h : B_X8_isPssRight_73 G F l0 l1 l5 l6 l7 M = some (r0, M0)) : WW x (sz, 0, 0) M 73 [(0, .ref l0), (1, .ref l1), (5, .int l5), (6, .int l6), (7, .int l7)] [] := by
  unfold B_X8_isPssRight_73 at h
  refine ww_aload_n 73 X dX8_isPssRight_73 0 rfl rfl ?_
  obtain ⟨v74, e74, h⟩ := bO_some h
  refine ww_getR 74 X dX8_isPssRight_74 fG_X8_25 e74 ?_
  obtain ⟨_, f77, h⟩ := bO_some h
  obtain ⟨M77, e77, h⟩ := bO_some h
  refine ww_callVV0 77 X dX8_isPssRight_77 mY_X0_clear mL_X8_55 (rcv_spec f77) ⟨_, _, rfl⟩ (by decide) (As := []) (rest := []) rfl rfl ⟨Nat.le_of_ble_eq_true rfl, Nat.le_of_ble_eq_true rfl⟩ (Nat.le_of_ble_eq_true rfl) (fun l D A => c_X0_clear l D A e77) ?_
  refine ww_aload_n 80 X dX8_isPssRight_80 0 rfl rfl ?_
  obtain ⟨v81, e81, h⟩ := bO_some h
  refine ww_getR 81 X dX8_isPssRight_81 fG_X8_25 e81 ?_
  refine ww_aload_n 84 X dX8_isPssRight_84 0 rfl rfl ?_
  obtain ⟨v85, e85, h⟩ := bO_some h
  refine ww_getR 85 X dX8_isPssRight_85 fG_X8_29 e85 ?_
  refine ww_iload 88 X dX8_isPssRight_88 4 rfl ?_
  refine ww_iload 90 X dX8_isPssRight_90 3 rfl ?_
  obtain ⟨_, f92, h⟩ := bO_some h
  obtain ⟨M92, e92, h⟩ := bO_some h
  refine ww_callVV0 92 X dX8_isPssRight_92 mY_X0_putPart mL_X8_121 (rcv_spec f92) ⟨_, _, rfl⟩ (by decide) (As := [.ref v85, .int l7, .int l6]) (rest := []) rfl rfl ⟨Nat.le_of_ble_eq_true rfl, Nat.le_of_ble_eq_true rfl⟩ (Nat.le_of_ble_eq_true rfl) (fun l D A => c_X0_putPart l D A e92) ?_
  refine ww_sipush 95 X (v := (255 : Int32)) dX8_isPssRight_95 (by decide) ?_
  refine ww_bipush 98 X (v := (8 : Int32)) dX8_isPssRight_98 (by decide) ?_
  refine ww_iload 100 X dX8_isPssRight_100 3 rfl ?_
  refine ww_imul 102 X dX8_isPssRight_102 ?_
  refine ww_iload 103 X dX8_isPssRight_103 2 rfl ?_
  refine ww_isub 105 X dX8_isPssRight_105 ?_
  refine ww_ishr 106 X dX8_isPssRight_106 ?_
  refine ww_istore 107 X dX8_isPssRight_107 (lv' := [(0, .ref l0), (1, .ref l1), (5, .int l5), (6, .int l6), (7, .int l7), (8, .int ((255 : Int32) >>> ((((8 : Int32) * l6) - l5) &&& 31)))]) (by decide) [1, 2, 3, 4, 5, 0] rfl ?_
  refine ww_aload_n 109 X dX8_isPssRight_109 0 rfl rfl ?_
  obtain ⟨v110, e110, h⟩ := bO_some h
  refine ww_getR 110 X dX8_isPssRight_110 fG_X8_25 e110 ?_
  refine ww_iload 113 X dX8_isPssRight_113 3 rfl ?_
  refine ww_iconst 115 X (v := (1 : Int32)) dX8_isPssRight_115 (by decide) ?_
  refine ww_isub 116 X dX8_isPssRight_116 ?_
  obtain ⟨_, f117, h⟩ := bO_some h
  obtain ⟨v117, M117, e117, h⟩ := bP_some h
  refine ww_callVI0 117 X dX8_isPssRight_117 mY_X0_get mL_X8_68 (rcv_spec f117) ⟨_, _, rfl⟩ (by decide) (As := [.int (l6 - (1 : Int32))]) (rest := []) rfl rfl ⟨Nat.le_of_ble_eq_true rfl, Nat.le_of_ble_eq_true rfl⟩ (Nat.le_of_ble_eq_true rfl) (fun l D A => c_X0_get l D A e117) ?_
  refine ww_sipush 120 X (v := (188 : Int32)) dX8_isPssRight_120 (by decide) ?_
  refine ww_icmp_ne 123 142 X dX8_isPssRight_123 (by decide) (fun q => ?_) (fun q => ?_)
  · replace h := (if_neg q).symm.trans h
    refine ww_iconst 142 X (v := (0 : Int32)) dX8_isPssRight_142 (by decide) ?_
    exact ww_zretE 143 X hQ dX8_isPssRight_143 h
  · replace h := (if_pos q).symm.trans h
    refine ww_aload_n 126 X dX8_isPssRight_126 0 rfl rfl ?_
    obtain ⟨v127, e127, h⟩ := bO_some h
    refine ww_getR 127 X dX8_isPssRight_127 fG_X8_25 e127 ?_
    refine ww_iconst 130 X (v := (0 : Int32)) dX8_isPssRight_130 (by decide) ?_
    obtain ⟨_, f131, h⟩ := bO_some h
    obtain ⟨v131, M131, e131, h⟩ := bP_some h
    refine ww_callVI0 131 X dX8_isPssRight_131 mY_X0_get mL_X8_68 (rcv_spec f131) ⟨_, _, rfl⟩ (by decide) (As := [.int (0 : Int32)]) (rest := []) rfl rfl ⟨Nat.le_of_ble_eq_true rfl, Nat.le_of_ble_eq_true rfl⟩ (Nat.le_of_ble_eq_true rfl) (fun l D A => c_X0_get l D A e131) ?_
    refine ww_iload 134 X dX8_isPssRight_134 5 rfl ?_
    refine ww_iconst 136 X (v := (-1 : Int32)) dX8_isPssRight_136 (by decide) ?_
    refine ww_ixor 137 X dX8_isPssRight_137 ?_
    refine ww_iand 138 X dX8_isPssRight_138 ?_
    refine ww_if_eq 139 144 X dX8_isPssRight_139 (by decide) (fun q => ?_) (fun q => ?_)
    · replace h := (if_pos q).symm.trans h
      refine ww_iload 144 X dX8_isPssRight_144 3 rfl ?_
      refine ww_bipush 146 X (v := (32 : Int32)) dX8_isPssRight_146 (by decide) ?_
      refine ww_isub 148 X dX8_isPssRight_148 ?_
      refine ww_iconst 149 X (v := (1 : Int32)) dX8_isPssRight_149 (by decide) ?_
      refine ww_isub 150 X dX8_isPssRight_150 ?_
      refine ww_istore 151 X dX8_isPssRight_151 (lv' := [(0, .ref l0), (1, .ref l1), (5, .int l5), (6, .int l6), (7, .int l7), (8, .int ((255 : Int32) >>> ((((8 : Int32) * l6) - l5) &&& 31))), (9, .int ((l6 - (32 : Int32)) - (1 : Int32)))]) (by decide) [1, 2, 3, 4, 5, 6, 0] rfl ?_
      refine ww_aload_n 153 X dX8_isPssRight_153 0 rfl rfl ?_
      refine ww_iload 154 X dX8_isPssRight_154 6 rfl ?_
      refine ww_bipush 156 X (v := (32 : Int32)) dX8_isPssRight_156 (by decide) ?_
      refine ww_iconst 158 X (v := (0 : Int32)) dX8_isPssRight_158 (by decide) ?_
      refine ww_iload 159 X dX8_isPssRight_159 6 rfl ?_
      obtain ⟨_, f161, h⟩ := bO_some h
      obtain ⟨M161, e161, h⟩ := bO_some h
      refine ww_callVV0 161 X dX8_isPssRight_161 mY_X8_maskFrame mL_X8_128 (rcv_spec f161) ⟨_, _, rfl⟩ (by decide) (As := [.int ((l6 - (32 : Int32)) - (1 : Int32)), .int (32 : Int32), .int (0 : Int32), .int ((l6 - (32 : Int32)) - (1 : Int32))]) (rest := []) rfl rfl ⟨Nat.le_of_ble_eq_true rfl, Nat.le_of_ble_eq_true rfl⟩ (Nat.le_of_ble_eq_true rfl) (fun l D A => c_X8_maskFrame l D A e161) ?_
      refine ww_aload_n 164 X dX8_isPssRight_164 0 rfl rfl ?_
      obtain ⟨v165, e165, h⟩ := bO_some h
      refine ww_getR 165 X dX8_isPssRight_165 fG_X8_25 e165 ?_
      refine ww_iconst 168 X (v := (0 : Int32)) dX8_isPssRight_168 (by decide) ?_
      refine ww_aload_n 169 X dX8_isPssRight_169 0 rfl rfl ?_
      obtain ⟨v170, e170, h⟩ := bO_some h
      refine ww_getR 170 X dX8_isPssRight_170 fG_X8_25 e170 ?_
      refine ww_iconst 173 X (v := (0 : Int32)) dX8_isPssRight_173 (by decide) ?_
      obtain ⟨_, f174, h⟩ := bO_some h
      obtain ⟨v174, M174, e174, h⟩ := bP_some h
      refine ww_callVI0 174 X dX8_isPssRight_174 mY_X0_get mL_X8_68 (rcv_spec f174) ⟨_, _, rfl⟩ (by decide) (As := [.int (0 : Int32)]) (rest := [.int (0 : Int32), .ref v165]) rfl rfl ⟨Nat.le_of_ble_eq_true rfl, Nat.le_of_ble_eq_true rfl⟩ (Nat.le_of_ble_eq_true rfl) (fun l D A => c_X0_get l D A e174) ?_
      refine ww_iload 177 X dX8_isPssRight_177 5 rfl ?_
      refine ww_iand 179 X dX8_isPssRight_179 ?_
      obtain ⟨_, f180, h⟩ := bO_some h
      obtain ⟨M180, e180, h⟩ := bO_some h
      refine ww_callVV0 180 X dX8_isPssRight_180 mY_X0_set mL_X8_114 (rcv_spec f180) ⟨_, _, rfl⟩ (by decide) (As := [.int (0 : Int32), .int (v174 &&& ((255 : Int32) >>> ((((8 : Int32) * l6) - l5) &&& 31)))]) (rest := []) rfl rfl ⟨Nat.le_of_ble_eq_true rfl, Nat.le_of_ble_eq_true rfl⟩ (Nat.le_of_ble_eq_true rfl) (fun l D A => c_X0_set l D A e180) ?_
      refine ww_iload 183 X dX8_isPssRight_183 6 rfl ?_
      refine ww_bipush 185 X (v := (32 : Int32)) dX8_isPssRight_185 (by decide) ?_
      refine ww_isub 187 X dX8_isPssRight_187 ?_
      refine ww_iconst 188 X (v := (1 : Int32)) dX8_isPssRight_188 (by decide) ?_
      refine ww_isub 189 X dX8_isPssRight_189 ?_
      refine ww_istore 190 X dX8_isPssRight_190 (lv' := [(0, .ref l0), (1, .ref l1), (5, .int l5), (6, .int l6), (7, .int l7), (8, .int ((255 : Int32) >>> ((((8 : Int32) * l6) - l5) &&& 31))), (9, .int ((l6 - (32 : Int32)) - (1 : Int32))), (10, .int ((((l6 - (32 : Int32)) - (1 : Int32)) - (32 : Int32)) - (1 : Int32)))]) (by decide) [1, 2, 3, 4, 5, 6, 7, 0] rfl ?_
      refine ww_iconst 192 X (v := (0 : Int32)) dX8_isPssRight_192 (by decide) ?_
      refine ww_istore 193 X dX8_isPssRight_193 (lv' := [(0, .ref l0), (1, .ref l1), (5, .int l5), (6, .int l6), (7, .int l7), (8, .int ((255 : Int32) >>> ((((8 : Int32) * l6) - l5) &&& 31))), (9, .int ((l6 - (32 : Int32)) - (1 : Int32))), (10, .int ((((l6 - (32 : Int32)) - (1 : Int32)) - (32 : Int32)) - (1 : Int32))), (11, .int (0 : Int32))]) (by decide) [1, 2, 3, 4, 5, 6, 7, 8, 0] rfl ?_
      exact ww_sub [0, 1, 6, 7, 8] rfl (wB_X8_isPssRight_195 X hQ F _ _ _ _ _ _ h)
    · replace h := (if_neg q).symm.trans h
      refine ww_iconst 142 X (v := (0 : Int32)) dX8_isPssRight_142 (by decide) ?_
      exact ww_zretE 143 X hQ dX8_isPssRight_143 h
set_option maxHeartbeats 4000000 in
set_option maxRecDepth 100000 in
theorem wP_X8_isPssRight {G : mG} {F : Nat} {x : mXT} {sz : Nat} {r0 : Int32} {M0 : mM} (X : mCX G RX8 cX8_isPssRight 12 (some .boolean) "isPssRight" rmX8_isPssRight x) (hQ : mQI x r0 M0 (sz, 0, 0)) {l0 : Nat} {l1 : Nat} {l2 : Nat} {l3 : Nat} {l4 : Nat} {M : mM} (h : P_X8_isPssRight G F l0 l1 l2 l3 l4 M = some (r0, M0)) : WW x (sz, 0, 0) M 0 [(0, .ref l0), (1, .ref l1), (2, .ref l2), (3, .ref l3), (4, .ref l4)] [] := by
  unfold P_X8_isPssRight at h
  refine ww_aload_n 0 X dX8_isPssRight_0 0 rfl rfl ?_
  refine ww_aload_n 1 X dX8_isPssRight_1 2 rfl rfl ?_
  refine ww_aload 2 X dX8_isPssRight_2 4 rfl ?_
  obtain ⟨_, f4, h⟩ := bO_some h
  obtain ⟨v4, M4, e4, h⟩ := bP_some h
  refine ww_callVI0 4 X dX8_isPssRight_4 mY_X8_isNumberOf mL_X8_91 (rcv_spec f4) ⟨_, _, rfl⟩ (by decide) (As := [.ref l2, .ref l4]) (rest := []) rfl rfl ⟨Nat.le_of_ble_eq_true rfl, Nat.le_of_ble_eq_true rfl⟩ (Nat.le_of_ble_eq_true rfl) (fun l D A => c_X8_isNumberOf l D A e4) ?_
  refine ww_if_ne 7 12 X dX8_isPssRight_7 (by decide) (fun q => ?_) (fun q => ?_)
  · replace h := (if_neg q).symm.trans h
    refine ww_aload_n 12 X dX8_isPssRight_12 0 rfl rfl ?_
    refine ww_aload_n 13 X dX8_isPssRight_13 2 rfl rfl ?_
    refine ww_aload_n 14 X dX8_isPssRight_14 3 rfl rfl ?_
    refine ww_aload 15 X dX8_isPssRight_15 4 rfl ?_
    refine ww_aload_n 17 X dX8_isPssRight_17 0 rfl rfl ?_
    obtain ⟨v18, e18, h⟩ := bO_some h
    refine ww_getR 18 X dX8_isPssRight_18 fG_X8_29 e18 ?_
    obtain ⟨_, f21, h⟩ := bO_some h
    obtain ⟨M21, e21, h⟩ := bO_some h
    refine ww_callVV0 21 X dX8_isPssRight_21 mY_X8_raise mL_X8_65 (rcv_spec f21) ⟨_, _, rfl⟩ (by decide) (As := [.ref l2, .ref l3, .ref l4, .ref v18]) (rest := []) rfl rfl ⟨Nat.le_of_ble_eq_true rfl, Nat.le_of_ble_eq_true rfl⟩ (Nat.le_of_ble_eq_true rfl) (fun l D A => c_X8_raise l D A e21) ?_
    refine ww_aload 24 X dX8_isPssRight_24 4 rfl ?_
    obtain ⟨v26, M26, e26, h⟩ := bP_some h
    refine ww_callSI0 26 X dX8_isPssRight_26 mY_X8_bitsOf mL_X8_117 (As := [.ref l4]) (rest := []) rfl rfl ⟨Nat.le_of_ble_eq_true rfl, Nat.le_of_ble_eq_true rfl⟩ (Nat.le_of_ble_eq_true rfl) (fun l D A => c_X8_bitsOf l D A e26) ?_
    refine ww_iconst 29 X (v := (1 : Int32)) dX8_isPssRight_29 (by decide) ?_
    refine ww_isub 30 X dX8_isPssRight_30 ?_
    refine ww_istore 31 X dX8_isPssRight_31 (lv' := [(0, .ref l0), (1, .ref l1), (2, .ref l2), (3, .ref l3), (4, .ref l4), (5, .int (v26 - (1 : Int32)))]) (by decide) [1, 2, 3, 4, 5, 0] rfl ?_
    refine ww_iload 33 X dX8_isPssRight_33 5 rfl ?_
    refine ww_bipush 35 X (v := (7 : Int32)) dX8_isPssRight_35 (by decide) ?_
    refine ww_iadd 37 X dX8_isPssRight_37 ?_
    refine ww_bipush 38 X (v := (8 : Int32)) dX8_isPssRight_38 (by decide) ?_
    refine ww_idiv 40 X (v := (((v26 - (1 : Int32)) + (7 : Int32)) / (8 : Int32))) dX8_isPssRight_40 rfl ?_
    refine ww_istore 41 X dX8_isPssRight_41 (lv' := [(0, .ref l0), (1, .ref l1), (2, .ref l2), (3, .ref l3), (4, .ref l4), (5, .int (v26 - (1 : Int32))), (6, .int (((v26 - (1 : Int32)) + (7 : Int32)) / (8 : Int32)))]) (by decide) [1, 2, 3, 4, 5, 6, 0] rfl ?_
    refine ww_aload_n 43 X dX8_isPssRight_43 0 rfl rfl ?_
    obtain ⟨v44, e44, h⟩ := bO_some h
    refine ww_getR 44 X dX8_isPssRight_44 fG_X8_29 e44 ?_
    obtain ⟨v47, e47, h⟩ := bO_some h
    refine ww_getI 47 X dX8_isPssRight_47 fG_X8_43 e47 ?_
    refine ww_iload 50 X dX8_isPssRight_50 6 rfl ?_
    refine ww_isub 52 X dX8_isPssRight_52 ?_
    refine ww_istore 53 X dX8_isPssRight_53 (lv' := [(0, .ref l0), (1, .ref l1), (2, .ref l2), (3, .ref l3), (4, .ref l4), (5, .int (v26 - (1 : Int32))), (6, .int (((v26 - (1 : Int32)) + (7 : Int32)) / (8 : Int32))), (7, .int (v47 - (((v26 - (1 : Int32)) + (7 : Int32)) / (8 : Int32))))]) (by decide) [1, 2, 3, 4, 5, 6, 7, 0] rfl ?_
    refine ww_iload 55 X dX8_isPssRight_55 7 rfl ?_
    refine ww_if_le 57 73 X dX8_isPssRight_57 (by decide) (fun q => ?_) (fun q => ?_)
    · replace h := (if_pos q).symm.trans h
      exact ww_sub [0, 1, 5, 6, 7] rfl (wB_X8_isPssRight_73 X hQ h)
    · replace h := (if_neg q).symm.trans h
      refine ww_aload_n 60 X dX8_isPssRight_60 0 rfl rfl ?_
      obtain ⟨v61, e61, h⟩ := bO_some h
      refine ww_getR 61 X dX8_isPssRight_61 fG_X8_29 e61 ?_
      refine ww_iconst 64 X (v := (0 : Int32)) dX8_isPssRight_64 (by decide) ?_
      obtain ⟨_, f65, h⟩ := bO_some h
      obtain ⟨v65, M65, e65, h⟩ := bP_some h
      refine ww_callVI0 65 X dX8_isPssRight_65 mY_X0_get mL_X8_68 (rcv_spec f65) ⟨_, _, rfl⟩ (by decide) (As := [.int (0 : Int32)]) (rest := []) rfl rfl ⟨Nat.le_of_ble_eq_true rfl, Nat.le_of_ble_eq_true rfl⟩ (Nat.le_of_ble_eq_true rfl) (fun l D A => c_X0_get l D A e65) ?_
      refine ww_if_eq 68 73 X dX8_isPssRight_68 (by decide) (fun q => ?_) (fun q => ?_)
      · replace h := (if_pos q).symm.trans h
        exact ww_sub [0, 1, 5, 6, 7] rfl (wB_X8_isPssRight_73 X hQ h)
      · replace h := (if_neg q).symm.trans h
        refine ww_iconst 71 X (v := (0 : Int32)) dX8_isPssRight_71 (by decide) ?_
        exact ww_zretE 72 X hQ dX8_isPssRight_72 h
  · replace h := (if_pos q).symm.trans h
    refine ww_iconst 10 X (v := (0 : Int32)) dX8_isPssRight_10 (by decide) ?_
    exact ww_zretE 11 X hQ dX8_isPssRight_11 h
theorem c_X8_isPssRight {G : mG} {F sz : Nat} {r0 : Int32} {M0 : mM} (l : Launch) (D : mD) (A : Nat → Prop) {l0 : Nat} {l1 : Nat} {l2 : Nat} {l3 : Nat} {l4 : Nat} {M : mM} (h : P_X8_isPssRight G F l0 l1 l2 l3 l4 M = some (r0, M0)) : mMetI l D G A yX8_isPssRight cX8_isPssRight 12 (some .boolean) 5 168 0 0 [.ref l0, .ref l1, .ref l2, .ref l3, .ref l4] M sz r0 M0 sz := mMetI_of l D G A (by decide) (Nat.le_of_ble_eq_true rfl) (fun x X hQ => wP_X8_isPssRight X hQ h)
/-! SealedTokens$Rsa.putEmptyHash(LSealedTokens$Bytes;)V -/
theorem dX8_putEmptyHash_0 : decode cX8_putEmptyHash 0 = .ok (.aload_n 0, 1) := by decide +kernel
theorem dX8_putEmptyHash_1 : decode cX8_putEmptyHash 1 = .ok (.getfield 35, 3) := by decide +kernel
theorem dX8_putEmptyHash_4 : decode cX8_putEmptyHash 4 = .ok (.sipush 256, 3) := by decide +kernel
theorem dX8_putEmptyHash_7 : decode cX8_putEmptyHash 7 = .ok (.invokevirtual 99, 3) := by decide +kernel
theorem dX8_putEmptyHash_10 : decode cX8_putEmptyHash 10 = .ok (.aload_n 0, 1) := by decide +kernel
theorem dX8_putEmptyHash_11 : decode cX8_putEmptyHash 11 = .ok (.getfield 35, 3) := by decide +kernel
theorem dX8_putEmptyHash_14 : decode cX8_putEmptyHash 14 = .ok (.aload_n 1, 1) := by decide +kernel
theorem dX8_putEmptyHash_15 : decode cX8_putEmptyHash 15 = .ok (.invokevirtual 111, 3) := by decide +kernel
theorem dX8_putEmptyHash_18 : decode cX8_putEmptyHash 18 = .ok (.return_, 1) := by decide +kernel
abbrev rmX8_putEmptyHash : Room := { frames := 3, cells := 0, slots := 0, locals := 91 }
set_option maxHeartbeats 4000000 in
set_option maxRecDepth 100000 in
theorem wP_X8_putEmptyHash {G : mG} {F : Nat} {x : mXT} {sz : Nat} {M0 : mM} (X : mCX G RX8 cX8_putEmptyHash 2 none "putEmptyHash" rmX8_putEmptyHash x) (hQ : mQV x M0 (sz, 0, 0)) {l0 : Nat} {l1 : Nat} {M : mM} (h : P_X8_putEmptyHash G F l0 l1 M = some M0) : WW x (sz, 0, 0) M 0 [(0, .ref l0), (1, .ref l1)] [] := by
  unfold P_X8_putEmptyHash at h
  refine ww_aload_n 0 X dX8_putEmptyHash_0 0 rfl rfl ?_
  obtain ⟨v1, e1, h⟩ := bO_some h
  refine ww_getR 1 X dX8_putEmptyHash_1 fG_X8_35 e1 ?_
  refine ww_sipush 4 X (v := (256 : Int32)) dX8_putEmptyHash_4 (by decide) ?_
  obtain ⟨_, f7, h⟩ := bO_some h
  obtain ⟨M7, e7, h⟩ := bO_some h
  refine ww_callVV0 7 X dX8_putEmptyHash_7 mY_X4_start mL_X8_99 (rcv_spec f7) ⟨_, _, rfl⟩ (by decide) (As := [.int (256 : Int32)]) (rest := []) rfl rfl ⟨Nat.le_of_ble_eq_true rfl, Nat.le_of_ble_eq_true rfl⟩ (Nat.le_of_ble_eq_true rfl) (fun l D A => c_X4_start l D A e7) ?_
  refine ww_aload_n 10 X dX8_putEmptyHash_10 0 rfl rfl ?_
  obtain ⟨v11, e11, h⟩ := bO_some h
  refine ww_getR 11 X dX8_putEmptyHash_11 fG_X8_35 e11 ?_
  refine ww_aload_n 14 X dX8_putEmptyHash_14 1 rfl rfl ?_
  obtain ⟨_, f15, h⟩ := bO_some h
  obtain ⟨M15, e15, h⟩ := bO_some h
  refine ww_callVV0 15 X dX8_putEmptyHash_15 mY_X4_finish mL_X8_111 (rcv_spec f15) ⟨_, _, rfl⟩ (by decide) (As := [.ref l1]) (rest := []) rfl rfl ⟨Nat.le_of_ble_eq_true rfl, Nat.le_of_ble_eq_true rfl⟩ (Nat.le_of_ble_eq_true rfl) (fun l D A => c_X4_finish l D A e15) ?_
  exact ww_vretE 18 X hQ dX8_putEmptyHash_18 h
theorem c_X8_putEmptyHash {G : mG} {F sz : Nat} {M0 : mM} (l : Launch) (D : mD) (A : Nat → Prop) {l0 : Nat} {l1 : Nat} {M : mM} (h : P_X8_putEmptyHash G F l0 l1 M = some M0) : mMetV l D G A yX8_putEmptyHash cX8_putEmptyHash 2 none 3 91 0 0 [.ref l0, .ref l1] M sz M0 sz := mMetV_of l D G A (by decide) (Nat.le_of_ble_eq_true rfl) (fun x X hQ => wP_X8_putEmptyHash X hQ h)
/-! SealedTokens$Rsa.sealOaep(LSealedTokens$Bytes;LSealedTokens$Bytes;LSealedTokens$Bytes;LSealedTokens$Bytes;LSealedTokens$Bytes;)V -/
theorem dX8_sealOaep_0 : decode cX8_sealOaep 0 = .ok (.aload_n 0, 1) := by decide +kernel
theorem dX8_sealOaep_1 : decode cX8_sealOaep 1 = .ok (.getfield 25, 3) := by decide +kernel
theorem dX8_sealOaep_4 : decode cX8_sealOaep 4 = .ok (.invokevirtual 55, 3) := by decide +kernel
theorem dX8_sealOaep_7 : decode cX8_sealOaep 7 = .ok (.aload_n 0, 1) := by decide +kernel
theorem dX8_sealOaep_8 : decode cX8_sealOaep 8 = .ok (.getfield 25, 3) := by decide +kernel
theorem dX8_sealOaep_11 : decode cX8_sealOaep 11 = .ok (.iconst 0, 1) := by decide +kernel
theorem dX8_sealOaep_12 : decode cX8_sealOaep 12 = .ok (.invokevirtual 62, 3) := by decide +kernel
theorem dX8_sealOaep_15 : decode cX8_sealOaep 15 = .ok (.aload_n 0, 1) := by decide +kernel
theorem dX8_sealOaep_16 : decode cX8_sealOaep 16 = .ok (.getfield 25, 3) := by decide +kernel
theorem dX8_sealOaep_19 : decode cX8_sealOaep 19 = .ok (.aload_n 2, 1) := by decide +kernel
theorem dX8_sealOaep_20 : decode cX8_sealOaep 20 = .ok (.iconst 0, 1) := by decide +kernel
theorem dX8_sealOaep_21 : decode cX8_sealOaep 21 = .ok (.bipush 32, 2) := by decide +kernel
theorem dX8_sealOaep_23 : decode cX8_sealOaep 23 = .ok (.invokevirtual 121, 3) := by decide +kernel
theorem dX8_sealOaep_26 : decode cX8_sealOaep 26 = .ok (.aload_n 0, 1) := by decide +kernel
theorem dX8_sealOaep_27 : decode cX8_sealOaep 27 = .ok (.aload_n 0, 1) := by decide +kernel
theorem dX8_sealOaep_28 : decode cX8_sealOaep 28 = .ok (.getfield 25, 3) := by decide +kernel
theorem dX8_sealOaep_31 : decode cX8_sealOaep 31 = .ok (.invokevirtual 132, 3) := by decide +kernel
theorem dX8_sealOaep_34 : decode cX8_sealOaep 34 = .ok (.aload_n 0, 1) := by decide +kernel
theorem dX8_sealOaep_35 : decode cX8_sealOaep 35 = .ok (.getfield 25, 3) := by decide +kernel
theorem dX8_sealOaep_38 : decode cX8_sealOaep 38 = .ok (.iconst 0, 1) := by decide +kernel
theorem dX8_sealOaep_39 : decode cX8_sealOaep 39 = .ok (.aload 4, 2) := by decide +kernel
theorem dX8_sealOaep_41 : decode cX8_sealOaep 41 = .ok (.getfield 43, 3) := by decide +kernel
theorem dX8_sealOaep_44 : decode cX8_sealOaep 44 = .ok (.aload_n 1, 1) := by decide +kernel
theorem dX8_sealOaep_45 : decode cX8_sealOaep 45 = .ok (.getfield 43, 3) := by decide +kernel
theorem dX8_sealOaep_48 : decode cX8_sealOaep 48 = .ok (.isub, 1) := by decide +kernel
theorem dX8_sealOaep_49 : decode cX8_sealOaep 49 = .ok (.bipush 64, 2) := by decide +kernel
theorem dX8_sealOaep_51 : decode cX8_sealOaep 51 = .ok (.isub, 1) := by decide +kernel
theorem dX8_sealOaep_52 : decode cX8_sealOaep 52 = .ok (.iconst 2, 1) := by decide +kernel
theorem dX8_sealOaep_53 : decode cX8_sealOaep 53 = .ok (.isub, 1) := by decide +kernel
theorem dX8_sealOaep_54 : decode cX8_sealOaep 54 = .ok (.invokevirtual 76, 3) := by decide +kernel
theorem dX8_sealOaep_57 : decode cX8_sealOaep 57 = .ok (.aload_n 0, 1) := by decide +kernel
theorem dX8_sealOaep_58 : decode cX8_sealOaep 58 = .ok (.getfield 25, 3) := by decide +kernel
theorem dX8_sealOaep_61 : decode cX8_sealOaep 61 = .ok (.iconst 1, 1) := by decide +kernel
theorem dX8_sealOaep_62 : decode cX8_sealOaep 62 = .ok (.invokevirtual 62, 3) := by decide +kernel
theorem dX8_sealOaep_65 : decode cX8_sealOaep 65 = .ok (.aload_n 0, 1) := by decide +kernel
theorem dX8_sealOaep_66 : decode cX8_sealOaep 66 = .ok (.getfield 25, 3) := by decide +kernel
theorem dX8_sealOaep_69 : decode cX8_sealOaep 69 = .ok (.aload_n 1, 1) := by decide +kernel
theorem dX8_sealOaep_70 : decode cX8_sealOaep 70 = .ok (.invokevirtual 80, 3) := by decide +kernel
theorem dX8_sealOaep_73 : decode cX8_sealOaep 73 = .ok (.aload_n 0, 1) := by decide +kernel
theorem dX8_sealOaep_74 : decode cX8_sealOaep 74 = .ok (.iconst 1, 1) := by decide +kernel
theorem dX8_sealOaep_75 : decode cX8_sealOaep 75 = .ok (.bipush 32, 2) := by decide +kernel
theorem dX8_sealOaep_77 : decode cX8_sealOaep 77 = .ok (.bipush 33, 2) := by decide +kernel
theorem dX8_sealOaep_79 : decode cX8_sealOaep 79 = .ok (.aload 4, 2) := by decide +kernel
theorem dX8_sealOaep_81 : decode cX8_sealOaep 81 = .ok (.getfield 43, 3) := by decide +kernel
theorem dX8_sealOaep_84 : decode cX8_sealOaep 84 = .ok (.iconst 1, 1) := by decide +kernel
theorem dX8_sealOaep_85 : decode cX8_sealOaep 85 = .ok (.isub, 1) := by decide +kernel
theorem dX8_sealOaep_86 : decode cX8_sealOaep 86 = .ok (.bipush 32, 2) := by decide +kernel
theorem dX8_sealOaep_88 : decode cX8_sealOaep 88 = .ok (.isub, 1) := by decide +kernel
theorem dX8_sealOaep_89 : decode cX8_sealOaep 89 = .ok (.invokevirtual 128, 3) := by decide +kernel
theorem dX8_sealOaep_92 : decode cX8_sealOaep 92 = .ok (.aload_n 0, 1) := by decide +kernel
theorem dX8_sealOaep_93 : decode cX8_sealOaep 93 = .ok (.bipush 33, 2) := by decide +kernel
theorem dX8_sealOaep_95 : decode cX8_sealOaep 95 = .ok (.aload 4, 2) := by decide +kernel
theorem dX8_sealOaep_97 : decode cX8_sealOaep 97 = .ok (.getfield 43, 3) := by decide +kernel
theorem dX8_sealOaep_100 : decode cX8_sealOaep 100 = .ok (.iconst 1, 1) := by decide +kernel
theorem dX8_sealOaep_101 : decode cX8_sealOaep 101 = .ok (.isub, 1) := by decide +kernel
theorem dX8_sealOaep_102 : decode cX8_sealOaep 102 = .ok (.bipush 32, 2) := by decide +kernel
theorem dX8_sealOaep_104 : decode cX8_sealOaep 104 = .ok (.isub, 1) := by decide +kernel
theorem dX8_sealOaep_105 : decode cX8_sealOaep 105 = .ok (.iconst 1, 1) := by decide +kernel
theorem dX8_sealOaep_106 : decode cX8_sealOaep 106 = .ok (.bipush 32, 2) := by decide +kernel
theorem dX8_sealOaep_108 : decode cX8_sealOaep 108 = .ok (.invokevirtual 128, 3) := by decide +kernel
theorem dX8_sealOaep_111 : decode cX8_sealOaep 111 = .ok (.aload_n 0, 1) := by decide +kernel
theorem dX8_sealOaep_112 : decode cX8_sealOaep 112 = .ok (.aload_n 0, 1) := by decide +kernel
theorem dX8_sealOaep_113 : decode cX8_sealOaep 113 = .ok (.getfield 25, 3) := by decide +kernel
theorem dX8_sealOaep_116 : decode cX8_sealOaep 116 = .ok (.aload_n 3, 1) := by decide +kernel
theorem dX8_sealOaep_117 : decode cX8_sealOaep 117 = .ok (.aload 4, 2) := by decide +kernel
theorem dX8_sealOaep_119 : decode cX8_sealOaep 119 = .ok (.aload 5, 2) := by decide +kernel
theorem dX8_sealOaep_121 : decode cX8_sealOaep 121 = .ok (.invokevirtual 65, 3) := by decide +kernel
theorem dX8_sealOaep_124 : decode cX8_sealOaep 124 = .ok (.return_, 1) := by decide +kernel
abbrev rmX8_sealOaep : Room := { frames := 5, cells := 0, slots := 0, locals := 168 }
set_option maxHeartbeats 4000000 in
set_option maxRecDepth 100000 in
theorem wP_X8_sealOaep {G : mG} {F : Nat} {x : mXT} {sz : Nat} {M0 : mM} (X : mCX G RX8 cX8_sealOaep 6 none "sealOaep" rmX8_sealOaep x) (hQ : mQV x M0 (sz, 0, 0)) {l0 : Nat} {l1 : Nat} {l2 : Nat} {l3 : Nat} {l4 : Nat} {l5 : Nat} {M : mM} (h : P_X8_sealOaep G F l0 l1 l2 l3 l4 l5 M = some M0) : WW x (sz, 0, 0) M 0 [(0, .ref l0), (1, .ref l1), (2, .ref l2), (3, .ref l3), (4, .ref l4), (5, .ref l5)] [] := by
  unfold P_X8_sealOaep at h
  refine ww_aload_n 0 X dX8_sealOaep_0 0 rfl rfl ?_
  obtain ⟨v1, e1, h⟩ := bO_some h
  refine ww_getR 1 X dX8_sealOaep_1 fG_X8_25 e1 ?_
  obtain ⟨_, f4, h⟩ := bO_some h
  obtain ⟨M4, e4, h⟩ := bO_some h
  refine ww_callVV0 4 X dX8_sealOaep_4 mY_X0_clear mL_X8_55 (rcv_spec f4) ⟨_, _, rfl⟩ (by decide) (As := []) (rest := []) rfl rfl ⟨Nat.le_of_ble_eq_true rfl, Nat.le_of_ble_eq_true rfl⟩ (Nat.le_of_ble_eq_true rfl) (fun l D A => c_X0_clear l D A e4) ?_
  refine ww_aload_n 7 X dX8_sealOaep_7 0 rfl rfl ?_
  obtain ⟨v8, e8, h⟩ := bO_some h
  refine ww_getR 8 X dX8_sealOaep_8 fG_X8_25 e8 ?_
  refine ww_iconst 11 X (v := (0 : Int32)) dX8_sealOaep_11 (by decide) ?_
  obtain ⟨_, f12, h⟩ := bO_some h
  obtain ⟨M12, e12, h⟩ := bO_some h
  refine ww_callVV0 12 X dX8_sealOaep_12 mY_X0_put mL_X8_62 (rcv_spec f12) ⟨_, _, rfl⟩ (by decide) (As := [.int (0 : Int32)]) (rest := []) rfl rfl ⟨Nat.le_of_ble_eq_true rfl, Nat.le_of_ble_eq_true rfl⟩ (Nat.le_of_ble_eq_true rfl) (fun l D A => c_X0_put l D A e12) ?_
  refine ww_aload_n 15 X dX8_sealOaep_15 0 rfl rfl ?_
  obtain ⟨v16, e16, h⟩ := bO_some h
  refine ww_getR 16 X dX8_sealOaep_16 fG_X8_25 e16 ?_
  refine ww_aload_n 19 X dX8_sealOaep_19 2 rfl rfl ?_
  refine ww_iconst 20 X (v := (0 : Int32)) dX8_sealOaep_20 (by decide) ?_
  refine ww_bipush 21 X (v := (32 : Int32)) dX8_sealOaep_21 (by decide) ?_
  obtain ⟨_, f23, h⟩ := bO_some h
  obtain ⟨M23, e23, h⟩ := bO_some h
  refine ww_callVV0 23 X dX8_sealOaep_23 mY_X0_putPart mL_X8_121 (rcv_spec f23) ⟨_, _, rfl⟩ (by decide) (As := [.ref l2, .int (0 : Int32), .int (32 : Int32)]) (rest := []) rfl rfl ⟨Nat.le_of_ble_eq_true rfl, Nat.le_of_ble_eq_true rfl⟩ (Nat.le_of_ble_eq_true rfl) (fun l D A => c_X0_putPart l D A e23) ?_
  refine ww_aload_n 26 X dX8_sealOaep_26 0 rfl rfl ?_
  refine ww_aload_n 27 X dX8_sealOaep_27 0 rfl rfl ?_
  obtain ⟨v28, e28, h⟩ := bO_some h
  refine ww_getR 28 X dX8_sealOaep_28 fG_X8_25 e28 ?_
  obtain ⟨_, f31, h⟩ := bO_some h
  obtain ⟨M31, e31, h⟩ := bO_some h
  refine ww_callVV0 31 X dX8_sealOaep_31 mY_X8_putEmptyHash mL_X8_132 (rcv_spec f31) ⟨_, _, rfl⟩ (by decide) (As := [.ref v28]) (rest := []) rfl rfl ⟨Nat.le_of_ble_eq_true rfl, Nat.le_of_ble_eq_true rfl⟩ (Nat.le_of_ble_eq_true rfl) (fun l D A => c_X8_putEmptyHash l D A e31) ?_
  refine ww_aload_n 34 X dX8_sealOaep_34 0 rfl rfl ?_
  obtain ⟨v35, e35, h⟩ := bO_some h
  refine ww_getR 35 X dX8_sealOaep_35 fG_X8_25 e35 ?_
  refine ww_iconst 38 X (v := (0 : Int32)) dX8_sealOaep_38 (by decide) ?_
  refine ww_aload 39 X dX8_sealOaep_39 4 rfl ?_
  obtain ⟨v41, e41, h⟩ := bO_some h
  refine ww_getI 41 X dX8_sealOaep_41 fG_X8_43 e41 ?_
  refine ww_aload_n 44 X dX8_sealOaep_44 1 rfl rfl ?_
  obtain ⟨v45, e45, h⟩ := bO_some h
  refine ww_getI 45 X dX8_sealOaep_45 fG_X8_43 e45 ?_
  refine ww_isub 48 X dX8_sealOaep_48 ?_
  refine ww_bipush 49 X (v := (64 : Int32)) dX8_sealOaep_49 (by decide) ?_
  refine ww_isub 51 X dX8_sealOaep_51 ?_
  refine ww_iconst 52 X (v := (2 : Int32)) dX8_sealOaep_52 (by decide) ?_
  refine ww_isub 53 X dX8_sealOaep_53 ?_
  obtain ⟨_, f54, h⟩ := bO_some h
  obtain ⟨M54, e54, h⟩ := bO_some h
  refine ww_callVV0 54 X dX8_sealOaep_54 mY_X0_putSame mL_X8_76 (rcv_spec f54) ⟨_, _, rfl⟩ (by decide) (As := [.int (0 : Int32), .int (((v41 - v45) - (64 : Int32)) - (2 : Int32))]) (rest := []) rfl rfl ⟨Nat.le_of_ble_eq_true rfl, Nat.le_of_ble_eq_true rfl⟩ (Nat.le_of_ble_eq_true rfl) (fun l D A => c_X0_putSame l D A e54) ?_
  refine ww_aload_n 57 X dX8_sealOaep_57 0 rfl rfl ?_
  obtain ⟨v58, e58, h⟩ := bO_some h
  refine ww_getR 58 X dX8_sealOaep_58 fG_X8_25 e58 ?_
  refine ww_iconst 61 X (v := (1 : Int32)) dX8_sealOaep_61 (by decide) ?_
  obtain ⟨_, f62, h⟩ := bO_some h
  obtain ⟨M62, e62, h⟩ := bO_some h
  refine ww_callVV0 62 X dX8_sealOaep_62 mY_X0_put mL_X8_62 (rcv_spec f62) ⟨_, _, rfl⟩ (by decide) (As := [.int (1 : Int32)]) (rest := []) rfl rfl ⟨Nat.le_of_ble_eq_true rfl, Nat.le_of_ble_eq_true rfl⟩ (Nat.le_of_ble_eq_true rfl) (fun l D A => c_X0_put l D A e62) ?_
  refine ww_aload_n 65 X dX8_sealOaep_65 0 rfl rfl ?_
  obtain ⟨v66, e66, h⟩ := bO_some h
  refine ww_getR 66 X dX8_sealOaep_66 fG_X8_25 e66 ?_
  refine ww_aload_n 69 X dX8_sealOaep_69 1 rfl rfl ?_
  obtain ⟨_, f70, h⟩ := bO_some h
  obtain ⟨M70, e70, h⟩ := bO_some h
  refine ww_callVV0 70 X dX8_sealOaep_70 mY_X0_putAll mL_X8_80 (rcv_spec f70) ⟨_, _, rfl⟩ (by decide) (As := [.ref l1]) (rest := []) rfl rfl ⟨Nat.le_of_ble_eq_true rfl, Nat.le_of_ble_eq_true rfl⟩ (Nat.le_of_ble_eq_true rfl) (fun l D A => c_X0_putAll l D A e70) ?_
  refine ww_aload_n 73 X dX8_sealOaep_73 0 rfl rfl ?_
  refine ww_iconst 74 X (v := (1 : Int32)) dX8_sealOaep_74 (by decide) ?_
  refine ww_bipush 75 X (v := (32 : Int32)) dX8_sealOaep_75 (by decide) ?_
  refine ww_bipush 77 X (v := (33 : Int32)) dX8_sealOaep_77 (by decide) ?_
  refine ww_aload 79 X dX8_sealOaep_79 4 rfl ?_
  obtain ⟨v81, e81, h⟩ := bO_some h
  refine ww_getI 81 X dX8_sealOaep_81 fG_X8_43 e81 ?_
  refine ww_iconst 84 X (v := (1 : Int32)) dX8_sealOaep_84 (by decide) ?_
  refine ww_isub 85 X dX8_sealOaep_85 ?_
  refine ww_bipush 86 X (v := (32 : Int32)) dX8_sealOaep_86 (by decide) ?_
  refine ww_isub 88 X dX8_sealOaep_88 ?_
  obtain ⟨_, f89, h⟩ := bO_some h
  obtain ⟨M89, e89, h⟩ := bO_some h
  refine ww_callVV0 89 X dX8_sealOaep_89 mY_X8_maskFrame mL_X8_128 (rcv_spec f89) ⟨_, _, rfl⟩ (by decide) (As := [.int (1 : Int32), .int (32 : Int32), .int (33 : Int32), .int ((v81 - (1 : Int32)) - (32 : Int32))]) (rest := []) rfl rfl ⟨Nat.le_of_ble_eq_true rfl, Nat.le_of_ble_eq_true rfl⟩ (Nat.le_of_ble_eq_true rfl) (fun l D A => c_X8_maskFrame l D A e89) ?_
  refine ww_aload_n 92 X dX8_sealOaep_92 0 rfl rfl ?_
  refine ww_bipush 93 X (v := (33 : Int32)) dX8_sealOaep_93 (by decide) ?_
  refine ww_aload 95 X dX8_sealOaep_95 4 rfl ?_
  obtain ⟨v97, e97, h⟩ := bO_some h
  refine ww_getI 97 X dX8_sealOaep_97 fG_X8_43 e97 ?_
  refine ww_iconst 100 X (v := (1 : Int32)) dX8_sealOaep_100 (by decide) ?_
  refine ww_isub 101 X dX8_sealOaep_101 ?_
  refine ww_bipush 102 X (v := (32 : Int32)) dX8_sealOaep_102 (by decide) ?_
  refine ww_isub 104 X dX8_sealOaep_104 ?_
  refine ww_iconst 105 X (v := (1 : Int32)) dX8_sealOaep_105 (by decide) ?_
  refine ww_bipush 106 X (v := (32 : Int32)) dX8_sealOaep_106 (by decide) ?_
  obtain ⟨_, f108, h⟩ := bO_some h
  obtain ⟨M108, e108, h⟩ := bO_some h
  refine ww_callVV0 108 X dX8_sealOaep_108 mY_X8_maskFrame mL_X8_128 (rcv_spec f108) ⟨_, _, rfl⟩ (by decide) (As := [.int (33 : Int32), .int ((v97 - (1 : Int32)) - (32 : Int32)), .int (1 : Int32), .int (32 : Int32)]) (rest := []) rfl rfl ⟨Nat.le_of_ble_eq_true rfl, Nat.le_of_ble_eq_true rfl⟩ (Nat.le_of_ble_eq_true rfl) (fun l D A => c_X8_maskFrame l D A e108) ?_
  refine ww_aload_n 111 X dX8_sealOaep_111 0 rfl rfl ?_
  refine ww_aload_n 112 X dX8_sealOaep_112 0 rfl rfl ?_
  obtain ⟨v113, e113, h⟩ := bO_some h
  refine ww_getR 113 X dX8_sealOaep_113 fG_X8_25 e113 ?_
  refine ww_aload_n 116 X dX8_sealOaep_116 3 rfl rfl ?_
  refine ww_aload 117 X dX8_sealOaep_117 4 rfl ?_
  refine ww_aload 119 X dX8_sealOaep_119 5 rfl ?_
  obtain ⟨_, f121, h⟩ := bO_some h
  obtain ⟨M121, e121, h⟩ := bO_some h
  refine ww_callVV0 121 X dX8_sealOaep_121 mY_X8_raise mL_X8_65 (rcv_spec f121) ⟨_, _, rfl⟩ (by decide) (As := [.ref v113, .ref l3, .ref l4, .ref l5]) (rest := []) rfl rfl ⟨Nat.le_of_ble_eq_true rfl, Nat.le_of_ble_eq_true rfl⟩ (Nat.le_of_ble_eq_true rfl) (fun l D A => c_X8_raise l D A e121) ?_
  exact ww_vretE 124 X hQ dX8_sealOaep_124 h
theorem c_X8_sealOaep {G : mG} {F sz : Nat} {M0 : mM} (l : Launch) (D : mD) (A : Nat → Prop) {l0 : Nat} {l1 : Nat} {l2 : Nat} {l3 : Nat} {l4 : Nat} {l5 : Nat} {M : mM} (h : P_X8_sealOaep G F l0 l1 l2 l3 l4 l5 M = some M0) : mMetV l D G A yX8_sealOaep cX8_sealOaep 6 none 5 168 0 0 [.ref l0, .ref l1, .ref l2, .ref l3, .ref l4, .ref l5] M sz M0 sz := mMetV_of l D G A (by decide) (Nat.le_of_ble_eq_true rfl) (fun x X hQ => wP_X8_sealOaep X hQ h)
/-! SealedTokens$Rsa.openOaep(LSealedTokens$Bytes;LSealedTokens$Bytes;LSealedTokens$Bytes;LSealedTokens$Bytes;)Z -/
theorem dX8_openOaep_0 : decode cX8_openOaep 0 = .ok (.aload_n 0, 1) := by decide +kernel
theorem dX8_openOaep_1 : decode cX8_openOaep 1 = .ok (.aload_n 1, 1) := by decide +kernel
theorem dX8_openOaep_2 : decode cX8_openOaep 2 = .ok (.aload_n 3, 1) := by decide +kernel
theorem dX8_openOaep_3 : decode cX8_openOaep 3 = .ok (.invokevirtual 91, 3) := by decide +kernel
theorem dX8_openOaep_6 : decode cX8_openOaep 6 = .ok (.ifCond .ne 5, 3) := by decide +kernel
theorem dX8_openOaep_9 : decode cX8_openOaep 9 = .ok (.iconst 0, 1) := by decide +kernel
theorem dX8_openOaep_10 : decode cX8_openOaep 10 = .ok (.ireturn, 1) := by decide +kernel
theorem dX8_openOaep_11 : decode cX8_openOaep 11 = .ok (.aload_n 0, 1) := by decide +kernel
theorem dX8_openOaep_12 : decode cX8_openOaep 12 = .ok (.aload_n 1, 1) := by decide +kernel
theorem dX8_openOaep_13 : decode cX8_openOaep 13 = .ok (.aload_n 2, 1) := by decide +kernel
theorem dX8_openOaep_14 : decode cX8_openOaep 14 = .ok (.aload_n 3, 1) := by decide +kernel
theorem dX8_openOaep_15 : decode cX8_openOaep 15 = .ok (.aload_n 0, 1) := by decide +kernel
theorem dX8_openOaep_16 : decode cX8_openOaep 16 = .ok (.getfield 25, 3) := by decide +kernel
theorem dX8_openOaep_19 : decode cX8_openOaep 19 = .ok (.invokevirtual 65, 3) := by decide +kernel
theorem dX8_openOaep_22 : decode cX8_openOaep 22 = .ok (.aload_n 0, 1) := by decide +kernel
theorem dX8_openOaep_23 : decode cX8_openOaep 23 = .ok (.bipush 33, 2) := by decide +kernel
theorem dX8_openOaep_25 : decode cX8_openOaep 25 = .ok (.aload_n 3, 1) := by decide +kernel
theorem dX8_openOaep_26 : decode cX8_openOaep 26 = .ok (.getfield 43, 3) := by decide +kernel
theorem dX8_openOaep_29 : decode cX8_openOaep 29 = .ok (.iconst 1, 1) := by decide +kernel
theorem dX8_openOaep_30 : decode cX8_openOaep 30 = .ok (.isub, 1) := by decide +kernel
theorem dX8_openOaep_31 : decode cX8_openOaep 31 = .ok (.bipush 32, 2) := by decide +kernel
theorem dX8_openOaep_33 : decode cX8_openOaep 33 = .ok (.isub, 1) := by decide +kernel
theorem dX8_openOaep_34 : decode cX8_openOaep 34 = .ok (.iconst 1, 1) := by decide +kernel
theorem dX8_openOaep_35 : decode cX8_openOaep 35 = .ok (.bipush 32, 2) := by decide +kernel
theorem dX8_openOaep_37 : decode cX8_openOaep 37 = .ok (.invokevirtual 128, 3) := by decide +kernel
theorem dX8_openOaep_40 : decode cX8_openOaep 40 = .ok (.aload_n 0, 1) := by decide +kernel
theorem dX8_openOaep_41 : decode cX8_openOaep 41 = .ok (.iconst 1, 1) := by decide +kernel
theorem dX8_openOaep_42 : decode cX8_openOaep 42 = .ok (.bipush 32, 2) := by decide +kernel
theorem dX8_openOaep_44 : decode cX8_openOaep 44 = .ok (.bipush 33, 2) := by decide +kernel
theorem dX8_openOaep_46 : decode cX8_openOaep 46 = .ok (.aload_n 3, 1) := by decide +kernel
theorem dX8_openOaep_47 : decode cX8_openOaep 47 = .ok (.getfield 43, 3) := by decide +kernel
theorem dX8_openOaep_50 : decode cX8_openOaep 50 = .ok (.iconst 1, 1) := by decide +kernel
theorem dX8_openOaep_51 : decode cX8_openOaep 51 = .ok (.isub, 1) := by decide +kernel
theorem dX8_openOaep_52 : decode cX8_openOaep 52 = .ok (.bipush 32, 2) := by decide +kernel
theorem dX8_openOaep_54 : decode cX8_openOaep 54 = .ok (.isub, 1) := by decide +kernel
theorem dX8_openOaep_55 : decode cX8_openOaep 55 = .ok (.invokevirtual 128, 3) := by decide +kernel
theorem dX8_openOaep_58 : decode cX8_openOaep 58 = .ok (.aload_n 0, 1) := by decide +kernel
theorem dX8_openOaep_59 : decode cX8_openOaep 59 = .ok (.getfield 29, 3) := by decide +kernel
theorem dX8_openOaep_62 : decode cX8_openOaep 62 = .ok (.invokevirtual 55, 3) := by decide +kernel
theorem dX8_openOaep_65 : decode cX8_openOaep 65 = .ok (.aload_n 0, 1) := by decide +kernel
theorem dX8_openOaep_66 : decode cX8_openOaep 66 = .ok (.aload_n 0, 1) := by decide +kernel
theorem dX8_openOaep_67 : decode cX8_openOaep 67 = .ok (.getfield 29, 3) := by decide +kernel
theorem dX8_openOaep_70 : decode cX8_openOaep 70 = .ok (.invokevirtual 132, 3) := by decide +kernel
theorem dX8_openOaep_73 : decode cX8_openOaep 73 = .ok (.aload_n 0, 1) := by decide +kernel
theorem dX8_openOaep_74 : decode cX8_openOaep 74 = .ok (.getfield 25, 3) := by decide +kernel
theorem dX8_openOaep_77 : decode cX8_openOaep 77 = .ok (.iconst 0, 1) := by decide +kernel
theorem dX8_openOaep_78 : decode cX8_openOaep 78 = .ok (.invokevirtual 68, 3) := by decide +kernel
theorem dX8_openOaep_81 : decode cX8_openOaep 81 = .ok (.ifCond .ne 22, 3) := by decide +kernel
theorem dX8_openOaep_84 : decode cX8_openOaep 84 = .ok (.aload_n 0, 1) := by decide +kernel
theorem dX8_openOaep_85 : decode cX8_openOaep 85 = .ok (.getfield 29, 3) := by decide +kernel
theorem dX8_openOaep_88 : decode cX8_openOaep 88 = .ok (.iconst 0, 1) := by decide +kernel
theorem dX8_openOaep_89 : decode cX8_openOaep 89 = .ok (.aload_n 0, 1) := by decide +kernel
theorem dX8_openOaep_90 : decode cX8_openOaep 90 = .ok (.getfield 25, 3) := by decide +kernel
theorem dX8_openOaep_93 : decode cX8_openOaep 93 = .ok (.bipush 33, 2) := by decide +kernel
theorem dX8_openOaep_95 : decode cX8_openOaep 95 = .ok (.bipush 32, 2) := by decide +kernel
theorem dX8_openOaep_97 : decode cX8_openOaep 97 = .ok (.invokestatic 87, 3) := by decide +kernel
theorem dX8_openOaep_100 : decode cX8_openOaep 100 = .ok (.ifCond .eq 5, 3) := by decide +kernel
theorem dX8_openOaep_103 : decode cX8_openOaep 103 = .ok (.iconst 0, 1) := by decide +kernel
theorem dX8_openOaep_104 : decode cX8_openOaep 104 = .ok (.ireturn, 1) := by decide +kernel
theorem dX8_openOaep_105 : decode cX8_openOaep 105 = .ok (.bipush 65, 2) := by decide +kernel
theorem dX8_openOaep_107 : decode cX8_openOaep 107 = .ok (.istore 5, 2) := by decide +kernel
theorem dX8_openOaep_109 : decode cX8_openOaep 109 = .ok (.iload 5, 2) := by decide +kernel
theorem dX8_openOaep_111 : decode cX8_openOaep 111 = .ok (.istore 6, 2) := by decide +kernel
theorem dX8_openOaep_113 : decode cX8_openOaep 113 = .ok (.iload 6, 2) := by decide +kernel
theorem dX8_openOaep_115 : decode cX8_openOaep 115 = .ok (.aload_n 3, 1) := by decide +kernel
theorem dX8_openOaep_116 : decode cX8_openOaep 116 = .ok (.getfield 43, 3) := by decide +kernel
theorem dX8_openOaep_119 : decode cX8_openOaep 119 = .ok (.if_icmp .ge 24, 3) := by decide +kernel
theorem dX8_openOaep_122 : decode cX8_openOaep 122 = .ok (.aload_n 0, 1) := by decide +kernel
theorem dX8_openOaep_123 : decode cX8_openOaep 123 = .ok (.getfield 25, 3) := by decide +kernel
theorem dX8_openOaep_126 : decode cX8_openOaep 126 = .ok (.iload 6, 2) := by decide +kernel
theorem dX8_openOaep_128 : decode cX8_openOaep 128 = .ok (.invokevirtual 68, 3) := by decide +kernel
theorem dX8_openOaep_131 : decode cX8_openOaep 131 = .ok (.ifCond .ne 12, 3) := by decide +kernel
theorem dX8_openOaep_134 : decode cX8_openOaep 134 = .ok (.iinc 5 1, 3) := by decide +kernel
theorem dX8_openOaep_137 : decode cX8_openOaep 137 = .ok (.iinc 6 1, 3) := by decide +kernel
theorem dX8_openOaep_140 : decode cX8_openOaep 140 = .ok (.goto (-27), 3) := by decide +kernel
theorem dX8_openOaep_143 : decode cX8_openOaep 143 = .ok (.aload_n 0, 1) := by decide +kernel
theorem dX8_openOaep_144 : decode cX8_openOaep 144 = .ok (.getfield 25, 3) := by decide +kernel
theorem dX8_openOaep_147 : decode cX8_openOaep 147 = .ok (.iload 5, 2) := by decide +kernel
theorem dX8_openOaep_149 : decode cX8_openOaep 149 = .ok (.invokevirtual 68, 3) := by decide +kernel
theorem dX8_openOaep_152 : decode cX8_openOaep 152 = .ok (.iconst 1, 1) := by decide +kernel
theorem dX8_openOaep_153 : decode cX8_openOaep 153 = .ok (.if_icmp .eq 5, 3) := by decide +kernel
theorem dX8_openOaep_156 : decode cX8_openOaep 156 = .ok (.iconst 0, 1) := by decide +kernel
theorem dX8_openOaep_157 : decode cX8_openOaep 157 = .ok (.ireturn, 1) := by decide +kernel
theorem dX8_openOaep_158 : decode cX8_openOaep 158 = .ok (.aload 4, 2) := by decide +kernel
theorem dX8_openOaep_160 : decode cX8_openOaep 160 = .ok (.invokevirtual 55, 3) := by decide +kernel
theorem dX8_openOaep_163 : decode cX8_openOaep 163 = .ok (.aload 4, 2) := by decide +kernel
theorem dX8_openOaep_165 : decode cX8_openOaep 165 = .ok (.aload_n 0, 1) := by decide +kernel
theorem dX8_openOaep_166 : decode cX8_openOaep 166 = .ok (.getfield 25, 3) := by decide +kernel
theorem dX8_openOaep_169 : decode cX8_openOaep 169 = .ok (.iload 5, 2) := by decide +kernel
theorem dX8_openOaep_171 : decode cX8_openOaep 171 = .ok (.iconst 1, 1) := by decide +kernel
theorem dX8_openOaep_172 : decode cX8_openOaep 172 = .ok (.iadd, 1) := by decide +kernel
theorem dX8_openOaep_173 : decode cX8_openOaep 173 = .ok (.aload_n 3, 1) := by decide +kernel
theorem dX8_openOaep_174 : decode cX8_openOaep 174 = .ok (.getfield 43, 3) := by decide +kernel
theorem dX8_openOaep_177 : decode cX8_openOaep 177 = .ok (.iload 5, 2) := by decide +kernel
theorem dX8_openOaep_179 : decode cX8_openOaep 179 = .ok (.isub, 1) := by decide +kernel
theorem dX8_openOaep_180 : decode cX8_openOaep 180 = .ok (.iconst 1, 1) := by decide +kernel
theorem dX8_openOaep_181 : decode cX8_openOaep 181 = .ok (.isub, 1) := by decide +kernel
theorem dX8_openOaep_182 : decode cX8_openOaep 182 = .ok (.invokevirtual 121, 3) := by decide +kernel
theorem dX8_openOaep_185 : decode cX8_openOaep 185 = .ok (.iconst 1, 1) := by decide +kernel
theorem dX8_openOaep_186 : decode cX8_openOaep 186 = .ok (.ireturn, 1) := by decide +kernel
abbrev rmX8_openOaep : Room := { frames := 5, cells := 0, slots := 0, locals := 168 }
set_option maxHeartbeats 4000000 in
set_option maxRecDepth 100000 in
theorem wB_X8_openOaep_143 {G : mG} {F : Nat} {x : mXT} {sz : Nat} {r0 : Int32} {M0 : mM} (X : mCX G RX8 cX8_openOaep 7 (some .boolean) "openOaep" rmX8_openOaep x) (hQ : mQI x r0 M0 (sz, 0, 0)) {l0 : Nat} {l3 : Nat} {l4 : Nat} {l5 : Int32} {M : mM} (h : B_X8_openOaep_143 G F l0 l3 l4 l5 M = some (r0, M0)) : WW x (sz, 0, 0) M 143 [(0, .ref l0), (3, .ref l3), (4, .ref l4), (5, .int l5)] [] := by
  unfold B_X8_openOaep_143 at h
  refine ww_aload_n 143 X dX8_openOaep_143 0 rfl rfl ?_
  obtain ⟨v144, e144, h⟩ := bO_some h
  refine ww_getR 144 X dX8_openOaep_144 fG_X8_25 e144 ?_
  refine ww_iload 147 X dX8_openOaep_147 3 rfl ?_
  obtain ⟨_, f149, h⟩ := bO_some h
  obtain ⟨v149, M149, e149, h⟩ := bP_some h
  refine ww_callVI0 149 X dX8_openOaep_149 mY_X0_get mL_X8_68 (rcv_spec f149) ⟨_, _, rfl⟩ (by decide) (As := [.int l5]) (rest := []) rfl rfl ⟨Nat.le_of_ble_eq_true rfl, Nat.le_of_ble_eq_true rfl⟩ (Nat.le_of_ble_eq_true rfl) (fun l D A => c_X0_get l D A e149) ?_
  refine ww_iconst 152 X (v := (1 : Int32)) dX8_openOaep_152 (by decide) ?_
  refine ww_icmp_eq 153 158 X dX8_openOaep_153 (by decide) (fun q => ?_) (fun q => ?_)
  · replace h := (if_pos q).symm.trans h
    refine ww_aload 158 X dX8_openOaep_158 2 rfl ?_
    obtain ⟨_, f160, h⟩ := bO_some h
    obtain ⟨M160, e160, h⟩ := bO_some h
    refine ww_callVV0 160 X dX8_openOaep_160 mY_X0_clear mL_X8_55 (rcv_spec f160) ⟨_, _, rfl⟩ (by decide) (As := []) (rest := []) rfl rfl ⟨Nat.le_of_ble_eq_true rfl, Nat.le_of_ble_eq_true rfl⟩ (Nat.le_of_ble_eq_true rfl) (fun l D A => c_X0_clear l D A e160) ?_
    refine ww_aload 163 X dX8_openOaep_163 2 rfl ?_
    refine ww_aload_n 165 X dX8_openOaep_165 0 rfl rfl ?_
    obtain ⟨v166, e166, h⟩ := bO_some h
    refine ww_getR 166 X dX8_openOaep_166 fG_X8_25 e166 ?_
    refine ww_iload 169 X dX8_openOaep_169 3 rfl ?_
    refine ww_iconst 171 X (v := (1 : Int32)) dX8_openOaep_171 (by decide) ?_
    refine ww_iadd 172 X dX8_openOaep_172 ?_
    refine ww_aload_n 173 X dX8_openOaep_173 1 rfl rfl ?_
    obtain ⟨v174, e174, h⟩ := bO_some h
    refine ww_getI 174 X dX8_openOaep_174 fG_X8_43 e174 ?_
    refine ww_iload 177 X dX8_openOaep_177 3 rfl ?_
    refine ww_isub 179 X dX8_openOaep_179 ?_
    refine ww_iconst 180 X (v := (1 : Int32)) dX8_openOaep_180 (by decide) ?_
    refine ww_isub 181 X dX8_openOaep_181 ?_
    obtain ⟨_, f182, h⟩ := bO_some h
    obtain ⟨M182, e182, h⟩ := bO_some h
    refine ww_callVV0 182 X dX8_openOaep_182 mY_X0_putPart mL_X8_121 (rcv_spec f182) ⟨_, _, rfl⟩ (by decide) (As := [.ref v166, .int (l5 + (1 : Int32)), .int ((v174 - l5) - (1 : Int32))]) (rest := []) rfl rfl ⟨Nat.le_of_ble_eq_true rfl, Nat.le_of_ble_eq_true rfl⟩ (Nat.le_of_ble_eq_true rfl) (fun l D A => c_X0_putPart l D A e182) ?_
    refine ww_iconst 185 X (v := (1 : Int32)) dX8_openOaep_185 (by decide) ?_
    exact ww_zretE 186 X hQ dX8_openOaep_186 h
  · replace h := (if_neg q).symm.trans h
    refine ww_iconst 156 X (v := (0 : Int32)) dX8_openOaep_156 (by decide) ?_
    exact ww_zretE 157 X hQ dX8_openOaep_157 h
set_option maxHeartbeats 4000000 in
set_option maxRecDepth 100000 in
theorem wB_X8_openOaep_113 {G : mG} {F : Nat} {x : mXT} {sz : Nat} {r0 : Int32} {M0 : mM} (X : mCX G RX8 cX8_openOaep 7 (some .boolean) "openOaep" rmX8_openOaep x) (hQ : mQI x r0 M0 (sz, 0, 0)) : ∀ (n : Nat) (l0 : Nat) (l3 : Nat) (l4 : Nat) (l5 : Int32) (l6 : Int32) (M : mM), B_X8_openOaep_113 G F n l0 l3 l4 l5 l6 M = some (r0, M0) → WW x (sz, 0, 0) M 113 [(0, .ref l0), (3, .ref l3), (4, .ref l4), (5, .int l5), (6, .int l6)] [] := by
  intro n
  induction n with
  | zero =>
    intro l0 l3 l4 l5 l6 M h
    exact nomatch (show (none : Option (Int32 × mM)) = some (r0, M0) from h)
  | succ n ih =>
    intro l0 l3 l4 l5 l6 M h
    rw [B_X8_openOaep_113] at h
    refine ww_iload 113 X dX8_openOaep_113 4 rfl ?_
    refine ww_aload_n 115 X dX8_openOaep_115 1 rfl rfl ?_
    obtain ⟨v116, e116, h⟩ := bO_some h
    refine ww_getI 116 X dX8_openOaep_116 fG_X8_43 e116 ?_
    refine ww_icmp_ge 119 143 X dX8_openOaep_119 (by decide) (fun q => ?_) (fun q => ?_)
    · replace h := (if_pos q).symm.trans h
      exact ww_sub [0, 1, 2, 3] rfl (wB_X8_openOaep_143 X hQ h)
    · replace h := (if_neg q).symm.trans h
      refine ww_aload_n 122 X dX8_openOaep_122 0 rfl rfl ?_
      obtain ⟨v123, e123, h⟩ := bO_some h
      refine ww_getR 123 X dX8_openOaep_123 fG_X8_25 e123 ?_
      refine ww_iload 126 X dX8_openOaep_126 4 rfl ?_
      obtain ⟨_, f128, h⟩ := bO_some h
      obtain ⟨v128, M128, e128, h⟩ := bP_some h
      refine ww_callVI0 128 X dX8_openOaep_128 mY_X0_get mL_X8_68 (rcv_spec f128) ⟨_, _, rfl⟩ (by decide) (As := [.int l6]) (rest := []) rfl rfl ⟨Nat.le_of_ble_eq_true rfl, Nat.le_of_ble_eq_true rfl⟩ (Nat.le_of_ble_eq_true rfl) (fun l D A => c_X0_get l D A e128) ?_
      refine ww_if_ne 131 143 X dX8_openOaep_131 (by decide) (fun q => ?_) (fun q => ?_)
      · replace h := (if_neg q).symm.trans h
        exact ww_sub [0, 1, 2, 3] rfl (wB_X8_openOaep_143 X hQ h)
      · replace h := (if_pos q).symm.trans h
        refine ww_iinc 134 X dX8_openOaep_134 (lv' := [(0, .ref l0), (3, .ref l3), (4, .ref l4), (5, .int (l5 + 1)), (6, .int l6)]) 3 rfl rfl (by decide) [1, 2, 3, 0, 4] rfl ?_
        refine ww_iinc 137 X dX8_openOaep_137 (lv' := [(0, .ref l0), (3, .ref l3), (4, .ref l4), (5, .int (l5 + 1)), (6, .int (l6 + 1))]) 4 rfl rfl (by decide) [1, 2, 3, 4, 0] rfl ?_
        refine ww_goto 140 113 X dX8_openOaep_140 (by decide) ?_
        exact (ih _ _ _ _ _ _ h)
set_option maxHeartbeats 4000000 in
set_option maxRecDepth 100000 in
theorem wP_X8_openOaep {G : mG} {F : Nat} {x : mXT} {sz : Nat} {r0 : Int32} {M0 : mM} (X : mCX G RX8 cX8_openOaep 7 (some .boolean) "openOaep" rmX8_openOaep x) (hQ : mQI x r0 M0 (sz, 0, 0)) {l0 : Nat} {l1 : Nat} {l2 : Nat} {l3 : Nat} {l4 : Nat} {M : mM} (h : P_X8_openOaep G F l0 l1 l2 l3 l4 M = some (r0, M0)) : WW x (sz, 0, 0) M 0 [(0, .ref l0), (1, .ref l1), (2, .ref l2), (3, .ref l3), (4, .ref l4)] [] := by
  unfold P_X8_openOaep at h
  refine ww_aload_n 0 X dX8_openOaep_0 0 rfl rfl ?_
  refine ww_aload_n 1 X dX8_openOaep_1 1 rfl rfl ?_
  refine ww_aload_n 2 X dX8_openOaep_2 3 rfl rfl ?_
  obtain ⟨_, f3, h⟩ := bO_some h
  obtain ⟨v3, M3, e3, h⟩ := bP_some h
  refine ww_callVI0 3 X dX8_openOaep_3 mY_X8_isNumberOf mL_X8_91 (rcv_spec f3) ⟨_, _, rfl⟩ (by decide) (As := [.ref l1, .ref l3]) (rest := []) rfl rfl ⟨Nat.le_of_ble_eq_true rfl, Nat.le_of_ble_eq_true rfl⟩ (Nat.le_of_ble_eq_true rfl) (fun l D A => c_X8_isNumberOf l D A e3) ?_
  refine ww_if_ne 6 11 X dX8_openOaep_6 (by decide) (fun q => ?_) (fun q => ?_)
  · replace h := (if_neg q).symm.trans h
    refine ww_aload_n 11 X dX8_openOaep_11 0 rfl rfl ?_
    refine ww_aload_n 12 X dX8_openOaep_12 1 rfl rfl ?_
    refine ww_aload_n 13 X dX8_openOaep_13 2 rfl rfl ?_
    refine ww_aload_n 14 X dX8_openOaep_14 3 rfl rfl ?_
    refine ww_aload_n 15 X dX8_openOaep_15 0 rfl rfl ?_
    obtain ⟨v16, e16, h⟩ := bO_some h
    refine ww_getR 16 X dX8_openOaep_16 fG_X8_25 e16 ?_
    obtain ⟨_, f19, h⟩ := bO_some h
    obtain ⟨M19, e19, h⟩ := bO_some h
    refine ww_callVV0 19 X dX8_openOaep_19 mY_X8_raise mL_X8_65 (rcv_spec f19) ⟨_, _, rfl⟩ (by decide) (As := [.ref l1, .ref l2, .ref l3, .ref v16]) (rest := []) rfl rfl ⟨Nat.le_of_ble_eq_true rfl, Nat.le_of_ble_eq_true rfl⟩ (Nat.le_of_ble_eq_true rfl) (fun l D A => c_X8_raise l D A e19) ?_
    refine ww_aload_n 22 X dX8_openOaep_22 0 rfl rfl ?_
    refine ww_bipush 23 X (v := (33 : Int32)) dX8_openOaep_23 (by decide) ?_
    refine ww_aload_n 25 X dX8_openOaep_25 3 rfl rfl ?_
    obtain ⟨v26, e26, h⟩ := bO_some h
    refine ww_getI 26 X dX8_openOaep_26 fG_X8_43 e26 ?_
    refine ww_iconst 29 X (v := (1 : Int32)) dX8_openOaep_29 (by decide) ?_
    refine ww_isub 30 X dX8_openOaep_30 ?_
    refine ww_bipush 31 X (v := (32 : Int32)) dX8_openOaep_31 (by decide) ?_
    refine ww_isub 33 X dX8_openOaep_33 ?_
    refine ww_iconst 34 X (v := (1 : Int32)) dX8_openOaep_34 (by decide) ?_
    refine ww_bipush 35 X (v := (32 : Int32)) dX8_openOaep_35 (by decide) ?_
    obtain ⟨_, f37, h⟩ := bO_some h
    obtain ⟨M37, e37, h⟩ := bO_some h
    refine ww_callVV0 37 X dX8_openOaep_37 mY_X8_maskFrame mL_X8_128 (rcv_spec f37) ⟨_, _, rfl⟩ (by decide) (As := [.int (33 : Int32), .int ((v26 - (1 : Int32)) - (32 : Int32)), .int (1 : Int32), .int (32 : Int32)]) (rest := []) rfl rfl ⟨Nat.le_of_ble_eq_true rfl, Nat.le_of_ble_eq_true rfl⟩ (Nat.le_of_ble_eq_true rfl) (fun l D A => c_X8_maskFrame l D A e37) ?_
    refine ww_aload_n 40 X dX8_openOaep_40 0 rfl rfl ?_
    refine ww_iconst 41 X (v := (1 : Int32)) dX8_openOaep_41 (by decide) ?_
    refine ww_bipush 42 X (v := (32 : Int32)) dX8_openOaep_42 (by decide) ?_
    refine ww_bipush 44 X (v := (33 : Int32)) dX8_openOaep_44 (by decide) ?_
    refine ww_aload_n 46 X dX8_openOaep_46 3 rfl rfl ?_
    obtain ⟨v47, e47, h⟩ := bO_some h
    refine ww_getI 47 X dX8_openOaep_47 fG_X8_43 e47 ?_
    refine ww_iconst 50 X (v := (1 : Int32)) dX8_openOaep_50 (by decide) ?_
    refine ww_isub 51 X dX8_openOaep_51 ?_
    refine ww_bipush 52 X (v := (32 : Int32)) dX8_openOaep_52 (by decide) ?_
    refine ww_isub 54 X dX8_openOaep_54 ?_
    obtain ⟨_, f55, h⟩ := bO_some h
    obtain ⟨M55, e55, h⟩ := bO_some h
    refine ww_callVV0 55 X dX8_openOaep_55 mY_X8_maskFrame mL_X8_128 (rcv_spec f55) ⟨_, _, rfl⟩ (by decide) (As := [.int (1 : Int32), .int (32 : Int32), .int (33 : Int32), .int ((v47 - (1 : Int32)) - (32 : Int32))]) (rest := []) rfl rfl ⟨Nat.le_of_ble_eq_true rfl, Nat.le_of_ble_eq_true rfl⟩ (Nat.le_of_ble_eq_true rfl) (fun l D A => c_X8_maskFrame l D A e55) ?_
    refine ww_aload_n 58 X dX8_openOaep_58 0 rfl rfl ?_
    obtain ⟨v59, e59, h⟩ := bO_some h
    refine ww_getR 59 X dX8_openOaep_59 fG_X8_29 e59 ?_
    obtain ⟨_, f62, h⟩ := bO_some h
    obtain ⟨M62, e62, h⟩ := bO_some h
    refine ww_callVV0 62 X dX8_openOaep_62 mY_X0_clear mL_X8_55 (rcv_spec f62) ⟨_, _, rfl⟩ (by decide) (As := []) (rest := []) rfl rfl ⟨Nat.le_of_ble_eq_true rfl, Nat.le_of_ble_eq_true rfl⟩ (Nat.le_of_ble_eq_true rfl) (fun l D A => c_X0_clear l D A e62) ?_
    refine ww_aload_n 65 X dX8_openOaep_65 0 rfl rfl ?_
    refine ww_aload_n 66 X dX8_openOaep_66 0 rfl rfl ?_
    obtain ⟨v67, e67, h⟩ := bO_some h
    refine ww_getR 67 X dX8_openOaep_67 fG_X8_29 e67 ?_
    obtain ⟨_, f70, h⟩ := bO_some h
    obtain ⟨M70, e70, h⟩ := bO_some h
    refine ww_callVV0 70 X dX8_openOaep_70 mY_X8_putEmptyHash mL_X8_132 (rcv_spec f70) ⟨_, _, rfl⟩ (by decide) (As := [.ref v67]) (rest := []) rfl rfl ⟨Nat.le_of_ble_eq_true rfl, Nat.le_of_ble_eq_true rfl⟩ (Nat.le_of_ble_eq_true rfl) (fun l D A => c_X8_putEmptyHash l D A e70) ?_
    refine ww_aload_n 73 X dX8_openOaep_73 0 rfl rfl ?_
    obtain ⟨v74, e74, h⟩ := bO_some h
    refine ww_getR 74 X dX8_openOaep_74 fG_X8_25 e74 ?_
    refine ww_iconst 77 X (v := (0 : Int32)) dX8_openOaep_77 (by decide) ?_
    obtain ⟨_, f78, h⟩ := bO_some h
    obtain ⟨v78, M78, e78, h⟩ := bP_some h
    refine ww_callVI0 78 X dX8_openOaep_78 mY_X0_get mL_X8_68 (rcv_spec f78) ⟨_, _, rfl⟩ (by decide) (As := [.int (0 : Int32)]) (rest := []) rfl rfl ⟨Nat.le_of_ble_eq_true rfl, Nat.le_of_ble_eq_true rfl⟩ (Nat.le_of_ble_eq_true rfl) (fun l D A => c_X0_get l D A e78) ?_
    refine ww_if_ne 81 103 X dX8_openOaep_81 (by decide) (fun q => ?_) (fun q => ?_)
    · replace h := (if_neg q).symm.trans h
      refine ww_iconst 103 X (v := (0 : Int32)) dX8_openOaep_103 (by decide) ?_
      exact ww_zretE 104 X hQ dX8_openOaep_104 h
    · replace h := (if_pos q).symm.trans h
      refine ww_aload_n 84 X dX8_openOaep_84 0 rfl rfl ?_
      obtain ⟨v85, e85, h⟩ := bO_some h
      refine ww_getR 85 X dX8_openOaep_85 fG_X8_29 e85 ?_
      refine ww_iconst 88 X (v := (0 : Int32)) dX8_openOaep_88 (by decide) ?_
      refine ww_aload_n 89 X dX8_openOaep_89 0 rfl rfl ?_
      obtain ⟨v90, e90, h⟩ := bO_some h
      refine ww_getR 90 X dX8_openOaep_90 fG_X8_25 e90 ?_
      refine ww_bipush 93 X (v := (33 : Int32)) dX8_openOaep_93 (by decide) ?_
      refine ww_bipush 95 X (v := (32 : Int32)) dX8_openOaep_95 (by decide) ?_
      obtain ⟨v97, M97, e97, h⟩ := bP_some h
      refine ww_callSI0 97 X dX8_openOaep_97 mY_X0_compare mL_X8_87 (As := [.ref v85, .int (0 : Int32), .ref v90, .int (33 : Int32), .int (32 : Int32)]) (rest := []) rfl rfl ⟨Nat.le_of_ble_eq_true rfl, Nat.le_of_ble_eq_true rfl⟩ (Nat.le_of_ble_eq_true rfl) (fun l D A => c_X0_compare l D A e97) ?_
      refine ww_if_eq 100 105 X dX8_openOaep_100 (by decide) (fun q => ?_) (fun q => ?_)
      · replace h := (if_pos q).symm.trans h
        refine ww_bipush 105 X (v := (65 : Int32)) dX8_openOaep_105 (by decide) ?_
        refine ww_istore 107 X dX8_openOaep_107 (lv' := [(0, .ref l0), (1, .ref l1), (2, .ref l2), (3, .ref l3), (4, .ref l4), (5, .int (65 : Int32))]) (by decide) [1, 2, 3, 4, 5, 0] rfl ?_
        refine ww_iload 109 X dX8_openOaep_109 5 rfl ?_
        refine ww_istore 111 X dX8_openOaep_111 (lv' := [(0, .ref l0), (1, .ref l1), (2, .ref l2), (3, .ref l3), (4, .ref l4), (5, .int (65 : Int32)), (6, .int (65 : Int32))]) (by decide) [1, 2, 3, 4, 5, 6, 0] rfl ?_
        exact ww_sub [0, 3, 4, 5, 6] rfl (wB_X8_openOaep_113 X hQ F _ _ _ _ _ _ h)
      · replace h := (if_neg q).symm.trans h
        refine ww_iconst 103 X (v := (0 : Int32)) dX8_openOaep_103 (by decide) ?_
        exact ww_zretE 104 X hQ dX8_openOaep_104 h
  · replace h := (if_pos q).symm.trans h
    refine ww_iconst 9 X (v := (0 : Int32)) dX8_openOaep_9 (by decide) ?_
    exact ww_zretE 10 X hQ dX8_openOaep_10 h
theorem c_X8_openOaep {G : mG} {F sz : Nat} {r0 : Int32} {M0 : mM} (l : Launch) (D : mD) (A : Nat → Prop) {l0 : Nat} {l1 : Nat} {l2 : Nat} {l3 : Nat} {l4 : Nat} {M : mM} (h : P_X8_openOaep G F l0 l1 l2 l3 l4 M = some (r0, M0)) : mMetI l D G A yX8_openOaep cX8_openOaep 7 (some .boolean) 5 168 0 0 [.ref l0, .ref l1, .ref l2, .ref l3, .ref l4] M sz r0 M0 sz := mMetI_of l D G A (by decide) (Nat.le_of_ble_eq_true rfl) (fun x X hQ => wP_X8_openOaep X hQ h)
/-! SealedTokens$Text.<init>()V -/
theorem dX9_init_0 : decode cX9_init 0 = .ok (.aload_n 0, 1) := by decide +kernel
theorem dX9_init_1 : decode cX9_init 1 = .ok (.invokespecial 3, 3) := by decide +kernel
theorem dX9_init_4 : decode cX9_init 4 = .ok (.aload_n 0, 1) := by decide +kernel
theorem dX9_init_5 : decode cX9_init 5 = .ok (.sipush 600, 3) := by decide +kernel
theorem dX9_init_8 : decode cX9_init 8 = .ok (.newarray .int, 2) := by decide +kernel
theorem dX9_init_10 : decode cX9_init 10 = .ok (.putfield 11, 3) := by decide +kernel
theorem dX9_init_13 : decode cX9_init 13 = .ok (.aload_n 0, 1) := by decide +kernel
theorem dX9_init_14 : decode cX9_init 14 = .ok (.sipush 600, 3) := by decide +kernel
theorem dX9_init_17 : decode cX9_init 17 = .ok (.newarray .int, 2) := by decide +kernel
theorem dX9_init_19 : decode cX9_init 19 = .ok (.putfield 15, 3) := by decide +kernel
theorem dX9_init_22 : decode cX9_init 22 = .ok (.aload_n 0, 1) := by decide +kernel
theorem dX9_init_23 : decode cX9_init 23 = .ok (.sipush 600, 3) := by decide +kernel
theorem dX9_init_26 : decode cX9_init 26 = .ok (.newarray .int, 2) := by decide +kernel
theorem dX9_init_28 : decode cX9_init 28 = .ok (.putfield 18, 3) := by decide +kernel
theorem dX9_init_31 : decode cX9_init 31 = .ok (.aload_n 0, 1) := by decide +kernel
theorem dX9_init_32 : decode cX9_init 32 = .ok (.sipush 600, 3) := by decide +kernel
theorem dX9_init_35 : decode cX9_init 35 = .ok (.newarray .int, 2) := by decide +kernel
theorem dX9_init_37 : decode cX9_init 37 = .ok (.putfield 21, 3) := by decide +kernel
theorem dX9_init_40 : decode cX9_init 40 = .ok (.aload_n 0, 1) := by decide +kernel
theorem dX9_init_41 : decode cX9_init 41 = .ok (.sipush 600, 3) := by decide +kernel
theorem dX9_init_44 : decode cX9_init 44 = .ok (.newarray .int, 2) := by decide +kernel
theorem dX9_init_46 : decode cX9_init 46 = .ok (.putfield 24, 3) := by decide +kernel
theorem dX9_init_49 : decode cX9_init 49 = .ok (.aload_n 0, 1) := by decide +kernel
theorem dX9_init_50 : decode cX9_init 50 = .ok (.sipush 600, 3) := by decide +kernel
theorem dX9_init_53 : decode cX9_init 53 = .ok (.newarray .int, 2) := by decide +kernel
theorem dX9_init_55 : decode cX9_init 55 = .ok (.putfield 27, 3) := by decide +kernel
theorem dX9_init_58 : decode cX9_init 58 = .ok (.aload_n 0, 1) := by decide +kernel
theorem dX9_init_59 : decode cX9_init 59 = .ok (.sipush 600, 3) := by decide +kernel
theorem dX9_init_62 : decode cX9_init 62 = .ok (.newarray .int, 2) := by decide +kernel
theorem dX9_init_64 : decode cX9_init 64 = .ok (.putfield 30, 3) := by decide +kernel
theorem dX9_init_67 : decode cX9_init 67 = .ok (.aload_n 0, 1) := by decide +kernel
theorem dX9_init_68 : decode cX9_init 68 = .ok (.sipush 600, 3) := by decide +kernel
theorem dX9_init_71 : decode cX9_init 71 = .ok (.newarray .int, 2) := by decide +kernel
theorem dX9_init_73 : decode cX9_init 73 = .ok (.putfield 33, 3) := by decide +kernel
theorem dX9_init_76 : decode cX9_init 76 = .ok (.aload_n 0, 1) := by decide +kernel
theorem dX9_init_77 : decode cX9_init 77 = .ok (.sipush 600, 3) := by decide +kernel
theorem dX9_init_80 : decode cX9_init 80 = .ok (.newarray .int, 2) := by decide +kernel
theorem dX9_init_82 : decode cX9_init 82 = .ok (.putfield 36, 3) := by decide +kernel
theorem dX9_init_85 : decode cX9_init 85 = .ok (.aload_n 0, 1) := by decide +kernel
theorem dX9_init_86 : decode cX9_init 86 = .ok (.new 39, 3) := by decide +kernel
theorem dX9_init_89 : decode cX9_init 89 = .ok (.dup, 1) := by decide +kernel
theorem dX9_init_90 : decode cX9_init 90 = .ok (.sipush 8192, 3) := by decide +kernel
theorem dX9_init_93 : decode cX9_init 93 = .ok (.invokespecial 41, 3) := by decide +kernel
theorem dX9_init_96 : decode cX9_init 96 = .ok (.putfield 44, 3) := by decide +kernel
theorem dX9_init_99 : decode cX9_init 99 = .ok (.return_, 1) := by decide +kernel
theorem mP_X9_init {G : mG} {F : Nat} {M0 : mM} {Z0 S0 : Nat} {l0 : Nat} {M : mM} {sz : Nat} {sl : Nat} (h : P_X9_init G F l0 M sz sl = some (M0, Z0, S0)) : sz ≤ Z0 ∧ sl ≤ S0 := by
  unfold P_X9_init at h
  obtain ⟨M8, e8, h⟩ := bO_some h
  obtain ⟨M10, e10, h⟩ := bO_some h
  obtain ⟨M17, e17, h⟩ := bO_some h
  obtain ⟨M19, e19, h⟩ := bO_some h
  obtain ⟨M26, e26, h⟩ := bO_some h
  obtain ⟨M28, e28, h⟩ := bO_some h
  obtain ⟨M35, e35, h⟩ := bO_some h
  obtain ⟨M37, e37, h⟩ := bO_some h
  obtain ⟨M44, e44, h⟩ := bO_some h
  obtain ⟨M46, e46, h⟩ := bO_some h
  obtain ⟨M53, e53, h⟩ := bO_some h
  obtain ⟨M55, e55, h⟩ := bO_some h
  obtain ⟨M62, e62, h⟩ := bO_some h
  obtain ⟨M64, e64, h⟩ := bO_some h
  obtain ⟨M71, e71, h⟩ := bO_some h
  obtain ⟨M73, e73, h⟩ := bO_some h
  obtain ⟨M80, e80, h⟩ := bO_some h
  obtain ⟨M82, e82, h⟩ := bO_some h
  obtain ⟨M86, ⟨⟩, h⟩ := bO_some h
  obtain ⟨M93, z93, k93, e93, h⟩ := bA_some h
  have g93 := mP_X0_init e93
  obtain ⟨M96, e96, h⟩ := bO_some h
  have q := retA_v h
  omega
set_option maxHeartbeats 4000000 in
set_option maxRecDepth 100000 in
theorem wP_X9_init {G : mG} {F : Nat} {x : mXT} {z0 s0 : Nat} {M0 : mM} {Z0 S0 : Nat} (X : mCX G RX9 cX9_init 1 none "<init>" { frames := 2, cells := Z0 - z0, slots := S0 - s0, locals := 42 } x) (hQ : mQV x M0 (Z0, Z0 - z0, S0 - s0)) {l0 : Nat} {M : mM} {sz : Nat} {sl : Nat} (hz0 : z0 ≤ sz) (hs0 : s0 ≤ sl) (h : P_X9_init G F l0 M sz sl = some (M0, Z0, S0)) : WW x (sz, sz - z0, sl - s0) M 0 [(0, .ref l0)] [] := by
  unfold P_X9_init at h
  obtain ⟨M8, e8, h⟩ := bO_some h
  obtain ⟨M10, e10, h⟩ := bO_some h
  obtain ⟨M17, e17, h⟩ := bO_some h
  obtain ⟨M19, e19, h⟩ := bO_some h
  obtain ⟨M26, e26, h⟩ := bO_some h
  obtain ⟨M28, e28, h⟩ := bO_some h
  obtain ⟨M35, e35, h⟩ := bO_some h
  obtain ⟨M37, e37, h⟩ := bO_some h
  obtain ⟨M44, e44, h⟩ := bO_some h
  obtain ⟨M46, e46, h⟩ := bO_some h
  obtain ⟨M53, e53, h⟩ := bO_some h
  obtain ⟨M55, e55, h⟩ := bO_some h
  obtain ⟨M62, e62, h⟩ := bO_some h
  obtain ⟨M64, e64, h⟩ := bO_some h
  obtain ⟨M71, e71, h⟩ := bO_some h
  obtain ⟨M73, e73, h⟩ := bO_some h
  obtain ⟨M80, e80, h⟩ := bO_some h
  obtain ⟨M82, e82, h⟩ := bO_some h
  obtain ⟨M86, ⟨⟩, h⟩ := bO_some h
  obtain ⟨M93, z93, k93, e93, h⟩ := bA_some h
  have g93 := mP_X0_init e93
  obtain ⟨M96, e96, h⟩ := bO_some h
  have q := retA_v h
  refine ww_aload_n 0 X dX9_init_0 0 rfl rfl ?_
  refine ww_objI 1 X (st := []) dX9_init_1 oL_X9_3 oI_i oI_c (Nat.le_of_ble_eq_true rfl) (Nat.le_of_ble_eq_true rfl) (Nat.le_of_ble_eq_true rfl) ?_
  refine ww_aload_n 4 X dX9_init_4 0 rfl rfl ?_
  refine ww_sipush 5 X (v := (600 : Int32)) dX9_init_5 (by decide) ?_
  refine ww_newA 8 X (sz := sz) (sl := sl) (z0 := z0) (s0 := s0) dX9_init_8 (k := 0) (by decide) rfl aC_0 e8 (by omega) (by omega) (by show _ ≤ Z0 - z0; omega) (by show _ ≤ S0 - s0; omega) ?_
  refine ww_putR 10 X dX9_init_10 (fP_X9_11 _ (Or.inr rfl)) e10 rfl rfl ?_
  refine ww_aload_n 13 X dX9_init_13 0 rfl rfl ?_
  refine ww_sipush 14 X (v := (600 : Int32)) dX9_init_14 (by decide) ?_
  refine ww_newA 17 X (sz := (sz + 1)) (sl := (sl + ((600 : Int32)).toNatClampNeg)) (z0 := z0) (s0 := s0) dX9_init_17 (k := 0) (by decide) rfl aC_0 e17 (by omega) (by omega) (by show _ ≤ Z0 - z0; omega) (by show _ ≤ S0 - s0; omega) ?_
  refine ww_putR 19 X dX9_init_19 (fP_X9_15 _ (Or.inr rfl)) e19 rfl rfl ?_
  refine ww_aload_n 22 X dX9_init_22 0 rfl rfl ?_
  refine ww_sipush 23 X (v := (600 : Int32)) dX9_init_23 (by decide) ?_
  refine ww_newA 26 X (sz := ((sz + 1) + 1)) (sl := ((sl + ((600 : Int32)).toNatClampNeg) + ((600 : Int32)).toNatClampNeg)) (z0 := z0) (s0 := s0) dX9_init_26 (k := 0) (by decide) rfl aC_0 e26 (by omega) (by omega) (by show _ ≤ Z0 - z0; omega) (by show _ ≤ S0 - s0; omega) ?_
  refine ww_putR 28 X dX9_init_28 (fP_X9_18 _ (Or.inr rfl)) e28 rfl rfl ?_
  refine ww_aload_n 31 X dX9_init_31 0 rfl rfl ?_
  refine ww_sipush 32 X (v := (600 : Int32)) dX9_init_32 (by decide) ?_
  refine ww_newA 35 X (sz := (((sz + 1) + 1) + 1)) (sl := (((sl + ((600 : Int32)).toNatClampNeg) + ((600 : Int32)).toNatClampNeg) + ((600 : Int32)).toNatClampNeg)) (z0 := z0) (s0 := s0) dX9_init_35 (k := 0) (by decide) rfl aC_0 e35 (by omega) (by omega) (by show _ ≤ Z0 - z0; omega) (by show _ ≤ S0 - s0; omega) ?_
  refine ww_putR 37 X dX9_init_37 (fP_X9_21 _ (Or.inr rfl)) e37 rfl rfl ?_
  refine ww_aload_n 40 X dX9_init_40 0 rfl rfl ?_
  refine ww_sipush 41 X (v := (600 : Int32)) dX9_init_41 (by decide) ?_
  refine ww_newA 44 X (sz := ((((sz + 1) + 1) + 1) + 1)) (sl := ((((sl + ((600 : Int32)).toNatClampNeg) + ((600 : Int32)).toNatClampNeg) + ((600 : Int32)).toNatClampNeg) + ((600 : Int32)).toNatClampNeg)) (z0 := z0) (s0 := s0) dX9_init_44 (k := 0) (by decide) rfl aC_0 e44 (by omega) (by omega) (by show _ ≤ Z0 - z0; omega) (by show _ ≤ S0 - s0; omega) ?_
  refine ww_putR 46 X dX9_init_46 (fP_X9_24 _ (Or.inr rfl)) e46 rfl rfl ?_
  refine ww_aload_n 49 X dX9_init_49 0 rfl rfl ?_
  refine ww_sipush 50 X (v := (600 : Int32)) dX9_init_50 (by decide) ?_
  refine ww_newA 53 X (sz := (((((sz + 1) + 1) + 1) + 1) + 1)) (sl := (((((sl + ((600 : Int32)).toNatClampNeg) + ((600 : Int32)).toNatClampNeg) + ((600 : Int32)).toNatClampNeg) + ((600 : Int32)).toNatClampNeg) + ((600 : Int32)).toNatClampNeg)) (z0 := z0) (s0 := s0) dX9_init_53 (k := 0) (by decide) rfl aC_0 e53 (by omega) (by omega) (by show _ ≤ Z0 - z0; omega) (by show _ ≤ S0 - s0; omega) ?_
  refine ww_putR 55 X dX9_init_55 (fP_X9_27 _ (Or.inr rfl)) e55 rfl rfl ?_
  refine ww_aload_n 58 X dX9_init_58 0 rfl rfl ?_
  refine ww_sipush 59 X (v := (600 : Int32)) dX9_init_59 (by decide) ?_
  refine ww_newA 62 X (sz := ((((((sz + 1) + 1) + 1) + 1) + 1) + 1)) (sl := ((((((sl + ((600 : Int32)).toNatClampNeg) + ((600 : Int32)).toNatClampNeg) + ((600 : Int32)).toNatClampNeg) + ((600 : Int32)).toNatClampNeg) + ((600 : Int32)).toNatClampNeg) + ((600 : Int32)).toNatClampNeg)) (z0 := z0) (s0 := s0) dX9_init_62 (k := 0) (by decide) rfl aC_0 e62 (by omega) (by omega) (by show _ ≤ Z0 - z0; omega) (by show _ ≤ S0 - s0; omega) ?_
  refine ww_putR 64 X dX9_init_64 (fP_X9_30 _ (Or.inr rfl)) e64 rfl rfl ?_
  refine ww_aload_n 67 X dX9_init_67 0 rfl rfl ?_
  refine ww_sipush 68 X (v := (600 : Int32)) dX9_init_68 (by decide) ?_
  refine ww_newA 71 X (sz := (((((((sz + 1) + 1) + 1) + 1) + 1) + 1) + 1)) (sl := (((((((sl + ((600 : Int32)).toNatClampNeg) + ((600 : Int32)).toNatClampNeg) + ((600 : Int32)).toNatClampNeg) + ((600 : Int32)).toNatClampNeg) + ((600 : Int32)).toNatClampNeg) + ((600 : Int32)).toNatClampNeg) + ((600 : Int32)).toNatClampNeg)) (z0 := z0) (s0 := s0) dX9_init_71 (k := 0) (by decide) rfl aC_0 e71 (by omega) (by omega) (by show _ ≤ Z0 - z0; omega) (by show _ ≤ S0 - s0; omega) ?_
  refine ww_putR 73 X dX9_init_73 (fP_X9_33 _ (Or.inr rfl)) e73 rfl rfl ?_
  refine ww_aload_n 76 X dX9_init_76 0 rfl rfl ?_
  refine ww_sipush 77 X (v := (600 : Int32)) dX9_init_77 (by decide) ?_
  refine ww_newA 80 X (sz := ((((((((sz + 1) + 1) + 1) + 1) + 1) + 1) + 1) + 1)) (sl := ((((((((sl + ((600 : Int32)).toNatClampNeg) + ((600 : Int32)).toNatClampNeg) + ((600 : Int32)).toNatClampNeg) + ((600 : Int32)).toNatClampNeg) + ((600 : Int32)).toNatClampNeg) + ((600 : Int32)).toNatClampNeg) + ((600 : Int32)).toNatClampNeg) + ((600 : Int32)).toNatClampNeg)) (z0 := z0) (s0 := s0) dX9_init_80 (k := 0) (by decide) rfl aC_0 e80 (by omega) (by omega) (by show _ ≤ Z0 - z0; omega) (by show _ ≤ S0 - s0; omega) ?_
  refine ww_putR 82 X dX9_init_82 (fP_X9_36 _ (Or.inr rfl)) e82 rfl rfl ?_
  refine ww_aload_n 85 X dX9_init_85 0 rfl rfl ?_
  refine ww_newO 86 X (sz := (((((((((sz + 1) + 1) + 1) + 1) + 1) + 1) + 1) + 1) + 1)) (sl := (((((((((sl + ((600 : Int32)).toNatClampNeg) + ((600 : Int32)).toNatClampNeg) + ((600 : Int32)).toNatClampNeg) + ((600 : Int32)).toNatClampNeg) + ((600 : Int32)).toNatClampNeg) + ((600 : Int32)).toNatClampNeg) + ((600 : Int32)).toNatClampNeg) + ((600 : Int32)).toNatClampNeg) + ((600 : Int32)).toNatClampNeg)) (z0 := z0) (s0 := s0) dX9_init_86 nW_X9_39 (by omega) (by omega) (by show _ ≤ Z0 - z0; omega) (by show _ ≤ S0 - s0; omega) ?_
  refine ww_dup 89 X dX9_init_89 rfl ?_
  refine ww_sipush 90 X (v := (8192 : Int32)) dX9_init_90 (by decide) ?_
  refine ww_callIVa 93 X (sz := ((((((((((sz + 1) + 1) + 1) + 1) + 1) + 1) + 1) + 1) + 1) + 1)) (sl := ((((((((((sl + ((600 : Int32)).toNatClampNeg) + ((600 : Int32)).toNatClampNeg) + ((600 : Int32)).toNatClampNeg) + ((600 : Int32)).toNatClampNeg) + ((600 : Int32)).toNatClampNeg) + ((600 : Int32)).toNatClampNeg) + ((600 : Int32)).toNatClampNeg) + ((600 : Int32)).toNatClampNeg) + ((600 : Int32)).toNatClampNeg) + 3)) (z0 := z0) (s0 := s0) dX9_init_93 mY_X0_init mL_X9_41 (As := [.int (8192 : Int32)]) (rest := [.ref (((((((((sz + 1) + 1) + 1) + 1) + 1) + 1) + 1) + 1) + 1), .ref l0]) rfl rfl ⟨Nat.le_of_ble_eq_true rfl, Nat.le_of_ble_eq_true rfl⟩ (by omega) (by omega) (by omega) (by omega) (by show _ ≤ Z0 - z0; omega) (by show _ ≤ S0 - s0; omega) (Nat.le_of_ble_eq_true rfl) (fun l D A => c_X0_init l D A e93) ?_
  refine ww_putR 96 X dX9_init_96 (fP_X9_44 _ (Or.inr rfl)) e96 rfl rfl ?_
  exact ww_vretA 99 X hQ dX9_init_99 h
theorem c_X9_init {G : mG} {F : Nat} {M0 : mM} {Z0 S0 : Nat} (l : Launch) (D : mD) (A : Nat → Prop) {l0 : Nat} {M : mM} {sz : Nat} {sl : Nat} (h : P_X9_init G F l0 M sz sl = some (M0, Z0, S0)) : mMetV l D G A yX9_init cX9_init 1 none 2 42 (Z0 - sz) (S0 - sl) [.ref l0] M sz M0 Z0 := mMetV_of l D G A (by decide) (Nat.le_of_ble_eq_true rfl) (fun x X hQ => by have K := wP_X9_init X hQ (Nat.le_refl sz) (Nat.le_refl sl) h; rw [Nat.sub_self, Nat.sub_self] at K; exact K)
/-! SealedTokens$Text.saysSame(ILSealedTokens$Bytes;)Z -/
theorem dX9_saysSame_0 : decode cX9_saysSame 0 = .ok (.aload_n 0, 1) := by decide +kernel
theorem dX9_saysSame_1 : decode cX9_saysSame 1 = .ok (.iload_n 1, 1) := by decide +kernel
theorem dX9_saysSame_2 : decode cX9_saysSame 2 = .ok (.iconst 4, 1) := by decide +kernel
theorem dX9_saysSame_3 : decode cX9_saysSame 3 = .ok (.invokevirtual 66, 3) := by decide +kernel
theorem dX9_saysSame_6 : decode cX9_saysSame 6 = .ok (.ifCond .eq 32, 3) := by decide +kernel
theorem dX9_saysSame_9 : decode cX9_saysSame 9 = .ok (.aload_n 0, 1) := by decide +kernel
theorem dX9_saysSame_10 : decode cX9_saysSame 10 = .ok (.aload_n 0, 1) := by decide +kernel
theorem dX9_saysSame_11 : decode cX9_saysSame 11 = .ok (.getfield 27, 3) := by decide +kernel
theorem dX9_saysSame_14 : decode cX9_saysSame 14 = .ok (.iload_n 1, 1) := by decide +kernel
theorem dX9_saysSame_15 : decode cX9_saysSame 15 = .ok (.iaload, 1) := by decide +kernel
theorem dX9_saysSame_16 : decode cX9_saysSame 16 = .ok (.aload_n 0, 1) := by decide +kernel
theorem dX9_saysSame_17 : decode cX9_saysSame 17 = .ok (.getfield 30, 3) := by decide +kernel
theorem dX9_saysSame_20 : decode cX9_saysSame 20 = .ok (.iload_n 1, 1) := by decide +kernel
theorem dX9_saysSame_21 : decode cX9_saysSame 21 = .ok (.iaload, 1) := by decide +kernel
theorem dX9_saysSame_22 : decode cX9_saysSame 22 = .ok (.aload_n 2, 1) := by decide +kernel
theorem dX9_saysSame_23 : decode cX9_saysSame 23 = .ok (.iconst 0, 1) := by decide +kernel
theorem dX9_saysSame_24 : decode cX9_saysSame 24 = .ok (.aload_n 2, 1) := by decide +kernel
theorem dX9_saysSame_25 : decode cX9_saysSame 25 = .ok (.getfield 59, 3) := by decide +kernel
theorem dX9_saysSame_28 : decode cX9_saysSame 28 = .ok (.invokevirtual 70, 3) := by decide +kernel
theorem dX9_saysSame_31 : decode cX9_saysSame 31 = .ok (.ifCond .eq 7, 3) := by decide +kernel
theorem dX9_saysSame_34 : decode cX9_saysSame 34 = .ok (.iconst 1, 1) := by decide +kernel
theorem dX9_saysSame_35 : decode cX9_saysSame 35 = .ok (.goto 4, 3) := by decide +kernel
theorem dX9_saysSame_38 : decode cX9_saysSame 38 = .ok (.iconst 0, 1) := by decide +kernel
theorem dX9_saysSame_39 : decode cX9_saysSame 39 = .ok (.ireturn, 1) := by decide +kernel
abbrev rmX9_saysSame : Room := { frames := 3, cells := 0, slots := 0, locals := 73 }
set_option maxHeartbeats 4000000 in
set_option maxRecDepth 100000 in
theorem wP_X9_saysSame {G : mG} {F : Nat} {x : mXT} {sz : Nat} {r0 : Int32} {M0 : mM} (X : mCX G RX9 cX9_saysSame 3 (some .boolean) "saysSame" rmX9_saysSame x) (hQ : mQI x r0 M0 (sz, 0, 0)) {l0 : Nat} {l1 : Int32} {l2 : Nat} {M : mM} (h : P_X9_saysSame G F l0 l1 l2 M = some (r0, M0)) : WW x (sz, 0, 0) M 0 [(0, .ref l0), (1, .int l1), (2, .ref l2)] [] := by
  unfold P_X9_saysSame at h
  refine ww_aload_n 0 X dX9_saysSame_0 0 rfl rfl ?_
  refine ww_iload_n 1 X dX9_saysSame_1 1 rfl rfl ?_
  refine ww_iconst 2 X (v := (4 : Int32)) dX9_saysSame_2 (by decide) ?_
  obtain ⟨_, f3, h⟩ := bO_some h
  obtain ⟨v3, M3, e3, h⟩ := bP_some h
  refine ww_callVI0 3 X dX9_saysSame_3 mY_X9_isKind mL_X9_66 (rcv_spec f3) ⟨_, _, rfl⟩ (by decide) (As := [.int l1, .int (4 : Int32)]) (rest := []) rfl rfl ⟨Nat.le_of_ble_eq_true rfl, Nat.le_of_ble_eq_true rfl⟩ (Nat.le_of_ble_eq_true rfl) (fun l D A => c_X9_isKind l D A e3) ?_
  refine ww_if_eq 6 38 X dX9_saysSame_6 (by decide) (fun q => ?_) (fun q => ?_)
  · replace h := (if_pos q).symm.trans h
    refine ww_iconst 38 X (v := (0 : Int32)) dX9_saysSame_38 (by decide) ?_
    exact ww_zretE 39 X hQ dX9_saysSame_39 h
  · replace h := (if_neg q).symm.trans h
    refine ww_aload_n 9 X dX9_saysSame_9 0 rfl rfl ?_
    refine ww_aload_n 10 X dX9_saysSame_10 0 rfl rfl ?_
    obtain ⟨v11, e11, h⟩ := bO_some h
    refine ww_getR 11 X dX9_saysSame_11 fG_X9_27 e11 ?_
    refine ww_iload_n 14 X dX9_saysSame_14 1 rfl rfl ?_
    obtain ⟨v15, e15, h⟩ := bO_some h
    refine ww_iald 15 X dX9_saysSame_15 e15 ?_
    refine ww_aload_n 16 X dX9_saysSame_16 0 rfl rfl ?_
    obtain ⟨v17, e17, h⟩ := bO_some h
    refine ww_getR 17 X dX9_saysSame_17 fG_X9_30 e17 ?_
    refine ww_iload_n 20 X dX9_saysSame_20 1 rfl rfl ?_
    obtain ⟨v21, e21, h⟩ := bO_some h
    refine ww_iald 21 X dX9_saysSame_21 e21 ?_
    refine ww_aload_n 22 X dX9_saysSame_22 2 rfl rfl ?_
    refine ww_iconst 23 X (v := (0 : Int32)) dX9_saysSame_23 (by decide) ?_
    refine ww_aload_n 24 X dX9_saysSame_24 2 rfl rfl ?_
    obtain ⟨v25, e25, h⟩ := bO_some h
    refine ww_getI 25 X dX9_saysSame_25 fG_X9_59 e25 ?_
    obtain ⟨_, f28, h⟩ := bO_some h
    obtain ⟨v28, M28, e28, h⟩ := bP_some h
    refine ww_callVI0 28 X dX9_saysSame_28 mY_X9_poolSays mL_X9_70 (rcv_spec f28) ⟨_, _, rfl⟩ (by decide) (As := [.int v15, .int v21, .ref l2, .int (0 : Int32), .int v25]) (rest := []) rfl rfl ⟨Nat.le_of_ble_eq_true rfl, Nat.le_of_ble_eq_true rfl⟩ (Nat.le_of_ble_eq_true rfl) (fun l D A => c_X9_poolSays l D A e28) ?_
    refine ww_if_eq 31 38 X dX9_saysSame_31 (by decide) (fun q => ?_) (fun q => ?_)
    · replace h := (if_pos q).symm.trans h
      refine ww_iconst 38 X (v := (0 : Int32)) dX9_saysSame_38 (by decide) ?_
      exact ww_zretE 39 X hQ dX9_saysSame_39 h
    · replace h := (if_neg q).symm.trans h
      refine ww_iconst 34 X (v := (1 : Int32)) dX9_saysSame_34 (by decide) ?_
      refine ww_goto 35 39 X dX9_saysSame_35 (by decide) ?_
      exact ww_zretE 39 X hQ dX9_saysSame_39 h
theorem c_X9_saysSame {G : mG} {F sz : Nat} {r0 : Int32} {M0 : mM} (l : Launch) (D : mD) (A : Nat → Prop) {l0 : Nat} {l1 : Int32} {l2 : Nat} {M : mM} (h : P_X9_saysSame G F l0 l1 l2 M = some (r0, M0)) : mMetI l D G A yX9_saysSame cX9_saysSame 3 (some .boolean) 3 73 0 0 [.ref l0, .int l1, .ref l2] M sz r0 M0 sz := mMetI_of l D G A (by decide) (Nat.le_of_ble_eq_true rfl) (fun x X hQ => wP_X9_saysSame X hQ h)
/-! SealedTokens$Text.closeTo(IILSealedTokens$Bytes;)I -/
theorem dX9_closeTo_0 : decode cX9_closeTo 0 = .ok (.iload_n 2, 1) := by decide +kernel
theorem dX9_closeTo_1 : decode cX9_closeTo 1 = .ok (.istore 4, 2) := by decide +kernel
theorem dX9_closeTo_3 : decode cX9_closeTo 3 = .ok (.iconst 0, 1) := by decide +kernel
theorem dX9_closeTo_4 : decode cX9_closeTo 4 = .ok (.istore 5, 2) := by decide +kernel
theorem dX9_closeTo_6 : decode cX9_closeTo 6 = .ok (.iload 5, 2) := by decide +kernel
theorem dX9_closeTo_8 : decode cX9_closeTo 8 = .ok (.aload_n 0, 1) := by decide +kernel
theorem dX9_closeTo_9 : decode cX9_closeTo 9 = .ok (.getfield 48, 3) := by decide +kernel
theorem dX9_closeTo_12 : decode cX9_closeTo 12 = .ok (.if_icmp .ge 52, 3) := by decide +kernel
theorem dX9_closeTo_15 : decode cX9_closeTo 15 = .ok (.iload 4, 2) := by decide +kernel
theorem dX9_closeTo_17 : decode cX9_closeTo 17 = .ok (.iload_n 1, 1) := by decide +kernel
theorem dX9_closeTo_18 : decode cX9_closeTo 18 = .ok (.if_icmp .eq 46, 3) := by decide +kernel
theorem dX9_closeTo_21 : decode cX9_closeTo 21 = .ok (.iload 4, 2) := by decide +kernel
theorem dX9_closeTo_23 : decode cX9_closeTo 23 = .ok (.ifCond .lt 41, 3) := by decide +kernel
theorem dX9_closeTo_26 : decode cX9_closeTo 26 = .ok (.aload_n 3, 1) := by decide +kernel
theorem dX9_closeTo_27 : decode cX9_closeTo 27 = .ok (.aload_n 0, 1) := by decide +kernel
theorem dX9_closeTo_28 : decode cX9_closeTo 28 = .ok (.getfield 11, 3) := by decide +kernel
theorem dX9_closeTo_31 : decode cX9_closeTo 31 = .ok (.iload 4, 2) := by decide +kernel
theorem dX9_closeTo_33 : decode cX9_closeTo 33 = .ok (.iaload, 1) := by decide +kernel
theorem dX9_closeTo_34 : decode cX9_closeTo 34 = .ok (.bipush 6, 2) := by decide +kernel
theorem dX9_closeTo_36 : decode cX9_closeTo 36 = .ok (.if_icmp .ne 8, 3) := by decide +kernel
theorem dX9_closeTo_39 : decode cX9_closeTo 39 = .ok (.bipush 125, 2) := by decide +kernel
theorem dX9_closeTo_41 : decode cX9_closeTo 41 = .ok (.goto 5, 3) := by decide +kernel
theorem dX9_closeTo_44 : decode cX9_closeTo 44 = .ok (.bipush 93, 2) := by decide +kernel
theorem dX9_closeTo_46 : decode cX9_closeTo 46 = .ok (.invokevirtual 107, 3) := by decide +kernel
theorem dX9_closeTo_49 : decode cX9_closeTo 49 = .ok (.aload_n 0, 1) := by decide +kernel
theorem dX9_closeTo_50 : decode cX9_closeTo 50 = .ok (.getfield 15, 3) := by decide +kernel
theorem dX9_closeTo_53 : decode cX9_closeTo 53 = .ok (.iload 4, 2) := by decide +kernel
theorem dX9_closeTo_55 : decode cX9_closeTo 55 = .ok (.iaload, 1) := by decide +kernel
theorem dX9_closeTo_56 : decode cX9_closeTo 56 = .ok (.istore 4, 2) := by decide +kernel
theorem dX9_closeTo_58 : decode cX9_closeTo 58 = .ok (.iinc 5 1, 3) := by decide +kernel
theorem dX9_closeTo_61 : decode cX9_closeTo 61 = .ok (.goto (-55), 3) := by decide +kernel
theorem dX9_closeTo_64 : decode cX9_closeTo 64 = .ok (.iload 4, 2) := by decide +kernel
theorem dX9_closeTo_66 : decode cX9_closeTo 66 = .ok (.ireturn, 1) := by decide +kernel
abbrev rmX9_closeTo : Room := { frames := 1, cells := 0, slots := 0, locals := 21 }
set_option maxHeartbeats 4000000 in
set_option maxRecDepth 100000 in
theorem wB_X9_closeTo_6 {G : mG} {F : Nat} {x : mXT} {sz : Nat} {r0 : Int32} {M0 : mM} (X : mCX G RX9 cX9_closeTo 6 (some .int) "closeTo" rmX9_closeTo x) (hQ : mQI x r0 M0 (sz, 0, 0)) : ∀ (n : Nat) (l0 : Nat) (l1 : Int32) (l3 : Nat) (l4 : Int32) (l5 : Int32) (M : mM), B_X9_closeTo_6 G F n l0 l1 l3 l4 l5 M = some (r0, M0) → WW x (sz, 0, 0) M 6 [(0, .ref l0), (1, .int l1), (3, .ref l3), (4, .int l4), (5, .int l5)] [] := by
  intro n
  induction n with
  | zero =>
    intro l0 l1 l3 l4 l5 M h
    exact nomatch (show (none : Option (Int32 × mM)) = some (r0, M0) from h)
  | succ n ih =>
    intro l0 l1 l3 l4 l5 M h
    rw [B_X9_closeTo_6] at h
    refine ww_iload 6 X dX9_closeTo_6 4 rfl ?_
    refine ww_aload_n 8 X dX9_closeTo_8 0 rfl rfl ?_
    obtain ⟨v9, e9, h⟩ := bO_some h
    refine ww_getI 9 X dX9_closeTo_9 fG_X9_48 e9 ?_
    refine ww_icmp_ge 12 64 X dX9_closeTo_12 (by decide) (fun q => ?_) (fun q => ?_)
    · replace h := (if_pos q).symm.trans h
      refine ww_iload 64 X dX9_closeTo_64 3 rfl ?_
      exact ww_iretE 66 X hQ dX9_closeTo_66 h
    · replace h := (if_neg q).symm.trans h
      refine ww_iload 15 X dX9_closeTo_15 3 rfl ?_
      refine ww_iload_n 17 X dX9_closeTo_17 1 rfl rfl ?_
      refine ww_icmp_eq 18 64 X dX9_closeTo_18 (by decide) (fun q => ?_) (fun q => ?_)
      · replace h := (if_pos q).symm.trans h
        refine ww_iload 64 X dX9_closeTo_64 3 rfl ?_
        exact ww_iretE 66 X hQ dX9_closeTo_66 h
      · replace h := (if_neg q).symm.trans h
        refine ww_iload 21 X dX9_closeTo_21 3 rfl ?_
        refine ww_if_lt 23 64 X dX9_closeTo_23 (by decide) (fun q => ?_) (fun q => ?_)
        · replace h := (if_pos q).symm.trans h
          refine ww_iload 64 X dX9_closeTo_64 3 rfl ?_
          exact ww_iretE 66 X hQ dX9_closeTo_66 h
        · replace h := (if_neg q).symm.trans h
          refine ww_aload_n 26 X dX9_closeTo_26 2 rfl rfl ?_
          refine ww_aload_n 27 X dX9_closeTo_27 0 rfl rfl ?_
          obtain ⟨v28, e28, h⟩ := bO_some h
          refine ww_getR 28 X dX9_closeTo_28 fG_X9_11 e28 ?_
          refine ww_iload 31 X dX9_closeTo_31 3 rfl ?_
          obtain ⟨v33, e33, h⟩ := bO_some h
          refine ww_iald 33 X dX9_closeTo_33 e33 ?_
          refine ww_bipush 34 X (v := (6 : Int32)) dX9_closeTo_34 (by decide) ?_
          refine ww_icmp_ne 36 44 X dX9_closeTo_36 (by decide) (fun q => ?_) (fun q => ?_)
          · replace h := (if_neg q).symm.trans h
            refine ww_bipush 44 X (v := (93 : Int32)) dX9_closeTo_44 (by decide) ?_
            obtain ⟨_, f46, h⟩ := bO_some h
            obtain ⟨M46, e46, h⟩ := bO_some h
            refine ww_callVV0 46 X dX9_closeTo_46 mY_X0_put mL_X9_107 (rcv_spec f46) ⟨_, _, rfl⟩ (by decide) (As := [.int (93 : Int32)]) (rest := []) rfl rfl ⟨Nat.le_of_ble_eq_true rfl, Nat.le_of_ble_eq_true rfl⟩ (Nat.le_of_ble_eq_true rfl) (fun l D A => c_X0_put l D A e46) ?_
            refine ww_aload_n 49 X dX9_closeTo_49 0 rfl rfl ?_
            obtain ⟨v50, e50, h⟩ := bO_some h
            refine ww_getR 50 X dX9_closeTo_50 fG_X9_15 e50 ?_
            refine ww_iload 53 X dX9_closeTo_53 3 rfl ?_
            obtain ⟨v55, e55, h⟩ := bO_some h
            refine ww_iald 55 X dX9_closeTo_55 e55 ?_
            refine ww_istore 56 X dX9_closeTo_56 (lv' := [(0, .ref l0), (1, .int l1), (3, .ref l3), (4, .int v55), (5, .int l5)]) (by decide) [1, 2, 3, 0, 4] rfl ?_
            refine ww_iinc 58 X dX9_closeTo_58 (lv' := [(0, .ref l0), (1, .int l1), (3, .ref l3), (4, .int v55), (5, .int (l5 + 1))]) 4 rfl rfl (by decide) [1, 2, 3, 4, 0] rfl ?_
            refine ww_goto 61 6 X dX9_closeTo_61 (by decide) ?_
            exact (ih _ _ _ _ _ _ h)
          · replace h := (if_pos q).symm.trans h
            refine ww_bipush 39 X (v := (125 : Int32)) dX9_closeTo_39 (by decide) ?_
            refine ww_goto 41 46 X dX9_closeTo_41 (by decide) ?_
            obtain ⟨_, f46, h⟩ := bO_some h
            obtain ⟨M46, e46, h⟩ := bO_some h
            refine ww_callVV0 46 X dX9_closeTo_46 mY_X0_put mL_X9_107 (rcv_spec f46) ⟨_, _, rfl⟩ (by decide) (As := [.int (125 : Int32)]) (rest := []) rfl rfl ⟨Nat.le_of_ble_eq_true rfl, Nat.le_of_ble_eq_true rfl⟩ (Nat.le_of_ble_eq_true rfl) (fun l D A => c_X0_put l D A e46) ?_
            refine ww_aload_n 49 X dX9_closeTo_49 0 rfl rfl ?_
            obtain ⟨v50, e50, h⟩ := bO_some h
            refine ww_getR 50 X dX9_closeTo_50 fG_X9_15 e50 ?_
            refine ww_iload 53 X dX9_closeTo_53 3 rfl ?_
            obtain ⟨v55, e55, h⟩ := bO_some h
            refine ww_iald 55 X dX9_closeTo_55 e55 ?_
            refine ww_istore 56 X dX9_closeTo_56 (lv' := [(0, .ref l0), (1, .int l1), (3, .ref l3), (4, .int v55), (5, .int l5)]) (by decide) [1, 2, 3, 0, 4] rfl ?_
            refine ww_iinc 58 X dX9_closeTo_58 (lv' := [(0, .ref l0), (1, .int l1), (3, .ref l3), (4, .int v55), (5, .int (l5 + 1))]) 4 rfl rfl (by decide) [1, 2, 3, 4, 0] rfl ?_
            refine ww_goto 61 6 X dX9_closeTo_61 (by decide) ?_
            exact (ih _ _ _ _ _ _ h)
set_option maxHeartbeats 4000000 in
set_option maxRecDepth 100000 in
theorem wP_X9_closeTo {G : mG} {F : Nat} {x : mXT} {sz : Nat} {r0 : Int32} {M0 : mM} (X : mCX G RX9 cX9_closeTo 6 (some .int) "closeTo" rmX9_closeTo x) (hQ : mQI x r0 M0 (sz, 0, 0)) {l0 : Nat} {l1 : Int32} {l2 : Int32} {l3 : Nat} {M : mM} (h : P_X9_closeTo G F l0 l1 l2 l3 M = some (r0, M0)) : WW x (sz, 0, 0) M 0 [(0, .ref l0), (1, .int l1), (2, .int l2), (3, .ref l3)] [] := by
  unfold P_X9_closeTo at h
  refine ww_iload_n 0 X dX9_closeTo_0 2 rfl rfl ?_
  refine ww_istore 1 X dX9_closeTo_1 (lv' := [(0, .ref l0), (1, .int l1), (2, .int l2), (3, .ref l3), (4, .int l2)]) (by decide) [1, 2, 3, 4, 0] rfl ?_
  refine ww_iconst 3 X (v := (0 : Int32)) dX9_closeTo_3 (by decide) ?_
  refine ww_istore 4 X dX9_closeTo_4 (lv' := [(0, .ref l0), (1, .int l1), (2, .int l2), (3, .ref l3), (4, .int l2), (5, .int (0 : Int32))]) (by decide) [1, 2, 3, 4, 5, 0] rfl ?_
  exact ww_sub [0, 1, 3, 4, 5] rfl (wB_X9_closeTo_6 X hQ F _ _ _ _ _ _ h)
theorem c_X9_closeTo {G : mG} {F sz : Nat} {r0 : Int32} {M0 : mM} (l : Launch) (D : mD) (A : Nat → Prop) {l0 : Nat} {l1 : Int32} {l2 : Int32} {l3 : Nat} {M : mM} (h : P_X9_closeTo G F l0 l1 l2 l3 M = some (r0, M0)) : mMetI l D G A yX9_closeTo cX9_closeTo 6 (some .int) 1 21 0 0 [.ref l0, .int l1, .int l2, .ref l3] M sz r0 M0 sz := mMetI_of l D G A (by decide) (Nat.le_of_ble_eq_true rfl) (fun x X hQ => wP_X9_closeTo X hQ h)
/-! SealedTokens$Text.shortEscape(I)I -/
theorem dX9_shortEscape_0 : decode cX9_shortEscape 0 = .ok (.iload_n 0, 1) := by decide +kernel
theorem dX9_shortEscape_1 : decode cX9_shortEscape 1 = .ok (.lookupswitch 88 #[(8, 73), (9, 85), (10, 79), (12, 76), (13, 82), (34, 67), (92, 70)], 67) := by decide +kernel
theorem dX9_shortEscape_68 : decode cX9_shortEscape 68 = .ok (.bipush 34, 2) := by decide +kernel
theorem dX9_shortEscape_70 : decode cX9_shortEscape 70 = .ok (.ireturn, 1) := by decide +kernel
theorem dX9_shortEscape_71 : decode cX9_shortEscape 71 = .ok (.bipush 92, 2) := by decide +kernel
theorem dX9_shortEscape_73 : decode cX9_shortEscape 73 = .ok (.ireturn, 1) := by decide +kernel
theorem dX9_shortEscape_74 : decode cX9_shortEscape 74 = .ok (.bipush 98, 2) := by decide +kernel
theorem dX9_shortEscape_76 : decode cX9_shortEscape 76 = .ok (.ireturn, 1) := by decide +kernel
theorem dX9_shortEscape_77 : decode cX9_shortEscape 77 = .ok (.bipush 102, 2) := by decide +kernel
theorem dX9_shortEscape_79 : decode cX9_shortEscape 79 = .ok (.ireturn, 1) := by decide +kernel
theorem dX9_shortEscape_80 : decode cX9_shortEscape 80 = .ok (.bipush 110, 2) := by decide +kernel
theorem dX9_shortEscape_82 : decode cX9_shortEscape 82 = .ok (.ireturn, 1) := by decide +kernel
theorem dX9_shortEscape_83 : decode cX9_shortEscape 83 = .ok (.bipush 114, 2) := by decide +kernel
theorem dX9_shortEscape_85 : decode cX9_shortEscape 85 = .ok (.ireturn, 1) := by decide +kernel
theorem dX9_shortEscape_86 : decode cX9_shortEscape 86 = .ok (.bipush 116, 2) := by decide +kernel
theorem dX9_shortEscape_88 : decode cX9_shortEscape 88 = .ok (.ireturn, 1) := by decide +kernel
theorem dX9_shortEscape_89 : decode cX9_shortEscape 89 = .ok (.iconst (-1), 1) := by decide +kernel
theorem dX9_shortEscape_90 : decode cX9_shortEscape 90 = .ok (.ireturn, 1) := by decide +kernel
abbrev rmX9_shortEscape : Room := { frames := 0, cells := 0, slots := 0, locals := 0 }
set_option maxHeartbeats 4000000 in
set_option maxRecDepth 100000 in
theorem wP_X9_shortEscape {G : mG} {F : Nat} {x : mXT} {sz : Nat} {r0 : Int32} {M0 : mM} (X : mCX G RX9 cX9_shortEscape 1 (some .int) "shortEscape" rmX9_shortEscape x) (hQ : mQI x r0 M0 (sz, 0, 0)) {l0 : Int32} {M : mM} (h : P_X9_shortEscape G F l0 M = some (r0, M0)) : WW x (sz, 0, 0) M 0 [(0, .int l0)] [] := by
  unfold P_X9_shortEscape at h
  refine ww_iload_n 0 X dX9_shortEscape_0 0 rfl rfl ?_
  by_cases q8 : l0 = (8 : Int32)
  · replace h := (if_pos q8).symm.trans h
    refine ww_lookup 1 74 X dX9_shortEscape_1 (off := 73) (by decide) (by rw [q8]; decide) (by decide) ?_
    refine ww_bipush 74 X (v := (98 : Int32)) dX9_shortEscape_74 (by decide) ?_
    exact ww_iretE 76 X hQ dX9_shortEscape_76 h
  · replace h := (if_neg q8).symm.trans h
    by_cases q9 : l0 = (9 : Int32)
    · replace h := (if_pos q9).symm.trans h
      refine ww_lookup 1 86 X dX9_shortEscape_1 (off := 85) (by decide) (by rw [q9]; decide) (by decide) ?_
      refine ww_bipush 86 X (v := (116 : Int32)) dX9_shortEscape_86 (by decide) ?_
      exact ww_iretE 88 X hQ dX9_shortEscape_88 h
    · replace h := (if_neg q9).symm.trans h
      by_cases q10 : l0 = (10 : Int32)
      · replace h := (if_pos q10).symm.trans h
        refine ww_lookup 1 80 X dX9_shortEscape_1 (off := 79) (by decide) (by rw [q10]; decide) (by decide) ?_
        refine ww_bipush 80 X (v := (110 : Int32)) dX9_shortEscape_80 (by decide) ?_
        exact ww_iretE 82 X hQ dX9_shortEscape_82 h
      · replace h := (if_neg q10).symm.trans h
        by_cases q12 : l0 = (12 : Int32)
        · replace h := (if_pos q12).symm.trans h
          refine ww_lookup 1 77 X dX9_shortEscape_1 (off := 76) (by decide) (by rw [q12]; decide) (by decide) ?_
          refine ww_bipush 77 X (v := (102 : Int32)) dX9_shortEscape_77 (by decide) ?_
          exact ww_iretE 79 X hQ dX9_shortEscape_79 h
        · replace h := (if_neg q12).symm.trans h
          by_cases q13 : l0 = (13 : Int32)
          · replace h := (if_pos q13).symm.trans h
            refine ww_lookup 1 83 X dX9_shortEscape_1 (off := 82) (by decide) (by rw [q13]; decide) (by decide) ?_
            refine ww_bipush 83 X (v := (114 : Int32)) dX9_shortEscape_83 (by decide) ?_
            exact ww_iretE 85 X hQ dX9_shortEscape_85 h
          · replace h := (if_neg q13).symm.trans h
            by_cases q34 : l0 = (34 : Int32)
            · replace h := (if_pos q34).symm.trans h
              refine ww_lookup 1 68 X dX9_shortEscape_1 (off := 67) (by decide) (by rw [q34]; decide) (by decide) ?_
              refine ww_bipush 68 X (v := (34 : Int32)) dX9_shortEscape_68 (by decide) ?_
              exact ww_iretE 70 X hQ dX9_shortEscape_70 h
            · replace h := (if_neg q34).symm.trans h
              by_cases q92 : l0 = (92 : Int32)
              · replace h := (if_pos q92).symm.trans h
                refine ww_lookup 1 71 X dX9_shortEscape_1 (off := 70) (by decide) (by rw [q92]; decide) (by decide) ?_
                refine ww_bipush 71 X (v := (92 : Int32)) dX9_shortEscape_71 (by decide) ?_
                exact ww_iretE 73 X hQ dX9_shortEscape_73 h
              · replace h := (if_neg q92).symm.trans h
                refine ww_lookup 1 89 X dX9_shortEscape_1 (off := 88) (by decide) (by show Op.lookupswitch.offset [(8, 73), (9, 85), (10, 79), (12, 76), (13, 82), (34, 67), (92, 70)] 88 _ = _; rw [lv_osw q8 (show (8 : Int32).toInt = 8 by decide), lv_osw q9 (show (9 : Int32).toInt = 9 by decide), lv_osw q10 (show (10 : Int32).toInt = 10 by decide), lv_osw q12 (show (12 : Int32).toInt = 12 by decide), lv_osw q13 (show (13 : Int32).toInt = 13 by decide), lv_osw q34 (show (34 : Int32).toInt = 34 by decide), lv_osw q92 (show (92 : Int32).toInt = 92 by decide)]; rfl) (by decide) ?_
                refine ww_iconst 89 X (v := (-1 : Int32)) dX9_shortEscape_89 (by decide) ?_
                exact ww_iretE 90 X hQ dX9_shortEscape_90 h
theorem c_X9_shortEscape {G : mG} {F sz : Nat} {r0 : Int32} {M0 : mM} (l : Launch) (D : mD) (A : Nat → Prop) {l0 : Int32} {M : mM} (h : P_X9_shortEscape G F l0 M = some (r0, M0)) : mMetI l D G A yX9_shortEscape cX9_shortEscape 1 (some .int) 0 0 0 0 [.int l0] M sz r0 M0 sz := mMetI_of l D G A (by decide) (Nat.le_of_ble_eq_true rfl) (fun x X hQ => wP_X9_shortEscape X hQ h)
/-! SealedTokens$Text.putString(LSealedTokens$Bytes;IILSealedTokens$Bytes;)V -/
theorem dX9_putString_0 : decode cX9_putString 0 = .ok (.aload_n 3, 1) := by decide +kernel
theorem dX9_putString_1 : decode cX9_putString 1 = .ok (.bipush 34, 2) := by decide +kernel
theorem dX9_putString_3 : decode cX9_putString 3 = .ok (.invokevirtual 107, 3) := by decide +kernel
theorem dX9_putString_6 : decode cX9_putString 6 = .ok (.iload_n 1, 1) := by decide +kernel
theorem dX9_putString_7 : decode cX9_putString 7 = .ok (.istore 4, 2) := by decide +kernel
theorem dX9_putString_9 : decode cX9_putString 9 = .ok (.iload 4, 2) := by decide +kernel
theorem dX9_putString_11 : decode cX9_putString 11 = .ok (.iload_n 1, 1) := by decide +kernel
theorem dX9_putString_12 : decode cX9_putString 12 = .ok (.iload_n 2, 1) := by decide +kernel
theorem dX9_putString_13 : decode cX9_putString 13 = .ok (.iadd, 1) := by decide +kernel
theorem dX9_putString_14 : decode cX9_putString 14 = .ok (.if_icmp .ge 118, 3) := by decide +kernel
theorem dX9_putString_17 : decode cX9_putString 17 = .ok (.aload_n 0, 1) := by decide +kernel
theorem dX9_putString_18 : decode cX9_putString 18 = .ok (.iload 4, 2) := by decide +kernel
theorem dX9_putString_20 : decode cX9_putString 20 = .ok (.invokevirtual 80, 3) := by decide +kernel
theorem dX9_putString_23 : decode cX9_putString 23 = .ok (.istore 5, 2) := by decide +kernel
theorem dX9_putString_25 : decode cX9_putString 25 = .ok (.iload 5, 2) := by decide +kernel
theorem dX9_putString_27 : decode cX9_putString 27 = .ok (.invokestatic 131, 3) := by decide +kernel
theorem dX9_putString_30 : decode cX9_putString 30 = .ok (.istore 6, 2) := by decide +kernel
theorem dX9_putString_32 : decode cX9_putString 32 = .ok (.iload 6, 2) := by decide +kernel
theorem dX9_putString_34 : decode cX9_putString 34 = .ok (.iconst (-1), 1) := by decide +kernel
theorem dX9_putString_35 : decode cX9_putString 35 = .ok (.if_icmp .eq 18, 3) := by decide +kernel
theorem dX9_putString_38 : decode cX9_putString 38 = .ok (.aload_n 3, 1) := by decide +kernel
theorem dX9_putString_39 : decode cX9_putString 39 = .ok (.bipush 92, 2) := by decide +kernel
theorem dX9_putString_41 : decode cX9_putString 41 = .ok (.invokevirtual 107, 3) := by decide +kernel
theorem dX9_putString_44 : decode cX9_putString 44 = .ok (.aload_n 3, 1) := by decide +kernel
theorem dX9_putString_45 : decode cX9_putString 45 = .ok (.iload 6, 2) := by decide +kernel
theorem dX9_putString_47 : decode cX9_putString 47 = .ok (.invokevirtual 107, 3) := by decide +kernel
theorem dX9_putString_50 : decode cX9_putString 50 = .ok (.goto 76, 3) := by decide +kernel
theorem dX9_putString_53 : decode cX9_putString 53 = .ok (.iload 5, 2) := by decide +kernel
theorem dX9_putString_55 : decode cX9_putString 55 = .ok (.bipush 32, 2) := by decide +kernel
theorem dX9_putString_57 : decode cX9_putString 57 = .ok (.if_icmp .ge 63, 3) := by decide +kernel
theorem dX9_putString_60 : decode cX9_putString 60 = .ok (.aload_n 3, 1) := by decide +kernel
theorem dX9_putString_61 : decode cX9_putString 61 = .ok (.ldc 134, 2) := by decide +kernel
theorem dX9_putString_63 : decode cX9_putString 63 = .ok (.invokevirtual 120, 3) := by decide +kernel
theorem dX9_putString_66 : decode cX9_putString 66 = .ok (.aload_n 3, 1) := by decide +kernel
theorem dX9_putString_67 : decode cX9_putString 67 = .ok (.iload 5, 2) := by decide +kernel
theorem dX9_putString_69 : decode cX9_putString 69 = .ok (.bipush 16, 2) := by decide +kernel
theorem dX9_putString_71 : decode cX9_putString 71 = .ok (.if_icmp .ge 8, 3) := by decide +kernel
theorem dX9_putString_74 : decode cX9_putString 74 = .ok (.bipush 48, 2) := by decide +kernel
theorem dX9_putString_76 : decode cX9_putString 76 = .ok (.goto 5, 3) := by decide +kernel
theorem dX9_putString_79 : decode cX9_putString 79 = .ok (.bipush 49, 2) := by decide +kernel
theorem dX9_putString_81 : decode cX9_putString 81 = .ok (.invokevirtual 107, 3) := by decide +kernel
theorem dX9_putString_84 : decode cX9_putString 84 = .ok (.aload_n 3, 1) := by decide +kernel
theorem dX9_putString_85 : decode cX9_putString 85 = .ok (.iload 5, 2) := by decide +kernel
theorem dX9_putString_87 : decode cX9_putString 87 = .ok (.bipush 15, 2) := by decide +kernel
theorem dX9_putString_89 : decode cX9_putString 89 = .ok (.iand, 1) := by decide +kernel
theorem dX9_putString_90 : decode cX9_putString 90 = .ok (.bipush 10, 2) := by decide +kernel
theorem dX9_putString_92 : decode cX9_putString 92 = .ok (.if_icmp .ge 14, 3) := by decide +kernel
theorem dX9_putString_95 : decode cX9_putString 95 = .ok (.bipush 48, 2) := by decide +kernel
theorem dX9_putString_97 : decode cX9_putString 97 = .ok (.iload 5, 2) := by decide +kernel
theorem dX9_putString_99 : decode cX9_putString 99 = .ok (.bipush 15, 2) := by decide +kernel
theorem dX9_putString_101 : decode cX9_putString 101 = .ok (.iand, 1) := by decide +kernel
theorem dX9_putString_102 : decode cX9_putString 102 = .ok (.iadd, 1) := by decide +kernel
theorem dX9_putString_103 : decode cX9_putString 103 = .ok (.goto 11, 3) := by decide +kernel
theorem dX9_putString_106 : decode cX9_putString 106 = .ok (.bipush 87, 2) := by decide +kernel
theorem dX9_putString_108 : decode cX9_putString 108 = .ok (.iload 5, 2) := by decide +kernel
theorem dX9_putString_110 : decode cX9_putString 110 = .ok (.bipush 15, 2) := by decide +kernel
theorem dX9_putString_112 : decode cX9_putString 112 = .ok (.iand, 1) := by decide +kernel
theorem dX9_putString_113 : decode cX9_putString 113 = .ok (.iadd, 1) := by decide +kernel
theorem dX9_putString_114 : decode cX9_putString 114 = .ok (.invokevirtual 107, 3) := by decide +kernel
theorem dX9_putString_117 : decode cX9_putString 117 = .ok (.goto 9, 3) := by decide +kernel
theorem dX9_putString_120 : decode cX9_putString 120 = .ok (.aload_n 3, 1) := by decide +kernel
theorem dX9_putString_121 : decode cX9_putString 121 = .ok (.iload 5, 2) := by decide +kernel
theorem dX9_putString_123 : decode cX9_putString 123 = .ok (.invokevirtual 107, 3) := by decide +kernel
theorem dX9_putString_126 : decode cX9_putString 126 = .ok (.iinc 4 1, 3) := by decide +kernel
theorem dX9_putString_129 : decode cX9_putString 129 = .ok (.goto (-120), 3) := by decide +kernel
theorem dX9_putString_132 : decode cX9_putString 132 = .ok (.aload_n 3, 1) := by decide +kernel
theorem dX9_putString_133 : decode cX9_putString 133 = .ok (.bipush 34, 2) := by decide +kernel
theorem dX9_putString_135 : decode cX9_putString 135 = .ok (.invokevirtual 107, 3) := by decide +kernel
theorem dX9_putString_138 : decode cX9_putString 138 = .ok (.return_, 1) := by decide +kernel
abbrev rmX9_putString : Room := { frames := 5, cells := 0, slots := 0, locals := 107 }
set_option maxHeartbeats 4000000 in
set_option maxRecDepth 100000 in
theorem wB_X9_putString_81 {G : mG} {F : Nat} {x : mXT} {sz : Nat} {M0 : mM} (X : mCX G RX9 cX9_putString 7 none "putString" rmX9_putString x) (hQ : mQV x M0 (sz, 0, 0)) (r9 : Nat → Int32 → Int32 → Nat → Int32 → mM → Option mM) (hr9 : ∀ (l0 : Nat) (l1 : Int32) (l2 : Int32) (l3 : Nat) (l4 : Int32) (M : mM), r9 l0 l1 l2 l3 l4 M = some M0 → WW x (sz, 0, 0) M 9 [(0, .ref l0), (1, .int l1), (2, .int l2), (3, .ref l3), (4, .int l4)] []) {l0 : Nat} {l1 : Int32} {l2 : Int32} {l3 : Nat} {l4 : Int32} {l5 : Int32} {sk0 : Nat} {sk1 : Int32} {M : mM} (h : B_X9_putString_81 G F r9 l0 l1 l2 l3 l4 l5 sk0 sk1 M = some M0) : WW x (sz, 0, 0) M 81 [(0, .ref l0), (1, .int l1), (2, .int l2), (3, .ref l3), (4, .int l4), (5, .int l5)] [.int sk1, .ref sk0] := by
  unfold B_X9_putString_81 at h
  obtain ⟨_, f81, h⟩ := bO_some h
  obtain ⟨M81, e81, h⟩ := bO_some h
  refine ww_callVV0 81 X dX9_putString_81 mY_X0_put mL_X9_107 (rcv_spec f81) ⟨_, _, rfl⟩ (by decide) (As := [.int sk1]) (rest := []) rfl rfl ⟨Nat.le_of_ble_eq_true rfl, Nat.le_of_ble_eq_true rfl⟩ (Nat.le_of_ble_eq_true rfl) (fun l D A => c_X0_put l D A e81) ?_
  refine ww_aload_n 84 X dX9_putString_84 3 rfl rfl ?_
  refine ww_iload 85 X dX9_putString_85 5 rfl ?_
  refine ww_bipush 87 X (v := (15 : Int32)) dX9_putString_87 (by decide) ?_
  refine ww_iand 89 X dX9_putString_89 ?_
  refine ww_bipush 90 X (v := (10 : Int32)) dX9_putString_90 (by decide) ?_
  refine ww_icmp_ge 92 106 X dX9_putString_92 (by decide) (fun q => ?_) (fun q => ?_)
  · replace h := (if_pos q).symm.trans h
    refine ww_bipush 106 X (v := (87 : Int32)) dX9_putString_106 (by decide) ?_
    refine ww_iload 108 X dX9_putString_108 5 rfl ?_
    refine ww_bipush 110 X (v := (15 : Int32)) dX9_putString_110 (by decide) ?_
    refine ww_iand 112 X dX9_putString_112 ?_
    refine ww_iadd 113 X dX9_putString_113 ?_
    obtain ⟨_, f114, h⟩ := bO_some h
    obtain ⟨M114, e114, h⟩ := bO_some h
    refine ww_callVV0 114 X dX9_putString_114 mY_X0_put mL_X9_107 (rcv_spec f114) ⟨_, _, rfl⟩ (by decide) (As := [.int ((87 : Int32) + (l5 &&& (15 : Int32)))]) (rest := []) rfl rfl ⟨Nat.le_of_ble_eq_true rfl, Nat.le_of_ble_eq_true rfl⟩ (Nat.le_of_ble_eq_true rfl) (fun l D A => c_X0_put l D A e114) ?_
    refine ww_goto 117 126 X dX9_putString_117 (by decide) ?_
    refine ww_iinc 126 X dX9_putString_126 (lv' := [(0, .ref l0), (1, .int l1), (2, .int l2), (3, .ref l3), (4, .int (l4 + 1)), (5, .int l5)]) 4 rfl rfl (by decide) [1, 2, 3, 4, 0, 5] rfl ?_
    refine ww_goto 129 9 X dX9_putString_129 (by decide) ?_
    exact ww_sub [0, 1, 2, 3, 4] rfl (hr9 _ _ _ _ _ _ h)
  · replace h := (if_neg q).symm.trans h
    refine ww_bipush 95 X (v := (48 : Int32)) dX9_putString_95 (by decide) ?_
    refine ww_iload 97 X dX9_putString_97 5 rfl ?_
    refine ww_bipush 99 X (v := (15 : Int32)) dX9_putString_99 (by decide) ?_
    refine ww_iand 101 X dX9_putString_101 ?_
    refine ww_iadd 102 X dX9_putString_102 ?_
    refine ww_goto 103 114 X dX9_putString_103 (by decide) ?_
    obtain ⟨_, f114, h⟩ := bO_some h
    obtain ⟨M114, e114, h⟩ := bO_some h
    refine ww_callVV0 114 X dX9_putString_114 mY_X0_put mL_X9_107 (rcv_spec f114) ⟨_, _, rfl⟩ (by decide) (As := [.int ((48 : Int32) + (l5 &&& (15 : Int32)))]) (rest := []) rfl rfl ⟨Nat.le_of_ble_eq_true rfl, Nat.le_of_ble_eq_true rfl⟩ (Nat.le_of_ble_eq_true rfl) (fun l D A => c_X0_put l D A e114) ?_
    refine ww_goto 117 126 X dX9_putString_117 (by decide) ?_
    refine ww_iinc 126 X dX9_putString_126 (lv' := [(0, .ref l0), (1, .int l1), (2, .int l2), (3, .ref l3), (4, .int (l4 + 1)), (5, .int l5)]) 4 rfl rfl (by decide) [1, 2, 3, 4, 0, 5] rfl ?_
    refine ww_goto 129 9 X dX9_putString_129 (by decide) ?_
    exact ww_sub [0, 1, 2, 3, 4] rfl (hr9 _ _ _ _ _ _ h)
set_option maxHeartbeats 4000000 in
set_option maxRecDepth 100000 in
theorem wB_X9_putString_9 {G : mG} {F : Nat} {x : mXT} {sz : Nat} {M0 : mM} (X : mCX G RX9 cX9_putString 7 none "putString" rmX9_putString x) (hQ : mQV x M0 (sz, 0, 0)) : ∀ (n : Nat) (l0 : Nat) (l1 : Int32) (l2 : Int32) (l3 : Nat) (l4 : Int32) (M : mM), B_X9_putString_9 G F n l0 l1 l2 l3 l4 M = some M0 → WW x (sz, 0, 0) M 9 [(0, .ref l0), (1, .int l1), (2, .int l2), (3, .ref l3), (4, .int l4)] [] := by
  intro n
  induction n with
  | zero =>
    intro l0 l1 l2 l3 l4 M h
    exact nomatch (show (none : Option mM) = some M0 from h)
  | succ n ih =>
    intro l0 l1 l2 l3 l4 M h
    rw [B_X9_putString_9] at h
    refine ww_iload 9 X dX9_putString_9 4 rfl ?_
    refine ww_iload_n 11 X dX9_putString_11 1 rfl rfl ?_
    refine ww_iload_n 12 X dX9_putString_12 2 rfl rfl ?_
    refine ww_iadd 13 X dX9_putString_13 ?_
    refine ww_icmp_ge 14 132 X dX9_putString_14 (by decide) (fun q => ?_) (fun q => ?_)
    · replace h := (if_pos q).symm.trans h
      refine ww_aload_n 132 X dX9_putString_132 3 rfl rfl ?_
      refine ww_bipush 133 X (v := (34 : Int32)) dX9_putString_133 (by decide) ?_
      obtain ⟨_, f135, h⟩ := bO_some h
      obtain ⟨M135, e135, h⟩ := bO_some h
      refine ww_callVV0 135 X dX9_putString_135 mY_X0_put mL_X9_107 (rcv_spec f135) ⟨_, _, rfl⟩ (by decide) (As := [.int (34 : Int32)]) (rest := []) rfl rfl ⟨Nat.le_of_ble_eq_true rfl, Nat.le_of_ble_eq_true rfl⟩ (Nat.le_of_ble_eq_true rfl) (fun l D A => c_X0_put l D A e135) ?_
      exact ww_vretE 138 X hQ dX9_putString_138 h
    · replace h := (if_neg q).symm.trans h
      refine ww_aload_n 17 X dX9_putString_17 0 rfl rfl ?_
      refine ww_iload 18 X dX9_putString_18 4 rfl ?_
      obtain ⟨_, f20, h⟩ := bO_some h
      obtain ⟨v20, M20, e20, h⟩ := bP_some h
      refine ww_callVI0 20 X dX9_putString_20 mY_X0_get mL_X9_80 (rcv_spec f20) ⟨_, _, rfl⟩ (by decide) (As := [.int l4]) (rest := []) rfl rfl ⟨Nat.le_of_ble_eq_true rfl, Nat.le_of_ble_eq_true rfl⟩ (Nat.le_of_ble_eq_true rfl) (fun l D A => c_X0_get l D A e20) ?_
      refine ww_istore 23 X dX9_putString_23 (lv' := [(0, .ref l0), (1, .int l1), (2, .int l2), (3, .ref l3), (4, .int l4), (5, .int v20)]) (by decide) [1, 2, 3, 4, 5, 0] rfl ?_
      refine ww_iload 25 X dX9_putString_25 5 rfl ?_
      obtain ⟨v27, M27, e27, h⟩ := bP_some h
      refine ww_callSI0 27 X dX9_putString_27 mY_X9_shortEscape mL_X9_131 (As := [.int v20]) (rest := []) rfl rfl ⟨Nat.le_of_ble_eq_true rfl, Nat.le_of_ble_eq_true rfl⟩ (Nat.le_of_ble_eq_true rfl) (fun l D A => c_X9_shortEscape l D A e27) ?_
      refine ww_istore 30 X dX9_putString_30 (lv' := [(0, .ref l0), (1, .int l1), (2, .int l2), (3, .ref l3), (4, .int l4), (5, .int v20), (6, .int v27)]) (by decide) [1, 2, 3, 4, 5, 6, 0] rfl ?_
      refine ww_iload 32 X dX9_putString_32 6 rfl ?_
      refine ww_iconst 34 X (v := (-1 : Int32)) dX9_putString_34 (by decide) ?_
      refine ww_icmp_eq 35 53 X dX9_putString_35 (by decide) (fun q => ?_) (fun q => ?_)
      · replace h := (if_pos q).symm.trans h
        refine ww_iload 53 X dX9_putString_53 5 rfl ?_
        refine ww_bipush 55 X (v := (32 : Int32)) dX9_putString_55 (by decide) ?_
        refine ww_icmp_ge 57 120 X dX9_putString_57 (by decide) (fun q => ?_) (fun q => ?_)
        · replace h := (if_pos q).symm.trans h
          refine ww_aload_n 120 X dX9_putString_120 3 rfl rfl ?_
          refine ww_iload 121 X dX9_putString_121 5 rfl ?_
          obtain ⟨_, f123, h⟩ := bO_some h
          obtain ⟨M123, e123, h⟩ := bO_some h
          refine ww_callVV0 123 X dX9_putString_123 mY_X0_put mL_X9_107 (rcv_spec f123) ⟨_, _, rfl⟩ (by decide) (As := [.int v20]) (rest := []) rfl rfl ⟨Nat.le_of_ble_eq_true rfl, Nat.le_of_ble_eq_true rfl⟩ (Nat.le_of_ble_eq_true rfl) (fun l D A => c_X0_put l D A e123) ?_
          refine ww_iinc 126 X dX9_putString_126 (lv' := [(0, .ref l0), (1, .int l1), (2, .int l2), (3, .ref l3), (4, .int (l4 + 1)), (5, .int v20), (6, .int v27)]) 4 rfl rfl (by decide) [1, 2, 3, 4, 0, 5, 6] rfl ?_
          refine ww_goto 129 9 X dX9_putString_129 (by decide) ?_
          exact ww_sub [0, 1, 2, 3, 4] rfl (ih _ _ _ _ _ _ h)
        · replace h := (if_neg q).symm.trans h
          refine ww_aload_n 60 X dX9_putString_60 3 rfl rfl ?_
          refine ww_lds 61 X (j := 11) dX9_putString_61 rfl ?_
          obtain ⟨_, f63, h⟩ := bO_some h
          obtain ⟨M63, e63, h⟩ := bO_some h
          refine ww_callVV0 63 X dX9_putString_63 mY_X0_putText mL_X9_120 (rcv_spec f63) ⟨_, _, rfl⟩ (by decide) (As := [.ref (G.1 11)]) (rest := []) rfl rfl ⟨Nat.le_of_ble_eq_true rfl, Nat.le_of_ble_eq_true rfl⟩ (Nat.le_of_ble_eq_true rfl) (fun l D A => c_X0_putText l D A e63) ?_
          refine ww_aload_n 66 X dX9_putString_66 3 rfl rfl ?_
          refine ww_iload 67 X dX9_putString_67 5 rfl ?_
          refine ww_bipush 69 X (v := (16 : Int32)) dX9_putString_69 (by decide) ?_
          refine ww_icmp_ge 71 79 X dX9_putString_71 (by decide) (fun q => ?_) (fun q => ?_)
          · replace h := (if_pos q).symm.trans h
            refine ww_bipush 79 X (v := (49 : Int32)) dX9_putString_79 (by decide) ?_
            exact ww_sub [0, 1, 2, 3, 4, 5] rfl (wB_X9_putString_81 X hQ _ ih h)
          · replace h := (if_neg q).symm.trans h
            refine ww_bipush 74 X (v := (48 : Int32)) dX9_putString_74 (by decide) ?_
            refine ww_goto 76 81 X dX9_putString_76 (by decide) ?_
            exact ww_sub [0, 1, 2, 3, 4, 5] rfl (wB_X9_putString_81 X hQ _ ih h)
      · replace h := (if_neg q).symm.trans h
        refine ww_aload_n 38 X dX9_putString_38 3 rfl rfl ?_
        refine ww_bipush 39 X (v := (92 : Int32)) dX9_putString_39 (by decide) ?_
        obtain ⟨_, f41, h⟩ := bO_some h
        obtain ⟨M41, e41, h⟩ := bO_some h
        refine ww_callVV0 41 X dX9_putString_41 mY_X0_put mL_X9_107 (rcv_spec f41) ⟨_, _, rfl⟩ (by decide) (As := [.int (92 : Int32)]) (rest := []) rfl rfl ⟨Nat.le_of_ble_eq_true rfl, Nat.le_of_ble_eq_true rfl⟩ (Nat.le_of_ble_eq_true rfl) (fun l D A => c_X0_put l D A e41) ?_
        refine ww_aload_n 44 X dX9_putString_44 3 rfl rfl ?_
        refine ww_iload 45 X dX9_putString_45 6 rfl ?_
        obtain ⟨_, f47, h⟩ := bO_some h
        obtain ⟨M47, e47, h⟩ := bO_some h
        refine ww_callVV0 47 X dX9_putString_47 mY_X0_put mL_X9_107 (rcv_spec f47) ⟨_, _, rfl⟩ (by decide) (As := [.int v27]) (rest := []) rfl rfl ⟨Nat.le_of_ble_eq_true rfl, Nat.le_of_ble_eq_true rfl⟩ (Nat.le_of_ble_eq_true rfl) (fun l D A => c_X0_put l D A e47) ?_
        refine ww_goto 50 126 X dX9_putString_50 (by decide) ?_
        refine ww_iinc 126 X dX9_putString_126 (lv' := [(0, .ref l0), (1, .int l1), (2, .int l2), (3, .ref l3), (4, .int (l4 + 1)), (5, .int v20), (6, .int v27)]) 4 rfl rfl (by decide) [1, 2, 3, 4, 0, 5, 6] rfl ?_
        refine ww_goto 129 9 X dX9_putString_129 (by decide) ?_
        exact ww_sub [0, 1, 2, 3, 4] rfl (ih _ _ _ _ _ _ h)
set_option maxHeartbeats 4000000 in
set_option maxRecDepth 100000 in
theorem wP_X9_putString {G : mG} {F : Nat} {x : mXT} {sz : Nat} {M0 : mM} (X : mCX G RX9 cX9_putString 7 none "putString" rmX9_putString x) (hQ : mQV x M0 (sz, 0, 0)) {l0 : Nat} {l1 : Int32} {l2 : Int32} {l3 : Nat} {M : mM} (h : P_X9_putString G F l0 l1 l2 l3 M = some M0) : WW x (sz, 0, 0) M 0 [(0, .ref l0), (1, .int l1), (2, .int l2), (3, .ref l3)] [] := by
  unfold P_X9_putString at h
  refine ww_aload_n 0 X dX9_putString_0 3 rfl rfl ?_
  refine ww_bipush 1 X (v := (34 : Int32)) dX9_putString_1 (by decide) ?_
  obtain ⟨_, f3, h⟩ := bO_some h
  obtain ⟨M3, e3, h⟩ := bO_some h
  refine ww_callVV0 3 X dX9_putString_3 mY_X0_put mL_X9_107 (rcv_spec f3) ⟨_, _, rfl⟩ (by decide) (As := [.int (34 : Int32)]) (rest := []) rfl rfl ⟨Nat.le_of_ble_eq_true rfl, Nat.le_of_ble_eq_true rfl⟩ (Nat.le_of_ble_eq_true rfl) (fun l D A => c_X0_put l D A e3) ?_
  refine ww_iload_n 6 X dX9_putString_6 1 rfl rfl ?_
  refine ww_istore 7 X dX9_putString_7 (lv' := [(0, .ref l0), (1, .int l1), (2, .int l2), (3, .ref l3), (4, .int l1)]) (by decide) [1, 2, 3, 4, 0] rfl ?_
  exact (wB_X9_putString_9 X hQ F _ _ _ _ _ _ h)
theorem c_X9_putString {G : mG} {F sz : Nat} {M0 : mM} (l : Launch) (D : mD) (A : Nat → Prop) {l0 : Nat} {l1 : Int32} {l2 : Int32} {l3 : Nat} {M : mM} (h : P_X9_putString G F l0 l1 l2 l3 M = some M0) : mMetV l D G A yX9_putString cX9_putString 7 none 5 107 0 0 [.ref l0, .int l1, .int l2, .ref l3] M sz M0 sz := mMetV_of l D G A (by decide) (Nat.le_of_ble_eq_true rfl) (fun x X hQ => wP_X9_putString X hQ h)
/-! SealedTokens$Text.putStart(ILSealedTokens$Bytes;)V -/
theorem dX9_putStart_0 : decode cX9_putStart 0 = .ok (.aload_n 0, 1) := by decide +kernel
theorem dX9_putStart_1 : decode cX9_putStart 1 = .ok (.getfield 11, 3) := by decide +kernel
theorem dX9_putStart_4 : decode cX9_putStart 4 = .ok (.iload_n 1, 1) := by decide +kernel
theorem dX9_putStart_5 : decode cX9_putStart 5 = .ok (.iaload, 1) := by decide +kernel
theorem dX9_putStart_6 : decode cX9_putStart 6 = .ok (.tableswitch 120 0 5 #[38, 47, 56, 65, 88, 111], 38) := by decide +kernel
theorem dX9_putStart_44 : decode cX9_putStart 44 = .ok (.aload_n 2, 1) := by decide +kernel
theorem dX9_putStart_45 : decode cX9_putStart 45 = .ok (.ldc 118, 2) := by decide +kernel
theorem dX9_putStart_47 : decode cX9_putStart 47 = .ok (.invokevirtual 120, 3) := by decide +kernel
theorem dX9_putStart_50 : decode cX9_putStart 50 = .ok (.goto 82, 3) := by decide +kernel
theorem dX9_putStart_53 : decode cX9_putStart 53 = .ok (.aload_n 2, 1) := by decide +kernel
theorem dX9_putStart_54 : decode cX9_putStart 54 = .ok (.ldc 124, 2) := by decide +kernel
theorem dX9_putStart_56 : decode cX9_putStart 56 = .ok (.invokevirtual 120, 3) := by decide +kernel
theorem dX9_putStart_59 : decode cX9_putStart 59 = .ok (.goto 73, 3) := by decide +kernel
theorem dX9_putStart_62 : decode cX9_putStart 62 = .ok (.aload_n 2, 1) := by decide +kernel
theorem dX9_putStart_63 : decode cX9_putStart 63 = .ok (.ldc 126, 2) := by decide +kernel
theorem dX9_putStart_65 : decode cX9_putStart 65 = .ok (.invokevirtual 120, 3) := by decide +kernel
theorem dX9_putStart_68 : decode cX9_putStart 68 = .ok (.goto 64, 3) := by decide +kernel
theorem dX9_putStart_71 : decode cX9_putStart 71 = .ok (.aload_n 2, 1) := by decide +kernel
theorem dX9_putStart_72 : decode cX9_putStart 72 = .ok (.aload_n 0, 1) := by decide +kernel
theorem dX9_putStart_73 : decode cX9_putStart 73 = .ok (.getfield 44, 3) := by decide +kernel
theorem dX9_putStart_76 : decode cX9_putStart 76 = .ok (.aload_n 0, 1) := by decide +kernel
theorem dX9_putStart_77 : decode cX9_putStart 77 = .ok (.getfield 27, 3) := by decide +kernel
theorem dX9_putStart_80 : decode cX9_putStart 80 = .ok (.iload_n 1, 1) := by decide +kernel
theorem dX9_putStart_81 : decode cX9_putStart 81 = .ok (.iaload, 1) := by decide +kernel
theorem dX9_putStart_82 : decode cX9_putStart 82 = .ok (.aload_n 0, 1) := by decide +kernel
theorem dX9_putStart_83 : decode cX9_putStart 83 = .ok (.getfield 30, 3) := by decide +kernel
theorem dX9_putStart_86 : decode cX9_putStart 86 = .ok (.iload_n 1, 1) := by decide +kernel
theorem dX9_putStart_87 : decode cX9_putStart 87 = .ok (.iaload, 1) := by decide +kernel
theorem dX9_putStart_88 : decode cX9_putStart 88 = .ok (.invokevirtual 128, 3) := by decide +kernel
theorem dX9_putStart_91 : decode cX9_putStart 91 = .ok (.goto 41, 3) := by decide +kernel
theorem dX9_putStart_94 : decode cX9_putStart 94 = .ok (.aload_n 0, 1) := by decide +kernel
theorem dX9_putStart_95 : decode cX9_putStart 95 = .ok (.getfield 44, 3) := by decide +kernel
theorem dX9_putStart_98 : decode cX9_putStart 98 = .ok (.aload_n 0, 1) := by decide +kernel
theorem dX9_putStart_99 : decode cX9_putStart 99 = .ok (.getfield 27, 3) := by decide +kernel
theorem dX9_putStart_102 : decode cX9_putStart 102 = .ok (.iload_n 1, 1) := by decide +kernel
theorem dX9_putStart_103 : decode cX9_putStart 103 = .ok (.iaload, 1) := by decide +kernel
theorem dX9_putStart_104 : decode cX9_putStart 104 = .ok (.aload_n 0, 1) := by decide +kernel
theorem dX9_putStart_105 : decode cX9_putStart 105 = .ok (.getfield 30, 3) := by decide +kernel
theorem dX9_putStart_108 : decode cX9_putStart 108 = .ok (.iload_n 1, 1) := by decide +kernel
theorem dX9_putStart_109 : decode cX9_putStart 109 = .ok (.iaload, 1) := by decide +kernel
theorem dX9_putStart_110 : decode cX9_putStart 110 = .ok (.aload_n 2, 1) := by decide +kernel
theorem dX9_putStart_111 : decode cX9_putStart 111 = .ok (.invokestatic 110, 3) := by decide +kernel
theorem dX9_putStart_114 : decode cX9_putStart 114 = .ok (.goto 18, 3) := by decide +kernel
theorem dX9_putStart_117 : decode cX9_putStart 117 = .ok (.aload_n 2, 1) := by decide +kernel
theorem dX9_putStart_118 : decode cX9_putStart 118 = .ok (.bipush 91, 2) := by decide +kernel
theorem dX9_putStart_120 : decode cX9_putStart 120 = .ok (.invokevirtual 107, 3) := by decide +kernel
theorem dX9_putStart_123 : decode cX9_putStart 123 = .ok (.goto 9, 3) := by decide +kernel
theorem dX9_putStart_126 : decode cX9_putStart 126 = .ok (.aload_n 2, 1) := by decide +kernel
theorem dX9_putStart_127 : decode cX9_putStart 127 = .ok (.bipush 123, 2) := by decide +kernel
theorem dX9_putStart_129 : decode cX9_putStart 129 = .ok (.invokevirtual 107, 3) := by decide +kernel
theorem dX9_putStart_132 : decode cX9_putStart 132 = .ok (.return_, 1) := by decide +kernel
abbrev rmX9_putStart : Room := { frames := 6, cells := 0, slots := 0, locals := 133 }
set_option maxHeartbeats 4000000 in
set_option maxRecDepth 100000 in
theorem wP_X9_putStart {G : mG} {F : Nat} {x : mXT} {sz : Nat} {M0 : mM} (X : mCX G RX9 cX9_putStart 3 none "putStart" rmX9_putStart x) (hQ : mQV x M0 (sz, 0, 0)) {l0 : Nat} {l1 : Int32} {l2 : Nat} {M : mM} (h : P_X9_putStart G F l0 l1 l2 M = some M0) : WW x (sz, 0, 0) M 0 [(0, .ref l0), (1, .int l1), (2, .ref l2)] [] := by
  unfold P_X9_putStart at h
  refine ww_aload_n 0 X dX9_putStart_0 0 rfl rfl ?_
  obtain ⟨v1, e1, h⟩ := bO_some h
  refine ww_getR 1 X dX9_putStart_1 fG_X9_11 e1 ?_
  refine ww_iload_n 4 X dX9_putStart_4 1 rfl rfl ?_
  obtain ⟨v5, e5, h⟩ := bO_some h
  refine ww_iald 5 X dX9_putStart_5 e5 ?_
  by_cases q0 : v5 = (0 : Int32)
  · replace h := (if_pos q0).symm.trans h
    refine ww_tableIn 6 44 X dX9_putStart_6 (off := 38) (by rw [q0]; decide) (by rw [q0]; decide) (by rw [q0]; decide) (by decide) ?_
    refine ww_aload_n 44 X dX9_putStart_44 2 rfl rfl ?_
    refine ww_lds 45 X (j := 12) dX9_putStart_45 rfl ?_
    obtain ⟨_, f47, h⟩ := bO_some h
    obtain ⟨M47, e47, h⟩ := bO_some h
    refine ww_callVV0 47 X dX9_putStart_47 mY_X0_putText mL_X9_120 (rcv_spec f47) ⟨_, _, rfl⟩ (by decide) (As := [.ref (G.1 12)]) (rest := []) rfl rfl ⟨Nat.le_of_ble_eq_true rfl, Nat.le_of_ble_eq_true rfl⟩ (Nat.le_of_ble_eq_true rfl) (fun l D A => c_X0_putText l D A e47) ?_
    refine ww_goto 50 132 X dX9_putStart_50 (by decide) ?_
    exact ww_vretE 132 X hQ dX9_putStart_132 h
  · replace h := (if_neg q0).symm.trans h
    by_cases q1 : v5 = (1 : Int32)
    · replace h := (if_pos q1).symm.trans h
      refine ww_tableIn 6 53 X dX9_putStart_6 (off := 47) (by rw [q1]; decide) (by rw [q1]; decide) (by rw [q1]; decide) (by decide) ?_
      refine ww_aload_n 53 X dX9_putStart_53 2 rfl rfl ?_
      refine ww_lds 54 X (j := 13) dX9_putStart_54 rfl ?_
      obtain ⟨_, f56, h⟩ := bO_some h
      obtain ⟨M56, e56, h⟩ := bO_some h
      refine ww_callVV0 56 X dX9_putStart_56 mY_X0_putText mL_X9_120 (rcv_spec f56) ⟨_, _, rfl⟩ (by decide) (As := [.ref (G.1 13)]) (rest := []) rfl rfl ⟨Nat.le_of_ble_eq_true rfl, Nat.le_of_ble_eq_true rfl⟩ (Nat.le_of_ble_eq_true rfl) (fun l D A => c_X0_putText l D A e56) ?_
      refine ww_goto 59 132 X dX9_putStart_59 (by decide) ?_
      exact ww_vretE 132 X hQ dX9_putStart_132 h
    · replace h := (if_neg q1).symm.trans h
      by_cases q2 : v5 = (2 : Int32)
      · replace h := (if_pos q2).symm.trans h
        refine ww_tableIn 6 62 X dX9_putStart_6 (off := 56) (by rw [q2]; decide) (by rw [q2]; decide) (by rw [q2]; decide) (by decide) ?_
        refine ww_aload_n 62 X dX9_putStart_62 2 rfl rfl ?_
        refine ww_lds 63 X (j := 14) dX9_putStart_63 rfl ?_
        obtain ⟨_, f65, h⟩ := bO_some h
        obtain ⟨M65, e65, h⟩ := bO_some h
        refine ww_callVV0 65 X dX9_putStart_65 mY_X0_putText mL_X9_120 (rcv_spec f65) ⟨_, _, rfl⟩ (by decide) (As := [.ref (G.1 14)]) (rest := []) rfl rfl ⟨Nat.le_of_ble_eq_true rfl, Nat.le_of_ble_eq_true rfl⟩ (Nat.le_of_ble_eq_true rfl) (fun l D A => c_X0_putText l D A e65) ?_
        refine ww_goto 68 132 X dX9_putStart_68 (by decide) ?_
        exact ww_vretE 132 X hQ dX9_putStart_132 h
      · replace h := (if_neg q2).symm.trans h
        by_cases q3 : v5 = (3 : Int32)
        · replace h := (if_pos q3).symm.trans h
          refine ww_tableIn 6 71 X dX9_putStart_6 (off := 65) (by rw [q3]; decide) (by rw [q3]; decide) (by rw [q3]; decide) (by decide) ?_
          refine ww_aload_n 71 X dX9_putStart_71 2 rfl rfl ?_
          refine ww_aload_n 72 X dX9_putStart_72 0 rfl rfl ?_
          obtain ⟨v73, e73, h⟩ := bO_some h
          refine ww_getR 73 X dX9_putStart_73 fG_X9_44 e73 ?_
          refine ww_aload_n 76 X dX9_putStart_76 0 rfl rfl ?_
          obtain ⟨v77, e77, h⟩ := bO_some h
          refine ww_getR 77 X dX9_putStart_77 fG_X9_27 e77 ?_
          refine ww_iload_n 80 X dX9_putStart_80 1 rfl rfl ?_
          obtain ⟨v81, e81, h⟩ := bO_some h
          refine ww_iald 81 X dX9_putStart_81 e81 ?_
          refine ww_aload_n 82 X dX9_putStart_82 0 rfl rfl ?_
          obtain ⟨v83, e83, h⟩ := bO_some h
          refine ww_getR 83 X dX9_putStart_83 fG_X9_30 e83 ?_
          refine ww_iload_n 86 X dX9_putStart_86 1 rfl rfl ?_
          obtain ⟨v87, e87, h⟩ := bO_some h
          refine ww_iald 87 X dX9_putStart_87 e87 ?_
          obtain ⟨_, f88, h⟩ := bO_some h
          obtain ⟨M88, e88, h⟩ := bO_some h
          refine ww_callVV0 88 X dX9_putStart_88 mY_X0_putPart mL_X9_128 (rcv_spec f88) ⟨_, _, rfl⟩ (by decide) (As := [.ref v73, .int v81, .int v87]) (rest := []) rfl rfl ⟨Nat.le_of_ble_eq_true rfl, Nat.le_of_ble_eq_true rfl⟩ (Nat.le_of_ble_eq_true rfl) (fun l D A => c_X0_putPart l D A e88) ?_
          refine ww_goto 91 132 X dX9_putStart_91 (by decide) ?_
          exact ww_vretE 132 X hQ dX9_putStart_132 h
        · replace h := (if_neg q3).symm.trans h
          by_cases q4 : v5 = (4 : Int32)
          · replace h := (if_pos q4).symm.trans h
            refine ww_tableIn 6 94 X dX9_putStart_6 (off := 88) (by rw [q4]; decide) (by rw [q4]; decide) (by rw [q4]; decide) (by decide) ?_
            refine ww_aload_n 94 X dX9_putStart_94 0 rfl rfl ?_
            obtain ⟨v95, e95, h⟩ := bO_some h
            refine ww_getR 95 X dX9_putStart_95 fG_X9_44 e95 ?_
            refine ww_aload_n 98 X dX9_putStart_98 0 rfl rfl ?_
            obtain ⟨v99, e99, h⟩ := bO_some h
            refine ww_getR 99 X dX9_putStart_99 fG_X9_27 e99 ?_
            refine ww_iload_n 102 X dX9_putStart_102 1 rfl rfl ?_
            obtain ⟨v103, e103, h⟩ := bO_some h
            refine ww_iald 103 X dX9_putStart_103 e103 ?_
            refine ww_aload_n 104 X dX9_putStart_104 0 rfl rfl ?_
            obtain ⟨v105, e105, h⟩ := bO_some h
            refine ww_getR 105 X dX9_putStart_105 fG_X9_30 e105 ?_
            refine ww_iload_n 108 X dX9_putStart_108 1 rfl rfl ?_
            obtain ⟨v109, e109, h⟩ := bO_some h
            refine ww_iald 109 X dX9_putStart_109 e109 ?_
            refine ww_aload_n 110 X dX9_putStart_110 2 rfl rfl ?_
            obtain ⟨M111, e111, h⟩ := bO_some h
            refine ww_callSV0 111 X dX9_putStart_111 mY_X9_putString mL_X9_110 (As := [.ref v95, .int v103, .int v109, .ref l2]) (rest := []) rfl rfl ⟨Nat.le_of_ble_eq_true rfl, Nat.le_of_ble_eq_true rfl⟩ (Nat.le_of_ble_eq_true rfl) (fun l D A => c_X9_putString l D A e111) ?_
            refine ww_goto 114 132 X dX9_putStart_114 (by decide) ?_
            exact ww_vretE 132 X hQ dX9_putStart_132 h
          · replace h := (if_neg q4).symm.trans h
            by_cases q5 : v5 = (5 : Int32)
            · replace h := (if_pos q5).symm.trans h
              refine ww_tableIn 6 117 X dX9_putStart_6 (off := 111) (by rw [q5]; decide) (by rw [q5]; decide) (by rw [q5]; decide) (by decide) ?_
              refine ww_aload_n 117 X dX9_putStart_117 2 rfl rfl ?_
              refine ww_bipush 118 X (v := (91 : Int32)) dX9_putStart_118 (by decide) ?_
              obtain ⟨_, f120, h⟩ := bO_some h
              obtain ⟨M120, e120, h⟩ := bO_some h
              refine ww_callVV0 120 X dX9_putStart_120 mY_X0_put mL_X9_107 (rcv_spec f120) ⟨_, _, rfl⟩ (by decide) (As := [.int (91 : Int32)]) (rest := []) rfl rfl ⟨Nat.le_of_ble_eq_true rfl, Nat.le_of_ble_eq_true rfl⟩ (Nat.le_of_ble_eq_true rfl) (fun l D A => c_X0_put l D A e120) ?_
              refine ww_goto 123 132 X dX9_putStart_123 (by decide) ?_
              exact ww_vretE 132 X hQ dX9_putStart_132 h
            · replace h := (if_neg q5).symm.trans h
              have z0 := lv_neT q0 (show (0 : Int32).toInt = 0 by decide)
              have z1 := lv_neT q1 (show (1 : Int32).toInt = 1 by decide)
              have z2 := lv_neT q2 (show (2 : Int32).toInt = 2 by decide)
              have z3 := lv_neT q3 (show (3 : Int32).toInt = 3 by decide)
              have z4 := lv_neT q4 (show (4 : Int32).toInt = 4 by decide)
              have z5 := lv_neT q5 (show (5 : Int32).toInt = 5 by decide)
              refine ww_tableOut 6 126 X dX9_putStart_6 (by omega) (by decide) ?_
              refine ww_aload_n 126 X dX9_putStart_126 2 rfl rfl ?_
              refine ww_bipush 127 X (v := (123 : Int32)) dX9_putStart_127 (by decide) ?_
              obtain ⟨_, f129, h⟩ := bO_some h
              obtain ⟨M129, e129, h⟩ := bO_some h
              refine ww_callVV0 129 X dX9_putStart_129 mY_X0_put mL_X9_107 (rcv_spec f129) ⟨_, _, rfl⟩ (by decide) (As := [.int (123 : Int32)]) (rest := []) rfl rfl ⟨Nat.le_of_ble_eq_true rfl, Nat.le_of_ble_eq_true rfl⟩ (Nat.le_of_ble_eq_true rfl) (fun l D A => c_X0_put l D A e129) ?_
              exact ww_vretE 132 X hQ dX9_putStart_132 h
theorem c_X9_putStart {G : mG} {F sz : Nat} {M0 : mM} (l : Launch) (D : mD) (A : Nat → Prop) {l0 : Nat} {l1 : Int32} {l2 : Nat} {M : mM} (h : P_X9_putStart G F l0 l1 l2 M = some M0) : mMetV l D G A yX9_putStart cX9_putStart 3 none 6 133 0 0 [.ref l0, .int l1, .ref l2] M sz M0 sz := mMetV_of l D G A (by decide) (Nat.le_of_ble_eq_true rfl) (fun x X hQ => wP_X9_putStart X hQ h)
/-! SealedTokens$Text.putValue(ILSealedTokens$Bytes;)V -/
theorem dX9_putValue_0 : decode cX9_putValue 0 = .ok (.iconst (-1), 1) := by decide +kernel
theorem dX9_putValue_1 : decode cX9_putValue 1 = .ok (.istore_n 3, 1) := by decide +kernel
theorem dX9_putValue_2 : decode cX9_putValue 2 = .ok (.iload_n 1, 1) := by decide +kernel
theorem dX9_putValue_3 : decode cX9_putValue 3 = .ok (.istore 4, 2) := by decide +kernel
theorem dX9_putValue_5 : decode cX9_putValue 5 = .ok (.iload 4, 2) := by decide +kernel
theorem dX9_putValue_7 : decode cX9_putValue 7 = .ok (.aload_n 0, 1) := by decide +kernel
theorem dX9_putValue_8 : decode cX9_putValue 8 = .ok (.getfield 48, 3) := by decide +kernel
theorem dX9_putValue_11 : decode cX9_putValue 11 = .ok (.if_icmp .ge 121, 3) := by decide +kernel
theorem dX9_putValue_14 : decode cX9_putValue 14 = .ok (.iload 4, 2) := by decide +kernel
theorem dX9_putValue_16 : decode cX9_putValue 16 = .ok (.iload_n 1, 1) := by decide +kernel
theorem dX9_putValue_17 : decode cX9_putValue 17 = .ok (.if_icmp .eq 14, 3) := by decide +kernel
theorem dX9_putValue_20 : decode cX9_putValue 20 = .ok (.aload_n 0, 1) := by decide +kernel
theorem dX9_putValue_21 : decode cX9_putValue 21 = .ok (.getfield 15, 3) := by decide +kernel
theorem dX9_putValue_24 : decode cX9_putValue 24 = .ok (.iload 4, 2) := by decide +kernel
theorem dX9_putValue_26 : decode cX9_putValue 26 = .ok (.iaload, 1) := by decide +kernel
theorem dX9_putValue_27 : decode cX9_putValue 27 = .ok (.iload_n 1, 1) := by decide +kernel
theorem dX9_putValue_28 : decode cX9_putValue 28 = .ok (.if_icmp .lt 104, 3) := by decide +kernel
theorem dX9_putValue_31 : decode cX9_putValue 31 = .ok (.iload 4, 2) := by decide +kernel
theorem dX9_putValue_33 : decode cX9_putValue 33 = .ok (.iload_n 1, 1) := by decide +kernel
theorem dX9_putValue_34 : decode cX9_putValue 34 = .ok (.if_icmp .le 71, 3) := by decide +kernel
theorem dX9_putValue_37 : decode cX9_putValue 37 = .ok (.aload_n 0, 1) := by decide +kernel
theorem dX9_putValue_38 : decode cX9_putValue 38 = .ok (.aload_n 0, 1) := by decide +kernel
theorem dX9_putValue_39 : decode cX9_putValue 39 = .ok (.getfield 15, 3) := by decide +kernel
theorem dX9_putValue_42 : decode cX9_putValue 42 = .ok (.iload 4, 2) := by decide +kernel
theorem dX9_putValue_44 : decode cX9_putValue 44 = .ok (.iaload, 1) := by decide +kernel
theorem dX9_putValue_45 : decode cX9_putValue 45 = .ok (.iload_n 3, 1) := by decide +kernel
theorem dX9_putValue_46 : decode cX9_putValue 46 = .ok (.aload_n 2, 1) := by decide +kernel
theorem dX9_putValue_47 : decode cX9_putValue 47 = .ok (.invokevirtual 103, 3) := by decide +kernel
theorem dX9_putValue_50 : decode cX9_putValue 50 = .ok (.istore_n 3, 1) := by decide +kernel
theorem dX9_putValue_51 : decode cX9_putValue 51 = .ok (.aload_n 0, 1) := by decide +kernel
theorem dX9_putValue_52 : decode cX9_putValue 52 = .ok (.getfield 18, 3) := by decide +kernel
theorem dX9_putValue_55 : decode cX9_putValue 55 = .ok (.iload 4, 2) := by decide +kernel
theorem dX9_putValue_57 : decode cX9_putValue 57 = .ok (.iaload, 1) := by decide +kernel
theorem dX9_putValue_58 : decode cX9_putValue 58 = .ok (.ifCond .le 9, 3) := by decide +kernel
theorem dX9_putValue_61 : decode cX9_putValue 61 = .ok (.aload_n 2, 1) := by decide +kernel
theorem dX9_putValue_62 : decode cX9_putValue 62 = .ok (.bipush 44, 2) := by decide +kernel
theorem dX9_putValue_64 : decode cX9_putValue 64 = .ok (.invokevirtual 107, 3) := by decide +kernel
theorem dX9_putValue_67 : decode cX9_putValue 67 = .ok (.aload_n 0, 1) := by decide +kernel
theorem dX9_putValue_68 : decode cX9_putValue 68 = .ok (.iload_n 3, 1) := by decide +kernel
theorem dX9_putValue_69 : decode cX9_putValue 69 = .ok (.bipush 6, 2) := by decide +kernel
theorem dX9_putValue_71 : decode cX9_putValue 71 = .ok (.invokevirtual 66, 3) := by decide +kernel
theorem dX9_putValue_74 : decode cX9_putValue 74 = .ok (.ifCond .eq 31, 3) := by decide +kernel
theorem dX9_putValue_77 : decode cX9_putValue 77 = .ok (.aload_n 0, 1) := by decide +kernel
theorem dX9_putValue_78 : decode cX9_putValue 78 = .ok (.getfield 44, 3) := by decide +kernel
theorem dX9_putValue_81 : decode cX9_putValue 81 = .ok (.aload_n 0, 1) := by decide +kernel
theorem dX9_putValue_82 : decode cX9_putValue 82 = .ok (.getfield 33, 3) := by decide +kernel
theorem dX9_putValue_85 : decode cX9_putValue 85 = .ok (.iload 4, 2) := by decide +kernel
theorem dX9_putValue_87 : decode cX9_putValue 87 = .ok (.iaload, 1) := by decide +kernel
theorem dX9_putValue_88 : decode cX9_putValue 88 = .ok (.aload_n 0, 1) := by decide +kernel
theorem dX9_putValue_89 : decode cX9_putValue 89 = .ok (.getfield 36, 3) := by decide +kernel
theorem dX9_putValue_92 : decode cX9_putValue 92 = .ok (.iload 4, 2) := by decide +kernel
theorem dX9_putValue_94 : decode cX9_putValue 94 = .ok (.iaload, 1) := by decide +kernel
theorem dX9_putValue_95 : decode cX9_putValue 95 = .ok (.aload_n 2, 1) := by decide +kernel
theorem dX9_putValue_96 : decode cX9_putValue 96 = .ok (.invokestatic 110, 3) := by decide +kernel
theorem dX9_putValue_99 : decode cX9_putValue 99 = .ok (.aload_n 2, 1) := by decide +kernel
theorem dX9_putValue_100 : decode cX9_putValue 100 = .ok (.bipush 58, 2) := by decide +kernel
theorem dX9_putValue_102 : decode cX9_putValue 102 = .ok (.invokevirtual 107, 3) := by decide +kernel
theorem dX9_putValue_105 : decode cX9_putValue 105 = .ok (.aload_n 0, 1) := by decide +kernel
theorem dX9_putValue_106 : decode cX9_putValue 106 = .ok (.iload 4, 2) := by decide +kernel
theorem dX9_putValue_108 : decode cX9_putValue 108 = .ok (.aload_n 2, 1) := by decide +kernel
theorem dX9_putValue_109 : decode cX9_putValue 109 = .ok (.invokevirtual 114, 3) := by decide +kernel
theorem dX9_putValue_112 : decode cX9_putValue 112 = .ok (.aload_n 0, 1) := by decide +kernel
theorem dX9_putValue_113 : decode cX9_putValue 113 = .ok (.getfield 11, 3) := by decide +kernel
theorem dX9_putValue_116 : decode cX9_putValue 116 = .ok (.iload 4, 2) := by decide +kernel
theorem dX9_putValue_118 : decode cX9_putValue 118 = .ok (.iaload, 1) := by decide +kernel
theorem dX9_putValue_119 : decode cX9_putValue 119 = .ok (.iconst 5, 1) := by decide +kernel
theorem dX9_putValue_120 : decode cX9_putValue 120 = .ok (.if_icmp .lt 6, 3) := by decide +kernel
theorem dX9_putValue_123 : decode cX9_putValue 123 = .ok (.iload 4, 2) := by decide +kernel
theorem dX9_putValue_125 : decode cX9_putValue 125 = .ok (.istore_n 3, 1) := by decide +kernel
theorem dX9_putValue_126 : decode cX9_putValue 126 = .ok (.iinc 4 1, 3) := by decide +kernel
theorem dX9_putValue_129 : decode cX9_putValue 129 = .ok (.goto (-124), 3) := by decide +kernel
theorem dX9_putValue_132 : decode cX9_putValue 132 = .ok (.iload_n 3, 1) := by decide +kernel
theorem dX9_putValue_133 : decode cX9_putValue 133 = .ok (.iconst (-1), 1) := by decide +kernel
theorem dX9_putValue_134 : decode cX9_putValue 134 = .ok (.if_icmp .eq 16, 3) := by decide +kernel
theorem dX9_putValue_137 : decode cX9_putValue 137 = .ok (.aload_n 0, 1) := by decide +kernel
theorem dX9_putValue_138 : decode cX9_putValue 138 = .ok (.aload_n 0, 1) := by decide +kernel
theorem dX9_putValue_139 : decode cX9_putValue 139 = .ok (.getfield 15, 3) := by decide +kernel
theorem dX9_putValue_142 : decode cX9_putValue 142 = .ok (.iload_n 1, 1) := by decide +kernel
theorem dX9_putValue_143 : decode cX9_putValue 143 = .ok (.iaload, 1) := by decide +kernel
theorem dX9_putValue_144 : decode cX9_putValue 144 = .ok (.iload_n 3, 1) := by decide +kernel
theorem dX9_putValue_145 : decode cX9_putValue 145 = .ok (.aload_n 2, 1) := by decide +kernel
theorem dX9_putValue_146 : decode cX9_putValue 146 = .ok (.invokevirtual 103, 3) := by decide +kernel
theorem dX9_putValue_149 : decode cX9_putValue 149 = .ok (.pop, 1) := by decide +kernel
theorem dX9_putValue_150 : decode cX9_putValue 150 = .ok (.return_, 1) := by decide +kernel
abbrev rmX9_putValue : Room := { frames := 7, cells := 0, slots := 0, locals := 155 }
set_option maxHeartbeats 4000000 in
set_option maxRecDepth 100000 in
theorem wB_X9_putValue_132 {G : mG} {F : Nat} {x : mXT} {sz : Nat} {M0 : mM} (X : mCX G RX9 cX9_putValue 5 none "putValue" rmX9_putValue x) (hQ : mQV x M0 (sz, 0, 0)) {l0 : Nat} {l1 : Int32} {l2 : Nat} {l3 : Int32} {M : mM} (h : B_X9_putValue_132 G F l0 l1 l2 l3 M = some M0) : WW x (sz, 0, 0) M 132 [(0, .ref l0), (1, .int l1), (2, .ref l2), (3, .int l3)] [] := by
  unfold B_X9_putValue_132 at h
  refine ww_iload_n 132 X dX9_putValue_132 3 rfl rfl ?_
  refine ww_iconst 133 X (v := (-1 : Int32)) dX9_putValue_133 (by decide) ?_
  refine ww_icmp_eq 134 150 X dX9_putValue_134 (by decide) (fun q => ?_) (fun q => ?_)
  · replace h := (if_pos q).symm.trans h
    exact ww_vretE 150 X hQ dX9_putValue_150 h
  · replace h := (if_neg q).symm.trans h
    refine ww_aload_n 137 X dX9_putValue_137 0 rfl rfl ?_
    refine ww_aload_n 138 X dX9_putValue_138 0 rfl rfl ?_
    obtain ⟨v139, e139, h⟩ := bO_some h
    refine ww_getR 139 X dX9_putValue_139 fG_X9_15 e139 ?_
    refine ww_iload_n 142 X dX9_putValue_142 1 rfl rfl ?_
    obtain ⟨v143, e143, h⟩ := bO_some h
    refine ww_iald 143 X dX9_putValue_143 e143 ?_
    refine ww_iload_n 144 X dX9_putValue_144 3 rfl rfl ?_
    refine ww_aload_n 145 X dX9_putValue_145 2 rfl rfl ?_
    obtain ⟨_, f146, h⟩ := bO_some h
    obtain ⟨v146, M146, e146, h⟩ := bP_some h
    refine ww_callVI0 146 X dX9_putValue_146 mY_X9_closeTo mL_X9_103 (rcv_spec f146) ⟨_, _, rfl⟩ (by decide) (As := [.int v143, .int l3, .ref l2]) (rest := []) rfl rfl ⟨Nat.le_of_ble_eq_true rfl, Nat.le_of_ble_eq_true rfl⟩ (Nat.le_of_ble_eq_true rfl) (fun l D A => c_X9_closeTo l D A e146) ?_
    refine ww_pop 149 X dX9_putValue_149 rfl ?_
    exact ww_vretE 150 X hQ dX9_putValue_150 h
set_option maxHeartbeats 4000000 in
set_option maxRecDepth 100000 in
theorem wB_X9_putValue_105 {G : mG} {F : Nat} {x : mXT} {sz : Nat} {M0 : mM} (X : mCX G RX9 cX9_putValue 5 none "putValue" rmX9_putValue x) (hQ : mQV x M0 (sz, 0, 0)) (r5 : Nat → Int32 → Nat → Int32 → Int32 → mM → Option mM) (hr5 : ∀ (l0 : Nat) (l1 : Int32) (l2 : Nat) (l3 : Int32) (l4 : Int32) (M : mM), r5 l0 l1 l2 l3 l4 M = some M0 → WW x (sz, 0, 0) M 5 [(0, .ref l0), (1, .int l1), (2, .ref l2), (3, .int l3), (4, .int l4)] []) {l0 : Nat} {l1 : Int32} {l2 : Nat} {l3 : Int32} {l4 : Int32} {M : mM} (h : B_X9_putValue_105 G F r5 l0 l1 l2 l3 l4 M = some M0) : WW x (sz, 0, 0) M 105 [(0, .ref l0), (1, .int l1), (2, .ref l2), (3, .int l3), (4, .int l4)] [] := by
  unfold B_X9_putValue_105 at h
  refine ww_aload_n 105 X dX9_putValue_105 0 rfl rfl ?_
  refine ww_iload 106 X dX9_putValue_106 4 rfl ?_
  refine ww_aload_n 108 X dX9_putValue_108 2 rfl rfl ?_
  obtain ⟨_, f109, h⟩ := bO_some h
  obtain ⟨M109, e109, h⟩ := bO_some h
  refine ww_callVV0 109 X dX9_putValue_109 mY_X9_putStart mL_X9_114 (rcv_spec f109) ⟨_, _, rfl⟩ (by decide) (As := [.int l4, .ref l2]) (rest := []) rfl rfl ⟨Nat.le_of_ble_eq_true rfl, Nat.le_of_ble_eq_true rfl⟩ (Nat.le_of_ble_eq_true rfl) (fun l D A => c_X9_putStart l D A e109) ?_
  refine ww_aload_n 112 X dX9_putValue_112 0 rfl rfl ?_
  obtain ⟨v113, e113, h⟩ := bO_some h
  refine ww_getR 113 X dX9_putValue_113 fG_X9_11 e113 ?_
  refine ww_iload 116 X dX9_putValue_116 4 rfl ?_
  obtain ⟨v118, e118, h⟩ := bO_some h
  refine ww_iald 118 X dX9_putValue_118 e118 ?_
  refine ww_iconst 119 X (v := (5 : Int32)) dX9_putValue_119 (by decide) ?_
  refine ww_icmp_lt 120 126 X dX9_putValue_120 (by decide) (fun q => ?_) (fun q => ?_)
  · replace h := (if_pos q).symm.trans h
    refine ww_iinc 126 X dX9_putValue_126 (lv' := [(0, .ref l0), (1, .int l1), (2, .ref l2), (3, .int l3), (4, .int (l4 + 1))]) 4 rfl rfl (by decide) [1, 2, 3, 4, 0] rfl ?_
    refine ww_goto 129 5 X dX9_putValue_129 (by decide) ?_
    exact (hr5 _ _ _ _ _ _ h)
  · replace h := (if_neg q).symm.trans h
    refine ww_iload 123 X dX9_putValue_123 4 rfl ?_
    refine ww_istore_n 125 X dX9_putValue_125 (lv' := [(0, .ref l0), (1, .int l1), (2, .ref l2), (3, .int l4), (4, .int l4)]) rfl (by decide) [1, 2, 3, 0, 4] rfl ?_
    refine ww_iinc 126 X dX9_putValue_126 (lv' := [(0, .ref l0), (1, .int l1), (2, .ref l2), (3, .int l4), (4, .int (l4 + 1))]) 4 rfl rfl (by decide) [1, 2, 3, 4, 0] rfl ?_
    refine ww_goto 129 5 X dX9_putValue_129 (by decide) ?_
    exact (hr5 _ _ _ _ _ _ h)
set_option maxHeartbeats 4000000 in
set_option maxRecDepth 100000 in
theorem wB_X9_putValue_67 {G : mG} {F : Nat} {x : mXT} {sz : Nat} {M0 : mM} (X : mCX G RX9 cX9_putValue 5 none "putValue" rmX9_putValue x) (hQ : mQV x M0 (sz, 0, 0)) (r5 : Nat → Int32 → Nat → Int32 → Int32 → mM → Option mM) (hr5 : ∀ (l0 : Nat) (l1 : Int32) (l2 : Nat) (l3 : Int32) (l4 : Int32) (M : mM), r5 l0 l1 l2 l3 l4 M = some M0 → WW x (sz, 0, 0) M 5 [(0, .ref l0), (1, .int l1), (2, .ref l2), (3, .int l3), (4, .int l4)] []) {l0 : Nat} {l1 : Int32} {l2 : Nat} {l3 : Int32} {l4 : Int32} {M : mM} (h : B_X9_putValue_67 G F r5 l0 l1 l2 l3 l4 M = some M0) : WW x (sz, 0, 0) M 67 [(0, .ref l0), (1, .int l1), (2, .ref l2), (3, .int l3), (4, .int l4)] [] := by
  unfold B_X9_putValue_67 at h
  refine ww_aload_n 67 X dX9_putValue_67 0 rfl rfl ?_
  refine ww_iload_n 68 X dX9_putValue_68 3 rfl rfl ?_
  refine ww_bipush 69 X (v := (6 : Int32)) dX9_putValue_69 (by decide) ?_
  obtain ⟨_, f71, h⟩ := bO_some h
  obtain ⟨v71, M71, e71, h⟩ := bP_some h
  refine ww_callVI0 71 X dX9_putValue_71 mY_X9_isKind mL_X9_66 (rcv_spec f71) ⟨_, _, rfl⟩ (by decide) (As := [.int l3, .int (6 : Int32)]) (rest := []) rfl rfl ⟨Nat.le_of_ble_eq_true rfl, Nat.le_of_ble_eq_true rfl⟩ (Nat.le_of_ble_eq_true rfl) (fun l D A => c_X9_isKind l D A e71) ?_
  refine ww_if_eq 74 105 X dX9_putValue_74 (by decide) (fun q => ?_) (fun q => ?_)
  · replace h := (if_pos q).symm.trans h
    exact (wB_X9_putValue_105 X hQ _ hr5 h)
  · replace h := (if_neg q).symm.trans h
    refine ww_aload_n 77 X dX9_putValue_77 0 rfl rfl ?_
    obtain ⟨v78, e78, h⟩ := bO_some h
    refine ww_getR 78 X dX9_putValue_78 fG_X9_44 e78 ?_
    refine ww_aload_n 81 X dX9_putValue_81 0 rfl rfl ?_
    obtain ⟨v82, e82, h⟩ := bO_some h
    refine ww_getR 82 X dX9_putValue_82 fG_X9_33 e82 ?_
    refine ww_iload 85 X dX9_putValue_85 4 rfl ?_
    obtain ⟨v87, e87, h⟩ := bO_some h
    refine ww_iald 87 X dX9_putValue_87 e87 ?_
    refine ww_aload_n 88 X dX9_putValue_88 0 rfl rfl ?_
    obtain ⟨v89, e89, h⟩ := bO_some h
    refine ww_getR 89 X dX9_putValue_89 fG_X9_36 e89 ?_
    refine ww_iload 92 X dX9_putValue_92 4 rfl ?_
    obtain ⟨v94, e94, h⟩ := bO_some h
    refine ww_iald 94 X dX9_putValue_94 e94 ?_
    refine ww_aload_n 95 X dX9_putValue_95 2 rfl rfl ?_
    obtain ⟨M96, e96, h⟩ := bO_some h
    refine ww_callSV0 96 X dX9_putValue_96 mY_X9_putString mL_X9_110 (As := [.ref v78, .int v87, .int v94, .ref l2]) (rest := []) rfl rfl ⟨Nat.le_of_ble_eq_true rfl, Nat.le_of_ble_eq_true rfl⟩ (Nat.le_of_ble_eq_true rfl) (fun l D A => c_X9_putString l D A e96) ?_
    refine ww_aload_n 99 X dX9_putValue_99 2 rfl rfl ?_
    refine ww_bipush 100 X (v := (58 : Int32)) dX9_putValue_100 (by decide) ?_
    obtain ⟨_, f102, h⟩ := bO_some h
    obtain ⟨M102, e102, h⟩ := bO_some h
    refine ww_callVV0 102 X dX9_putValue_102 mY_X0_put mL_X9_107 (rcv_spec f102) ⟨_, _, rfl⟩ (by decide) (As := [.int (58 : Int32)]) (rest := []) rfl rfl ⟨Nat.le_of_ble_eq_true rfl, Nat.le_of_ble_eq_true rfl⟩ (Nat.le_of_ble_eq_true rfl) (fun l D A => c_X0_put l D A e102) ?_
    exact (wB_X9_putValue_105 X hQ _ hr5 h)
set_option maxHeartbeats 4000000 in
set_option maxRecDepth 100000 in
theorem wB_X9_putValue_31 {G : mG} {F : Nat} {x : mXT} {sz : Nat} {M0 : mM} (X : mCX G RX9 cX9_putValue 5 none "putValue" rmX9_putValue x) (hQ : mQV x M0 (sz, 0, 0)) (r5 : Nat → Int32 → Nat → Int32 → Int32 → mM → Option mM) (hr5 : ∀ (l0 : Nat) (l1 : Int32) (l2 : Nat) (l3 : Int32) (l4 : Int32) (M : mM), r5 l0 l1 l2 l3 l4 M = some M0 → WW x (sz, 0, 0) M 5 [(0, .ref l0), (1, .int l1), (2, .ref l2), (3, .int l3), (4, .int l4)] []) {l0 : Nat} {l1 : Int32} {l2 : Nat} {l3 : Int32} {l4 : Int32} {M : mM} (h : B_X9_putValue_31 G F r5 l0 l1 l2 l3 l4 M = some M0) : WW x (sz, 0, 0) M 31 [(0, .ref l0), (1, .int l1), (2, .ref l2), (3, .int l3), (4, .int l4)] [] := by
  unfold B_X9_putValue_31 at h
  refine ww_iload 31 X dX9_putValue_31 4 rfl ?_
  refine ww_iload_n 33 X dX9_putValue_33 1 rfl rfl ?_
  refine ww_icmp_le 34 105 X dX9_putValue_34 (by decide) (fun q => ?_) (fun q => ?_)
  · replace h := (if_pos q).symm.trans h
    exact (wB_X9_putValue_105 X hQ _ hr5 h)
  · replace h := (if_neg q).symm.trans h
    refine ww_aload_n 37 X dX9_putValue_37 0 rfl rfl ?_
    refine ww_aload_n 38 X dX9_putValue_38 0 rfl rfl ?_
    obtain ⟨v39, e39, h⟩ := bO_some h
    refine ww_getR 39 X dX9_putValue_39 fG_X9_15 e39 ?_
    refine ww_iload 42 X dX9_putValue_42 4 rfl ?_
    obtain ⟨v44, e44, h⟩ := bO_some h
    refine ww_iald 44 X dX9_putValue_44 e44 ?_
    refine ww_iload_n 45 X dX9_putValue_45 3 rfl rfl ?_
    refine ww_aload_n 46 X dX9_putValue_46 2 rfl rfl ?_
    obtain ⟨_, f47, h⟩ := bO_some h
    obtain ⟨v47, M47, e47, h⟩ := bP_some h
    refine ww_callVI0 47 X dX9_putValue_47 mY_X9_closeTo mL_X9_103 (rcv_spec f47) ⟨_, _, rfl⟩ (by decide) (As := [.int v44, .int l3, .ref l2]) (rest := []) rfl rfl ⟨Nat.le_of_ble_eq_true rfl, Nat.le_of_ble_eq_true rfl⟩ (Nat.le_of_ble_eq_true rfl) (fun l D A => c_X9_closeTo l D A e47) ?_
    refine ww_istore_n 50 X dX9_putValue_50 (lv' := [(0, .ref l0), (1, .int l1), (2, .ref l2), (3, .int v47), (4, .int l4)]) rfl (by decide) [1, 2, 3, 0, 4] rfl ?_
    refine ww_aload_n 51 X dX9_putValue_51 0 rfl rfl ?_
    obtain ⟨v52, e52, h⟩ := bO_some h
    refine ww_getR 52 X dX9_putValue_52 fG_X9_18 e52 ?_
    refine ww_iload 55 X dX9_putValue_55 4 rfl ?_
    obtain ⟨v57, e57, h⟩ := bO_some h
    refine ww_iald 57 X dX9_putValue_57 e57 ?_
    refine ww_if_le 58 67 X dX9_putValue_58 (by decide) (fun q => ?_) (fun q => ?_)
    · replace h := (if_pos q).symm.trans h
      exact (wB_X9_putValue_67 X hQ _ hr5 h)
    · replace h := (if_neg q).symm.trans h
      refine ww_aload_n 61 X dX9_putValue_61 2 rfl rfl ?_
      refine ww_bipush 62 X (v := (44 : Int32)) dX9_putValue_62 (by decide) ?_
      obtain ⟨_, f64, h⟩ := bO_some h
      obtain ⟨M64, e64, h⟩ := bO_some h
      refine ww_callVV0 64 X dX9_putValue_64 mY_X0_put mL_X9_107 (rcv_spec f64) ⟨_, _, rfl⟩ (by decide) (As := [.int (44 : Int32)]) (rest := []) rfl rfl ⟨Nat.le_of_ble_eq_true rfl, Nat.le_of_ble_eq_true rfl⟩ (Nat.le_of_ble_eq_true rfl) (fun l D A => c_X0_put l D A e64) ?_
      exact (wB_X9_putValue_67 X hQ _ hr5 h)
set_option maxHeartbeats 4000000 in
set_option maxRecDepth 100000 in
theorem wB_X9_putValue_5 {G : mG} {F : Nat} {x : mXT} {sz : Nat} {M0 : mM} (X : mCX G RX9 cX9_putValue 5 none "putValue" rmX9_putValue x) (hQ : mQV x M0 (sz, 0, 0)) : ∀ (n : Nat) (l0 : Nat) (l1 : Int32) (l2 : Nat) (l3 : Int32) (l4 : Int32) (M : mM), B_X9_putValue_5 G F n l0 l1 l2 l3 l4 M = some M0 → WW x (sz, 0, 0) M 5 [(0, .ref l0), (1, .int l1), (2, .ref l2), (3, .int l3), (4, .int l4)] [] := by
  intro n
  induction n with
  | zero =>
    intro l0 l1 l2 l3 l4 M h
    exact nomatch (show (none : Option mM) = some M0 from h)
  | succ n ih =>
    intro l0 l1 l2 l3 l4 M h
    rw [B_X9_putValue_5] at h
    refine ww_iload 5 X dX9_putValue_5 4 rfl ?_
    refine ww_aload_n 7 X dX9_putValue_7 0 rfl rfl ?_
    obtain ⟨v8, e8, h⟩ := bO_some h
    refine ww_getI 8 X dX9_putValue_8 fG_X9_48 e8 ?_
    refine ww_icmp_ge 11 132 X dX9_putValue_11 (by decide) (fun q => ?_) (fun q => ?_)
    · replace h := (if_pos q).symm.trans h
      exact ww_sub [0, 1, 2, 3] rfl (wB_X9_putValue_132 X hQ h)
    · replace h := (if_neg q).symm.trans h
      refine ww_iload 14 X dX9_putValue_14 4 rfl ?_
      refine ww_iload_n 16 X dX9_putValue_16 1 rfl rfl ?_
      refine ww_icmp_eq 17 31 X dX9_putValue_17 (by decide) (fun q => ?_) (fun q => ?_)
      · replace h := (if_pos q).symm.trans h
        exact (wB_X9_putValue_31 X hQ _ ih h)
      · replace h := (if_neg q).symm.trans h
        refine ww_aload_n 20 X dX9_putValue_20 0 rfl rfl ?_
        obtain ⟨v21, e21, h⟩ := bO_some h
        refine ww_getR 21 X dX9_putValue_21 fG_X9_15 e21 ?_
        refine ww_iload 24 X dX9_putValue_24 4 rfl ?_
        obtain ⟨v26, e26, h⟩ := bO_some h
        refine ww_iald 26 X dX9_putValue_26 e26 ?_
        refine ww_iload_n 27 X dX9_putValue_27 1 rfl rfl ?_
        refine ww_icmp_lt 28 132 X dX9_putValue_28 (by decide) (fun q => ?_) (fun q => ?_)
        · replace h := (if_pos q).symm.trans h
          exact ww_sub [0, 1, 2, 3] rfl (wB_X9_putValue_132 X hQ h)
        · replace h := (if_neg q).symm.trans h
          exact (wB_X9_putValue_31 X hQ _ ih h)
set_option maxHeartbeats 4000000 in
set_option maxRecDepth 100000 in
theorem wP_X9_putValue {G : mG} {F : Nat} {x : mXT} {sz : Nat} {M0 : mM} (X : mCX G RX9 cX9_putValue 5 none "putValue" rmX9_putValue x) (hQ : mQV x M0 (sz, 0, 0)) {l0 : Nat} {l1 : Int32} {l2 : Nat} {M : mM} (h : P_X9_putValue G F l0 l1 l2 M = some M0) : WW x (sz, 0, 0) M 0 [(0, .ref l0), (1, .int l1), (2, .ref l2)] [] := by
  unfold P_X9_putValue at h
  refine ww_iconst 0 X (v := (-1 : Int32)) dX9_putValue_0 (by decide) ?_
  refine ww_istore_n 1 X dX9_putValue_1 (lv' := [(0, .ref l0), (1, .int l1), (2, .ref l2), (3, .int (-1 : Int32))]) rfl (by decide) [1, 2, 3, 0] rfl ?_
  refine ww_iload_n 2 X dX9_putValue_2 1 rfl rfl ?_
  refine ww_istore 3 X dX9_putValue_3 (lv' := [(0, .ref l0), (1, .int l1), (2, .ref l2), (3, .int (-1 : Int32)), (4, .int l1)]) (by decide) [1, 2, 3, 4, 0] rfl ?_
  exact (wB_X9_putValue_5 X hQ F _ _ _ _ _ _ h)
theorem c_X9_putValue {G : mG} {F sz : Nat} {M0 : mM} (l : Launch) (D : mD) (A : Nat → Prop) {l0 : Nat} {l1 : Int32} {l2 : Nat} {M : mM} (h : P_X9_putValue G F l0 l1 l2 M = some M0) : mMetV l D G A yX9_putValue cX9_putValue 5 none 7 155 0 0 [.ref l0, .int l1, .ref l2] M sz M0 sz := mMetV_of l D G A (by decide) (Nat.le_of_ble_eq_true rfl) (fun x X hQ => wP_X9_putValue X hQ h)
