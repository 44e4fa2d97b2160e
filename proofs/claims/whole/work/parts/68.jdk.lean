/-! the JDK's checkIndex -/
theorem dJ3_checkIndex_8e157_0 : decode cJ3_checkIndex_8e157 0 = .ok (.iload_n 0, 1) := by decide +kernel
theorem dJ3_checkIndex_8e157_1 : decode cJ3_checkIndex_8e157 1 = .ok (.ifCond .lt 8, 3) := by decide +kernel
theorem dJ3_checkIndex_8e157_4 : decode cJ3_checkIndex_8e157 4 = .ok (.iload_n 0, 1) := by decide +kernel
theorem dJ3_checkIndex_8e157_5 : decode cJ3_checkIndex_8e157 5 = .ok (.iload_n 1, 1) := by decide +kernel
theorem dJ3_checkIndex_8e157_6 : decode cJ3_checkIndex_8e157 6 = .ok (.if_icmp .lt 10, 3) := by decide +kernel
theorem dJ3_checkIndex_8e157_9 : decode cJ3_checkIndex_8e157 9 = .ok (.aload_n 2, 1) := by decide +kernel
theorem dJ3_checkIndex_8e157_10 : decode cJ3_checkIndex_8e157 10 = .ok (.iload_n 0, 1) := by decide +kernel
theorem dJ3_checkIndex_8e157_11 : decode cJ3_checkIndex_8e157 11 = .ok (.iload_n 1, 1) := by decide +kernel
theorem dJ3_checkIndex_8e157_12 : decode cJ3_checkIndex_8e157 12 = .ok (.invokestatic 95, 3) := by decide +kernel
theorem dJ3_checkIndex_8e157_16 : decode cJ3_checkIndex_8e157 16 = .ok (.iload_n 0, 1) := by decide +kernel
theorem dJ3_checkIndex_8e157_17 : decode cJ3_checkIndex_8e157 17 = .ok (.ireturn, 1) := by decide +kernel
theorem dJ0_checkIndex_df160_0 : decode cJ0_checkIndex_df160 0 = .ok (.iload_n 0, 1) := by decide +kernel
theorem dJ0_checkIndex_df160_1 : decode cJ0_checkIndex_df160 1 = .ok (.iload_n 1, 1) := by decide +kernel
theorem dJ0_checkIndex_df160_2 : decode cJ0_checkIndex_df160 2 = .ok (.getstatic 1053, 3) := by decide +kernel
theorem dJ0_checkIndex_df160_5 : decode cJ0_checkIndex_df160 5 = .ok (.invokestatic 1059, 3) := by decide +kernel
theorem dJ0_checkIndex_df160_8 : decode cJ0_checkIndex_df160 8 = .ok (.pop, 1) := by decide +kernel
theorem dJ0_checkIndex_df160_9 : decode cJ0_checkIndex_df160 9 = .ok (.return_, 1) := by decide +kernel
theorem w3_checkIndex {G : mG} {F : Nat} {x : mXT} {sz : Nat} {r0 : Int32} {M0 : mM} (X : mCX G RJ3 cJ3_checkIndex_8e157 3 (some .int) "checkIndex" { frames := 0, cells := 0, slots := 0, locals := 0 } x) (hQ : mQI x r0 M0 (sz, 0, 0)) {l0 l1 : Int32} {fm : Value} {M : mM} (h : P_J3_checkIndex_8e157 G F l0 l1 M = some (r0, M0)) : WW x (sz, 0, 0) M 0 [(0, .int l0), (1, .int l1), (2, fm)] [] := by
  unfold P_J3_checkIndex_8e157 at h
  split at h
  · rename_i hc
    refine ww_iload_n 0 X dJ3_checkIndex_8e157_0 0 rfl rfl ?_
    refine ww_if_lt 1 9 X dJ3_checkIndex_8e157_1 (by decide) (fun q => absurd q (Int32.not_lt.mpr hc.1)) (fun q => ?_)
    refine ww_iload_n 4 X dJ3_checkIndex_8e157_4 0 rfl rfl ?_
    refine ww_iload_n 5 X dJ3_checkIndex_8e157_5 1 rfl rfl ?_
    refine ww_icmp_lt 6 16 X dJ3_checkIndex_8e157_6 (by decide) (fun q => ?_) (fun q => absurd hc.2 q)
    refine ww_iload_n 16 X dJ3_checkIndex_8e157_16 0 rfl rfl ?_
    exact ww_iretE 17 X hQ dJ3_checkIndex_8e157_17 h
  · cases h
theorem c3_checkIndexR {G : mG} {F sz : Nat} {r0 : Int32} {M0 : mM} (l : Launch) (D : mD) (A : Nat → Prop) (t : Nat) {l0 l1 : Int32} {M : mM} (h : P_J3_checkIndex_8e157 G F l0 l1 M = some (r0, M0)) : mMetI l D G A yJ3_checkIndex_8e157 cJ3_checkIndex_8e157 3 (some .int) 0 0 0 0 [.int l0, .int l1, .ref t] M sz r0 M0 sz := mMetI_of l D G A (by decide) (Nat.le_of_ble_eq_true rfl) (fun x X hQ => w3_checkIndex X hQ h)
theorem c3_checkIndexN {G : mG} {F sz : Nat} {r0 : Int32} {M0 : mM} (l : Launch) (D : mD) (A : Nat → Prop) {l0 l1 : Int32} {M : mM} (h : P_J3_checkIndex_8e157 G F l0 l1 M = some (r0, M0)) : mMetI l D G A yJ3_checkIndex_8e157 cJ3_checkIndex_8e157 3 (some .int) 0 0 0 0 [.int l0, .int l1, .null] M sz r0 M0 sz := mMetI_of l D G A (by decide) (Nat.le_of_ble_eq_true rfl) (fun x X hQ => w3_checkIndex X hQ h)
theorem w0_checkIndex {G : mG} {F : Nat} {x : mXT} {sz : Nat} {M0 : mM} (X : mCX G RJ0 cJ0_checkIndex_df160 2 none "checkIndex" { frames := 1, cells := 0, slots := 0, locals := 22 } x) (hQ : mQV x M0 (sz, 0, 0)) {l0 l1 : Int32} {M : mM} (h : P_J0_checkIndex_df160 G F l0 l1 M = some M0) : WW x (sz, 0, 0) M 0 [(0, .int l0), (1, .int l1)] [] := by
  unfold P_J0_checkIndex_df160 at h
  split at h
  · rename_i hc
    have e : P_J3_checkIndex_8e157 G F l0 l1 M = some (l0, M) := if_pos hc
    refine ww_iload_n 0 X dJ0_checkIndex_df160_0 0 rfl rfl ?_
    refine ww_iload_n 1 X dJ0_checkIndex_df160_1 1 rfl rfl ?_
    refine ww_getsQ 2 X dJ0_checkIndex_df160_2 kJ_J0_1053 ?_ (fun t => ?_)
    · refine ww_callSI0 5 X dJ0_checkIndex_df160_5 mY_J3_checkIndex_8e157 mL_J0_1059 (As := [.int l0, .int l1, .null]) (rest := []) rfl rfl ⟨Nat.le_of_ble_eq_true rfl, Nat.le_of_ble_eq_true rfl⟩ (Nat.le_of_ble_eq_true rfl) (fun l D A => c3_checkIndexN l D A e) ?_
      refine ww_pop 8 X dJ0_checkIndex_df160_8 rfl ?_
      exact ww_vretE 9 X hQ dJ0_checkIndex_df160_9 h
    · refine ww_callSI0 5 X dJ0_checkIndex_df160_5 mY_J3_checkIndex_8e157 mL_J0_1059 (As := [.int l0, .int l1, .ref t]) (rest := []) rfl rfl ⟨Nat.le_of_ble_eq_true rfl, Nat.le_of_ble_eq_true rfl⟩ (Nat.le_of_ble_eq_true rfl) (fun l D A => c3_checkIndexR l D A t e) ?_
      refine ww_pop 8 X dJ0_checkIndex_df160_8 rfl ?_
      exact ww_vretE 9 X hQ dJ0_checkIndex_df160_9 h
  · cases h
theorem c_J0_checkIndex_df160 {G : mG} {F sz : Nat} {M0 : mM} (l : Launch) (D : mD) (A : Nat → Prop) {l0 l1 : Int32} {M : mM} (h : P_J0_checkIndex_df160 G F l0 l1 M = some M0) : mMetV l D G A yJ0_checkIndex_df160 cJ0_checkIndex_df160 2 none 1 22 0 0 [.int l0, .int l1] M sz M0 sz := mMetV_of l D G A (by decide) (Nat.le_of_ble_eq_true rfl) (fun x X hQ => w0_checkIndex X hQ h)
/-! java/lang/String.coder()B -/
theorem dJ0_coder_7d493_0 : decode cJ0_coder_7d493 0 = .ok (.getstatic 38, 3) := by decide +kernel
theorem dJ0_coder_7d493_3 : decode cJ0_coder_7d493 3 = .ok (.ifCond .eq 10, 3) := by decide +kernel
theorem dJ0_coder_7d493_6 : decode cJ0_coder_7d493 6 = .ok (.aload_n 0, 1) := by decide +kernel
theorem dJ0_coder_7d493_7 : decode cJ0_coder_7d493 7 = .ok (.getfield 15, 3) := by decide +kernel
theorem dJ0_coder_7d493_10 : decode cJ0_coder_7d493 10 = .ok (.goto 4, 3) := by decide +kernel
theorem dJ0_coder_7d493_13 : decode cJ0_coder_7d493 13 = .ok (.iconst 1, 1) := by decide +kernel
theorem dJ0_coder_7d493_14 : decode cJ0_coder_7d493 14 = .ok (.ireturn, 1) := by decide +kernel
abbrev rmJ0_coder_7d493 : Room := { frames := 0, cells := 0, slots := 0, locals := 0 }
set_option maxHeartbeats 4000000 in
set_option maxRecDepth 100000 in
theorem wP_J0_coder_7d493 {G : mG} {F : Nat} {x : mXT} {sz : Nat} {r0 : Int32} {M0 : mM} (X : mCX G RJ0 cJ0_coder_7d493 1 (some .byte) "coder" rmJ0_coder_7d493 x) (hQ : mQI x r0 M0 (sz, 0, 0)) {l0 : Nat} {M : mM} (h : P_J0_coder_7d493 G F l0 M = some (r0, M0)) : WW x (sz, 0, 0) M 0 [(0, .ref l0)] [] := by
  unfold P_J0_coder_7d493 at h
  refine ww_getsZ 0 X dJ0_coder_7d493_0 kJ_J0_38 ?_
  refine ww_if_eq 3 13 X dJ0_coder_7d493_3 (by decide) (fun q => ?_) (fun q => ?_)
  · replace h := (if_pos q).symm.trans h
    refine ww_iconst 13 X (v := (1 : Int32)) dJ0_coder_7d493_13 (by decide) ?_
    exact ww_bretE 14 X hQ dJ0_coder_7d493_14 h
  · replace h := (if_neg q).symm.trans h
    refine ww_aload_n 6 X dJ0_coder_7d493_6 0 rfl rfl ?_
    obtain ⟨v7, e7, h⟩ := bO_some h
    refine ww_getJI 7 X dJ0_coder_7d493_7 kJ_J0_15 e7 ?_
    refine ww_goto 10 14 X dJ0_coder_7d493_10 (by decide) ?_
    exact ww_bretE 14 X hQ dJ0_coder_7d493_14 h
theorem c_J0_coder_7d493 {G : mG} {F sz : Nat} {r0 : Int32} {M0 : mM} (l : Launch) (D : mD) (A : Nat → Prop) {l0 : Nat} {M : mM} (h : P_J0_coder_7d493 G F l0 M = some (r0, M0)) : mMetI l D G A yJ0_coder_7d493 cJ0_coder_7d493 1 (some .byte) 0 0 0 0 [.ref l0] M sz r0 M0 sz := mMetI_of l D G A (by decide) (Nat.le_of_ble_eq_true rfl) (fun x X hQ => wP_J0_coder_7d493 X hQ h)
/-! java/lang/String.isLatin1()Z -/
theorem dJ0_isLatin1_aae02_0 : decode cJ0_isLatin1_aae02 0 = .ok (.getstatic 38, 3) := by decide +kernel
theorem dJ0_isLatin1_aae02_3 : decode cJ0_isLatin1_aae02 3 = .ok (.ifCond .eq 14, 3) := by decide +kernel
theorem dJ0_isLatin1_aae02_6 : decode cJ0_isLatin1_aae02 6 = .ok (.aload_n 0, 1) := by decide +kernel
theorem dJ0_isLatin1_aae02_7 : decode cJ0_isLatin1_aae02 7 = .ok (.getfield 15, 3) := by decide +kernel
theorem dJ0_isLatin1_aae02_10 : decode cJ0_isLatin1_aae02 10 = .ok (.ifCond .ne 7, 3) := by decide +kernel
theorem dJ0_isLatin1_aae02_13 : decode cJ0_isLatin1_aae02 13 = .ok (.iconst 1, 1) := by decide +kernel
theorem dJ0_isLatin1_aae02_14 : decode cJ0_isLatin1_aae02 14 = .ok (.goto 4, 3) := by decide +kernel
theorem dJ0_isLatin1_aae02_17 : decode cJ0_isLatin1_aae02 17 = .ok (.iconst 0, 1) := by decide +kernel
theorem dJ0_isLatin1_aae02_18 : decode cJ0_isLatin1_aae02 18 = .ok (.ireturn, 1) := by decide +kernel
abbrev rmJ0_isLatin1_aae02 : Room := { frames := 0, cells := 0, slots := 0, locals := 0 }
set_option maxHeartbeats 4000000 in
set_option maxRecDepth 100000 in
theorem wP_J0_isLatin1_aae02 {G : mG} {F : Nat} {x : mXT} {sz : Nat} {r0 : Int32} {M0 : mM} (X : mCX G RJ0 cJ0_isLatin1_aae02 1 (some .boolean) "isLatin1" rmJ0_isLatin1_aae02 x) (hQ : mQI x r0 M0 (sz, 0, 0)) {l0 : Nat} {M : mM} (h : P_J0_isLatin1_aae02 G F l0 M = some (r0, M0)) : WW x (sz, 0, 0) M 0 [(0, .ref l0)] [] := by
  unfold P_J0_isLatin1_aae02 at h
  refine ww_getsZ 0 X dJ0_isLatin1_aae02_0 kJ_J0_38 ?_
  refine ww_if_eq 3 17 X dJ0_isLatin1_aae02_3 (by decide) (fun q => ?_) (fun q => ?_)
  · replace h := (if_pos q).symm.trans h
    refine ww_iconst 17 X (v := (0 : Int32)) dJ0_isLatin1_aae02_17 (by decide) ?_
    exact ww_zretE 18 X hQ dJ0_isLatin1_aae02_18 h
  · replace h := (if_neg q).symm.trans h
    refine ww_aload_n 6 X dJ0_isLatin1_aae02_6 0 rfl rfl ?_
    obtain ⟨v7, e7, h⟩ := bO_some h
    refine ww_getJI 7 X dJ0_isLatin1_aae02_7 kJ_J0_15 e7 ?_
    refine ww_if_ne 10 17 X dJ0_isLatin1_aae02_10 (by decide) (fun q => ?_) (fun q => ?_)
    · replace h := (if_neg q).symm.trans h
      refine ww_iconst 17 X (v := (0 : Int32)) dJ0_isLatin1_aae02_17 (by decide) ?_
      exact ww_zretE 18 X hQ dJ0_isLatin1_aae02_18 h
    · replace h := (if_pos q).symm.trans h
      refine ww_iconst 13 X (v := (1 : Int32)) dJ0_isLatin1_aae02_13 (by decide) ?_
      refine ww_goto 14 18 X dJ0_isLatin1_aae02_14 (by decide) ?_
      exact ww_zretE 18 X hQ dJ0_isLatin1_aae02_18 h
theorem c_J0_isLatin1_aae02 {G : mG} {F sz : Nat} {r0 : Int32} {M0 : mM} (l : Launch) (D : mD) (A : Nat → Prop) {l0 : Nat} {M : mM} (h : P_J0_isLatin1_aae02 G F l0 M = some (r0, M0)) : mMetI l D G A yJ0_isLatin1_aae02 cJ0_isLatin1_aae02 1 (some .boolean) 0 0 0 0 [.ref l0] M sz r0 M0 sz := mMetI_of l D G A (by decide) (Nat.le_of_ble_eq_true rfl) (fun x X hQ => wP_J0_isLatin1_aae02 X hQ h)
/-! java/lang/String.length()I -/
theorem dJ0_length_8abf5_0 : decode cJ0_length_8abf5 0 = .ok (.aload_n 0, 1) := by decide +kernel
theorem dJ0_length_8abf5_1 : decode cJ0_length_8abf5 1 = .ok (.getfield 9, 3) := by decide +kernel
theorem dJ0_length_8abf5_4 : decode cJ0_length_8abf5 4 = .ok (.arraylength, 1) := by decide +kernel
theorem dJ0_length_8abf5_5 : decode cJ0_length_8abf5 5 = .ok (.aload_n 0, 1) := by decide +kernel
theorem dJ0_length_8abf5_6 : decode cJ0_length_8abf5 6 = .ok (.invokevirtual 335, 3) := by decide +kernel
theorem dJ0_length_8abf5_9 : decode cJ0_length_8abf5 9 = .ok (.ishr, 1) := by decide +kernel
theorem dJ0_length_8abf5_10 : decode cJ0_length_8abf5 10 = .ok (.ireturn, 1) := by decide +kernel
abbrev rmJ0_length_8abf5 : Room := { frames := 1, cells := 0, slots := 0, locals := 20 }
set_option maxHeartbeats 4000000 in
set_option maxRecDepth 100000 in
theorem wP_J0_length_8abf5 {G : mG} {F : Nat} {x : mXT} {sz : Nat} {r0 : Int32} {M0 : mM} (X : mCX G RJ0 cJ0_length_8abf5 1 (some .int) "length" rmJ0_length_8abf5 x) (hQ : mQI x r0 M0 (sz, 0, 0)) {l0 : Nat} {M : mM} (h : P_J0_length_8abf5 G F l0 M = some (r0, M0)) : WW x (sz, 0, 0) M 0 [(0, .ref l0)] [] := by
  unfold P_J0_length_8abf5 at h
  refine ww_aload_n 0 X dJ0_length_8abf5_0 0 rfl rfl ?_
  obtain ⟨v1, e1, h⟩ := bO_some h
  refine ww_getJR 1 X dJ0_length_8abf5_1 kJ_J0_9 e1 ?_
  obtain ⟨v4, e4, h⟩ := bO_some h
  refine ww_alen 4 X dJ0_length_8abf5_4 e4 ?_
  refine ww_aload_n 5 X dJ0_length_8abf5_5 0 rfl rfl ?_
  obtain ⟨_, f6, h⟩ := bO_some h
  obtain ⟨v6, M6, e6, h⟩ := bP_some h
  refine ww_callVIs 6 X dJ0_length_8abf5_6 mY_J0_coder_7d493 mL_J0_335 (rcs_spec f6) rfl (As := []) (rest := [.int v4]) rfl rfl ⟨Nat.le_of_ble_eq_true rfl, Nat.le_of_ble_eq_true rfl⟩ (Nat.le_of_ble_eq_true rfl) (fun l D A => c_J0_coder_7d493 l D A e6) ?_
  refine ww_ishr 9 X dJ0_length_8abf5_9 ?_
  exact ww_iretE 10 X hQ dJ0_length_8abf5_10 h
theorem c_J0_length_8abf5 {G : mG} {F sz : Nat} {r0 : Int32} {M0 : mM} (l : Launch) (D : mD) (A : Nat → Prop) {l0 : Nat} {M : mM} (h : P_J0_length_8abf5 G F l0 M = some (r0, M0)) : mMetI l D G A yJ0_length_8abf5 cJ0_length_8abf5 1 (some .int) 1 20 0 0 [.ref l0] M sz r0 M0 sz := mMetI_of l D G A (by decide) (Nat.le_of_ble_eq_true rfl) (fun x X hQ => wP_J0_length_8abf5 X hQ h)
/-! java/lang/StringLatin1.charAt([BI)C -/
theorem dJ1_charAt_3b067_0 : decode cJ1_charAt_3b067 0 = .ok (.iload_n 1, 1) := by decide +kernel
theorem dJ1_charAt_3b067_1 : decode cJ1_charAt_3b067 1 = .ok (.aload_n 0, 1) := by decide +kernel
theorem dJ1_charAt_3b067_2 : decode cJ1_charAt_3b067 2 = .ok (.arraylength, 1) := by decide +kernel
theorem dJ1_charAt_3b067_3 : decode cJ1_charAt_3b067 3 = .ok (.invokestatic 9, 3) := by decide +kernel
theorem dJ1_charAt_3b067_6 : decode cJ1_charAt_3b067 6 = .ok (.aload_n 0, 1) := by decide +kernel
theorem dJ1_charAt_3b067_7 : decode cJ1_charAt_3b067 7 = .ok (.iload_n 1, 1) := by decide +kernel
theorem dJ1_charAt_3b067_8 : decode cJ1_charAt_3b067 8 = .ok (.baload, 1) := by decide +kernel
theorem dJ1_charAt_3b067_9 : decode cJ1_charAt_3b067 9 = .ok (.sipush 255, 3) := by decide +kernel
theorem dJ1_charAt_3b067_12 : decode cJ1_charAt_3b067 12 = .ok (.iand, 1) := by decide +kernel
theorem dJ1_charAt_3b067_13 : decode cJ1_charAt_3b067 13 = .ok (.i2c, 1) := by decide +kernel
theorem dJ1_charAt_3b067_14 : decode cJ1_charAt_3b067 14 = .ok (.ireturn, 1) := by decide +kernel
abbrev rmJ1_charAt_3b067 : Room := { frames := 2, cells := 0, slots := 0, locals := 43 }
set_option maxHeartbeats 4000000 in
set_option maxRecDepth 100000 in
theorem wP_J1_charAt_3b067 {G : mG} {F : Nat} {x : mXT} {sz : Nat} {r0 : Int32} {M0 : mM} (X : mCX G RJ1 cJ1_charAt_3b067 2 (some .char) "charAt" rmJ1_charAt_3b067 x) (hQ : mQI x r0 M0 (sz, 0, 0)) {l0 : Nat} {l1 : Int32} {M : mM} (h : P_J1_charAt_3b067 G F l0 l1 M = some (r0, M0)) : WW x (sz, 0, 0) M 0 [(0, .ref l0), (1, .int l1)] [] := by
  unfold P_J1_charAt_3b067 at h
  refine ww_iload_n 0 X dJ1_charAt_3b067_0 1 rfl rfl ?_
  refine ww_aload_n 1 X dJ1_charAt_3b067_1 0 rfl rfl ?_
  obtain ⟨v2, e2, h⟩ := bO_some h
  refine ww_alen 2 X dJ1_charAt_3b067_2 e2 ?_
  obtain ⟨M3, e3, h⟩ := bO_some h
  refine ww_callSV0 3 X dJ1_charAt_3b067_3 mY_J0_checkIndex_df160 mL_J1_9 (As := [.int l1, .int v2]) (rest := []) rfl rfl ⟨Nat.le_of_ble_eq_true rfl, Nat.le_of_ble_eq_true rfl⟩ (Nat.le_of_ble_eq_true rfl) (fun l D A => c_J0_checkIndex_df160 l D A e3) ?_
  refine ww_aload_n 6 X dJ1_charAt_3b067_6 0 rfl rfl ?_
  refine ww_iload_n 7 X dJ1_charAt_3b067_7 1 rfl rfl ?_
  obtain ⟨v8, e8, h⟩ := bO_some h
  refine ww_bald 8 X dJ1_charAt_3b067_8 e8 ?_
  refine ww_sipush 9 X (v := (255 : Int32)) dJ1_charAt_3b067_9 (by decide) ?_
  refine ww_iand 12 X dJ1_charAt_3b067_12 ?_
  refine ww_i2c 13 X dJ1_charAt_3b067_13 ?_
  exact ww_cretE 14 X hQ dJ1_charAt_3b067_14 h
theorem c_J1_charAt_3b067 {G : mG} {F sz : Nat} {r0 : Int32} {M0 : mM} (l : Launch) (D : mD) (A : Nat → Prop) {l0 : Nat} {l1 : Int32} {M : mM} (h : P_J1_charAt_3b067 G F l0 l1 M = some (r0, M0)) : mMetI l D G A yJ1_charAt_3b067 cJ1_charAt_3b067 2 (some .char) 2 43 0 0 [.ref l0, .int l1] M sz r0 M0 sz := mMetI_of l D G A (by decide) (Nat.le_of_ble_eq_true rfl) (fun x X hQ => wP_J1_charAt_3b067 X hQ h)
/-! java/lang/String.charAt(I)C -/
theorem dJ0_charAt_5068e_0 : decode cJ0_charAt_5068e 0 = .ok (.aload_n 0, 1) := by decide +kernel
theorem dJ0_charAt_5068e_1 : decode cJ0_charAt_5068e 1 = .ok (.invokevirtual 492, 3) := by decide +kernel
theorem dJ0_charAt_5068e_4 : decode cJ0_charAt_5068e 4 = .ok (.ifCond .eq 12, 3) := by decide +kernel
theorem dJ0_charAt_5068e_7 : decode cJ0_charAt_5068e 7 = .ok (.aload_n 0, 1) := by decide +kernel
theorem dJ0_charAt_5068e_8 : decode cJ0_charAt_5068e 8 = .ok (.getfield 9, 3) := by decide +kernel
theorem dJ0_charAt_5068e_11 : decode cJ0_charAt_5068e 11 = .ok (.iload_n 1, 1) := by decide +kernel
theorem dJ0_charAt_5068e_12 : decode cJ0_charAt_5068e 12 = .ok (.invokestatic 495, 3) := by decide +kernel
theorem dJ0_charAt_5068e_15 : decode cJ0_charAt_5068e 15 = .ok (.ireturn, 1) := by decide +kernel
theorem dJ0_charAt_5068e_16 : decode cJ0_charAt_5068e 16 = .ok (.aload_n 0, 1) := by decide +kernel
theorem dJ0_charAt_5068e_17 : decode cJ0_charAt_5068e 17 = .ok (.getfield 9, 3) := by decide +kernel
theorem dJ0_charAt_5068e_20 : decode cJ0_charAt_5068e 20 = .ok (.iload_n 1, 1) := by decide +kernel
theorem dJ0_charAt_5068e_21 : decode cJ0_charAt_5068e 21 = .ok (.invokestatic 498, 3) := by decide +kernel
theorem dJ0_charAt_5068e_24 : decode cJ0_charAt_5068e 24 = .ok (.ireturn, 1) := by decide +kernel
abbrev rmJ0_charAt_5068e : Room := { frames := 3, cells := 0, slots := 0, locals := 64 }
set_option maxHeartbeats 4000000 in
set_option maxRecDepth 100000 in
theorem wP_J0_charAt_5068e {G : mG} {F : Nat} {x : mXT} {sz : Nat} {r0 : Int32} {M0 : mM} (X : mCX G RJ0 cJ0_charAt_5068e 2 (some .char) "charAt" rmJ0_charAt_5068e x) (hQ : mQI x r0 M0 (sz, 0, 0)) {l0 : Nat} {l1 : Int32} {M : mM} (h : P_J0_charAt_5068e G F l0 l1 M = some (r0, M0)) : WW x (sz, 0, 0) M 0 [(0, .ref l0), (1, .int l1)] [] := by
  unfold P_J0_charAt_5068e at h
  refine ww_aload_n 0 X dJ0_charAt_5068e_0 0 rfl rfl ?_
  obtain ⟨_, f1, h⟩ := bO_some h
  obtain ⟨v1, M1, e1, h⟩ := bP_some h
  refine ww_callVIs 1 X dJ0_charAt_5068e_1 mY_J0_isLatin1_aae02 mL_J0_492 (rcs_spec f1) rfl (As := []) (rest := []) rfl rfl ⟨Nat.le_of_ble_eq_true rfl, Nat.le_of_ble_eq_true rfl⟩ (Nat.le_of_ble_eq_true rfl) (fun l D A => c_J0_isLatin1_aae02 l D A e1) ?_
  refine ww_if_eq 4 16 X dJ0_charAt_5068e_4 (by decide) (fun q => ?_) (fun q => ?_)
  · replace h := (if_pos q).symm.trans h
    refine ww_aload_n 16 X dJ0_charAt_5068e_16 0 rfl rfl ?_
    obtain ⟨v17, e17, h⟩ := bO_some h
    refine ww_getJR 17 X dJ0_charAt_5068e_17 kJ_J0_9 e17 ?_
    refine ww_iload_n 20 X dJ0_charAt_5068e_20 1 rfl rfl ?_
    exact nomatch (show (none : Option (Int32 × mM)) = some _ from h)
  · replace h := (if_neg q).symm.trans h
    refine ww_aload_n 7 X dJ0_charAt_5068e_7 0 rfl rfl ?_
    obtain ⟨v8, e8, h⟩ := bO_some h
    refine ww_getJR 8 X dJ0_charAt_5068e_8 kJ_J0_9 e8 ?_
    refine ww_iload_n 11 X dJ0_charAt_5068e_11 1 rfl rfl ?_
    obtain ⟨v12, M12, e12, h⟩ := bP_some h
    refine ww_callSI0 12 X dJ0_charAt_5068e_12 mY_J1_charAt_3b067 mL_J0_495 (As := [.ref v8, .int l1]) (rest := []) rfl rfl ⟨Nat.le_of_ble_eq_true rfl, Nat.le_of_ble_eq_true rfl⟩ (Nat.le_of_ble_eq_true rfl) (fun l D A => c_J1_charAt_3b067 l D A e12) ?_
    exact ww_cretE 15 X hQ dJ0_charAt_5068e_15 h
theorem c_J0_charAt_5068e {G : mG} {F sz : Nat} {r0 : Int32} {M0 : mM} (l : Launch) (D : mD) (A : Nat → Prop) {l0 : Nat} {l1 : Int32} {M : mM} (h : P_J0_charAt_5068e G F l0 l1 M = some (r0, M0)) : mMetI l D G A yJ0_charAt_5068e cJ0_charAt_5068e 2 (some .char) 3 64 0 0 [.ref l0, .int l1] M sz r0 M0 sz := mMetI_of l D G A (by decide) (Nat.le_of_ble_eq_true rfl) (fun x X hQ => wP_J0_charAt_5068e X hQ h)
/-! java/lang/StringLatin1.canEncode(I)Z -/
theorem dJ1_canEncode_9a6ad_0 : decode cJ1_canEncode_9a6ad 0 = .ok (.iload_n 0, 1) := by decide +kernel
theorem dJ1_canEncode_9a6ad_1 : decode cJ1_canEncode_9a6ad 1 = .ok (.ifCond .lt 14, 3) := by decide +kernel
theorem dJ1_canEncode_9a6ad_4 : decode cJ1_canEncode_9a6ad 4 = .ok (.iload_n 0, 1) := by decide +kernel
theorem dJ1_canEncode_9a6ad_5 : decode cJ1_canEncode_9a6ad 5 = .ok (.sipush 255, 3) := by decide +kernel
theorem dJ1_canEncode_9a6ad_8 : decode cJ1_canEncode_9a6ad 8 = .ok (.if_icmp .gt 7, 3) := by decide +kernel
theorem dJ1_canEncode_9a6ad_11 : decode cJ1_canEncode_9a6ad 11 = .ok (.iconst 1, 1) := by decide +kernel
theorem dJ1_canEncode_9a6ad_12 : decode cJ1_canEncode_9a6ad 12 = .ok (.goto 4, 3) := by decide +kernel
theorem dJ1_canEncode_9a6ad_15 : decode cJ1_canEncode_9a6ad 15 = .ok (.iconst 0, 1) := by decide +kernel
theorem dJ1_canEncode_9a6ad_16 : decode cJ1_canEncode_9a6ad 16 = .ok (.ireturn, 1) := by decide +kernel
abbrev rmJ1_canEncode_9a6ad : Room := { frames := 0, cells := 0, slots := 0, locals := 0 }
set_option maxHeartbeats 4000000 in
set_option maxRecDepth 100000 in
theorem wP_J1_canEncode_9a6ad {G : mG} {F : Nat} {x : mXT} {sz : Nat} {r0 : Int32} {M0 : mM} (X : mCX G RJ1 cJ1_canEncode_9a6ad 1 (some .boolean) "canEncode" rmJ1_canEncode_9a6ad x) (hQ : mQI x r0 M0 (sz, 0, 0)) {l0 : Int32} {M : mM} (h : P_J1_canEncode_9a6ad G F l0 M = some (r0, M0)) : WW x (sz, 0, 0) M 0 [(0, .int l0)] [] := by
  unfold P_J1_canEncode_9a6ad at h
  refine ww_iload_n 0 X dJ1_canEncode_9a6ad_0 0 rfl rfl ?_
  refine ww_if_lt 1 15 X dJ1_canEncode_9a6ad_1 (by decide) (fun q => ?_) (fun q => ?_)
  · replace h := (if_pos q).symm.trans h
    refine ww_iconst 15 X (v := (0 : Int32)) dJ1_canEncode_9a6ad_15 (by decide) ?_
    exact ww_zretE 16 X hQ dJ1_canEncode_9a6ad_16 h
  · replace h := (if_neg q).symm.trans h
    refine ww_iload_n 4 X dJ1_canEncode_9a6ad_4 0 rfl rfl ?_
    refine ww_sipush 5 X (v := (255 : Int32)) dJ1_canEncode_9a6ad_5 (by decide) ?_
    refine ww_icmp_gt 8 15 X dJ1_canEncode_9a6ad_8 (by decide) (fun q => ?_) (fun q => ?_)
    · replace h := (if_pos q).symm.trans h
      refine ww_iconst 15 X (v := (0 : Int32)) dJ1_canEncode_9a6ad_15 (by decide) ?_
      exact ww_zretE 16 X hQ dJ1_canEncode_9a6ad_16 h
    · replace h := (if_neg q).symm.trans h
      refine ww_iconst 11 X (v := (1 : Int32)) dJ1_canEncode_9a6ad_11 (by decide) ?_
      refine ww_goto 12 16 X dJ1_canEncode_9a6ad_12 (by decide) ?_
      exact ww_zretE 16 X hQ dJ1_canEncode_9a6ad_16 h
theorem c_J1_canEncode_9a6ad {G : mG} {F sz : Nat} {r0 : Int32} {M0 : mM} (l : Launch) (D : mD) (A : Nat → Prop) {l0 : Int32} {M : mM} (h : P_J1_canEncode_9a6ad G F l0 M = some (r0, M0)) : mMetI l D G A yJ1_canEncode_9a6ad cJ1_canEncode_9a6ad 1 (some .boolean) 0 0 0 0 [.int l0] M sz r0 M0 sz := mMetI_of l D G A (by decide) (Nat.le_of_ble_eq_true rfl) (fun x X hQ => wP_J1_canEncode_9a6ad X hQ h)
/-! java/lang/StringLatin1.indexOfChar([BIII)I -/
theorem dJ1_indexOfChar_4cfef_0 : decode cJ1_indexOfChar_4cfef 0 = .ok (.iload_n 1, 1) := by decide +kernel
theorem dJ1_indexOfChar_4cfef_1 : decode cJ1_indexOfChar_4cfef 1 = .ok (.i2b, 1) := by decide +kernel
theorem dJ1_indexOfChar_4cfef_2 : decode cJ1_indexOfChar_4cfef 2 = .ok (.istore 4, 2) := by decide +kernel
theorem dJ1_indexOfChar_4cfef_4 : decode cJ1_indexOfChar_4cfef 4 = .ok (.iload_n 2, 1) := by decide +kernel
theorem dJ1_indexOfChar_4cfef_5 : decode cJ1_indexOfChar_4cfef 5 = .ok (.istore 5, 2) := by decide +kernel
theorem dJ1_indexOfChar_4cfef_7 : decode cJ1_indexOfChar_4cfef 7 = .ok (.iload 5, 2) := by decide +kernel
theorem dJ1_indexOfChar_4cfef_9 : decode cJ1_indexOfChar_4cfef 9 = .ok (.iload_n 3, 1) := by decide +kernel
theorem dJ1_indexOfChar_4cfef_10 : decode cJ1_indexOfChar_4cfef 10 = .ok (.if_icmp .ge 21, 3) := by decide +kernel
theorem dJ1_indexOfChar_4cfef_13 : decode cJ1_indexOfChar_4cfef 13 = .ok (.aload_n 0, 1) := by decide +kernel
theorem dJ1_indexOfChar_4cfef_14 : decode cJ1_indexOfChar_4cfef 14 = .ok (.iload 5, 2) := by decide +kernel
theorem dJ1_indexOfChar_4cfef_16 : decode cJ1_indexOfChar_4cfef 16 = .ok (.baload, 1) := by decide +kernel
theorem dJ1_indexOfChar_4cfef_17 : decode cJ1_indexOfChar_4cfef 17 = .ok (.iload 4, 2) := by decide +kernel
theorem dJ1_indexOfChar_4cfef_19 : decode cJ1_indexOfChar_4cfef 19 = .ok (.if_icmp .ne 6, 3) := by decide +kernel
theorem dJ1_indexOfChar_4cfef_22 : decode cJ1_indexOfChar_4cfef 22 = .ok (.iload 5, 2) := by decide +kernel
theorem dJ1_indexOfChar_4cfef_24 : decode cJ1_indexOfChar_4cfef 24 = .ok (.ireturn, 1) := by decide +kernel
theorem dJ1_indexOfChar_4cfef_25 : decode cJ1_indexOfChar_4cfef 25 = .ok (.iinc 5 1, 3) := by decide +kernel
theorem dJ1_indexOfChar_4cfef_28 : decode cJ1_indexOfChar_4cfef 28 = .ok (.goto (-21), 3) := by decide +kernel
theorem dJ1_indexOfChar_4cfef_31 : decode cJ1_indexOfChar_4cfef 31 = .ok (.iconst (-1), 1) := by decide +kernel
theorem dJ1_indexOfChar_4cfef_32 : decode cJ1_indexOfChar_4cfef 32 = .ok (.ireturn, 1) := by decide +kernel
abbrev rmJ1_indexOfChar_4cfef : Room := { frames := 0, cells := 0, slots := 0, locals := 0 }
set_option maxHeartbeats 4000000 in
set_option maxRecDepth 100000 in
theorem wB_J1_indexOfChar_4cfef_7 {G : mG} {F : Nat} {x : mXT} {sz : Nat} {r0 : Int32} {M0 : mM} (X : mCX G RJ1 cJ1_indexOfChar_4cfef 6 (some .int) "indexOfChar" rmJ1_indexOfChar_4cfef x) (hQ : mQI x r0 M0 (sz, 0, 0)) : ∀ (n : Nat) (l0 : Nat) (l3 : Int32) (l4 : Int32) (l5 : Int32) (M : mM), B_J1_indexOfChar_4cfef_7 G F n l0 l3 l4 l5 M = some (r0, M0) → WW x (sz, 0, 0) M 7 [(0, .ref l0), (3, .int l3), (4, .int l4), (5, .int l5)] [] := by
  intro n
  induction n with
  | zero =>
    intro l0 l3 l4 l5 M h
    exact nomatch (show (none : Option (Int32 × mM)) = some (r0, M0) from h)
  | succ n ih =>
    intro l0 l3 l4 l5 M h
    rw [B_J1_indexOfChar_4cfef_7] at h
    refine ww_iload 7 X dJ1_indexOfChar_4cfef_7 3 rfl ?_
    refine ww_iload_n 9 X dJ1_indexOfChar_4cfef_9 1 rfl rfl ?_
    refine ww_icmp_ge 10 31 X dJ1_indexOfChar_4cfef_10 (by decide) (fun q => ?_) (fun q => ?_)
    · replace h := (if_pos q).symm.trans h
      refine ww_iconst 31 X (v := (-1 : Int32)) dJ1_indexOfChar_4cfef_31 (by decide) ?_
      exact ww_iretE 32 X hQ dJ1_indexOfChar_4cfef_32 h
    · replace h := (if_neg q).symm.trans h
      refine ww_aload_n 13 X dJ1_indexOfChar_4cfef_13 0 rfl rfl ?_
      refine ww_iload 14 X dJ1_indexOfChar_4cfef_14 3 rfl ?_
      obtain ⟨v16, e16, h⟩ := bO_some h
      refine ww_bald 16 X dJ1_indexOfChar_4cfef_16 e16 ?_
      refine ww_iload 17 X dJ1_indexOfChar_4cfef_17 2 rfl ?_
      refine ww_icmp_ne 19 25 X dJ1_indexOfChar_4cfef_19 (by decide) (fun q => ?_) (fun q => ?_)
      · replace h := (if_neg q).symm.trans h
        refine ww_iinc 25 X dJ1_indexOfChar_4cfef_25 (lv' := [(0, .ref l0), (3, .int l3), (4, .int l4), (5, .int (l5 + 1))]) 3 rfl rfl (by decide) [1, 2, 3, 0] rfl ?_
        refine ww_goto 28 7 X dJ1_indexOfChar_4cfef_28 (by decide) ?_
        exact (ih _ _ _ _ _ h)
      · replace h := (if_pos q).symm.trans h
        refine ww_iload 22 X dJ1_indexOfChar_4cfef_22 3 rfl ?_
        exact ww_iretE 24 X hQ dJ1_indexOfChar_4cfef_24 h
set_option maxHeartbeats 4000000 in
set_option maxRecDepth 100000 in
theorem wP_J1_indexOfChar_4cfef {G : mG} {F : Nat} {x : mXT} {sz : Nat} {r0 : Int32} {M0 : mM} (X : mCX G RJ1 cJ1_indexOfChar_4cfef 6 (some .int) "indexOfChar" rmJ1_indexOfChar_4cfef x) (hQ : mQI x r0 M0 (sz, 0, 0)) {l0 : Nat} {l1 : Int32} {l2 : Int32} {l3 : Int32} {M : mM} (h : P_J1_indexOfChar_4cfef G F l0 l1 l2 l3 M = some (r0, M0)) : WW x (sz, 0, 0) M 0 [(0, .ref l0), (1, .int l1), (2, .int l2), (3, .int l3)] [] := by
  unfold P_J1_indexOfChar_4cfef at h
  refine ww_iload_n 0 X dJ1_indexOfChar_4cfef_0 1 rfl rfl ?_
  refine ww_i2b 1 X dJ1_indexOfChar_4cfef_1 ?_
  refine ww_istore 2 X dJ1_indexOfChar_4cfef_2 (lv' := [(0, .ref l0), (1, .int l1), (2, .int l2), (3, .int l3), (4, .int (l1.toInt8.toInt32))]) (by decide) [1, 2, 3, 4, 0] rfl ?_
  refine ww_iload_n 4 X dJ1_indexOfChar_4cfef_4 2 rfl rfl ?_
  refine ww_istore 5 X dJ1_indexOfChar_4cfef_5 (lv' := [(0, .ref l0), (1, .int l1), (2, .int l2), (3, .int l3), (4, .int (l1.toInt8.toInt32)), (5, .int l2)]) (by decide) [1, 2, 3, 4, 5, 0] rfl ?_
  exact ww_sub [0, 3, 4, 5] rfl (wB_J1_indexOfChar_4cfef_7 X hQ F _ _ _ _ _ h)
theorem c_J1_indexOfChar_4cfef {G : mG} {F sz : Nat} {r0 : Int32} {M0 : mM} (l : Launch) (D : mD) (A : Nat → Prop) {l0 : Nat} {l1 : Int32} {l2 : Int32} {l3 : Int32} {M : mM} (h : P_J1_indexOfChar_4cfef G F l0 l1 l2 l3 M = some (r0, M0)) : mMetI l D G A yJ1_indexOfChar_4cfef cJ1_indexOfChar_4cfef 6 (some .int) 0 0 0 0 [.ref l0, .int l1, .int l2, .int l3] M sz r0 M0 sz := mMetI_of l D G A (by decide) (Nat.le_of_ble_eq_true rfl) (fun x X hQ => wP_J1_indexOfChar_4cfef X hQ h)
/-! java/lang/StringLatin1.indexOf([BIII)I -/
theorem dJ1_indexOf_4cfef_0 : decode cJ1_indexOf_4cfef 0 = .ok (.iload_n 1, 1) := by decide +kernel
theorem dJ1_indexOf_4cfef_1 : decode cJ1_indexOf_4cfef 1 = .ok (.invokestatic 88, 3) := by decide +kernel
theorem dJ1_indexOf_4cfef_4 : decode cJ1_indexOf_4cfef 4 = .ok (.ifCond .ne 5, 3) := by decide +kernel
theorem dJ1_indexOf_4cfef_7 : decode cJ1_indexOf_4cfef 7 = .ok (.iconst (-1), 1) := by decide +kernel
theorem dJ1_indexOf_4cfef_8 : decode cJ1_indexOf_4cfef 8 = .ok (.ireturn, 1) := by decide +kernel
theorem dJ1_indexOf_4cfef_9 : decode cJ1_indexOf_4cfef 9 = .ok (.iload_n 2, 1) := by decide +kernel
theorem dJ1_indexOf_4cfef_10 : decode cJ1_indexOf_4cfef 10 = .ok (.iconst 0, 1) := by decide +kernel
theorem dJ1_indexOf_4cfef_11 : decode cJ1_indexOf_4cfef 11 = .ok (.invokestatic 92, 3) := by decide +kernel
theorem dJ1_indexOf_4cfef_14 : decode cJ1_indexOf_4cfef 14 = .ok (.istore_n 2, 1) := by decide +kernel
theorem dJ1_indexOf_4cfef_15 : decode cJ1_indexOf_4cfef 15 = .ok (.iload_n 3, 1) := by decide +kernel
theorem dJ1_indexOf_4cfef_16 : decode cJ1_indexOf_4cfef 16 = .ok (.aload_n 0, 1) := by decide +kernel
theorem dJ1_indexOf_4cfef_17 : decode cJ1_indexOf_4cfef 17 = .ok (.arraylength, 1) := by decide +kernel
theorem dJ1_indexOf_4cfef_18 : decode cJ1_indexOf_4cfef 18 = .ok (.invokestatic 38, 3) := by decide +kernel
theorem dJ1_indexOf_4cfef_21 : decode cJ1_indexOf_4cfef 21 = .ok (.istore_n 3, 1) := by decide +kernel
theorem dJ1_indexOf_4cfef_22 : decode cJ1_indexOf_4cfef 22 = .ok (.iload_n 2, 1) := by decide +kernel
theorem dJ1_indexOf_4cfef_23 : decode cJ1_indexOf_4cfef 23 = .ok (.iload_n 3, 1) := by decide +kernel
theorem dJ1_indexOf_4cfef_24 : decode cJ1_indexOf_4cfef 24 = .ok (.if_icmp .lt 5, 3) := by decide +kernel
theorem dJ1_indexOf_4cfef_27 : decode cJ1_indexOf_4cfef 27 = .ok (.iconst (-1), 1) := by decide +kernel
theorem dJ1_indexOf_4cfef_28 : decode cJ1_indexOf_4cfef 28 = .ok (.ireturn, 1) := by decide +kernel
theorem dJ1_indexOf_4cfef_29 : decode cJ1_indexOf_4cfef 29 = .ok (.aload_n 0, 1) := by decide +kernel
theorem dJ1_indexOf_4cfef_30 : decode cJ1_indexOf_4cfef 30 = .ok (.iload_n 1, 1) := by decide +kernel
theorem dJ1_indexOf_4cfef_31 : decode cJ1_indexOf_4cfef 31 = .ok (.iload_n 2, 1) := by decide +kernel
theorem dJ1_indexOf_4cfef_32 : decode cJ1_indexOf_4cfef 32 = .ok (.iload_n 3, 1) := by decide +kernel
theorem dJ1_indexOf_4cfef_33 : decode cJ1_indexOf_4cfef 33 = .ok (.invokestatic 95, 3) := by decide +kernel
theorem dJ1_indexOf_4cfef_36 : decode cJ1_indexOf_4cfef 36 = .ok (.ireturn, 1) := by decide +kernel
abbrev rmJ1_indexOf_4cfef : Room := { frames := 1, cells := 0, slots := 0, locals := 25 }
set_option maxHeartbeats 4000000 in
set_option maxRecDepth 100000 in
theorem wP_J1_indexOf_4cfef {G : mG} {F : Nat} {x : mXT} {sz : Nat} {r0 : Int32} {M0 : mM} (X : mCX G RJ1 cJ1_indexOf_4cfef 4 (some .int) "indexOf" rmJ1_indexOf_4cfef x) (hQ : mQI x r0 M0 (sz, 0, 0)) {l0 : Nat} {l1 : Int32} {l2 : Int32} {l3 : Int32} {M : mM} (h : P_J1_indexOf_4cfef G F l0 l1 l2 l3 M = some (r0, M0)) : WW x (sz, 0, 0) M 0 [(0, .ref l0), (1, .int l1), (2, .int l2), (3, .int l3)] [] := by
  unfold P_J1_indexOf_4cfef at h
  refine ww_iload_n 0 X dJ1_indexOf_4cfef_0 1 rfl rfl ?_
  obtain ⟨v1, M1, e1, h⟩ := bP_some h
  refine ww_callSI0 1 X dJ1_indexOf_4cfef_1 mY_J1_canEncode_9a6ad mL_J1_88 (As := [.int l1]) (rest := []) rfl rfl ⟨Nat.le_of_ble_eq_true rfl, Nat.le_of_ble_eq_true rfl⟩ (Nat.le_of_ble_eq_true rfl) (fun l D A => c_J1_canEncode_9a6ad l D A e1) ?_
  refine ww_if_ne 4 9 X dJ1_indexOf_4cfef_4 (by decide) (fun q => ?_) (fun q => ?_)
  · replace h := (if_neg q).symm.trans h
    refine ww_iload_n 9 X dJ1_indexOf_4cfef_9 2 rfl rfl ?_
    refine ww_iconst 10 X (v := (0 : Int32)) dJ1_indexOf_4cfef_10 (by decide) ?_
    refine ww_mmax 11 X (st := []) dJ1_indexOf_4cfef_11 mL_J1_92 (Nat.le_of_ble_eq_true rfl) (Nat.le_of_ble_eq_true rfl) (Nat.le_of_ble_eq_true rfl) ⟨Nat.zero_le _, Nat.zero_le _⟩ ?_
    refine ww_istore_n 14 X dJ1_indexOf_4cfef_14 (lv' := [(0, .ref l0), (1, .int l1), (2, .int (if l2 < (0 : Int32) then (0 : Int32) else l2)), (3, .int l3)]) rfl (by decide) [1, 2, 0, 3] rfl ?_
    refine ww_iload_n 15 X dJ1_indexOf_4cfef_15 3 rfl rfl ?_
    refine ww_aload_n 16 X dJ1_indexOf_4cfef_16 0 rfl rfl ?_
    obtain ⟨v17, e17, h⟩ := bO_some h
    refine ww_alen 17 X dJ1_indexOf_4cfef_17 e17 ?_
    refine ww_mmin 18 X (st := []) dJ1_indexOf_4cfef_18 mL_J1_38 (Nat.le_of_ble_eq_true rfl) (Nat.le_of_ble_eq_true rfl) (Nat.le_of_ble_eq_true rfl) ⟨Nat.zero_le _, Nat.zero_le _⟩ ?_
    refine ww_istore_n 21 X dJ1_indexOf_4cfef_21 (lv' := [(0, .ref l0), (1, .int l1), (2, .int (if l2 < (0 : Int32) then (0 : Int32) else l2)), (3, .int (if v17 < l3 then v17 else l3))]) rfl (by decide) [1, 2, 3, 0] rfl ?_
    refine ww_iload_n 22 X dJ1_indexOf_4cfef_22 2 rfl rfl ?_
    refine ww_iload_n 23 X dJ1_indexOf_4cfef_23 3 rfl rfl ?_
    refine ww_icmp_lt 24 29 X dJ1_indexOf_4cfef_24 (by decide) (fun q => ?_) (fun q => ?_)
    · replace h := (if_pos q).symm.trans h
      refine ww_aload_n 29 X dJ1_indexOf_4cfef_29 0 rfl rfl ?_
      refine ww_iload_n 30 X dJ1_indexOf_4cfef_30 1 rfl rfl ?_
      refine ww_iload_n 31 X dJ1_indexOf_4cfef_31 2 rfl rfl ?_
      refine ww_iload_n 32 X dJ1_indexOf_4cfef_32 3 rfl rfl ?_
      obtain ⟨v33, M33, e33, h⟩ := bP_some h
      refine ww_callSI0 33 X dJ1_indexOf_4cfef_33 mY_J1_indexOfChar_4cfef mL_J1_95 (As := [.ref l0, .int l1, .int (if l2 < (0 : Int32) then (0 : Int32) else l2), .int (if v17 < l3 then v17 else l3)]) (rest := []) rfl rfl ⟨Nat.le_of_ble_eq_true rfl, Nat.le_of_ble_eq_true rfl⟩ (Nat.le_of_ble_eq_true rfl) (fun l D A => c_J1_indexOfChar_4cfef l D A e33) ?_
      exact ww_iretE 36 X hQ dJ1_indexOf_4cfef_36 h
    · replace h := (if_neg q).symm.trans h
      refine ww_iconst 27 X (v := (-1 : Int32)) dJ1_indexOf_4cfef_27 (by decide) ?_
      exact ww_iretE 28 X hQ dJ1_indexOf_4cfef_28 h
  · replace h := (if_pos q).symm.trans h
    refine ww_iconst 7 X (v := (-1 : Int32)) dJ1_indexOf_4cfef_7 (by decide) ?_
    exact ww_iretE 8 X hQ dJ1_indexOf_4cfef_8 h
theorem c_J1_indexOf_4cfef {G : mG} {F sz : Nat} {r0 : Int32} {M0 : mM} (l : Launch) (D : mD) (A : Nat → Prop) {l0 : Nat} {l1 : Int32} {l2 : Int32} {l3 : Int32} {M : mM} (h : P_J1_indexOf_4cfef G F l0 l1 l2 l3 M = some (r0, M0)) : mMetI l D G A yJ1_indexOf_4cfef cJ1_indexOf_4cfef 4 (some .int) 1 25 0 0 [.ref l0, .int l1, .int l2, .int l3] M sz r0 M0 sz := mMetI_of l D G A (by decide) (Nat.le_of_ble_eq_true rfl) (fun x X hQ => wP_J1_indexOf_4cfef X hQ h)
/-! java/lang/String.indexOf(II)I -/
theorem dJ0_indexOf_7cf53_0 : decode cJ0_indexOf_7cf53 0 = .ok (.aload_n 0, 1) := by decide +kernel
theorem dJ0_indexOf_7cf53_1 : decode cJ0_indexOf_7cf53 1 = .ok (.invokevirtual 492, 3) := by decide +kernel
theorem dJ0_indexOf_7cf53_4 : decode cJ0_indexOf_7cf53 4 = .ok (.ifCond .eq 19, 3) := by decide +kernel
theorem dJ0_indexOf_7cf53_7 : decode cJ0_indexOf_7cf53 7 = .ok (.aload_n 0, 1) := by decide +kernel
theorem dJ0_indexOf_7cf53_8 : decode cJ0_indexOf_7cf53 8 = .ok (.getfield 9, 3) := by decide +kernel
theorem dJ0_indexOf_7cf53_11 : decode cJ0_indexOf_7cf53 11 = .ok (.iload_n 1, 1) := by decide +kernel
theorem dJ0_indexOf_7cf53_12 : decode cJ0_indexOf_7cf53 12 = .ok (.iload_n 2, 1) := by decide +kernel
theorem dJ0_indexOf_7cf53_13 : decode cJ0_indexOf_7cf53 13 = .ok (.aload_n 0, 1) := by decide +kernel
theorem dJ0_indexOf_7cf53_14 : decode cJ0_indexOf_7cf53 14 = .ok (.invokevirtual 505, 3) := by decide +kernel
theorem dJ0_indexOf_7cf53_17 : decode cJ0_indexOf_7cf53 17 = .ok (.invokestatic 637, 3) := by decide +kernel
theorem dJ0_indexOf_7cf53_20 : decode cJ0_indexOf_7cf53 20 = .ok (.goto 16, 3) := by decide +kernel
theorem dJ0_indexOf_7cf53_23 : decode cJ0_indexOf_7cf53 23 = .ok (.aload_n 0, 1) := by decide +kernel
theorem dJ0_indexOf_7cf53_24 : decode cJ0_indexOf_7cf53 24 = .ok (.getfield 9, 3) := by decide +kernel
theorem dJ0_indexOf_7cf53_27 : decode cJ0_indexOf_7cf53 27 = .ok (.iload_n 1, 1) := by decide +kernel
theorem dJ0_indexOf_7cf53_28 : decode cJ0_indexOf_7cf53 28 = .ok (.iload_n 2, 1) := by decide +kernel
theorem dJ0_indexOf_7cf53_29 : decode cJ0_indexOf_7cf53 29 = .ok (.aload_n 0, 1) := by decide +kernel
theorem dJ0_indexOf_7cf53_30 : decode cJ0_indexOf_7cf53 30 = .ok (.invokevirtual 505, 3) := by decide +kernel
theorem dJ0_indexOf_7cf53_33 : decode cJ0_indexOf_7cf53 33 = .ok (.invokestatic 640, 3) := by decide +kernel
theorem dJ0_indexOf_7cf53_36 : decode cJ0_indexOf_7cf53 36 = .ok (.ireturn, 1) := by decide +kernel
abbrev rmJ0_indexOf_7cf53 : Room := { frames := 2, cells := 0, slots := 0, locals := 48 }
set_option maxHeartbeats 4000000 in
set_option maxRecDepth 100000 in
theorem wP_J0_indexOf_7cf53 {G : mG} {F : Nat} {x : mXT} {sz : Nat} {r0 : Int32} {M0 : mM} (X : mCX G RJ0 cJ0_indexOf_7cf53 3 (some .int) "indexOf" rmJ0_indexOf_7cf53 x) (hQ : mQI x r0 M0 (sz, 0, 0)) {l0 : Nat} {l1 : Int32} {l2 : Int32} {M : mM} (h : P_J0_indexOf_7cf53 G F l0 l1 l2 M = some (r0, M0)) : WW x (sz, 0, 0) M 0 [(0, .ref l0), (1, .int l1), (2, .int l2)] [] := by
  unfold P_J0_indexOf_7cf53 at h
  refine ww_aload_n 0 X dJ0_indexOf_7cf53_0 0 rfl rfl ?_
  obtain ⟨_, f1, h⟩ := bO_some h
  obtain ⟨v1, M1, e1, h⟩ := bP_some h
  refine ww_callVIs 1 X dJ0_indexOf_7cf53_1 mY_J0_isLatin1_aae02 mL_J0_492 (rcs_spec f1) rfl (As := []) (rest := []) rfl rfl ⟨Nat.le_of_ble_eq_true rfl, Nat.le_of_ble_eq_true rfl⟩ (Nat.le_of_ble_eq_true rfl) (fun l D A => c_J0_isLatin1_aae02 l D A e1) ?_
  refine ww_if_eq 4 23 X dJ0_indexOf_7cf53_4 (by decide) (fun q => ?_) (fun q => ?_)
  · replace h := (if_pos q).symm.trans h
    refine ww_aload_n 23 X dJ0_indexOf_7cf53_23 0 rfl rfl ?_
    obtain ⟨v24, e24, h⟩ := bO_some h
    refine ww_getJR 24 X dJ0_indexOf_7cf53_24 kJ_J0_9 e24 ?_
    refine ww_iload_n 27 X dJ0_indexOf_7cf53_27 1 rfl rfl ?_
    refine ww_iload_n 28 X dJ0_indexOf_7cf53_28 2 rfl rfl ?_
    refine ww_aload_n 29 X dJ0_indexOf_7cf53_29 0 rfl rfl ?_
    obtain ⟨_, f30, h⟩ := bO_some h
    obtain ⟨v30, M30, e30, h⟩ := bP_some h
    refine ww_callVIs 30 X dJ0_indexOf_7cf53_30 mY_J0_length_8abf5 mL_J0_505 (rcs_spec f30) rfl (As := []) (rest := [.int l2, .int l1, .ref v24]) rfl rfl ⟨Nat.le_of_ble_eq_true rfl, Nat.le_of_ble_eq_true rfl⟩ (Nat.le_of_ble_eq_true rfl) (fun l D A => c_J0_length_8abf5 l D A e30) ?_
    exact nomatch (show (none : Option (Int32 × mM)) = some _ from h)
  · replace h := (if_neg q).symm.trans h
    refine ww_aload_n 7 X dJ0_indexOf_7cf53_7 0 rfl rfl ?_
    obtain ⟨v8, e8, h⟩ := bO_some h
    refine ww_getJR 8 X dJ0_indexOf_7cf53_8 kJ_J0_9 e8 ?_
    refine ww_iload_n 11 X dJ0_indexOf_7cf53_11 1 rfl rfl ?_
    refine ww_iload_n 12 X dJ0_indexOf_7cf53_12 2 rfl rfl ?_
    refine ww_aload_n 13 X dJ0_indexOf_7cf53_13 0 rfl rfl ?_
    obtain ⟨_, f14, h⟩ := bO_some h
    obtain ⟨v14, M14, e14, h⟩ := bP_some h
    refine ww_callVIs 14 X dJ0_indexOf_7cf53_14 mY_J0_length_8abf5 mL_J0_505 (rcs_spec f14) rfl (As := []) (rest := [.int l2, .int l1, .ref v8]) rfl rfl ⟨Nat.le_of_ble_eq_true rfl, Nat.le_of_ble_eq_true rfl⟩ (Nat.le_of_ble_eq_true rfl) (fun l D A => c_J0_length_8abf5 l D A e14) ?_
    obtain ⟨v17, M17, e17, h⟩ := bP_some h
    refine ww_callSI0 17 X dJ0_indexOf_7cf53_17 mY_J1_indexOf_4cfef mL_J0_637 (As := [.ref v8, .int l1, .int l2, .int v14]) (rest := []) rfl rfl ⟨Nat.le_of_ble_eq_true rfl, Nat.le_of_ble_eq_true rfl⟩ (Nat.le_of_ble_eq_true rfl) (fun l D A => c_J1_indexOf_4cfef l D A e17) ?_
    refine ww_goto 20 36 X dJ0_indexOf_7cf53_20 (by decide) ?_
    exact ww_iretE 36 X hQ dJ0_indexOf_7cf53_36 h
theorem c_J0_indexOf_7cf53 {G : mG} {F sz : Nat} {r0 : Int32} {M0 : mM} (l : Launch) (D : mD) (A : Nat → Prop) {l0 : Nat} {l1 : Int32} {l2 : Int32} {M : mM} (h : P_J0_indexOf_7cf53 G F l0 l1 l2 M = some (r0, M0)) : mMetI l D G A yJ0_indexOf_7cf53 cJ0_indexOf_7cf53 3 (some .int) 2 48 0 0 [.ref l0, .int l1, .int l2] M sz r0 M0 sz := mMetI_of l D G A (by decide) (Nat.le_of_ble_eq_true rfl) (fun x X hQ => wP_J0_indexOf_7cf53 X hQ h)
/-! java/lang/String.indexOf(I)I -/
theorem dJ0_indexOf_0f7a4_0 : decode cJ0_indexOf_0f7a4 0 = .ok (.aload_n 0, 1) := by decide +kernel
theorem dJ0_indexOf_0f7a4_1 : decode cJ0_indexOf_0f7a4 1 = .ok (.iload_n 1, 1) := by decide +kernel
theorem dJ0_indexOf_0f7a4_2 : decode cJ0_indexOf_0f7a4 2 = .ok (.iconst 0, 1) := by decide +kernel
theorem dJ0_indexOf_0f7a4_3 : decode cJ0_indexOf_0f7a4 3 = .ok (.invokevirtual 633, 3) := by decide +kernel
theorem dJ0_indexOf_0f7a4_6 : decode cJ0_indexOf_0f7a4 6 = .ok (.ireturn, 1) := by decide +kernel
abbrev rmJ0_indexOf_0f7a4 : Room := { frames := 3, cells := 0, slots := 0, locals := 70 }
set_option maxHeartbeats 4000000 in
set_option maxRecDepth 100000 in
theorem wP_J0_indexOf_0f7a4 {G : mG} {F : Nat} {x : mXT} {sz : Nat} {r0 : Int32} {M0 : mM} (X : mCX G RJ0 cJ0_indexOf_0f7a4 2 (some .int) "indexOf" rmJ0_indexOf_0f7a4 x) (hQ : mQI x r0 M0 (sz, 0, 0)) {l0 : Nat} {l1 : Int32} {M : mM} (h : P_J0_indexOf_0f7a4 G F l0 l1 M = some (r0, M0)) : WW x (sz, 0, 0) M 0 [(0, .ref l0), (1, .int l1)] [] := by
  unfold P_J0_indexOf_0f7a4 at h
  refine ww_aload_n 0 X dJ0_indexOf_0f7a4_0 0 rfl rfl ?_
  refine ww_iload_n 1 X dJ0_indexOf_0f7a4_1 1 rfl rfl ?_
  refine ww_iconst 2 X (v := (0 : Int32)) dJ0_indexOf_0f7a4_2 (by decide) ?_
  obtain ⟨_, f3, h⟩ := bO_some h
  obtain ⟨v3, M3, e3, h⟩ := bP_some h
  refine ww_callVIs 3 X dJ0_indexOf_0f7a4_3 mY_J0_indexOf_7cf53 mL_J0_633 (rcs_spec f3) rfl (As := [.int l1, .int (0 : Int32)]) (rest := []) rfl rfl ⟨Nat.le_of_ble_eq_true rfl, Nat.le_of_ble_eq_true rfl⟩ (Nat.le_of_ble_eq_true rfl) (fun l D A => c_J0_indexOf_7cf53 l D A e3) ?_
  exact ww_iretE 6 X hQ dJ0_indexOf_0f7a4_6 h
theorem c_J0_indexOf_0f7a4 {G : mG} {F sz : Nat} {r0 : Int32} {M0 : mM} (l : Launch) (D : mD) (A : Nat → Prop) {l0 : Nat} {l1 : Int32} {M : mM} (h : P_J0_indexOf_0f7a4 G F l0 l1 M = some (r0, M0)) : mMetI l D G A yJ0_indexOf_0f7a4 cJ0_indexOf_0f7a4 2 (some .int) 3 70 0 0 [.ref l0, .int l1] M sz r0 M0 sz := mMetI_of l D G A (by decide) (Nat.le_of_ble_eq_true rfl) (fun x X hQ => wP_J0_indexOf_0f7a4 X hQ h)
