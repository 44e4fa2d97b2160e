/-! SealedTokensModel$Mod.into([I[I)V -/
theorem dX12_into_0 : decode cX12_into 0 = .ok (.aload_n 0, 1) := by decide +kernel
theorem dX12_into_1 : decode cX12_into 1 = .ok (.aload_n 1, 1) := by decide +kernel
theorem dX12_into_2 : decode cX12_into 2 = .ok (.aload_n 0, 1) := by decide +kernel
theorem dX12_into_3 : decode cX12_into 3 = .ok (.getfield 16, 3) := by decide +kernel
theorem dX12_into_6 : decode cX12_into 6 = .ok (.aload_n 2, 1) := by decide +kernel
theorem dX12_into_7 : decode cX12_into 7 = .ok (.invokevirtual 59, 3) := by decide +kernel
theorem dX12_into_10 : decode cX12_into 10 = .ok (.return_, 1) := by decide +kernel
abbrev rmX12_into : Room := { frames := 2, cells := 0, slots := 0, locals := 59 }
def P_X12_into (G : Nat → Nat) (F : Nat) (l0 : Nat) (l1 : Nat) (l2 : Nat) (M : mM) : Option mM :=
  bO (gfR M l0 12 4) fun v3 =>
  bO (rcv M l0 12) fun _ =>
  bO (P_X12_product G F l0 l1 v3 l2 M) fun M7 =>
  some M7
set_option maxHeartbeats 4000000 in
set_option maxRecDepth 100000 in
theorem wP_X12_into {G : Nat → Nat} {F : Nat} {x : mXT} {sz : Nat} {M0 : mM} (X : mCX G RX12 cX12_into 3 none "into" rmX12_into x) (hQ : mQV x M0 (sz, 0, 0)) {l0 : Nat} {l1 : Nat} {l2 : Nat} {M : mM} (h : P_X12_into G F l0 l1 l2 M = some M0) : WW x (sz, 0, 0) M 0 [(0, .ref l0), (1, .ref l1), (2, .ref l2)] [] := by
  unfold P_X12_into at h
  refine ww_aload_n 0 X dX12_into_0 0 rfl rfl ?_
  refine ww_aload_n 1 X dX12_into_1 1 rfl rfl ?_
  refine ww_aload_n 2 X dX12_into_2 0 rfl rfl ?_
  obtain ⟨v3, e3, h⟩ := bO_some h
  refine ww_getR 3 X dX12_into_3 fG_X12_16 e3 ?_
  refine ww_aload_n 6 X dX12_into_6 2 rfl rfl ?_
  obtain ⟨_, f7, h⟩ := bO_some h
  obtain ⟨M7, e7, h⟩ := bO_some h
  refine ww_callVV0 7 X dX12_into_7 mY_X12_product mL_X12_59 (rcv_spec f7) ⟨_, _, rfl⟩ (by decide) (As := [.ref l1, .ref v3, .ref l2]) (rest := []) rfl rfl ⟨Nat.le_of_ble_eq_true rfl, Nat.le_of_ble_eq_true rfl⟩ (Nat.le_of_ble_eq_true rfl) (fun l D A => c_X12_product l D A e7) ?_
  exact ww_vretE 10 X hQ dX12_into_10 h
theorem c_X12_into {G : Nat → Nat} {F sz : Nat} {M0 : mM} (l : Launch) (D : mD) (A : Nat → Prop) {l0 : Nat} {l1 : Nat} {l2 : Nat} {M : mM} (h : P_X12_into G F l0 l1 l2 M = some M0) : mMetV l D G A yX12_into cX12_into 3 none 2 59 0 0 [.ref l0, .ref l1, .ref l2] M sz M0 sz := mMetV_of l D G A (by decide) (Nat.le_of_ble_eq_true rfl) (fun x X hQ => wP_X12_into X hQ h)
/-! SealedTokensModel$Mod.outOf([I[I)V -/
theorem dX12_outOf_0 : decode cX12_outOf 0 = .ok (.iconst 0, 1) := by decide +kernel
theorem dX12_outOf_1 : decode cX12_outOf 1 = .ok (.istore_n 3, 1) := by decide +kernel
theorem dX12_outOf_2 : decode cX12_outOf 2 = .ok (.iload_n 3, 1) := by decide +kernel
theorem dX12_outOf_3 : decode cX12_outOf 3 = .ok (.aload_n 0, 1) := by decide +kernel
theorem dX12_outOf_4 : decode cX12_outOf 4 = .ok (.getfield 31, 3) := by decide +kernel
theorem dX12_outOf_7 : decode cX12_outOf 7 = .ok (.if_icmp .ge 16, 3) := by decide +kernel
theorem dX12_outOf_10 : decode cX12_outOf 10 = .ok (.aload_n 0, 1) := by decide +kernel
theorem dX12_outOf_11 : decode cX12_outOf 11 = .ok (.getfield 28, 3) := by decide +kernel
theorem dX12_outOf_14 : decode cX12_outOf 14 = .ok (.iload_n 3, 1) := by decide +kernel
theorem dX12_outOf_15 : decode cX12_outOf 15 = .ok (.iconst 0, 1) := by decide +kernel
theorem dX12_outOf_16 : decode cX12_outOf 16 = .ok (.iastore, 1) := by decide +kernel
theorem dX12_outOf_17 : decode cX12_outOf 17 = .ok (.iinc 3 1, 3) := by decide +kernel
theorem dX12_outOf_20 : decode cX12_outOf 20 = .ok (.goto (-18), 3) := by decide +kernel
theorem dX12_outOf_23 : decode cX12_outOf 23 = .ok (.aload_n 0, 1) := by decide +kernel
theorem dX12_outOf_24 : decode cX12_outOf 24 = .ok (.getfield 28, 3) := by decide +kernel
theorem dX12_outOf_27 : decode cX12_outOf 27 = .ok (.iconst 0, 1) := by decide +kernel
theorem dX12_outOf_28 : decode cX12_outOf 28 = .ok (.iconst 1, 1) := by decide +kernel
theorem dX12_outOf_29 : decode cX12_outOf 29 = .ok (.iastore, 1) := by decide +kernel
theorem dX12_outOf_30 : decode cX12_outOf 30 = .ok (.aload_n 0, 1) := by decide +kernel
theorem dX12_outOf_31 : decode cX12_outOf 31 = .ok (.aload_n 1, 1) := by decide +kernel
theorem dX12_outOf_32 : decode cX12_outOf 32 = .ok (.aload_n 0, 1) := by decide +kernel
theorem dX12_outOf_33 : decode cX12_outOf 33 = .ok (.getfield 28, 3) := by decide +kernel
theorem dX12_outOf_36 : decode cX12_outOf 36 = .ok (.aload_n 2, 1) := by decide +kernel
theorem dX12_outOf_37 : decode cX12_outOf 37 = .ok (.invokevirtual 59, 3) := by decide +kernel
theorem dX12_outOf_40 : decode cX12_outOf 40 = .ok (.return_, 1) := by decide +kernel
abbrev rmX12_outOf : Room := { frames := 2, cells := 0, slots := 0, locals := 59 }
def B_X12_outOf_2 (G : Nat → Nat) (F : Nat) : Nat → Nat → Nat → Nat → Int32 → mM → Option mM
  | 0, _, _, _, _, _ => none
  | n + 1, l0, l1, l2, l3, M =>
  bO (gfI M l0 12 1) fun v4 =>
  if v4 ≤ l3 then (bO (gfR M l0 12 8) fun v24 =>
  bO (sI M 0 v24 (0 : Int32) (1 : Int32)) fun M29 =>
  bO (gfR M29 l0 12 8) fun v33 =>
  bO (rcv M29 l0 12) fun _ =>
  bO (P_X12_product G F l0 l1 v33 l2 M29) fun M37 =>
  some M37)
  else (bO (gfR M l0 12 8) fun v11 =>
  bO (sI M 0 v11 l3 (0 : Int32)) fun M16 =>
  B_X12_outOf_2 G F n l0 l1 l2 (l3 + 1) M16)
set_option maxHeartbeats 4000000 in
set_option maxRecDepth 100000 in
theorem wB_X12_outOf_2 {G : Nat → Nat} {F : Nat} {x : mXT} {sz : Nat} {M0 : mM} (X : mCX G RX12 cX12_outOf 4 none "outOf" rmX12_outOf x) (hQ : mQV x M0 (sz, 0, 0)) : ∀ (n : Nat) (l0 : Nat) (l1 : Nat) (l2 : Nat) (l3 : Int32) (M : mM), B_X12_outOf_2 G F n l0 l1 l2 l3 M = some M0 → WW x (sz, 0, 0) M 2 [(0, .ref l0), (1, .ref l1), (2, .ref l2), (3, .int l3)] [] := by
  intro n
  induction n with
  | zero =>
    intro l0 l1 l2 l3 M h
    exact nomatch (show (none : Option mM) = some M0 from h)
  | succ n ih =>
    intro l0 l1 l2 l3 M h
    rw [B_X12_outOf_2] at h
    refine ww_iload_n 2 X dX12_outOf_2 3 rfl rfl ?_
    refine ww_aload_n 3 X dX12_outOf_3 0 rfl rfl ?_
    obtain ⟨v4, e4, h⟩ := bO_some h
    refine ww_getI 4 X dX12_outOf_4 fG_X12_31 e4 ?_
    refine ww_icmp_ge 7 23 X dX12_outOf_7 (by decide) (fun q => ?_) (fun q => ?_)
    · replace h := (if_pos q).symm.trans h
      refine ww_aload_n 23 X dX12_outOf_23 0 rfl rfl ?_
      obtain ⟨v24, e24, h⟩ := bO_some h
      refine ww_getR 24 X dX12_outOf_24 fG_X12_28 e24 ?_
      refine ww_iconst 27 X (v := (0 : Int32)) dX12_outOf_27 (by decide) ?_
      refine ww_iconst 28 X (v := (1 : Int32)) dX12_outOf_28 (by decide) ?_
      obtain ⟨M29, e29, h⟩ := bO_some h
      refine ww_iast 29 X dX12_outOf_29 e29 ?_
      refine ww_aload_n 30 X dX12_outOf_30 0 rfl rfl ?_
      refine ww_aload_n 31 X dX12_outOf_31 1 rfl rfl ?_
      refine ww_aload_n 32 X dX12_outOf_32 0 rfl rfl ?_
      obtain ⟨v33, e33, h⟩ := bO_some h
      refine ww_getR 33 X dX12_outOf_33 fG_X12_28 e33 ?_
      refine ww_aload_n 36 X dX12_outOf_36 2 rfl rfl ?_
      obtain ⟨_, f37, h⟩ := bO_some h
      obtain ⟨M37, e37, h⟩ := bO_some h
      refine ww_callVV0 37 X dX12_outOf_37 mY_X12_product mL_X12_59 (rcv_spec f37) ⟨_, _, rfl⟩ (by decide) (As := [.ref l1, .ref v33, .ref l2]) (rest := []) rfl rfl ⟨Nat.le_of_ble_eq_true rfl, Nat.le_of_ble_eq_true rfl⟩ (Nat.le_of_ble_eq_true rfl) (fun l D A => c_X12_product l D A e37) ?_
      exact ww_vretE 40 X hQ dX12_outOf_40 h
    · replace h := (if_neg q).symm.trans h
      refine ww_aload_n 10 X dX12_outOf_10 0 rfl rfl ?_
      obtain ⟨v11, e11, h⟩ := bO_some h
      refine ww_getR 11 X dX12_outOf_11 fG_X12_28 e11 ?_
      refine ww_iload_n 14 X dX12_outOf_14 3 rfl rfl ?_
      refine ww_iconst 15 X (v := (0 : Int32)) dX12_outOf_15 (by decide) ?_
      obtain ⟨M16, e16, h⟩ := bO_some h
      refine ww_iast 16 X dX12_outOf_16 e16 ?_
      refine ww_iinc 17 X dX12_outOf_17 (lv' := [(0, .ref l0), (1, .ref l1), (2, .ref l2), (3, .int (l3 + 1))]) 3 rfl rfl (by decide) [1, 2, 3, 0] rfl ?_
      refine ww_goto 20 2 X dX12_outOf_20 (by decide) ?_
      exact (ih _ _ _ _ _ h)
def P_X12_outOf (G : Nat → Nat) (F : Nat) (l0 : Nat) (l1 : Nat) (l2 : Nat) (M : mM) : Option mM :=
  B_X12_outOf_2 G F F l0 l1 l2 (0 : Int32) M
set_option maxHeartbeats 4000000 in
set_option maxRecDepth 100000 in
theorem wP_X12_outOf {G : Nat → Nat} {F : Nat} {x : mXT} {sz : Nat} {M0 : mM} (X : mCX G RX12 cX12_outOf 4 none "outOf" rmX12_outOf x) (hQ : mQV x M0 (sz, 0, 0)) {l0 : Nat} {l1 : Nat} {l2 : Nat} {M : mM} (h : P_X12_outOf G F l0 l1 l2 M = some M0) : WW x (sz, 0, 0) M 0 [(0, .ref l0), (1, .ref l1), (2, .ref l2)] [] := by
  unfold P_X12_outOf at h
  refine ww_iconst 0 X (v := (0 : Int32)) dX12_outOf_0 (by decide) ?_
  refine ww_istore_n 1 X dX12_outOf_1 (lv' := [(0, .ref l0), (1, .ref l1), (2, .ref l2), (3, .int (0 : Int32))]) rfl (by decide) [1, 2, 3, 0] rfl ?_
  exact (wB_X12_outOf_2 X hQ F _ _ _ _ _ h)
theorem c_X12_outOf {G : Nat → Nat} {F sz : Nat} {M0 : mM} (l : Launch) (D : mD) (A : Nat → Prop) {l0 : Nat} {l1 : Nat} {l2 : Nat} {M : mM} (h : P_X12_outOf G F l0 l1 l2 M = some M0) : mMetV l D G A yX12_outOf cX12_outOf 4 none 2 59 0 0 [.ref l0, .ref l1, .ref l2] M sz M0 sz := mMetV_of l D G A (by decide) (Nat.le_of_ble_eq_true rfl) (fun x X hQ => wP_X12_outOf X hQ h)
/-! SealedTokensModel$Mod.power([I[BII[I)V -/
theorem dX12_power_0 : decode cX12_power 0 = .ok (.iconst 0, 1) := by decide +kernel
theorem dX12_power_1 : decode cX12_power 1 = .ok (.istore 6, 2) := by decide +kernel
theorem dX12_power_3 : decode cX12_power 3 = .ok (.iload 6, 2) := by decide +kernel
theorem dX12_power_5 : decode cX12_power 5 = .ok (.aload_n 0, 1) := by decide +kernel
theorem dX12_power_6 : decode cX12_power 6 = .ok (.getfield 31, 3) := by decide +kernel
theorem dX12_power_9 : decode cX12_power 9 = .ok (.if_icmp .ge 34, 3) := by decide +kernel
theorem dX12_power_12 : decode cX12_power 12 = .ok (.aload_n 0, 1) := by decide +kernel
theorem dX12_power_13 : decode cX12_power 13 = .ok (.getfield 22, 3) := by decide +kernel
theorem dX12_power_16 : decode cX12_power 16 = .ok (.iload 6, 2) := by decide +kernel
theorem dX12_power_18 : decode cX12_power 18 = .ok (.aload_n 1, 1) := by decide +kernel
theorem dX12_power_19 : decode cX12_power 19 = .ok (.iload 6, 2) := by decide +kernel
theorem dX12_power_21 : decode cX12_power 21 = .ok (.iaload, 1) := by decide +kernel
theorem dX12_power_22 : decode cX12_power 22 = .ok (.iastore, 1) := by decide +kernel
theorem dX12_power_23 : decode cX12_power 23 = .ok (.aload_n 0, 1) := by decide +kernel
theorem dX12_power_24 : decode cX12_power 24 = .ok (.getfield 25, 3) := by decide +kernel
theorem dX12_power_27 : decode cX12_power 27 = .ok (.iload 6, 2) := by decide +kernel
theorem dX12_power_29 : decode cX12_power 29 = .ok (.aload_n 0, 1) := by decide +kernel
theorem dX12_power_30 : decode cX12_power 30 = .ok (.getfield 13, 3) := by decide +kernel
theorem dX12_power_33 : decode cX12_power 33 = .ok (.iload 6, 2) := by decide +kernel
theorem dX12_power_35 : decode cX12_power 35 = .ok (.iaload, 1) := by decide +kernel
theorem dX12_power_36 : decode cX12_power 36 = .ok (.iastore, 1) := by decide +kernel
theorem dX12_power_37 : decode cX12_power 37 = .ok (.iinc 6 1, 3) := by decide +kernel
theorem dX12_power_40 : decode cX12_power 40 = .ok (.goto (-37), 3) := by decide +kernel
theorem dX12_power_43 : decode cX12_power 43 = .ok (.iconst 0, 1) := by decide +kernel
theorem dX12_power_44 : decode cX12_power 44 = .ok (.istore 6, 2) := by decide +kernel
theorem dX12_power_46 : decode cX12_power 46 = .ok (.iload 6, 2) := by decide +kernel
theorem dX12_power_48 : decode cX12_power 48 = .ok (.bipush 8, 2) := by decide +kernel
theorem dX12_power_50 : decode cX12_power 50 = .ok (.iload 4, 2) := by decide +kernel
theorem dX12_power_52 : decode cX12_power 52 = .ok (.imul, 1) := by decide +kernel
theorem dX12_power_53 : decode cX12_power 53 = .ok (.if_icmp .ge 65, 3) := by decide +kernel
theorem dX12_power_56 : decode cX12_power 56 = .ok (.aload_n 0, 1) := by decide +kernel
theorem dX12_power_57 : decode cX12_power 57 = .ok (.aload_n 0, 1) := by decide +kernel
theorem dX12_power_58 : decode cX12_power 58 = .ok (.getfield 25, 3) := by decide +kernel
theorem dX12_power_61 : decode cX12_power 61 = .ok (.aload_n 0, 1) := by decide +kernel
theorem dX12_power_62 : decode cX12_power 62 = .ok (.getfield 25, 3) := by decide +kernel
theorem dX12_power_65 : decode cX12_power 65 = .ok (.aload_n 0, 1) := by decide +kernel
theorem dX12_power_66 : decode cX12_power 66 = .ok (.getfield 25, 3) := by decide +kernel
theorem dX12_power_69 : decode cX12_power 69 = .ok (.invokevirtual 59, 3) := by decide +kernel
theorem dX12_power_72 : decode cX12_power 72 = .ok (.aload_n 2, 1) := by decide +kernel
theorem dX12_power_73 : decode cX12_power 73 = .ok (.iload_n 3, 1) := by decide +kernel
theorem dX12_power_74 : decode cX12_power 74 = .ok (.iload 6, 2) := by decide +kernel
theorem dX12_power_76 : decode cX12_power 76 = .ok (.bipush 8, 2) := by decide +kernel
theorem dX12_power_78 : decode cX12_power 78 = .ok (.idiv, 1) := by decide +kernel
theorem dX12_power_79 : decode cX12_power 79 = .ok (.iadd, 1) := by decide +kernel
theorem dX12_power_80 : decode cX12_power 80 = .ok (.baload, 1) := by decide +kernel
theorem dX12_power_81 : decode cX12_power 81 = .ok (.bipush 7, 2) := by decide +kernel
theorem dX12_power_83 : decode cX12_power 83 = .ok (.iload 6, 2) := by decide +kernel
theorem dX12_power_85 : decode cX12_power 85 = .ok (.bipush 8, 2) := by decide +kernel
theorem dX12_power_87 : decode cX12_power 87 = .ok (.irem, 1) := by decide +kernel
theorem dX12_power_88 : decode cX12_power 88 = .ok (.isub, 1) := by decide +kernel
theorem dX12_power_89 : decode cX12_power 89 = .ok (.ishr, 1) := by decide +kernel
theorem dX12_power_90 : decode cX12_power 90 = .ok (.iconst 1, 1) := by decide +kernel
theorem dX12_power_91 : decode cX12_power 91 = .ok (.iand, 1) := by decide +kernel
theorem dX12_power_92 : decode cX12_power 92 = .ok (.iconst 1, 1) := by decide +kernel
theorem dX12_power_93 : decode cX12_power 93 = .ok (.if_icmp .ne 19, 3) := by decide +kernel
theorem dX12_power_96 : decode cX12_power 96 = .ok (.aload_n 0, 1) := by decide +kernel
theorem dX12_power_97 : decode cX12_power 97 = .ok (.aload_n 0, 1) := by decide +kernel
theorem dX12_power_98 : decode cX12_power 98 = .ok (.getfield 25, 3) := by decide +kernel
theorem dX12_power_101 : decode cX12_power 101 = .ok (.aload_n 0, 1) := by decide +kernel
theorem dX12_power_102 : decode cX12_power 102 = .ok (.getfield 22, 3) := by decide +kernel
theorem dX12_power_105 : decode cX12_power 105 = .ok (.aload_n 0, 1) := by decide +kernel
theorem dX12_power_106 : decode cX12_power 106 = .ok (.getfield 25, 3) := by decide +kernel
theorem dX12_power_109 : decode cX12_power 109 = .ok (.invokevirtual 59, 3) := by decide +kernel
theorem dX12_power_112 : decode cX12_power 112 = .ok (.iinc 6 1, 3) := by decide +kernel
theorem dX12_power_115 : decode cX12_power 115 = .ok (.goto (-69), 3) := by decide +kernel
theorem dX12_power_118 : decode cX12_power 118 = .ok (.iconst 0, 1) := by decide +kernel
theorem dX12_power_119 : decode cX12_power 119 = .ok (.istore 6, 2) := by decide +kernel
theorem dX12_power_121 : decode cX12_power 121 = .ok (.iload 6, 2) := by decide +kernel
theorem dX12_power_123 : decode cX12_power 123 = .ok (.aload_n 0, 1) := by decide +kernel
theorem dX12_power_124 : decode cX12_power 124 = .ok (.getfield 31, 3) := by decide +kernel
theorem dX12_power_127 : decode cX12_power 127 = .ok (.if_icmp .ge 21, 3) := by decide +kernel
theorem dX12_power_130 : decode cX12_power 130 = .ok (.aload 5, 2) := by decide +kernel
theorem dX12_power_132 : decode cX12_power 132 = .ok (.iload 6, 2) := by decide +kernel
theorem dX12_power_134 : decode cX12_power 134 = .ok (.aload_n 0, 1) := by decide +kernel
theorem dX12_power_135 : decode cX12_power 135 = .ok (.getfield 25, 3) := by decide +kernel
theorem dX12_power_138 : decode cX12_power 138 = .ok (.iload 6, 2) := by decide +kernel
theorem dX12_power_140 : decode cX12_power 140 = .ok (.iaload, 1) := by decide +kernel
theorem dX12_power_141 : decode cX12_power 141 = .ok (.iastore, 1) := by decide +kernel
theorem dX12_power_142 : decode cX12_power 142 = .ok (.iinc 6 1, 3) := by decide +kernel
theorem dX12_power_145 : decode cX12_power 145 = .ok (.goto (-24), 3) := by decide +kernel
theorem dX12_power_148 : decode cX12_power 148 = .ok (.return_, 1) := by decide +kernel
abbrev rmX12_power : Room := { frames := 2, cells := 0, slots := 0, locals := 59 }
def B_X12_power_121 (G : Nat → Nat) (F : Nat) : Nat → Nat → Nat → Int32 → mM → Option mM
  | 0, _, _, _, _ => none
  | n + 1, l0, l5, l6, M =>
  bO (gfI M l0 12 1) fun v124 =>
  if v124 ≤ l6 then (some M)
  else (bO (gfR M l0 12 7) fun v135 =>
  bO (aI M 0 v135 l6) fun v140 =>
  bO (sI M 0 l5 l6 v140) fun M141 =>
  B_X12_power_121 G F n l0 l5 (l6 + 1) M141)
set_option maxHeartbeats 4000000 in
set_option maxRecDepth 100000 in
theorem wB_X12_power_121 {G : Nat → Nat} {F : Nat} {x : mXT} {sz : Nat} {M0 : mM} (X : mCX G RX12 cX12_power 7 none "power" rmX12_power x) (hQ : mQV x M0 (sz, 0, 0)) : ∀ (n : Nat) (l0 : Nat) (l5 : Nat) (l6 : Int32) (M : mM), B_X12_power_121 G F n l0 l5 l6 M = some M0 → WW x (sz, 0, 0) M 121 [(0, .ref l0), (5, .ref l5), (6, .int l6)] [] := by
  intro n
  induction n with
  | zero =>
    intro l0 l5 l6 M h
    exact nomatch (show (none : Option mM) = some M0 from h)
  | succ n ih =>
    intro l0 l5 l6 M h
    rw [B_X12_power_121] at h
    refine ww_iload 121 X dX12_power_121 2 rfl ?_
    refine ww_aload_n 123 X dX12_power_123 0 rfl rfl ?_
    obtain ⟨v124, e124, h⟩ := bO_some h
    refine ww_getI 124 X dX12_power_124 fG_X12_31 e124 ?_
    refine ww_icmp_ge 127 148 X dX12_power_127 (by decide) (fun q => ?_) (fun q => ?_)
    · replace h := (if_pos q).symm.trans h
      exact ww_vretE 148 X hQ dX12_power_148 h
    · replace h := (if_neg q).symm.trans h
      refine ww_aload 130 X dX12_power_130 1 rfl ?_
      refine ww_iload 132 X dX12_power_132 2 rfl ?_
      refine ww_aload_n 134 X dX12_power_134 0 rfl rfl ?_
      obtain ⟨v135, e135, h⟩ := bO_some h
      refine ww_getR 135 X dX12_power_135 fG_X12_25 e135 ?_
      refine ww_iload 138 X dX12_power_138 2 rfl ?_
      obtain ⟨v140, e140, h⟩ := bO_some h
      refine ww_iald 140 X dX12_power_140 e140 ?_
      obtain ⟨M141, e141, h⟩ := bO_some h
      refine ww_iast 141 X dX12_power_141 e141 ?_
      refine ww_iinc 142 X dX12_power_142 (lv' := [(0, .ref l0), (5, .ref l5), (6, .int (l6 + 1))]) 2 rfl rfl (by decide) [1, 2, 0] rfl ?_
      refine ww_goto 145 121 X dX12_power_145 (by decide) ?_
      exact (ih _ _ _ _ h)
def B_X12_power_46 (G : Nat → Nat) (F : Nat) : Nat → Nat → Nat → Int32 → Int32 → Nat → Int32 → mM → Option mM
  | 0, _, _, _, _, _, _, _ => none
  | n + 1, l0, l2, l3, l4, l5, l6, M =>
  if ((8 : Int32) * l4) ≤ l6 then (B_X12_power_121 G F F l0 l5 (0 : Int32) M)
  else (bO (gfR M l0 12 7) fun v58 =>
  bO (gfR M l0 12 7) fun v62 =>
  bO (gfR M l0 12 7) fun v66 =>
  bO (rcv M l0 12) fun _ =>
  bO (P_X12_product G F l0 v58 v62 v66 M) fun M69 =>
  bO (aI M69 1 l2 (l3 + (l6 / (8 : Int32)))) fun v80 =>
  if ((v80 >>> (((7 : Int32) - (l6 - l6 / (8 : Int32) * (8 : Int32))) &&& 31)) &&& (1 : Int32)) = (1 : Int32) then (bO (gfR M69 l0 12 7) fun v98 =>
  bO (gfR M69 l0 12 6) fun v102 =>
  bO (gfR M69 l0 12 7) fun v106 =>
  bO (rcv M69 l0 12) fun _ =>
  bO (P_X12_product G F l0 v98 v102 v106 M69) fun M109 =>
  B_X12_power_46 G F n l0 l2 l3 l4 l5 (l6 + 1) M109)
  else (B_X12_power_46 G F n l0 l2 l3 l4 l5 (l6 + 1) M69))
set_option maxHeartbeats 4000000 in
set_option maxRecDepth 100000 in
theorem wB_X12_power_46 {G : Nat → Nat} {F : Nat} {x : mXT} {sz : Nat} {M0 : mM} (X : mCX G RX12 cX12_power 7 none "power" rmX12_power x) (hQ : mQV x M0 (sz, 0, 0)) : ∀ (n : Nat) (l0 : Nat) (l2 : Nat) (l3 : Int32) (l4 : Int32) (l5 : Nat) (l6 : Int32) (M : mM), B_X12_power_46 G F n l0 l2 l3 l4 l5 l6 M = some M0 → WW x (sz, 0, 0) M 46 [(0, .ref l0), (2, .ref l2), (3, .int l3), (4, .int l4), (5, .ref l5), (6, .int l6)] [] := by
  intro n
  induction n with
  | zero =>
    intro l0 l2 l3 l4 l5 l6 M h
    exact nomatch (show (none : Option mM) = some M0 from h)
  | succ n ih =>
    intro l0 l2 l3 l4 l5 l6 M h
    rw [B_X12_power_46] at h
    refine ww_iload 46 X dX12_power_46 5 rfl ?_
    refine ww_bipush 48 X (v := (8 : Int32)) dX12_power_48 (by decide) ?_
    refine ww_iload 50 X dX12_power_50 3 rfl ?_
    refine ww_imul 52 X dX12_power_52 ?_
    refine ww_icmp_ge 53 118 X dX12_power_53 (by decide) (fun q => ?_) (fun q => ?_)
    · replace h := (if_pos q).symm.trans h
      refine ww_iconst 118 X (v := (0 : Int32)) dX12_power_118 (by decide) ?_
      refine ww_istore 119 X dX12_power_119 (lv' := [(0, .ref l0), (2, .ref l2), (3, .int l3), (4, .int l4), (5, .ref l5), (6, .int (0 : Int32))]) (by decide) [1, 2, 3, 4, 5, 0] rfl ?_
      exact ww_sub [0, 4, 5] rfl (wB_X12_power_121 X hQ F _ _ _ _ h)
    · replace h := (if_neg q).symm.trans h
      refine ww_aload_n 56 X dX12_power_56 0 rfl rfl ?_
      refine ww_aload_n 57 X dX12_power_57 0 rfl rfl ?_
      obtain ⟨v58, e58, h⟩ := bO_some h
      refine ww_getR 58 X dX12_power_58 fG_X12_25 e58 ?_
      refine ww_aload_n 61 X dX12_power_61 0 rfl rfl ?_
      obtain ⟨v62, e62, h⟩ := bO_some h
      refine ww_getR 62 X dX12_power_62 fG_X12_25 e62 ?_
      refine ww_aload_n 65 X dX12_power_65 0 rfl rfl ?_
      obtain ⟨v66, e66, h⟩ := bO_some h
      refine ww_getR 66 X dX12_power_66 fG_X12_25 e66 ?_
      obtain ⟨_, f69, h⟩ := bO_some h
      obtain ⟨M69, e69, h⟩ := bO_some h
      refine ww_callVV0 69 X dX12_power_69 mY_X12_product mL_X12_59 (rcv_spec f69) ⟨_, _, rfl⟩ (by decide) (As := [.ref v58, .ref v62, .ref v66]) (rest := []) rfl rfl ⟨Nat.le_of_ble_eq_true rfl, Nat.le_of_ble_eq_true rfl⟩ (Nat.le_of_ble_eq_true rfl) (fun l D A => c_X12_product l D A e69) ?_
      refine ww_aload_n 72 X dX12_power_72 1 rfl rfl ?_
      refine ww_iload_n 73 X dX12_power_73 2 rfl rfl ?_
      refine ww_iload 74 X dX12_power_74 5 rfl ?_
      refine ww_bipush 76 X (v := (8 : Int32)) dX12_power_76 (by decide) ?_
      refine ww_idiv 78 X (v := (l6 / (8 : Int32))) dX12_power_78 rfl ?_
      refine ww_iadd 79 X dX12_power_79 ?_
      obtain ⟨v80, e80, h⟩ := bO_some h
      refine ww_bald 80 X dX12_power_80 e80 ?_
      refine ww_bipush 81 X (v := (7 : Int32)) dX12_power_81 (by decide) ?_
      refine ww_iload 83 X dX12_power_83 5 rfl ?_
      refine ww_bipush 85 X (v := (8 : Int32)) dX12_power_85 (by decide) ?_
      refine ww_irem 87 X (v := (l6 - l6 / (8 : Int32) * (8 : Int32))) dX12_power_87 rfl ?_
      refine ww_isub 88 X dX12_power_88 ?_
      refine ww_ishr 89 X dX12_power_89 ?_
      refine ww_iconst 90 X (v := (1 : Int32)) dX12_power_90 (by decide) ?_
      refine ww_iand 91 X dX12_power_91 ?_
      refine ww_iconst 92 X (v := (1 : Int32)) dX12_power_92 (by decide) ?_
      refine ww_icmp_ne 93 112 X dX12_power_93 (by decide) (fun q => ?_) (fun q => ?_)
      · replace h := (if_neg q).symm.trans h
        refine ww_iinc 112 X dX12_power_112 (lv' := [(0, .ref l0), (2, .ref l2), (3, .int l3), (4, .int l4), (5, .ref l5), (6, .int (l6 + 1))]) 5 rfl rfl (by decide) [1, 2, 3, 4, 5, 0] rfl ?_
        refine ww_goto 115 46 X dX12_power_115 (by decide) ?_
        exact (ih _ _ _ _ _ _ _ h)
      · replace h := (if_pos q).symm.trans h
        refine ww_aload_n 96 X dX12_power_96 0 rfl rfl ?_
        refine ww_aload_n 97 X dX12_power_97 0 rfl rfl ?_
        obtain ⟨v98, e98, h⟩ := bO_some h
        refine ww_getR 98 X dX12_power_98 fG_X12_25 e98 ?_
        refine ww_aload_n 101 X dX12_power_101 0 rfl rfl ?_
        obtain ⟨v102, e102, h⟩ := bO_some h
        refine ww_getR 102 X dX12_power_102 fG_X12_22 e102 ?_
        refine ww_aload_n 105 X dX12_power_105 0 rfl rfl ?_
        obtain ⟨v106, e106, h⟩ := bO_some h
        refine ww_getR 106 X dX12_power_106 fG_X12_25 e106 ?_
        obtain ⟨_, f109, h⟩ := bO_some h
        obtain ⟨M109, e109, h⟩ := bO_some h
        refine ww_callVV0 109 X dX12_power_109 mY_X12_product mL_X12_59 (rcv_spec f109) ⟨_, _, rfl⟩ (by decide) (As := [.ref v98, .ref v102, .ref v106]) (rest := []) rfl rfl ⟨Nat.le_of_ble_eq_true rfl, Nat.le_of_ble_eq_true rfl⟩ (Nat.le_of_ble_eq_true rfl) (fun l D A => c_X12_product l D A e109) ?_
        refine ww_iinc 112 X dX12_power_112 (lv' := [(0, .ref l0), (2, .ref l2), (3, .int l3), (4, .int l4), (5, .ref l5), (6, .int (l6 + 1))]) 5 rfl rfl (by decide) [1, 2, 3, 4, 5, 0] rfl ?_
        refine ww_goto 115 46 X dX12_power_115 (by decide) ?_
        exact (ih _ _ _ _ _ _ _ h)
def B_X12_power_3 (G : Nat → Nat) (F : Nat) : Nat → Nat → Nat → Nat → Int32 → Int32 → Nat → Int32 → mM → Option mM
  | 0, _, _, _, _, _, _, _, _ => none
  | n + 1, l0, l1, l2, l3, l4, l5, l6, M =>
  bO (gfI M l0 12 1) fun v6 =>
  if v6 ≤ l6 then (B_X12_power_46 G F F l0 l2 l3 l4 l5 (0 : Int32) M)
  else (bO (gfR M l0 12 6) fun v13 =>
  bO (aI M 0 l1 l6) fun v21 =>
  bO (sI M 0 v13 l6 v21) fun M22 =>
  bO (gfR M22 l0 12 7) fun v24 =>
  bO (gfR M22 l0 12 3) fun v30 =>
  bO (aI M22 0 v30 l6) fun v35 =>
  bO (sI M22 0 v24 l6 v35) fun M36 =>
  B_X12_power_3 G F n l0 l1 l2 l3 l4 l5 (l6 + 1) M36)
set_option maxHeartbeats 4000000 in
set_option maxRecDepth 100000 in
theorem wB_X12_power_3 {G : Nat → Nat} {F : Nat} {x : mXT} {sz : Nat} {M0 : mM} (X : mCX G RX12 cX12_power 7 none "power" rmX12_power x) (hQ : mQV x M0 (sz, 0, 0)) : ∀ (n : Nat) (l0 : Nat) (l1 : Nat) (l2 : Nat) (l3 : Int32) (l4 : Int32) (l5 : Nat) (l6 : Int32) (M : mM), B_X12_power_3 G F n l0 l1 l2 l3 l4 l5 l6 M = some M0 → WW x (sz, 0, 0) M 3 [(0, .ref l0), (1, .ref l1), (2, .ref l2), (3, .int l3), (4, .int l4), (5, .ref l5), (6, .int l6)] [] := by
  intro n
  induction n with
  | zero =>
    intro l0 l1 l2 l3 l4 l5 l6 M h
    exact nomatch (show (none : Option mM) = some M0 from h)
  | succ n ih =>
    intro l0 l1 l2 l3 l4 l5 l6 M h
    rw [B_X12_power_3] at h
    refine ww_iload 3 X dX12_power_3 6 rfl ?_
    refine ww_aload_n 5 X dX12_power_5 0 rfl rfl ?_
    obtain ⟨v6, e6, h⟩ := bO_some h
    refine ww_getI 6 X dX12_power_6 fG_X12_31 e6 ?_
    refine ww_icmp_ge 9 43 X dX12_power_9 (by decide) (fun q => ?_) (fun q => ?_)
    · replace h := (if_pos q).symm.trans h
      refine ww_iconst 43 X (v := (0 : Int32)) dX12_power_43 (by decide) ?_
      refine ww_istore 44 X dX12_power_44 (lv' := [(0, .ref l0), (1, .ref l1), (2, .ref l2), (3, .int l3), (4, .int l4), (5, .ref l5), (6, .int (0 : Int32))]) (by decide) [1, 2, 3, 4, 5, 6, 0] rfl ?_
      exact ww_sub [0, 2, 3, 4, 5, 6] rfl (wB_X12_power_46 X hQ F _ _ _ _ _ _ _ h)
    · replace h := (if_neg q).symm.trans h
      refine ww_aload_n 12 X dX12_power_12 0 rfl rfl ?_
      obtain ⟨v13, e13, h⟩ := bO_some h
      refine ww_getR 13 X dX12_power_13 fG_X12_22 e13 ?_
      refine ww_iload 16 X dX12_power_16 6 rfl ?_
      refine ww_aload_n 18 X dX12_power_18 1 rfl rfl ?_
      refine ww_iload 19 X dX12_power_19 6 rfl ?_
      obtain ⟨v21, e21, h⟩ := bO_some h
      refine ww_iald 21 X dX12_power_21 e21 ?_
      obtain ⟨M22, e22, h⟩ := bO_some h
      refine ww_iast 22 X dX12_power_22 e22 ?_
      refine ww_aload_n 23 X dX12_power_23 0 rfl rfl ?_
      obtain ⟨v24, e24, h⟩ := bO_some h
      refine ww_getR 24 X dX12_power_24 fG_X12_25 e24 ?_
      refine ww_iload 27 X dX12_power_27 6 rfl ?_
      refine ww_aload_n 29 X dX12_power_29 0 rfl rfl ?_
      obtain ⟨v30, e30, h⟩ := bO_some h
      refine ww_getR 30 X dX12_power_30 fG_X12_13 e30 ?_
      refine ww_iload 33 X dX12_power_33 6 rfl ?_
      obtain ⟨v35, e35, h⟩ := bO_some h
      refine ww_iald 35 X dX12_power_35 e35 ?_
      obtain ⟨M36, e36, h⟩ := bO_some h
      refine ww_iast 36 X dX12_power_36 e36 ?_
      refine ww_iinc 37 X dX12_power_37 (lv' := [(0, .ref l0), (1, .ref l1), (2, .ref l2), (3, .int l3), (4, .int l4), (5, .ref l5), (6, .int (l6 + 1))]) 6 rfl rfl (by decide) [1, 2, 3, 4, 5, 6, 0] rfl ?_
      refine ww_goto 40 3 X dX12_power_40 (by decide) ?_
      exact (ih _ _ _ _ _ _ _ _ h)
def P_X12_power (G : Nat → Nat) (F : Nat) (l0 : Nat) (l1 : Nat) (l2 : Nat) (l3 : Int32) (l4 : Int32) (l5 : Nat) (M : mM) : Option mM :=
  B_X12_power_3 G F F l0 l1 l2 l3 l4 l5 (0 : Int32) M
set_option maxHeartbeats 4000000 in
set_option maxRecDepth 100000 in
theorem wP_X12_power {G : Nat → Nat} {F : Nat} {x : mXT} {sz : Nat} {M0 : mM} (X : mCX G RX12 cX12_power 7 none "power" rmX12_power x) (hQ : mQV x M0 (sz, 0, 0)) {l0 : Nat} {l1 : Nat} {l2 : Nat} {l3 : Int32} {l4 : Int32} {l5 : Nat} {M : mM} (h : P_X12_power G F l0 l1 l2 l3 l4 l5 M = some M0) : WW x (sz, 0, 0) M 0 [(0, .ref l0), (1, .ref l1), (2, .ref l2), (3, .int l3), (4, .int l4), (5, .ref l5)] [] := by
  unfold P_X12_power at h
  refine ww_iconst 0 X (v := (0 : Int32)) dX12_power_0 (by decide) ?_
  refine ww_istore 1 X dX12_power_1 (lv' := [(0, .ref l0), (1, .ref l1), (2, .ref l2), (3, .int l3), (4, .int l4), (5, .ref l5), (6, .int (0 : Int32))]) (by decide) [1, 2, 3, 4, 5, 6, 0] rfl ?_
  exact (wB_X12_power_3 X hQ F _ _ _ _ _ _ _ _ h)
theorem c_X12_power {G : Nat → Nat} {F sz : Nat} {M0 : mM} (l : Launch) (D : mD) (A : Nat → Prop) {l0 : Nat} {l1 : Nat} {l2 : Nat} {l3 : Int32} {l4 : Int32} {l5 : Nat} {M : mM} (h : P_X12_power G F l0 l1 l2 l3 l4 l5 M = some M0) : mMetV l D G A yX12_power cX12_power 7 none 2 59 0 0 [.ref l0, .ref l1, .ref l2, .int l3, .int l4, .ref l5] M sz M0 sz := mMetV_of l D G A (by decide) (Nat.le_of_ble_eq_true rfl) (fun x X hQ => wP_X12_power X hQ h)
/-! SealedTokensModel.twice(I)I -/
theorem dX13_twice_0 : decode cX13_twice 0 = .ok (.iload_n 0, 1) := by decide +kernel
theorem dX13_twice_1 : decode cX13_twice 1 = .ok (.iconst 1, 1) := by decide +kernel
theorem dX13_twice_2 : decode cX13_twice 2 = .ok (.ishl, 1) := by decide +kernel
theorem dX13_twice_3 : decode cX13_twice 3 = .ok (.sipush 255, 3) := by decide +kernel
theorem dX13_twice_6 : decode cX13_twice 6 = .ok (.iand, 1) := by decide +kernel
theorem dX13_twice_7 : decode cX13_twice 7 = .ok (.iload_n 0, 1) := by decide +kernel
theorem dX13_twice_8 : decode cX13_twice 8 = .ok (.bipush 127, 2) := by decide +kernel
theorem dX13_twice_10 : decode cX13_twice 10 = .ok (.if_icmp .le 8, 3) := by decide +kernel
theorem dX13_twice_13 : decode cX13_twice 13 = .ok (.bipush 27, 2) := by decide +kernel
theorem dX13_twice_15 : decode cX13_twice 15 = .ok (.goto 4, 3) := by decide +kernel
theorem dX13_twice_18 : decode cX13_twice 18 = .ok (.iconst 0, 1) := by decide +kernel
theorem dX13_twice_19 : decode cX13_twice 19 = .ok (.ixor, 1) := by decide +kernel
theorem dX13_twice_20 : decode cX13_twice 20 = .ok (.ireturn, 1) := by decide +kernel
abbrev rmX13_twice : Room := { frames := 0, cells := 0, slots := 0, locals := 0 }
def P_X13_twice (G : Nat → Nat) (F : Nat) (l0 : Int32) (M : mM) : Option (Int32 × mM) :=
  if l0 ≤ (127 : Int32) then (some ((((l0 <<< ((1 : Int32) &&& 31)) &&& (255 : Int32)) ^^^ (0 : Int32)), M))
  else (some ((((l0 <<< ((1 : Int32) &&& 31)) &&& (255 : Int32)) ^^^ (27 : Int32)), M))
set_option maxHeartbeats 4000000 in
set_option maxRecDepth 100000 in
theorem wP_X13_twice {G : Nat → Nat} {F : Nat} {x : mXT} {sz : Nat} {r0 : Int32} {M0 : mM} (X : mCX G RX13 cX13_twice 1 (some .int) "twice" rmX13_twice x) (hQ : mQI x r0 M0 (sz, 0, 0)) {l0 : Int32} {M : mM} (h : P_X13_twice G F l0 M = some (r0, M0)) : WW x (sz, 0, 0) M 0 [(0, .int l0)] [] := by
  unfold P_X13_twice at h
  refine ww_iload_n 0 X dX13_twice_0 0 rfl rfl ?_
  refine ww_iconst 1 X (v := (1 : Int32)) dX13_twice_1 (by decide) ?_
  refine ww_ishl 2 X dX13_twice_2 ?_
  refine ww_sipush 3 X (v := (255 : Int32)) dX13_twice_3 (by decide) ?_
  refine ww_iand 6 X dX13_twice_6 ?_
  refine ww_iload_n 7 X dX13_twice_7 0 rfl rfl ?_
  refine ww_bipush 8 X (v := (127 : Int32)) dX13_twice_8 (by decide) ?_
  refine ww_icmp_le 10 18 X dX13_twice_10 (by decide) (fun q => ?_) (fun q => ?_)
  · replace h := (if_pos q).symm.trans h
    refine ww_iconst 18 X (v := (0 : Int32)) dX13_twice_18 (by decide) ?_
    refine ww_ixor 19 X dX13_twice_19 ?_
    exact ww_iretE 20 X hQ dX13_twice_20 h
  · replace h := (if_neg q).symm.trans h
    refine ww_bipush 13 X (v := (27 : Int32)) dX13_twice_13 (by decide) ?_
    refine ww_goto 15 19 X dX13_twice_15 (by decide) ?_
    refine ww_ixor 19 X dX13_twice_19 ?_
    exact ww_iretE 20 X hQ dX13_twice_20 h
theorem c_X13_twice {G : Nat → Nat} {F sz : Nat} {r0 : Int32} {M0 : mM} (l : Launch) (D : mD) (A : Nat → Prop) {l0 : Int32} {M : mM} (h : P_X13_twice G F l0 M = some (r0, M0)) : mMetI l D G A yX13_twice cX13_twice 1 (some .int) 0 0 0 0 [.int l0] M sz r0 M0 sz := mMetI_of l D G A (by decide) (Nat.le_of_ble_eq_true rfl) (fun x X hQ => wP_X13_twice X hQ h)
/-! SealedTokensModel.times(II)I -/
theorem dX13_times_0 : decode cX13_times 0 = .ok (.iload_n 0, 1) := by decide +kernel
theorem dX13_times_1 : decode cX13_times 1 = .ok (.istore_n 2, 1) := by decide +kernel
theorem dX13_times_2 : decode cX13_times 2 = .ok (.iconst 0, 1) := by decide +kernel
theorem dX13_times_3 : decode cX13_times 3 = .ok (.istore_n 3, 1) := by decide +kernel
theorem dX13_times_4 : decode cX13_times 4 = .ok (.iconst 0, 1) := by decide +kernel
theorem dX13_times_5 : decode cX13_times 5 = .ok (.istore 4, 2) := by decide +kernel
theorem dX13_times_7 : decode cX13_times 7 = .ok (.iload 4, 2) := by decide +kernel
theorem dX13_times_9 : decode cX13_times 9 = .ok (.bipush 8, 2) := by decide +kernel
theorem dX13_times_11 : decode cX13_times 11 = .ok (.if_icmp .ge 32, 3) := by decide +kernel
theorem dX13_times_14 : decode cX13_times 14 = .ok (.iload_n 1, 1) := by decide +kernel
theorem dX13_times_15 : decode cX13_times 15 = .ok (.iload 4, 2) := by decide +kernel
theorem dX13_times_17 : decode cX13_times 17 = .ok (.ishr, 1) := by decide +kernel
theorem dX13_times_18 : decode cX13_times 18 = .ok (.iconst 1, 1) := by decide +kernel
theorem dX13_times_19 : decode cX13_times 19 = .ok (.iand, 1) := by decide +kernel
theorem dX13_times_20 : decode cX13_times 20 = .ok (.iconst 1, 1) := by decide +kernel
theorem dX13_times_21 : decode cX13_times 21 = .ok (.if_icmp .ne 9, 3) := by decide +kernel
theorem dX13_times_24 : decode cX13_times 24 = .ok (.iload_n 3, 1) := by decide +kernel
theorem dX13_times_25 : decode cX13_times 25 = .ok (.iload_n 2, 1) := by decide +kernel
theorem dX13_times_26 : decode cX13_times 26 = .ok (.ixor, 1) := by decide +kernel
theorem dX13_times_27 : decode cX13_times 27 = .ok (.goto 4, 3) := by decide +kernel
theorem dX13_times_30 : decode cX13_times 30 = .ok (.iload_n 3, 1) := by decide +kernel
theorem dX13_times_31 : decode cX13_times 31 = .ok (.istore_n 3, 1) := by decide +kernel
theorem dX13_times_32 : decode cX13_times 32 = .ok (.iload_n 2, 1) := by decide +kernel
theorem dX13_times_33 : decode cX13_times 33 = .ok (.invokestatic 589, 3) := by decide +kernel
theorem dX13_times_36 : decode cX13_times 36 = .ok (.istore_n 2, 1) := by decide +kernel
theorem dX13_times_37 : decode cX13_times 37 = .ok (.iinc 4 1, 3) := by decide +kernel
theorem dX13_times_40 : decode cX13_times 40 = .ok (.goto (-33), 3) := by decide +kernel
theorem dX13_times_43 : decode cX13_times 43 = .ok (.iload_n 3, 1) := by decide +kernel
theorem dX13_times_44 : decode cX13_times 44 = .ok (.ireturn, 1) := by decide +kernel
abbrev rmX13_times : Room := { frames := 1, cells := 0, slots := 0, locals := 20 }
def B_X13_times_7 (G : Nat → Nat) (F : Nat) : Nat → Int32 → Int32 → Int32 → Int32 → mM → Option (Int32 × mM)
  | 0, _, _, _, _, _ => none
  | n + 1, l1, l2, l3, l4, M =>
  if (8 : Int32) ≤ l4 then (some (l3, M))
  else (if ((l1 >>> (l4 &&& 31)) &&& (1 : Int32)) = (1 : Int32) then (bP (P_X13_twice G F l2 M) fun v33 M33 =>
  B_X13_times_7 G F n l1 v33 (l3 ^^^ l2) (l4 + 1) M33)
  else (bP (P_X13_twice G F l2 M) fun v33 M33 =>
  B_X13_times_7 G F n l1 v33 l3 (l4 + 1) M33))
set_option maxHeartbeats 4000000 in
set_option maxRecDepth 100000 in
theorem wB_X13_times_7 {G : Nat → Nat} {F : Nat} {x : mXT} {sz : Nat} {r0 : Int32} {M0 : mM} (X : mCX G RX13 cX13_times 5 (some .int) "times" rmX13_times x) (hQ : mQI x r0 M0 (sz, 0, 0)) : ∀ (n : Nat) (l1 : Int32) (l2 : Int32) (l3 : Int32) (l4 : Int32) (M : mM), B_X13_times_7 G F n l1 l2 l3 l4 M = some (r0, M0) → WW x (sz, 0, 0) M 7 [(1, .int l1), (2, .int l2), (3, .int l3), (4, .int l4)] [] := by
  intro n
  induction n with
  | zero =>
    intro l1 l2 l3 l4 M h
    exact nomatch (show (none : Option (Int32 × mM)) = some (r0, M0) from h)
  | succ n ih =>
    intro l1 l2 l3 l4 M h
    rw [B_X13_times_7] at h
    refine ww_iload 7 X dX13_times_7 3 rfl ?_
    refine ww_bipush 9 X (v := (8 : Int32)) dX13_times_9 (by decide) ?_
    refine ww_icmp_ge 11 43 X dX13_times_11 (by decide) (fun q => ?_) (fun q => ?_)
    · replace h := (if_pos q).symm.trans h
      refine ww_iload_n 43 X dX13_times_43 2 rfl rfl ?_
      exact ww_iretE 44 X hQ dX13_times_44 h
    · replace h := (if_neg q).symm.trans h
      refine ww_iload_n 14 X dX13_times_14 0 rfl rfl ?_
      refine ww_iload 15 X dX13_times_15 3 rfl ?_
      refine ww_ishr 17 X dX13_times_17 ?_
      refine ww_iconst 18 X (v := (1 : Int32)) dX13_times_18 (by decide) ?_
      refine ww_iand 19 X dX13_times_19 ?_
      refine ww_iconst 20 X (v := (1 : Int32)) dX13_times_20 (by decide) ?_
      refine ww_icmp_ne 21 30 X dX13_times_21 (by decide) (fun q => ?_) (fun q => ?_)
      · replace h := (if_neg q).symm.trans h
        refine ww_iload_n 30 X dX13_times_30 2 rfl rfl ?_
        refine ww_istore_n 31 X dX13_times_31 (lv' := [(1, .int l1), (2, .int l2), (3, .int l3), (4, .int l4)]) rfl (by decide) [1, 2, 0, 3] rfl ?_
        refine ww_iload_n 32 X dX13_times_32 1 rfl rfl ?_
        obtain ⟨v33, M33, e33, h⟩ := bP_some h
        refine ww_callSI0 33 X dX13_times_33 mY_X13_twice mL_X13_589 (As := [.int l2]) (rest := []) rfl rfl ⟨Nat.le_of_ble_eq_true rfl, Nat.le_of_ble_eq_true rfl⟩ (Nat.le_of_ble_eq_true rfl) (fun l D A => c_X13_twice l D A e33) ?_
        refine ww_istore_n 36 X dX13_times_36 (lv' := [(1, .int l1), (2, .int v33), (3, .int l3), (4, .int l4)]) rfl (by decide) [1, 0, 2, 3] rfl ?_
        refine ww_iinc 37 X dX13_times_37 (lv' := [(1, .int l1), (2, .int v33), (3, .int l3), (4, .int (l4 + 1))]) 3 rfl rfl (by decide) [1, 2, 3, 0] rfl ?_
        refine ww_goto 40 7 X dX13_times_40 (by decide) ?_
        exact (ih _ _ _ _ _ h)
      · replace h := (if_pos q).symm.trans h
        refine ww_iload_n 24 X dX13_times_24 2 rfl rfl ?_
        refine ww_iload_n 25 X dX13_times_25 1 rfl rfl ?_
        refine ww_ixor 26 X dX13_times_26 ?_
        refine ww_goto 27 31 X dX13_times_27 (by decide) ?_
        refine ww_istore_n 31 X dX13_times_31 (lv' := [(1, .int l1), (2, .int l2), (3, .int (l3 ^^^ l2)), (4, .int l4)]) rfl (by decide) [1, 2, 0, 3] rfl ?_
        refine ww_iload_n 32 X dX13_times_32 1 rfl rfl ?_
        obtain ⟨v33, M33, e33, h⟩ := bP_some h
        refine ww_callSI0 33 X dX13_times_33 mY_X13_twice mL_X13_589 (As := [.int l2]) (rest := []) rfl rfl ⟨Nat.le_of_ble_eq_true rfl, Nat.le_of_ble_eq_true rfl⟩ (Nat.le_of_ble_eq_true rfl) (fun l D A => c_X13_twice l D A e33) ?_
        refine ww_istore_n 36 X dX13_times_36 (lv' := [(1, .int l1), (2, .int v33), (3, .int (l3 ^^^ l2)), (4, .int l4)]) rfl (by decide) [1, 0, 2, 3] rfl ?_
        refine ww_iinc 37 X dX13_times_37 (lv' := [(1, .int l1), (2, .int v33), (3, .int (l3 ^^^ l2)), (4, .int (l4 + 1))]) 3 rfl rfl (by decide) [1, 2, 3, 0] rfl ?_
        refine ww_goto 40 7 X dX13_times_40 (by decide) ?_
        exact (ih _ _ _ _ _ h)
def P_X13_times (G : Nat → Nat) (F : Nat) (l0 : Int32) (l1 : Int32) (M : mM) : Option (Int32 × mM) :=
  B_X13_times_7 G F F l1 l0 (0 : Int32) (0 : Int32) M
set_option maxHeartbeats 4000000 in
set_option maxRecDepth 100000 in
theorem wP_X13_times {G : Nat → Nat} {F : Nat} {x : mXT} {sz : Nat} {r0 : Int32} {M0 : mM} (X : mCX G RX13 cX13_times 5 (some .int) "times" rmX13_times x) (hQ : mQI x r0 M0 (sz, 0, 0)) {l0 : Int32} {l1 : Int32} {M : mM} (h : P_X13_times G F l0 l1 M = some (r0, M0)) : WW x (sz, 0, 0) M 0 [(0, .int l0), (1, .int l1)] [] := by
  unfold P_X13_times at h
  refine ww_iload_n 0 X dX13_times_0 0 rfl rfl ?_
  refine ww_istore_n 1 X dX13_times_1 (lv' := [(0, .int l0), (1, .int l1), (2, .int l0)]) rfl (by decide) [1, 2, 0] rfl ?_
  refine ww_iconst 2 X (v := (0 : Int32)) dX13_times_2 (by decide) ?_
  refine ww_istore_n 3 X dX13_times_3 (lv' := [(0, .int l0), (1, .int l1), (2, .int l0), (3, .int (0 : Int32))]) rfl (by decide) [1, 2, 3, 0] rfl ?_
  refine ww_iconst 4 X (v := (0 : Int32)) dX13_times_4 (by decide) ?_
  refine ww_istore 5 X dX13_times_5 (lv' := [(0, .int l0), (1, .int l1), (2, .int l0), (3, .int (0 : Int32)), (4, .int (0 : Int32))]) (by decide) [1, 2, 3, 4, 0] rfl ?_
  exact ww_sub [1, 2, 3, 4] rfl (wB_X13_times_7 X hQ F _ _ _ _ _ h)
theorem c_X13_times {G : Nat → Nat} {F sz : Nat} {r0 : Int32} {M0 : mM} (l : Launch) (D : mD) (A : Nat → Prop) {l0 : Int32} {l1 : Int32} {M : mM} (h : P_X13_times G F l0 l1 M = some (r0, M0)) : mMetI l D G A yX13_times cX13_times 5 (some .int) 1 20 0 0 [.int l0, .int l1] M sz r0 M0 sz := mMetI_of l D G A (by decide) (Nat.le_of_ble_eq_true rfl) (fun x X hQ => wP_X13_times X hQ h)
/-! SealedTokensModel.layCipher()V -/
theorem dX13_layCipher_0 : decode cX13_layCipher 0 = .ok (.iconst 0, 1) := by decide +kernel
theorem dX13_layCipher_1 : decode cX13_layCipher 1 = .ok (.istore_n 1, 1) := by decide +kernel
theorem dX13_layCipher_2 : decode cX13_layCipher 2 = .ok (.iload_n 1, 1) := by decide +kernel
theorem dX13_layCipher_3 : decode cX13_layCipher 3 = .ok (.sipush 256, 3) := by decide +kernel
theorem dX13_layCipher_6 : decode cX13_layCipher 6 = .ok (.if_icmp .ge 107, 3) := by decide +kernel
theorem dX13_layCipher_9 : decode cX13_layCipher 9 = .ok (.iconst 0, 1) := by decide +kernel
theorem dX13_layCipher_10 : decode cX13_layCipher 10 = .ok (.istore_n 2, 1) := by decide +kernel
theorem dX13_layCipher_11 : decode cX13_layCipher 11 = .ok (.iconst 1, 1) := by decide +kernel
theorem dX13_layCipher_12 : decode cX13_layCipher 12 = .ok (.istore_n 3, 1) := by decide +kernel
theorem dX13_layCipher_13 : decode cX13_layCipher 13 = .ok (.iload_n 3, 1) := by decide +kernel
theorem dX13_layCipher_14 : decode cX13_layCipher 14 = .ok (.sipush 256, 3) := by decide +kernel
theorem dX13_layCipher_17 : decode cX13_layCipher 17 = .ok (.if_icmp .ge 32, 3) := by decide +kernel
theorem dX13_layCipher_20 : decode cX13_layCipher 20 = .ok (.iload_n 1, 1) := by decide +kernel
theorem dX13_layCipher_21 : decode cX13_layCipher 21 = .ok (.ifCond .le 28, 3) := by decide +kernel
theorem dX13_layCipher_24 : decode cX13_layCipher 24 = .ok (.iload_n 2, 1) := by decide +kernel
theorem dX13_layCipher_25 : decode cX13_layCipher 25 = .ok (.ifCond .ne 24, 3) := by decide +kernel
theorem dX13_layCipher_28 : decode cX13_layCipher 28 = .ok (.iload_n 1, 1) := by decide +kernel
theorem dX13_layCipher_29 : decode cX13_layCipher 29 = .ok (.iload_n 3, 1) := by decide +kernel
theorem dX13_layCipher_30 : decode cX13_layCipher 30 = .ok (.invokestatic 592, 3) := by decide +kernel
theorem dX13_layCipher_33 : decode cX13_layCipher 33 = .ok (.iconst 1, 1) := by decide +kernel
theorem dX13_layCipher_34 : decode cX13_layCipher 34 = .ok (.if_icmp .ne 7, 3) := by decide +kernel
theorem dX13_layCipher_37 : decode cX13_layCipher 37 = .ok (.iload_n 3, 1) := by decide +kernel
theorem dX13_layCipher_38 : decode cX13_layCipher 38 = .ok (.goto 4, 3) := by decide +kernel
theorem dX13_layCipher_41 : decode cX13_layCipher 41 = .ok (.iconst 0, 1) := by decide +kernel
theorem dX13_layCipher_42 : decode cX13_layCipher 42 = .ok (.istore_n 2, 1) := by decide +kernel
theorem dX13_layCipher_43 : decode cX13_layCipher 43 = .ok (.iinc 3 1, 3) := by decide +kernel
theorem dX13_layCipher_46 : decode cX13_layCipher 46 = .ok (.goto (-33), 3) := by decide +kernel
theorem dX13_layCipher_49 : decode cX13_layCipher 49 = .ok (.iload_n 2, 1) := by decide +kernel
theorem dX13_layCipher_50 : decode cX13_layCipher 50 = .ok (.istore_n 3, 1) := by decide +kernel
theorem dX13_layCipher_51 : decode cX13_layCipher 51 = .ok (.iconst 1, 1) := by decide +kernel
theorem dX13_layCipher_52 : decode cX13_layCipher 52 = .ok (.istore 4, 2) := by decide +kernel
theorem dX13_layCipher_54 : decode cX13_layCipher 54 = .ok (.iload 4, 2) := by decide +kernel
theorem dX13_layCipher_56 : decode cX13_layCipher 56 = .ok (.iconst 5, 1) := by decide +kernel
theorem dX13_layCipher_57 : decode cX13_layCipher 57 = .ok (.if_icmp .ge 28, 3) := by decide +kernel
theorem dX13_layCipher_60 : decode cX13_layCipher 60 = .ok (.iload_n 3, 1) := by decide +kernel
theorem dX13_layCipher_61 : decode cX13_layCipher 61 = .ok (.iload_n 2, 1) := by decide +kernel
theorem dX13_layCipher_62 : decode cX13_layCipher 62 = .ok (.iload 4, 2) := by decide +kernel
theorem dX13_layCipher_64 : decode cX13_layCipher 64 = .ok (.ishl, 1) := by decide +kernel
theorem dX13_layCipher_65 : decode cX13_layCipher 65 = .ok (.iload_n 2, 1) := by decide +kernel
theorem dX13_layCipher_66 : decode cX13_layCipher 66 = .ok (.bipush 8, 2) := by decide +kernel
theorem dX13_layCipher_68 : decode cX13_layCipher 68 = .ok (.iload 4, 2) := by decide +kernel
theorem dX13_layCipher_70 : decode cX13_layCipher 70 = .ok (.isub, 1) := by decide +kernel
theorem dX13_layCipher_71 : decode cX13_layCipher 71 = .ok (.ishr, 1) := by decide +kernel
theorem dX13_layCipher_72 : decode cX13_layCipher 72 = .ok (.ior, 1) := by decide +kernel
theorem dX13_layCipher_73 : decode cX13_layCipher 73 = .ok (.sipush 255, 3) := by decide +kernel
theorem dX13_layCipher_76 : decode cX13_layCipher 76 = .ok (.iand, 1) := by decide +kernel
theorem dX13_layCipher_77 : decode cX13_layCipher 77 = .ok (.ixor, 1) := by decide +kernel
theorem dX13_layCipher_78 : decode cX13_layCipher 78 = .ok (.istore_n 3, 1) := by decide +kernel
theorem dX13_layCipher_79 : decode cX13_layCipher 79 = .ok (.iinc 4 1, 3) := by decide +kernel
theorem dX13_layCipher_82 : decode cX13_layCipher 82 = .ok (.goto (-28), 3) := by decide +kernel
theorem dX13_layCipher_85 : decode cX13_layCipher 85 = .ok (.aload_n 0, 1) := by decide +kernel
theorem dX13_layCipher_86 : decode cX13_layCipher 86 = .ok (.getfield 89, 3) := by decide +kernel
theorem dX13_layCipher_89 : decode cX13_layCipher 89 = .ok (.iload_n 1, 1) := by decide +kernel
theorem dX13_layCipher_90 : decode cX13_layCipher 90 = .ok (.iload_n 3, 1) := by decide +kernel
theorem dX13_layCipher_91 : decode cX13_layCipher 91 = .ok (.bipush 99, 2) := by decide +kernel
theorem dX13_layCipher_93 : decode cX13_layCipher 93 = .ok (.ixor, 1) := by decide +kernel
theorem dX13_layCipher_94 : decode cX13_layCipher 94 = .ok (.iastore, 1) := by decide +kernel
theorem dX13_layCipher_95 : decode cX13_layCipher 95 = .ok (.aload_n 0, 1) := by decide +kernel
theorem dX13_layCipher_96 : decode cX13_layCipher 96 = .ok (.getfield 92, 3) := by decide +kernel
theorem dX13_layCipher_99 : decode cX13_layCipher 99 = .ok (.aload_n 0, 1) := by decide +kernel
theorem dX13_layCipher_100 : decode cX13_layCipher 100 = .ok (.getfield 89, 3) := by decide +kernel
theorem dX13_layCipher_103 : decode cX13_layCipher 103 = .ok (.iload_n 1, 1) := by decide +kernel
theorem dX13_layCipher_104 : decode cX13_layCipher 104 = .ok (.iaload, 1) := by decide +kernel
theorem dX13_layCipher_105 : decode cX13_layCipher 105 = .ok (.iload_n 1, 1) := by decide +kernel
theorem dX13_layCipher_106 : decode cX13_layCipher 106 = .ok (.iastore, 1) := by decide +kernel
theorem dX13_layCipher_107 : decode cX13_layCipher 107 = .ok (.iinc 1 1, 3) := by decide +kernel
theorem dX13_layCipher_110 : decode cX13_layCipher 110 = .ok (.goto (-108), 3) := by decide +kernel
theorem dX13_layCipher_113 : decode cX13_layCipher 113 = .ok (.return_, 1) := by decide +kernel
abbrev rmX13_layCipher : Room := { frames := 2, cells := 0, slots := 0, locals := 44 }
def B_X13_layCipher_54 (G : Nat → Nat) (F : Nat) (r2 : Nat → Int32 → mM → Option mM) : Nat → Nat → Int32 → Int32 → Int32 → Int32 → mM → Option mM
  | 0, _, _, _, _, _, _ => none
  | n + 1, l0, l1, l2, l3, l4, M =>
  if (5 : Int32) ≤ l4 then (bO (gfR M l0 13 41) fun v86 =>
  bO (sI M 0 v86 l1 (l3 ^^^ (99 : Int32))) fun M94 =>
  bO (gfR M94 l0 13 42) fun v96 =>
  bO (gfR M94 l0 13 41) fun v100 =>
  bO (aI M94 0 v100 l1) fun v104 =>
  bO (sI M94 0 v96 v104 l1) fun M106 =>
  r2 l0 (l1 + 1) M106)
  else (B_X13_layCipher_54 G F r2 n l0 l1 l2 (l3 ^^^ (((l2 <<< (l4 &&& 31)) ||| (l2 >>> (((8 : Int32) - l4) &&& 31))) &&& (255 : Int32))) (l4 + 1) M)
set_option maxHeartbeats 4000000 in
set_option maxRecDepth 100000 in
theorem wB_X13_layCipher_54 {G : Nat → Nat} {F : Nat} {x : mXT} {sz : Nat} {M0 : mM} (X : mCX G RX13 cX13_layCipher 5 none "layCipher" rmX13_layCipher x) (hQ : mQV x M0 (sz, 0, 0)) (r2 : Nat → Int32 → mM → Option mM) (hr2 : ∀ (l0 : Nat) (l1 : Int32) (M : mM), r2 l0 l1 M = some M0 → WW x (sz, 0, 0) M 2 [(0, .ref l0), (1, .int l1)] []) : ∀ (n : Nat) (l0 : Nat) (l1 : Int32) (l2 : Int32) (l3 : Int32) (l4 : Int32) (M : mM), B_X13_layCipher_54 G F r2 n l0 l1 l2 l3 l4 M = some M0 → WW x (sz, 0, 0) M 54 [(0, .ref l0), (1, .int l1), (2, .int l2), (3, .int l3), (4, .int l4)] [] := by
  intro n
  induction n with
  | zero =>
    intro l0 l1 l2 l3 l4 M h
    exact nomatch (show (none : Option mM) = some M0 from h)
  | succ n ih =>
    intro l0 l1 l2 l3 l4 M h
    rw [B_X13_layCipher_54] at h
    refine ww_iload 54 X dX13_layCipher_54 4 rfl ?_
    refine ww_iconst 56 X (v := (5 : Int32)) dX13_layCipher_56 (by decide) ?_
    refine ww_icmp_ge 57 85 X dX13_layCipher_57 (by decide) (fun q => ?_) (fun q => ?_)
    · replace h := (if_pos q).symm.trans h
      refine ww_aload_n 85 X dX13_layCipher_85 0 rfl rfl ?_
      obtain ⟨v86, e86, h⟩ := bO_some h
      refine ww_getR 86 X dX13_layCipher_86 fG_X13_89 e86 ?_
      refine ww_iload_n 89 X dX13_layCipher_89 1 rfl rfl ?_
      refine ww_iload_n 90 X dX13_layCipher_90 3 rfl rfl ?_
      refine ww_bipush 91 X (v := (99 : Int32)) dX13_layCipher_91 (by decide) ?_
      refine ww_ixor 93 X dX13_layCipher_93 ?_
      obtain ⟨M94, e94, h⟩ := bO_some h
      refine ww_iast 94 X dX13_layCipher_94 e94 ?_
      refine ww_aload_n 95 X dX13_layCipher_95 0 rfl rfl ?_
      obtain ⟨v96, e96, h⟩ := bO_some h
      refine ww_getR 96 X dX13_layCipher_96 fG_X13_92 e96 ?_
      refine ww_aload_n 99 X dX13_layCipher_99 0 rfl rfl ?_
      obtain ⟨v100, e100, h⟩ := bO_some h
      refine ww_getR 100 X dX13_layCipher_100 fG_X13_89 e100 ?_
      refine ww_iload_n 103 X dX13_layCipher_103 1 rfl rfl ?_
      obtain ⟨v104, e104, h⟩ := bO_some h
      refine ww_iald 104 X dX13_layCipher_104 e104 ?_
      refine ww_iload_n 105 X dX13_layCipher_105 1 rfl rfl ?_
      obtain ⟨M106, e106, h⟩ := bO_some h
      refine ww_iast 106 X dX13_layCipher_106 e106 ?_
      refine ww_iinc 107 X dX13_layCipher_107 (lv' := [(0, .ref l0), (1, .int (l1 + 1)), (2, .int l2), (3, .int l3), (4, .int l4)]) 1 rfl rfl (by decide) [1, 0, 2, 3, 4] rfl ?_
      refine ww_goto 110 2 X dX13_layCipher_110 (by decide) ?_
      exact ww_sub [0, 1] rfl (hr2 _ _ _ h)
    · replace h := (if_neg q).symm.trans h
      refine ww_iload_n 60 X dX13_layCipher_60 3 rfl rfl ?_
      refine ww_iload_n 61 X dX13_layCipher_61 2 rfl rfl ?_
      refine ww_iload 62 X dX13_layCipher_62 4 rfl ?_
      refine ww_ishl 64 X dX13_layCipher_64 ?_
      refine ww_iload_n 65 X dX13_layCipher_65 2 rfl rfl ?_
      refine ww_bipush 66 X (v := (8 : Int32)) dX13_layCipher_66 (by decide) ?_
      refine ww_iload 68 X dX13_layCipher_68 4 rfl ?_
      refine ww_isub 70 X dX13_layCipher_70 ?_
      refine ww_ishr 71 X dX13_layCipher_71 ?_
      refine ww_ior 72 X dX13_layCipher_72 ?_
      refine ww_sipush 73 X (v := (255 : Int32)) dX13_layCipher_73 (by decide) ?_
      refine ww_iand 76 X dX13_layCipher_76 ?_
      refine ww_ixor 77 X dX13_layCipher_77 ?_
      refine ww_istore_n 78 X dX13_layCipher_78 (lv' := [(0, .ref l0), (1, .int l1), (2, .int l2), (3, .int (l3 ^^^ (((l2 <<< (l4 &&& 31)) ||| (l2 >>> (((8 : Int32) - l4) &&& 31))) &&& (255 : Int32)))), (4, .int l4)]) rfl (by decide) [1, 2, 3, 0, 4] rfl ?_
      refine ww_iinc 79 X dX13_layCipher_79 (lv' := [(0, .ref l0), (1, .int l1), (2, .int l2), (3, .int (l3 ^^^ (((l2 <<< (l4 &&& 31)) ||| (l2 >>> (((8 : Int32) - l4) &&& 31))) &&& (255 : Int32)))), (4, .int (l4 + 1))]) 4 rfl rfl (by decide) [1, 2, 3, 4, 0] rfl ?_
      refine ww_goto 82 54 X dX13_layCipher_82 (by decide) ?_
      exact (ih _ _ _ _ _ _ h)
def B_X13_layCipher_13 (G : Nat → Nat) (F : Nat) (r2 : Nat → Int32 → mM → Option mM) : Nat → Nat → Int32 → Int32 → Int32 → mM → Option mM
  | 0, _, _, _, _, _ => none
  | n + 1, l0, l1, l2, l3, M =>
  if (256 : Int32) ≤ l3 then (B_X13_layCipher_54 G F r2 F l0 l1 l2 l2 (1 : Int32) M)
  else (if l1 ≤ 0 then (B_X13_layCipher_54 G F r2 F l0 l1 l2 l2 (1 : Int32) M)
  else (if l2 = 0 then (bP (P_X13_times G F l1 l3 M) fun v30 M30 =>
  if v30 = (1 : Int32) then (B_X13_layCipher_13 G F r2 n l0 l1 l3 (l3 + 1) M30)
  else (B_X13_layCipher_13 G F r2 n l0 l1 (0 : Int32) (l3 + 1) M30))
  else (B_X13_layCipher_54 G F r2 F l0 l1 l2 l2 (1 : Int32) M)))
set_option maxHeartbeats 4000000 in
set_option maxRecDepth 100000 in
theorem wB_X13_layCipher_13 {G : Nat → Nat} {F : Nat} {x : mXT} {sz : Nat} {M0 : mM} (X : mCX G RX13 cX13_layCipher 5 none "layCipher" rmX13_layCipher x) (hQ : mQV x M0 (sz, 0, 0)) (r2 : Nat → Int32 → mM → Option mM) (hr2 : ∀ (l0 : Nat) (l1 : Int32) (M : mM), r2 l0 l1 M = some M0 → WW x (sz, 0, 0) M 2 [(0, .ref l0), (1, .int l1)] []) : ∀ (n : Nat) (l0 : Nat) (l1 : Int32) (l2 : Int32) (l3 : Int32) (M : mM), B_X13_layCipher_13 G F r2 n l0 l1 l2 l3 M = some M0 → WW x (sz, 0, 0) M 13 [(0, .ref l0), (1, .int l1), (2, .int l2), (3, .int l3)] [] := by
  intro n
  induction n with
  | zero =>
    intro l0 l1 l2 l3 M h
    exact nomatch (show (none : Option mM) = some M0 from h)
  | succ n ih =>
    intro l0 l1 l2 l3 M h
    rw [B_X13_layCipher_13] at h
    refine ww_iload_n 13 X dX13_layCipher_13 3 rfl rfl ?_
    refine ww_sipush 14 X (v := (256 : Int32)) dX13_layCipher_14 (by decide) ?_
    refine ww_icmp_ge 17 49 X dX13_layCipher_17 (by decide) (fun q => ?_) (fun q => ?_)
    · replace h := (if_pos q).symm.trans h
      refine ww_iload_n 49 X dX13_layCipher_49 2 rfl rfl ?_
      refine ww_istore_n 50 X dX13_layCipher_50 (lv' := [(0, .ref l0), (1, .int l1), (2, .int l2), (3, .int l2)]) rfl (by decide) [1, 2, 3, 0] rfl ?_
      refine ww_iconst 51 X (v := (1 : Int32)) dX13_layCipher_51 (by decide) ?_
      refine ww_istore 52 X dX13_layCipher_52 (lv' := [(0, .ref l0), (1, .int l1), (2, .int l2), (3, .int l2), (4, .int (1 : Int32))]) (by decide) [1, 2, 3, 4, 0] rfl ?_
      exact (wB_X13_layCipher_54 X hQ _ hr2 F _ _ _ _ _ _ h)
    · replace h := (if_neg q).symm.trans h
      refine ww_iload_n 20 X dX13_layCipher_20 1 rfl rfl ?_
      refine ww_if_le 21 49 X dX13_layCipher_21 (by decide) (fun q => ?_) (fun q => ?_)
      · replace h := (if_pos q).symm.trans h
        refine ww_iload_n 49 X dX13_layCipher_49 2 rfl rfl ?_
        refine ww_istore_n 50 X dX13_layCipher_50 (lv' := [(0, .ref l0), (1, .int l1), (2, .int l2), (3, .int l2)]) rfl (by decide) [1, 2, 3, 0] rfl ?_
        refine ww_iconst 51 X (v := (1 : Int32)) dX13_layCipher_51 (by decide) ?_
        refine ww_istore 52 X dX13_layCipher_52 (lv' := [(0, .ref l0), (1, .int l1), (2, .int l2), (3, .int l2), (4, .int (1 : Int32))]) (by decide) [1, 2, 3, 4, 0] rfl ?_
        exact (wB_X13_layCipher_54 X hQ _ hr2 F _ _ _ _ _ _ h)
      · replace h := (if_neg q).symm.trans h
        refine ww_iload_n 24 X dX13_layCipher_24 2 rfl rfl ?_
        refine ww_if_ne 25 49 X dX13_layCipher_25 (by decide) (fun q => ?_) (fun q => ?_)
        · replace h := (if_neg q).symm.trans h
          refine ww_iload_n 49 X dX13_layCipher_49 2 rfl rfl ?_
          refine ww_istore_n 50 X dX13_layCipher_50 (lv' := [(0, .ref l0), (1, .int l1), (2, .int l2), (3, .int l2)]) rfl (by decide) [1, 2, 3, 0] rfl ?_
          refine ww_iconst 51 X (v := (1 : Int32)) dX13_layCipher_51 (by decide) ?_
          refine ww_istore 52 X dX13_layCipher_52 (lv' := [(0, .ref l0), (1, .int l1), (2, .int l2), (3, .int l2), (4, .int (1 : Int32))]) (by decide) [1, 2, 3, 4, 0] rfl ?_
          exact (wB_X13_layCipher_54 X hQ _ hr2 F _ _ _ _ _ _ h)
        · replace h := (if_pos q).symm.trans h
          refine ww_iload_n 28 X dX13_layCipher_28 1 rfl rfl ?_
          refine ww_iload_n 29 X dX13_layCipher_29 3 rfl rfl ?_
          obtain ⟨v30, M30, e30, h⟩ := bP_some h
          refine ww_callSI0 30 X dX13_layCipher_30 mY_X13_times mL_X13_592 (As := [.int l1, .int l3]) (rest := []) rfl rfl ⟨Nat.le_of_ble_eq_true rfl, Nat.le_of_ble_eq_true rfl⟩ (Nat.le_of_ble_eq_true rfl) (fun l D A => c_X13_times l D A e30) ?_
          refine ww_iconst 33 X (v := (1 : Int32)) dX13_layCipher_33 (by decide) ?_
          refine ww_icmp_ne 34 41 X dX13_layCipher_34 (by decide) (fun q => ?_) (fun q => ?_)
          · replace h := (if_neg q).symm.trans h
            refine ww_iconst 41 X (v := (0 : Int32)) dX13_layCipher_41 (by decide) ?_
            refine ww_istore_n 42 X dX13_layCipher_42 (lv' := [(0, .ref l0), (1, .int l1), (2, .int (0 : Int32)), (3, .int l3)]) rfl (by decide) [1, 2, 0, 3] rfl ?_
            refine ww_iinc 43 X dX13_layCipher_43 (lv' := [(0, .ref l0), (1, .int l1), (2, .int (0 : Int32)), (3, .int (l3 + 1))]) 3 rfl rfl (by decide) [1, 2, 3, 0] rfl ?_
            refine ww_goto 46 13 X dX13_layCipher_46 (by decide) ?_
            exact (ih _ _ _ _ _ h)
          · replace h := (if_pos q).symm.trans h
            refine ww_iload_n 37 X dX13_layCipher_37 3 rfl rfl ?_
            refine ww_goto 38 42 X dX13_layCipher_38 (by decide) ?_
            refine ww_istore_n 42 X dX13_layCipher_42 (lv' := [(0, .ref l0), (1, .int l1), (2, .int l3), (3, .int l3)]) rfl (by decide) [1, 2, 0, 3] rfl ?_
            refine ww_iinc 43 X dX13_layCipher_43 (lv' := [(0, .ref l0), (1, .int l1), (2, .int l3), (3, .int (l3 + 1))]) 3 rfl rfl (by decide) [1, 2, 3, 0] rfl ?_
            refine ww_goto 46 13 X dX13_layCipher_46 (by decide) ?_
            exact (ih _ _ _ _ _ h)
def B_X13_layCipher_2 (G : Nat → Nat) (F : Nat) : Nat → Nat → Int32 → mM → Option mM
  | 0, _, _, _ => none
  | n + 1, l0, l1, M =>
  if (256 : Int32) ≤ l1 then (some M)
  else (B_X13_layCipher_13 G F (B_X13_layCipher_2 G F n) F l0 l1 (0 : Int32) (1 : Int32) M)
set_option maxHeartbeats 4000000 in
set_option maxRecDepth 100000 in
theorem wB_X13_layCipher_2 {G : Nat → Nat} {F : Nat} {x : mXT} {sz : Nat} {M0 : mM} (X : mCX G RX13 cX13_layCipher 5 none "layCipher" rmX13_layCipher x) (hQ : mQV x M0 (sz, 0, 0)) : ∀ (n : Nat) (l0 : Nat) (l1 : Int32) (M : mM), B_X13_layCipher_2 G F n l0 l1 M = some M0 → WW x (sz, 0, 0) M 2 [(0, .ref l0), (1, .int l1)] [] := by
  intro n
  induction n with
  | zero =>
    intro l0 l1 M h
    exact nomatch (show (none : Option mM) = some M0 from h)
  | succ n ih =>
    intro l0 l1 M h
    rw [B_X13_layCipher_2] at h
    refine ww_iload_n 2 X dX13_layCipher_2 1 rfl rfl ?_
    refine ww_sipush 3 X (v := (256 : Int32)) dX13_layCipher_3 (by decide) ?_
    refine ww_icmp_ge 6 113 X dX13_layCipher_6 (by decide) (fun q => ?_) (fun q => ?_)
    · replace h := (if_pos q).symm.trans h
      exact ww_vretE 113 X hQ dX13_layCipher_113 h
    · replace h := (if_neg q).symm.trans h
      refine ww_iconst 9 X (v := (0 : Int32)) dX13_layCipher_9 (by decide) ?_
      refine ww_istore_n 10 X dX13_layCipher_10 (lv' := [(0, .ref l0), (1, .int l1), (2, .int (0 : Int32))]) rfl (by decide) [1, 2, 0] rfl ?_
      refine ww_iconst 11 X (v := (1 : Int32)) dX13_layCipher_11 (by decide) ?_
      refine ww_istore_n 12 X dX13_layCipher_12 (lv' := [(0, .ref l0), (1, .int l1), (2, .int (0 : Int32)), (3, .int (1 : Int32))]) rfl (by decide) [1, 2, 3, 0] rfl ?_
      exact (wB_X13_layCipher_13 X hQ _ ih F _ _ _ _ _ h)
def P_X13_layCipher (G : Nat → Nat) (F : Nat) (l0 : Nat) (M : mM) : Option mM :=
  B_X13_layCipher_2 G F F l0 (0 : Int32) M
set_option maxHeartbeats 4000000 in
set_option maxRecDepth 100000 in
theorem wP_X13_layCipher {G : Nat → Nat} {F : Nat} {x : mXT} {sz : Nat} {M0 : mM} (X : mCX G RX13 cX13_layCipher 5 none "layCipher" rmX13_layCipher x) (hQ : mQV x M0 (sz, 0, 0)) {l0 : Nat} {M : mM} (h : P_X13_layCipher G F l0 M = some M0) : WW x (sz, 0, 0) M 0 [(0, .ref l0)] [] := by
  unfold P_X13_layCipher at h
  refine ww_iconst 0 X (v := (0 : Int32)) dX13_layCipher_0 (by decide) ?_
  refine ww_istore_n 1 X dX13_layCipher_1 (lv' := [(0, .ref l0), (1, .int (0 : Int32))]) rfl (by decide) [1, 0] rfl ?_
  exact (wB_X13_layCipher_2 X hQ F _ _ _ h)
theorem c_X13_layCipher {G : Nat → Nat} {F sz : Nat} {M0 : mM} (l : Launch) (D : mD) (A : Nat → Prop) {l0 : Nat} {M : mM} (h : P_X13_layCipher G F l0 M = some M0) : mMetV l D G A yX13_layCipher cX13_layCipher 5 none 2 44 0 0 [.ref l0] M sz M0 sz := mMetV_of l D G A (by decide) (Nat.le_of_ble_eq_true rfl) (fun x X hQ => wP_X13_layCipher X hQ h)
/-! SealedTokensModel.isDigit(I)Z -/
theorem dX13_isDigit_0 : decode cX13_isDigit 0 = .ok (.iload_n 0, 1) := by decide +kernel
theorem dX13_isDigit_1 : decode cX13_isDigit 1 = .ok (.bipush 48, 2) := by decide +kernel
theorem dX13_isDigit_3 : decode cX13_isDigit 3 = .ok (.if_icmp .lt 13, 3) := by decide +kernel
theorem dX13_isDigit_6 : decode cX13_isDigit 6 = .ok (.iload_n 0, 1) := by decide +kernel
theorem dX13_isDigit_7 : decode cX13_isDigit 7 = .ok (.bipush 57, 2) := by decide +kernel
theorem dX13_isDigit_9 : decode cX13_isDigit 9 = .ok (.if_icmp .gt 7, 3) := by decide +kernel
theorem dX13_isDigit_12 : decode cX13_isDigit 12 = .ok (.iconst 1, 1) := by decide +kernel
theorem dX13_isDigit_13 : decode cX13_isDigit 13 = .ok (.goto 4, 3) := by decide +kernel
theorem dX13_isDigit_16 : decode cX13_isDigit 16 = .ok (.iconst 0, 1) := by decide +kernel
theorem dX13_isDigit_17 : decode cX13_isDigit 17 = .ok (.ireturn, 1) := by decide +kernel
abbrev rmX13_isDigit : Room := { frames := 0, cells := 0, slots := 0, locals := 0 }
def P_X13_isDigit (G : Nat → Nat) (F : Nat) (l0 : Int32) (M : mM) : Option (Int32 × mM) :=
  if l0 < (48 : Int32) then (retZ (0 : Int32) M)
  else (if (57 : Int32) < l0 then (retZ (0 : Int32) M)
  else (retZ (1 : Int32) M))
set_option maxHeartbeats 4000000 in
set_option maxRecDepth 100000 in
theorem wP_X13_isDigit {G : Nat → Nat} {F : Nat} {x : mXT} {sz : Nat} {r0 : Int32} {M0 : mM} (X : mCX G RX13 cX13_isDigit 1 (some .boolean) "isDigit" rmX13_isDigit x) (hQ : mQI x r0 M0 (sz, 0, 0)) {l0 : Int32} {M : mM} (h : P_X13_isDigit G F l0 M = some (r0, M0)) : WW x (sz, 0, 0) M 0 [(0, .int l0)] [] := by
  unfold P_X13_isDigit at h
  refine ww_iload_n 0 X dX13_isDigit_0 0 rfl rfl ?_
  refine ww_bipush 1 X (v := (48 : Int32)) dX13_isDigit_1 (by decide) ?_
  refine ww_icmp_lt 3 16 X dX13_isDigit_3 (by decide) (fun q => ?_) (fun q => ?_)
  · replace h := (if_pos q).symm.trans h
    refine ww_iconst 16 X (v := (0 : Int32)) dX13_isDigit_16 (by decide) ?_
    exact ww_zretE 17 X hQ dX13_isDigit_17 h
  · replace h := (if_neg q).symm.trans h
    refine ww_iload_n 6 X dX13_isDigit_6 0 rfl rfl ?_
    refine ww_bipush 7 X (v := (57 : Int32)) dX13_isDigit_7 (by decide) ?_
    refine ww_icmp_gt 9 16 X dX13_isDigit_9 (by decide) (fun q => ?_) (fun q => ?_)
    · replace h := (if_pos q).symm.trans h
      refine ww_iconst 16 X (v := (0 : Int32)) dX13_isDigit_16 (by decide) ?_
      exact ww_zretE 17 X hQ dX13_isDigit_17 h
    · replace h := (if_neg q).symm.trans h
      refine ww_iconst 12 X (v := (1 : Int32)) dX13_isDigit_12 (by decide) ?_
      refine ww_goto 13 17 X dX13_isDigit_13 (by decide) ?_
      exact ww_zretE 17 X hQ dX13_isDigit_17 h
theorem c_X13_isDigit {G : Nat → Nat} {F sz : Nat} {r0 : Int32} {M0 : mM} (l : Launch) (D : mD) (A : Nat → Prop) {l0 : Int32} {M : mM} (h : P_X13_isDigit G F l0 M = some (r0, M0)) : mMetI l D G A yX13_isDigit cX13_isDigit 1 (some .boolean) 0 0 0 0 [.int l0] M sz r0 M0 sz := mMetI_of l D G A (by decide) (Nat.le_of_ble_eq_true rfl) (fun x X hQ => wP_X13_isDigit X hQ h)
/-! SealedTokensModel.hexOf(I)I -/
theorem dX13_hexOf_0 : decode cX13_hexOf 0 = .ok (.iload_n 0, 1) := by decide +kernel
theorem dX13_hexOf_1 : decode cX13_hexOf 1 = .ok (.invokestatic 379, 3) := by decide +kernel
theorem dX13_hexOf_4 : decode cX13_hexOf 4 = .ok (.ifCond .eq 10, 3) := by decide +kernel
theorem dX13_hexOf_7 : decode cX13_hexOf 7 = .ok (.iload_n 0, 1) := by decide +kernel
theorem dX13_hexOf_8 : decode cX13_hexOf 8 = .ok (.bipush 48, 2) := by decide +kernel
theorem dX13_hexOf_10 : decode cX13_hexOf 10 = .ok (.isub, 1) := by decide +kernel
theorem dX13_hexOf_11 : decode cX13_hexOf 11 = .ok (.goto 42, 3) := by decide +kernel
theorem dX13_hexOf_14 : decode cX13_hexOf 14 = .ok (.iload_n 0, 1) := by decide +kernel
theorem dX13_hexOf_15 : decode cX13_hexOf 15 = .ok (.bipush 97, 2) := by decide +kernel
theorem dX13_hexOf_17 : decode cX13_hexOf 17 = .ok (.if_icmp .lt 16, 3) := by decide +kernel
theorem dX13_hexOf_20 : decode cX13_hexOf 20 = .ok (.iload_n 0, 1) := by decide +kernel
theorem dX13_hexOf_21 : decode cX13_hexOf 21 = .ok (.bipush 102, 2) := by decide +kernel
theorem dX13_hexOf_23 : decode cX13_hexOf 23 = .ok (.if_icmp .gt 10, 3) := by decide +kernel
theorem dX13_hexOf_26 : decode cX13_hexOf 26 = .ok (.iload_n 0, 1) := by decide +kernel
theorem dX13_hexOf_27 : decode cX13_hexOf 27 = .ok (.bipush 87, 2) := by decide +kernel
theorem dX13_hexOf_29 : decode cX13_hexOf 29 = .ok (.isub, 1) := by decide +kernel
theorem dX13_hexOf_30 : decode cX13_hexOf 30 = .ok (.goto 23, 3) := by decide +kernel
theorem dX13_hexOf_33 : decode cX13_hexOf 33 = .ok (.iload_n 0, 1) := by decide +kernel
theorem dX13_hexOf_34 : decode cX13_hexOf 34 = .ok (.bipush 65, 2) := by decide +kernel
theorem dX13_hexOf_36 : decode cX13_hexOf 36 = .ok (.if_icmp .lt 16, 3) := by decide +kernel
theorem dX13_hexOf_39 : decode cX13_hexOf 39 = .ok (.iload_n 0, 1) := by decide +kernel
theorem dX13_hexOf_40 : decode cX13_hexOf 40 = .ok (.bipush 70, 2) := by decide +kernel
theorem dX13_hexOf_42 : decode cX13_hexOf 42 = .ok (.if_icmp .gt 10, 3) := by decide +kernel
theorem dX13_hexOf_45 : decode cX13_hexOf 45 = .ok (.iload_n 0, 1) := by decide +kernel
theorem dX13_hexOf_46 : decode cX13_hexOf 46 = .ok (.bipush 55, 2) := by decide +kernel
theorem dX13_hexOf_48 : decode cX13_hexOf 48 = .ok (.isub, 1) := by decide +kernel
theorem dX13_hexOf_49 : decode cX13_hexOf 49 = .ok (.goto 4, 3) := by decide +kernel
theorem dX13_hexOf_52 : decode cX13_hexOf 52 = .ok (.iconst (-1), 1) := by decide +kernel
theorem dX13_hexOf_53 : decode cX13_hexOf 53 = .ok (.ireturn, 1) := by decide +kernel
abbrev rmX13_hexOf : Room := { frames := 1, cells := 0, slots := 0, locals := 20 }
def B_X13_hexOf_33 (G : Nat → Nat) (F : Nat) (l0 : Int32) (M : mM) : Option (Int32 × mM) :=
  if l0 < (65 : Int32) then (some ((-1 : Int32), M))
  else (if (70 : Int32) < l0 then (some ((-1 : Int32), M))
  else (some ((l0 - (55 : Int32)), M)))
set_option maxHeartbeats 4000000 in
set_option maxRecDepth 100000 in
theorem wB_X13_hexOf_33 {G : Nat → Nat} {F : Nat} {x : mXT} {sz : Nat} {r0 : Int32} {M0 : mM} (X : mCX G RX13 cX13_hexOf 1 (some .int) "hexOf" rmX13_hexOf x) (hQ : mQI x r0 M0 (sz, 0, 0)) {l0 : Int32} {M : mM} (h : B_X13_hexOf_33 G F l0 M = some (r0, M0)) : WW x (sz, 0, 0) M 33 [(0, .int l0)] [] := by
  unfold B_X13_hexOf_33 at h
  refine ww_iload_n 33 X dX13_hexOf_33 0 rfl rfl ?_
  refine ww_bipush 34 X (v := (65 : Int32)) dX13_hexOf_34 (by decide) ?_
  refine ww_icmp_lt 36 52 X dX13_hexOf_36 (by decide) (fun q => ?_) (fun q => ?_)
  · replace h := (if_pos q).symm.trans h
    refine ww_iconst 52 X (v := (-1 : Int32)) dX13_hexOf_52 (by decide) ?_
    exact ww_iretE 53 X hQ dX13_hexOf_53 h
  · replace h := (if_neg q).symm.trans h
    refine ww_iload_n 39 X dX13_hexOf_39 0 rfl rfl ?_
    refine ww_bipush 40 X (v := (70 : Int32)) dX13_hexOf_40 (by decide) ?_
    refine ww_icmp_gt 42 52 X dX13_hexOf_42 (by decide) (fun q => ?_) (fun q => ?_)
    · replace h := (if_pos q).symm.trans h
      refine ww_iconst 52 X (v := (-1 : Int32)) dX13_hexOf_52 (by decide) ?_
      exact ww_iretE 53 X hQ dX13_hexOf_53 h
    · replace h := (if_neg q).symm.trans h
      refine ww_iload_n 45 X dX13_hexOf_45 0 rfl rfl ?_
      refine ww_bipush 46 X (v := (55 : Int32)) dX13_hexOf_46 (by decide) ?_
      refine ww_isub 48 X dX13_hexOf_48 ?_
      refine ww_goto 49 53 X dX13_hexOf_49 (by decide) ?_
      exact ww_iretE 53 X hQ dX13_hexOf_53 h
def P_X13_hexOf (G : Nat → Nat) (F : Nat) (l0 : Int32) (M : mM) : Option (Int32 × mM) :=
  bP (P_X13_isDigit G F l0 M) fun v1 M1 =>
  if v1 = 0 then (if l0 < (97 : Int32) then (B_X13_hexOf_33 G F l0 M1)
  else (if (102 : Int32) < l0 then (B_X13_hexOf_33 G F l0 M1)
  else (some ((l0 - (87 : Int32)), M1))))
  else (some ((l0 - (48 : Int32)), M1))
set_option maxHeartbeats 4000000 in
set_option maxRecDepth 100000 in
theorem wP_X13_hexOf {G : Nat → Nat} {F : Nat} {x : mXT} {sz : Nat} {r0 : Int32} {M0 : mM} (X : mCX G RX13 cX13_hexOf 1 (some .int) "hexOf" rmX13_hexOf x) (hQ : mQI x r0 M0 (sz, 0, 0)) {l0 : Int32} {M : mM} (h : P_X13_hexOf G F l0 M = some (r0, M0)) : WW x (sz, 0, 0) M 0 [(0, .int l0)] [] := by
  unfold P_X13_hexOf at h
  refine ww_iload_n 0 X dX13_hexOf_0 0 rfl rfl ?_
  obtain ⟨v1, M1, e1, h⟩ := bP_some h
  refine ww_callSI0 1 X dX13_hexOf_1 mY_X13_isDigit mL_X13_379 (As := [.int l0]) (rest := []) rfl rfl ⟨Nat.le_of_ble_eq_true rfl, Nat.le_of_ble_eq_true rfl⟩ (Nat.le_of_ble_eq_true rfl) (fun l D A => c_X13_isDigit l D A e1) ?_
  refine ww_if_eq 4 14 X dX13_hexOf_4 (by decide) (fun q => ?_) (fun q => ?_)
  · replace h := (if_pos q).symm.trans h
    refine ww_iload_n 14 X dX13_hexOf_14 0 rfl rfl ?_
    refine ww_bipush 15 X (v := (97 : Int32)) dX13_hexOf_15 (by decide) ?_
    refine ww_icmp_lt 17 33 X dX13_hexOf_17 (by decide) (fun q => ?_) (fun q => ?_)
    · replace h := (if_pos q).symm.trans h
      exact (wB_X13_hexOf_33 X hQ h)
    · replace h := (if_neg q).symm.trans h
      refine ww_iload_n 20 X dX13_hexOf_20 0 rfl rfl ?_
      refine ww_bipush 21 X (v := (102 : Int32)) dX13_hexOf_21 (by decide) ?_
      refine ww_icmp_gt 23 33 X dX13_hexOf_23 (by decide) (fun q => ?_) (fun q => ?_)
      · replace h := (if_pos q).symm.trans h
        exact (wB_X13_hexOf_33 X hQ h)
      · replace h := (if_neg q).symm.trans h
        refine ww_iload_n 26 X dX13_hexOf_26 0 rfl rfl ?_
        refine ww_bipush 27 X (v := (87 : Int32)) dX13_hexOf_27 (by decide) ?_
        refine ww_isub 29 X dX13_hexOf_29 ?_
        refine ww_goto 30 53 X dX13_hexOf_30 (by decide) ?_
        exact ww_iretE 53 X hQ dX13_hexOf_53 h
  · replace h := (if_neg q).symm.trans h
    refine ww_iload_n 7 X dX13_hexOf_7 0 rfl rfl ?_
    refine ww_bipush 8 X (v := (48 : Int32)) dX13_hexOf_8 (by decide) ?_
    refine ww_isub 10 X dX13_hexOf_10 ?_
    refine ww_goto 11 53 X dX13_hexOf_11 (by decide) ?_
    exact ww_iretE 53 X hQ dX13_hexOf_53 h
theorem c_X13_hexOf {G : Nat → Nat} {F sz : Nat} {r0 : Int32} {M0 : mM} (l : Launch) (D : mD) (A : Nat → Prop) {l0 : Int32} {M : mM} (h : P_X13_hexOf G F l0 M = some (r0, M0)) : mMetI l D G A yX13_hexOf cX13_hexOf 1 (some .int) 1 20 0 0 [.int l0] M sz r0 M0 sz := mMetI_of l D G A (by decide) (Nat.le_of_ble_eq_true rfl) (fun x X hQ => wP_X13_hexOf X hQ h)
/-! SealedTokensModel.digits(Ljava/lang/String;[BI)V -/
theorem dX13_digits__0 : decode cX13_digits_ 0 = .ok (.iconst 0, 1) := by decide +kernel
theorem dX13_digits__1 : decode cX13_digits_ 1 = .ok (.istore_n 3, 1) := by decide +kernel
theorem dX13_digits__2 : decode cX13_digits_ 2 = .ok (.iload_n 3, 1) := by decide +kernel
theorem dX13_digits__3 : decode cX13_digits_ 3 = .ok (.bipush 32, 2) := by decide +kernel
theorem dX13_digits__5 : decode cX13_digits_ 5 = .ok (.if_icmp .ge 41, 3) := by decide +kernel
theorem dX13_digits__8 : decode cX13_digits_ 8 = .ok (.aload_n 1, 1) := by decide +kernel
theorem dX13_digits__9 : decode cX13_digits_ 9 = .ok (.iload_n 2, 1) := by decide +kernel
theorem dX13_digits__10 : decode cX13_digits_ 10 = .ok (.iload_n 3, 1) := by decide +kernel
theorem dX13_digits__11 : decode cX13_digits_ 11 = .ok (.iadd, 1) := by decide +kernel
theorem dX13_digits__12 : decode cX13_digits_ 12 = .ok (.bipush 16, 2) := by decide +kernel
theorem dX13_digits__14 : decode cX13_digits_ 14 = .ok (.aload_n 0, 1) := by decide +kernel
theorem dX13_digits__15 : decode cX13_digits_ 15 = .ok (.iconst 2, 1) := by decide +kernel
theorem dX13_digits__16 : decode cX13_digits_ 16 = .ok (.iload_n 3, 1) := by decide +kernel
theorem dX13_digits__17 : decode cX13_digits_ 17 = .ok (.imul, 1) := by decide +kernel
theorem dX13_digits__18 : decode cX13_digits_ 18 = .ok (.invokevirtual 410, 3) := by decide +kernel
theorem dX13_digits__21 : decode cX13_digits_ 21 = .ok (.invokestatic 446, 3) := by decide +kernel
theorem dX13_digits__24 : decode cX13_digits_ 24 = .ok (.imul, 1) := by decide +kernel
theorem dX13_digits__25 : decode cX13_digits_ 25 = .ok (.aload_n 0, 1) := by decide +kernel
theorem dX13_digits__26 : decode cX13_digits_ 26 = .ok (.iconst 2, 1) := by decide +kernel
theorem dX13_digits__27 : decode cX13_digits_ 27 = .ok (.iload_n 3, 1) := by decide +kernel
theorem dX13_digits__28 : decode cX13_digits_ 28 = .ok (.imul, 1) := by decide +kernel
theorem dX13_digits__29 : decode cX13_digits_ 29 = .ok (.iconst 1, 1) := by decide +kernel
theorem dX13_digits__30 : decode cX13_digits_ 30 = .ok (.iadd, 1) := by decide +kernel
theorem dX13_digits__31 : decode cX13_digits_ 31 = .ok (.invokevirtual 410, 3) := by decide +kernel
theorem dX13_digits__34 : decode cX13_digits_ 34 = .ok (.invokestatic 446, 3) := by decide +kernel
theorem dX13_digits__37 : decode cX13_digits_ 37 = .ok (.iadd, 1) := by decide +kernel
theorem dX13_digits__38 : decode cX13_digits_ 38 = .ok (.i2b, 1) := by decide +kernel
theorem dX13_digits__39 : decode cX13_digits_ 39 = .ok (.bastore, 1) := by decide +kernel
theorem dX13_digits__40 : decode cX13_digits_ 40 = .ok (.iinc 3 1, 3) := by decide +kernel
theorem dX13_digits__43 : decode cX13_digits_ 43 = .ok (.goto (-41), 3) := by decide +kernel
theorem dX13_digits__46 : decode cX13_digits_ 46 = .ok (.return_, 1) := by decide +kernel
abbrev rmX13_digits_ : Room := { frames := 4, cells := 0, slots := 0, locals := 85 }
def B_X13_digits__2 (G : Nat → Nat) (F : Nat) : Nat → Nat → Nat → Int32 → Int32 → mM → Option mM
  | 0, _, _, _, _, _ => none
  | n + 1, l0, l1, l2, l3, M =>
  if (32 : Int32) ≤ l3 then (some M)
  else (bO (rcv M l0 100) fun _ =>
  bP (P_J0_charAt_5068e G F l0 ((2 : Int32) * l3) M) fun v18 M18 =>
  bP (P_X13_hexOf G F v18 M18) fun v21 M21 =>
  bO (rcv M21 l0 100) fun _ =>
  bP (P_J0_charAt_5068e G F l0 (((2 : Int32) * l3) + (1 : Int32)) M21) fun v31 M31 =>
  bP (P_X13_hexOf G F v31 M31) fun v34 M34 =>
  bO (sI M34 1 l1 (l2 + l3) (((((16 : Int32) * v21) + v34).toInt8.toInt32).toInt8.toInt32)) fun M39 =>
  B_X13_digits__2 G F n l0 l1 l2 (l3 + 1) M39)
set_option maxHeartbeats 4000000 in
set_option maxRecDepth 100000 in
theorem wB_X13_digits__2 {G : Nat → Nat} {F : Nat} {x : mXT} {sz : Nat} {M0 : mM} (X : mCX G RX13 cX13_digits_ 4 none "digits" rmX13_digits_ x) (hQ : mQV x M0 (sz, 0, 0)) : ∀ (n : Nat) (l0 : Nat) (l1 : Nat) (l2 : Int32) (l3 : Int32) (M : mM), B_X13_digits__2 G F n l0 l1 l2 l3 M = some M0 → WW x (sz, 0, 0) M 2 [(0, .ref l0), (1, .ref l1), (2, .int l2), (3, .int l3)] [] := by
  intro n
  induction n with
  | zero =>
    intro l0 l1 l2 l3 M h
    exact nomatch (show (none : Option mM) = some M0 from h)
  | succ n ih =>
    intro l0 l1 l2 l3 M h
    rw [B_X13_digits__2] at h
    refine ww_iload_n 2 X dX13_digits__2 3 rfl rfl ?_
    refine ww_bipush 3 X (v := (32 : Int32)) dX13_digits__3 (by decide) ?_
    refine ww_icmp_ge 5 46 X dX13_digits__5 (by decide) (fun q => ?_) (fun q => ?_)
    · replace h := (if_pos q).symm.trans h
      exact ww_vretE 46 X hQ dX13_digits__46 h
    · replace h := (if_neg q).symm.trans h
      refine ww_aload_n 8 X dX13_digits__8 1 rfl rfl ?_
      refine ww_iload_n 9 X dX13_digits__9 2 rfl rfl ?_
      refine ww_iload_n 10 X dX13_digits__10 3 rfl rfl ?_
      refine ww_iadd 11 X dX13_digits__11 ?_
      refine ww_bipush 12 X (v := (16 : Int32)) dX13_digits__12 (by decide) ?_
      refine ww_aload_n 14 X dX13_digits__14 0 rfl rfl ?_
      refine ww_iconst 15 X (v := (2 : Int32)) dX13_digits__15 (by decide) ?_
      refine ww_iload_n 16 X dX13_digits__16 3 rfl rfl ?_
      refine ww_imul 17 X dX13_digits__17 ?_
      obtain ⟨_, f18, h⟩ := bO_some h
      obtain ⟨v18, M18, e18, h⟩ := bP_some h
      refine ww_callVIs 18 X dX13_digits__18 mY_J0_charAt_5068e mL_X13_410 (rcv_spec f18) rfl (As := [.int ((2 : Int32) * l3)]) (rest := [.int (16 : Int32), .int (l2 + l3), .ref l1]) rfl rfl ⟨Nat.le_of_ble_eq_true rfl, Nat.le_of_ble_eq_true rfl⟩ (Nat.le_of_ble_eq_true rfl) (fun l D A => c_J0_charAt_5068e l D A e18) ?_
      obtain ⟨v21, M21, e21, h⟩ := bP_some h
      refine ww_callSI0 21 X dX13_digits__21 mY_X13_hexOf mL_X13_446 (As := [.int v18]) (rest := [.int (16 : Int32), .int (l2 + l3), .ref l1]) rfl rfl ⟨Nat.le_of_ble_eq_true rfl, Nat.le_of_ble_eq_true rfl⟩ (Nat.le_of_ble_eq_true rfl) (fun l D A => c_X13_hexOf l D A e21) ?_
      refine ww_imul 24 X dX13_digits__24 ?_
      refine ww_aload_n 25 X dX13_digits__25 0 rfl rfl ?_
      refine ww_iconst 26 X (v := (2 : Int32)) dX13_digits__26 (by decide) ?_
      refine ww_iload_n 27 X dX13_digits__27 3 rfl rfl ?_
      refine ww_imul 28 X dX13_digits__28 ?_
      refine ww_iconst 29 X (v := (1 : Int32)) dX13_digits__29 (by decide) ?_
      refine ww_iadd 30 X dX13_digits__30 ?_
      obtain ⟨_, f31, h⟩ := bO_some h
      obtain ⟨v31, M31, e31, h⟩ := bP_some h
      refine ww_callVIs 31 X dX13_digits__31 mY_J0_charAt_5068e mL_X13_410 (rcv_spec f31) rfl (As := [.int (((2 : Int32) * l3) + (1 : Int32))]) (rest := [.int ((16 : Int32) * v21), .int (l2 + l3), .ref l1]) rfl rfl ⟨Nat.le_of_ble_eq_true rfl, Nat.le_of_ble_eq_true rfl⟩ (Nat.le_of_ble_eq_true rfl) (fun l D A => c_J0_charAt_5068e l D A e31) ?_
      obtain ⟨v34, M34, e34, h⟩ := bP_some h
      refine ww_callSI0 34 X dX13_digits__34 mY_X13_hexOf mL_X13_446 (As := [.int v31]) (rest := [.int ((16 : Int32) * v21), .int (l2 + l3), .ref l1]) rfl rfl ⟨Nat.le_of_ble_eq_true rfl, Nat.le_of_ble_eq_true rfl⟩ (Nat.le_of_ble_eq_true rfl) (fun l D A => c_X13_hexOf l D A e34) ?_
      refine ww_iadd 37 X dX13_digits__37 ?_
      refine ww_i2b 38 X dX13_digits__38 ?_
      obtain ⟨M39, e39, h⟩ := bO_some h
      refine ww_bast 39 X dX13_digits__39 e39 ?_
      refine ww_iinc 40 X dX13_digits__40 (lv' := [(0, .ref l0), (1, .ref l1), (2, .int l2), (3, .int (l3 + 1))]) 3 rfl rfl (by decide) [1, 2, 3, 0] rfl ?_
      refine ww_goto 43 2 X dX13_digits__43 (by decide) ?_
      exact (ih _ _ _ _ _ h)
def P_X13_digits_ (G : Nat → Nat) (F : Nat) (l0 : Nat) (l1 : Nat) (l2 : Int32) (M : mM) : Option mM :=
  B_X13_digits__2 G F F l0 l1 l2 (0 : Int32) M
set_option maxHeartbeats 4000000 in
set_option maxRecDepth 100000 in
theorem wP_X13_digits_ {G : Nat → Nat} {F : Nat} {x : mXT} {sz : Nat} {M0 : mM} (X : mCX G RX13 cX13_digits_ 4 none "digits" rmX13_digits_ x) (hQ : mQV x M0 (sz, 0, 0)) {l0 : Nat} {l1 : Nat} {l2 : Int32} {M : mM} (h : P_X13_digits_ G F l0 l1 l2 M = some M0) : WW x (sz, 0, 0) M 0 [(0, .ref l0), (1, .ref l1), (2, .int l2)] [] := by
  unfold P_X13_digits_ at h
  refine ww_iconst 0 X (v := (0 : Int32)) dX13_digits__0 (by decide) ?_
  refine ww_istore_n 1 X dX13_digits__1 (lv' := [(0, .ref l0), (1, .ref l1), (2, .int l2), (3, .int (0 : Int32))]) rfl (by decide) [1, 2, 3, 0] rfl ?_
  exact (wB_X13_digits__2 X hQ F _ _ _ _ _ h)
theorem c_X13_digits_ {G : Nat → Nat} {F sz : Nat} {M0 : mM} (l : Launch) (D : mD) (A : Nat → Prop) {l0 : Nat} {l1 : Nat} {l2 : Int32} {M : mM} (h : P_X13_digits_ G F l0 l1 l2 M = some M0) : mMetV l D G A yX13_digits_ cX13_digits_ 4 none 4 85 0 0 [.ref l0, .ref l1, .int l2] M sz M0 sz := mMetV_of l D G A (by decide) (Nat.le_of_ble_eq_true rfl) (fun x X hQ => wP_X13_digits_ X hQ h)
/-! SealedTokensModel.layCurve()V -/
theorem dX13_layCurve_0 : decode cX13_layCurve 0 = .ok (.ldc_w 713, 3) := by decide +kernel
theorem dX13_layCurve_3 : decode cX13_layCurve 3 = .ok (.aload_n 0, 1) := by decide +kernel
theorem dX13_layCurve_4 : decode cX13_layCurve 4 = .ok (.getfield 141, 3) := by decide +kernel
theorem dX13_layCurve_7 : decode cX13_layCurve 7 = .ok (.iconst 0, 1) := by decide +kernel
theorem dX13_layCurve_8 : decode cX13_layCurve 8 = .ok (.invokestatic 715, 3) := by decide +kernel
theorem dX13_layCurve_11 : decode cX13_layCurve 11 = .ok (.ldc_w 718, 3) := by decide +kernel
theorem dX13_layCurve_14 : decode cX13_layCurve 14 = .ok (.aload_n 0, 1) := by decide +kernel
theorem dX13_layCurve_15 : decode cX13_layCurve 15 = .ok (.getfield 144, 3) := by decide +kernel
theorem dX13_layCurve_18 : decode cX13_layCurve 18 = .ok (.iconst 0, 1) := by decide +kernel
theorem dX13_layCurve_19 : decode cX13_layCurve 19 = .ok (.invokestatic 715, 3) := by decide +kernel
theorem dX13_layCurve_22 : decode cX13_layCurve 22 = .ok (.ldc_w 720, 3) := by decide +kernel
theorem dX13_layCurve_25 : decode cX13_layCurve 25 = .ok (.aload_n 0, 1) := by decide +kernel
theorem dX13_layCurve_26 : decode cX13_layCurve 26 = .ok (.getfield 147, 3) := by decide +kernel
theorem dX13_layCurve_29 : decode cX13_layCurve 29 = .ok (.iconst 0, 1) := by decide +kernel
theorem dX13_layCurve_30 : decode cX13_layCurve 30 = .ok (.invokestatic 715, 3) := by decide +kernel
theorem dX13_layCurve_33 : decode cX13_layCurve 33 = .ok (.ldc_w 722, 3) := by decide +kernel
theorem dX13_layCurve_36 : decode cX13_layCurve 36 = .ok (.aload_n 0, 1) := by decide +kernel
theorem dX13_layCurve_37 : decode cX13_layCurve 37 = .ok (.getfield 147, 3) := by decide +kernel
theorem dX13_layCurve_40 : decode cX13_layCurve 40 = .ok (.bipush 32, 2) := by decide +kernel
theorem dX13_layCurve_42 : decode cX13_layCurve 42 = .ok (.invokestatic 715, 3) := by decide +kernel
theorem dX13_layCurve_45 : decode cX13_layCurve 45 = .ok (.aload_n 0, 1) := by decide +kernel
theorem dX13_layCurve_46 : decode cX13_layCurve 46 = .ok (.getfield 126, 3) := by decide +kernel
theorem dX13_layCurve_49 : decode cX13_layCurve 49 = .ok (.aload_n 0, 1) := by decide +kernel
theorem dX13_layCurve_50 : decode cX13_layCurve 50 = .ok (.getfield 141, 3) := by decide +kernel
theorem dX13_layCurve_53 : decode cX13_layCurve 53 = .ok (.iconst 0, 1) := by decide +kernel
theorem dX13_layCurve_54 : decode cX13_layCurve 54 = .ok (.bipush 32, 2) := by decide +kernel
theorem dX13_layCurve_56 : decode cX13_layCurve 56 = .ok (.invokevirtual 687, 3) := by decide +kernel
theorem dX13_layCurve_59 : decode cX13_layCurve 59 = .ok (.aload_n 0, 1) := by decide +kernel
theorem dX13_layCurve_60 : decode cX13_layCurve 60 = .ok (.getfield 129, 3) := by decide +kernel
theorem dX13_layCurve_63 : decode cX13_layCurve 63 = .ok (.aload_n 0, 1) := by decide +kernel
theorem dX13_layCurve_64 : decode cX13_layCurve 64 = .ok (.getfield 144, 3) := by decide +kernel
theorem dX13_layCurve_67 : decode cX13_layCurve 67 = .ok (.iconst 0, 1) := by decide +kernel
theorem dX13_layCurve_68 : decode cX13_layCurve 68 = .ok (.bipush 32, 2) := by decide +kernel
theorem dX13_layCurve_70 : decode cX13_layCurve 70 = .ok (.invokevirtual 687, 3) := by decide +kernel
theorem dX13_layCurve_73 : decode cX13_layCurve 73 = .ok (.ldc_w 724, 3) := by decide +kernel
theorem dX13_layCurve_76 : decode cX13_layCurve 76 = .ok (.aload_n 0, 1) := by decide +kernel
theorem dX13_layCurve_77 : decode cX13_layCurve 77 = .ok (.getfield 138, 3) := by decide +kernel
theorem dX13_layCurve_80 : decode cX13_layCurve 80 = .ok (.iconst 0, 1) := by decide +kernel
theorem dX13_layCurve_81 : decode cX13_layCurve 81 = .ok (.invokestatic 715, 3) := by decide +kernel
theorem dX13_layCurve_84 : decode cX13_layCurve 84 = .ok (.aload_n 0, 1) := by decide +kernel
theorem dX13_layCurve_85 : decode cX13_layCurve 85 = .ok (.getfield 126, 3) := by decide +kernel
theorem dX13_layCurve_88 : decode cX13_layCurve 88 = .ok (.aload_n 0, 1) := by decide +kernel
theorem dX13_layCurve_89 : decode cX13_layCurve 89 = .ok (.getfield 138, 3) := by decide +kernel
theorem dX13_layCurve_92 : decode cX13_layCurve 92 = .ok (.iconst 0, 1) := by decide +kernel
theorem dX13_layCurve_93 : decode cX13_layCurve 93 = .ok (.bipush 32, 2) := by decide +kernel
theorem dX13_layCurve_95 : decode cX13_layCurve 95 = .ok (.aload_n 0, 1) := by decide +kernel
theorem dX13_layCurve_96 : decode cX13_layCurve 96 = .ok (.getfield 150, 3) := by decide +kernel
theorem dX13_layCurve_99 : decode cX13_layCurve 99 = .ok (.invokevirtual 726, 3) := by decide +kernel
theorem dX13_layCurve_102 : decode cX13_layCurve 102 = .ok (.aload_n 0, 1) := by decide +kernel
theorem dX13_layCurve_103 : decode cX13_layCurve 103 = .ok (.getfield 126, 3) := by decide +kernel
theorem dX13_layCurve_106 : decode cX13_layCurve 106 = .ok (.aload_n 0, 1) := by decide +kernel
theorem dX13_layCurve_107 : decode cX13_layCurve 107 = .ok (.getfield 150, 3) := by decide +kernel
theorem dX13_layCurve_110 : decode cX13_layCurve 110 = .ok (.aload_n 0, 1) := by decide +kernel
theorem dX13_layCurve_111 : decode cX13_layCurve 111 = .ok (.getfield 150, 3) := by decide +kernel
theorem dX13_layCurve_114 : decode cX13_layCurve 114 = .ok (.invokevirtual 694, 3) := by decide +kernel
theorem dX13_layCurve_117 : decode cX13_layCurve 117 = .ok (.return_, 1) := by decide +kernel
abbrev rmX13_layCurve : Room := { frames := 5, cells := 0, slots := 0, locals := 108 }
def P_X13_layCurve (G : Nat → Nat) (F : Nat) (l0 : Nat) (M : mM) : Option mM :=
  bO (gfR M l0 13 63) fun v4 =>
  bO (P_X13_digits_ G F (G 73) v4 (0 : Int32) M) fun M8 =>
  bO (gfR M8 l0 13 64) fun v15 =>
  bO (P_X13_digits_ G F (G 74) v15 (0 : Int32) M8) fun M19 =>
  bO (gfR M19 l0 13 65) fun v26 =>
  bO (P_X13_digits_ G F (G 75) v26 (0 : Int32) M19) fun M30 =>
  bO (gfR M30 l0 13 65) fun v37 =>
  bO (P_X13_digits_ G F (G 76) v37 (32 : Int32) M30) fun M42 =>
  bO (gfR M42 l0 13 58) fun v46 =>
  bO (gfR M42 l0 13 63) fun v50 =>
  bO (rcv M42 v46 12) fun _ =>
  bO (P_X12_set G F v46 v50 (0 : Int32) (32 : Int32) M42) fun M56 =>
  bO (gfR M56 l0 13 59) fun v60 =>
  bO (gfR M56 l0 13 64) fun v64 =>
  bO (rcv M56 v60 12) fun _ =>
  bO (P_X12_set G F v60 v64 (0 : Int32) (32 : Int32) M56) fun M70 =>
  bO (gfR M70 l0 13 62) fun v77 =>
  bO (P_X13_digits_ G F (G 77) v77 (0 : Int32) M70) fun M81 =>
  bO (gfR M81 l0 13 58) fun v85 =>
  bO (gfR M81 l0 13 62) fun v89 =>
  bO (gfR M81 l0 13 66) fun v96 =>
  bO (rcv M81 v85 12) fun _ =>
  bO (P_X12_load G F v85 v89 (0 : Int32) (32 : Int32) v96 M81) fun M99 =>
  bO (gfR M99 l0 13 58) fun v103 =>
  bO (gfR M99 l0 13 66) fun v107 =>
  bO (gfR M99 l0 13 66) fun v111 =>
  bO (rcv M99 v103 12) fun _ =>
  bO (P_X12_into G F v103 v107 v111 M99) fun M114 =>
  some M114
set_option maxHeartbeats 4000000 in
set_option maxRecDepth 100000 in
theorem wP_X13_layCurve {G : Nat → Nat} {F : Nat} {x : mXT} {sz : Nat} {M0 : mM} (X : mCX G RX13 cX13_layCurve 1 none "layCurve" rmX13_layCurve x) (hQ : mQV x M0 (sz, 0, 0)) {l0 : Nat} {M : mM} (h : P_X13_layCurve G F l0 M = some M0) : WW x (sz, 0, 0) M 0 [(0, .ref l0)] [] := by
  unfold P_X13_layCurve at h
  refine ww_ldsw 0 X (j := 73) dX13_layCurve_0 rfl ?_
  refine ww_aload_n 3 X dX13_layCurve_3 0 rfl rfl ?_
  obtain ⟨v4, e4, h⟩ := bO_some h
  refine ww_getR 4 X dX13_layCurve_4 fG_X13_141 e4 ?_
  refine ww_iconst 7 X (v := (0 : Int32)) dX13_layCurve_7 (by decide) ?_
  obtain ⟨M8, e8, h⟩ := bO_some h
  refine ww_callSV0 8 X dX13_layCurve_8 mY_X13_digits_ mL_X13_715 (As := [.ref (G 73), .ref v4, .int (0 : Int32)]) (rest := []) rfl rfl ⟨Nat.le_of_ble_eq_true rfl, Nat.le_of_ble_eq_true rfl⟩ (Nat.le_of_ble_eq_true rfl) (fun l D A => c_X13_digits_ l D A e8) ?_
  refine ww_ldsw 11 X (j := 74) dX13_layCurve_11 rfl ?_
  refine ww_aload_n 14 X dX13_layCurve_14 0 rfl rfl ?_
  obtain ⟨v15, e15, h⟩ := bO_some h
  refine ww_getR 15 X dX13_layCurve_15 fG_X13_144 e15 ?_
  refine ww_iconst 18 X (v := (0 : Int32)) dX13_layCurve_18 (by decide) ?_
  obtain ⟨M19, e19, h⟩ := bO_some h
  refine ww_callSV0 19 X dX13_layCurve_19 mY_X13_digits_ mL_X13_715 (As := [.ref (G 74), .ref v15, .int (0 : Int32)]) (rest := []) rfl rfl ⟨Nat.le_of_ble_eq_true rfl, Nat.le_of_ble_eq_true rfl⟩ (Nat.le_of_ble_eq_true rfl) (fun l D A => c_X13_digits_ l D A e19) ?_
  refine ww_ldsw 22 X (j := 75) dX13_layCurve_22 rfl ?_
  refine ww_aload_n 25 X dX13_layCurve_25 0 rfl rfl ?_
  obtain ⟨v26, e26, h⟩ := bO_some h
  refine ww_getR 26 X dX13_layCurve_26 fG_X13_147 e26 ?_
  refine ww_iconst 29 X (v := (0 : Int32)) dX13_layCurve_29 (by decide) ?_
  obtain ⟨M30, e30, h⟩ := bO_some h
  refine ww_callSV0 30 X dX13_layCurve_30 mY_X13_digits_ mL_X13_715 (As := [.ref (G 75), .ref v26, .int (0 : Int32)]) (rest := []) rfl rfl ⟨Nat.le_of_ble_eq_true rfl, Nat.le_of_ble_eq_true rfl⟩ (Nat.le_of_ble_eq_true rfl) (fun l D A => c_X13_digits_ l D A e30) ?_
  refine ww_ldsw 33 X (j := 76) dX13_layCurve_33 rfl ?_
  refine ww_aload_n 36 X dX13_layCurve_36 0 rfl rfl ?_
  obtain ⟨v37, e37, h⟩ := bO_some h
  refine ww_getR 37 X dX13_layCurve_37 fG_X13_147 e37 ?_
  refine ww_bipush 40 X (v := (32 : Int32)) dX13_layCurve_40 (by decide) ?_
  obtain ⟨M42, e42, h⟩ := bO_some h
  refine ww_callSV0 42 X dX13_layCurve_42 mY_X13_digits_ mL_X13_715 (As := [.ref (G 76), .ref v37, .int (32 : Int32)]) (rest := []) rfl rfl ⟨Nat.le_of_ble_eq_true rfl, Nat.le_of_ble_eq_true rfl⟩ (Nat.le_of_ble_eq_true rfl) (fun l D A => c_X13_digits_ l D A e42) ?_
  refine ww_aload_n 45 X dX13_layCurve_45 0 rfl rfl ?_
  obtain ⟨v46, e46, h⟩ := bO_some h
  refine ww_getR 46 X dX13_layCurve_46 fG_X13_126 e46 ?_
  refine ww_aload_n 49 X dX13_layCurve_49 0 rfl rfl ?_
  obtain ⟨v50, e50, h⟩ := bO_some h
  refine ww_getR 50 X dX13_layCurve_50 fG_X13_141 e50 ?_
  refine ww_iconst 53 X (v := (0 : Int32)) dX13_layCurve_53 (by decide) ?_
  refine ww_bipush 54 X (v := (32 : Int32)) dX13_layCurve_54 (by decide) ?_
  obtain ⟨_, f56, h⟩ := bO_some h
  obtain ⟨M56, e56, h⟩ := bO_some h
  refine ww_callVV0 56 X dX13_layCurve_56 mY_X12_set mL_X13_687 (rcv_spec f56) ⟨_, _, rfl⟩ (by decide) (As := [.ref v50, .int (0 : Int32), .int (32 : Int32)]) (rest := []) rfl rfl ⟨Nat.le_of_ble_eq_true rfl, Nat.le_of_ble_eq_true rfl⟩ (Nat.le_of_ble_eq_true rfl) (fun l D A => c_X12_set l D A e56) ?_
  refine ww_aload_n 59 X dX13_layCurve_59 0 rfl rfl ?_
  obtain ⟨v60, e60, h⟩ := bO_some h
  refine ww_getR 60 X dX13_layCurve_60 fG_X13_129 e60 ?_
  refine ww_aload_n 63 X dX13_layCurve_63 0 rfl rfl ?_
  obtain ⟨v64, e64, h⟩ := bO_some h
  refine ww_getR 64 X dX13_layCurve_64 fG_X13_144 e64 ?_
  refine ww_iconst 67 X (v := (0 : Int32)) dX13_layCurve_67 (by decide) ?_
  refine ww_bipush 68 X (v := (32 : Int32)) dX13_layCurve_68 (by decide) ?_
  obtain ⟨_, f70, h⟩ := bO_some h
  obtain ⟨M70, e70, h⟩ := bO_some h
  refine ww_callVV0 70 X dX13_layCurve_70 mY_X12_set mL_X13_687 (rcv_spec f70) ⟨_, _, rfl⟩ (by decide) (As := [.ref v64, .int (0 : Int32), .int (32 : Int32)]) (rest := []) rfl rfl ⟨Nat.le_of_ble_eq_true rfl, Nat.le_of_ble_eq_true rfl⟩ (Nat.le_of_ble_eq_true rfl) (fun l D A => c_X12_set l D A e70) ?_
  refine ww_ldsw 73 X (j := 77) dX13_layCurve_73 rfl ?_
  refine ww_aload_n 76 X dX13_layCurve_76 0 rfl rfl ?_
  obtain ⟨v77, e77, h⟩ := bO_some h
  refine ww_getR 77 X dX13_layCurve_77 fG_X13_138 e77 ?_
  refine ww_iconst 80 X (v := (0 : Int32)) dX13_layCurve_80 (by decide) ?_
  obtain ⟨M81, e81, h⟩ := bO_some h
  refine ww_callSV0 81 X dX13_layCurve_81 mY_X13_digits_ mL_X13_715 (As := [.ref (G 77), .ref v77, .int (0 : Int32)]) (rest := []) rfl rfl ⟨Nat.le_of_ble_eq_true rfl, Nat.le_of_ble_eq_true rfl⟩ (Nat.le_of_ble_eq_true rfl) (fun l D A => c_X13_digits_ l D A e81) ?_
  refine ww_aload_n 84 X dX13_layCurve_84 0 rfl rfl ?_
  obtain ⟨v85, e85, h⟩ := bO_some h
  refine ww_getR 85 X dX13_layCurve_85 fG_X13_126 e85 ?_
  refine ww_aload_n 88 X dX13_layCurve_88 0 rfl rfl ?_
  obtain ⟨v89, e89, h⟩ := bO_some h
  refine ww_getR 89 X dX13_layCurve_89 fG_X13_138 e89 ?_
  refine ww_iconst 92 X (v := (0 : Int32)) dX13_layCurve_92 (by decide) ?_
  refine ww_bipush 93 X (v := (32 : Int32)) dX13_layCurve_93 (by decide) ?_
  refine ww_aload_n 95 X dX13_layCurve_95 0 rfl rfl ?_
  obtain ⟨v96, e96, h⟩ := bO_some h
  refine ww_getR 96 X dX13_layCurve_96 fG_X13_150 e96 ?_
  obtain ⟨_, f99, h⟩ := bO_some h
  obtain ⟨M99, e99, h⟩ := bO_some h
  refine ww_callVV0 99 X dX13_layCurve_99 mY_X12_load mL_X13_726 (rcv_spec f99) ⟨_, _, rfl⟩ (by decide) (As := [.ref v89, .int (0 : Int32), .int (32 : Int32), .ref v96]) (rest := []) rfl rfl ⟨Nat.le_of_ble_eq_true rfl, Nat.le_of_ble_eq_true rfl⟩ (Nat.le_of_ble_eq_true rfl) (fun l D A => c_X12_load l D A e99) ?_
  refine ww_aload_n 102 X dX13_layCurve_102 0 rfl rfl ?_
  obtain ⟨v103, e103, h⟩ := bO_some h
  refine ww_getR 103 X dX13_layCurve_103 fG_X13_126 e103 ?_
  refine ww_aload_n 106 X dX13_layCurve_106 0 rfl rfl ?_
  obtain ⟨v107, e107, h⟩ := bO_some h
  refine ww_getR 107 X dX13_layCurve_107 fG_X13_150 e107 ?_
  refine ww_aload_n 110 X dX13_layCurve_110 0 rfl rfl ?_
  obtain ⟨v111, e111, h⟩ := bO_some h
  refine ww_getR 111 X dX13_layCurve_111 fG_X13_150 e111 ?_
  obtain ⟨_, f114, h⟩ := bO_some h
  obtain ⟨M114, e114, h⟩ := bO_some h
  refine ww_callVV0 114 X dX13_layCurve_114 mY_X12_into mL_X13_694 (rcv_spec f114) ⟨_, _, rfl⟩ (by decide) (As := [.ref v107, .ref v111]) (rest := []) rfl rfl ⟨Nat.le_of_ble_eq_true rfl, Nat.le_of_ble_eq_true rfl⟩ (Nat.le_of_ble_eq_true rfl) (fun l D A => c_X12_into l D A e114) ?_
  exact ww_vretE 117 X hQ dX13_layCurve_117 h
theorem c_X13_layCurve {G : Nat → Nat} {F sz : Nat} {M0 : mM} (l : Launch) (D : mD) (A : Nat → Prop) {l0 : Nat} {M : mM} (h : P_X13_layCurve G F l0 M = some M0) : mMetV l D G A yX13_layCurve cX13_layCurve 1 none 5 108 0 0 [.ref l0] M sz M0 sz := mMetV_of l D G A (by decide) (Nat.le_of_ble_eq_true rfl) (fun x X hQ => wP_X13_layCurve X hQ h)
/-! SealedTokensModel.isRow(I)Z -/
theorem dX13_isRow_0 : decode cX13_isRow 0 = .ok (.iload_n 0, 1) := by decide +kernel
theorem dX13_isRow_1 : decode cX13_isRow 1 = .ok (.ifCond .lt 13, 3) := by decide +kernel
theorem dX13_isRow_4 : decode cX13_isRow 4 = .ok (.iload_n 0, 1) := by decide +kernel
theorem dX13_isRow_5 : decode cX13_isRow 5 = .ok (.bipush 8, 2) := by decide +kernel
theorem dX13_isRow_7 : decode cX13_isRow 7 = .ok (.if_icmp .ge 7, 3) := by decide +kernel
theorem dX13_isRow_10 : decode cX13_isRow 10 = .ok (.iconst 1, 1) := by decide +kernel
theorem dX13_isRow_11 : decode cX13_isRow 11 = .ok (.goto 4, 3) := by decide +kernel
theorem dX13_isRow_14 : decode cX13_isRow 14 = .ok (.iconst 0, 1) := by decide +kernel
theorem dX13_isRow_15 : decode cX13_isRow 15 = .ok (.ireturn, 1) := by decide +kernel
abbrev rmX13_isRow : Room := { frames := 0, cells := 0, slots := 0, locals := 0 }
def P_X13_isRow (G : Nat → Nat) (F : Nat) (l0 : Int32) (M : mM) : Option (Int32 × mM) :=
  if l0 < 0 then (retZ (0 : Int32) M)
  else (if (8 : Int32) ≤ l0 then (retZ (0 : Int32) M)
  else (retZ (1 : Int32) M))
set_option maxHeartbeats 4000000 in
set_option maxRecDepth 100000 in
theorem wP_X13_isRow {G : Nat → Nat} {F : Nat} {x : mXT} {sz : Nat} {r0 : Int32} {M0 : mM} (X : mCX G RX13 cX13_isRow 1 (some .boolean) "isRow" rmX13_isRow x) (hQ : mQI x r0 M0 (sz, 0, 0)) {l0 : Int32} {M : mM} (h : P_X13_isRow G F l0 M = some (r0, M0)) : WW x (sz, 0, 0) M 0 [(0, .int l0)] [] := by
  unfold P_X13_isRow at h
  refine ww_iload_n 0 X dX13_isRow_0 0 rfl rfl ?_
  refine ww_if_lt 1 14 X dX13_isRow_1 (by decide) (fun q => ?_) (fun q => ?_)
  · replace h := (if_pos q).symm.trans h
    refine ww_iconst 14 X (v := (0 : Int32)) dX13_isRow_14 (by decide) ?_
    exact ww_zretE 15 X hQ dX13_isRow_15 h
  · replace h := (if_neg q).symm.trans h
    refine ww_iload_n 4 X dX13_isRow_4 0 rfl rfl ?_
    refine ww_bipush 5 X (v := (8 : Int32)) dX13_isRow_5 (by decide) ?_
    refine ww_icmp_ge 7 14 X dX13_isRow_7 (by decide) (fun q => ?_) (fun q => ?_)
    · replace h := (if_pos q).symm.trans h
      refine ww_iconst 14 X (v := (0 : Int32)) dX13_isRow_14 (by decide) ?_
      exact ww_zretE 15 X hQ dX13_isRow_15 h
    · replace h := (if_neg q).symm.trans h
      refine ww_iconst 10 X (v := (1 : Int32)) dX13_isRow_10 (by decide) ?_
      refine ww_goto 11 15 X dX13_isRow_11 (by decide) ?_
      exact ww_zretE 15 X hQ dX13_isRow_15 h
theorem c_X13_isRow {G : Nat → Nat} {F sz : Nat} {r0 : Int32} {M0 : mM} (l : Launch) (D : mD) (A : Nat → Prop) {l0 : Int32} {M : mM} (h : P_X13_isRow G F l0 M = some (r0, M0)) : mMetI l D G A yX13_isRow cX13_isRow 1 (some .boolean) 0 0 0 0 [.int l0] M sz r0 M0 sz := mMetI_of l D G A (by decide) (Nat.le_of_ble_eq_true rfl) (fun x X hQ => wP_X13_isRow X hQ h)
/-! SealedTokensModel.put([BIIJ)V -/
theorem dX13_put_0 : decode cX13_put 0 = .ok (.iconst 0, 1) := by decide +kernel
theorem dX13_put_1 : decode cX13_put 1 = .ok (.istore 5, 2) := by decide +kernel
theorem dX13_put_3 : decode cX13_put 3 = .ok (.iload 5, 2) := by decide +kernel
theorem dX13_put_5 : decode cX13_put 5 = .ok (.iload_n 2, 1) := by decide +kernel
theorem dX13_put_6 : decode cX13_put 6 = .ok (.if_icmp .ge 28, 3) := by decide +kernel
theorem dX13_put_9 : decode cX13_put 9 = .ok (.aload_n 0, 1) := by decide +kernel
theorem dX13_put_10 : decode cX13_put 10 = .ok (.iload_n 1, 1) := by decide +kernel
theorem dX13_put_11 : decode cX13_put 11 = .ok (.iload 5, 2) := by decide +kernel
theorem dX13_put_13 : decode cX13_put 13 = .ok (.iadd, 1) := by decide +kernel
theorem dX13_put_14 : decode cX13_put 14 = .ok (.lload_n 3, 1) := by decide +kernel
theorem dX13_put_15 : decode cX13_put 15 = .ok (.bipush 8, 2) := by decide +kernel
theorem dX13_put_17 : decode cX13_put 17 = .ok (.iload_n 2, 1) := by decide +kernel
theorem dX13_put_18 : decode cX13_put 18 = .ok (.iconst 1, 1) := by decide +kernel
theorem dX13_put_19 : decode cX13_put 19 = .ok (.isub, 1) := by decide +kernel
theorem dX13_put_20 : decode cX13_put 20 = .ok (.iload 5, 2) := by decide +kernel
theorem dX13_put_22 : decode cX13_put 22 = .ok (.isub, 1) := by decide +kernel
theorem dX13_put_23 : decode cX13_put 23 = .ok (.imul, 1) := by decide +kernel
theorem dX13_put_24 : decode cX13_put 24 = .ok (.lshr, 1) := by decide +kernel
theorem dX13_put_25 : decode cX13_put 25 = .ok (.l2i, 1) := by decide +kernel
theorem dX13_put_26 : decode cX13_put 26 = .ok (.i2b, 1) := by decide +kernel
theorem dX13_put_27 : decode cX13_put 27 = .ok (.bastore, 1) := by decide +kernel
theorem dX13_put_28 : decode cX13_put 28 = .ok (.iinc 5 1, 3) := by decide +kernel
theorem dX13_put_31 : decode cX13_put 31 = .ok (.goto (-28), 3) := by decide +kernel
theorem dX13_put_34 : decode cX13_put 34 = .ok (.return_, 1) := by decide +kernel
abbrev rmX13_put : Room := { frames := 0, cells := 0, slots := 0, locals := 0 }
def B_X13_put_3 (G : Nat → Nat) (F : Nat) : Nat → Nat → Int32 → Int32 → Int64 → Int32 → mM → Option mM
  | 0, _, _, _, _, _, _ => none
  | n + 1, l0, l1, l2, l3, l5, M =>
  if l2 ≤ l5 then (some M)
  else (bO (sI M 1 l0 (l1 + l5) ((((shrL l3 ((8 : Int32) * ((l2 - (1 : Int32)) - l5))).toInt32).toInt8.toInt32).toInt8.toInt32)) fun M27 =>
  B_X13_put_3 G F n l0 l1 l2 l3 (l5 + 1) M27)
set_option maxHeartbeats 4000000 in
set_option maxRecDepth 100000 in
theorem wB_X13_put_3 {G : Nat → Nat} {F : Nat} {x : mXT} {sz : Nat} {M0 : mM} (X : mCX G RX13 cX13_put 6 none "put" rmX13_put x) (hQ : mQV x M0 (sz, 0, 0)) : ∀ (n : Nat) (l0 : Nat) (l1 : Int32) (l2 : Int32) (l3 : Int64) (l5 : Int32) (M : mM), B_X13_put_3 G F n l0 l1 l2 l3 l5 M = some M0 → WW x (sz, 0, 0) M 3 [(0, .ref l0), (1, .int l1), (2, .int l2), (3, .long l3), (5, .int l5)] [] := by
  intro n
  induction n with
  | zero =>
    intro l0 l1 l2 l3 l5 M h
    exact nomatch (show (none : Option mM) = some M0 from h)
  | succ n ih =>
    intro l0 l1 l2 l3 l5 M h
    rw [B_X13_put_3] at h
    refine ww_iload 3 X dX13_put_3 4 rfl ?_
    refine ww_iload_n 5 X dX13_put_5 2 rfl rfl ?_
    refine ww_icmp_ge 6 34 X dX13_put_6 (by decide) (fun q => ?_) (fun q => ?_)
    · replace h := (if_pos q).symm.trans h
      exact ww_vretE 34 X hQ dX13_put_34 h
    · replace h := (if_neg q).symm.trans h
      refine ww_aload_n 9 X dX13_put_9 0 rfl rfl ?_
      refine ww_iload_n 10 X dX13_put_10 1 rfl rfl ?_
      refine ww_iload 11 X dX13_put_11 4 rfl ?_
      refine ww_iadd 13 X dX13_put_13 ?_
      refine ww_lload_n 14 X dX13_put_14 3 rfl rfl ?_
      refine ww_bipush 15 X (v := (8 : Int32)) dX13_put_15 (by decide) ?_
      refine ww_iload_n 17 X dX13_put_17 2 rfl rfl ?_
      refine ww_iconst 18 X (v := (1 : Int32)) dX13_put_18 (by decide) ?_
      refine ww_isub 19 X dX13_put_19 ?_
      refine ww_iload 20 X dX13_put_20 4 rfl ?_
      refine ww_isub 22 X dX13_put_22 ?_
      refine ww_imul 23 X dX13_put_23 ?_
      refine ww_lshr 24 X dX13_put_24 ?_
      refine ww_l2i 25 X dX13_put_25 ?_
      refine ww_i2b 26 X dX13_put_26 ?_
      obtain ⟨M27, e27, h⟩ := bO_some h
      refine ww_bast 27 X dX13_put_27 e27 ?_
      refine ww_iinc 28 X dX13_put_28 (lv' := [(0, .ref l0), (1, .int l1), (2, .int l2), (3, .long l3), (5, .int (l5 + 1))]) 4 rfl rfl (by decide) [1, 2, 3, 4, 0] rfl ?_
      refine ww_goto 31 3 X dX13_put_31 (by decide) ?_
      exact (ih _ _ _ _ _ _ h)
def P_X13_put (G : Nat → Nat) (F : Nat) (l0 : Nat) (l1 : Int32) (l2 : Int32) (l3 : Int64) (M : mM) : Option mM :=
  B_X13_put_3 G F F l0 l1 l2 l3 (0 : Int32) M
set_option maxHeartbeats 4000000 in
set_option maxRecDepth 100000 in
theorem wP_X13_put {G : Nat → Nat} {F : Nat} {x : mXT} {sz : Nat} {M0 : mM} (X : mCX G RX13 cX13_put 6 none "put" rmX13_put x) (hQ : mQV x M0 (sz, 0, 0)) {l0 : Nat} {l1 : Int32} {l2 : Int32} {l3 : Int64} {M : mM} (h : P_X13_put G F l0 l1 l2 l3 M = some M0) : WW x (sz, 0, 0) M 0 [(0, .ref l0), (1, .int l1), (2, .int l2), (3, .long l3)] [] := by
  unfold P_X13_put at h
  refine ww_iconst 0 X (v := (0 : Int32)) dX13_put_0 (by decide) ?_
  refine ww_istore 1 X dX13_put_1 (lv' := [(0, .ref l0), (1, .int l1), (2, .int l2), (3, .long l3), (5, .int (0 : Int32))]) (by decide) [1, 2, 3, 4, 0] rfl ?_
  exact (wB_X13_put_3 X hQ F _ _ _ _ _ _ h)
theorem c_X13_put {G : Nat → Nat} {F sz : Nat} {M0 : mM} (l : Launch) (D : mD) (A : Nat → Prop) {l0 : Nat} {l1 : Int32} {l2 : Int32} {l3 : Int64} {M : mM} (h : P_X13_put G F l0 l1 l2 l3 M = some M0) : mMetV l D G A yX13_put cX13_put 6 none 0 0 0 0 [.ref l0, .int l1, .int l2, .long l3] M sz M0 sz := mMetV_of l D G A (by decide) (Nat.le_of_ble_eq_true rfl) (fun x X hQ => wP_X13_put X hQ h)
/-! SealedTokensModel.longAt([BII)J -/
theorem dX13_longAt_0 : decode cX13_longAt 0 = .ok (.lconst 0, 1) := by decide +kernel
theorem dX13_longAt_1 : decode cX13_longAt 1 = .ok (.lstore_n 3, 1) := by decide +kernel
theorem dX13_longAt_2 : decode cX13_longAt 2 = .ok (.iconst 0, 1) := by decide +kernel
theorem dX13_longAt_3 : decode cX13_longAt 3 = .ok (.istore 5, 2) := by decide +kernel
theorem dX13_longAt_5 : decode cX13_longAt 5 = .ok (.iload 5, 2) := by decide +kernel
theorem dX13_longAt_7 : decode cX13_longAt 7 = .ok (.iload_n 2, 1) := by decide +kernel
theorem dX13_longAt_8 : decode cX13_longAt 8 = .ok (.if_icmp .ge 26, 3) := by decide +kernel
theorem dX13_longAt_11 : decode cX13_longAt 11 = .ok (.lload_n 3, 1) := by decide +kernel
theorem dX13_longAt_12 : decode cX13_longAt 12 = .ok (.bipush 8, 2) := by decide +kernel
theorem dX13_longAt_14 : decode cX13_longAt 14 = .ok (.lshl, 1) := by decide +kernel
theorem dX13_longAt_15 : decode cX13_longAt 15 = .ok (.aload_n 0, 1) := by decide +kernel
theorem dX13_longAt_16 : decode cX13_longAt 16 = .ok (.iload_n 1, 1) := by decide +kernel
theorem dX13_longAt_17 : decode cX13_longAt 17 = .ok (.iload 5, 2) := by decide +kernel
theorem dX13_longAt_19 : decode cX13_longAt 19 = .ok (.iadd, 1) := by decide +kernel
theorem dX13_longAt_20 : decode cX13_longAt 20 = .ok (.baload, 1) := by decide +kernel
theorem dX13_longAt_21 : decode cX13_longAt 21 = .ok (.i2l, 1) := by decide +kernel
theorem dX13_longAt_22 : decode cX13_longAt 22 = .ok (.ldc2_w 315, 3) := by decide +kernel
theorem dX13_longAt_25 : decode cX13_longAt 25 = .ok (.land, 1) := by decide +kernel
theorem dX13_longAt_26 : decode cX13_longAt 26 = .ok (.lor, 1) := by decide +kernel
theorem dX13_longAt_27 : decode cX13_longAt 27 = .ok (.lstore_n 3, 1) := by decide +kernel
theorem dX13_longAt_28 : decode cX13_longAt 28 = .ok (.iinc 5 1, 3) := by decide +kernel
theorem dX13_longAt_31 : decode cX13_longAt 31 = .ok (.goto (-26), 3) := by decide +kernel
theorem dX13_longAt_34 : decode cX13_longAt 34 = .ok (.lload_n 3, 1) := by decide +kernel
theorem dX13_longAt_35 : decode cX13_longAt 35 = .ok (.lreturn, 1) := by decide +kernel
abbrev rmX13_longAt : Room := { frames := 0, cells := 0, slots := 0, locals := 0 }
def B_X13_longAt_5 (G : Nat → Nat) (F : Nat) : Nat → Nat → Int32 → Int32 → Int64 → Int32 → mM → Option (Int64 × mM)
  | 0, _, _, _, _, _, _ => none
  | n + 1, l0, l1, l2, l3, l5, M =>
  if l2 ≤ l5 then (some (l3, M))
  else (bO (aI M 1 l0 (l1 + l5)) fun v20 =>
  B_X13_longAt_5 G F n l0 l1 l2 ((shlL l3 (8 : Int32)) ||| ((v20.toInt64) &&& (255 : Int64))) (l5 + 1) M)
set_option maxHeartbeats 4000000 in
set_option maxRecDepth 100000 in
theorem wB_X13_longAt_5 {G : Nat → Nat} {F : Nat} {x : mXT} {sz : Nat} {r0 : Int64} {M0 : mM} (X : mCX G RX13 cX13_longAt 6 (some .long) "longAt" rmX13_longAt x) (hQ : mQL x r0 M0 (sz, 0, 0)) : ∀ (n : Nat) (l0 : Nat) (l1 : Int32) (l2 : Int32) (l3 : Int64) (l5 : Int32) (M : mM), B_X13_longAt_5 G F n l0 l1 l2 l3 l5 M = some (r0, M0) → WW x (sz, 0, 0) M 5 [(0, .ref l0), (1, .int l1), (2, .int l2), (3, .long l3), (5, .int l5)] [] := by
  intro n
  induction n with
  | zero =>
    intro l0 l1 l2 l3 l5 M h
    exact nomatch (show (none : Option (Int64 × mM)) = some (r0, M0) from h)
  | succ n ih =>
    intro l0 l1 l2 l3 l5 M h
    rw [B_X13_longAt_5] at h
    refine ww_iload 5 X dX13_longAt_5 4 rfl ?_
    refine ww_iload_n 7 X dX13_longAt_7 2 rfl rfl ?_
    refine ww_icmp_ge 8 34 X dX13_longAt_8 (by decide) (fun q => ?_) (fun q => ?_)
    · replace h := (if_pos q).symm.trans h
      refine ww_lload_n 34 X dX13_longAt_34 3 rfl rfl ?_
      exact ww_lretE 35 X hQ dX13_longAt_35 h
    · replace h := (if_neg q).symm.trans h
      refine ww_lload_n 11 X dX13_longAt_11 3 rfl rfl ?_
      refine ww_bipush 12 X (v := (8 : Int32)) dX13_longAt_12 (by decide) ?_
      refine ww_lshl 14 X dX13_longAt_14 ?_
      refine ww_aload_n 15 X dX13_longAt_15 0 rfl rfl ?_
      refine ww_iload_n 16 X dX13_longAt_16 1 rfl rfl ?_
      refine ww_iload 17 X dX13_longAt_17 4 rfl ?_
      refine ww_iadd 19 X dX13_longAt_19 ?_
      obtain ⟨v20, e20, h⟩ := bO_some h
      refine ww_bald 20 X dX13_longAt_20 e20 ?_
      refine ww_i2l 21 X dX13_longAt_21 ?_
      refine ww_ldc2 22 X (v := (255 : Int64)) dX13_longAt_22 kL_X13_315 ?_
      refine ww_land 25 X dX13_longAt_25 ?_
      refine ww_lor 26 X dX13_longAt_26 ?_
      refine ww_lstore_n 27 X dX13_longAt_27 (lv' := [(0, .ref l0), (1, .int l1), (2, .int l2), (3, .long ((shlL l3 (8 : Int32)) ||| ((v20.toInt64) &&& (255 : Int64)))), (5, .int l5)]) rfl (by decide) [1, 2, 3, 0, 4] rfl ?_
      refine ww_iinc 28 X dX13_longAt_28 (lv' := [(0, .ref l0), (1, .int l1), (2, .int l2), (3, .long ((shlL l3 (8 : Int32)) ||| ((v20.toInt64) &&& (255 : Int64)))), (5, .int (l5 + 1))]) 4 rfl rfl (by decide) [1, 2, 3, 4, 0] rfl ?_
      refine ww_goto 31 5 X dX13_longAt_31 (by decide) ?_
      exact (ih _ _ _ _ _ _ h)
def P_X13_longAt (G : Nat → Nat) (F : Nat) (l0 : Nat) (l1 : Int32) (l2 : Int32) (M : mM) : Option (Int64 × mM) :=
  B_X13_longAt_5 G F F l0 l1 l2 (0 : Int64) (0 : Int32) M
set_option maxHeartbeats 4000000 in
set_option maxRecDepth 100000 in
theorem wP_X13_longAt {G : Nat → Nat} {F : Nat} {x : mXT} {sz : Nat} {r0 : Int64} {M0 : mM} (X : mCX G RX13 cX13_longAt 6 (some .long) "longAt" rmX13_longAt x) (hQ : mQL x r0 M0 (sz, 0, 0)) {l0 : Nat} {l1 : Int32} {l2 : Int32} {M : mM} (h : P_X13_longAt G F l0 l1 l2 M = some (r0, M0)) : WW x (sz, 0, 0) M 0 [(0, .ref l0), (1, .int l1), (2, .int l2)] [] := by
  unfold P_X13_longAt at h
  refine ww_lconst 0 X (v := (0 : Int64)) dX13_longAt_0 (by decide) ?_
  refine ww_lstore_n 1 X dX13_longAt_1 (lv' := [(0, .ref l0), (1, .int l1), (2, .int l2), (3, .long (0 : Int64))]) rfl (by decide) [1, 2, 3, 0] rfl ?_
  refine ww_iconst 2 X (v := (0 : Int32)) dX13_longAt_2 (by decide) ?_
  refine ww_istore 3 X dX13_longAt_3 (lv' := [(0, .ref l0), (1, .int l1), (2, .int l2), (3, .long (0 : Int64)), (5, .int (0 : Int32))]) (by decide) [1, 2, 3, 4, 0] rfl ?_
  exact (wB_X13_longAt_5 X hQ F _ _ _ _ _ _ h)
theorem c_X13_longAt {G : Nat → Nat} {F sz : Nat} {r0 : Int64} {M0 : mM} (l : Launch) (D : mD) (A : Nat → Prop) {l0 : Nat} {l1 : Int32} {l2 : Int32} {M : mM} (h : P_X13_longAt G F l0 l1 l2 M = some (r0, M0)) : mMetL l D G A yX13_longAt cX13_longAt 6 (some .long) 0 0 0 0 [.ref l0, .int l1, .int l2] M sz r0 M0 sz := mMetL_of l D G A (by decide) (Nat.le_of_ble_eq_true rfl) (fun x X hQ => wP_X13_longAt X hQ h)
/-! SealedTokensModel.move([BI[BII)V -/
theorem dX13_move_0 : decode cX13_move 0 = .ok (.iconst 0, 1) := by decide +kernel
theorem dX13_move_1 : decode cX13_move 1 = .ok (.istore 5, 2) := by decide +kernel
theorem dX13_move_3 : decode cX13_move 3 = .ok (.iload 5, 2) := by decide +kernel
theorem dX13_move_5 : decode cX13_move 5 = .ok (.iload 4, 2) := by decide +kernel
theorem dX13_move_7 : decode cX13_move 7 = .ok (.if_icmp .ge 21, 3) := by decide +kernel
theorem dX13_move_10 : decode cX13_move 10 = .ok (.aload_n 2, 1) := by decide +kernel
theorem dX13_move_11 : decode cX13_move 11 = .ok (.iload_n 3, 1) := by decide +kernel
theorem dX13_move_12 : decode cX13_move 12 = .ok (.iload 5, 2) := by decide +kernel
theorem dX13_move_14 : decode cX13_move 14 = .ok (.iadd, 1) := by decide +kernel
theorem dX13_move_15 : decode cX13_move 15 = .ok (.aload_n 0, 1) := by decide +kernel
theorem dX13_move_16 : decode cX13_move 16 = .ok (.iload_n 1, 1) := by decide +kernel
theorem dX13_move_17 : decode cX13_move 17 = .ok (.iload 5, 2) := by decide +kernel
theorem dX13_move_19 : decode cX13_move 19 = .ok (.iadd, 1) := by decide +kernel
theorem dX13_move_20 : decode cX13_move 20 = .ok (.baload, 1) := by decide +kernel
theorem dX13_move_21 : decode cX13_move 21 = .ok (.bastore, 1) := by decide +kernel
theorem dX13_move_22 : decode cX13_move 22 = .ok (.iinc 5 1, 3) := by decide +kernel
theorem dX13_move_25 : decode cX13_move 25 = .ok (.goto (-22), 3) := by decide +kernel
theorem dX13_move_28 : decode cX13_move 28 = .ok (.return_, 1) := by decide +kernel
abbrev rmX13_move : Room := { frames := 0, cells := 0, slots := 0, locals := 0 }
def B_X13_move_3 (G : Nat → Nat) (F : Nat) : Nat → Nat → Int32 → Nat → Int32 → Int32 → Int32 → mM → Option mM
  | 0, _, _, _, _, _, _, _ => none
  | n + 1, l0, l1, l2, l3, l4, l5, M =>
  if l4 ≤ l5 then (some M)
  else (bO (aI M 1 l0 (l1 + l5)) fun v20 =>
  bO (sI M 1 l2 (l3 + l5) (v20.toInt8.toInt32)) fun M21 =>
  B_X13_move_3 G F n l0 l1 l2 l3 l4 (l5 + 1) M21)
set_option maxHeartbeats 4000000 in
set_option maxRecDepth 100000 in
theorem wB_X13_move_3 {G : Nat → Nat} {F : Nat} {x : mXT} {sz : Nat} {M0 : mM} (X : mCX G RX13 cX13_move 6 none "move" rmX13_move x) (hQ : mQV x M0 (sz, 0, 0)) : ∀ (n : Nat) (l0 : Nat) (l1 : Int32) (l2 : Nat) (l3 : Int32) (l4 : Int32) (l5 : Int32) (M : mM), B_X13_move_3 G F n l0 l1 l2 l3 l4 l5 M = some M0 → WW x (sz, 0, 0) M 3 [(0, .ref l0), (1, .int l1), (2, .ref l2), (3, .int l3), (4, .int l4), (5, .int l5)] [] := by
  intro n
  induction n with
  | zero =>
    intro l0 l1 l2 l3 l4 l5 M h
    exact nomatch (show (none : Option mM) = some M0 from h)
  | succ n ih =>
    intro l0 l1 l2 l3 l4 l5 M h
    rw [B_X13_move_3] at h
    refine ww_iload 3 X dX13_move_3 5 rfl ?_
    refine ww_iload 5 X dX13_move_5 4 rfl ?_
    refine ww_icmp_ge 7 28 X dX13_move_7 (by decide) (fun q => ?_) (fun q => ?_)
    · replace h := (if_pos q).symm.trans h
      exact ww_vretE 28 X hQ dX13_move_28 h
    · replace h := (if_neg q).symm.trans h
      refine ww_aload_n 10 X dX13_move_10 2 rfl rfl ?_
      refine ww_iload_n 11 X dX13_move_11 3 rfl rfl ?_
      refine ww_iload 12 X dX13_move_12 5 rfl ?_
      refine ww_iadd 14 X dX13_move_14 ?_
      refine ww_aload_n 15 X dX13_move_15 0 rfl rfl ?_
      refine ww_iload_n 16 X dX13_move_16 1 rfl rfl ?_
      refine ww_iload 17 X dX13_move_17 5 rfl ?_
      refine ww_iadd 19 X dX13_move_19 ?_
      obtain ⟨v20, e20, h⟩ := bO_some h
      refine ww_bald 20 X dX13_move_20 e20 ?_
      obtain ⟨M21, e21, h⟩ := bO_some h
      refine ww_bast 21 X dX13_move_21 e21 ?_
      refine ww_iinc 22 X dX13_move_22 (lv' := [(0, .ref l0), (1, .int l1), (2, .ref l2), (3, .int l3), (4, .int l4), (5, .int (l5 + 1))]) 5 rfl rfl (by decide) [1, 2, 3, 4, 5, 0] rfl ?_
      refine ww_goto 25 3 X dX13_move_25 (by decide) ?_
      exact (ih _ _ _ _ _ _ _ h)
def P_X13_move (G : Nat → Nat) (F : Nat) (l0 : Nat) (l1 : Int32) (l2 : Nat) (l3 : Int32) (l4 : Int32) (M : mM) : Option mM :=
  B_X13_move_3 G F F l0 l1 l2 l3 l4 (0 : Int32) M
set_option maxHeartbeats 4000000 in
set_option maxRecDepth 100000 in
theorem wP_X13_move {G : Nat → Nat} {F : Nat} {x : mXT} {sz : Nat} {M0 : mM} (X : mCX G RX13 cX13_move 6 none "move" rmX13_move x) (hQ : mQV x M0 (sz, 0, 0)) {l0 : Nat} {l1 : Int32} {l2 : Nat} {l3 : Int32} {l4 : Int32} {M : mM} (h : P_X13_move G F l0 l1 l2 l3 l4 M = some M0) : WW x (sz, 0, 0) M 0 [(0, .ref l0), (1, .int l1), (2, .ref l2), (3, .int l3), (4, .int l4)] [] := by
  unfold P_X13_move at h
  refine ww_iconst 0 X (v := (0 : Int32)) dX13_move_0 (by decide) ?_
  refine ww_istore 1 X dX13_move_1 (lv' := [(0, .ref l0), (1, .int l1), (2, .ref l2), (3, .int l3), (4, .int l4), (5, .int (0 : Int32))]) (by decide) [1, 2, 3, 4, 5, 0] rfl ?_
  exact (wB_X13_move_3 X hQ F _ _ _ _ _ _ _ h)
theorem c_X13_move {G : Nat → Nat} {F sz : Nat} {M0 : mM} (l : Launch) (D : mD) (A : Nat → Prop) {l0 : Nat} {l1 : Int32} {l2 : Nat} {l3 : Int32} {l4 : Int32} {M : mM} (h : P_X13_move G F l0 l1 l2 l3 l4 M = some M0) : mMetV l D G A yX13_move cX13_move 6 none 0 0 0 0 [.ref l0, .int l1, .ref l2, .int l3, .int l4] M sz M0 sz := mMetV_of l D G A (by decide) (Nat.le_of_ble_eq_true rfl) (fun x X hQ => wP_X13_move X hQ h)
/-! SealedTokensModel.same([BI[BII)Z -/
theorem dX13_same_0 : decode cX13_same 0 = .ok (.iconst 1, 1) := by decide +kernel
theorem dX13_same_1 : decode cX13_same 1 = .ok (.istore 5, 2) := by decide +kernel
theorem dX13_same_3 : decode cX13_same 3 = .ok (.iconst 0, 1) := by decide +kernel
theorem dX13_same_4 : decode cX13_same 4 = .ok (.istore 6, 2) := by decide +kernel
theorem dX13_same_6 : decode cX13_same 6 = .ok (.iload 6, 2) := by decide +kernel
theorem dX13_same_8 : decode cX13_same 8 = .ok (.iload 4, 2) := by decide +kernel
theorem dX13_same_10 : decode cX13_same 10 = .ok (.if_icmp .ge 36, 3) := by decide +kernel
theorem dX13_same_13 : decode cX13_same 13 = .ok (.iload 5, 2) := by decide +kernel
theorem dX13_same_15 : decode cX13_same 15 = .ok (.ifCond .eq 22, 3) := by decide +kernel
theorem dX13_same_18 : decode cX13_same 18 = .ok (.aload_n 0, 1) := by decide +kernel
theorem dX13_same_19 : decode cX13_same 19 = .ok (.iload_n 1, 1) := by decide +kernel
theorem dX13_same_20 : decode cX13_same 20 = .ok (.iload 6, 2) := by decide +kernel
theorem dX13_same_22 : decode cX13_same 22 = .ok (.iadd, 1) := by decide +kernel
theorem dX13_same_23 : decode cX13_same 23 = .ok (.baload, 1) := by decide +kernel
theorem dX13_same_24 : decode cX13_same 24 = .ok (.aload_n 2, 1) := by decide +kernel
theorem dX13_same_25 : decode cX13_same 25 = .ok (.iload_n 3, 1) := by decide +kernel
theorem dX13_same_26 : decode cX13_same 26 = .ok (.iload 6, 2) := by decide +kernel
theorem dX13_same_28 : decode cX13_same 28 = .ok (.iadd, 1) := by decide +kernel
theorem dX13_same_29 : decode cX13_same 29 = .ok (.baload, 1) := by decide +kernel
theorem dX13_same_30 : decode cX13_same 30 = .ok (.if_icmp .ne 7, 3) := by decide +kernel
theorem dX13_same_33 : decode cX13_same 33 = .ok (.iconst 1, 1) := by decide +kernel
theorem dX13_same_34 : decode cX13_same 34 = .ok (.goto 4, 3) := by decide +kernel
theorem dX13_same_37 : decode cX13_same 37 = .ok (.iconst 0, 1) := by decide +kernel
theorem dX13_same_38 : decode cX13_same 38 = .ok (.istore 5, 2) := by decide +kernel
theorem dX13_same_40 : decode cX13_same 40 = .ok (.iinc 6 1, 3) := by decide +kernel
theorem dX13_same_43 : decode cX13_same 43 = .ok (.goto (-37), 3) := by decide +kernel
theorem dX13_same_46 : decode cX13_same 46 = .ok (.iload 5, 2) := by decide +kernel
theorem dX13_same_48 : decode cX13_same 48 = .ok (.ireturn, 1) := by decide +kernel
abbrev rmX13_same : Room := { frames := 0, cells := 0, slots := 0, locals := 0 }
def B_X13_same_6 (G : Nat → Nat) (F : Nat) : Nat → Nat → Int32 → Nat → Int32 → Int32 → Int32 → Int32 → mM → Option (Int32 × mM)
  | 0, _, _, _, _, _, _, _, _ => none
  | n + 1, l0, l1, l2, l3, l4, l5, l6, M =>
  if l4 ≤ l6 then (retZ l5 M)
  else (if l5 = 0 then (B_X13_same_6 G F n l0 l1 l2 l3 l4 (0 : Int32) (l6 + 1) M)
  else (bO (aI M 1 l0 (l1 + l6)) fun v23 =>
  bO (aI M 1 l2 (l3 + l6)) fun v29 =>
  if v23 = v29 then (B_X13_same_6 G F n l0 l1 l2 l3 l4 (1 : Int32) (l6 + 1) M)
  else (B_X13_same_6 G F n l0 l1 l2 l3 l4 (0 : Int32) (l6 + 1) M)))
set_option maxHeartbeats 4000000 in
set_option maxRecDepth 100000 in
theorem wB_X13_same_6 {G : Nat → Nat} {F : Nat} {x : mXT} {sz : Nat} {r0 : Int32} {M0 : mM} (X : mCX G RX13 cX13_same 7 (some .boolean) "same" rmX13_same x) (hQ : mQI x r0 M0 (sz, 0, 0)) : ∀ (n : Nat) (l0 : Nat) (l1 : Int32) (l2 : Nat) (l3 : Int32) (l4 : Int32) (l5 : Int32) (l6 : Int32) (M : mM), B_X13_same_6 G F n l0 l1 l2 l3 l4 l5 l6 M = some (r0, M0) → WW x (sz, 0, 0) M 6 [(0, .ref l0), (1, .int l1), (2, .ref l2), (3, .int l3), (4, .int l4), (5, .int l5), (6, .int l6)] [] := by
  intro n
  induction n with
  | zero =>
    intro l0 l1 l2 l3 l4 l5 l6 M h
    exact nomatch (show (none : Option (Int32 × mM)) = some (r0, M0) from h)
  | succ n ih =>
    intro l0 l1 l2 l3 l4 l5 l6 M h
    rw [B_X13_same_6] at h
    refine ww_iload 6 X dX13_same_6 6 rfl ?_
    refine ww_iload 8 X dX13_same_8 4 rfl ?_
    refine ww_icmp_ge 10 46 X dX13_same_10 (by decide) (fun q => ?_) (fun q => ?_)
    · replace h := (if_pos q).symm.trans h
      refine ww_iload 46 X dX13_same_46 5 rfl ?_
      exact ww_zretE 48 X hQ dX13_same_48 h
    · replace h := (if_neg q).symm.trans h
      refine ww_iload 13 X dX13_same_13 5 rfl ?_
      refine ww_if_eq 15 37 X dX13_same_15 (by decide) (fun q => ?_) (fun q => ?_)
      · replace h := (if_pos q).symm.trans h
        refine ww_iconst 37 X (v := (0 : Int32)) dX13_same_37 (by decide) ?_
        refine ww_istore 38 X dX13_same_38 (lv' := [(0, .ref l0), (1, .int l1), (2, .ref l2), (3, .int l3), (4, .int l4), (5, .int (0 : Int32)), (6, .int l6)]) (by decide) [1, 2, 3, 4, 5, 0, 6] rfl ?_
        refine ww_iinc 40 X dX13_same_40 (lv' := [(0, .ref l0), (1, .int l1), (2, .ref l2), (3, .int l3), (4, .int l4), (5, .int (0 : Int32)), (6, .int (l6 + 1))]) 6 rfl rfl (by decide) [1, 2, 3, 4, 5, 6, 0] rfl ?_
        refine ww_goto 43 6 X dX13_same_43 (by decide) ?_
        exact (ih _ _ _ _ _ _ _ _ h)
      · replace h := (if_neg q).symm.trans h
        refine ww_aload_n 18 X dX13_same_18 0 rfl rfl ?_
        refine ww_iload_n 19 X dX13_same_19 1 rfl rfl ?_
        refine ww_iload 20 X dX13_same_20 6 rfl ?_
        refine ww_iadd 22 X dX13_same_22 ?_
        obtain ⟨v23, e23, h⟩ := bO_some h
        refine ww_bald 23 X dX13_same_23 e23 ?_
        refine ww_aload_n 24 X dX13_same_24 2 rfl rfl ?_
        refine ww_iload_n 25 X dX13_same_25 3 rfl rfl ?_
        refine ww_iload 26 X dX13_same_26 6 rfl ?_
        refine ww_iadd 28 X dX13_same_28 ?_
        obtain ⟨v29, e29, h⟩ := bO_some h
        refine ww_bald 29 X dX13_same_29 e29 ?_
        refine ww_icmp_ne 30 37 X dX13_same_30 (by decide) (fun q => ?_) (fun q => ?_)
        · replace h := (if_neg q).symm.trans h
          refine ww_iconst 37 X (v := (0 : Int32)) dX13_same_37 (by decide) ?_
          refine ww_istore 38 X dX13_same_38 (lv' := [(0, .ref l0), (1, .int l1), (2, .ref l2), (3, .int l3), (4, .int l4), (5, .int (0 : Int32)), (6, .int l6)]) (by decide) [1, 2, 3, 4, 5, 0, 6] rfl ?_
          refine ww_iinc 40 X dX13_same_40 (lv' := [(0, .ref l0), (1, .int l1), (2, .ref l2), (3, .int l3), (4, .int l4), (5, .int (0 : Int32)), (6, .int (l6 + 1))]) 6 rfl rfl (by decide) [1, 2, 3, 4, 5, 6, 0] rfl ?_
          refine ww_goto 43 6 X dX13_same_43 (by decide) ?_
          exact (ih _ _ _ _ _ _ _ _ h)
        · replace h := (if_pos q).symm.trans h
          refine ww_iconst 33 X (v := (1 : Int32)) dX13_same_33 (by decide) ?_
          refine ww_goto 34 38 X dX13_same_34 (by decide) ?_
          refine ww_istore 38 X dX13_same_38 (lv' := [(0, .ref l0), (1, .int l1), (2, .ref l2), (3, .int l3), (4, .int l4), (5, .int (1 : Int32)), (6, .int l6)]) (by decide) [1, 2, 3, 4, 5, 0, 6] rfl ?_
          refine ww_iinc 40 X dX13_same_40 (lv' := [(0, .ref l0), (1, .int l1), (2, .ref l2), (3, .int l3), (4, .int l4), (5, .int (1 : Int32)), (6, .int (l6 + 1))]) 6 rfl rfl (by decide) [1, 2, 3, 4, 5, 6, 0] rfl ?_
          refine ww_goto 43 6 X dX13_same_43 (by decide) ?_
          exact (ih _ _ _ _ _ _ _ _ h)
def P_X13_same (G : Nat → Nat) (F : Nat) (l0 : Nat) (l1 : Int32) (l2 : Nat) (l3 : Int32) (l4 : Int32) (M : mM) : Option (Int32 × mM) :=
  B_X13_same_6 G F F l0 l1 l2 l3 l4 (1 : Int32) (0 : Int32) M
set_option maxHeartbeats 4000000 in
set_option maxRecDepth 100000 in
theorem wP_X13_same {G : Nat → Nat} {F : Nat} {x : mXT} {sz : Nat} {r0 : Int32} {M0 : mM} (X : mCX G RX13 cX13_same 7 (some .boolean) "same" rmX13_same x) (hQ : mQI x r0 M0 (sz, 0, 0)) {l0 : Nat} {l1 : Int32} {l2 : Nat} {l3 : Int32} {l4 : Int32} {M : mM} (h : P_X13_same G F l0 l1 l2 l3 l4 M = some (r0, M0)) : WW x (sz, 0, 0) M 0 [(0, .ref l0), (1, .int l1), (2, .ref l2), (3, .int l3), (4, .int l4)] [] := by
  unfold P_X13_same at h
  refine ww_iconst 0 X (v := (1 : Int32)) dX13_same_0 (by decide) ?_
  refine ww_istore 1 X dX13_same_1 (lv' := [(0, .ref l0), (1, .int l1), (2, .ref l2), (3, .int l3), (4, .int l4), (5, .int (1 : Int32))]) (by decide) [1, 2, 3, 4, 5, 0] rfl ?_
  refine ww_iconst 3 X (v := (0 : Int32)) dX13_same_3 (by decide) ?_
  refine ww_istore 4 X dX13_same_4 (lv' := [(0, .ref l0), (1, .int l1), (2, .ref l2), (3, .int l3), (4, .int l4), (5, .int (1 : Int32)), (6, .int (0 : Int32))]) (by decide) [1, 2, 3, 4, 5, 6, 0] rfl ?_
  exact (wB_X13_same_6 X hQ F _ _ _ _ _ _ _ _ h)
theorem c_X13_same {G : Nat → Nat} {F sz : Nat} {r0 : Int32} {M0 : mM} (l : Launch) (D : mD) (A : Nat → Prop) {l0 : Nat} {l1 : Int32} {l2 : Nat} {l3 : Int32} {l4 : Int32} {M : mM} (h : P_X13_same G F l0 l1 l2 l3 l4 M = some (r0, M0)) : mMetI l D G A yX13_same cX13_same 7 (some .boolean) 0 0 0 0 [.ref l0, .int l1, .ref l2, .int l3, .int l4] M sz r0 M0 sz := mMetI_of l D G A (by decide) (Nat.le_of_ble_eq_true rfl) (fun x X hQ => wP_X13_same X hQ h)
/-! SealedTokensModel.tell([BII)I -/
theorem dX13_tell_0 : decode cX13_tell 0 = .ok (.aload_n 1, 1) := by decide +kernel
theorem dX13_tell_1 : decode cX13_tell 1 = .ok (.iload_n 2, 1) := by decide +kernel
theorem dX13_tell_2 : decode cX13_tell 2 = .ok (.aload_n 0, 1) := by decide +kernel
theorem dX13_tell_3 : decode cX13_tell 3 = .ok (.getfield 21, 3) := by decide +kernel
theorem dX13_tell_6 : decode cX13_tell 6 = .ok (.iconst 0, 1) := by decide +kernel
theorem dX13_tell_7 : decode cX13_tell 7 = .ok (.iload_n 3, 1) := by decide +kernel
theorem dX13_tell_8 : decode cX13_tell 8 = .ok (.invokestatic 317, 3) := by decide +kernel
theorem dX13_tell_11 : decode cX13_tell 11 = .ok (.aload_n 0, 1) := by decide +kernel
theorem dX13_tell_12 : decode cX13_tell 12 = .ok (.iload_n 3, 1) := by decide +kernel
theorem dX13_tell_13 : decode cX13_tell 13 = .ok (.putfield 321, 3) := by decide +kernel
theorem dX13_tell_16 : decode cX13_tell 16 = .ok (.iload_n 3, 1) := by decide +kernel
theorem dX13_tell_17 : decode cX13_tell 17 = .ok (.ireturn, 1) := by decide +kernel
abbrev rmX13_tell : Room := { frames := 1, cells := 0, slots := 0, locals := 25 }
def P_X13_tell (G : Nat → Nat) (F : Nat) (l0 : Nat) (l1 : Nat) (l2 : Int32) (l3 : Int32) (M : mM) : Option (Int32 × mM) :=
  bO (gfR M l0 13 4) fun v3 =>
  bO (P_X13_move G F l1 l2 v3 (0 : Int32) l3 M) fun M8 =>
  bO (pfv M8 l0 13 5 (.int l3)) fun M13 =>
  some (l3, M13)
set_option maxHeartbeats 4000000 in
set_option maxRecDepth 100000 in
theorem wP_X13_tell {G : Nat → Nat} {F : Nat} {x : mXT} {sz : Nat} {r0 : Int32} {M0 : mM} (X : mCX G RX13 cX13_tell 4 (some .int) "tell" rmX13_tell x) (hQ : mQI x r0 M0 (sz, 0, 0)) {l0 : Nat} {l1 : Nat} {l2 : Int32} {l3 : Int32} {M : mM} (h : P_X13_tell G F l0 l1 l2 l3 M = some (r0, M0)) : WW x (sz, 0, 0) M 0 [(0, .ref l0), (1, .ref l1), (2, .int l2), (3, .int l3)] [] := by
  unfold P_X13_tell at h
  refine ww_aload_n 0 X dX13_tell_0 1 rfl rfl ?_
  refine ww_iload_n 1 X dX13_tell_1 2 rfl rfl ?_
  refine ww_aload_n 2 X dX13_tell_2 0 rfl rfl ?_
  obtain ⟨v3, e3, h⟩ := bO_some h
  refine ww_getR 3 X dX13_tell_3 fG_X13_21 e3 ?_
  refine ww_iconst 6 X (v := (0 : Int32)) dX13_tell_6 (by decide) ?_
  refine ww_iload_n 7 X dX13_tell_7 3 rfl rfl ?_
  obtain ⟨M8, e8, h⟩ := bO_some h
  refine ww_callSV0 8 X dX13_tell_8 mY_X13_move mL_X13_317 (As := [.ref l1, .int l2, .ref v3, .int (0 : Int32), .int l3]) (rest := []) rfl rfl ⟨Nat.le_of_ble_eq_true rfl, Nat.le_of_ble_eq_true rfl⟩ (Nat.le_of_ble_eq_true rfl) (fun l D A => c_X13_move l D A e8) ?_
  refine ww_aload_n 11 X dX13_tell_11 0 rfl rfl ?_
  refine ww_iload_n 12 X dX13_tell_12 3 rfl rfl ?_
  obtain ⟨M13, e13, h⟩ := bO_some h
  refine ww_putI 13 X dX13_tell_13 (fP_X13_321 _) e13 ?_
  refine ww_iload_n 16 X dX13_tell_16 3 rfl rfl ?_
  exact ww_iretE 17 X hQ dX13_tell_17 h
theorem c_X13_tell {G : Nat → Nat} {F sz : Nat} {r0 : Int32} {M0 : mM} (l : Launch) (D : mD) (A : Nat → Prop) {l0 : Nat} {l1 : Nat} {l2 : Int32} {l3 : Int32} {M : mM} (h : P_X13_tell G F l0 l1 l2 l3 M = some (r0, M0)) : mMetI l D G A yX13_tell cX13_tell 4 (some .int) 1 25 0 0 [.ref l0, .ref l1, .int l2, .int l3] M sz r0 M0 sz := mMetI_of l D G A (by decide) (Nat.le_of_ble_eq_true rfl) (fun x X hQ => wP_X13_tell X hQ h)
/-! SealedTokensModel.feed(IIIII)I -/
theorem dX13_feed_0 : decode cX13_feed 0 = .ok (.aload_n 0, 1) := by decide +kernel
theorem dX13_feed_1 : decode cX13_feed 1 = .ok (.getfield 325, 3) := by decide +kernel
theorem dX13_feed_4 : decode cX13_feed 4 = .ok (.bipush 20, 2) := by decide +kernel
theorem dX13_feed_6 : decode cX13_feed 6 = .ok (.iadd, 1) := by decide +kernel
theorem dX13_feed_7 : decode cX13_feed 7 = .ok (.sipush 8192, 3) := by decide +kernel
theorem dX13_feed_10 : decode cX13_feed 10 = .ok (.if_icmp .le 6, 3) := by decide +kernel
theorem dX13_feed_13 : decode cX13_feed 13 = .ok (.bipush (-2), 2) := by decide +kernel
theorem dX13_feed_15 : decode cX13_feed 15 = .ok (.ireturn, 1) := by decide +kernel
theorem dX13_feed_16 : decode cX13_feed 16 = .ok (.aload_n 0, 1) := by decide +kernel
theorem dX13_feed_17 : decode cX13_feed 17 = .ok (.getfield 7, 3) := by decide +kernel
theorem dX13_feed_20 : decode cX13_feed 20 = .ok (.aload_n 0, 1) := by decide +kernel
theorem dX13_feed_21 : decode cX13_feed 21 = .ok (.getfield 325, 3) := by decide +kernel
theorem dX13_feed_24 : decode cX13_feed 24 = .ok (.iconst 4, 1) := by decide +kernel
theorem dX13_feed_25 : decode cX13_feed 25 = .ok (.iload_n 1, 1) := by decide +kernel
theorem dX13_feed_26 : decode cX13_feed 26 = .ok (.i2l, 1) := by decide +kernel
theorem dX13_feed_27 : decode cX13_feed 27 = .ok (.invokestatic 328, 3) := by decide +kernel
theorem dX13_feed_30 : decode cX13_feed 30 = .ok (.aload_n 0, 1) := by decide +kernel
theorem dX13_feed_31 : decode cX13_feed 31 = .ok (.getfield 7, 3) := by decide +kernel
theorem dX13_feed_34 : decode cX13_feed 34 = .ok (.aload_n 0, 1) := by decide +kernel
theorem dX13_feed_35 : decode cX13_feed 35 = .ok (.getfield 325, 3) := by decide +kernel
theorem dX13_feed_38 : decode cX13_feed 38 = .ok (.iconst 4, 1) := by decide +kernel
theorem dX13_feed_39 : decode cX13_feed 39 = .ok (.iadd, 1) := by decide +kernel
theorem dX13_feed_40 : decode cX13_feed 40 = .ok (.iconst 4, 1) := by decide +kernel
theorem dX13_feed_41 : decode cX13_feed 41 = .ok (.iload_n 2, 1) := by decide +kernel
theorem dX13_feed_42 : decode cX13_feed 42 = .ok (.i2l, 1) := by decide +kernel
theorem dX13_feed_43 : decode cX13_feed 43 = .ok (.invokestatic 328, 3) := by decide +kernel
theorem dX13_feed_46 : decode cX13_feed 46 = .ok (.aload_n 0, 1) := by decide +kernel
theorem dX13_feed_47 : decode cX13_feed 47 = .ok (.getfield 7, 3) := by decide +kernel
theorem dX13_feed_50 : decode cX13_feed 50 = .ok (.aload_n 0, 1) := by decide +kernel
theorem dX13_feed_51 : decode cX13_feed 51 = .ok (.getfield 325, 3) := by decide +kernel
theorem dX13_feed_54 : decode cX13_feed 54 = .ok (.bipush 8, 2) := by decide +kernel
theorem dX13_feed_56 : decode cX13_feed 56 = .ok (.iadd, 1) := by decide +kernel
theorem dX13_feed_57 : decode cX13_feed 57 = .ok (.iconst 4, 1) := by decide +kernel
theorem dX13_feed_58 : decode cX13_feed 58 = .ok (.iload_n 3, 1) := by decide +kernel
theorem dX13_feed_59 : decode cX13_feed 59 = .ok (.i2l, 1) := by decide +kernel
theorem dX13_feed_60 : decode cX13_feed 60 = .ok (.invokestatic 328, 3) := by decide +kernel
theorem dX13_feed_63 : decode cX13_feed 63 = .ok (.aload_n 0, 1) := by decide +kernel
theorem dX13_feed_64 : decode cX13_feed 64 = .ok (.getfield 7, 3) := by decide +kernel
theorem dX13_feed_67 : decode cX13_feed 67 = .ok (.aload_n 0, 1) := by decide +kernel
theorem dX13_feed_68 : decode cX13_feed 68 = .ok (.getfield 325, 3) := by decide +kernel
theorem dX13_feed_71 : decode cX13_feed 71 = .ok (.bipush 12, 2) := by decide +kernel
theorem dX13_feed_73 : decode cX13_feed 73 = .ok (.iadd, 1) := by decide +kernel
theorem dX13_feed_74 : decode cX13_feed 74 = .ok (.iconst 4, 1) := by decide +kernel
theorem dX13_feed_75 : decode cX13_feed 75 = .ok (.iload 4, 2) := by decide +kernel
theorem dX13_feed_77 : decode cX13_feed 77 = .ok (.i2l, 1) := by decide +kernel
theorem dX13_feed_78 : decode cX13_feed 78 = .ok (.invokestatic 328, 3) := by decide +kernel
theorem dX13_feed_81 : decode cX13_feed 81 = .ok (.aload_n 0, 1) := by decide +kernel
theorem dX13_feed_82 : decode cX13_feed 82 = .ok (.getfield 7, 3) := by decide +kernel
theorem dX13_feed_85 : decode cX13_feed 85 = .ok (.aload_n 0, 1) := by decide +kernel
theorem dX13_feed_86 : decode cX13_feed 86 = .ok (.getfield 325, 3) := by decide +kernel
theorem dX13_feed_89 : decode cX13_feed 89 = .ok (.bipush 16, 2) := by decide +kernel
theorem dX13_feed_91 : decode cX13_feed 91 = .ok (.iadd, 1) := by decide +kernel
theorem dX13_feed_92 : decode cX13_feed 92 = .ok (.iconst 4, 1) := by decide +kernel
theorem dX13_feed_93 : decode cX13_feed 93 = .ok (.iload 5, 2) := by decide +kernel
theorem dX13_feed_95 : decode cX13_feed 95 = .ok (.i2l, 1) := by decide +kernel
theorem dX13_feed_96 : decode cX13_feed 96 = .ok (.invokestatic 328, 3) := by decide +kernel
theorem dX13_feed_99 : decode cX13_feed 99 = .ok (.aload_n 0, 1) := by decide +kernel
theorem dX13_feed_100 : decode cX13_feed 100 = .ok (.dup, 1) := by decide +kernel
theorem dX13_feed_101 : decode cX13_feed 101 = .ok (.getfield 325, 3) := by decide +kernel
theorem dX13_feed_104 : decode cX13_feed 104 = .ok (.bipush 20, 2) := by decide +kernel
theorem dX13_feed_106 : decode cX13_feed 106 = .ok (.iadd, 1) := by decide +kernel
theorem dX13_feed_107 : decode cX13_feed 107 = .ok (.putfield 325, 3) := by decide +kernel
theorem dX13_feed_110 : decode cX13_feed 110 = .ok (.aload_n 0, 1) := by decide +kernel
theorem dX13_feed_111 : decode cX13_feed 111 = .ok (.getfield 325, 3) := by decide +kernel
theorem dX13_feed_114 : decode cX13_feed 114 = .ok (.ireturn, 1) := by decide +kernel
abbrev rmX13_feed : Room := { frames := 1, cells := 0, slots := 0, locals := 25 }
def P_X13_feed (G : Nat → Nat) (F : Nat) (l0 : Nat) (l1 : Int32) (l2 : Int32) (l3 : Int32) (l4 : Int32) (l5 : Int32) (M : mM) : Option (Int32 × mM) :=
  bO (gfI M l0 13 1) fun v1 =>
  if (v1 + (20 : Int32)) ≤ (8192 : Int32) then (bO (gfR M l0 13 0) fun v17 =>
  bO (gfI M l0 13 1) fun v21 =>
  bO (P_X13_put G F v17 v21 (4 : Int32) (l1.toInt64) M) fun M27 =>
  bO (gfR M27 l0 13 0) fun v31 =>
  bO (gfI M27 l0 13 1) fun v35 =>
  bO (P_X13_put G F v31 (v35 + (4 : Int32)) (4 : Int32) (l2.toInt64) M27) fun M43 =>
  bO (gfR M43 l0 13 0) fun v47 =>
  bO (gfI M43 l0 13 1) fun v51 =>
  bO (P_X13_put G F v47 (v51 + (8 : Int32)) (4 : Int32) (l3.toInt64) M43) fun M60 =>
  bO (gfR M60 l0 13 0) fun v64 =>
  bO (gfI M60 l0 13 1) fun v68 =>
  bO (P_X13_put G F v64 (v68 + (12 : Int32)) (4 : Int32) (l4.toInt64) M60) fun M78 =>
  bO (gfR M78 l0 13 0) fun v82 =>
  bO (gfI M78 l0 13 1) fun v86 =>
  bO (P_X13_put G F v82 (v86 + (16 : Int32)) (4 : Int32) (l5.toInt64) M78) fun M96 =>
  bO (gfI M96 l0 13 1) fun v101 =>
  bO (pfv M96 l0 13 1 (.int (v101 + (20 : Int32)))) fun M107 =>
  bO (gfI M107 l0 13 1) fun v111 =>
  some (v111, M107))
  else (some ((-2 : Int32), M))
set_option maxHeartbeats 4000000 in
set_option maxRecDepth 100000 in
theorem wP_X13_feed {G : Nat → Nat} {F : Nat} {x : mXT} {sz : Nat} {r0 : Int32} {M0 : mM} (X : mCX G RX13 cX13_feed 6 (some .int) "feed" rmX13_feed x) (hQ : mQI x r0 M0 (sz, 0, 0)) {l0 : Nat} {l1 : Int32} {l2 : Int32} {l3 : Int32} {l4 : Int32} {l5 : Int32} {M : mM} (h : P_X13_feed G F l0 l1 l2 l3 l4 l5 M = some (r0, M0)) : WW x (sz, 0, 0) M 0 [(0, .ref l0), (1, .int l1), (2, .int l2), (3, .int l3), (4, .int l4), (5, .int l5)] [] := by
  unfold P_X13_feed at h
  refine ww_aload_n 0 X dX13_feed_0 0 rfl rfl ?_
  obtain ⟨v1, e1, h⟩ := bO_some h
  refine ww_getI 1 X dX13_feed_1 fG_X13_325 e1 ?_
  refine ww_bipush 4 X (v := (20 : Int32)) dX13_feed_4 (by decide) ?_
  refine ww_iadd 6 X dX13_feed_6 ?_
  refine ww_sipush 7 X (v := (8192 : Int32)) dX13_feed_7 (by decide) ?_
  refine ww_icmp_le 10 16 X dX13_feed_10 (by decide) (fun q => ?_) (fun q => ?_)
  · replace h := (if_pos q).symm.trans h
    refine ww_aload_n 16 X dX13_feed_16 0 rfl rfl ?_
    obtain ⟨v17, e17, h⟩ := bO_some h
    refine ww_getR 17 X dX13_feed_17 fG_X13_7 e17 ?_
    refine ww_aload_n 20 X dX13_feed_20 0 rfl rfl ?_
    obtain ⟨v21, e21, h⟩ := bO_some h
    refine ww_getI 21 X dX13_feed_21 fG_X13_325 e21 ?_
    refine ww_iconst 24 X (v := (4 : Int32)) dX13_feed_24 (by decide) ?_
    refine ww_iload_n 25 X dX13_feed_25 1 rfl rfl ?_
    refine ww_i2l 26 X dX13_feed_26 ?_
    obtain ⟨M27, e27, h⟩ := bO_some h
    refine ww_callSV0 27 X dX13_feed_27 mY_X13_put mL_X13_328 (As := [.ref v17, .int v21, .int (4 : Int32), .long (l1.toInt64)]) (rest := []) rfl rfl ⟨Nat.le_of_ble_eq_true rfl, Nat.le_of_ble_eq_true rfl⟩ (Nat.le_of_ble_eq_true rfl) (fun l D A => c_X13_put l D A e27) ?_
    refine ww_aload_n 30 X dX13_feed_30 0 rfl rfl ?_
    obtain ⟨v31, e31, h⟩ := bO_some h
    refine ww_getR 31 X dX13_feed_31 fG_X13_7 e31 ?_
    refine ww_aload_n 34 X dX13_feed_34 0 rfl rfl ?_
    obtain ⟨v35, e35, h⟩ := bO_some h
    refine ww_getI 35 X dX13_feed_35 fG_X13_325 e35 ?_
    refine ww_iconst 38 X (v := (4 : Int32)) dX13_feed_38 (by decide) ?_
    refine ww_iadd 39 X dX13_feed_39 ?_
    refine ww_iconst 40 X (v := (4 : Int32)) dX13_feed_40 (by decide) ?_
    refine ww_iload_n 41 X dX13_feed_41 2 rfl rfl ?_
    refine ww_i2l 42 X dX13_feed_42 ?_
    obtain ⟨M43, e43, h⟩ := bO_some h
    refine ww_callSV0 43 X dX13_feed_43 mY_X13_put mL_X13_328 (As := [.ref v31, .int (v35 + (4 : Int32)), .int (4 : Int32), .long (l2.toInt64)]) (rest := []) rfl rfl ⟨Nat.le_of_ble_eq_true rfl, Nat.le_of_ble_eq_true rfl⟩ (Nat.le_of_ble_eq_true rfl) (fun l D A => c_X13_put l D A e43) ?_
    refine ww_aload_n 46 X dX13_feed_46 0 rfl rfl ?_
    obtain ⟨v47, e47, h⟩ := bO_some h
    refine ww_getR 47 X dX13_feed_47 fG_X13_7 e47 ?_
    refine ww_aload_n 50 X dX13_feed_50 0 rfl rfl ?_
    obtain ⟨v51, e51, h⟩ := bO_some h
    refine ww_getI 51 X dX13_feed_51 fG_X13_325 e51 ?_
    refine ww_bipush 54 X (v := (8 : Int32)) dX13_feed_54 (by decide) ?_
    refine ww_iadd 56 X dX13_feed_56 ?_
    refine ww_iconst 57 X (v := (4 : Int32)) dX13_feed_57 (by decide) ?_
    refine ww_iload_n 58 X dX13_feed_58 3 rfl rfl ?_
    refine ww_i2l 59 X dX13_feed_59 ?_
    obtain ⟨M60, e60, h⟩ := bO_some h
    refine ww_callSV0 60 X dX13_feed_60 mY_X13_put mL_X13_328 (As := [.ref v47, .int (v51 + (8 : Int32)), .int (4 : Int32), .long (l3.toInt64)]) (rest := []) rfl rfl ⟨Nat.le_of_ble_eq_true rfl, Nat.le_of_ble_eq_true rfl⟩ (Nat.le_of_ble_eq_true rfl) (fun l D A => c_X13_put l D A e60) ?_
    refine ww_aload_n 63 X dX13_feed_63 0 rfl rfl ?_
    obtain ⟨v64, e64, h⟩ := bO_some h
    refine ww_getR 64 X dX13_feed_64 fG_X13_7 e64 ?_
    refine ww_aload_n 67 X dX13_feed_67 0 rfl rfl ?_
    obtain ⟨v68, e68, h⟩ := bO_some h
    refine ww_getI 68 X dX13_feed_68 fG_X13_325 e68 ?_
    refine ww_bipush 71 X (v := (12 : Int32)) dX13_feed_71 (by decide) ?_
    refine ww_iadd 73 X dX13_feed_73 ?_
    refine ww_iconst 74 X (v := (4 : Int32)) dX13_feed_74 (by decide) ?_
    refine ww_iload 75 X dX13_feed_75 4 rfl ?_
    refine ww_i2l 77 X dX13_feed_77 ?_
    obtain ⟨M78, e78, h⟩ := bO_some h
    refine ww_callSV0 78 X dX13_feed_78 mY_X13_put mL_X13_328 (As := [.ref v64, .int (v68 + (12 : Int32)), .int (4 : Int32), .long (l4.toInt64)]) (rest := []) rfl rfl ⟨Nat.le_of_ble_eq_true rfl, Nat.le_of_ble_eq_true rfl⟩ (Nat.le_of_ble_eq_true rfl) (fun l D A => c_X13_put l D A e78) ?_
    refine ww_aload_n 81 X dX13_feed_81 0 rfl rfl ?_
    obtain ⟨v82, e82, h⟩ := bO_some h
    refine ww_getR 82 X dX13_feed_82 fG_X13_7 e82 ?_
    refine ww_aload_n 85 X dX13_feed_85 0 rfl rfl ?_
    obtain ⟨v86, e86, h⟩ := bO_some h
    refine ww_getI 86 X dX13_feed_86 fG_X13_325 e86 ?_
    refine ww_bipush 89 X (v := (16 : Int32)) dX13_feed_89 (by decide) ?_
    refine ww_iadd 91 X dX13_feed_91 ?_
    refine ww_iconst 92 X (v := (4 : Int32)) dX13_feed_92 (by decide) ?_
    refine ww_iload 93 X dX13_feed_93 5 rfl ?_
    refine ww_i2l 95 X dX13_feed_95 ?_
    obtain ⟨M96, e96, h⟩ := bO_some h
    refine ww_callSV0 96 X dX13_feed_96 mY_X13_put mL_X13_328 (As := [.ref v82, .int (v86 + (16 : Int32)), .int (4 : Int32), .long (l5.toInt64)]) (rest := []) rfl rfl ⟨Nat.le_of_ble_eq_true rfl, Nat.le_of_ble_eq_true rfl⟩ (Nat.le_of_ble_eq_true rfl) (fun l D A => c_X13_put l D A e96) ?_
    refine ww_aload_n 99 X dX13_feed_99 0 rfl rfl ?_
    refine ww_dup 100 X dX13_feed_100 rfl ?_
    obtain ⟨v101, e101, h⟩ := bO_some h
    refine ww_getI 101 X dX13_feed_101 fG_X13_325 e101 ?_
    refine ww_bipush 104 X (v := (20 : Int32)) dX13_feed_104 (by decide) ?_
    refine ww_iadd 106 X dX13_feed_106 ?_
    obtain ⟨M107, e107, h⟩ := bO_some h
    refine ww_putI 107 X dX13_feed_107 (fP_X13_325 _) e107 ?_
    refine ww_aload_n 110 X dX13_feed_110 0 rfl rfl ?_
    obtain ⟨v111, e111, h⟩ := bO_some h
    refine ww_getI 111 X dX13_feed_111 fG_X13_325 e111 ?_
    exact ww_iretE 114 X hQ dX13_feed_114 h
  · replace h := (if_neg q).symm.trans h
    refine ww_bipush 13 X (v := (-2 : Int32)) dX13_feed_13 (by decide) ?_
    exact ww_iretE 15 X hQ dX13_feed_15 h
theorem c_X13_feed {G : Nat → Nat} {F sz : Nat} {r0 : Int32} {M0 : mM} (l : Launch) (D : mD) (A : Nat → Prop) {l0 : Nat} {l1 : Int32} {l2 : Int32} {l3 : Int32} {l4 : Int32} {l5 : Int32} {M : mM} (h : P_X13_feed G F l0 l1 l2 l3 l4 l5 M = some (r0, M0)) : mMetI l D G A yX13_feed cX13_feed 6 (some .int) 1 25 0 0 [.ref l0, .int l1, .int l2, .int l3, .int l4, .int l5] M sz r0 M0 sz := mMetI_of l D G A (by decide) (Nat.le_of_ble_eq_true rfl) (fun x X hQ => wP_X13_feed X hQ h)
/-! SealedTokensModel.end(I)I -/
theorem dX13_end_0 : decode cX13_end 0 = .ok (.iload_n 1, 1) := by decide +kernel
theorem dX13_end_1 : decode cX13_end 1 = .ok (.ifCond .lt 11, 3) := by decide +kernel
theorem dX13_end_4 : decode cX13_end 4 = .ok (.iload_n 1, 1) := by decide +kernel
theorem dX13_end_5 : decode cX13_end 5 = .ok (.aload_n 0, 1) := by decide +kernel
theorem dX13_end_6 : decode cX13_end 6 = .ok (.getfield 325, 3) := by decide +kernel
theorem dX13_end_9 : decode cX13_end 9 = .ok (.if_icmp .le 6, 3) := by decide +kernel
theorem dX13_end_12 : decode cX13_end 12 = .ok (.bipush (-2), 2) := by decide +kernel
theorem dX13_end_14 : decode cX13_end 14 = .ok (.ireturn, 1) := by decide +kernel
theorem dX13_end_15 : decode cX13_end 15 = .ok (.aload_n 0, 1) := by decide +kernel
theorem dX13_end_16 : decode cX13_end 16 = .ok (.iload_n 1, 1) := by decide +kernel
theorem dX13_end_17 : decode cX13_end 17 = .ok (.putfield 325, 3) := by decide +kernel
theorem dX13_end_20 : decode cX13_end 20 = .ok (.iload_n 1, 1) := by decide +kernel
theorem dX13_end_21 : decode cX13_end 21 = .ok (.ireturn, 1) := by decide +kernel
abbrev rmX13_end : Room := { frames := 0, cells := 0, slots := 0, locals := 0 }
def P_X13_end (G : Nat → Nat) (F : Nat) (l0 : Nat) (l1 : Int32) (M : mM) : Option (Int32 × mM) :=
  if l1 < 0 then (some ((-2 : Int32), M))
  else (bO (gfI M l0 13 1) fun v6 =>
  if l1 ≤ v6 then (bO (pfv M l0 13 1 (.int l1)) fun M17 =>
  some (l1, M17))
  else (some ((-2 : Int32), M)))
set_option maxHeartbeats 4000000 in
set_option maxRecDepth 100000 in
theorem wP_X13_end {G : Nat → Nat} {F : Nat} {x : mXT} {sz : Nat} {r0 : Int32} {M0 : mM} (X : mCX G RX13 cX13_end 2 (some .int) "end" rmX13_end x) (hQ : mQI x r0 M0 (sz, 0, 0)) {l0 : Nat} {l1 : Int32} {M : mM} (h : P_X13_end G F l0 l1 M = some (r0, M0)) : WW x (sz, 0, 0) M 0 [(0, .ref l0), (1, .int l1)] [] := by
  unfold P_X13_end at h
  refine ww_iload_n 0 X dX13_end_0 1 rfl rfl ?_
  refine ww_if_lt 1 12 X dX13_end_1 (by decide) (fun q => ?_) (fun q => ?_)
  · replace h := (if_pos q).symm.trans h
    refine ww_bipush 12 X (v := (-2 : Int32)) dX13_end_12 (by decide) ?_
    exact ww_iretE 14 X hQ dX13_end_14 h
  · replace h := (if_neg q).symm.trans h
    refine ww_iload_n 4 X dX13_end_4 1 rfl rfl ?_
    refine ww_aload_n 5 X dX13_end_5 0 rfl rfl ?_
    obtain ⟨v6, e6, h⟩ := bO_some h
    refine ww_getI 6 X dX13_end_6 fG_X13_325 e6 ?_
    refine ww_icmp_le 9 15 X dX13_end_9 (by decide) (fun q => ?_) (fun q => ?_)
    · replace h := (if_pos q).symm.trans h
      refine ww_aload_n 15 X dX13_end_15 0 rfl rfl ?_
      refine ww_iload_n 16 X dX13_end_16 1 rfl rfl ?_
      obtain ⟨M17, e17, h⟩ := bO_some h
      refine ww_putI 17 X dX13_end_17 (fP_X13_325 _) e17 ?_
      refine ww_iload_n 20 X dX13_end_20 1 rfl rfl ?_
      exact ww_iretE 21 X hQ dX13_end_21 h
    · replace h := (if_neg q).symm.trans h
      refine ww_bipush 12 X (v := (-2 : Int32)) dX13_end_12 (by decide) ?_
      exact ww_iretE 14 X hQ dX13_end_14 h
theorem c_X13_end {G : Nat → Nat} {F sz : Nat} {r0 : Int32} {M0 : mM} (l : Launch) (D : mD) (A : Nat → Prop) {l0 : Nat} {l1 : Int32} {M : mM} (h : P_X13_end G F l0 l1 M = some (r0, M0)) : mMetI l D G A yX13_end cX13_end 2 (some .int) 0 0 0 0 [.ref l0, .int l1] M sz r0 M0 sz := mMetI_of l D G A (by decide) (Nat.le_of_ble_eq_true rfl) (fun x X hQ => wP_X13_end X hQ h)
/-! SealedTokensModel.row(I)I -/
theorem dX13_row_0 : decode cX13_row 0 = .ok (.iload_n 1, 1) := by decide +kernel
theorem dX13_row_1 : decode cX13_row 1 = .ok (.invokestatic 332, 3) := by decide +kernel
theorem dX13_row_4 : decode cX13_row 4 = .ok (.ifCond .ne 6, 3) := by decide +kernel
theorem dX13_row_7 : decode cX13_row 7 = .ok (.bipush (-2), 2) := by decide +kernel
theorem dX13_row_9 : decode cX13_row 9 = .ok (.ireturn, 1) := by decide +kernel
theorem dX13_row_10 : decode cX13_row 10 = .ok (.aload_n 0, 1) := by decide +kernel
theorem dX13_row_11 : decode cX13_row 11 = .ok (.getfield 7, 3) := by decide +kernel
theorem dX13_row_14 : decode cX13_row 14 = .ok (.iconst 0, 1) := by decide +kernel
theorem dX13_row_15 : decode cX13_row 15 = .ok (.aload_n 0, 1) := by decide +kernel
theorem dX13_row_16 : decode cX13_row 16 = .ok (.getfield 14, 3) := by decide +kernel
theorem dX13_row_19 : decode cX13_row 19 = .ok (.sipush 8192, 3) := by decide +kernel
theorem dX13_row_22 : decode cX13_row 22 = .ok (.iload_n 1, 1) := by decide +kernel
theorem dX13_row_23 : decode cX13_row 23 = .ok (.imul, 1) := by decide +kernel
theorem dX13_row_24 : decode cX13_row 24 = .ok (.aload_n 0, 1) := by decide +kernel
theorem dX13_row_25 : decode cX13_row 25 = .ok (.getfield 325, 3) := by decide +kernel
theorem dX13_row_28 : decode cX13_row 28 = .ok (.invokestatic 317, 3) := by decide +kernel
theorem dX13_row_31 : decode cX13_row 31 = .ok (.aload_n 0, 1) := by decide +kernel
theorem dX13_row_32 : decode cX13_row 32 = .ok (.getfield 17, 3) := by decide +kernel
theorem dX13_row_35 : decode cX13_row 35 = .ok (.iload_n 1, 1) := by decide +kernel
theorem dX13_row_36 : decode cX13_row 36 = .ok (.aload_n 0, 1) := by decide +kernel
theorem dX13_row_37 : decode cX13_row 37 = .ok (.getfield 325, 3) := by decide +kernel
theorem dX13_row_40 : decode cX13_row 40 = .ok (.iastore, 1) := by decide +kernel
theorem dX13_row_41 : decode cX13_row 41 = .ok (.aload_n 0, 1) := by decide +kernel
theorem dX13_row_42 : decode cX13_row 42 = .ok (.iconst 0, 1) := by decide +kernel
theorem dX13_row_43 : decode cX13_row 43 = .ok (.putfield 325, 3) := by decide +kernel
theorem dX13_row_46 : decode cX13_row 46 = .ok (.aload_n 0, 1) := by decide +kernel
theorem dX13_row_47 : decode cX13_row 47 = .ok (.getfield 17, 3) := by decide +kernel
theorem dX13_row_50 : decode cX13_row 50 = .ok (.iload_n 1, 1) := by decide +kernel
theorem dX13_row_51 : decode cX13_row 51 = .ok (.iaload, 1) := by decide +kernel
theorem dX13_row_52 : decode cX13_row 52 = .ok (.ireturn, 1) := by decide +kernel
abbrev rmX13_row : Room := { frames := 1, cells := 0, slots := 0, locals := 25 }
def P_X13_row (G : Nat → Nat) (F : Nat) (l0 : Nat) (l1 : Int32) (M : mM) : Option (Int32 × mM) :=
  bP (P_X13_isRow G F l1 M) fun v1 M1 =>
  if v1 = 0 then (some ((-2 : Int32), M1))
  else (bO (gfR M1 l0 13 0) fun v11 =>
  bO (gfR M1 l0 13 2) fun v16 =>
  bO (gfI M1 l0 13 1) fun v25 =>
  bO (P_X13_move G F v11 (0 : Int32) v16 ((8192 : Int32) * l1) v25 M1) fun M28 =>
  bO (gfR M28 l0 13 3) fun v32 =>
  bO (gfI M28 l0 13 1) fun v37 =>
  bO (sI M28 0 v32 l1 v37) fun M40 =>
  bO (pfv M40 l0 13 1 (.int (0 : Int32))) fun M43 =>
  bO (gfR M43 l0 13 3) fun v47 =>
  bO (aI M43 0 v47 l1) fun v51 =>
  some (v51, M43))
set_option maxHeartbeats 4000000 in
set_option maxRecDepth 100000 in
theorem wP_X13_row {G : Nat → Nat} {F : Nat} {x : mXT} {sz : Nat} {r0 : Int32} {M0 : mM} (X : mCX G RX13 cX13_row 2 (some .int) "row" rmX13_row x) (hQ : mQI x r0 M0 (sz, 0, 0)) {l0 : Nat} {l1 : Int32} {M : mM} (h : P_X13_row G F l0 l1 M = some (r0, M0)) : WW x (sz, 0, 0) M 0 [(0, .ref l0), (1, .int l1)] [] := by
  unfold P_X13_row at h
  refine ww_iload_n 0 X dX13_row_0 1 rfl rfl ?_
  obtain ⟨v1, M1, e1, h⟩ := bP_some h
  refine ww_callSI0 1 X dX13_row_1 mY_X13_isRow mL_X13_332 (As := [.int l1]) (rest := []) rfl rfl ⟨Nat.le_of_ble_eq_true rfl, Nat.le_of_ble_eq_true rfl⟩ (Nat.le_of_ble_eq_true rfl) (fun l D A => c_X13_isRow l D A e1) ?_
  refine ww_if_ne 4 10 X dX13_row_4 (by decide) (fun q => ?_) (fun q => ?_)
  · replace h := (if_neg q).symm.trans h
    refine ww_aload_n 10 X dX13_row_10 0 rfl rfl ?_
    obtain ⟨v11, e11, h⟩ := bO_some h
    refine ww_getR 11 X dX13_row_11 fG_X13_7 e11 ?_
    refine ww_iconst 14 X (v := (0 : Int32)) dX13_row_14 (by decide) ?_
    refine ww_aload_n 15 X dX13_row_15 0 rfl rfl ?_
    obtain ⟨v16, e16, h⟩ := bO_some h
    refine ww_getR 16 X dX13_row_16 fG_X13_14 e16 ?_
    refine ww_sipush 19 X (v := (8192 : Int32)) dX13_row_19 (by decide) ?_
    refine ww_iload_n 22 X dX13_row_22 1 rfl rfl ?_
    refine ww_imul 23 X dX13_row_23 ?_
    refine ww_aload_n 24 X dX13_row_24 0 rfl rfl ?_
    obtain ⟨v25, e25, h⟩ := bO_some h
    refine ww_getI 25 X dX13_row_25 fG_X13_325 e25 ?_
    obtain ⟨M28, e28, h⟩ := bO_some h
    refine ww_callSV0 28 X dX13_row_28 mY_X13_move mL_X13_317 (As := [.ref v11, .int (0 : Int32), .ref v16, .int ((8192 : Int32) * l1), .int v25]) (rest := []) rfl rfl ⟨Nat.le_of_ble_eq_true rfl, Nat.le_of_ble_eq_true rfl⟩ (Nat.le_of_ble_eq_true rfl) (fun l D A => c_X13_move l D A e28) ?_
    refine ww_aload_n 31 X dX13_row_31 0 rfl rfl ?_
    obtain ⟨v32, e32, h⟩ := bO_some h
    refine ww_getR 32 X dX13_row_32 fG_X13_17 e32 ?_
    refine ww_iload_n 35 X dX13_row_35 1 rfl rfl ?_
    refine ww_aload_n 36 X dX13_row_36 0 rfl rfl ?_
    obtain ⟨v37, e37, h⟩ := bO_some h
    refine ww_getI 37 X dX13_row_37 fG_X13_325 e37 ?_
    obtain ⟨M40, e40, h⟩ := bO_some h
    refine ww_iast 40 X dX13_row_40 e40 ?_
    refine ww_aload_n 41 X dX13_row_41 0 rfl rfl ?_
    refine ww_iconst 42 X (v := (0 : Int32)) dX13_row_42 (by decide) ?_
    obtain ⟨M43, e43, h⟩ := bO_some h
    refine ww_putI 43 X dX13_row_43 (fP_X13_325 _) e43 ?_
    refine ww_aload_n 46 X dX13_row_46 0 rfl rfl ?_
    obtain ⟨v47, e47, h⟩ := bO_some h
    refine ww_getR 47 X dX13_row_47 fG_X13_17 e47 ?_
    refine ww_iload_n 50 X dX13_row_50 1 rfl rfl ?_
    obtain ⟨v51, e51, h⟩ := bO_some h
    refine ww_iald 51 X dX13_row_51 e51 ?_
    exact ww_iretE 52 X hQ dX13_row_52 h
  · replace h := (if_pos q).symm.trans h
    refine ww_bipush 7 X (v := (-2 : Int32)) dX13_row_7 (by decide) ?_
    exact ww_iretE 9 X hQ dX13_row_9 h
theorem c_X13_row {G : Nat → Nat} {F sz : Nat} {r0 : Int32} {M0 : mM} (l : Launch) (D : mD) (A : Nat → Prop) {l0 : Nat} {l1 : Int32} {M : mM} (h : P_X13_row G F l0 l1 M = some (r0, M0)) : mMetI l D G A yX13_row cX13_row 2 (some .int) 1 25 0 0 [.ref l0, .int l1] M sz r0 M0 sz := mMetI_of l D G A (by decide) (Nat.le_of_ble_eq_true rfl) (fun x X hQ => wP_X13_row X hQ h)
/-! SealedTokensModel.keep(I)I -/
theorem dX13_keep_0 : decode cX13_keep 0 = .ok (.iload_n 1, 1) := by decide +kernel
theorem dX13_keep_1 : decode cX13_keep 1 = .ok (.invokestatic 332, 3) := by decide +kernel
theorem dX13_keep_4 : decode cX13_keep 4 = .ok (.ifCond .ne 6, 3) := by decide +kernel
theorem dX13_keep_7 : decode cX13_keep 7 = .ok (.bipush (-2), 2) := by decide +kernel
theorem dX13_keep_9 : decode cX13_keep 9 = .ok (.ireturn, 1) := by decide +kernel
theorem dX13_keep_10 : decode cX13_keep 10 = .ok (.aload_n 0, 1) := by decide +kernel
theorem dX13_keep_11 : decode cX13_keep 11 = .ok (.getfield 21, 3) := by decide +kernel
theorem dX13_keep_14 : decode cX13_keep 14 = .ok (.iconst 0, 1) := by decide +kernel
theorem dX13_keep_15 : decode cX13_keep 15 = .ok (.aload_n 0, 1) := by decide +kernel
theorem dX13_keep_16 : decode cX13_keep 16 = .ok (.getfield 14, 3) := by decide +kernel
theorem dX13_keep_19 : decode cX13_keep 19 = .ok (.sipush 8192, 3) := by decide +kernel
theorem dX13_keep_22 : decode cX13_keep 22 = .ok (.iload_n 1, 1) := by decide +kernel
theorem dX13_keep_23 : decode cX13_keep 23 = .ok (.imul, 1) := by decide +kernel
theorem dX13_keep_24 : decode cX13_keep 24 = .ok (.aload_n 0, 1) := by decide +kernel
theorem dX13_keep_25 : decode cX13_keep 25 = .ok (.getfield 321, 3) := by decide +kernel
theorem dX13_keep_28 : decode cX13_keep 28 = .ok (.invokestatic 317, 3) := by decide +kernel
theorem dX13_keep_31 : decode cX13_keep 31 = .ok (.aload_n 0, 1) := by decide +kernel
theorem dX13_keep_32 : decode cX13_keep 32 = .ok (.getfield 17, 3) := by decide +kernel
theorem dX13_keep_35 : decode cX13_keep 35 = .ok (.iload_n 1, 1) := by decide +kernel
theorem dX13_keep_36 : decode cX13_keep 36 = .ok (.aload_n 0, 1) := by decide +kernel
theorem dX13_keep_37 : decode cX13_keep 37 = .ok (.getfield 321, 3) := by decide +kernel
theorem dX13_keep_40 : decode cX13_keep 40 = .ok (.iastore, 1) := by decide +kernel
theorem dX13_keep_41 : decode cX13_keep 41 = .ok (.aload_n 0, 1) := by decide +kernel
theorem dX13_keep_42 : decode cX13_keep 42 = .ok (.getfield 321, 3) := by decide +kernel
theorem dX13_keep_45 : decode cX13_keep 45 = .ok (.ireturn, 1) := by decide +kernel
abbrev rmX13_keep : Room := { frames := 1, cells := 0, slots := 0, locals := 25 }
def P_X13_keep (G : Nat → Nat) (F : Nat) (l0 : Nat) (l1 : Int32) (M : mM) : Option (Int32 × mM) :=
  bP (P_X13_isRow G F l1 M) fun v1 M1 =>
  if v1 = 0 then (some ((-2 : Int32), M1))
  else (bO (gfR M1 l0 13 4) fun v11 =>
  bO (gfR M1 l0 13 2) fun v16 =>
  bO (gfI M1 l0 13 5) fun v25 =>
  bO (P_X13_move G F v11 (0 : Int32) v16 ((8192 : Int32) * l1) v25 M1) fun M28 =>
  bO (gfR M28 l0 13 3) fun v32 =>
  bO (gfI M28 l0 13 5) fun v37 =>
  bO (sI M28 0 v32 l1 v37) fun M40 =>
  bO (gfI M40 l0 13 5) fun v42 =>
  some (v42, M40))
set_option maxHeartbeats 4000000 in
set_option maxRecDepth 100000 in
theorem wP_X13_keep {G : Nat → Nat} {F : Nat} {x : mXT} {sz : Nat} {r0 : Int32} {M0 : mM} (X : mCX G RX13 cX13_keep 2 (some .int) "keep" rmX13_keep x) (hQ : mQI x r0 M0 (sz, 0, 0)) {l0 : Nat} {l1 : Int32} {M : mM} (h : P_X13_keep G F l0 l1 M = some (r0, M0)) : WW x (sz, 0, 0) M 0 [(0, .ref l0), (1, .int l1)] [] := by
  unfold P_X13_keep at h
  refine ww_iload_n 0 X dX13_keep_0 1 rfl rfl ?_
  obtain ⟨v1, M1, e1, h⟩ := bP_some h
  refine ww_callSI0 1 X dX13_keep_1 mY_X13_isRow mL_X13_332 (As := [.int l1]) (rest := []) rfl rfl ⟨Nat.le_of_ble_eq_true rfl, Nat.le_of_ble_eq_true rfl⟩ (Nat.le_of_ble_eq_true rfl) (fun l D A => c_X13_isRow l D A e1) ?_
  refine ww_if_ne 4 10 X dX13_keep_4 (by decide) (fun q => ?_) (fun q => ?_)
  · replace h := (if_neg q).symm.trans h
    refine ww_aload_n 10 X dX13_keep_10 0 rfl rfl ?_
    obtain ⟨v11, e11, h⟩ := bO_some h
    refine ww_getR 11 X dX13_keep_11 fG_X13_21 e11 ?_
    refine ww_iconst 14 X (v := (0 : Int32)) dX13_keep_14 (by decide) ?_
    refine ww_aload_n 15 X dX13_keep_15 0 rfl rfl ?_
    obtain ⟨v16, e16, h⟩ := bO_some h
    refine ww_getR 16 X dX13_keep_16 fG_X13_14 e16 ?_
    refine ww_sipush 19 X (v := (8192 : Int32)) dX13_keep_19 (by decide) ?_
    refine ww_iload_n 22 X dX13_keep_22 1 rfl rfl ?_
    refine ww_imul 23 X dX13_keep_23 ?_
    refine ww_aload_n 24 X dX13_keep_24 0 rfl rfl ?_
    obtain ⟨v25, e25, h⟩ := bO_some h
    refine ww_getI 25 X dX13_keep_25 fG_X13_321 e25 ?_
    obtain ⟨M28, e28, h⟩ := bO_some h
    refine ww_callSV0 28 X dX13_keep_28 mY_X13_move mL_X13_317 (As := [.ref v11, .int (0 : Int32), .ref v16, .int ((8192 : Int32) * l1), .int v25]) (rest := []) rfl rfl ⟨Nat.le_of_ble_eq_true rfl, Nat.le_of_ble_eq_true rfl⟩ (Nat.le_of_ble_eq_true rfl) (fun l D A => c_X13_move l D A e28) ?_
    refine ww_aload_n 31 X dX13_keep_31 0 rfl rfl ?_
    obtain ⟨v32, e32, h⟩ := bO_some h
    refine ww_getR 32 X dX13_keep_32 fG_X13_17 e32 ?_
    refine ww_iload_n 35 X dX13_keep_35 1 rfl rfl ?_
    refine ww_aload_n 36 X dX13_keep_36 0 rfl rfl ?_
    obtain ⟨v37, e37, h⟩ := bO_some h
    refine ww_getI 37 X dX13_keep_37 fG_X13_321 e37 ?_
    obtain ⟨M40, e40, h⟩ := bO_some h
    refine ww_iast 40 X dX13_keep_40 e40 ?_
    refine ww_aload_n 41 X dX13_keep_41 0 rfl rfl ?_
    obtain ⟨v42, e42, h⟩ := bO_some h
    refine ww_getI 42 X dX13_keep_42 fG_X13_321 e42 ?_
    exact ww_iretE 45 X hQ dX13_keep_45 h
  · replace h := (if_pos q).symm.trans h
    refine ww_bipush 7 X (v := (-2 : Int32)) dX13_keep_7 (by decide) ?_
    exact ww_iretE 9 X hQ dX13_keep_9 h
theorem c_X13_keep {G : Nat → Nat} {F sz : Nat} {r0 : Int32} {M0 : mM} (l : Launch) (D : mD) (A : Nat → Prop) {l0 : Nat} {l1 : Int32} {M : mM} (h : P_X13_keep G F l0 l1 M = some (r0, M0)) : mMetI l D G A yX13_keep cX13_keep 2 (some .int) 1 25 0 0 [.ref l0, .int l1] M sz r0 M0 sz := mMetI_of l D G A (by decide) (Nat.le_of_ble_eq_true rfl) (fun x X hQ => wP_X13_keep X hQ h)
/-! SealedTokensModel.poke(III)I -/
theorem dX13_poke_0 : decode cX13_poke 0 = .ok (.iload_n 1, 1) := by decide +kernel
theorem dX13_poke_1 : decode cX13_poke 1 = .ok (.invokestatic 332, 3) := by decide +kernel
theorem dX13_poke_4 : decode cX13_poke 4 = .ok (.ifCond .eq 28, 3) := by decide +kernel
theorem dX13_poke_7 : decode cX13_poke 7 = .ok (.iload_n 2, 1) := by decide +kernel
theorem dX13_poke_8 : decode cX13_poke 8 = .ok (.ifCond .lt 24, 3) := by decide +kernel
theorem dX13_poke_11 : decode cX13_poke 11 = .ok (.iload_n 2, 1) := by decide +kernel
theorem dX13_poke_12 : decode cX13_poke 12 = .ok (.aload_n 0, 1) := by decide +kernel
theorem dX13_poke_13 : decode cX13_poke 13 = .ok (.getfield 17, 3) := by decide +kernel
theorem dX13_poke_16 : decode cX13_poke 16 = .ok (.iload_n 1, 1) := by decide +kernel
theorem dX13_poke_17 : decode cX13_poke 17 = .ok (.iaload, 1) := by decide +kernel
theorem dX13_poke_18 : decode cX13_poke 18 = .ok (.if_icmp .ge 14, 3) := by decide +kernel
theorem dX13_poke_21 : decode cX13_poke 21 = .ok (.iload_n 3, 1) := by decide +kernel
theorem dX13_poke_22 : decode cX13_poke 22 = .ok (.ifCond .lt 10, 3) := by decide +kernel
theorem dX13_poke_25 : decode cX13_poke 25 = .ok (.iload_n 3, 1) := by decide +kernel
theorem dX13_poke_26 : decode cX13_poke 26 = .ok (.sipush 255, 3) := by decide +kernel
theorem dX13_poke_29 : decode cX13_poke 29 = .ok (.if_icmp .le 6, 3) := by decide +kernel
theorem dX13_poke_32 : decode cX13_poke 32 = .ok (.bipush (-2), 2) := by decide +kernel
theorem dX13_poke_34 : decode cX13_poke 34 = .ok (.ireturn, 1) := by decide +kernel
theorem dX13_poke_35 : decode cX13_poke 35 = .ok (.aload_n 0, 1) := by decide +kernel
theorem dX13_poke_36 : decode cX13_poke 36 = .ok (.getfield 14, 3) := by decide +kernel
theorem dX13_poke_39 : decode cX13_poke 39 = .ok (.sipush 8192, 3) := by decide +kernel
theorem dX13_poke_42 : decode cX13_poke 42 = .ok (.iload_n 1, 1) := by decide +kernel
theorem dX13_poke_43 : decode cX13_poke 43 = .ok (.imul, 1) := by decide +kernel
theorem dX13_poke_44 : decode cX13_poke 44 = .ok (.iload_n 2, 1) := by decide +kernel
theorem dX13_poke_45 : decode cX13_poke 45 = .ok (.iadd, 1) := by decide +kernel
theorem dX13_poke_46 : decode cX13_poke 46 = .ok (.dup2, 1) := by decide +kernel
theorem dX13_poke_47 : decode cX13_poke 47 = .ok (.baload, 1) := by decide +kernel
theorem dX13_poke_48 : decode cX13_poke 48 = .ok (.iload_n 3, 1) := by decide +kernel
theorem dX13_poke_49 : decode cX13_poke 49 = .ok (.i2b, 1) := by decide +kernel
theorem dX13_poke_50 : decode cX13_poke 50 = .ok (.ixor, 1) := by decide +kernel
theorem dX13_poke_51 : decode cX13_poke 51 = .ok (.i2b, 1) := by decide +kernel
theorem dX13_poke_52 : decode cX13_poke 52 = .ok (.bastore, 1) := by decide +kernel
theorem dX13_poke_53 : decode cX13_poke 53 = .ok (.aload_n 0, 1) := by decide +kernel
theorem dX13_poke_54 : decode cX13_poke 54 = .ok (.getfield 14, 3) := by decide +kernel
theorem dX13_poke_57 : decode cX13_poke 57 = .ok (.sipush 8192, 3) := by decide +kernel
theorem dX13_poke_60 : decode cX13_poke 60 = .ok (.iload_n 1, 1) := by decide +kernel
theorem dX13_poke_61 : decode cX13_poke 61 = .ok (.imul, 1) := by decide +kernel
theorem dX13_poke_62 : decode cX13_poke 62 = .ok (.iload_n 2, 1) := by decide +kernel
theorem dX13_poke_63 : decode cX13_poke 63 = .ok (.iadd, 1) := by decide +kernel
theorem dX13_poke_64 : decode cX13_poke 64 = .ok (.baload, 1) := by decide +kernel
theorem dX13_poke_65 : decode cX13_poke 65 = .ok (.sipush 255, 3) := by decide +kernel
theorem dX13_poke_68 : decode cX13_poke 68 = .ok (.iand, 1) := by decide +kernel
theorem dX13_poke_69 : decode cX13_poke 69 = .ok (.ireturn, 1) := by decide +kernel
abbrev rmX13_poke : Room := { frames := 1, cells := 0, slots := 0, locals := 20 }
def P_X13_poke (G : Nat → Nat) (F : Nat) (l0 : Nat) (l1 : Int32) (l2 : Int32) (l3 : Int32) (M : mM) : Option (Int32 × mM) :=
  bP (P_X13_isRow G F l1 M) fun v1 M1 =>
  if v1 = 0 then (some ((-2 : Int32), M1))
  else (if l2 < 0 then (some ((-2 : Int32), M1))
  else (bO (gfR M1 l0 13 3) fun v13 =>
  bO (aI M1 0 v13 l1) fun v17 =>
  if v17 ≤ l2 then (some ((-2 : Int32), M1))
  else (if l3 < 0 then (some ((-2 : Int32), M1))
  else (if l3 ≤ (255 : Int32) then (bO (gfR M1 l0 13 2) fun v36 =>
  bO (aI M1 1 v36 (((8192 : Int32) * l1) + l2)) fun v47 =>
  bO (sI M1 1 v36 (((8192 : Int32) * l1) + l2) (((v47 ^^^ (l3.toInt8.toInt32)).toInt8.toInt32).toInt8.toInt32)) fun M52 =>
  bO (gfR M52 l0 13 2) fun v54 =>
  bO (aI M52 1 v54 (((8192 : Int32) * l1) + l2)) fun v64 =>
  some ((v64 &&& (255 : Int32)), M52))
  else (some ((-2 : Int32), M1))))))
set_option maxHeartbeats 4000000 in
set_option maxRecDepth 100000 in
theorem wP_X13_poke {G : Nat → Nat} {F : Nat} {x : mXT} {sz : Nat} {r0 : Int32} {M0 : mM} (X : mCX G RX13 cX13_poke 4 (some .int) "poke" rmX13_poke x) (hQ : mQI x r0 M0 (sz, 0, 0)) {l0 : Nat} {l1 : Int32} {l2 : Int32} {l3 : Int32} {M : mM} (h : P_X13_poke G F l0 l1 l2 l3 M = some (r0, M0)) : WW x (sz, 0, 0) M 0 [(0, .ref l0), (1, .int l1), (2, .int l2), (3, .int l3)] [] := by
  unfold P_X13_poke at h
  refine ww_iload_n 0 X dX13_poke_0 1 rfl rfl ?_
  obtain ⟨v1, M1, e1, h⟩ := bP_some h
  refine ww_callSI0 1 X dX13_poke_1 mY_X13_isRow mL_X13_332 (As := [.int l1]) (rest := []) rfl rfl ⟨Nat.le_of_ble_eq_true rfl, Nat.le_of_ble_eq_true rfl⟩ (Nat.le_of_ble_eq_true rfl) (fun l D A => c_X13_isRow l D A e1) ?_
  refine ww_if_eq 4 32 X dX13_poke_4 (by decide) (fun q => ?_) (fun q => ?_)
  · replace h := (if_pos q).symm.trans h
    refine ww_bipush 32 X (v := (-2 : Int32)) dX13_poke_32 (by decide) ?_
    exact ww_iretE 34 X hQ dX13_poke_34 h
  · replace h := (if_neg q).symm.trans h
    refine ww_iload_n 7 X dX13_poke_7 2 rfl rfl ?_
    refine ww_if_lt 8 32 X dX13_poke_8 (by decide) (fun q => ?_) (fun q => ?_)
    · replace h := (if_pos q).symm.trans h
      refine ww_bipush 32 X (v := (-2 : Int32)) dX13_poke_32 (by decide) ?_
      exact ww_iretE 34 X hQ dX13_poke_34 h
    · replace h := (if_neg q).symm.trans h
      refine ww_iload_n 11 X dX13_poke_11 2 rfl rfl ?_
      refine ww_aload_n 12 X dX13_poke_12 0 rfl rfl ?_
      obtain ⟨v13, e13, h⟩ := bO_some h
      refine ww_getR 13 X dX13_poke_13 fG_X13_17 e13 ?_
      refine ww_iload_n 16 X dX13_poke_16 1 rfl rfl ?_
      obtain ⟨v17, e17, h⟩ := bO_some h
      refine ww_iald 17 X dX13_poke_17 e17 ?_
      refine ww_icmp_ge 18 32 X dX13_poke_18 (by decide) (fun q => ?_) (fun q => ?_)
      · replace h := (if_pos q).symm.trans h
        refine ww_bipush 32 X (v := (-2 : Int32)) dX13_poke_32 (by decide) ?_
        exact ww_iretE 34 X hQ dX13_poke_34 h
      · replace h := (if_neg q).symm.trans h
        refine ww_iload_n 21 X dX13_poke_21 3 rfl rfl ?_
        refine ww_if_lt 22 32 X dX13_poke_22 (by decide) (fun q => ?_) (fun q => ?_)
        · replace h := (if_pos q).symm.trans h
          refine ww_bipush 32 X (v := (-2 : Int32)) dX13_poke_32 (by decide) ?_
          exact ww_iretE 34 X hQ dX13_poke_34 h
        · replace h := (if_neg q).symm.trans h
          refine ww_iload_n 25 X dX13_poke_25 3 rfl rfl ?_
          refine ww_sipush 26 X (v := (255 : Int32)) dX13_poke_26 (by decide) ?_
          refine ww_icmp_le 29 35 X dX13_poke_29 (by decide) (fun q => ?_) (fun q => ?_)
          · replace h := (if_pos q).symm.trans h
            refine ww_aload_n 35 X dX13_poke_35 0 rfl rfl ?_
            obtain ⟨v36, e36, h⟩ := bO_some h
            refine ww_getR 36 X dX13_poke_36 fG_X13_14 e36 ?_
            refine ww_sipush 39 X (v := (8192 : Int32)) dX13_poke_39 (by decide) ?_
            refine ww_iload_n 42 X dX13_poke_42 1 rfl rfl ?_
            refine ww_imul 43 X dX13_poke_43 ?_
            refine ww_iload_n 44 X dX13_poke_44 2 rfl rfl ?_
            refine ww_iadd 45 X dX13_poke_45 ?_
            refine ww_dup2_11 46 X dX13_poke_46 rfl rfl ?_
            obtain ⟨v47, e47, h⟩ := bO_some h
            refine ww_bald 47 X dX13_poke_47 e47 ?_
            refine ww_iload_n 48 X dX13_poke_48 3 rfl rfl ?_
            refine ww_i2b 49 X dX13_poke_49 ?_
            refine ww_ixor 50 X dX13_poke_50 ?_
            refine ww_i2b 51 X dX13_poke_51 ?_
            obtain ⟨M52, e52, h⟩ := bO_some h
            refine ww_bast 52 X dX13_poke_52 e52 ?_
            refine ww_aload_n 53 X dX13_poke_53 0 rfl rfl ?_
            obtain ⟨v54, e54, h⟩ := bO_some h
            refine ww_getR 54 X dX13_poke_54 fG_X13_14 e54 ?_
            refine ww_sipush 57 X (v := (8192 : Int32)) dX13_poke_57 (by decide) ?_
            refine ww_iload_n 60 X dX13_poke_60 1 rfl rfl ?_
            refine ww_imul 61 X dX13_poke_61 ?_
            refine ww_iload_n 62 X dX13_poke_62 2 rfl rfl ?_
            refine ww_iadd 63 X dX13_poke_63 ?_
            obtain ⟨v64, e64, h⟩ := bO_some h
            refine ww_bald 64 X dX13_poke_64 e64 ?_
            refine ww_sipush 65 X (v := (255 : Int32)) dX13_poke_65 (by decide) ?_
            refine ww_iand 68 X dX13_poke_68 ?_
            exact ww_iretE 69 X hQ dX13_poke_69 h
          · replace h := (if_neg q).symm.trans h
            refine ww_bipush 32 X (v := (-2 : Int32)) dX13_poke_32 (by decide) ?_
            exact ww_iretE 34 X hQ dX13_poke_34 h
theorem c_X13_poke {G : Nat → Nat} {F sz : Nat} {r0 : Int32} {M0 : mM} (l : Launch) (D : mD) (A : Nat → Prop) {l0 : Nat} {l1 : Int32} {l2 : Int32} {l3 : Int32} {M : mM} (h : P_X13_poke G F l0 l1 l2 l3 M = some (r0, M0)) : mMetI l D G A yX13_poke cX13_poke 4 (some .int) 1 20 0 0 [.ref l0, .int l1, .int l2, .int l3] M sz r0 M0 sz := mMetI_of l D G A (by decide) (Nat.le_of_ble_eq_true rfl) (fun x X hQ => wP_X13_poke X hQ h)
/-! SealedTokensModel.size(I)I -/
theorem dX13_size_0 : decode cX13_size 0 = .ok (.iload_n 1, 1) := by decide +kernel
theorem dX13_size_1 : decode cX13_size 1 = .ok (.iconst (-1), 1) := by decide +kernel
theorem dX13_size_2 : decode cX13_size 2 = .ok (.if_icmp .ne 10, 3) := by decide +kernel
theorem dX13_size_5 : decode cX13_size 5 = .ok (.aload_n 0, 1) := by decide +kernel
theorem dX13_size_6 : decode cX13_size 6 = .ok (.getfield 321, 3) := by decide +kernel
theorem dX13_size_9 : decode cX13_size 9 = .ok (.goto 21, 3) := by decide +kernel
theorem dX13_size_12 : decode cX13_size 12 = .ok (.iload_n 1, 1) := by decide +kernel
theorem dX13_size_13 : decode cX13_size 13 = .ok (.invokestatic 332, 3) := by decide +kernel
theorem dX13_size_16 : decode cX13_size 16 = .ok (.ifCond .eq 12, 3) := by decide +kernel
theorem dX13_size_19 : decode cX13_size 19 = .ok (.aload_n 0, 1) := by decide +kernel
theorem dX13_size_20 : decode cX13_size 20 = .ok (.getfield 17, 3) := by decide +kernel
theorem dX13_size_23 : decode cX13_size 23 = .ok (.iload_n 1, 1) := by decide +kernel
theorem dX13_size_24 : decode cX13_size 24 = .ok (.iaload, 1) := by decide +kernel
theorem dX13_size_25 : decode cX13_size 25 = .ok (.goto 5, 3) := by decide +kernel
theorem dX13_size_28 : decode cX13_size 28 = .ok (.bipush (-2), 2) := by decide +kernel
theorem dX13_size_30 : decode cX13_size 30 = .ok (.ireturn, 1) := by decide +kernel
abbrev rmX13_size : Room := { frames := 1, cells := 0, slots := 0, locals := 20 }
def P_X13_size (G : Nat → Nat) (F : Nat) (l0 : Nat) (l1 : Int32) (M : mM) : Option (Int32 × mM) :=
  if l1 = (-1 : Int32) then (bO (gfI M l0 13 5) fun v6 =>
  some (v6, M))
  else (bP (P_X13_isRow G F l1 M) fun v13 M13 =>
  if v13 = 0 then (some ((-2 : Int32), M13))
  else (bO (gfR M13 l0 13 3) fun v20 =>
  bO (aI M13 0 v20 l1) fun v24 =>
  some (v24, M13)))
set_option maxHeartbeats 4000000 in
set_option maxRecDepth 100000 in
theorem wP_X13_size {G : Nat → Nat} {F : Nat} {x : mXT} {sz : Nat} {r0 : Int32} {M0 : mM} (X : mCX G RX13 cX13_size 2 (some .int) "size" rmX13_size x) (hQ : mQI x r0 M0 (sz, 0, 0)) {l0 : Nat} {l1 : Int32} {M : mM} (h : P_X13_size G F l0 l1 M = some (r0, M0)) : WW x (sz, 0, 0) M 0 [(0, .ref l0), (1, .int l1)] [] := by
  unfold P_X13_size at h
  refine ww_iload_n 0 X dX13_size_0 1 rfl rfl ?_
  refine ww_iconst 1 X (v := (-1 : Int32)) dX13_size_1 (by decide) ?_
  refine ww_icmp_ne 2 12 X dX13_size_2 (by decide) (fun q => ?_) (fun q => ?_)
  · replace h := (if_neg q).symm.trans h
    refine ww_iload_n 12 X dX13_size_12 1 rfl rfl ?_
    obtain ⟨v13, M13, e13, h⟩ := bP_some h
    refine ww_callSI0 13 X dX13_size_13 mY_X13_isRow mL_X13_332 (As := [.int l1]) (rest := []) rfl rfl ⟨Nat.le_of_ble_eq_true rfl, Nat.le_of_ble_eq_true rfl⟩ (Nat.le_of_ble_eq_true rfl) (fun l D A => c_X13_isRow l D A e13) ?_
    refine ww_if_eq 16 28 X dX13_size_16 (by decide) (fun q => ?_) (fun q => ?_)
    · replace h := (if_pos q).symm.trans h
      refine ww_bipush 28 X (v := (-2 : Int32)) dX13_size_28 (by decide) ?_
      exact ww_iretE 30 X hQ dX13_size_30 h
    · replace h := (if_neg q).symm.trans h
      refine ww_aload_n 19 X dX13_size_19 0 rfl rfl ?_
      obtain ⟨v20, e20, h⟩ := bO_some h
      refine ww_getR 20 X dX13_size_20 fG_X13_17 e20 ?_
      refine ww_iload_n 23 X dX13_size_23 1 rfl rfl ?_
      obtain ⟨v24, e24, h⟩ := bO_some h
      refine ww_iald 24 X dX13_size_24 e24 ?_
      refine ww_goto 25 30 X dX13_size_25 (by decide) ?_
      exact ww_iretE 30 X hQ dX13_size_30 h
  · replace h := (if_pos q).symm.trans h
    refine ww_aload_n 5 X dX13_size_5 0 rfl rfl ?_
    obtain ⟨v6, e6, h⟩ := bO_some h
    refine ww_getI 6 X dX13_size_6 fG_X13_321 e6 ?_
    refine ww_goto 9 30 X dX13_size_9 (by decide) ?_
    exact ww_iretE 30 X hQ dX13_size_30 h
theorem c_X13_size {G : Nat → Nat} {F sz : Nat} {r0 : Int32} {M0 : mM} (l : Launch) (D : mD) (A : Nat → Prop) {l0 : Nat} {l1 : Int32} {M : mM} (h : P_X13_size G F l0 l1 M = some (r0, M0)) : mMetI l D G A yX13_size cX13_size 2 (some .int) 1 20 0 0 [.ref l0, .int l1] M sz r0 M0 sz := mMetI_of l D G A (by decide) (Nat.le_of_ble_eq_true rfl) (fun x X hQ => wP_X13_size X hQ h)
/-! SealedTokensModel.out(I)I -/
theorem dX13_out_0 : decode cX13_out 0 = .ok (.iload_n 1, 1) := by decide +kernel
theorem dX13_out_1 : decode cX13_out 1 = .ok (.ifCond .lt 11, 3) := by decide +kernel
theorem dX13_out_4 : decode cX13_out 4 = .ok (.iload_n 1, 1) := by decide +kernel
theorem dX13_out_5 : decode cX13_out 5 = .ok (.aload_n 0, 1) := by decide +kernel
theorem dX13_out_6 : decode cX13_out 6 = .ok (.getfield 321, 3) := by decide +kernel
theorem dX13_out_9 : decode cX13_out 9 = .ok (.if_icmp .lt 7, 3) := by decide +kernel
theorem dX13_out_12 : decode cX13_out 12 = .ok (.iconst (-1), 1) := by decide +kernel
theorem dX13_out_13 : decode cX13_out 13 = .ok (.goto 13, 3) := by decide +kernel
theorem dX13_out_16 : decode cX13_out 16 = .ok (.aload_n 0, 1) := by decide +kernel
theorem dX13_out_17 : decode cX13_out 17 = .ok (.getfield 21, 3) := by decide +kernel
theorem dX13_out_20 : decode cX13_out 20 = .ok (.iload_n 1, 1) := by decide +kernel
theorem dX13_out_21 : decode cX13_out 21 = .ok (.baload, 1) := by decide +kernel
theorem dX13_out_22 : decode cX13_out 22 = .ok (.sipush 255, 3) := by decide +kernel
theorem dX13_out_25 : decode cX13_out 25 = .ok (.iand, 1) := by decide +kernel
theorem dX13_out_26 : decode cX13_out 26 = .ok (.ireturn, 1) := by decide +kernel
abbrev rmX13_out : Room := { frames := 0, cells := 0, slots := 0, locals := 0 }
def P_X13_out (G : Nat → Nat) (F : Nat) (l0 : Nat) (l1 : Int32) (M : mM) : Option (Int32 × mM) :=
  if l1 < 0 then (some ((-1 : Int32), M))
  else (bO (gfI M l0 13 5) fun v6 =>
  if l1 < v6 then (bO (gfR M l0 13 4) fun v17 =>
  bO (aI M 1 v17 l1) fun v21 =>
  some ((v21 &&& (255 : Int32)), M))
  else (some ((-1 : Int32), M)))
set_option maxHeartbeats 4000000 in
set_option maxRecDepth 100000 in
theorem wP_X13_out {G : Nat → Nat} {F : Nat} {x : mXT} {sz : Nat} {r0 : Int32} {M0 : mM} (X : mCX G RX13 cX13_out 2 (some .int) "out" rmX13_out x) (hQ : mQI x r0 M0 (sz, 0, 0)) {l0 : Nat} {l1 : Int32} {M : mM} (h : P_X13_out G F l0 l1 M = some (r0, M0)) : WW x (sz, 0, 0) M 0 [(0, .ref l0), (1, .int l1)] [] := by
  unfold P_X13_out at h
  refine ww_iload_n 0 X dX13_out_0 1 rfl rfl ?_
  refine ww_if_lt 1 12 X dX13_out_1 (by decide) (fun q => ?_) (fun q => ?_)
  · replace h := (if_pos q).symm.trans h
    refine ww_iconst 12 X (v := (-1 : Int32)) dX13_out_12 (by decide) ?_
    refine ww_goto 13 26 X dX13_out_13 (by decide) ?_
    exact ww_iretE 26 X hQ dX13_out_26 h
  · replace h := (if_neg q).symm.trans h
    refine ww_iload_n 4 X dX13_out_4 1 rfl rfl ?_
    refine ww_aload_n 5 X dX13_out_5 0 rfl rfl ?_
    obtain ⟨v6, e6, h⟩ := bO_some h
    refine ww_getI 6 X dX13_out_6 fG_X13_321 e6 ?_
    refine ww_icmp_lt 9 16 X dX13_out_9 (by decide) (fun q => ?_) (fun q => ?_)
    · replace h := (if_pos q).symm.trans h
      refine ww_aload_n 16 X dX13_out_16 0 rfl rfl ?_
      obtain ⟨v17, e17, h⟩ := bO_some h
      refine ww_getR 17 X dX13_out_17 fG_X13_21 e17 ?_
      refine ww_iload_n 20 X dX13_out_20 1 rfl rfl ?_
      obtain ⟨v21, e21, h⟩ := bO_some h
      refine ww_bald 21 X dX13_out_21 e21 ?_
      refine ww_sipush 22 X (v := (255 : Int32)) dX13_out_22 (by decide) ?_
      refine ww_iand 25 X dX13_out_25 ?_
      exact ww_iretE 26 X hQ dX13_out_26 h
    · replace h := (if_neg q).symm.trans h
      refine ww_iconst 12 X (v := (-1 : Int32)) dX13_out_12 (by decide) ?_
      refine ww_goto 13 26 X dX13_out_13 (by decide) ?_
      exact ww_iretE 26 X hQ dX13_out_26 h
theorem c_X13_out {G : Nat → Nat} {F sz : Nat} {r0 : Int32} {M0 : mM} (l : Launch) (D : mD) (A : Nat → Prop) {l0 : Nat} {l1 : Int32} {M : mM} (h : P_X13_out G F l0 l1 M = some (r0, M0)) : mMetI l D G A yX13_out cX13_out 2 (some .int) 0 0 0 0 [.ref l0, .int l1] M sz r0 M0 sz := mMetI_of l D G A (by decide) (Nat.le_of_ble_eq_true rfl) (fun x X hQ => wP_X13_out X hQ h)
/-! SealedTokensModel.at()I -/
theorem dX13_at_0 : decode cX13_at 0 = .ok (.aload_n 0, 1) := by decide +kernel
theorem dX13_at_1 : decode cX13_at 1 = .ok (.getfield 336, 3) := by decide +kernel
theorem dX13_at_4 : decode cX13_at 4 = .ok (.aload_n 0, 1) := by decide +kernel
theorem dX13_at_5 : decode cX13_at 5 = .ok (.getfield 339, 3) := by decide +kernel
theorem dX13_at_8 : decode cX13_at 8 = .ok (.if_icmp .ge 24, 3) := by decide +kernel
theorem dX13_at_11 : decode cX13_at 11 = .ok (.aload_n 0, 1) := by decide +kernel
theorem dX13_at_12 : decode cX13_at 12 = .ok (.getfield 342, 3) := by decide +kernel
theorem dX13_at_15 : decode cX13_at 15 = .ok (.aload_n 0, 1) := by decide +kernel
theorem dX13_at_16 : decode cX13_at 16 = .ok (.getfield 345, 3) := by decide +kernel
theorem dX13_at_19 : decode cX13_at 19 = .ok (.aload_n 0, 1) := by decide +kernel
theorem dX13_at_20 : decode cX13_at 20 = .ok (.getfield 336, 3) := by decide +kernel
theorem dX13_at_23 : decode cX13_at 23 = .ok (.iadd, 1) := by decide +kernel
theorem dX13_at_24 : decode cX13_at 24 = .ok (.baload, 1) := by decide +kernel
theorem dX13_at_25 : decode cX13_at 25 = .ok (.sipush 255, 3) := by decide +kernel
theorem dX13_at_28 : decode cX13_at 28 = .ok (.iand, 1) := by decide +kernel
theorem dX13_at_29 : decode cX13_at 29 = .ok (.goto 4, 3) := by decide +kernel
theorem dX13_at_32 : decode cX13_at 32 = .ok (.iconst (-1), 1) := by decide +kernel
theorem dX13_at_33 : decode cX13_at 33 = .ok (.ireturn, 1) := by decide +kernel
abbrev rmX13_at : Room := { frames := 0, cells := 0, slots := 0, locals := 0 }
def P_X13_at (G : Nat → Nat) (F : Nat) (l0 : Nat) (M : mM) : Option (Int32 × mM) :=
  bO (gfI M l0 13 22) fun v1 =>
  bO (gfI M l0 13 21) fun v5 =>
  if v5 ≤ v1 then (some ((-1 : Int32), M))
  else (bO (gfR M l0 13 19) fun v12 =>
  bO (gfI M l0 13 20) fun v16 =>
  bO (gfI M l0 13 22) fun v20 =>
  bO (aI M 1 v12 (v16 + v20)) fun v24 =>
  some ((v24 &&& (255 : Int32)), M))
set_option maxHeartbeats 4000000 in
set_option maxRecDepth 100000 in
theorem wP_X13_at {G : Nat → Nat} {F : Nat} {x : mXT} {sz : Nat} {r0 : Int32} {M0 : mM} (X : mCX G RX13 cX13_at 1 (some .int) "at" rmX13_at x) (hQ : mQI x r0 M0 (sz, 0, 0)) {l0 : Nat} {M : mM} (h : P_X13_at G F l0 M = some (r0, M0)) : WW x (sz, 0, 0) M 0 [(0, .ref l0)] [] := by
  unfold P_X13_at at h
  refine ww_aload_n 0 X dX13_at_0 0 rfl rfl ?_
  obtain ⟨v1, e1, h⟩ := bO_some h
  refine ww_getI 1 X dX13_at_1 fG_X13_336 e1 ?_
  refine ww_aload_n 4 X dX13_at_4 0 rfl rfl ?_
  obtain ⟨v5, e5, h⟩ := bO_some h
  refine ww_getI 5 X dX13_at_5 fG_X13_339 e5 ?_
  refine ww_icmp_ge 8 32 X dX13_at_8 (by decide) (fun q => ?_) (fun q => ?_)
  · replace h := (if_pos q).symm.trans h
    refine ww_iconst 32 X (v := (-1 : Int32)) dX13_at_32 (by decide) ?_
    exact ww_iretE 33 X hQ dX13_at_33 h
  · replace h := (if_neg q).symm.trans h
    refine ww_aload_n 11 X dX13_at_11 0 rfl rfl ?_
    obtain ⟨v12, e12, h⟩ := bO_some h
    refine ww_getR 12 X dX13_at_12 fG_X13_342 e12 ?_
    refine ww_aload_n 15 X dX13_at_15 0 rfl rfl ?_
    obtain ⟨v16, e16, h⟩ := bO_some h
    refine ww_getI 16 X dX13_at_16 fG_X13_345 e16 ?_
    refine ww_aload_n 19 X dX13_at_19 0 rfl rfl ?_
    obtain ⟨v20, e20, h⟩ := bO_some h
    refine ww_getI 20 X dX13_at_20 fG_X13_336 e20 ?_
    refine ww_iadd 23 X dX13_at_23 ?_
    obtain ⟨v24, e24, h⟩ := bO_some h
    refine ww_bald 24 X dX13_at_24 e24 ?_
    refine ww_sipush 25 X (v := (255 : Int32)) dX13_at_25 (by decide) ?_
    refine ww_iand 28 X dX13_at_28 ?_
    refine ww_goto 29 33 X dX13_at_29 (by decide) ?_
    exact ww_iretE 33 X hQ dX13_at_33 h
theorem c_X13_at {G : Nat → Nat} {F sz : Nat} {r0 : Int32} {M0 : mM} (l : Launch) (D : mD) (A : Nat → Prop) {l0 : Nat} {M : mM} (h : P_X13_at G F l0 M = some (r0, M0)) : mMetI l D G A yX13_at cX13_at 1 (some .int) 0 0 0 0 [.ref l0] M sz r0 M0 sz := mMetI_of l D G A (by decide) (Nat.le_of_ble_eq_true rfl) (fun x X hQ => wP_X13_at X hQ h)
/-! SealedTokensModel.fail(I)V -/
theorem dX13_fail_0 : decode cX13_fail 0 = .ok (.aload_n 0, 1) := by decide +kernel
theorem dX13_fail_1 : decode cX13_fail 1 = .ok (.aload_n 0, 1) := by decide +kernel
theorem dX13_fail_2 : decode cX13_fail 2 = .ok (.getfield 348, 3) := by decide +kernel
theorem dX13_fail_5 : decode cX13_fail 5 = .ok (.ifCond .ge 7, 3) := by decide +kernel
theorem dX13_fail_8 : decode cX13_fail 8 = .ok (.iload_n 1, 1) := by decide +kernel
theorem dX13_fail_9 : decode cX13_fail 9 = .ok (.goto 7, 3) := by decide +kernel
theorem dX13_fail_12 : decode cX13_fail 12 = .ok (.aload_n 0, 1) := by decide +kernel
theorem dX13_fail_13 : decode cX13_fail 13 = .ok (.getfield 348, 3) := by decide +kernel
theorem dX13_fail_16 : decode cX13_fail 16 = .ok (.putfield 348, 3) := by decide +kernel
theorem dX13_fail_19 : decode cX13_fail 19 = .ok (.return_, 1) := by decide +kernel
abbrev rmX13_fail : Room := { frames := 0, cells := 0, slots := 0, locals := 0 }
def P_X13_fail (G : Nat → Nat) (F : Nat) (l0 : Nat) (l1 : Int32) (M : mM) : Option mM :=
  bO (gfI M l0 13 23) fun v2 =>
  if 0 ≤ v2 then (bO (gfI M l0 13 23) fun v13 =>
  bO (pfv M l0 13 23 (.int v13)) fun M16 =>
  some M16)
  else (bO (pfv M l0 13 23 (.int l1)) fun M16 =>
  some M16)
set_option maxHeartbeats 4000000 in
set_option maxRecDepth 100000 in
theorem wP_X13_fail {G : Nat → Nat} {F : Nat} {x : mXT} {sz : Nat} {M0 : mM} (X : mCX G RX13 cX13_fail 2 none "fail" rmX13_fail x) (hQ : mQV x M0 (sz, 0, 0)) {l0 : Nat} {l1 : Int32} {M : mM} (h : P_X13_fail G F l0 l1 M = some M0) : WW x (sz, 0, 0) M 0 [(0, .ref l0), (1, .int l1)] [] := by
  unfold P_X13_fail at h
  refine ww_aload_n 0 X dX13_fail_0 0 rfl rfl ?_
  refine ww_aload_n 1 X dX13_fail_1 0 rfl rfl ?_
  obtain ⟨v2, e2, h⟩ := bO_some h
  refine ww_getI 2 X dX13_fail_2 fG_X13_348 e2 ?_
  refine ww_if_ge 5 12 X dX13_fail_5 (by decide) (fun q => ?_) (fun q => ?_)
  · replace h := (if_pos q).symm.trans h
    refine ww_aload_n 12 X dX13_fail_12 0 rfl rfl ?_
    obtain ⟨v13, e13, h⟩ := bO_some h
    refine ww_getI 13 X dX13_fail_13 fG_X13_348 e13 ?_
    obtain ⟨M16, e16, h⟩ := bO_some h
    refine ww_putI 16 X dX13_fail_16 (fP_X13_348 _) e16 ?_
    exact ww_vretE 19 X hQ dX13_fail_19 h
  · replace h := (if_neg q).symm.trans h
    refine ww_iload_n 8 X dX13_fail_8 1 rfl rfl ?_
    refine ww_goto 9 16 X dX13_fail_9 (by decide) ?_
    obtain ⟨M16, e16, h⟩ := bO_some h
    refine ww_putI 16 X dX13_fail_16 (fP_X13_348 _) e16 ?_
    exact ww_vretE 19 X hQ dX13_fail_19 h
theorem c_X13_fail {G : Nat → Nat} {F sz : Nat} {M0 : mM} (l : Launch) (D : mD) (A : Nat → Prop) {l0 : Nat} {l1 : Int32} {M : mM} (h : P_X13_fail G F l0 l1 M = some M0) : mMetV l D G A yX13_fail cX13_fail 2 none 0 0 0 0 [.ref l0, .int l1] M sz M0 sz := mMetV_of l D G A (by decide) (Nat.le_of_ble_eq_true rfl) (fun x X hQ => wP_X13_fail X hQ h)
/-! SealedTokensModel.good()Z -/
theorem dX13_good_0 : decode cX13_good 0 = .ok (.aload_n 0, 1) := by decide +kernel
theorem dX13_good_1 : decode cX13_good 1 = .ok (.getfield 348, 3) := by decide +kernel
theorem dX13_good_4 : decode cX13_good 4 = .ok (.ifCond .ge 7, 3) := by decide +kernel
theorem dX13_good_7 : decode cX13_good 7 = .ok (.iconst 1, 1) := by decide +kernel
theorem dX13_good_8 : decode cX13_good 8 = .ok (.goto 4, 3) := by decide +kernel
theorem dX13_good_11 : decode cX13_good 11 = .ok (.iconst 0, 1) := by decide +kernel
theorem dX13_good_12 : decode cX13_good 12 = .ok (.ireturn, 1) := by decide +kernel
abbrev rmX13_good : Room := { frames := 0, cells := 0, slots := 0, locals := 0 }
def P_X13_good (G : Nat → Nat) (F : Nat) (l0 : Nat) (M : mM) : Option (Int32 × mM) :=
  bO (gfI M l0 13 23) fun v1 =>
  if 0 ≤ v1 then (retZ (0 : Int32) M)
  else (retZ (1 : Int32) M)
set_option maxHeartbeats 4000000 in
set_option maxRecDepth 100000 in
theorem wP_X13_good {G : Nat → Nat} {F : Nat} {x : mXT} {sz : Nat} {r0 : Int32} {M0 : mM} (X : mCX G RX13 cX13_good 1 (some .boolean) "good" rmX13_good x) (hQ : mQI x r0 M0 (sz, 0, 0)) {l0 : Nat} {M : mM} (h : P_X13_good G F l0 M = some (r0, M0)) : WW x (sz, 0, 0) M 0 [(0, .ref l0)] [] := by
  unfold P_X13_good at h
  refine ww_aload_n 0 X dX13_good_0 0 rfl rfl ?_
  obtain ⟨v1, e1, h⟩ := bO_some h
  refine ww_getI 1 X dX13_good_1 fG_X13_348 e1 ?_
  refine ww_if_ge 4 11 X dX13_good_4 (by decide) (fun q => ?_) (fun q => ?_)
  · replace h := (if_pos q).symm.trans h
    refine ww_iconst 11 X (v := (0 : Int32)) dX13_good_11 (by decide) ?_
    exact ww_zretE 12 X hQ dX13_good_12 h
  · replace h := (if_neg q).symm.trans h
    refine ww_iconst 7 X (v := (1 : Int32)) dX13_good_7 (by decide) ?_
    refine ww_goto 8 12 X dX13_good_8 (by decide) ?_
    exact ww_zretE 12 X hQ dX13_good_12 h
theorem c_X13_good {G : Nat → Nat} {F sz : Nat} {r0 : Int32} {M0 : mM} (l : Launch) (D : mD) (A : Nat → Prop) {l0 : Nat} {M : mM} (h : P_X13_good G F l0 M = some (r0, M0)) : mMetI l D G A yX13_good cX13_good 1 (some .boolean) 0 0 0 0 [.ref l0] M sz r0 M0 sz := mMetI_of l D G A (by decide) (Nat.le_of_ble_eq_true rfl) (fun x X hQ => wP_X13_good X hQ h)
/-! SealedTokensModel.blanks()V -/
theorem dX13_blanks_0 : decode cX13_blanks 0 = .ok (.aload_n 0, 1) := by decide +kernel
theorem dX13_blanks_1 : decode cX13_blanks 1 = .ok (.invokevirtual 351, 3) := by decide +kernel
theorem dX13_blanks_4 : decode cX13_blanks 4 = .ok (.bipush 32, 2) := by decide +kernel
theorem dX13_blanks_6 : decode cX13_blanks 6 = .ok (.if_icmp .eq 30, 3) := by decide +kernel
theorem dX13_blanks_9 : decode cX13_blanks 9 = .ok (.aload_n 0, 1) := by decide +kernel
theorem dX13_blanks_10 : decode cX13_blanks 10 = .ok (.invokevirtual 351, 3) := by decide +kernel
theorem dX13_blanks_13 : decode cX13_blanks 13 = .ok (.bipush 9, 2) := by decide +kernel
theorem dX13_blanks_15 : decode cX13_blanks 15 = .ok (.if_icmp .eq 21, 3) := by decide +kernel
theorem dX13_blanks_18 : decode cX13_blanks 18 = .ok (.aload_n 0, 1) := by decide +kernel
theorem dX13_blanks_19 : decode cX13_blanks 19 = .ok (.invokevirtual 351, 3) := by decide +kernel
theorem dX13_blanks_22 : decode cX13_blanks 22 = .ok (.bipush 10, 2) := by decide +kernel
theorem dX13_blanks_24 : decode cX13_blanks 24 = .ok (.if_icmp .eq 12, 3) := by decide +kernel
theorem dX13_blanks_27 : decode cX13_blanks 27 = .ok (.aload_n 0, 1) := by decide +kernel
theorem dX13_blanks_28 : decode cX13_blanks 28 = .ok (.invokevirtual 351, 3) := by decide +kernel
theorem dX13_blanks_31 : decode cX13_blanks 31 = .ok (.bipush 13, 2) := by decide +kernel
theorem dX13_blanks_33 : decode cX13_blanks 33 = .ok (.if_icmp .ne 16, 3) := by decide +kernel
theorem dX13_blanks_36 : decode cX13_blanks 36 = .ok (.aload_n 0, 1) := by decide +kernel
theorem dX13_blanks_37 : decode cX13_blanks 37 = .ok (.dup, 1) := by decide +kernel
theorem dX13_blanks_38 : decode cX13_blanks 38 = .ok (.getfield 336, 3) := by decide +kernel
theorem dX13_blanks_41 : decode cX13_blanks 41 = .ok (.iconst 1, 1) := by decide +kernel
theorem dX13_blanks_42 : decode cX13_blanks 42 = .ok (.iadd, 1) := by decide +kernel
theorem dX13_blanks_43 : decode cX13_blanks 43 = .ok (.putfield 336, 3) := by decide +kernel
theorem dX13_blanks_46 : decode cX13_blanks 46 = .ok (.goto (-46), 3) := by decide +kernel
theorem dX13_blanks_49 : decode cX13_blanks 49 = .ok (.return_, 1) := by decide +kernel
abbrev rmX13_blanks : Room := { frames := 1, cells := 0, slots := 0, locals := 20 }
def B_X13_blanks_0 (G : Nat → Nat) (F : Nat) : Nat → Nat → mM → Option mM
  | 0, _, _ => none
  | n + 1, l0, M =>
  bO (rcv M l0 13) fun _ =>
  bP (P_X13_at G F l0 M) fun v1 M1 =>
  if v1 = (32 : Int32) then (bO (gfI M1 l0 13 22) fun v38 =>
  bO (pfv M1 l0 13 22 (.int (v38 + (1 : Int32)))) fun M43 =>
  B_X13_blanks_0 G F n l0 M43)
  else (bO (rcv M1 l0 13) fun _ =>
  bP (P_X13_at G F l0 M1) fun v10 M10 =>
  if v10 = (9 : Int32) then (bO (gfI M10 l0 13 22) fun v38 =>
  bO (pfv M10 l0 13 22 (.int (v38 + (1 : Int32)))) fun M43 =>
  B_X13_blanks_0 G F n l0 M43)
  else (bO (rcv M10 l0 13) fun _ =>
  bP (P_X13_at G F l0 M10) fun v19 M19 =>
  if v19 = (10 : Int32) then (bO (gfI M19 l0 13 22) fun v38 =>
  bO (pfv M19 l0 13 22 (.int (v38 + (1 : Int32)))) fun M43 =>
  B_X13_blanks_0 G F n l0 M43)
  else (bO (rcv M19 l0 13) fun _ =>
  bP (P_X13_at G F l0 M19) fun v28 M28 =>
  if v28 = (13 : Int32) then (bO (gfI M28 l0 13 22) fun v38 =>
  bO (pfv M28 l0 13 22 (.int (v38 + (1 : Int32)))) fun M43 =>
  B_X13_blanks_0 G F n l0 M43)
  else (some M28))))
set_option maxHeartbeats 4000000 in
set_option maxRecDepth 100000 in
theorem wB_X13_blanks_0 {G : Nat → Nat} {F : Nat} {x : mXT} {sz : Nat} {M0 : mM} (X : mCX G RX13 cX13_blanks 1 none "blanks" rmX13_blanks x) (hQ : mQV x M0 (sz, 0, 0)) : ∀ (n : Nat) (l0 : Nat) (M : mM), B_X13_blanks_0 G F n l0 M = some M0 → WW x (sz, 0, 0) M 0 [(0, .ref l0)] [] := by
  intro n
  induction n with
  | zero =>
    intro l0 M h
    exact nomatch (show (none : Option mM) = some M0 from h)
  | succ n ih =>
    intro l0 M h
    rw [B_X13_blanks_0] at h
    refine ww_aload_n 0 X dX13_blanks_0 0 rfl rfl ?_
    obtain ⟨_, f1, h⟩ := bO_some h
    obtain ⟨v1, M1, e1, h⟩ := bP_some h
    refine ww_callVI0 1 X dX13_blanks_1 mY_X13_at mL_X13_351 (rcv_spec f1) ⟨_, _, rfl⟩ (by decide) (As := []) (rest := []) rfl rfl ⟨Nat.le_of_ble_eq_true rfl, Nat.le_of_ble_eq_true rfl⟩ (Nat.le_of_ble_eq_true rfl) (fun l D A => c_X13_at l D A e1) ?_
    refine ww_bipush 4 X (v := (32 : Int32)) dX13_blanks_4 (by decide) ?_
    refine ww_icmp_eq 6 36 X dX13_blanks_6 (by decide) (fun q => ?_) (fun q => ?_)
    · replace h := (if_pos q).symm.trans h
      refine ww_aload_n 36 X dX13_blanks_36 0 rfl rfl ?_
      refine ww_dup 37 X dX13_blanks_37 rfl ?_
      obtain ⟨v38, e38, h⟩ := bO_some h
      refine ww_getI 38 X dX13_blanks_38 fG_X13_336 e38 ?_
      refine ww_iconst 41 X (v := (1 : Int32)) dX13_blanks_41 (by decide) ?_
      refine ww_iadd 42 X dX13_blanks_42 ?_
      obtain ⟨M43, e43, h⟩ := bO_some h
      refine ww_putI 43 X dX13_blanks_43 (fP_X13_336 _) e43 ?_
      refine ww_goto 46 0 X dX13_blanks_46 (by decide) ?_
      exact (ih _ _ h)
    · replace h := (if_neg q).symm.trans h
      refine ww_aload_n 9 X dX13_blanks_9 0 rfl rfl ?_
      obtain ⟨_, f10, h⟩ := bO_some h
      obtain ⟨v10, M10, e10, h⟩ := bP_some h
      refine ww_callVI0 10 X dX13_blanks_10 mY_X13_at mL_X13_351 (rcv_spec f10) ⟨_, _, rfl⟩ (by decide) (As := []) (rest := []) rfl rfl ⟨Nat.le_of_ble_eq_true rfl, Nat.le_of_ble_eq_true rfl⟩ (Nat.le_of_ble_eq_true rfl) (fun l D A => c_X13_at l D A e10) ?_
      refine ww_bipush 13 X (v := (9 : Int32)) dX13_blanks_13 (by decide) ?_
      refine ww_icmp_eq 15 36 X dX13_blanks_15 (by decide) (fun q => ?_) (fun q => ?_)
      · replace h := (if_pos q).symm.trans h
        refine ww_aload_n 36 X dX13_blanks_36 0 rfl rfl ?_
        refine ww_dup 37 X dX13_blanks_37 rfl ?_
        obtain ⟨v38, e38, h⟩ := bO_some h
        refine ww_getI 38 X dX13_blanks_38 fG_X13_336 e38 ?_
        refine ww_iconst 41 X (v := (1 : Int32)) dX13_blanks_41 (by decide) ?_
        refine ww_iadd 42 X dX13_blanks_42 ?_
        obtain ⟨M43, e43, h⟩ := bO_some h
        refine ww_putI 43 X dX13_blanks_43 (fP_X13_336 _) e43 ?_
        refine ww_goto 46 0 X dX13_blanks_46 (by decide) ?_
        exact (ih _ _ h)
      · replace h := (if_neg q).symm.trans h
        refine ww_aload_n 18 X dX13_blanks_18 0 rfl rfl ?_
        obtain ⟨_, f19, h⟩ := bO_some h
        obtain ⟨v19, M19, e19, h⟩ := bP_some h
        refine ww_callVI0 19 X dX13_blanks_19 mY_X13_at mL_X13_351 (rcv_spec f19) ⟨_, _, rfl⟩ (by decide) (As := []) (rest := []) rfl rfl ⟨Nat.le_of_ble_eq_true rfl, Nat.le_of_ble_eq_true rfl⟩ (Nat.le_of_ble_eq_true rfl) (fun l D A => c_X13_at l D A e19) ?_
        refine ww_bipush 22 X (v := (10 : Int32)) dX13_blanks_22 (by decide) ?_
        refine ww_icmp_eq 24 36 X dX13_blanks_24 (by decide) (fun q => ?_) (fun q => ?_)
        · replace h := (if_pos q).symm.trans h
          refine ww_aload_n 36 X dX13_blanks_36 0 rfl rfl ?_
          refine ww_dup 37 X dX13_blanks_37 rfl ?_
          obtain ⟨v38, e38, h⟩ := bO_some h
          refine ww_getI 38 X dX13_blanks_38 fG_X13_336 e38 ?_
          refine ww_iconst 41 X (v := (1 : Int32)) dX13_blanks_41 (by decide) ?_
          refine ww_iadd 42 X dX13_blanks_42 ?_
          obtain ⟨M43, e43, h⟩ := bO_some h
          refine ww_putI 43 X dX13_blanks_43 (fP_X13_336 _) e43 ?_
          refine ww_goto 46 0 X dX13_blanks_46 (by decide) ?_
          exact (ih _ _ h)
        · replace h := (if_neg q).symm.trans h
          refine ww_aload_n 27 X dX13_blanks_27 0 rfl rfl ?_
          obtain ⟨_, f28, h⟩ := bO_some h
          obtain ⟨v28, M28, e28, h⟩ := bP_some h
          refine ww_callVI0 28 X dX13_blanks_28 mY_X13_at mL_X13_351 (rcv_spec f28) ⟨_, _, rfl⟩ (by decide) (As := []) (rest := []) rfl rfl ⟨Nat.le_of_ble_eq_true rfl, Nat.le_of_ble_eq_true rfl⟩ (Nat.le_of_ble_eq_true rfl) (fun l D A => c_X13_at l D A e28) ?_
          refine ww_bipush 31 X (v := (13 : Int32)) dX13_blanks_31 (by decide) ?_
          refine ww_icmp_ne 33 49 X dX13_blanks_33 (by decide) (fun q => ?_) (fun q => ?_)
          · replace h := (if_neg q).symm.trans h
            exact ww_vretE 49 X hQ dX13_blanks_49 h
          · replace h := (if_pos q).symm.trans h
            refine ww_aload_n 36 X dX13_blanks_36 0 rfl rfl ?_
            refine ww_dup 37 X dX13_blanks_37 rfl ?_
            obtain ⟨v38, e38, h⟩ := bO_some h
            refine ww_getI 38 X dX13_blanks_38 fG_X13_336 e38 ?_
            refine ww_iconst 41 X (v := (1 : Int32)) dX13_blanks_41 (by decide) ?_
            refine ww_iadd 42 X dX13_blanks_42 ?_
            obtain ⟨M43, e43, h⟩ := bO_some h
            refine ww_putI 43 X dX13_blanks_43 (fP_X13_336 _) e43 ?_
            refine ww_goto 46 0 X dX13_blanks_46 (by decide) ?_
            exact (ih _ _ h)
def P_X13_blanks (G : Nat → Nat) (F : Nat) (l0 : Nat) (M : mM) : Option mM := B_X13_blanks_0 G F F l0 M
theorem c_X13_blanks {G : Nat → Nat} {F sz : Nat} {M0 : mM} (l : Launch) (D : mD) (A : Nat → Prop) {l0 : Nat} {M : mM} (h : P_X13_blanks G F l0 M = some M0) : mMetV l D G A yX13_blanks cX13_blanks 1 none 1 20 0 0 [.ref l0] M sz M0 sz := mMetV_of l D G A (by decide) (Nat.le_of_ble_eq_true rfl) (fun x X hQ => wB_X13_blanks_0 X hQ F _ _ h)
/-! SealedTokensModel.keep8(I)V -/
theorem dX13_keep8_0 : decode cX13_keep8 0 = .ok (.aload_n 0, 1) := by decide +kernel
theorem dX13_keep8_1 : decode cX13_keep8 1 = .ok (.getfield 51, 3) := by decide +kernel
theorem dX13_keep8_4 : decode cX13_keep8 4 = .ok (.aload_n 0, 1) := by decide +kernel
theorem dX13_keep8_5 : decode cX13_keep8 5 = .ok (.getfield 358, 3) := by decide +kernel
theorem dX13_keep8_8 : decode cX13_keep8 8 = .ok (.iload_n 1, 1) := by decide +kernel
theorem dX13_keep8_9 : decode cX13_keep8 9 = .ok (.i2b, 1) := by decide +kernel
theorem dX13_keep8_10 : decode cX13_keep8 10 = .ok (.bastore, 1) := by decide +kernel
theorem dX13_keep8_11 : decode cX13_keep8 11 = .ok (.aload_n 0, 1) := by decide +kernel
theorem dX13_keep8_12 : decode cX13_keep8 12 = .ok (.dup, 1) := by decide +kernel
theorem dX13_keep8_13 : decode cX13_keep8 13 = .ok (.getfield 358, 3) := by decide +kernel
theorem dX13_keep8_16 : decode cX13_keep8 16 = .ok (.iconst 1, 1) := by decide +kernel
theorem dX13_keep8_17 : decode cX13_keep8 17 = .ok (.iadd, 1) := by decide +kernel
theorem dX13_keep8_18 : decode cX13_keep8 18 = .ok (.putfield 358, 3) := by decide +kernel
theorem dX13_keep8_21 : decode cX13_keep8 21 = .ok (.return_, 1) := by decide +kernel
abbrev rmX13_keep8 : Room := { frames := 0, cells := 0, slots := 0, locals := 0 }
def P_X13_keep8 (G : Nat → Nat) (F : Nat) (l0 : Nat) (l1 : Int32) (M : mM) : Option mM :=
  bO (gfR M l0 13 15) fun v1 =>
  bO (gfI M l0 13 25) fun v5 =>
  bO (sI M 1 v1 v5 ((l1.toInt8.toInt32).toInt8.toInt32)) fun M10 =>
  bO (gfI M10 l0 13 25) fun v13 =>
  bO (pfv M10 l0 13 25 (.int (v13 + (1 : Int32)))) fun M18 =>
  some M18
set_option maxHeartbeats 4000000 in
set_option maxRecDepth 100000 in
theorem wP_X13_keep8 {G : Nat → Nat} {F : Nat} {x : mXT} {sz : Nat} {M0 : mM} (X : mCX G RX13 cX13_keep8 2 none "keep8" rmX13_keep8 x) (hQ : mQV x M0 (sz, 0, 0)) {l0 : Nat} {l1 : Int32} {M : mM} (h : P_X13_keep8 G F l0 l1 M = some M0) : WW x (sz, 0, 0) M 0 [(0, .ref l0), (1, .int l1)] [] := by
  unfold P_X13_keep8 at h
  refine ww_aload_n 0 X dX13_keep8_0 0 rfl rfl ?_
  obtain ⟨v1, e1, h⟩ := bO_some h
  refine ww_getR 1 X dX13_keep8_1 fG_X13_51 e1 ?_
  refine ww_aload_n 4 X dX13_keep8_4 0 rfl rfl ?_
  obtain ⟨v5, e5, h⟩ := bO_some h
  refine ww_getI 5 X dX13_keep8_5 fG_X13_358 e5 ?_
  refine ww_iload_n 8 X dX13_keep8_8 1 rfl rfl ?_
  refine ww_i2b 9 X dX13_keep8_9 ?_
  obtain ⟨M10, e10, h⟩ := bO_some h
  refine ww_bast 10 X dX13_keep8_10 e10 ?_
  refine ww_aload_n 11 X dX13_keep8_11 0 rfl rfl ?_
  refine ww_dup 12 X dX13_keep8_12 rfl ?_
  obtain ⟨v13, e13, h⟩ := bO_some h
  refine ww_getI 13 X dX13_keep8_13 fG_X13_358 e13 ?_
  refine ww_iconst 16 X (v := (1 : Int32)) dX13_keep8_16 (by decide) ?_
  refine ww_iadd 17 X dX13_keep8_17 ?_
  obtain ⟨M18, e18, h⟩ := bO_some h
  refine ww_putI 18 X dX13_keep8_18 (fP_X13_358 _) e18 ?_
  exact ww_vretE 21 X hQ dX13_keep8_21 h
theorem c_X13_keep8 {G : Nat → Nat} {F sz : Nat} {M0 : mM} (l : Launch) (D : mD) (A : Nat → Prop) {l0 : Nat} {l1 : Int32} {M : mM} (h : P_X13_keep8 G F l0 l1 M = some M0) : mMetV l D G A yX13_keep8 cX13_keep8 2 none 0 0 0 0 [.ref l0, .int l1] M sz M0 sz := mMetV_of l D G A (by decide) (Nat.le_of_ble_eq_true rfl) (fun x X hQ => wP_X13_keep8 X hQ h)
/-! SealedTokensModel.four(Z)I -/
theorem dX13_four_0 : decode cX13_four 0 = .ok (.iconst 0, 1) := by decide +kernel
theorem dX13_four_1 : decode cX13_four 1 = .ok (.istore_n 2, 1) := by decide +kernel
theorem dX13_four_2 : decode cX13_four 2 = .ok (.iconst 0, 1) := by decide +kernel
theorem dX13_four_3 : decode cX13_four 3 = .ok (.istore_n 3, 1) := by decide +kernel
theorem dX13_four_4 : decode cX13_four 4 = .ok (.iload_n 3, 1) := by decide +kernel
theorem dX13_four_5 : decode cX13_four 5 = .ok (.iconst 4, 1) := by decide +kernel
theorem dX13_four_6 : decode cX13_four 6 = .ok (.if_icmp .ge 120, 3) := by decide +kernel
theorem dX13_four_9 : decode cX13_four 9 = .ok (.aload_n 0, 1) := by decide +kernel
theorem dX13_four_10 : decode cX13_four 10 = .ok (.invokevirtual 371, 3) := by decide +kernel
theorem dX13_four_13 : decode cX13_four 13 = .ok (.ifCond .eq 113, 3) := by decide +kernel
theorem dX13_four_16 : decode cX13_four 16 = .ok (.aload_n 0, 1) := by decide +kernel
theorem dX13_four_17 : decode cX13_four 17 = .ok (.invokevirtual 351, 3) := by decide +kernel
theorem dX13_four_20 : decode cX13_four 20 = .ok (.invokestatic 446, 3) := by decide +kernel
theorem dX13_four_23 : decode cX13_four 23 = .ok (.istore 4, 2) := by decide +kernel
theorem dX13_four_25 : decode cX13_four 25 = .ok (.iload 4, 2) := by decide +kernel
theorem dX13_four_27 : decode cX13_four 27 = .ok (.ifCond .lt 52, 3) := by decide +kernel
theorem dX13_four_30 : decode cX13_four 30 = .ok (.iload_n 1, 1) := by decide +kernel
theorem dX13_four_31 : decode cX13_four 31 = .ok (.ifCond .eq 26, 3) := by decide +kernel
theorem dX13_four_34 : decode cX13_four 34 = .ok (.iload_n 3, 1) := by decide +kernel
theorem dX13_four_35 : decode cX13_four 35 = .ok (.ifCond .ne 10, 3) := by decide +kernel
theorem dX13_four_38 : decode cX13_four 38 = .ok (.iload 4, 2) := by decide +kernel
theorem dX13_four_40 : decode cX13_four 40 = .ok (.bipush 13, 2) := by decide +kernel
theorem dX13_four_42 : decode cX13_four 42 = .ok (.if_icmp .ne 37, 3) := by decide +kernel
theorem dX13_four_45 : decode cX13_four 45 = .ok (.iload_n 3, 1) := by decide +kernel
theorem dX13_four_46 : decode cX13_four 46 = .ok (.iconst 1, 1) := by decide +kernel
theorem dX13_four_47 : decode cX13_four 47 = .ok (.if_icmp .ne 10, 3) := by decide +kernel
theorem dX13_four_50 : decode cX13_four 50 = .ok (.iload 4, 2) := by decide +kernel
theorem dX13_four_52 : decode cX13_four 52 = .ok (.bipush 12, 2) := by decide +kernel
theorem dX13_four_54 : decode cX13_four 54 = .ok (.if_icmp .lt 25, 3) := by decide +kernel
theorem dX13_four_57 : decode cX13_four 57 = .ok (.iload_n 1, 1) := by decide +kernel
theorem dX13_four_58 : decode cX13_four 58 = .ok (.ifCond .ne 25, 3) := by decide +kernel
theorem dX13_four_61 : decode cX13_four 61 = .ok (.iload_n 3, 1) := by decide +kernel
theorem dX13_four_62 : decode cX13_four 62 = .ok (.iconst 1, 1) := by decide +kernel
theorem dX13_four_63 : decode cX13_four 63 = .ok (.if_icmp .ne 20, 3) := by decide +kernel
theorem dX13_four_66 : decode cX13_four 66 = .ok (.iload_n 2, 1) := by decide +kernel
theorem dX13_four_67 : decode cX13_four 67 = .ok (.bipush 13, 2) := by decide +kernel
theorem dX13_four_69 : decode cX13_four 69 = .ok (.if_icmp .ne 14, 3) := by decide +kernel
theorem dX13_four_72 : decode cX13_four 72 = .ok (.iload 4, 2) := by decide +kernel
theorem dX13_four_74 : decode cX13_four 74 = .ok (.bipush 12, 2) := by decide +kernel
theorem dX13_four_76 : decode cX13_four 76 = .ok (.if_icmp .lt 7, 3) := by decide +kernel
theorem dX13_four_79 : decode cX13_four 79 = .ok (.iconst 1, 1) := by decide +kernel
theorem dX13_four_80 : decode cX13_four 80 = .ok (.goto 4, 3) := by decide +kernel
theorem dX13_four_83 : decode cX13_four 83 = .ok (.iconst 0, 1) := by decide +kernel
theorem dX13_four_84 : decode cX13_four 84 = .ok (.istore 5, 2) := by decide +kernel
theorem dX13_four_86 : decode cX13_four 86 = .ok (.iload 5, 2) := by decide +kernel
theorem dX13_four_88 : decode cX13_four 88 = .ok (.ifCond .eq 14, 3) := by decide +kernel
theorem dX13_four_91 : decode cX13_four 91 = .ok (.aload_n 0, 1) := by decide +kernel
theorem dX13_four_92 : decode cX13_four 92 = .ok (.aload_n 0, 1) := by decide +kernel
theorem dX13_four_93 : decode cX13_four 93 = .ok (.getfield 336, 3) := by decide +kernel
theorem dX13_four_96 : decode cX13_four 96 = .ok (.invokevirtual 375, 3) := by decide +kernel
theorem dX13_four_99 : decode cX13_four 99 = .ok (.goto 21, 3) := by decide +kernel
theorem dX13_four_102 : decode cX13_four 102 = .ok (.bipush 16, 2) := by decide +kernel
theorem dX13_four_104 : decode cX13_four 104 = .ok (.iload_n 2, 1) := by decide +kernel
theorem dX13_four_105 : decode cX13_four 105 = .ok (.imul, 1) := by decide +kernel
theorem dX13_four_106 : decode cX13_four 106 = .ok (.iload 4, 2) := by decide +kernel
theorem dX13_four_108 : decode cX13_four 108 = .ok (.iadd, 1) := by decide +kernel
theorem dX13_four_109 : decode cX13_four 109 = .ok (.istore_n 2, 1) := by decide +kernel
theorem dX13_four_110 : decode cX13_four 110 = .ok (.aload_n 0, 1) := by decide +kernel
theorem dX13_four_111 : decode cX13_four 111 = .ok (.dup, 1) := by decide +kernel
theorem dX13_four_112 : decode cX13_four 112 = .ok (.getfield 336, 3) := by decide +kernel
theorem dX13_four_115 : decode cX13_four 115 = .ok (.iconst 1, 1) := by decide +kernel
theorem dX13_four_116 : decode cX13_four 116 = .ok (.iadd, 1) := by decide +kernel
theorem dX13_four_117 : decode cX13_four 117 = .ok (.putfield 336, 3) := by decide +kernel
theorem dX13_four_120 : decode cX13_four 120 = .ok (.iinc 3 1, 3) := by decide +kernel
theorem dX13_four_123 : decode cX13_four 123 = .ok (.goto (-119), 3) := by decide +kernel
theorem dX13_four_126 : decode cX13_four 126 = .ok (.iload_n 2, 1) := by decide +kernel
theorem dX13_four_127 : decode cX13_four 127 = .ok (.ireturn, 1) := by decide +kernel
abbrev rmX13_four : Room := { frames := 2, cells := 0, slots := 0, locals := 40 }
def B_X13_four_84 (G : Nat → Nat) (F : Nat) (r4 : Nat → Int32 → Int32 → Int32 → mM → Option (Int32 × mM)) (l0 : Nat) (l1 : Int32) (l2 : Int32) (l3 : Int32) (l4 : Int32) (s0 : Int32) (M : mM) : Option (Int32 × mM) :=
  if s0 = 0 then (bO (gfI M l0 13 22) fun v112 =>
  bO (pfv M l0 13 22 (.int (v112 + (1 : Int32)))) fun M117 =>
  r4 l0 l1 (((16 : Int32) * l2) + l4) (l3 + 1) M117)
  else (bO (gfI M l0 13 22) fun v93 =>
  bO (rcv M l0 13) fun _ =>
  bO (P_X13_fail G F l0 v93 M) fun M96 =>
  r4 l0 l1 l2 (l3 + 1) M96)
set_option maxHeartbeats 4000000 in
set_option maxRecDepth 100000 in
theorem wB_X13_four_84 {G : Nat → Nat} {F : Nat} {x : mXT} {sz : Nat} {r0 : Int32} {M0 : mM} (X : mCX G RX13 cX13_four 6 (some .int) "four" rmX13_four x) (hQ : mQI x r0 M0 (sz, 0, 0)) (r4 : Nat → Int32 → Int32 → Int32 → mM → Option (Int32 × mM)) (hr4 : ∀ (l0 : Nat) (l1 : Int32) (l2 : Int32) (l3 : Int32) (M : mM), r4 l0 l1 l2 l3 M = some (r0, M0) → WW x (sz, 0, 0) M 4 [(0, .ref l0), (1, .int l1), (2, .int l2), (3, .int l3)] []) {l0 : Nat} {l1 : Int32} {l2 : Int32} {l3 : Int32} {l4 : Int32} {s0 : Int32} {M : mM} (h : B_X13_four_84 G F r4 l0 l1 l2 l3 l4 s0 M = some (r0, M0)) : WW x (sz, 0, 0) M 84 [(0, .ref l0), (1, .int l1), (2, .int l2), (3, .int l3), (4, .int l4)] [.int s0] := by
  unfold B_X13_four_84 at h
  refine ww_istore 84 X dX13_four_84 (lv' := [(0, .ref l0), (1, .int l1), (2, .int l2), (3, .int l3), (4, .int l4), (5, .int s0)]) (by decide) [1, 2, 3, 4, 5, 0] rfl ?_
  refine ww_iload 86 X dX13_four_86 5 rfl ?_
  refine ww_if_eq 88 102 X dX13_four_88 (by decide) (fun q => ?_) (fun q => ?_)
  · replace h := (if_pos q).symm.trans h
    refine ww_bipush 102 X (v := (16 : Int32)) dX13_four_102 (by decide) ?_
    refine ww_iload_n 104 X dX13_four_104 2 rfl rfl ?_
    refine ww_imul 105 X dX13_four_105 ?_
    refine ww_iload 106 X dX13_four_106 4 rfl ?_
    refine ww_iadd 108 X dX13_four_108 ?_
    refine ww_istore_n 109 X dX13_four_109 (lv' := [(0, .ref l0), (1, .int l1), (2, .int (((16 : Int32) * l2) + l4)), (3, .int l3), (4, .int l4), (5, .int s0)]) rfl (by decide) [1, 2, 0, 3, 4, 5] rfl ?_
    refine ww_aload_n 110 X dX13_four_110 0 rfl rfl ?_
    refine ww_dup 111 X dX13_four_111 rfl ?_
    obtain ⟨v112, e112, h⟩ := bO_some h
    refine ww_getI 112 X dX13_four_112 fG_X13_336 e112 ?_
    refine ww_iconst 115 X (v := (1 : Int32)) dX13_four_115 (by decide) ?_
    refine ww_iadd 116 X dX13_four_116 ?_
    obtain ⟨M117, e117, h⟩ := bO_some h
    refine ww_putI 117 X dX13_four_117 (fP_X13_336 _) e117 ?_
    refine ww_iinc 120 X dX13_four_120 (lv' := [(0, .ref l0), (1, .int l1), (2, .int (((16 : Int32) * l2) + l4)), (3, .int (l3 + 1)), (4, .int l4), (5, .int s0)]) 3 rfl rfl (by decide) [1, 2, 3, 0, 4, 5] rfl ?_
    refine ww_goto 123 4 X dX13_four_123 (by decide) ?_
    exact ww_sub [0, 1, 2, 3] rfl (hr4 _ _ _ _ _ h)
  · replace h := (if_neg q).symm.trans h
    refine ww_aload_n 91 X dX13_four_91 0 rfl rfl ?_
    refine ww_aload_n 92 X dX13_four_92 0 rfl rfl ?_
    obtain ⟨v93, e93, h⟩ := bO_some h
    refine ww_getI 93 X dX13_four_93 fG_X13_336 e93 ?_
    obtain ⟨_, f96, h⟩ := bO_some h
    obtain ⟨M96, e96, h⟩ := bO_some h
    refine ww_callVV0 96 X dX13_four_96 mY_X13_fail mL_X13_375 (rcv_spec f96) ⟨_, _, rfl⟩ (by decide) (As := [.int v93]) (rest := []) rfl rfl ⟨Nat.le_of_ble_eq_true rfl, Nat.le_of_ble_eq_true rfl⟩ (Nat.le_of_ble_eq_true rfl) (fun l D A => c_X13_fail l D A e96) ?_
    refine ww_goto 99 120 X dX13_four_99 (by decide) ?_
    refine ww_iinc 120 X dX13_four_120 (lv' := [(0, .ref l0), (1, .int l1), (2, .int l2), (3, .int (l3 + 1)), (4, .int l4), (5, .int s0)]) 3 rfl rfl (by decide) [1, 2, 3, 0, 4, 5] rfl ?_
    refine ww_goto 123 4 X dX13_four_123 (by decide) ?_
    exact ww_sub [0, 1, 2, 3] rfl (hr4 _ _ _ _ _ h)
def B_X13_four_57 (G : Nat → Nat) (F : Nat) (r4 : Nat → Int32 → Int32 → Int32 → mM → Option (Int32 × mM)) (l0 : Nat) (l1 : Int32) (l2 : Int32) (l3 : Int32) (l4 : Int32) (M : mM) : Option (Int32 × mM) :=
  if l1 = 0 then (if l3 = (1 : Int32) then (if l2 = (13 : Int32) then (if l4 < (12 : Int32) then (B_X13_four_84 G F r4 l0 l1 l2 l3 l4 (0 : Int32) M)
  else (B_X13_four_84 G F r4 l0 l1 l2 l3 l4 (1 : Int32) M))
  else (B_X13_four_84 G F r4 l0 l1 l2 l3 l4 (0 : Int32) M))
  else (B_X13_four_84 G F r4 l0 l1 l2 l3 l4 (0 : Int32) M))
  else (B_X13_four_84 G F r4 l0 l1 l2 l3 l4 (0 : Int32) M)
set_option maxHeartbeats 4000000 in
set_option maxRecDepth 100000 in
theorem wB_X13_four_57 {G : Nat → Nat} {F : Nat} {x : mXT} {sz : Nat} {r0 : Int32} {M0 : mM} (X : mCX G RX13 cX13_four 6 (some .int) "four" rmX13_four x) (hQ : mQI x r0 M0 (sz, 0, 0)) (r4 : Nat → Int32 → Int32 → Int32 → mM → Option (Int32 × mM)) (hr4 : ∀ (l0 : Nat) (l1 : Int32) (l2 : Int32) (l3 : Int32) (M : mM), r4 l0 l1 l2 l3 M = some (r0, M0) → WW x (sz, 0, 0) M 4 [(0, .ref l0), (1, .int l1), (2, .int l2), (3, .int l3)] []) {l0 : Nat} {l1 : Int32} {l2 : Int32} {l3 : Int32} {l4 : Int32} {M : mM} (h : B_X13_four_57 G F r4 l0 l1 l2 l3 l4 M = some (r0, M0)) : WW x (sz, 0, 0) M 57 [(0, .ref l0), (1, .int l1), (2, .int l2), (3, .int l3), (4, .int l4)] [] := by
  unfold B_X13_four_57 at h
  refine ww_iload_n 57 X dX13_four_57 1 rfl rfl ?_
  refine ww_if_ne 58 83 X dX13_four_58 (by decide) (fun q => ?_) (fun q => ?_)
  · replace h := (if_neg q).symm.trans h
    refine ww_iconst 83 X (v := (0 : Int32)) dX13_four_83 (by decide) ?_
    exact (wB_X13_four_84 X hQ _ hr4 h)
  · replace h := (if_pos q).symm.trans h
    refine ww_iload_n 61 X dX13_four_61 3 rfl rfl ?_
    refine ww_iconst 62 X (v := (1 : Int32)) dX13_four_62 (by decide) ?_
    refine ww_icmp_ne 63 83 X dX13_four_63 (by decide) (fun q => ?_) (fun q => ?_)
    · replace h := (if_neg q).symm.trans h
      refine ww_iconst 83 X (v := (0 : Int32)) dX13_four_83 (by decide) ?_
      exact (wB_X13_four_84 X hQ _ hr4 h)
    · replace h := (if_pos q).symm.trans h
      refine ww_iload_n 66 X dX13_four_66 2 rfl rfl ?_
      refine ww_bipush 67 X (v := (13 : Int32)) dX13_four_67 (by decide) ?_
      refine ww_icmp_ne 69 83 X dX13_four_69 (by decide) (fun q => ?_) (fun q => ?_)
      · replace h := (if_neg q).symm.trans h
        refine ww_iconst 83 X (v := (0 : Int32)) dX13_four_83 (by decide) ?_
        exact (wB_X13_four_84 X hQ _ hr4 h)
      · replace h := (if_pos q).symm.trans h
        refine ww_iload 72 X dX13_four_72 4 rfl ?_
        refine ww_bipush 74 X (v := (12 : Int32)) dX13_four_74 (by decide) ?_
        refine ww_icmp_lt 76 83 X dX13_four_76 (by decide) (fun q => ?_) (fun q => ?_)
        · replace h := (if_pos q).symm.trans h
          refine ww_iconst 83 X (v := (0 : Int32)) dX13_four_83 (by decide) ?_
          exact (wB_X13_four_84 X hQ _ hr4 h)
        · replace h := (if_neg q).symm.trans h
          refine ww_iconst 79 X (v := (1 : Int32)) dX13_four_79 (by decide) ?_
          refine ww_goto 80 84 X dX13_four_80 (by decide) ?_
          exact (wB_X13_four_84 X hQ _ hr4 h)
def B_X13_four_4 (G : Nat → Nat) (F : Nat) : Nat → Nat → Int32 → Int32 → Int32 → mM → Option (Int32 × mM)
  | 0, _, _, _, _, _ => none
  | n + 1, l0, l1, l2, l3, M =>
  if (4 : Int32) ≤ l3 then (some (l2, M))
  else (bO (rcv M l0 13) fun _ =>
  bP (P_X13_good G F l0 M) fun v10 M10 =>
  if v10 = 0 then (some (l2, M10))
  else (bO (rcv M10 l0 13) fun _ =>
  bP (P_X13_at G F l0 M10) fun v17 M17 =>
  bP (P_X13_hexOf G F v17 M17) fun v20 M20 =>
  if v20 < 0 then (B_X13_four_84 G F (B_X13_four_4 G F n) l0 l1 l2 l3 v20 (1 : Int32) M20)
  else (if l1 = 0 then (B_X13_four_57 G F (B_X13_four_4 G F n) l0 l1 l2 l3 v20 M20)
  else (if l3 = 0 then (if v20 = (13 : Int32) then (if l3 = (1 : Int32) then (if v20 < (12 : Int32) then (B_X13_four_84 G F (B_X13_four_4 G F n) l0 l1 l2 l3 v20 (1 : Int32) M20)
  else (B_X13_four_57 G F (B_X13_four_4 G F n) l0 l1 l2 l3 v20 M20))
  else (B_X13_four_57 G F (B_X13_four_4 G F n) l0 l1 l2 l3 v20 M20))
  else (B_X13_four_84 G F (B_X13_four_4 G F n) l0 l1 l2 l3 v20 (1 : Int32) M20))
  else (if l3 = (1 : Int32) then (if v20 < (12 : Int32) then (B_X13_four_84 G F (B_X13_four_4 G F n) l0 l1 l2 l3 v20 (1 : Int32) M20)
  else (B_X13_four_57 G F (B_X13_four_4 G F n) l0 l1 l2 l3 v20 M20))
  else (B_X13_four_57 G F (B_X13_four_4 G F n) l0 l1 l2 l3 v20 M20))))))
set_option maxHeartbeats 4000000 in
set_option maxRecDepth 100000 in
theorem wB_X13_four_4 {G : Nat → Nat} {F : Nat} {x : mXT} {sz : Nat} {r0 : Int32} {M0 : mM} (X : mCX G RX13 cX13_four 6 (some .int) "four" rmX13_four x) (hQ : mQI x r0 M0 (sz, 0, 0)) : ∀ (n : Nat) (l0 : Nat) (l1 : Int32) (l2 : Int32) (l3 : Int32) (M : mM), B_X13_four_4 G F n l0 l1 l2 l3 M = some (r0, M0) → WW x (sz, 0, 0) M 4 [(0, .ref l0), (1, .int l1), (2, .int l2), (3, .int l3)] [] := by
  intro n
  induction n with
  | zero =>
    intro l0 l1 l2 l3 M h
    exact nomatch (show (none : Option (Int32 × mM)) = some (r0, M0) from h)
  | succ n ih =>
    intro l0 l1 l2 l3 M h
    rw [B_X13_four_4] at h
    refine ww_iload_n 4 X dX13_four_4 3 rfl rfl ?_
    refine ww_iconst 5 X (v := (4 : Int32)) dX13_four_5 (by decide) ?_
    refine ww_icmp_ge 6 126 X dX13_four_6 (by decide) (fun q => ?_) (fun q => ?_)
    · replace h := (if_pos q).symm.trans h
      refine ww_iload_n 126 X dX13_four_126 2 rfl rfl ?_
      exact ww_iretE 127 X hQ dX13_four_127 h
    · replace h := (if_neg q).symm.trans h
      refine ww_aload_n 9 X dX13_four_9 0 rfl rfl ?_
      obtain ⟨_, f10, h⟩ := bO_some h
      obtain ⟨v10, M10, e10, h⟩ := bP_some h
      refine ww_callVI0 10 X dX13_four_10 mY_X13_good mL_X13_371 (rcv_spec f10) ⟨_, _, rfl⟩ (by decide) (As := []) (rest := []) rfl rfl ⟨Nat.le_of_ble_eq_true rfl, Nat.le_of_ble_eq_true rfl⟩ (Nat.le_of_ble_eq_true rfl) (fun l D A => c_X13_good l D A e10) ?_
      refine ww_if_eq 13 126 X dX13_four_13 (by decide) (fun q => ?_) (fun q => ?_)
      · replace h := (if_pos q).symm.trans h
        refine ww_iload_n 126 X dX13_four_126 2 rfl rfl ?_
        exact ww_iretE 127 X hQ dX13_four_127 h
      · replace h := (if_neg q).symm.trans h
        refine ww_aload_n 16 X dX13_four_16 0 rfl rfl ?_
        obtain ⟨_, f17, h⟩ := bO_some h
        obtain ⟨v17, M17, e17, h⟩ := bP_some h
        refine ww_callVI0 17 X dX13_four_17 mY_X13_at mL_X13_351 (rcv_spec f17) ⟨_, _, rfl⟩ (by decide) (As := []) (rest := []) rfl rfl ⟨Nat.le_of_ble_eq_true rfl, Nat.le_of_ble_eq_true rfl⟩ (Nat.le_of_ble_eq_true rfl) (fun l D A => c_X13_at l D A e17) ?_
        obtain ⟨v20, M20, e20, h⟩ := bP_some h
        refine ww_callSI0 20 X dX13_four_20 mY_X13_hexOf mL_X13_446 (As := [.int v17]) (rest := []) rfl rfl ⟨Nat.le_of_ble_eq_true rfl, Nat.le_of_ble_eq_true rfl⟩ (Nat.le_of_ble_eq_true rfl) (fun l D A => c_X13_hexOf l D A e20) ?_
        refine ww_istore 23 X dX13_four_23 (lv' := [(0, .ref l0), (1, .int l1), (2, .int l2), (3, .int l3), (4, .int v20)]) (by decide) [1, 2, 3, 4, 0] rfl ?_
        refine ww_iload 25 X dX13_four_25 4 rfl ?_
        refine ww_if_lt 27 79 X dX13_four_27 (by decide) (fun q => ?_) (fun q => ?_)
        · replace h := (if_pos q).symm.trans h
          refine ww_iconst 79 X (v := (1 : Int32)) dX13_four_79 (by decide) ?_
          refine ww_goto 80 84 X dX13_four_80 (by decide) ?_
          exact (wB_X13_four_84 X hQ _ ih h)
        · replace h := (if_neg q).symm.trans h
          refine ww_iload_n 30 X dX13_four_30 1 rfl rfl ?_
          refine ww_if_eq 31 57 X dX13_four_31 (by decide) (fun q => ?_) (fun q => ?_)
          · replace h := (if_pos q).symm.trans h
            exact (wB_X13_four_57 X hQ _ ih h)
          · replace h := (if_neg q).symm.trans h
            refine ww_iload_n 34 X dX13_four_34 3 rfl rfl ?_
            refine ww_if_ne 35 45 X dX13_four_35 (by decide) (fun q => ?_) (fun q => ?_)
            · replace h := (if_neg q).symm.trans h
              refine ww_iload_n 45 X dX13_four_45 3 rfl rfl ?_
              refine ww_iconst 46 X (v := (1 : Int32)) dX13_four_46 (by decide) ?_
              refine ww_icmp_ne 47 57 X dX13_four_47 (by decide) (fun q => ?_) (fun q => ?_)
              · replace h := (if_neg q).symm.trans h
                exact (wB_X13_four_57 X hQ _ ih h)
              · replace h := (if_pos q).symm.trans h
                refine ww_iload 50 X dX13_four_50 4 rfl ?_
                refine ww_bipush 52 X (v := (12 : Int32)) dX13_four_52 (by decide) ?_
                refine ww_icmp_lt 54 79 X dX13_four_54 (by decide) (fun q => ?_) (fun q => ?_)
                · replace h := (if_pos q).symm.trans h
                  refine ww_iconst 79 X (v := (1 : Int32)) dX13_four_79 (by decide) ?_
                  refine ww_goto 80 84 X dX13_four_80 (by decide) ?_
                  exact (wB_X13_four_84 X hQ _ ih h)
                · replace h := (if_neg q).symm.trans h
                  exact (wB_X13_four_57 X hQ _ ih h)
            · replace h := (if_pos q).symm.trans h
              refine ww_iload 38 X dX13_four_38 4 rfl ?_
              refine ww_bipush 40 X (v := (13 : Int32)) dX13_four_40 (by decide) ?_
              refine ww_icmp_ne 42 79 X dX13_four_42 (by decide) (fun q => ?_) (fun q => ?_)
              · replace h := (if_neg q).symm.trans h
                refine ww_iconst 79 X (v := (1 : Int32)) dX13_four_79 (by decide) ?_
                refine ww_goto 80 84 X dX13_four_80 (by decide) ?_
                exact (wB_X13_four_84 X hQ _ ih h)
              · replace h := (if_pos q).symm.trans h
                refine ww_iload_n 45 X dX13_four_45 3 rfl rfl ?_
                refine ww_iconst 46 X (v := (1 : Int32)) dX13_four_46 (by decide) ?_
                refine ww_icmp_ne 47 57 X dX13_four_47 (by decide) (fun q => ?_) (fun q => ?_)
                · replace h := (if_neg q).symm.trans h
                  exact (wB_X13_four_57 X hQ _ ih h)
                · replace h := (if_pos q).symm.trans h
                  refine ww_iload 50 X dX13_four_50 4 rfl ?_
                  refine ww_bipush 52 X (v := (12 : Int32)) dX13_four_52 (by decide) ?_
                  refine ww_icmp_lt 54 79 X dX13_four_54 (by decide) (fun q => ?_) (fun q => ?_)
                  · replace h := (if_pos q).symm.trans h
                    refine ww_iconst 79 X (v := (1 : Int32)) dX13_four_79 (by decide) ?_
                    refine ww_goto 80 84 X dX13_four_80 (by decide) ?_
                    exact (wB_X13_four_84 X hQ _ ih h)
                  · replace h := (if_neg q).symm.trans h
                    exact (wB_X13_four_57 X hQ _ ih h)
def P_X13_four (G : Nat → Nat) (F : Nat) (l0 : Nat) (l1 : Int32) (M : mM) : Option (Int32 × mM) :=
  B_X13_four_4 G F F l0 l1 (0 : Int32) (0 : Int32) M
set_option maxHeartbeats 4000000 in
set_option maxRecDepth 100000 in
theorem wP_X13_four {G : Nat → Nat} {F : Nat} {x : mXT} {sz : Nat} {r0 : Int32} {M0 : mM} (X : mCX G RX13 cX13_four 6 (some .int) "four" rmX13_four x) (hQ : mQI x r0 M0 (sz, 0, 0)) {l0 : Nat} {l1 : Int32} {M : mM} (h : P_X13_four G F l0 l1 M = some (r0, M0)) : WW x (sz, 0, 0) M 0 [(0, .ref l0), (1, .int l1)] [] := by
  unfold P_X13_four at h
  refine ww_iconst 0 X (v := (0 : Int32)) dX13_four_0 (by decide) ?_
  refine ww_istore_n 1 X dX13_four_1 (lv' := [(0, .ref l0), (1, .int l1), (2, .int (0 : Int32))]) rfl (by decide) [1, 2, 0] rfl ?_
  refine ww_iconst 2 X (v := (0 : Int32)) dX13_four_2 (by decide) ?_
  refine ww_istore_n 3 X dX13_four_3 (lv' := [(0, .ref l0), (1, .int l1), (2, .int (0 : Int32)), (3, .int (0 : Int32))]) rfl (by decide) [1, 2, 3, 0] rfl ?_
  exact (wB_X13_four_4 X hQ F _ _ _ _ _ h)
theorem c_X13_four {G : Nat → Nat} {F sz : Nat} {r0 : Int32} {M0 : mM} (l : Launch) (D : mD) (A : Nat → Prop) {l0 : Nat} {l1 : Int32} {M : mM} (h : P_X13_four G F l0 l1 M = some (r0, M0)) : mMetI l D G A yX13_four cX13_four 6 (some .int) 2 40 0 0 [.ref l0, .int l1] M sz r0 M0 sz := mMetI_of l D G A (by decide) (Nat.le_of_ble_eq_true rfl) (fun x X hQ => wP_X13_four X hQ h)
/-! SealedTokensModel.sign8(I)V -/
theorem dX13_sign8_0 : decode cX13_sign8 0 = .ok (.iload_n 1, 1) := by decide +kernel
theorem dX13_sign8_1 : decode cX13_sign8 1 = .ok (.sipush 128, 3) := by decide +kernel
theorem dX13_sign8_4 : decode cX13_sign8 4 = .ok (.if_icmp .ge 11, 3) := by decide +kernel
theorem dX13_sign8_7 : decode cX13_sign8 7 = .ok (.aload_n 0, 1) := by decide +kernel
theorem dX13_sign8_8 : decode cX13_sign8 8 = .ok (.iload_n 1, 1) := by decide +kernel
theorem dX13_sign8_9 : decode cX13_sign8 9 = .ok (.invokevirtual 402, 3) := by decide +kernel
theorem dX13_sign8_12 : decode cX13_sign8 12 = .ok (.goto 139, 3) := by decide +kernel
theorem dX13_sign8_15 : decode cX13_sign8 15 = .ok (.iload_n 1, 1) := by decide +kernel
theorem dX13_sign8_16 : decode cX13_sign8 16 = .ok (.sipush 2048, 3) := by decide +kernel
theorem dX13_sign8_19 : decode cX13_sign8 19 = .ok (.if_icmp .ge 30, 3) := by decide +kernel
theorem dX13_sign8_22 : decode cX13_sign8 22 = .ok (.aload_n 0, 1) := by decide +kernel
theorem dX13_sign8_23 : decode cX13_sign8 23 = .ok (.sipush 192, 3) := by decide +kernel
theorem dX13_sign8_26 : decode cX13_sign8 26 = .ok (.iload_n 1, 1) := by decide +kernel
theorem dX13_sign8_27 : decode cX13_sign8 27 = .ok (.bipush 6, 2) := by decide +kernel
theorem dX13_sign8_29 : decode cX13_sign8 29 = .ok (.ishr, 1) := by decide +kernel
theorem dX13_sign8_30 : decode cX13_sign8 30 = .ok (.ior, 1) := by decide +kernel
theorem dX13_sign8_31 : decode cX13_sign8 31 = .ok (.invokevirtual 402, 3) := by decide +kernel
theorem dX13_sign8_34 : decode cX13_sign8 34 = .ok (.aload_n 0, 1) := by decide +kernel
theorem dX13_sign8_35 : decode cX13_sign8 35 = .ok (.sipush 128, 3) := by decide +kernel
theorem dX13_sign8_38 : decode cX13_sign8 38 = .ok (.iload_n 1, 1) := by decide +kernel
theorem dX13_sign8_39 : decode cX13_sign8 39 = .ok (.bipush 63, 2) := by decide +kernel
theorem dX13_sign8_41 : decode cX13_sign8 41 = .ok (.iand, 1) := by decide +kernel
theorem dX13_sign8_42 : decode cX13_sign8 42 = .ok (.ior, 1) := by decide +kernel
theorem dX13_sign8_43 : decode cX13_sign8 43 = .ok (.invokevirtual 402, 3) := by decide +kernel
theorem dX13_sign8_46 : decode cX13_sign8 46 = .ok (.goto 105, 3) := by decide +kernel
theorem dX13_sign8_49 : decode cX13_sign8 49 = .ok (.iload_n 1, 1) := by decide +kernel
theorem dX13_sign8_50 : decode cX13_sign8 50 = .ok (.ldc 13, 2) := by decide +kernel
theorem dX13_sign8_52 : decode cX13_sign8 52 = .ok (.if_icmp .ge 45, 3) := by decide +kernel
theorem dX13_sign8_55 : decode cX13_sign8 55 = .ok (.aload_n 0, 1) := by decide +kernel
theorem dX13_sign8_56 : decode cX13_sign8 56 = .ok (.sipush 224, 3) := by decide +kernel
theorem dX13_sign8_59 : decode cX13_sign8 59 = .ok (.iload_n 1, 1) := by decide +kernel
theorem dX13_sign8_60 : decode cX13_sign8 60 = .ok (.bipush 12, 2) := by decide +kernel
theorem dX13_sign8_62 : decode cX13_sign8 62 = .ok (.ishr, 1) := by decide +kernel
theorem dX13_sign8_63 : decode cX13_sign8 63 = .ok (.ior, 1) := by decide +kernel
theorem dX13_sign8_64 : decode cX13_sign8 64 = .ok (.invokevirtual 402, 3) := by decide +kernel
theorem dX13_sign8_67 : decode cX13_sign8 67 = .ok (.aload_n 0, 1) := by decide +kernel
theorem dX13_sign8_68 : decode cX13_sign8 68 = .ok (.sipush 128, 3) := by decide +kernel
theorem dX13_sign8_71 : decode cX13_sign8 71 = .ok (.iload_n 1, 1) := by decide +kernel
theorem dX13_sign8_72 : decode cX13_sign8 72 = .ok (.bipush 6, 2) := by decide +kernel
theorem dX13_sign8_74 : decode cX13_sign8 74 = .ok (.ishr, 1) := by decide +kernel
theorem dX13_sign8_75 : decode cX13_sign8 75 = .ok (.bipush 63, 2) := by decide +kernel
theorem dX13_sign8_77 : decode cX13_sign8 77 = .ok (.iand, 1) := by decide +kernel
theorem dX13_sign8_78 : decode cX13_sign8 78 = .ok (.ior, 1) := by decide +kernel
theorem dX13_sign8_79 : decode cX13_sign8 79 = .ok (.invokevirtual 402, 3) := by decide +kernel
theorem dX13_sign8_82 : decode cX13_sign8 82 = .ok (.aload_n 0, 1) := by decide +kernel
theorem dX13_sign8_83 : decode cX13_sign8 83 = .ok (.sipush 128, 3) := by decide +kernel
theorem dX13_sign8_86 : decode cX13_sign8 86 = .ok (.iload_n 1, 1) := by decide +kernel
theorem dX13_sign8_87 : decode cX13_sign8 87 = .ok (.bipush 63, 2) := by decide +kernel
theorem dX13_sign8_89 : decode cX13_sign8 89 = .ok (.iand, 1) := by decide +kernel
theorem dX13_sign8_90 : decode cX13_sign8 90 = .ok (.ior, 1) := by decide +kernel
theorem dX13_sign8_91 : decode cX13_sign8 91 = .ok (.invokevirtual 402, 3) := by decide +kernel
theorem dX13_sign8_94 : decode cX13_sign8 94 = .ok (.goto 57, 3) := by decide +kernel
theorem dX13_sign8_97 : decode cX13_sign8 97 = .ok (.aload_n 0, 1) := by decide +kernel
theorem dX13_sign8_98 : decode cX13_sign8 98 = .ok (.sipush 240, 3) := by decide +kernel
theorem dX13_sign8_101 : decode cX13_sign8 101 = .ok (.iload_n 1, 1) := by decide +kernel
theorem dX13_sign8_102 : decode cX13_sign8 102 = .ok (.bipush 18, 2) := by decide +kernel
theorem dX13_sign8_104 : decode cX13_sign8 104 = .ok (.ishr, 1) := by decide +kernel
theorem dX13_sign8_105 : decode cX13_sign8 105 = .ok (.ior, 1) := by decide +kernel
theorem dX13_sign8_106 : decode cX13_sign8 106 = .ok (.invokevirtual 402, 3) := by decide +kernel
theorem dX13_sign8_109 : decode cX13_sign8 109 = .ok (.aload_n 0, 1) := by decide +kernel
theorem dX13_sign8_110 : decode cX13_sign8 110 = .ok (.sipush 128, 3) := by decide +kernel
theorem dX13_sign8_113 : decode cX13_sign8 113 = .ok (.iload_n 1, 1) := by decide +kernel
theorem dX13_sign8_114 : decode cX13_sign8 114 = .ok (.bipush 12, 2) := by decide +kernel
theorem dX13_sign8_116 : decode cX13_sign8 116 = .ok (.ishr, 1) := by decide +kernel
theorem dX13_sign8_117 : decode cX13_sign8 117 = .ok (.bipush 63, 2) := by decide +kernel
theorem dX13_sign8_119 : decode cX13_sign8 119 = .ok (.iand, 1) := by decide +kernel
theorem dX13_sign8_120 : decode cX13_sign8 120 = .ok (.ior, 1) := by decide +kernel
theorem dX13_sign8_121 : decode cX13_sign8 121 = .ok (.invokevirtual 402, 3) := by decide +kernel
theorem dX13_sign8_124 : decode cX13_sign8 124 = .ok (.aload_n 0, 1) := by decide +kernel
theorem dX13_sign8_125 : decode cX13_sign8 125 = .ok (.sipush 128, 3) := by decide +kernel
theorem dX13_sign8_128 : decode cX13_sign8 128 = .ok (.iload_n 1, 1) := by decide +kernel
theorem dX13_sign8_129 : decode cX13_sign8 129 = .ok (.bipush 6, 2) := by decide +kernel
theorem dX13_sign8_131 : decode cX13_sign8 131 = .ok (.ishr, 1) := by decide +kernel
theorem dX13_sign8_132 : decode cX13_sign8 132 = .ok (.bipush 63, 2) := by decide +kernel
theorem dX13_sign8_134 : decode cX13_sign8 134 = .ok (.iand, 1) := by decide +kernel
theorem dX13_sign8_135 : decode cX13_sign8 135 = .ok (.ior, 1) := by decide +kernel
theorem dX13_sign8_136 : decode cX13_sign8 136 = .ok (.invokevirtual 402, 3) := by decide +kernel
theorem dX13_sign8_139 : decode cX13_sign8 139 = .ok (.aload_n 0, 1) := by decide +kernel
theorem dX13_sign8_140 : decode cX13_sign8 140 = .ok (.sipush 128, 3) := by decide +kernel
theorem dX13_sign8_143 : decode cX13_sign8 143 = .ok (.iload_n 1, 1) := by decide +kernel
theorem dX13_sign8_144 : decode cX13_sign8 144 = .ok (.bipush 63, 2) := by decide +kernel
theorem dX13_sign8_146 : decode cX13_sign8 146 = .ok (.iand, 1) := by decide +kernel
theorem dX13_sign8_147 : decode cX13_sign8 147 = .ok (.ior, 1) := by decide +kernel
theorem dX13_sign8_148 : decode cX13_sign8 148 = .ok (.invokevirtual 402, 3) := by decide +kernel
theorem dX13_sign8_151 : decode cX13_sign8 151 = .ok (.return_, 1) := by decide +kernel
abbrev rmX13_sign8 : Room := { frames := 1, cells := 0, slots := 0, locals := 21 }
def P_X13_sign8 (G : Nat → Nat) (F : Nat) (l0 : Nat) (l1 : Int32) (M : mM) : Option mM :=
  if (128 : Int32) ≤ l1 then (if (2048 : Int32) ≤ l1 then (if (65536 : Int32) ≤ l1 then (bO (rcv M l0 13) fun _ =>
  bO (P_X13_keep8 G F l0 ((240 : Int32) ||| (l1 >>> ((18 : Int32) &&& 31))) M) fun M106 =>
  bO (rcv M106 l0 13) fun _ =>
  bO (P_X13_keep8 G F l0 ((128 : Int32) ||| ((l1 >>> ((12 : Int32) &&& 31)) &&& (63 : Int32))) M106) fun M121 =>
  bO (rcv M121 l0 13) fun _ =>
  bO (P_X13_keep8 G F l0 ((128 : Int32) ||| ((l1 >>> ((6 : Int32) &&& 31)) &&& (63 : Int32))) M121) fun M136 =>
  bO (rcv M136 l0 13) fun _ =>
  bO (P_X13_keep8 G F l0 ((128 : Int32) ||| (l1 &&& (63 : Int32))) M136) fun M148 =>
  some M148)
  else (bO (rcv M l0 13) fun _ =>
  bO (P_X13_keep8 G F l0 ((224 : Int32) ||| (l1 >>> ((12 : Int32) &&& 31))) M) fun M64 =>
  bO (rcv M64 l0 13) fun _ =>
  bO (P_X13_keep8 G F l0 ((128 : Int32) ||| ((l1 >>> ((6 : Int32) &&& 31)) &&& (63 : Int32))) M64) fun M79 =>
  bO (rcv M79 l0 13) fun _ =>
  bO (P_X13_keep8 G F l0 ((128 : Int32) ||| (l1 &&& (63 : Int32))) M79) fun M91 =>
  some M91))
  else (bO (rcv M l0 13) fun _ =>
  bO (P_X13_keep8 G F l0 ((192 : Int32) ||| (l1 >>> ((6 : Int32) &&& 31))) M) fun M31 =>
  bO (rcv M31 l0 13) fun _ =>
  bO (P_X13_keep8 G F l0 ((128 : Int32) ||| (l1 &&& (63 : Int32))) M31) fun M43 =>
  some M43))
  else (bO (rcv M l0 13) fun _ =>
  bO (P_X13_keep8 G F l0 l1 M) fun M9 =>
  some M9)
set_option maxHeartbeats 4000000 in
set_option maxRecDepth 100000 in
theorem wP_X13_sign8 {G : Nat → Nat} {F : Nat} {x : mXT} {sz : Nat} {M0 : mM} (X : mCX G RX13 cX13_sign8 2 none "sign8" rmX13_sign8 x) (hQ : mQV x M0 (sz, 0, 0)) {l0 : Nat} {l1 : Int32} {M : mM} (h : P_X13_sign8 G F l0 l1 M = some M0) : WW x (sz, 0, 0) M 0 [(0, .ref l0), (1, .int l1)] [] := by
  unfold P_X13_sign8 at h
  refine ww_iload_n 0 X dX13_sign8_0 1 rfl rfl ?_
  refine ww_sipush 1 X (v := (128 : Int32)) dX13_sign8_1 (by decide) ?_
  refine ww_icmp_ge 4 15 X dX13_sign8_4 (by decide) (fun q => ?_) (fun q => ?_)
  · replace h := (if_pos q).symm.trans h
    refine ww_iload_n 15 X dX13_sign8_15 1 rfl rfl ?_
    refine ww_sipush 16 X (v := (2048 : Int32)) dX13_sign8_16 (by decide) ?_
    refine ww_icmp_ge 19 49 X dX13_sign8_19 (by decide) (fun q => ?_) (fun q => ?_)
    · replace h := (if_pos q).symm.trans h
      refine ww_iload_n 49 X dX13_sign8_49 1 rfl rfl ?_
      refine ww_ldc 50 X (v := (65536 : Int32)) dX13_sign8_50 kI_X13_13 ?_
      refine ww_icmp_ge 52 97 X dX13_sign8_52 (by decide) (fun q => ?_) (fun q => ?_)
      · replace h := (if_pos q).symm.trans h
        refine ww_aload_n 97 X dX13_sign8_97 0 rfl rfl ?_
        refine ww_sipush 98 X (v := (240 : Int32)) dX13_sign8_98 (by decide) ?_
        refine ww_iload_n 101 X dX13_sign8_101 1 rfl rfl ?_
        refine ww_bipush 102 X (v := (18 : Int32)) dX13_sign8_102 (by decide) ?_
        refine ww_ishr 104 X dX13_sign8_104 ?_
        refine ww_ior 105 X dX13_sign8_105 ?_
        obtain ⟨_, f106, h⟩ := bO_some h
        obtain ⟨M106, e106, h⟩ := bO_some h
        refine ww_callVV0 106 X dX13_sign8_106 mY_X13_keep8 mL_X13_402 (rcv_spec f106) ⟨_, _, rfl⟩ (by decide) (As := [.int ((240 : Int32) ||| (l1 >>> ((18 : Int32) &&& 31)))]) (rest := []) rfl rfl ⟨Nat.le_of_ble_eq_true rfl, Nat.le_of_ble_eq_true rfl⟩ (Nat.le_of_ble_eq_true rfl) (fun l D A => c_X13_keep8 l D A e106) ?_
        refine ww_aload_n 109 X dX13_sign8_109 0 rfl rfl ?_
        refine ww_sipush 110 X (v := (128 : Int32)) dX13_sign8_110 (by decide) ?_
        refine ww_iload_n 113 X dX13_sign8_113 1 rfl rfl ?_
        refine ww_bipush 114 X (v := (12 : Int32)) dX13_sign8_114 (by decide) ?_
        refine ww_ishr 116 X dX13_sign8_116 ?_
        refine ww_bipush 117 X (v := (63 : Int32)) dX13_sign8_117 (by decide) ?_
        refine ww_iand 119 X dX13_sign8_119 ?_
        refine ww_ior 120 X dX13_sign8_120 ?_
        obtain ⟨_, f121, h⟩ := bO_some h
        obtain ⟨M121, e121, h⟩ := bO_some h
        refine ww_callVV0 121 X dX13_sign8_121 mY_X13_keep8 mL_X13_402 (rcv_spec f121) ⟨_, _, rfl⟩ (by decide) (As := [.int ((128 : Int32) ||| ((l1 >>> ((12 : Int32) &&& 31)) &&& (63 : Int32)))]) (rest := []) rfl rfl ⟨Nat.le_of_ble_eq_true rfl, Nat.le_of_ble_eq_true rfl⟩ (Nat.le_of_ble_eq_true rfl) (fun l D A => c_X13_keep8 l D A e121) ?_
        refine ww_aload_n 124 X dX13_sign8_124 0 rfl rfl ?_
        refine ww_sipush 125 X (v := (128 : Int32)) dX13_sign8_125 (by decide) ?_
        refine ww_iload_n 128 X dX13_sign8_128 1 rfl rfl ?_
        refine ww_bipush 129 X (v := (6 : Int32)) dX13_sign8_129 (by decide) ?_
        refine ww_ishr 131 X dX13_sign8_131 ?_
        refine ww_bipush 132 X (v := (63 : Int32)) dX13_sign8_132 (by decide) ?_
        refine ww_iand 134 X dX13_sign8_134 ?_
        refine ww_ior 135 X dX13_sign8_135 ?_
        obtain ⟨_, f136, h⟩ := bO_some h
        obtain ⟨M136, e136, h⟩ := bO_some h
        refine ww_callVV0 136 X dX13_sign8_136 mY_X13_keep8 mL_X13_402 (rcv_spec f136) ⟨_, _, rfl⟩ (by decide) (As := [.int ((128 : Int32) ||| ((l1 >>> ((6 : Int32) &&& 31)) &&& (63 : Int32)))]) (rest := []) rfl rfl ⟨Nat.le_of_ble_eq_true rfl, Nat.le_of_ble_eq_true rfl⟩ (Nat.le_of_ble_eq_true rfl) (fun l D A => c_X13_keep8 l D A e136) ?_
        refine ww_aload_n 139 X dX13_sign8_139 0 rfl rfl ?_
        refine ww_sipush 140 X (v := (128 : Int32)) dX13_sign8_140 (by decide) ?_
        refine ww_iload_n 143 X dX13_sign8_143 1 rfl rfl ?_
        refine ww_bipush 144 X (v := (63 : Int32)) dX13_sign8_144 (by decide) ?_
        refine ww_iand 146 X dX13_sign8_146 ?_
        refine ww_ior 147 X dX13_sign8_147 ?_
        obtain ⟨_, f148, h⟩ := bO_some h
        obtain ⟨M148, e148, h⟩ := bO_some h
        refine ww_callVV0 148 X dX13_sign8_148 mY_X13_keep8 mL_X13_402 (rcv_spec f148) ⟨_, _, rfl⟩ (by decide) (As := [.int ((128 : Int32) ||| (l1 &&& (63 : Int32)))]) (rest := []) rfl rfl ⟨Nat.le_of_ble_eq_true rfl, Nat.le_of_ble_eq_true rfl⟩ (Nat.le_of_ble_eq_true rfl) (fun l D A => c_X13_keep8 l D A e148) ?_
        exact ww_vretE 151 X hQ dX13_sign8_151 h
      · replace h := (if_neg q).symm.trans h
        refine ww_aload_n 55 X dX13_sign8_55 0 rfl rfl ?_
        refine ww_sipush 56 X (v := (224 : Int32)) dX13_sign8_56 (by decide) ?_
        refine ww_iload_n 59 X dX13_sign8_59 1 rfl rfl ?_
        refine ww_bipush 60 X (v := (12 : Int32)) dX13_sign8_60 (by decide) ?_
        refine ww_ishr 62 X dX13_sign8_62 ?_
        refine ww_ior 63 X dX13_sign8_63 ?_
        obtain ⟨_, f64, h⟩ := bO_some h
        obtain ⟨M64, e64, h⟩ := bO_some h
        refine ww_callVV0 64 X dX13_sign8_64 mY_X13_keep8 mL_X13_402 (rcv_spec f64) ⟨_, _, rfl⟩ (by decide) (As := [.int ((224 : Int32) ||| (l1 >>> ((12 : Int32) &&& 31)))]) (rest := []) rfl rfl ⟨Nat.le_of_ble_eq_true rfl, Nat.le_of_ble_eq_true rfl⟩ (Nat.le_of_ble_eq_true rfl) (fun l D A => c_X13_keep8 l D A e64) ?_
        refine ww_aload_n 67 X dX13_sign8_67 0 rfl rfl ?_
        refine ww_sipush 68 X (v := (128 : Int32)) dX13_sign8_68 (by decide) ?_
        refine ww_iload_n 71 X dX13_sign8_71 1 rfl rfl ?_
        refine ww_bipush 72 X (v := (6 : Int32)) dX13_sign8_72 (by decide) ?_
        refine ww_ishr 74 X dX13_sign8_74 ?_
        refine ww_bipush 75 X (v := (63 : Int32)) dX13_sign8_75 (by decide) ?_
        refine ww_iand 77 X dX13_sign8_77 ?_
        refine ww_ior 78 X dX13_sign8_78 ?_
        obtain ⟨_, f79, h⟩ := bO_some h
        obtain ⟨M79, e79, h⟩ := bO_some h
        refine ww_callVV0 79 X dX13_sign8_79 mY_X13_keep8 mL_X13_402 (rcv_spec f79) ⟨_, _, rfl⟩ (by decide) (As := [.int ((128 : Int32) ||| ((l1 >>> ((6 : Int32) &&& 31)) &&& (63 : Int32)))]) (rest := []) rfl rfl ⟨Nat.le_of_ble_eq_true rfl, Nat.le_of_ble_eq_true rfl⟩ (Nat.le_of_ble_eq_true rfl) (fun l D A => c_X13_keep8 l D A e79) ?_
        refine ww_aload_n 82 X dX13_sign8_82 0 rfl rfl ?_
        refine ww_sipush 83 X (v := (128 : Int32)) dX13_sign8_83 (by decide) ?_
        refine ww_iload_n 86 X dX13_sign8_86 1 rfl rfl ?_
        refine ww_bipush 87 X (v := (63 : Int32)) dX13_sign8_87 (by decide) ?_
        refine ww_iand 89 X dX13_sign8_89 ?_
        refine ww_ior 90 X dX13_sign8_90 ?_
        obtain ⟨_, f91, h⟩ := bO_some h
        obtain ⟨M91, e91, h⟩ := bO_some h
        refine ww_callVV0 91 X dX13_sign8_91 mY_X13_keep8 mL_X13_402 (rcv_spec f91) ⟨_, _, rfl⟩ (by decide) (As := [.int ((128 : Int32) ||| (l1 &&& (63 : Int32)))]) (rest := []) rfl rfl ⟨Nat.le_of_ble_eq_true rfl, Nat.le_of_ble_eq_true rfl⟩ (Nat.le_of_ble_eq_true rfl) (fun l D A => c_X13_keep8 l D A e91) ?_
        refine ww_goto 94 151 X dX13_sign8_94 (by decide) ?_
        exact ww_vretE 151 X hQ dX13_sign8_151 h
    · replace h := (if_neg q).symm.trans h
      refine ww_aload_n 22 X dX13_sign8_22 0 rfl rfl ?_
      refine ww_sipush 23 X (v := (192 : Int32)) dX13_sign8_23 (by decide) ?_
      refine ww_iload_n 26 X dX13_sign8_26 1 rfl rfl ?_
      refine ww_bipush 27 X (v := (6 : Int32)) dX13_sign8_27 (by decide) ?_
      refine ww_ishr 29 X dX13_sign8_29 ?_
      refine ww_ior 30 X dX13_sign8_30 ?_
      obtain ⟨_, f31, h⟩ := bO_some h
      obtain ⟨M31, e31, h⟩ := bO_some h
      refine ww_callVV0 31 X dX13_sign8_31 mY_X13_keep8 mL_X13_402 (rcv_spec f31) ⟨_, _, rfl⟩ (by decide) (As := [.int ((192 : Int32) ||| (l1 >>> ((6 : Int32) &&& 31)))]) (rest := []) rfl rfl ⟨Nat.le_of_ble_eq_true rfl, Nat.le_of_ble_eq_true rfl⟩ (Nat.le_of_ble_eq_true rfl) (fun l D A => c_X13_keep8 l D A e31) ?_
      refine ww_aload_n 34 X dX13_sign8_34 0 rfl rfl ?_
      refine ww_sipush 35 X (v := (128 : Int32)) dX13_sign8_35 (by decide) ?_
      refine ww_iload_n 38 X dX13_sign8_38 1 rfl rfl ?_
      refine ww_bipush 39 X (v := (63 : Int32)) dX13_sign8_39 (by decide) ?_
      refine ww_iand 41 X dX13_sign8_41 ?_
      refine ww_ior 42 X dX13_sign8_42 ?_
      obtain ⟨_, f43, h⟩ := bO_some h
      obtain ⟨M43, e43, h⟩ := bO_some h
      refine ww_callVV0 43 X dX13_sign8_43 mY_X13_keep8 mL_X13_402 (rcv_spec f43) ⟨_, _, rfl⟩ (by decide) (As := [.int ((128 : Int32) ||| (l1 &&& (63 : Int32)))]) (rest := []) rfl rfl ⟨Nat.le_of_ble_eq_true rfl, Nat.le_of_ble_eq_true rfl⟩ (Nat.le_of_ble_eq_true rfl) (fun l D A => c_X13_keep8 l D A e43) ?_
      refine ww_goto 46 151 X dX13_sign8_46 (by decide) ?_
      exact ww_vretE 151 X hQ dX13_sign8_151 h
  · replace h := (if_neg q).symm.trans h
    refine ww_aload_n 7 X dX13_sign8_7 0 rfl rfl ?_
    refine ww_iload_n 8 X dX13_sign8_8 1 rfl rfl ?_
    obtain ⟨_, f9, h⟩ := bO_some h
    obtain ⟨M9, e9, h⟩ := bO_some h
    refine ww_callVV0 9 X dX13_sign8_9 mY_X13_keep8 mL_X13_402 (rcv_spec f9) ⟨_, _, rfl⟩ (by decide) (As := [.int l1]) (rest := []) rfl rfl ⟨Nat.le_of_ble_eq_true rfl, Nat.le_of_ble_eq_true rfl⟩ (Nat.le_of_ble_eq_true rfl) (fun l D A => c_X13_keep8 l D A e9) ?_
    refine ww_goto 12 151 X dX13_sign8_12 (by decide) ?_
    exact ww_vretE 151 X hQ dX13_sign8_151 h
theorem c_X13_sign8 {G : Nat → Nat} {F sz : Nat} {M0 : mM} (l : Launch) (D : mD) (A : Nat → Prop) {l0 : Nat} {l1 : Int32} {M : mM} (h : P_X13_sign8 G F l0 l1 M = some M0) : mMetV l D G A yX13_sign8 cX13_sign8 2 none 1 21 0 0 [.ref l0, .int l1] M sz M0 sz := mMetV_of l D G A (by decide) (Nat.le_of_ble_eq_true rfl) (fun x X hQ => wP_X13_sign8 X hQ h)
/-! SealedTokensModel.escape()V -/
theorem dX13_escape_0 : decode cX13_escape 0 = .ok (.aload_n 0, 1) := by decide +kernel
theorem dX13_escape_1 : decode cX13_escape 1 = .ok (.invokevirtual 351, 3) := by decide +kernel
theorem dX13_escape_4 : decode cX13_escape 4 = .ok (.istore_n 1, 1) := by decide +kernel
theorem dX13_escape_5 : decode cX13_escape 5 = .ok (.iload_n 1, 1) := by decide +kernel
theorem dX13_escape_6 : decode cX13_escape 6 = .ok (.ifCond .ge 7, 3) := by decide +kernel
theorem dX13_escape_9 : decode cX13_escape 9 = .ok (.iconst (-1), 1) := by decide +kernel
theorem dX13_escape_10 : decode cX13_escape 10 = .ok (.goto 10, 3) := by decide +kernel
theorem dX13_escape_13 : decode cX13_escape 13 = .ok (.ldc_w 430, 3) := by decide +kernel
theorem dX13_escape_16 : decode cX13_escape 16 = .ok (.iload_n 1, 1) := by decide +kernel
theorem dX13_escape_17 : decode cX13_escape 17 = .ok (.invokevirtual 432, 3) := by decide +kernel
theorem dX13_escape_20 : decode cX13_escape 20 = .ok (.istore_n 2, 1) := by decide +kernel
theorem dX13_escape_21 : decode cX13_escape 21 = .ok (.iload_n 2, 1) := by decide +kernel
theorem dX13_escape_22 : decode cX13_escape 22 = .ok (.ifCond .ge 12, 3) := by decide +kernel
theorem dX13_escape_25 : decode cX13_escape 25 = .ok (.aload_n 0, 1) := by decide +kernel
theorem dX13_escape_26 : decode cX13_escape 26 = .ok (.aload_n 0, 1) := by decide +kernel
theorem dX13_escape_27 : decode cX13_escape 27 = .ok (.getfield 336, 3) := by decide +kernel
theorem dX13_escape_30 : decode cX13_escape 30 = .ok (.invokevirtual 375, 3) := by decide +kernel
theorem dX13_escape_33 : decode cX13_escape 33 = .ok (.return_, 1) := by decide +kernel
theorem dX13_escape_34 : decode cX13_escape 34 = .ok (.aload_n 0, 1) := by decide +kernel
theorem dX13_escape_35 : decode cX13_escape 35 = .ok (.dup, 1) := by decide +kernel
theorem dX13_escape_36 : decode cX13_escape 36 = .ok (.getfield 336, 3) := by decide +kernel
theorem dX13_escape_39 : decode cX13_escape 39 = .ok (.iconst 1, 1) := by decide +kernel
theorem dX13_escape_40 : decode cX13_escape 40 = .ok (.iadd, 1) := by decide +kernel
theorem dX13_escape_41 : decode cX13_escape 41 = .ok (.putfield 336, 3) := by decide +kernel
theorem dX13_escape_44 : decode cX13_escape 44 = .ok (.iload_n 1, 1) := by decide +kernel
theorem dX13_escape_45 : decode cX13_escape 45 = .ok (.bipush 117, 2) := by decide +kernel
theorem dX13_escape_47 : decode cX13_escape 47 = .ok (.if_icmp .eq 60, 3) := by decide +kernel
theorem dX13_escape_50 : decode cX13_escape 50 = .ok (.aload_n 0, 1) := by decide +kernel
theorem dX13_escape_51 : decode cX13_escape 51 = .ok (.iload_n 2, 1) := by decide +kernel
theorem dX13_escape_52 : decode cX13_escape 52 = .ok (.iconst 3, 1) := by decide +kernel
theorem dX13_escape_53 : decode cX13_escape 53 = .ok (.if_icmp .ge 7, 3) := by decide +kernel
theorem dX13_escape_56 : decode cX13_escape 56 = .ok (.iload_n 1, 1) := by decide +kernel
theorem dX13_escape_57 : decode cX13_escape 57 = .ok (.goto 46, 3) := by decide +kernel
theorem dX13_escape_60 : decode cX13_escape 60 = .ok (.iload_n 2, 1) := by decide +kernel
theorem dX13_escape_61 : decode cX13_escape 61 = .ok (.iconst 3, 1) := by decide +kernel
theorem dX13_escape_62 : decode cX13_escape 62 = .ok (.if_icmp .ne 8, 3) := by decide +kernel
theorem dX13_escape_65 : decode cX13_escape 65 = .ok (.bipush 8, 2) := by decide +kernel
theorem dX13_escape_67 : decode cX13_escape 67 = .ok (.goto 36, 3) := by decide +kernel
theorem dX13_escape_70 : decode cX13_escape 70 = .ok (.iload_n 2, 1) := by decide +kernel
theorem dX13_escape_71 : decode cX13_escape 71 = .ok (.iconst 4, 1) := by decide +kernel
theorem dX13_escape_72 : decode cX13_escape 72 = .ok (.if_icmp .ne 8, 3) := by decide +kernel
theorem dX13_escape_75 : decode cX13_escape 75 = .ok (.bipush 12, 2) := by decide +kernel
theorem dX13_escape_77 : decode cX13_escape 77 = .ok (.goto 26, 3) := by decide +kernel
theorem dX13_escape_80 : decode cX13_escape 80 = .ok (.iload_n 2, 1) := by decide +kernel
theorem dX13_escape_81 : decode cX13_escape 81 = .ok (.iconst 5, 1) := by decide +kernel
theorem dX13_escape_82 : decode cX13_escape 82 = .ok (.if_icmp .ne 8, 3) := by decide +kernel
theorem dX13_escape_85 : decode cX13_escape 85 = .ok (.bipush 10, 2) := by decide +kernel
theorem dX13_escape_87 : decode cX13_escape 87 = .ok (.goto 16, 3) := by decide +kernel
theorem dX13_escape_90 : decode cX13_escape 90 = .ok (.iload_n 2, 1) := by decide +kernel
theorem dX13_escape_91 : decode cX13_escape 91 = .ok (.bipush 6, 2) := by decide +kernel
theorem dX13_escape_93 : decode cX13_escape 93 = .ok (.if_icmp .ne 8, 3) := by decide +kernel
theorem dX13_escape_96 : decode cX13_escape 96 = .ok (.bipush 13, 2) := by decide +kernel
theorem dX13_escape_98 : decode cX13_escape 98 = .ok (.goto 5, 3) := by decide +kernel
theorem dX13_escape_101 : decode cX13_escape 101 = .ok (.bipush 9, 2) := by decide +kernel
theorem dX13_escape_103 : decode cX13_escape 103 = .ok (.invokevirtual 402, 3) := by decide +kernel
theorem dX13_escape_106 : decode cX13_escape 106 = .ok (.return_, 1) := by decide +kernel
theorem dX13_escape_107 : decode cX13_escape 107 = .ok (.aload_n 0, 1) := by decide +kernel
theorem dX13_escape_108 : decode cX13_escape 108 = .ok (.iconst 0, 1) := by decide +kernel
theorem dX13_escape_109 : decode cX13_escape 109 = .ok (.invokevirtual 436, 3) := by decide +kernel
theorem dX13_escape_112 : decode cX13_escape 112 = .ok (.istore_n 3, 1) := by decide +kernel
theorem dX13_escape_113 : decode cX13_escape 113 = .ok (.aload_n 0, 1) := by decide +kernel
theorem dX13_escape_114 : decode cX13_escape 114 = .ok (.invokevirtual 371, 3) := by decide +kernel
theorem dX13_escape_117 : decode cX13_escape 117 = .ok (.ifCond .eq 103, 3) := by decide +kernel
theorem dX13_escape_120 : decode cX13_escape 120 = .ok (.iload_n 3, 1) := by decide +kernel
theorem dX13_escape_121 : decode cX13_escape 121 = .ok (.ldc_w 440, 3) := by decide +kernel
theorem dX13_escape_124 : decode cX13_escape 124 = .ok (.if_icmp .lt 96, 3) := by decide +kernel
theorem dX13_escape_127 : decode cX13_escape 127 = .ok (.iload_n 3, 1) := by decide +kernel
theorem dX13_escape_128 : decode cX13_escape 128 = .ok (.ldc_w 441, 3) := by decide +kernel
theorem dX13_escape_131 : decode cX13_escape 131 = .ok (.if_icmp .gt 89, 3) := by decide +kernel
theorem dX13_escape_134 : decode cX13_escape 134 = .ok (.aload_n 0, 1) := by decide +kernel
theorem dX13_escape_135 : decode cX13_escape 135 = .ok (.invokevirtual 351, 3) := by decide +kernel
theorem dX13_escape_138 : decode cX13_escape 138 = .ok (.bipush 92, 2) := by decide +kernel
theorem dX13_escape_140 : decode cX13_escape 140 = .ok (.if_icmp .ne 72, 3) := by decide +kernel
theorem dX13_escape_143 : decode cX13_escape 143 = .ok (.aload_n 0, 1) := by decide +kernel
theorem dX13_escape_144 : decode cX13_escape 144 = .ok (.dup, 1) := by decide +kernel
theorem dX13_escape_145 : decode cX13_escape 145 = .ok (.getfield 336, 3) := by decide +kernel
theorem dX13_escape_148 : decode cX13_escape 148 = .ok (.iconst 1, 1) := by decide +kernel
theorem dX13_escape_149 : decode cX13_escape 149 = .ok (.iadd, 1) := by decide +kernel
theorem dX13_escape_150 : decode cX13_escape 150 = .ok (.putfield 336, 3) := by decide +kernel
theorem dX13_escape_153 : decode cX13_escape 153 = .ok (.aload_n 0, 1) := by decide +kernel
theorem dX13_escape_154 : decode cX13_escape 154 = .ok (.invokevirtual 351, 3) := by decide +kernel
theorem dX13_escape_157 : decode cX13_escape 157 = .ok (.bipush 117, 2) := by decide +kernel
theorem dX13_escape_159 : decode cX13_escape 159 = .ok (.if_icmp .ne 42, 3) := by decide +kernel
theorem dX13_escape_162 : decode cX13_escape 162 = .ok (.aload_n 0, 1) := by decide +kernel
theorem dX13_escape_163 : decode cX13_escape 163 = .ok (.dup, 1) := by decide +kernel
theorem dX13_escape_164 : decode cX13_escape 164 = .ok (.getfield 336, 3) := by decide +kernel
theorem dX13_escape_167 : decode cX13_escape 167 = .ok (.iconst 1, 1) := by decide +kernel
theorem dX13_escape_168 : decode cX13_escape 168 = .ok (.iadd, 1) := by decide +kernel
theorem dX13_escape_169 : decode cX13_escape 169 = .ok (.putfield 336, 3) := by decide +kernel
theorem dX13_escape_172 : decode cX13_escape 172 = .ok (.aload_n 0, 1) := by decide +kernel
theorem dX13_escape_173 : decode cX13_escape 173 = .ok (.iconst 1, 1) := by decide +kernel
theorem dX13_escape_174 : decode cX13_escape 174 = .ok (.invokevirtual 436, 3) := by decide +kernel
theorem dX13_escape_177 : decode cX13_escape 177 = .ok (.istore 4, 2) := by decide +kernel
theorem dX13_escape_179 : decode cX13_escape 179 = .ok (.ldc 13, 2) := by decide +kernel
theorem dX13_escape_181 : decode cX13_escape 181 = .ok (.iload_n 3, 1) := by decide +kernel
theorem dX13_escape_182 : decode cX13_escape 182 = .ok (.ldc_w 440, 3) := by decide +kernel
theorem dX13_escape_185 : decode cX13_escape 185 = .ok (.isub, 1) := by decide +kernel
theorem dX13_escape_186 : decode cX13_escape 186 = .ok (.bipush 10, 2) := by decide +kernel
theorem dX13_escape_188 : decode cX13_escape 188 = .ok (.ishl, 1) := by decide +kernel
theorem dX13_escape_189 : decode cX13_escape 189 = .ok (.iadd, 1) := by decide +kernel
theorem dX13_escape_190 : decode cX13_escape 190 = .ok (.iload 4, 2) := by decide +kernel
theorem dX13_escape_192 : decode cX13_escape 192 = .ok (.iadd, 1) := by decide +kernel
theorem dX13_escape_193 : decode cX13_escape 193 = .ok (.ldc_w 442, 3) := by decide +kernel
theorem dX13_escape_196 : decode cX13_escape 196 = .ok (.isub, 1) := by decide +kernel
theorem dX13_escape_197 : decode cX13_escape 197 = .ok (.istore_n 3, 1) := by decide +kernel
theorem dX13_escape_198 : decode cX13_escape 198 = .ok (.goto 22, 3) := by decide +kernel
theorem dX13_escape_201 : decode cX13_escape 201 = .ok (.aload_n 0, 1) := by decide +kernel
theorem dX13_escape_202 : decode cX13_escape 202 = .ok (.aload_n 0, 1) := by decide +kernel
theorem dX13_escape_203 : decode cX13_escape 203 = .ok (.getfield 336, 3) := by decide +kernel
theorem dX13_escape_206 : decode cX13_escape 206 = .ok (.invokevirtual 375, 3) := by decide +kernel
theorem dX13_escape_209 : decode cX13_escape 209 = .ok (.goto 11, 3) := by decide +kernel
theorem dX13_escape_212 : decode cX13_escape 212 = .ok (.aload_n 0, 1) := by decide +kernel
theorem dX13_escape_213 : decode cX13_escape 213 = .ok (.aload_n 0, 1) := by decide +kernel
theorem dX13_escape_214 : decode cX13_escape 214 = .ok (.getfield 336, 3) := by decide +kernel
theorem dX13_escape_217 : decode cX13_escape 217 = .ok (.invokevirtual 375, 3) := by decide +kernel
theorem dX13_escape_220 : decode cX13_escape 220 = .ok (.aload_n 0, 1) := by decide +kernel
theorem dX13_escape_221 : decode cX13_escape 221 = .ok (.invokevirtual 371, 3) := by decide +kernel
theorem dX13_escape_224 : decode cX13_escape 224 = .ok (.ifCond .eq 8, 3) := by decide +kernel
theorem dX13_escape_227 : decode cX13_escape 227 = .ok (.aload_n 0, 1) := by decide +kernel
theorem dX13_escape_228 : decode cX13_escape 228 = .ok (.iload_n 3, 1) := by decide +kernel
theorem dX13_escape_229 : decode cX13_escape 229 = .ok (.invokevirtual 443, 3) := by decide +kernel
theorem dX13_escape_232 : decode cX13_escape 232 = .ok (.return_, 1) := by decide +kernel
abbrev rmX13_escape : Room := { frames := 4, cells := 0, slots := 0, locals := 91 }
def B_X13_escape_20 (G : Nat → Nat) (F : Nat) (l0 : Nat) (l1 : Int32) (s0 : Int32) (M : mM) : Option mM :=
  if 0 ≤ s0 then (bO (gfI M l0 13 22) fun v36 =>
  bO (pfv M l0 13 22 (.int (v36 + (1 : Int32)))) fun M41 =>
  if l1 = (117 : Int32) then (bO (rcv M41 l0 13) fun _ =>
  bP (P_X13_four G F l0 (0 : Int32) M41) fun v109 M109 =>
  bO (rcv M109 l0 13) fun _ =>
  bP (P_X13_good G F l0 M109) fun v114 M114 =>
  if v114 = 0 then (bO (rcv M114 l0 13) fun _ =>
  bP (P_X13_good G F l0 M114) fun v221 M221 =>
  if v221 = 0 then (some M221)
  else (bO (rcv M221 l0 13) fun _ =>
  bO (P_X13_sign8 G F l0 v109 M221) fun M229 =>
  some M229))
  else (if v109 < (55296 : Int32) then (bO (rcv M114 l0 13) fun _ =>
  bP (P_X13_good G F l0 M114) fun v221 M221 =>
  if v221 = 0 then (some M221)
  else (bO (rcv M221 l0 13) fun _ =>
  bO (P_X13_sign8 G F l0 v109 M221) fun M229 =>
  some M229))
  else (if (56319 : Int32) < v109 then (bO (rcv M114 l0 13) fun _ =>
  bP (P_X13_good G F l0 M114) fun v221 M221 =>
  if v221 = 0 then (some M221)
  else (bO (rcv M221 l0 13) fun _ =>
  bO (P_X13_sign8 G F l0 v109 M221) fun M229 =>
  some M229))
  else (bO (rcv M114 l0 13) fun _ =>
  bP (P_X13_at G F l0 M114) fun v135 M135 =>
  if v135 = (92 : Int32) then (bO (gfI M135 l0 13 22) fun v145 =>
  bO (pfv M135 l0 13 22 (.int (v145 + (1 : Int32)))) fun M150 =>
  bO (rcv M150 l0 13) fun _ =>
  bP (P_X13_at G F l0 M150) fun v154 M154 =>
  if v154 = (117 : Int32) then (bO (gfI M154 l0 13 22) fun v164 =>
  bO (pfv M154 l0 13 22 (.int (v164 + (1 : Int32)))) fun M169 =>
  bO (rcv M169 l0 13) fun _ =>
  bP (P_X13_four G F l0 (1 : Int32) M169) fun v174 M174 =>
  bO (rcv M174 l0 13) fun _ =>
  bP (P_X13_good G F l0 M174) fun v221 M221 =>
  if v221 = 0 then (some M221)
  else (bO (rcv M221 l0 13) fun _ =>
  bO (P_X13_sign8 G F l0 ((((65536 : Int32) + ((v109 - (55296 : Int32)) <<< ((10 : Int32) &&& 31))) + v174) - (56320 : Int32)) M221) fun M229 =>
  some M229))
  else (bO (gfI M154 l0 13 22) fun v203 =>
  bO (rcv M154 l0 13) fun _ =>
  bO (P_X13_fail G F l0 v203 M154) fun M206 =>
  bO (rcv M206 l0 13) fun _ =>
  bP (P_X13_good G F l0 M206) fun v221 M221 =>
  if v221 = 0 then (some M221)
  else (bO (rcv M221 l0 13) fun _ =>
  bO (P_X13_sign8 G F l0 v109 M221) fun M229 =>
  some M229)))
  else (bO (gfI M135 l0 13 22) fun v214 =>
  bO (rcv M135 l0 13) fun _ =>
  bO (P_X13_fail G F l0 v214 M135) fun M217 =>
  bO (rcv M217 l0 13) fun _ =>
  bP (P_X13_good G F l0 M217) fun v221 M221 =>
  if v221 = 0 then (some M221)
  else (bO (rcv M221 l0 13) fun _ =>
  bO (P_X13_sign8 G F l0 v109 M221) fun M229 =>
  some M229))))))
  else (if (3 : Int32) ≤ s0 then (if s0 = (3 : Int32) then (bO (rcv M41 l0 13) fun _ =>
  bO (P_X13_keep8 G F l0 (8 : Int32) M41) fun M103 =>
  some M103)
  else (if s0 = (4 : Int32) then (bO (rcv M41 l0 13) fun _ =>
  bO (P_X13_keep8 G F l0 (12 : Int32) M41) fun M103 =>
  some M103)
  else (if s0 = (5 : Int32) then (bO (rcv M41 l0 13) fun _ =>
  bO (P_X13_keep8 G F l0 (10 : Int32) M41) fun M103 =>
  some M103)
  else (if s0 = (6 : Int32) then (bO (rcv M41 l0 13) fun _ =>
  bO (P_X13_keep8 G F l0 (13 : Int32) M41) fun M103 =>
  some M103)
  else (bO (rcv M41 l0 13) fun _ =>
  bO (P_X13_keep8 G F l0 (9 : Int32) M41) fun M103 =>
  some M103)))))
  else (bO (rcv M41 l0 13) fun _ =>
  bO (P_X13_keep8 G F l0 l1 M41) fun M103 =>
  some M103)))
  else (bO (gfI M l0 13 22) fun v27 =>
  bO (rcv M l0 13) fun _ =>
  bO (P_X13_fail G F l0 v27 M) fun M30 =>
  some M30)
set_option maxHeartbeats 4000000 in
set_option maxRecDepth 100000 in
theorem wB_X13_escape_20 {G : Nat → Nat} {F : Nat} {x : mXT} {sz : Nat} {M0 : mM} (X : mCX G RX13 cX13_escape 5 none "escape" rmX13_escape x) (hQ : mQV x M0 (sz, 0, 0)) {l0 : Nat} {l1 : Int32} {s0 : Int32} {M : mM} (h : B_X13_escape_20 G F l0 l1 s0 M = some M0) : WW x (sz, 0, 0) M 20 [(0, .ref l0), (1, .int l1)] [.int s0] := by
  unfold B_X13_escape_20 at h
  refine ww_istore_n 20 X dX13_escape_20 (lv' := [(0, .ref l0), (1, .int l1), (2, .int s0)]) rfl (by decide) [1, 2, 0] rfl ?_
  refine ww_iload_n 21 X dX13_escape_21 2 rfl rfl ?_
  refine ww_if_ge 22 34 X dX13_escape_22 (by decide) (fun q => ?_) (fun q => ?_)
  · replace h := (if_pos q).symm.trans h
    refine ww_aload_n 34 X dX13_escape_34 0 rfl rfl ?_
    refine ww_dup 35 X dX13_escape_35 rfl ?_
    obtain ⟨v36, e36, h⟩ := bO_some h
    refine ww_getI 36 X dX13_escape_36 fG_X13_336 e36 ?_
    refine ww_iconst 39 X (v := (1 : Int32)) dX13_escape_39 (by decide) ?_
    refine ww_iadd 40 X dX13_escape_40 ?_
    obtain ⟨M41, e41, h⟩ := bO_some h
    refine ww_putI 41 X dX13_escape_41 (fP_X13_336 _) e41 ?_
    refine ww_iload_n 44 X dX13_escape_44 1 rfl rfl ?_
    refine ww_bipush 45 X (v := (117 : Int32)) dX13_escape_45 (by decide) ?_
    refine ww_icmp_eq 47 107 X dX13_escape_47 (by decide) (fun q => ?_) (fun q => ?_)
    · replace h := (if_pos q).symm.trans h
      refine ww_aload_n 107 X dX13_escape_107 0 rfl rfl ?_
      refine ww_iconst 108 X (v := (0 : Int32)) dX13_escape_108 (by decide) ?_
      obtain ⟨_, f109, h⟩ := bO_some h
      obtain ⟨v109, M109, e109, h⟩ := bP_some h
      refine ww_callVI0 109 X dX13_escape_109 mY_X13_four mL_X13_436 (rcv_spec f109) ⟨_, _, rfl⟩ (by decide) (As := [.int (0 : Int32)]) (rest := []) rfl rfl ⟨Nat.le_of_ble_eq_true rfl, Nat.le_of_ble_eq_true rfl⟩ (Nat.le_of_ble_eq_true rfl) (fun l D A => c_X13_four l D A e109) ?_
      refine ww_istore_n 112 X dX13_escape_112 (lv' := [(0, .ref l0), (1, .int l1), (2, .int s0), (3, .int v109)]) rfl (by decide) [1, 2, 3, 0] rfl ?_
      refine ww_aload_n 113 X dX13_escape_113 0 rfl rfl ?_
      obtain ⟨_, f114, h⟩ := bO_some h
      obtain ⟨v114, M114, e114, h⟩ := bP_some h
      refine ww_callVI0 114 X dX13_escape_114 mY_X13_good mL_X13_371 (rcv_spec f114) ⟨_, _, rfl⟩ (by decide) (As := []) (rest := []) rfl rfl ⟨Nat.le_of_ble_eq_true rfl, Nat.le_of_ble_eq_true rfl⟩ (Nat.le_of_ble_eq_true rfl) (fun l D A => c_X13_good l D A e114) ?_
      refine ww_if_eq 117 220 X dX13_escape_117 (by decide) (fun q => ?_) (fun q => ?_)
      · replace h := (if_pos q).symm.trans h
        refine ww_aload_n 220 X dX13_escape_220 0 rfl rfl ?_
        obtain ⟨_, f221, h⟩ := bO_some h
        obtain ⟨v221, M221, e221, h⟩ := bP_some h
        refine ww_callVI0 221 X dX13_escape_221 mY_X13_good mL_X13_371 (rcv_spec f221) ⟨_, _, rfl⟩ (by decide) (As := []) (rest := []) rfl rfl ⟨Nat.le_of_ble_eq_true rfl, Nat.le_of_ble_eq_true rfl⟩ (Nat.le_of_ble_eq_true rfl) (fun l D A => c_X13_good l D A e221) ?_
        refine ww_if_eq 224 232 X dX13_escape_224 (by decide) (fun q => ?_) (fun q => ?_)
        · replace h := (if_pos q).symm.trans h
          exact ww_vretE 232 X hQ dX13_escape_232 h
        · replace h := (if_neg q).symm.trans h
          refine ww_aload_n 227 X dX13_escape_227 0 rfl rfl ?_
          refine ww_iload_n 228 X dX13_escape_228 3 rfl rfl ?_
          obtain ⟨_, f229, h⟩ := bO_some h
          obtain ⟨M229, e229, h⟩ := bO_some h
          refine ww_callVV0 229 X dX13_escape_229 mY_X13_sign8 mL_X13_443 (rcv_spec f229) ⟨_, _, rfl⟩ (by decide) (As := [.int v109]) (rest := []) rfl rfl ⟨Nat.le_of_ble_eq_true rfl, Nat.le_of_ble_eq_true rfl⟩ (Nat.le_of_ble_eq_true rfl) (fun l D A => c_X13_sign8 l D A e229) ?_
          exact ww_vretE 232 X hQ dX13_escape_232 h
      · replace h := (if_neg q).symm.trans h
        refine ww_iload_n 120 X dX13_escape_120 3 rfl rfl ?_
        refine ww_ldcw 121 X (v := (55296 : Int32)) dX13_escape_121 kI_X13_440 ?_
        refine ww_icmp_lt 124 220 X dX13_escape_124 (by decide) (fun q => ?_) (fun q => ?_)
        · replace h := (if_pos q).symm.trans h
          refine ww_aload_n 220 X dX13_escape_220 0 rfl rfl ?_
          obtain ⟨_, f221, h⟩ := bO_some h
          obtain ⟨v221, M221, e221, h⟩ := bP_some h
          refine ww_callVI0 221 X dX13_escape_221 mY_X13_good mL_X13_371 (rcv_spec f221) ⟨_, _, rfl⟩ (by decide) (As := []) (rest := []) rfl rfl ⟨Nat.le_of_ble_eq_true rfl, Nat.le_of_ble_eq_true rfl⟩ (Nat.le_of_ble_eq_true rfl) (fun l D A => c_X13_good l D A e221) ?_
          refine ww_if_eq 224 232 X dX13_escape_224 (by decide) (fun q => ?_) (fun q => ?_)
          · replace h := (if_pos q).symm.trans h
            exact ww_vretE 232 X hQ dX13_escape_232 h
          · replace h := (if_neg q).symm.trans h
            refine ww_aload_n 227 X dX13_escape_227 0 rfl rfl ?_
            refine ww_iload_n 228 X dX13_escape_228 3 rfl rfl ?_
            obtain ⟨_, f229, h⟩ := bO_some h
            obtain ⟨M229, e229, h⟩ := bO_some h
            refine ww_callVV0 229 X dX13_escape_229 mY_X13_sign8 mL_X13_443 (rcv_spec f229) ⟨_, _, rfl⟩ (by decide) (As := [.int v109]) (rest := []) rfl rfl ⟨Nat.le_of_ble_eq_true rfl, Nat.le_of_ble_eq_true rfl⟩ (Nat.le_of_ble_eq_true rfl) (fun l D A => c_X13_sign8 l D A e229) ?_
            exact ww_vretE 232 X hQ dX13_escape_232 h
        · replace h := (if_neg q).symm.trans h
          refine ww_iload_n 127 X dX13_escape_127 3 rfl rfl ?_
          refine ww_ldcw 128 X (v := (56319 : Int32)) dX13_escape_128 kI_X13_441 ?_
          refine ww_icmp_gt 131 220 X dX13_escape_131 (by decide) (fun q => ?_) (fun q => ?_)
          · replace h := (if_pos q).symm.trans h
            refine ww_aload_n 220 X dX13_escape_220 0 rfl rfl ?_
            obtain ⟨_, f221, h⟩ := bO_some h
            obtain ⟨v221, M221, e221, h⟩ := bP_some h
            refine ww_callVI0 221 X dX13_escape_221 mY_X13_good mL_X13_371 (rcv_spec f221) ⟨_, _, rfl⟩ (by decide) (As := []) (rest := []) rfl rfl ⟨Nat.le_of_ble_eq_true rfl, Nat.le_of_ble_eq_true rfl⟩ (Nat.le_of_ble_eq_true rfl) (fun l D A => c_X13_good l D A e221) ?_
            refine ww_if_eq 224 232 X dX13_escape_224 (by decide) (fun q => ?_) (fun q => ?_)
            · replace h := (if_pos q).symm.trans h
              exact ww_vretE 232 X hQ dX13_escape_232 h
            · replace h := (if_neg q).symm.trans h
              refine ww_aload_n 227 X dX13_escape_227 0 rfl rfl ?_
              refine ww_iload_n 228 X dX13_escape_228 3 rfl rfl ?_
              obtain ⟨_, f229, h⟩ := bO_some h
              obtain ⟨M229, e229, h⟩ := bO_some h
              refine ww_callVV0 229 X dX13_escape_229 mY_X13_sign8 mL_X13_443 (rcv_spec f229) ⟨_, _, rfl⟩ (by decide) (As := [.int v109]) (rest := []) rfl rfl ⟨Nat.le_of_ble_eq_true rfl, Nat.le_of_ble_eq_true rfl⟩ (Nat.le_of_ble_eq_true rfl) (fun l D A => c_X13_sign8 l D A e229) ?_
              exact ww_vretE 232 X hQ dX13_escape_232 h
          · replace h := (if_neg q).symm.trans h
            refine ww_aload_n 134 X dX13_escape_134 0 rfl rfl ?_
            obtain ⟨_, f135, h⟩ := bO_some h
            obtain ⟨v135, M135, e135, h⟩ := bP_some h
            refine ww_callVI0 135 X dX13_escape_135 mY_X13_at mL_X13_351 (rcv_spec f135) ⟨_, _, rfl⟩ (by decide) (As := []) (rest := []) rfl rfl ⟨Nat.le_of_ble_eq_true rfl, Nat.le_of_ble_eq_true rfl⟩ (Nat.le_of_ble_eq_true rfl) (fun l D A => c_X13_at l D A e135) ?_
            refine ww_bipush 138 X (v := (92 : Int32)) dX13_escape_138 (by decide) ?_
            refine ww_icmp_ne 140 212 X dX13_escape_140 (by decide) (fun q => ?_) (fun q => ?_)
            · replace h := (if_neg q).symm.trans h
              refine ww_aload_n 212 X dX13_escape_212 0 rfl rfl ?_
              refine ww_aload_n 213 X dX13_escape_213 0 rfl rfl ?_
              obtain ⟨v214, e214, h⟩ := bO_some h
              refine ww_getI 214 X dX13_escape_214 fG_X13_336 e214 ?_
              obtain ⟨_, f217, h⟩ := bO_some h
              obtain ⟨M217, e217, h⟩ := bO_some h
              refine ww_callVV0 217 X dX13_escape_217 mY_X13_fail mL_X13_375 (rcv_spec f217) ⟨_, _, rfl⟩ (by decide) (As := [.int v214]) (rest := []) rfl rfl ⟨Nat.le_of_ble_eq_true rfl, Nat.le_of_ble_eq_true rfl⟩ (Nat.le_of_ble_eq_true rfl) (fun l D A => c_X13_fail l D A e217) ?_
              refine ww_aload_n 220 X dX13_escape_220 0 rfl rfl ?_
              obtain ⟨_, f221, h⟩ := bO_some h
              obtain ⟨v221, M221, e221, h⟩ := bP_some h
              refine ww_callVI0 221 X dX13_escape_221 mY_X13_good mL_X13_371 (rcv_spec f221) ⟨_, _, rfl⟩ (by decide) (As := []) (rest := []) rfl rfl ⟨Nat.le_of_ble_eq_true rfl, Nat.le_of_ble_eq_true rfl⟩ (Nat.le_of_ble_eq_true rfl) (fun l D A => c_X13_good l D A e221) ?_
              refine ww_if_eq 224 232 X dX13_escape_224 (by decide) (fun q => ?_) (fun q => ?_)
              · replace h := (if_pos q).symm.trans h
                exact ww_vretE 232 X hQ dX13_escape_232 h
              · replace h := (if_neg q).symm.trans h
                refine ww_aload_n 227 X dX13_escape_227 0 rfl rfl ?_
                refine ww_iload_n 228 X dX13_escape_228 3 rfl rfl ?_
                obtain ⟨_, f229, h⟩ := bO_some h
                obtain ⟨M229, e229, h⟩ := bO_some h
                refine ww_callVV0 229 X dX13_escape_229 mY_X13_sign8 mL_X13_443 (rcv_spec f229) ⟨_, _, rfl⟩ (by decide) (As := [.int v109]) (rest := []) rfl rfl ⟨Nat.le_of_ble_eq_true rfl, Nat.le_of_ble_eq_true rfl⟩ (Nat.le_of_ble_eq_true rfl) (fun l D A => c_X13_sign8 l D A e229) ?_
                exact ww_vretE 232 X hQ dX13_escape_232 h
            · replace h := (if_pos q).symm.trans h
              refine ww_aload_n 143 X dX13_escape_143 0 rfl rfl ?_
              refine ww_dup 144 X dX13_escape_144 rfl ?_
              obtain ⟨v145, e145, h⟩ := bO_some h
              refine ww_getI 145 X dX13_escape_145 fG_X13_336 e145 ?_
              refine ww_iconst 148 X (v := (1 : Int32)) dX13_escape_148 (by decide) ?_
              refine ww_iadd 149 X dX13_escape_149 ?_
              obtain ⟨M150, e150, h⟩ := bO_some h
              refine ww_putI 150 X dX13_escape_150 (fP_X13_336 _) e150 ?_
              refine ww_aload_n 153 X dX13_escape_153 0 rfl rfl ?_
              obtain ⟨_, f154, h⟩ := bO_some h
              obtain ⟨v154, M154, e154, h⟩ := bP_some h
              refine ww_callVI0 154 X dX13_escape_154 mY_X13_at mL_X13_351 (rcv_spec f154) ⟨_, _, rfl⟩ (by decide) (As := []) (rest := []) rfl rfl ⟨Nat.le_of_ble_eq_true rfl, Nat.le_of_ble_eq_true rfl⟩ (Nat.le_of_ble_eq_true rfl) (fun l D A => c_X13_at l D A e154) ?_
              refine ww_bipush 157 X (v := (117 : Int32)) dX13_escape_157 (by decide) ?_
              refine ww_icmp_ne 159 201 X dX13_escape_159 (by decide) (fun q => ?_) (fun q => ?_)
              · replace h := (if_neg q).symm.trans h
                refine ww_aload_n 201 X dX13_escape_201 0 rfl rfl ?_
                refine ww_aload_n 202 X dX13_escape_202 0 rfl rfl ?_
                obtain ⟨v203, e203, h⟩ := bO_some h
                refine ww_getI 203 X dX13_escape_203 fG_X13_336 e203 ?_
                obtain ⟨_, f206, h⟩ := bO_some h
                obtain ⟨M206, e206, h⟩ := bO_some h
                refine ww_callVV0 206 X dX13_escape_206 mY_X13_fail mL_X13_375 (rcv_spec f206) ⟨_, _, rfl⟩ (by decide) (As := [.int v203]) (rest := []) rfl rfl ⟨Nat.le_of_ble_eq_true rfl, Nat.le_of_ble_eq_true rfl⟩ (Nat.le_of_ble_eq_true rfl) (fun l D A => c_X13_fail l D A e206) ?_
                refine ww_goto 209 220 X dX13_escape_209 (by decide) ?_
                refine ww_aload_n 220 X dX13_escape_220 0 rfl rfl ?_
                obtain ⟨_, f221, h⟩ := bO_some h
                obtain ⟨v221, M221, e221, h⟩ := bP_some h
                refine ww_callVI0 221 X dX13_escape_221 mY_X13_good mL_X13_371 (rcv_spec f221) ⟨_, _, rfl⟩ (by decide) (As := []) (rest := []) rfl rfl ⟨Nat.le_of_ble_eq_true rfl, Nat.le_of_ble_eq_true rfl⟩ (Nat.le_of_ble_eq_true rfl) (fun l D A => c_X13_good l D A e221) ?_
                refine ww_if_eq 224 232 X dX13_escape_224 (by decide) (fun q => ?_) (fun q => ?_)
                · replace h := (if_pos q).symm.trans h
                  exact ww_vretE 232 X hQ dX13_escape_232 h
                · replace h := (if_neg q).symm.trans h
                  refine ww_aload_n 227 X dX13_escape_227 0 rfl rfl ?_
                  refine ww_iload_n 228 X dX13_escape_228 3 rfl rfl ?_
                  obtain ⟨_, f229, h⟩ := bO_some h
                  obtain ⟨M229, e229, h⟩ := bO_some h
                  refine ww_callVV0 229 X dX13_escape_229 mY_X13_sign8 mL_X13_443 (rcv_spec f229) ⟨_, _, rfl⟩ (by decide) (As := [.int v109]) (rest := []) rfl rfl ⟨Nat.le_of_ble_eq_true rfl, Nat.le_of_ble_eq_true rfl⟩ (Nat.le_of_ble_eq_true rfl) (fun l D A => c_X13_sign8 l D A e229) ?_
                  exact ww_vretE 232 X hQ dX13_escape_232 h
              · replace h := (if_pos q).symm.trans h
                refine ww_aload_n 162 X dX13_escape_162 0 rfl rfl ?_
                refine ww_dup 163 X dX13_escape_163 rfl ?_
                obtain ⟨v164, e164, h⟩ := bO_some h
                refine ww_getI 164 X dX13_escape_164 fG_X13_336 e164 ?_
                refine ww_iconst 167 X (v := (1 : Int32)) dX13_escape_167 (by decide) ?_
                refine ww_iadd 168 X dX13_escape_168 ?_
                obtain ⟨M169, e169, h⟩ := bO_some h
                refine ww_putI 169 X dX13_escape_169 (fP_X13_336 _) e169 ?_
                refine ww_aload_n 172 X dX13_escape_172 0 rfl rfl ?_
                refine ww_iconst 173 X (v := (1 : Int32)) dX13_escape_173 (by decide) ?_
                obtain ⟨_, f174, h⟩ := bO_some h
                obtain ⟨v174, M174, e174, h⟩ := bP_some h
                refine ww_callVI0 174 X dX13_escape_174 mY_X13_four mL_X13_436 (rcv_spec f174) ⟨_, _, rfl⟩ (by decide) (As := [.int (1 : Int32)]) (rest := []) rfl rfl ⟨Nat.le_of_ble_eq_true rfl, Nat.le_of_ble_eq_true rfl⟩ (Nat.le_of_ble_eq_true rfl) (fun l D A => c_X13_four l D A e174) ?_
                refine ww_istore 177 X dX13_escape_177 (lv' := [(0, .ref l0), (1, .int l1), (2, .int s0), (3, .int v109), (4, .int v174)]) (by decide) [1, 2, 3, 4, 0] rfl ?_
                refine ww_ldc 179 X (v := (65536 : Int32)) dX13_escape_179 kI_X13_13 ?_
                refine ww_iload_n 181 X dX13_escape_181 3 rfl rfl ?_
                refine ww_ldcw 182 X (v := (55296 : Int32)) dX13_escape_182 kI_X13_440 ?_
                refine ww_isub 185 X dX13_escape_185 ?_
                refine ww_bipush 186 X (v := (10 : Int32)) dX13_escape_186 (by decide) ?_
                refine ww_ishl 188 X dX13_escape_188 ?_
                refine ww_iadd 189 X dX13_escape_189 ?_
                refine ww_iload 190 X dX13_escape_190 4 rfl ?_
                refine ww_iadd 192 X dX13_escape_192 ?_
                refine ww_ldcw 193 X (v := (56320 : Int32)) dX13_escape_193 kI_X13_442 ?_
                refine ww_isub 196 X dX13_escape_196 ?_
                refine ww_istore_n 197 X dX13_escape_197 (lv' := [(0, .ref l0), (1, .int l1), (2, .int s0), (3, .int ((((65536 : Int32) + ((v109 - (55296 : Int32)) <<< ((10 : Int32) &&& 31))) + v174) - (56320 : Int32))), (4, .int v174)]) rfl (by decide) [1, 2, 3, 0, 4] rfl ?_
                refine ww_goto 198 220 X dX13_escape_198 (by decide) ?_
                refine ww_aload_n 220 X dX13_escape_220 0 rfl rfl ?_
                obtain ⟨_, f221, h⟩ := bO_some h
                obtain ⟨v221, M221, e221, h⟩ := bP_some h
                refine ww_callVI0 221 X dX13_escape_221 mY_X13_good mL_X13_371 (rcv_spec f221) ⟨_, _, rfl⟩ (by decide) (As := []) (rest := []) rfl rfl ⟨Nat.le_of_ble_eq_true rfl, Nat.le_of_ble_eq_true rfl⟩ (Nat.le_of_ble_eq_true rfl) (fun l D A => c_X13_good l D A e221) ?_
                refine ww_if_eq 224 232 X dX13_escape_224 (by decide) (fun q => ?_) (fun q => ?_)
                · replace h := (if_pos q).symm.trans h
                  exact ww_vretE 232 X hQ dX13_escape_232 h
                · replace h := (if_neg q).symm.trans h
                  refine ww_aload_n 227 X dX13_escape_227 0 rfl rfl ?_
                  refine ww_iload_n 228 X dX13_escape_228 3 rfl rfl ?_
                  obtain ⟨_, f229, h⟩ := bO_some h
                  obtain ⟨M229, e229, h⟩ := bO_some h
                  refine ww_callVV0 229 X dX13_escape_229 mY_X13_sign8 mL_X13_443 (rcv_spec f229) ⟨_, _, rfl⟩ (by decide) (As := [.int ((((65536 : Int32) + ((v109 - (55296 : Int32)) <<< ((10 : Int32) &&& 31))) + v174) - (56320 : Int32))]) (rest := []) rfl rfl ⟨Nat.le_of_ble_eq_true rfl, Nat.le_of_ble_eq_true rfl⟩ (Nat.le_of_ble_eq_true rfl) (fun l D A => c_X13_sign8 l D A e229) ?_
                  exact ww_vretE 232 X hQ dX13_escape_232 h
    · replace h := (if_neg q).symm.trans h
      refine ww_aload_n 50 X dX13_escape_50 0 rfl rfl ?_
      refine ww_iload_n 51 X dX13_escape_51 2 rfl rfl ?_
      refine ww_iconst 52 X (v := (3 : Int32)) dX13_escape_52 (by decide) ?_
      refine ww_icmp_ge 53 60 X dX13_escape_53 (by decide) (fun q => ?_) (fun q => ?_)
      · replace h := (if_pos q).symm.trans h
        refine ww_iload_n 60 X dX13_escape_60 2 rfl rfl ?_
        refine ww_iconst 61 X (v := (3 : Int32)) dX13_escape_61 (by decide) ?_
        refine ww_icmp_ne 62 70 X dX13_escape_62 (by decide) (fun q => ?_) (fun q => ?_)
        · replace h := (if_neg q).symm.trans h
          refine ww_iload_n 70 X dX13_escape_70 2 rfl rfl ?_
          refine ww_iconst 71 X (v := (4 : Int32)) dX13_escape_71 (by decide) ?_
          refine ww_icmp_ne 72 80 X dX13_escape_72 (by decide) (fun q => ?_) (fun q => ?_)
          · replace h := (if_neg q).symm.trans h
            refine ww_iload_n 80 X dX13_escape_80 2 rfl rfl ?_
            refine ww_iconst 81 X (v := (5 : Int32)) dX13_escape_81 (by decide) ?_
            refine ww_icmp_ne 82 90 X dX13_escape_82 (by decide) (fun q => ?_) (fun q => ?_)
            · replace h := (if_neg q).symm.trans h
              refine ww_iload_n 90 X dX13_escape_90 2 rfl rfl ?_
              refine ww_bipush 91 X (v := (6 : Int32)) dX13_escape_91 (by decide) ?_
              refine ww_icmp_ne 93 101 X dX13_escape_93 (by decide) (fun q => ?_) (fun q => ?_)
              · replace h := (if_neg q).symm.trans h
                refine ww_bipush 101 X (v := (9 : Int32)) dX13_escape_101 (by decide) ?_
                obtain ⟨_, f103, h⟩ := bO_some h
                obtain ⟨M103, e103, h⟩ := bO_some h
                refine ww_callVV0 103 X dX13_escape_103 mY_X13_keep8 mL_X13_402 (rcv_spec f103) ⟨_, _, rfl⟩ (by decide) (As := [.int (9 : Int32)]) (rest := []) rfl rfl ⟨Nat.le_of_ble_eq_true rfl, Nat.le_of_ble_eq_true rfl⟩ (Nat.le_of_ble_eq_true rfl) (fun l D A => c_X13_keep8 l D A e103) ?_
                exact ww_vretE 106 X hQ dX13_escape_106 h
              · replace h := (if_pos q).symm.trans h
                refine ww_bipush 96 X (v := (13 : Int32)) dX13_escape_96 (by decide) ?_
                refine ww_goto 98 103 X dX13_escape_98 (by decide) ?_
                obtain ⟨_, f103, h⟩ := bO_some h
                obtain ⟨M103, e103, h⟩ := bO_some h
                refine ww_callVV0 103 X dX13_escape_103 mY_X13_keep8 mL_X13_402 (rcv_spec f103) ⟨_, _, rfl⟩ (by decide) (As := [.int (13 : Int32)]) (rest := []) rfl rfl ⟨Nat.le_of_ble_eq_true rfl, Nat.le_of_ble_eq_true rfl⟩ (Nat.le_of_ble_eq_true rfl) (fun l D A => c_X13_keep8 l D A e103) ?_
                exact ww_vretE 106 X hQ dX13_escape_106 h
            · replace h := (if_pos q).symm.trans h
              refine ww_bipush 85 X (v := (10 : Int32)) dX13_escape_85 (by decide) ?_
              refine ww_goto 87 103 X dX13_escape_87 (by decide) ?_
              obtain ⟨_, f103, h⟩ := bO_some h
              obtain ⟨M103, e103, h⟩ := bO_some h
              refine ww_callVV0 103 X dX13_escape_103 mY_X13_keep8 mL_X13_402 (rcv_spec f103) ⟨_, _, rfl⟩ (by decide) (As := [.int (10 : Int32)]) (rest := []) rfl rfl ⟨Nat.le_of_ble_eq_true rfl, Nat.le_of_ble_eq_true rfl⟩ (Nat.le_of_ble_eq_true rfl) (fun l D A => c_X13_keep8 l D A e103) ?_
              exact ww_vretE 106 X hQ dX13_escape_106 h
          · replace h := (if_pos q).symm.trans h
            refine ww_bipush 75 X (v := (12 : Int32)) dX13_escape_75 (by decide) ?_
            refine ww_goto 77 103 X dX13_escape_77 (by decide) ?_
            obtain ⟨_, f103, h⟩ := bO_some h
            obtain ⟨M103, e103, h⟩ := bO_some h
            refine ww_callVV0 103 X dX13_escape_103 mY_X13_keep8 mL_X13_402 (rcv_spec f103) ⟨_, _, rfl⟩ (by decide) (As := [.int (12 : Int32)]) (rest := []) rfl rfl ⟨Nat.le_of_ble_eq_true rfl, Nat.le_of_ble_eq_true rfl⟩ (Nat.le_of_ble_eq_true rfl) (fun l D A => c_X13_keep8 l D A e103) ?_
            exact ww_vretE 106 X hQ dX13_escape_106 h
        · replace h := (if_pos q).symm.trans h
          refine ww_bipush 65 X (v := (8 : Int32)) dX13_escape_65 (by decide) ?_
          refine ww_goto 67 103 X dX13_escape_67 (by decide) ?_
          obtain ⟨_, f103, h⟩ := bO_some h
          obtain ⟨M103, e103, h⟩ := bO_some h
          refine ww_callVV0 103 X dX13_escape_103 mY_X13_keep8 mL_X13_402 (rcv_spec f103) ⟨_, _, rfl⟩ (by decide) (As := [.int (8 : Int32)]) (rest := []) rfl rfl ⟨Nat.le_of_ble_eq_true rfl, Nat.le_of_ble_eq_true rfl⟩ (Nat.le_of_ble_eq_true rfl) (fun l D A => c_X13_keep8 l D A e103) ?_
          exact ww_vretE 106 X hQ dX13_escape_106 h
      · replace h := (if_neg q).symm.trans h
        refine ww_iload_n 56 X dX13_escape_56 1 rfl rfl ?_
        refine ww_goto 57 103 X dX13_escape_57 (by decide) ?_
        obtain ⟨_, f103, h⟩ := bO_some h
        obtain ⟨M103, e103, h⟩ := bO_some h
        refine ww_callVV0 103 X dX13_escape_103 mY_X13_keep8 mL_X13_402 (rcv_spec f103) ⟨_, _, rfl⟩ (by decide) (As := [.int l1]) (rest := []) rfl rfl ⟨Nat.le_of_ble_eq_true rfl, Nat.le_of_ble_eq_true rfl⟩ (Nat.le_of_ble_eq_true rfl) (fun l D A => c_X13_keep8 l D A e103) ?_
        exact ww_vretE 106 X hQ dX13_escape_106 h
  · replace h := (if_neg q).symm.trans h
    refine ww_aload_n 25 X dX13_escape_25 0 rfl rfl ?_
    refine ww_aload_n 26 X dX13_escape_26 0 rfl rfl ?_
    obtain ⟨v27, e27, h⟩ := bO_some h
    refine ww_getI 27 X dX13_escape_27 fG_X13_336 e27 ?_
    obtain ⟨_, f30, h⟩ := bO_some h
    obtain ⟨M30, e30, h⟩ := bO_some h
    refine ww_callVV0 30 X dX13_escape_30 mY_X13_fail mL_X13_375 (rcv_spec f30) ⟨_, _, rfl⟩ (by decide) (As := [.int v27]) (rest := []) rfl rfl ⟨Nat.le_of_ble_eq_true rfl, Nat.le_of_ble_eq_true rfl⟩ (Nat.le_of_ble_eq_true rfl) (fun l D A => c_X13_fail l D A e30) ?_
    exact ww_vretE 33 X hQ dX13_escape_33 h
def P_X13_escape (G : Nat → Nat) (F : Nat) (l0 : Nat) (M : mM) : Option mM :=
  bO (rcv M l0 13) fun _ =>
  bP (P_X13_at G F l0 M) fun v1 M1 =>
  if 0 ≤ v1 then (bO (rcv M1 (G 78) 100) fun _ =>
  bP (P_J0_indexOf_0f7a4 G F (G 78) v1 M1) fun v17 M17 =>
  B_X13_escape_20 G F l0 v1 v17 M17)
  else (B_X13_escape_20 G F l0 v1 (-1 : Int32) M1)
set_option maxHeartbeats 4000000 in
set_option maxRecDepth 100000 in
theorem wP_X13_escape {G : Nat → Nat} {F : Nat} {x : mXT} {sz : Nat} {M0 : mM} (X : mCX G RX13 cX13_escape 5 none "escape" rmX13_escape x) (hQ : mQV x M0 (sz, 0, 0)) {l0 : Nat} {M : mM} (h : P_X13_escape G F l0 M = some M0) : WW x (sz, 0, 0) M 0 [(0, .ref l0)] [] := by
  unfold P_X13_escape at h
  refine ww_aload_n 0 X dX13_escape_0 0 rfl rfl ?_
  obtain ⟨_, f1, h⟩ := bO_some h
  obtain ⟨v1, M1, e1, h⟩ := bP_some h
  refine ww_callVI0 1 X dX13_escape_1 mY_X13_at mL_X13_351 (rcv_spec f1) ⟨_, _, rfl⟩ (by decide) (As := []) (rest := []) rfl rfl ⟨Nat.le_of_ble_eq_true rfl, Nat.le_of_ble_eq_true rfl⟩ (Nat.le_of_ble_eq_true rfl) (fun l D A => c_X13_at l D A e1) ?_
  refine ww_istore_n 4 X dX13_escape_4 (lv' := [(0, .ref l0), (1, .int v1)]) rfl (by decide) [1, 0] rfl ?_
  refine ww_iload_n 5 X dX13_escape_5 1 rfl rfl ?_
  refine ww_if_ge 6 13 X dX13_escape_6 (by decide) (fun q => ?_) (fun q => ?_)
  · replace h := (if_pos q).symm.trans h
    refine ww_ldsw 13 X (j := 78) dX13_escape_13 rfl ?_
    refine ww_iload_n 16 X dX13_escape_16 1 rfl rfl ?_
    obtain ⟨_, f17, h⟩ := bO_some h
    obtain ⟨v17, M17, e17, h⟩ := bP_some h
    refine ww_callVIs 17 X dX13_escape_17 mY_J0_indexOf_0f7a4 mL_X13_432 (rcv_spec f17) rfl (As := [.int v1]) (rest := []) rfl rfl ⟨Nat.le_of_ble_eq_true rfl, Nat.le_of_ble_eq_true rfl⟩ (Nat.le_of_ble_eq_true rfl) (fun l D A => c_J0_indexOf_0f7a4 l D A e17) ?_
    exact (wB_X13_escape_20 X hQ h)
  · replace h := (if_neg q).symm.trans h
    refine ww_iconst 9 X (v := (-1 : Int32)) dX13_escape_9 (by decide) ?_
    refine ww_goto 10 20 X dX13_escape_10 (by decide) ?_
    exact (wB_X13_escape_20 X hQ h)
theorem c_X13_escape {G : Nat → Nat} {F sz : Nat} {M0 : mM} (l : Launch) (D : mD) (A : Nat → Prop) {l0 : Nat} {M : mM} (h : P_X13_escape G F l0 M = some M0) : mMetV l D G A yX13_escape cX13_escape 5 none 4 91 0 0 [.ref l0] M sz M0 sz := mMetV_of l D G A (by decide) (Nat.le_of_ble_eq_true rfl) (fun x X hQ => wP_X13_escape X hQ h)
/-! SealedTokensModel.wide(I)V -/
theorem dX13_wide_0 : decode cX13_wide 0 = .ok (.iload_n 1, 1) := by decide +kernel
theorem dX13_wide_1 : decode cX13_wide 1 = .ok (.sipush 194, 3) := by decide +kernel
theorem dX13_wide_4 : decode cX13_wide 4 = .ok (.if_icmp .lt 14, 3) := by decide +kernel
theorem dX13_wide_7 : decode cX13_wide 7 = .ok (.iload_n 1, 1) := by decide +kernel
theorem dX13_wide_8 : decode cX13_wide 8 = .ok (.sipush 223, 3) := by decide +kernel
theorem dX13_wide_11 : decode cX13_wide 11 = .ok (.if_icmp .gt 7, 3) := by decide +kernel
theorem dX13_wide_14 : decode cX13_wide 14 = .ok (.iconst 1, 1) := by decide +kernel
theorem dX13_wide_15 : decode cX13_wide 15 = .ok (.goto 40, 3) := by decide +kernel
theorem dX13_wide_18 : decode cX13_wide 18 = .ok (.iload_n 1, 1) := by decide +kernel
theorem dX13_wide_19 : decode cX13_wide 19 = .ok (.sipush 224, 3) := by decide +kernel
theorem dX13_wide_22 : decode cX13_wide 22 = .ok (.if_icmp .lt 14, 3) := by decide +kernel
theorem dX13_wide_25 : decode cX13_wide 25 = .ok (.iload_n 1, 1) := by decide +kernel
theorem dX13_wide_26 : decode cX13_wide 26 = .ok (.sipush 239, 3) := by decide +kernel
theorem dX13_wide_29 : decode cX13_wide 29 = .ok (.if_icmp .gt 7, 3) := by decide +kernel
theorem dX13_wide_32 : decode cX13_wide 32 = .ok (.iconst 2, 1) := by decide +kernel
theorem dX13_wide_33 : decode cX13_wide 33 = .ok (.goto 22, 3) := by decide +kernel
theorem dX13_wide_36 : decode cX13_wide 36 = .ok (.iload_n 1, 1) := by decide +kernel
theorem dX13_wide_37 : decode cX13_wide 37 = .ok (.sipush 240, 3) := by decide +kernel
theorem dX13_wide_40 : decode cX13_wide 40 = .ok (.if_icmp .lt 14, 3) := by decide +kernel
theorem dX13_wide_43 : decode cX13_wide 43 = .ok (.iload_n 1, 1) := by decide +kernel
theorem dX13_wide_44 : decode cX13_wide 44 = .ok (.sipush 244, 3) := by decide +kernel
theorem dX13_wide_47 : decode cX13_wide 47 = .ok (.if_icmp .gt 7, 3) := by decide +kernel
theorem dX13_wide_50 : decode cX13_wide 50 = .ok (.iconst 3, 1) := by decide +kernel
theorem dX13_wide_51 : decode cX13_wide 51 = .ok (.goto 4, 3) := by decide +kernel
theorem dX13_wide_54 : decode cX13_wide 54 = .ok (.iconst 0, 1) := by decide +kernel
theorem dX13_wide_55 : decode cX13_wide 55 = .ok (.istore_n 2, 1) := by decide +kernel
theorem dX13_wide_56 : decode cX13_wide 56 = .ok (.iload_n 2, 1) := by decide +kernel
theorem dX13_wide_57 : decode cX13_wide 57 = .ok (.ifCond .ne 12, 3) := by decide +kernel
theorem dX13_wide_60 : decode cX13_wide 60 = .ok (.aload_n 0, 1) := by decide +kernel
theorem dX13_wide_61 : decode cX13_wide 61 = .ok (.aload_n 0, 1) := by decide +kernel
theorem dX13_wide_62 : decode cX13_wide 62 = .ok (.getfield 336, 3) := by decide +kernel
theorem dX13_wide_65 : decode cX13_wide 65 = .ok (.invokevirtual 375, 3) := by decide +kernel
theorem dX13_wide_68 : decode cX13_wide 68 = .ok (.return_, 1) := by decide +kernel
theorem dX13_wide_69 : decode cX13_wide 69 = .ok (.aload_n 0, 1) := by decide +kernel
theorem dX13_wide_70 : decode cX13_wide 70 = .ok (.iload_n 1, 1) := by decide +kernel
theorem dX13_wide_71 : decode cX13_wide 71 = .ok (.invokevirtual 402, 3) := by decide +kernel
theorem dX13_wide_74 : decode cX13_wide 74 = .ok (.aload_n 0, 1) := by decide +kernel
theorem dX13_wide_75 : decode cX13_wide 75 = .ok (.dup, 1) := by decide +kernel
theorem dX13_wide_76 : decode cX13_wide 76 = .ok (.getfield 336, 3) := by decide +kernel
theorem dX13_wide_79 : decode cX13_wide 79 = .ok (.iconst 1, 1) := by decide +kernel
theorem dX13_wide_80 : decode cX13_wide 80 = .ok (.iadd, 1) := by decide +kernel
theorem dX13_wide_81 : decode cX13_wide 81 = .ok (.putfield 336, 3) := by decide +kernel
theorem dX13_wide_84 : decode cX13_wide 84 = .ok (.iload_n 1, 1) := by decide +kernel
theorem dX13_wide_85 : decode cX13_wide 85 = .ok (.sipush 224, 3) := by decide +kernel
theorem dX13_wide_88 : decode cX13_wide 88 = .ok (.if_icmp .ne 9, 3) := by decide +kernel
theorem dX13_wide_91 : decode cX13_wide 91 = .ok (.sipush 160, 3) := by decide +kernel
theorem dX13_wide_94 : decode cX13_wide 94 = .ok (.goto 19, 3) := by decide +kernel
theorem dX13_wide_97 : decode cX13_wide 97 = .ok (.iload_n 1, 1) := by decide +kernel
theorem dX13_wide_98 : decode cX13_wide 98 = .ok (.sipush 240, 3) := by decide +kernel
theorem dX13_wide_101 : decode cX13_wide 101 = .ok (.if_icmp .ne 9, 3) := by decide +kernel
theorem dX13_wide_104 : decode cX13_wide 104 = .ok (.sipush 144, 3) := by decide +kernel
theorem dX13_wide_107 : decode cX13_wide 107 = .ok (.goto 6, 3) := by decide +kernel
theorem dX13_wide_110 : decode cX13_wide 110 = .ok (.sipush 128, 3) := by decide +kernel
theorem dX13_wide_113 : decode cX13_wide 113 = .ok (.istore_n 3, 1) := by decide +kernel
theorem dX13_wide_114 : decode cX13_wide 114 = .ok (.iload_n 1, 1) := by decide +kernel
theorem dX13_wide_115 : decode cX13_wide 115 = .ok (.sipush 237, 3) := by decide +kernel
theorem dX13_wide_118 : decode cX13_wide 118 = .ok (.if_icmp .ne 9, 3) := by decide +kernel
theorem dX13_wide_121 : decode cX13_wide 121 = .ok (.sipush 159, 3) := by decide +kernel
theorem dX13_wide_124 : decode cX13_wide 124 = .ok (.goto 19, 3) := by decide +kernel
theorem dX13_wide_127 : decode cX13_wide 127 = .ok (.iload_n 1, 1) := by decide +kernel
theorem dX13_wide_128 : decode cX13_wide 128 = .ok (.sipush 244, 3) := by decide +kernel
theorem dX13_wide_131 : decode cX13_wide 131 = .ok (.if_icmp .ne 9, 3) := by decide +kernel
theorem dX13_wide_134 : decode cX13_wide 134 = .ok (.sipush 143, 3) := by decide +kernel
theorem dX13_wide_137 : decode cX13_wide 137 = .ok (.goto 6, 3) := by decide +kernel
theorem dX13_wide_140 : decode cX13_wide 140 = .ok (.sipush 191, 3) := by decide +kernel
theorem dX13_wide_143 : decode cX13_wide 143 = .ok (.istore 4, 2) := by decide +kernel
theorem dX13_wide_145 : decode cX13_wide 145 = .ok (.iconst 0, 1) := by decide +kernel
theorem dX13_wide_146 : decode cX13_wide 146 = .ok (.istore 5, 2) := by decide +kernel
theorem dX13_wide_148 : decode cX13_wide 148 = .ok (.iload 5, 2) := by decide +kernel
theorem dX13_wide_150 : decode cX13_wide 150 = .ok (.iload_n 2, 1) := by decide +kernel
theorem dX13_wide_151 : decode cX13_wide 151 = .ok (.if_icmp .ge 71, 3) := by decide +kernel
theorem dX13_wide_154 : decode cX13_wide 154 = .ok (.aload_n 0, 1) := by decide +kernel
theorem dX13_wide_155 : decode cX13_wide 155 = .ok (.invokevirtual 371, 3) := by decide +kernel
theorem dX13_wide_158 : decode cX13_wide 158 = .ok (.ifCond .eq 64, 3) := by decide +kernel
theorem dX13_wide_161 : decode cX13_wide 161 = .ok (.aload_n 0, 1) := by decide +kernel
theorem dX13_wide_162 : decode cX13_wide 162 = .ok (.invokevirtual 351, 3) := by decide +kernel
theorem dX13_wide_165 : decode cX13_wide 165 = .ok (.istore 6, 2) := by decide +kernel
theorem dX13_wide_167 : decode cX13_wide 167 = .ok (.iload 6, 2) := by decide +kernel
theorem dX13_wide_169 : decode cX13_wide 169 = .ok (.iload_n 3, 1) := by decide +kernel
theorem dX13_wide_170 : decode cX13_wide 170 = .ok (.if_icmp .lt 10, 3) := by decide +kernel
theorem dX13_wide_173 : decode cX13_wide 173 = .ok (.iload 6, 2) := by decide +kernel
theorem dX13_wide_175 : decode cX13_wide 175 = .ok (.iload 4, 2) := by decide +kernel
theorem dX13_wide_177 : decode cX13_wide 177 = .ok (.if_icmp .le 14, 3) := by decide +kernel
theorem dX13_wide_180 : decode cX13_wide 180 = .ok (.aload_n 0, 1) := by decide +kernel
theorem dX13_wide_181 : decode cX13_wide 181 = .ok (.aload_n 0, 1) := by decide +kernel
theorem dX13_wide_182 : decode cX13_wide 182 = .ok (.getfield 336, 3) := by decide +kernel
theorem dX13_wide_185 : decode cX13_wide 185 = .ok (.invokevirtual 375, 3) := by decide +kernel
theorem dX13_wide_188 : decode cX13_wide 188 = .ok (.goto 19, 3) := by decide +kernel
theorem dX13_wide_191 : decode cX13_wide 191 = .ok (.aload_n 0, 1) := by decide +kernel
theorem dX13_wide_192 : decode cX13_wide 192 = .ok (.iload 6, 2) := by decide +kernel
theorem dX13_wide_194 : decode cX13_wide 194 = .ok (.invokevirtual 402, 3) := by decide +kernel
theorem dX13_wide_197 : decode cX13_wide 197 = .ok (.aload_n 0, 1) := by decide +kernel
theorem dX13_wide_198 : decode cX13_wide 198 = .ok (.dup, 1) := by decide +kernel
theorem dX13_wide_199 : decode cX13_wide 199 = .ok (.getfield 336, 3) := by decide +kernel
theorem dX13_wide_202 : decode cX13_wide 202 = .ok (.iconst 1, 1) := by decide +kernel
theorem dX13_wide_203 : decode cX13_wide 203 = .ok (.iadd, 1) := by decide +kernel
theorem dX13_wide_204 : decode cX13_wide 204 = .ok (.putfield 336, 3) := by decide +kernel
theorem dX13_wide_207 : decode cX13_wide 207 = .ok (.sipush 128, 3) := by decide +kernel
theorem dX13_wide_210 : decode cX13_wide 210 = .ok (.istore_n 3, 1) := by decide +kernel
theorem dX13_wide_211 : decode cX13_wide 211 = .ok (.sipush 191, 3) := by decide +kernel
theorem dX13_wide_214 : decode cX13_wide 214 = .ok (.istore 4, 2) := by decide +kernel
theorem dX13_wide_216 : decode cX13_wide 216 = .ok (.iinc 5 1, 3) := by decide +kernel
theorem dX13_wide_219 : decode cX13_wide 219 = .ok (.goto (-71), 3) := by decide +kernel
theorem dX13_wide_222 : decode cX13_wide 222 = .ok (.return_, 1) := by decide +kernel
abbrev rmX13_wide : Room := { frames := 1, cells := 0, slots := 0, locals := 21 }
def B_X13_wide_148 (G : Nat → Nat) (F : Nat) : Nat → Nat → Int32 → Int32 → Int32 → Int32 → mM → Option mM
  | 0, _, _, _, _, _, _ => none
  | n + 1, l0, l2, l3, l4, l5, M =>
  if l2 ≤ l5 then (some M)
  else (bO (rcv M l0 13) fun _ =>
  bP (P_X13_good G F l0 M) fun v155 M155 =>
  if v155 = 0 then (some M155)
  else (bO (rcv M155 l0 13) fun _ =>
  bP (P_X13_at G F l0 M155) fun v162 M162 =>
  if v162 < l3 then (bO (gfI M162 l0 13 22) fun v182 =>
  bO (rcv M162 l0 13) fun _ =>
  bO (P_X13_fail G F l0 v182 M162) fun M185 =>
  B_X13_wide_148 G F n l0 l2 (128 : Int32) (191 : Int32) (l5 + 1) M185)
  else (if v162 ≤ l4 then (bO (rcv M162 l0 13) fun _ =>
  bO (P_X13_keep8 G F l0 v162 M162) fun M194 =>
  bO (gfI M194 l0 13 22) fun v199 =>
  bO (pfv M194 l0 13 22 (.int (v199 + (1 : Int32)))) fun M204 =>
  B_X13_wide_148 G F n l0 l2 (128 : Int32) (191 : Int32) (l5 + 1) M204)
  else (bO (gfI M162 l0 13 22) fun v182 =>
  bO (rcv M162 l0 13) fun _ =>
  bO (P_X13_fail G F l0 v182 M162) fun M185 =>
  B_X13_wide_148 G F n l0 l2 (128 : Int32) (191 : Int32) (l5 + 1) M185))))
set_option maxHeartbeats 4000000 in
set_option maxRecDepth 100000 in
theorem wB_X13_wide_148 {G : Nat → Nat} {F : Nat} {x : mXT} {sz : Nat} {M0 : mM} (X : mCX G RX13 cX13_wide 7 none "wide" rmX13_wide x) (hQ : mQV x M0 (sz, 0, 0)) : ∀ (n : Nat) (l0 : Nat) (l2 : Int32) (l3 : Int32) (l4 : Int32) (l5 : Int32) (M : mM), B_X13_wide_148 G F n l0 l2 l3 l4 l5 M = some M0 → WW x (sz, 0, 0) M 148 [(0, .ref l0), (2, .int l2), (3, .int l3), (4, .int l4), (5, .int l5)] [] := by
  intro n
  induction n with
  | zero =>
    intro l0 l2 l3 l4 l5 M h
    exact nomatch (show (none : Option mM) = some M0 from h)
  | succ n ih =>
    intro l0 l2 l3 l4 l5 M h
    rw [B_X13_wide_148] at h
    refine ww_iload 148 X dX13_wide_148 4 rfl ?_
    refine ww_iload_n 150 X dX13_wide_150 1 rfl rfl ?_
    refine ww_icmp_ge 151 222 X dX13_wide_151 (by decide) (fun q => ?_) (fun q => ?_)
    · replace h := (if_pos q).symm.trans h
      exact ww_vretE 222 X hQ dX13_wide_222 h
    · replace h := (if_neg q).symm.trans h
      refine ww_aload_n 154 X dX13_wide_154 0 rfl rfl ?_
      obtain ⟨_, f155, h⟩ := bO_some h
      obtain ⟨v155, M155, e155, h⟩ := bP_some h
      refine ww_callVI0 155 X dX13_wide_155 mY_X13_good mL_X13_371 (rcv_spec f155) ⟨_, _, rfl⟩ (by decide) (As := []) (rest := []) rfl rfl ⟨Nat.le_of_ble_eq_true rfl, Nat.le_of_ble_eq_true rfl⟩ (Nat.le_of_ble_eq_true rfl) (fun l D A => c_X13_good l D A e155) ?_
      refine ww_if_eq 158 222 X dX13_wide_158 (by decide) (fun q => ?_) (fun q => ?_)
      · replace h := (if_pos q).symm.trans h
        exact ww_vretE 222 X hQ dX13_wide_222 h
      · replace h := (if_neg q).symm.trans h
        refine ww_aload_n 161 X dX13_wide_161 0 rfl rfl ?_
        obtain ⟨_, f162, h⟩ := bO_some h
        obtain ⟨v162, M162, e162, h⟩ := bP_some h
        refine ww_callVI0 162 X dX13_wide_162 mY_X13_at mL_X13_351 (rcv_spec f162) ⟨_, _, rfl⟩ (by decide) (As := []) (rest := []) rfl rfl ⟨Nat.le_of_ble_eq_true rfl, Nat.le_of_ble_eq_true rfl⟩ (Nat.le_of_ble_eq_true rfl) (fun l D A => c_X13_at l D A e162) ?_
        refine ww_istore 165 X dX13_wide_165 (lv' := [(0, .ref l0), (2, .int l2), (3, .int l3), (4, .int l4), (5, .int l5), (6, .int v162)]) (by decide) [1, 2, 3, 4, 5, 0] rfl ?_
        refine ww_iload 167 X dX13_wide_167 5 rfl ?_
        refine ww_iload_n 169 X dX13_wide_169 2 rfl rfl ?_
        refine ww_icmp_lt 170 180 X dX13_wide_170 (by decide) (fun q => ?_) (fun q => ?_)
        · replace h := (if_pos q).symm.trans h
          refine ww_aload_n 180 X dX13_wide_180 0 rfl rfl ?_
          refine ww_aload_n 181 X dX13_wide_181 0 rfl rfl ?_
          obtain ⟨v182, e182, h⟩ := bO_some h
          refine ww_getI 182 X dX13_wide_182 fG_X13_336 e182 ?_
          obtain ⟨_, f185, h⟩ := bO_some h
          obtain ⟨M185, e185, h⟩ := bO_some h
          refine ww_callVV0 185 X dX13_wide_185 mY_X13_fail mL_X13_375 (rcv_spec f185) ⟨_, _, rfl⟩ (by decide) (As := [.int v182]) (rest := []) rfl rfl ⟨Nat.le_of_ble_eq_true rfl, Nat.le_of_ble_eq_true rfl⟩ (Nat.le_of_ble_eq_true rfl) (fun l D A => c_X13_fail l D A e185) ?_
          refine ww_goto 188 207 X dX13_wide_188 (by decide) ?_
          refine ww_sipush 207 X (v := (128 : Int32)) dX13_wide_207 (by decide) ?_
          refine ww_istore_n 210 X dX13_wide_210 (lv' := [(0, .ref l0), (2, .int l2), (3, .int (128 : Int32)), (4, .int l4), (5, .int l5), (6, .int v162)]) rfl (by decide) [1, 2, 0, 3, 4, 5] rfl ?_
          refine ww_sipush 211 X (v := (191 : Int32)) dX13_wide_211 (by decide) ?_
          refine ww_istore 214 X dX13_wide_214 (lv' := [(0, .ref l0), (2, .int l2), (3, .int (128 : Int32)), (4, .int (191 : Int32)), (5, .int l5), (6, .int v162)]) (by decide) [1, 2, 3, 0, 4, 5] rfl ?_
          refine ww_iinc 216 X dX13_wide_216 (lv' := [(0, .ref l0), (2, .int l2), (3, .int (128 : Int32)), (4, .int (191 : Int32)), (5, .int (l5 + 1)), (6, .int v162)]) 4 rfl rfl (by decide) [1, 2, 3, 4, 0, 5] rfl ?_
          refine ww_goto 219 148 X dX13_wide_219 (by decide) ?_
          exact ww_sub [0, 1, 2, 3, 4] rfl (ih _ _ _ _ _ _ h)
        · replace h := (if_neg q).symm.trans h
          refine ww_iload 173 X dX13_wide_173 5 rfl ?_
          refine ww_iload 175 X dX13_wide_175 3 rfl ?_
          refine ww_icmp_le 177 191 X dX13_wide_177 (by decide) (fun q => ?_) (fun q => ?_)
          · replace h := (if_pos q).symm.trans h
            refine ww_aload_n 191 X dX13_wide_191 0 rfl rfl ?_
            refine ww_iload 192 X dX13_wide_192 5 rfl ?_
            obtain ⟨_, f194, h⟩ := bO_some h
            obtain ⟨M194, e194, h⟩ := bO_some h
            refine ww_callVV0 194 X dX13_wide_194 mY_X13_keep8 mL_X13_402 (rcv_spec f194) ⟨_, _, rfl⟩ (by decide) (As := [.int v162]) (rest := []) rfl rfl ⟨Nat.le_of_ble_eq_true rfl, Nat.le_of_ble_eq_true rfl⟩ (Nat.le_of_ble_eq_true rfl) (fun l D A => c_X13_keep8 l D A e194) ?_
            refine ww_aload_n 197 X dX13_wide_197 0 rfl rfl ?_
            refine ww_dup 198 X dX13_wide_198 rfl ?_
            obtain ⟨v199, e199, h⟩ := bO_some h
            refine ww_getI 199 X dX13_wide_199 fG_X13_336 e199 ?_
            refine ww_iconst 202 X (v := (1 : Int32)) dX13_wide_202 (by decide) ?_
            refine ww_iadd 203 X dX13_wide_203 ?_
            obtain ⟨M204, e204, h⟩ := bO_some h
            refine ww_putI 204 X dX13_wide_204 (fP_X13_336 _) e204 ?_
            refine ww_sipush 207 X (v := (128 : Int32)) dX13_wide_207 (by decide) ?_
            refine ww_istore_n 210 X dX13_wide_210 (lv' := [(0, .ref l0), (2, .int l2), (3, .int (128 : Int32)), (4, .int l4), (5, .int l5), (6, .int v162)]) rfl (by decide) [1, 2, 0, 3, 4, 5] rfl ?_
            refine ww_sipush 211 X (v := (191 : Int32)) dX13_wide_211 (by decide) ?_
            refine ww_istore 214 X dX13_wide_214 (lv' := [(0, .ref l0), (2, .int l2), (3, .int (128 : Int32)), (4, .int (191 : Int32)), (5, .int l5), (6, .int v162)]) (by decide) [1, 2, 3, 0, 4, 5] rfl ?_
            refine ww_iinc 216 X dX13_wide_216 (lv' := [(0, .ref l0), (2, .int l2), (3, .int (128 : Int32)), (4, .int (191 : Int32)), (5, .int (l5 + 1)), (6, .int v162)]) 4 rfl rfl (by decide) [1, 2, 3, 4, 0, 5] rfl ?_
            refine ww_goto 219 148 X dX13_wide_219 (by decide) ?_
            exact ww_sub [0, 1, 2, 3, 4] rfl (ih _ _ _ _ _ _ h)
          · replace h := (if_neg q).symm.trans h
            refine ww_aload_n 180 X dX13_wide_180 0 rfl rfl ?_
            refine ww_aload_n 181 X dX13_wide_181 0 rfl rfl ?_
            obtain ⟨v182, e182, h⟩ := bO_some h
            refine ww_getI 182 X dX13_wide_182 fG_X13_336 e182 ?_
            obtain ⟨_, f185, h⟩ := bO_some h
            obtain ⟨M185, e185, h⟩ := bO_some h
            refine ww_callVV0 185 X dX13_wide_185 mY_X13_fail mL_X13_375 (rcv_spec f185) ⟨_, _, rfl⟩ (by decide) (As := [.int v182]) (rest := []) rfl rfl ⟨Nat.le_of_ble_eq_true rfl, Nat.le_of_ble_eq_true rfl⟩ (Nat.le_of_ble_eq_true rfl) (fun l D A => c_X13_fail l D A e185) ?_
            refine ww_goto 188 207 X dX13_wide_188 (by decide) ?_
            refine ww_sipush 207 X (v := (128 : Int32)) dX13_wide_207 (by decide) ?_
            refine ww_istore_n 210 X dX13_wide_210 (lv' := [(0, .ref l0), (2, .int l2), (3, .int (128 : Int32)), (4, .int l4), (5, .int l5), (6, .int v162)]) rfl (by decide) [1, 2, 0, 3, 4, 5] rfl ?_
            refine ww_sipush 211 X (v := (191 : Int32)) dX13_wide_211 (by decide) ?_
            refine ww_istore 214 X dX13_wide_214 (lv' := [(0, .ref l0), (2, .int l2), (3, .int (128 : Int32)), (4, .int (191 : Int32)), (5, .int l5), (6, .int v162)]) (by decide) [1, 2, 3, 0, 4, 5] rfl ?_
            refine ww_iinc 216 X dX13_wide_216 (lv' := [(0, .ref l0), (2, .int l2), (3, .int (128 : Int32)), (4, .int (191 : Int32)), (5, .int (l5 + 1)), (6, .int v162)]) 4 rfl rfl (by decide) [1, 2, 3, 4, 0, 5] rfl ?_
            refine ww_goto 219 148 X dX13_wide_219 (by decide) ?_
            exact ww_sub [0, 1, 2, 3, 4] rfl (ih _ _ _ _ _ _ h)
def B_X13_wide_113 (G : Nat → Nat) (F : Nat) (l0 : Nat) (l1 : Int32) (l2 : Int32) (s0 : Int32) (M : mM) : Option mM :=
  if l1 = (237 : Int32) then (B_X13_wide_148 G F F l0 l2 s0 (159 : Int32) (0 : Int32) M)
  else (if l1 = (244 : Int32) then (B_X13_wide_148 G F F l0 l2 s0 (143 : Int32) (0 : Int32) M)
  else (B_X13_wide_148 G F F l0 l2 s0 (191 : Int32) (0 : Int32) M))
set_option maxHeartbeats 4000000 in
set_option maxRecDepth 100000 in
theorem wB_X13_wide_113 {G : Nat → Nat} {F : Nat} {x : mXT} {sz : Nat} {M0 : mM} (X : mCX G RX13 cX13_wide 7 none "wide" rmX13_wide x) (hQ : mQV x M0 (sz, 0, 0)) {l0 : Nat} {l1 : Int32} {l2 : Int32} {s0 : Int32} {M : mM} (h : B_X13_wide_113 G F l0 l1 l2 s0 M = some M0) : WW x (sz, 0, 0) M 113 [(0, .ref l0), (1, .int l1), (2, .int l2)] [.int s0] := by
  unfold B_X13_wide_113 at h
  refine ww_istore_n 113 X dX13_wide_113 (lv' := [(0, .ref l0), (1, .int l1), (2, .int l2), (3, .int s0)]) rfl (by decide) [1, 2, 3, 0] rfl ?_
  refine ww_iload_n 114 X dX13_wide_114 1 rfl rfl ?_
  refine ww_sipush 115 X (v := (237 : Int32)) dX13_wide_115 (by decide) ?_
  refine ww_icmp_ne 118 127 X dX13_wide_118 (by decide) (fun q => ?_) (fun q => ?_)
  · replace h := (if_neg q).symm.trans h
    refine ww_iload_n 127 X dX13_wide_127 1 rfl rfl ?_
    refine ww_sipush 128 X (v := (244 : Int32)) dX13_wide_128 (by decide) ?_
    refine ww_icmp_ne 131 140 X dX13_wide_131 (by decide) (fun q => ?_) (fun q => ?_)
    · replace h := (if_neg q).symm.trans h
      refine ww_sipush 140 X (v := (191 : Int32)) dX13_wide_140 (by decide) ?_
      refine ww_istore 143 X dX13_wide_143 (lv' := [(0, .ref l0), (1, .int l1), (2, .int l2), (3, .int s0), (4, .int (191 : Int32))]) (by decide) [1, 2, 3, 4, 0] rfl ?_
      refine ww_iconst 145 X (v := (0 : Int32)) dX13_wide_145 (by decide) ?_
      refine ww_istore 146 X dX13_wide_146 (lv' := [(0, .ref l0), (1, .int l1), (2, .int l2), (3, .int s0), (4, .int (191 : Int32)), (5, .int (0 : Int32))]) (by decide) [1, 2, 3, 4, 5, 0] rfl ?_
      exact ww_sub [0, 2, 3, 4, 5] rfl (wB_X13_wide_148 X hQ F _ _ _ _ _ _ h)
    · replace h := (if_pos q).symm.trans h
      refine ww_sipush 134 X (v := (143 : Int32)) dX13_wide_134 (by decide) ?_
      refine ww_goto 137 143 X dX13_wide_137 (by decide) ?_
      refine ww_istore 143 X dX13_wide_143 (lv' := [(0, .ref l0), (1, .int l1), (2, .int l2), (3, .int s0), (4, .int (143 : Int32))]) (by decide) [1, 2, 3, 4, 0] rfl ?_
      refine ww_iconst 145 X (v := (0 : Int32)) dX13_wide_145 (by decide) ?_
      refine ww_istore 146 X dX13_wide_146 (lv' := [(0, .ref l0), (1, .int l1), (2, .int l2), (3, .int s0), (4, .int (143 : Int32)), (5, .int (0 : Int32))]) (by decide) [1, 2, 3, 4, 5, 0] rfl ?_
      exact ww_sub [0, 2, 3, 4, 5] rfl (wB_X13_wide_148 X hQ F _ _ _ _ _ _ h)
  · replace h := (if_pos q).symm.trans h
    refine ww_sipush 121 X (v := (159 : Int32)) dX13_wide_121 (by decide) ?_
    refine ww_goto 124 143 X dX13_wide_124 (by decide) ?_
    refine ww_istore 143 X dX13_wide_143 (lv' := [(0, .ref l0), (1, .int l1), (2, .int l2), (3, .int s0), (4, .int (159 : Int32))]) (by decide) [1, 2, 3, 4, 0] rfl ?_
    refine ww_iconst 145 X (v := (0 : Int32)) dX13_wide_145 (by decide) ?_
    refine ww_istore 146 X dX13_wide_146 (lv' := [(0, .ref l0), (1, .int l1), (2, .int l2), (3, .int s0), (4, .int (159 : Int32)), (5, .int (0 : Int32))]) (by decide) [1, 2, 3, 4, 5, 0] rfl ?_
    exact ww_sub [0, 2, 3, 4, 5] rfl (wB_X13_wide_148 X hQ F _ _ _ _ _ _ h)
def B_X13_wide_55 (G : Nat → Nat) (F : Nat) (l0 : Nat) (l1 : Int32) (s0 : Int32) (M : mM) : Option mM :=
  if s0 = 0 then (bO (gfI M l0 13 22) fun v62 =>
  bO (rcv M l0 13) fun _ =>
  bO (P_X13_fail G F l0 v62 M) fun M65 =>
  some M65)
  else (bO (rcv M l0 13) fun _ =>
  bO (P_X13_keep8 G F l0 l1 M) fun M71 =>
  bO (gfI M71 l0 13 22) fun v76 =>
  bO (pfv M71 l0 13 22 (.int (v76 + (1 : Int32)))) fun M81 =>
  if l1 = (224 : Int32) then (B_X13_wide_113 G F l0 l1 s0 (160 : Int32) M81)
  else (if l1 = (240 : Int32) then (B_X13_wide_113 G F l0 l1 s0 (144 : Int32) M81)
  else (B_X13_wide_113 G F l0 l1 s0 (128 : Int32) M81)))
set_option maxHeartbeats 4000000 in
set_option maxRecDepth 100000 in
theorem wB_X13_wide_55 {G : Nat → Nat} {F : Nat} {x : mXT} {sz : Nat} {M0 : mM} (X : mCX G RX13 cX13_wide 7 none "wide" rmX13_wide x) (hQ : mQV x M0 (sz, 0, 0)) {l0 : Nat} {l1 : Int32} {s0 : Int32} {M : mM} (h : B_X13_wide_55 G F l0 l1 s0 M = some M0) : WW x (sz, 0, 0) M 55 [(0, .ref l0), (1, .int l1)] [.int s0] := by
  unfold B_X13_wide_55 at h
  refine ww_istore_n 55 X dX13_wide_55 (lv' := [(0, .ref l0), (1, .int l1), (2, .int s0)]) rfl (by decide) [1, 2, 0] rfl ?_
  refine ww_iload_n 56 X dX13_wide_56 2 rfl rfl ?_
  refine ww_if_ne 57 69 X dX13_wide_57 (by decide) (fun q => ?_) (fun q => ?_)
  · replace h := (if_neg q).symm.trans h
    refine ww_aload_n 69 X dX13_wide_69 0 rfl rfl ?_
    refine ww_iload_n 70 X dX13_wide_70 1 rfl rfl ?_
    obtain ⟨_, f71, h⟩ := bO_some h
    obtain ⟨M71, e71, h⟩ := bO_some h
    refine ww_callVV0 71 X dX13_wide_71 mY_X13_keep8 mL_X13_402 (rcv_spec f71) ⟨_, _, rfl⟩ (by decide) (As := [.int l1]) (rest := []) rfl rfl ⟨Nat.le_of_ble_eq_true rfl, Nat.le_of_ble_eq_true rfl⟩ (Nat.le_of_ble_eq_true rfl) (fun l D A => c_X13_keep8 l D A e71) ?_
    refine ww_aload_n 74 X dX13_wide_74 0 rfl rfl ?_
    refine ww_dup 75 X dX13_wide_75 rfl ?_
    obtain ⟨v76, e76, h⟩ := bO_some h
    refine ww_getI 76 X dX13_wide_76 fG_X13_336 e76 ?_
    refine ww_iconst 79 X (v := (1 : Int32)) dX13_wide_79 (by decide) ?_
    refine ww_iadd 80 X dX13_wide_80 ?_
    obtain ⟨M81, e81, h⟩ := bO_some h
    refine ww_putI 81 X dX13_wide_81 (fP_X13_336 _) e81 ?_
    refine ww_iload_n 84 X dX13_wide_84 1 rfl rfl ?_
    refine ww_sipush 85 X (v := (224 : Int32)) dX13_wide_85 (by decide) ?_
    refine ww_icmp_ne 88 97 X dX13_wide_88 (by decide) (fun q => ?_) (fun q => ?_)
    · replace h := (if_neg q).symm.trans h
      refine ww_iload_n 97 X dX13_wide_97 1 rfl rfl ?_
      refine ww_sipush 98 X (v := (240 : Int32)) dX13_wide_98 (by decide) ?_
      refine ww_icmp_ne 101 110 X dX13_wide_101 (by decide) (fun q => ?_) (fun q => ?_)
      · replace h := (if_neg q).symm.trans h
        refine ww_sipush 110 X (v := (128 : Int32)) dX13_wide_110 (by decide) ?_
        exact (wB_X13_wide_113 X hQ h)
      · replace h := (if_pos q).symm.trans h
        refine ww_sipush 104 X (v := (144 : Int32)) dX13_wide_104 (by decide) ?_
        refine ww_goto 107 113 X dX13_wide_107 (by decide) ?_
        exact (wB_X13_wide_113 X hQ h)
    · replace h := (if_pos q).symm.trans h
      refine ww_sipush 91 X (v := (160 : Int32)) dX13_wide_91 (by decide) ?_
      refine ww_goto 94 113 X dX13_wide_94 (by decide) ?_
      exact (wB_X13_wide_113 X hQ h)
  · replace h := (if_pos q).symm.trans h
    refine ww_aload_n 60 X dX13_wide_60 0 rfl rfl ?_
    refine ww_aload_n 61 X dX13_wide_61 0 rfl rfl ?_
    obtain ⟨v62, e62, h⟩ := bO_some h
    refine ww_getI 62 X dX13_wide_62 fG_X13_336 e62 ?_
    obtain ⟨_, f65, h⟩ := bO_some h
    obtain ⟨M65, e65, h⟩ := bO_some h
    refine ww_callVV0 65 X dX13_wide_65 mY_X13_fail mL_X13_375 (rcv_spec f65) ⟨_, _, rfl⟩ (by decide) (As := [.int v62]) (rest := []) rfl rfl ⟨Nat.le_of_ble_eq_true rfl, Nat.le_of_ble_eq_true rfl⟩ (Nat.le_of_ble_eq_true rfl) (fun l D A => c_X13_fail l D A e65) ?_
    exact ww_vretE 68 X hQ dX13_wide_68 h
def B_X13_wide_36 (G : Nat → Nat) (F : Nat) (l0 : Nat) (l1 : Int32) (M : mM) : Option mM :=
  if l1 < (240 : Int32) then (B_X13_wide_55 G F l0 l1 (0 : Int32) M)
  else (if (244 : Int32) < l1 then (B_X13_wide_55 G F l0 l1 (0 : Int32) M)
  else (B_X13_wide_55 G F l0 l1 (3 : Int32) M))
set_option maxHeartbeats 4000000 in
set_option maxRecDepth 100000 in
theorem wB_X13_wide_36 {G : Nat → Nat} {F : Nat} {x : mXT} {sz : Nat} {M0 : mM} (X : mCX G RX13 cX13_wide 7 none "wide" rmX13_wide x) (hQ : mQV x M0 (sz, 0, 0)) {l0 : Nat} {l1 : Int32} {M : mM} (h : B_X13_wide_36 G F l0 l1 M = some M0) : WW x (sz, 0, 0) M 36 [(0, .ref l0), (1, .int l1)] [] := by
  unfold B_X13_wide_36 at h
  refine ww_iload_n 36 X dX13_wide_36 1 rfl rfl ?_
  refine ww_sipush 37 X (v := (240 : Int32)) dX13_wide_37 (by decide) ?_
  refine ww_icmp_lt 40 54 X dX13_wide_40 (by decide) (fun q => ?_) (fun q => ?_)
  · replace h := (if_pos q).symm.trans h
    refine ww_iconst 54 X (v := (0 : Int32)) dX13_wide_54 (by decide) ?_
    exact (wB_X13_wide_55 X hQ h)
  · replace h := (if_neg q).symm.trans h
    refine ww_iload_n 43 X dX13_wide_43 1 rfl rfl ?_
    refine ww_sipush 44 X (v := (244 : Int32)) dX13_wide_44 (by decide) ?_
    refine ww_icmp_gt 47 54 X dX13_wide_47 (by decide) (fun q => ?_) (fun q => ?_)
    · replace h := (if_pos q).symm.trans h
      refine ww_iconst 54 X (v := (0 : Int32)) dX13_wide_54 (by decide) ?_
      exact (wB_X13_wide_55 X hQ h)
    · replace h := (if_neg q).symm.trans h
      refine ww_iconst 50 X (v := (3 : Int32)) dX13_wide_50 (by decide) ?_
      refine ww_goto 51 55 X dX13_wide_51 (by decide) ?_
      exact (wB_X13_wide_55 X hQ h)
def P_X13_wide (G : Nat → Nat) (F : Nat) (l0 : Nat) (l1 : Int32) (M : mM) : Option mM :=
  if l1 < (194 : Int32) then (if l1 < (224 : Int32) then (B_X13_wide_36 G F l0 l1 M)
  else (if (239 : Int32) < l1 then (B_X13_wide_36 G F l0 l1 M)
  else (B_X13_wide_55 G F l0 l1 (2 : Int32) M)))
  else (if (223 : Int32) < l1 then (if l1 < (224 : Int32) then (B_X13_wide_36 G F l0 l1 M)
  else (if (239 : Int32) < l1 then (B_X13_wide_36 G F l0 l1 M)
  else (B_X13_wide_55 G F l0 l1 (2 : Int32) M)))
  else (B_X13_wide_55 G F l0 l1 (1 : Int32) M))
set_option maxHeartbeats 4000000 in
set_option maxRecDepth 100000 in
theorem wP_X13_wide {G : Nat → Nat} {F : Nat} {x : mXT} {sz : Nat} {M0 : mM} (X : mCX G RX13 cX13_wide 7 none "wide" rmX13_wide x) (hQ : mQV x M0 (sz, 0, 0)) {l0 : Nat} {l1 : Int32} {M : mM} (h : P_X13_wide G F l0 l1 M = some M0) : WW x (sz, 0, 0) M 0 [(0, .ref l0), (1, .int l1)] [] := by
  unfold P_X13_wide at h
  refine ww_iload_n 0 X dX13_wide_0 1 rfl rfl ?_
  refine ww_sipush 1 X (v := (194 : Int32)) dX13_wide_1 (by decide) ?_
  refine ww_icmp_lt 4 18 X dX13_wide_4 (by decide) (fun q => ?_) (fun q => ?_)
  · replace h := (if_pos q).symm.trans h
    refine ww_iload_n 18 X dX13_wide_18 1 rfl rfl ?_
    refine ww_sipush 19 X (v := (224 : Int32)) dX13_wide_19 (by decide) ?_
    refine ww_icmp_lt 22 36 X dX13_wide_22 (by decide) (fun q => ?_) (fun q => ?_)
    · replace h := (if_pos q).symm.trans h
      exact (wB_X13_wide_36 X hQ h)
    · replace h := (if_neg q).symm.trans h
      refine ww_iload_n 25 X dX13_wide_25 1 rfl rfl ?_
      refine ww_sipush 26 X (v := (239 : Int32)) dX13_wide_26 (by decide) ?_
      refine ww_icmp_gt 29 36 X dX13_wide_29 (by decide) (fun q => ?_) (fun q => ?_)
      · replace h := (if_pos q).symm.trans h
        exact (wB_X13_wide_36 X hQ h)
      · replace h := (if_neg q).symm.trans h
        refine ww_iconst 32 X (v := (2 : Int32)) dX13_wide_32 (by decide) ?_
        refine ww_goto 33 55 X dX13_wide_33 (by decide) ?_
        exact (wB_X13_wide_55 X hQ h)
  · replace h := (if_neg q).symm.trans h
    refine ww_iload_n 7 X dX13_wide_7 1 rfl rfl ?_
    refine ww_sipush 8 X (v := (223 : Int32)) dX13_wide_8 (by decide) ?_
    refine ww_icmp_gt 11 18 X dX13_wide_11 (by decide) (fun q => ?_) (fun q => ?_)
    · replace h := (if_pos q).symm.trans h
      refine ww_iload_n 18 X dX13_wide_18 1 rfl rfl ?_
      refine ww_sipush 19 X (v := (224 : Int32)) dX13_wide_19 (by decide) ?_
      refine ww_icmp_lt 22 36 X dX13_wide_22 (by decide) (fun q => ?_) (fun q => ?_)
      · replace h := (if_pos q).symm.trans h
        exact (wB_X13_wide_36 X hQ h)
      · replace h := (if_neg q).symm.trans h
        refine ww_iload_n 25 X dX13_wide_25 1 rfl rfl ?_
        refine ww_sipush 26 X (v := (239 : Int32)) dX13_wide_26 (by decide) ?_
        refine ww_icmp_gt 29 36 X dX13_wide_29 (by decide) (fun q => ?_) (fun q => ?_)
        · replace h := (if_pos q).symm.trans h
          exact (wB_X13_wide_36 X hQ h)
        · replace h := (if_neg q).symm.trans h
          refine ww_iconst 32 X (v := (2 : Int32)) dX13_wide_32 (by decide) ?_
          refine ww_goto 33 55 X dX13_wide_33 (by decide) ?_
          exact (wB_X13_wide_55 X hQ h)
    · replace h := (if_neg q).symm.trans h
      refine ww_iconst 14 X (v := (1 : Int32)) dX13_wide_14 (by decide) ?_
      refine ww_goto 15 55 X dX13_wide_15 (by decide) ?_
      exact (wB_X13_wide_55 X hQ h)
theorem c_X13_wide {G : Nat → Nat} {F sz : Nat} {M0 : mM} (l : Launch) (D : mD) (A : Nat → Prop) {l0 : Nat} {l1 : Int32} {M : mM} (h : P_X13_wide G F l0 l1 M = some M0) : mMetV l D G A yX13_wide cX13_wide 7 none 1 21 0 0 [.ref l0, .int l1] M sz M0 sz := mMetV_of l D G A (by decide) (Nat.le_of_ble_eq_true rfl) (fun x X hQ => wP_X13_wide X hQ h)
/-! SealedTokensModel.readString()V -/
theorem dX13_readString_0 : decode cX13_readString 0 = .ok (.aload_n 0, 1) := by decide +kernel
theorem dX13_readString_1 : decode cX13_readString 1 = .ok (.dup, 1) := by decide +kernel
theorem dX13_readString_2 : decode cX13_readString 2 = .ok (.getfield 336, 3) := by decide +kernel
theorem dX13_readString_5 : decode cX13_readString 5 = .ok (.iconst 1, 1) := by decide +kernel
theorem dX13_readString_6 : decode cX13_readString 6 = .ok (.iadd, 1) := by decide +kernel
theorem dX13_readString_7 : decode cX13_readString 7 = .ok (.putfield 336, 3) := by decide +kernel
theorem dX13_readString_10 : decode cX13_readString 10 = .ok (.aload_n 0, 1) := by decide +kernel
theorem dX13_readString_11 : decode cX13_readString 11 = .ok (.invokevirtual 371, 3) := by decide +kernel
theorem dX13_readString_14 : decode cX13_readString 14 = .ok (.ifCond .eq 90, 3) := by decide +kernel
theorem dX13_readString_17 : decode cX13_readString 17 = .ok (.aload_n 0, 1) := by decide +kernel
theorem dX13_readString_18 : decode cX13_readString 18 = .ok (.invokevirtual 351, 3) := by decide +kernel
theorem dX13_readString_21 : decode cX13_readString 21 = .ok (.bipush 34, 2) := by decide +kernel
theorem dX13_readString_23 : decode cX13_readString 23 = .ok (.if_icmp .eq 81, 3) := by decide +kernel
theorem dX13_readString_26 : decode cX13_readString 26 = .ok (.aload_n 0, 1) := by decide +kernel
theorem dX13_readString_27 : decode cX13_readString 27 = .ok (.invokevirtual 351, 3) := by decide +kernel
theorem dX13_readString_30 : decode cX13_readString 30 = .ok (.istore_n 1, 1) := by decide +kernel
theorem dX13_readString_31 : decode cX13_readString 31 = .ok (.iload_n 1, 1) := by decide +kernel
theorem dX13_readString_32 : decode cX13_readString 32 = .ok (.bipush 32, 2) := by decide +kernel
theorem dX13_readString_34 : decode cX13_readString 34 = .ok (.if_icmp .ge 14, 3) := by decide +kernel
theorem dX13_readString_37 : decode cX13_readString 37 = .ok (.aload_n 0, 1) := by decide +kernel
theorem dX13_readString_38 : decode cX13_readString 38 = .ok (.aload_n 0, 1) := by decide +kernel
theorem dX13_readString_39 : decode cX13_readString 39 = .ok (.getfield 336, 3) := by decide +kernel
theorem dX13_readString_42 : decode cX13_readString 42 = .ok (.invokevirtual 375, 3) := by decide +kernel
theorem dX13_readString_45 : decode cX13_readString 45 = .ok (.goto 56, 3) := by decide +kernel
theorem dX13_readString_48 : decode cX13_readString 48 = .ok (.iload_n 1, 1) := by decide +kernel
theorem dX13_readString_49 : decode cX13_readString 49 = .ok (.bipush 92, 2) := by decide +kernel
theorem dX13_readString_51 : decode cX13_readString 51 = .ok (.if_icmp .ne 20, 3) := by decide +kernel
theorem dX13_readString_54 : decode cX13_readString 54 = .ok (.aload_n 0, 1) := by decide +kernel
theorem dX13_readString_55 : decode cX13_readString 55 = .ok (.dup, 1) := by decide +kernel
theorem dX13_readString_56 : decode cX13_readString 56 = .ok (.getfield 336, 3) := by decide +kernel
theorem dX13_readString_59 : decode cX13_readString 59 = .ok (.iconst 1, 1) := by decide +kernel
theorem dX13_readString_60 : decode cX13_readString 60 = .ok (.iadd, 1) := by decide +kernel
theorem dX13_readString_61 : decode cX13_readString 61 = .ok (.putfield 336, 3) := by decide +kernel
theorem dX13_readString_64 : decode cX13_readString 64 = .ok (.aload_n 0, 1) := by decide +kernel
theorem dX13_readString_65 : decode cX13_readString 65 = .ok (.invokevirtual 424, 3) := by decide +kernel
theorem dX13_readString_68 : decode cX13_readString 68 = .ok (.goto 33, 3) := by decide +kernel
theorem dX13_readString_71 : decode cX13_readString 71 = .ok (.iload_n 1, 1) := by decide +kernel
theorem dX13_readString_72 : decode cX13_readString 72 = .ok (.sipush 128, 3) := by decide +kernel
theorem dX13_readString_75 : decode cX13_readString 75 = .ok (.if_icmp .ge 21, 3) := by decide +kernel
theorem dX13_readString_78 : decode cX13_readString 78 = .ok (.aload_n 0, 1) := by decide +kernel
theorem dX13_readString_79 : decode cX13_readString 79 = .ok (.iload_n 1, 1) := by decide +kernel
theorem dX13_readString_80 : decode cX13_readString 80 = .ok (.invokevirtual 402, 3) := by decide +kernel
theorem dX13_readString_83 : decode cX13_readString 83 = .ok (.aload_n 0, 1) := by decide +kernel
theorem dX13_readString_84 : decode cX13_readString 84 = .ok (.dup, 1) := by decide +kernel
theorem dX13_readString_85 : decode cX13_readString 85 = .ok (.getfield 336, 3) := by decide +kernel
theorem dX13_readString_88 : decode cX13_readString 88 = .ok (.iconst 1, 1) := by decide +kernel
theorem dX13_readString_89 : decode cX13_readString 89 = .ok (.iadd, 1) := by decide +kernel
theorem dX13_readString_90 : decode cX13_readString 90 = .ok (.putfield 336, 3) := by decide +kernel
theorem dX13_readString_93 : decode cX13_readString 93 = .ok (.goto 8, 3) := by decide +kernel
theorem dX13_readString_96 : decode cX13_readString 96 = .ok (.aload_n 0, 1) := by decide +kernel
theorem dX13_readString_97 : decode cX13_readString 97 = .ok (.iload_n 1, 1) := by decide +kernel
theorem dX13_readString_98 : decode cX13_readString 98 = .ok (.invokevirtual 427, 3) := by decide +kernel
theorem dX13_readString_101 : decode cX13_readString 101 = .ok (.goto (-91), 3) := by decide +kernel
theorem dX13_readString_104 : decode cX13_readString 104 = .ok (.aload_n 0, 1) := by decide +kernel
theorem dX13_readString_105 : decode cX13_readString 105 = .ok (.dup, 1) := by decide +kernel
theorem dX13_readString_106 : decode cX13_readString 106 = .ok (.getfield 336, 3) := by decide +kernel
theorem dX13_readString_109 : decode cX13_readString 109 = .ok (.iconst 1, 1) := by decide +kernel
theorem dX13_readString_110 : decode cX13_readString 110 = .ok (.iadd, 1) := by decide +kernel
theorem dX13_readString_111 : decode cX13_readString 111 = .ok (.putfield 336, 3) := by decide +kernel
theorem dX13_readString_114 : decode cX13_readString 114 = .ok (.return_, 1) := by decide +kernel
abbrev rmX13_readString : Room := { frames := 5, cells := 0, slots := 0, locals := 115 }
def B_X13_readString_10 (G : Nat → Nat) (F : Nat) : Nat → Nat → mM → Option mM
  | 0, _, _ => none
  | n + 1, l0, M =>
  bO (rcv M l0 13) fun _ =>
  bP (P_X13_good G F l0 M) fun v11 M11 =>
  if v11 = 0 then (bO (gfI M11 l0 13 22) fun v106 =>
  bO (pfv M11 l0 13 22 (.int (v106 + (1 : Int32)))) fun M111 =>
  some M111)
  else (bO (rcv M11 l0 13) fun _ =>
  bP (P_X13_at G F l0 M11) fun v18 M18 =>
  if v18 = (34 : Int32) then (bO (gfI M18 l0 13 22) fun v106 =>
  bO (pfv M18 l0 13 22 (.int (v106 + (1 : Int32)))) fun M111 =>
  some M111)
  else (bO (rcv M18 l0 13) fun _ =>
  bP (P_X13_at G F l0 M18) fun v27 M27 =>
  if (32 : Int32) ≤ v27 then (if v27 = (92 : Int32) then (bO (gfI M27 l0 13 22) fun v56 =>
  bO (pfv M27 l0 13 22 (.int (v56 + (1 : Int32)))) fun M61 =>
  bO (rcv M61 l0 13) fun _ =>
  bO (P_X13_escape G F l0 M61) fun M65 =>
  B_X13_readString_10 G F n l0 M65)
  else (if (128 : Int32) ≤ v27 then (bO (rcv M27 l0 13) fun _ =>
  bO (P_X13_wide G F l0 v27 M27) fun M98 =>
  B_X13_readString_10 G F n l0 M98)
  else (bO (rcv M27 l0 13) fun _ =>
  bO (P_X13_keep8 G F l0 v27 M27) fun M80 =>
  bO (gfI M80 l0 13 22) fun v85 =>
  bO (pfv M80 l0 13 22 (.int (v85 + (1 : Int32)))) fun M90 =>
  B_X13_readString_10 G F n l0 M90)))
  else (bO (gfI M27 l0 13 22) fun v39 =>
  bO (rcv M27 l0 13) fun _ =>
  bO (P_X13_fail G F l0 v39 M27) fun M42 =>
  B_X13_readString_10 G F n l0 M42)))
set_option maxHeartbeats 4000000 in
set_option maxRecDepth 100000 in
theorem wB_X13_readString_10 {G : Nat → Nat} {F : Nat} {x : mXT} {sz : Nat} {M0 : mM} (X : mCX G RX13 cX13_readString 2 none "readString" rmX13_readString x) (hQ : mQV x M0 (sz, 0, 0)) : ∀ (n : Nat) (l0 : Nat) (M : mM), B_X13_readString_10 G F n l0 M = some M0 → WW x (sz, 0, 0) M 10 [(0, .ref l0)] [] := by
  intro n
  induction n with
  | zero =>
    intro l0 M h
    exact nomatch (show (none : Option mM) = some M0 from h)
  | succ n ih =>
    intro l0 M h
    rw [B_X13_readString_10] at h
    refine ww_aload_n 10 X dX13_readString_10 0 rfl rfl ?_
    obtain ⟨_, f11, h⟩ := bO_some h
    obtain ⟨v11, M11, e11, h⟩ := bP_some h
    refine ww_callVI0 11 X dX13_readString_11 mY_X13_good mL_X13_371 (rcv_spec f11) ⟨_, _, rfl⟩ (by decide) (As := []) (rest := []) rfl rfl ⟨Nat.le_of_ble_eq_true rfl, Nat.le_of_ble_eq_true rfl⟩ (Nat.le_of_ble_eq_true rfl) (fun l D A => c_X13_good l D A e11) ?_
    refine ww_if_eq 14 104 X dX13_readString_14 (by decide) (fun q => ?_) (fun q => ?_)
    · replace h := (if_pos q).symm.trans h
      refine ww_aload_n 104 X dX13_readString_104 0 rfl rfl ?_
      refine ww_dup 105 X dX13_readString_105 rfl ?_
      obtain ⟨v106, e106, h⟩ := bO_some h
      refine ww_getI 106 X dX13_readString_106 fG_X13_336 e106 ?_
      refine ww_iconst 109 X (v := (1 : Int32)) dX13_readString_109 (by decide) ?_
      refine ww_iadd 110 X dX13_readString_110 ?_
      obtain ⟨M111, e111, h⟩ := bO_some h
      refine ww_putI 111 X dX13_readString_111 (fP_X13_336 _) e111 ?_
      exact ww_vretE 114 X hQ dX13_readString_114 h
    · replace h := (if_neg q).symm.trans h
      refine ww_aload_n 17 X dX13_readString_17 0 rfl rfl ?_
      obtain ⟨_, f18, h⟩ := bO_some h
      obtain ⟨v18, M18, e18, h⟩ := bP_some h
      refine ww_callVI0 18 X dX13_readString_18 mY_X13_at mL_X13_351 (rcv_spec f18) ⟨_, _, rfl⟩ (by decide) (As := []) (rest := []) rfl rfl ⟨Nat.le_of_ble_eq_true rfl, Nat.le_of_ble_eq_true rfl⟩ (Nat.le_of_ble_eq_true rfl) (fun l D A => c_X13_at l D A e18) ?_
      refine ww_bipush 21 X (v := (34 : Int32)) dX13_readString_21 (by decide) ?_
      refine ww_icmp_eq 23 104 X dX13_readString_23 (by decide) (fun q => ?_) (fun q => ?_)
      · replace h := (if_pos q).symm.trans h
        refine ww_aload_n 104 X dX13_readString_104 0 rfl rfl ?_
        refine ww_dup 105 X dX13_readString_105 rfl ?_
        obtain ⟨v106, e106, h⟩ := bO_some h
        refine ww_getI 106 X dX13_readString_106 fG_X13_336 e106 ?_
        refine ww_iconst 109 X (v := (1 : Int32)) dX13_readString_109 (by decide) ?_
        refine ww_iadd 110 X dX13_readString_110 ?_
        obtain ⟨M111, e111, h⟩ := bO_some h
        refine ww_putI 111 X dX13_readString_111 (fP_X13_336 _) e111 ?_
        exact ww_vretE 114 X hQ dX13_readString_114 h
      · replace h := (if_neg q).symm.trans h
        refine ww_aload_n 26 X dX13_readString_26 0 rfl rfl ?_
        obtain ⟨_, f27, h⟩ := bO_some h
        obtain ⟨v27, M27, e27, h⟩ := bP_some h
        refine ww_callVI0 27 X dX13_readString_27 mY_X13_at mL_X13_351 (rcv_spec f27) ⟨_, _, rfl⟩ (by decide) (As := []) (rest := []) rfl rfl ⟨Nat.le_of_ble_eq_true rfl, Nat.le_of_ble_eq_true rfl⟩ (Nat.le_of_ble_eq_true rfl) (fun l D A => c_X13_at l D A e27) ?_
        refine ww_istore_n 30 X dX13_readString_30 (lv' := [(0, .ref l0), (1, .int v27)]) rfl (by decide) [1, 0] rfl ?_
        refine ww_iload_n 31 X dX13_readString_31 1 rfl rfl ?_
        refine ww_bipush 32 X (v := (32 : Int32)) dX13_readString_32 (by decide) ?_
        refine ww_icmp_ge 34 48 X dX13_readString_34 (by decide) (fun q => ?_) (fun q => ?_)
        · replace h := (if_pos q).symm.trans h
          refine ww_iload_n 48 X dX13_readString_48 1 rfl rfl ?_
          refine ww_bipush 49 X (v := (92 : Int32)) dX13_readString_49 (by decide) ?_
          refine ww_icmp_ne 51 71 X dX13_readString_51 (by decide) (fun q => ?_) (fun q => ?_)
          · replace h := (if_neg q).symm.trans h
            refine ww_iload_n 71 X dX13_readString_71 1 rfl rfl ?_
            refine ww_sipush 72 X (v := (128 : Int32)) dX13_readString_72 (by decide) ?_
            refine ww_icmp_ge 75 96 X dX13_readString_75 (by decide) (fun q => ?_) (fun q => ?_)
            · replace h := (if_pos q).symm.trans h
              refine ww_aload_n 96 X dX13_readString_96 0 rfl rfl ?_
              refine ww_iload_n 97 X dX13_readString_97 1 rfl rfl ?_
              obtain ⟨_, f98, h⟩ := bO_some h
              obtain ⟨M98, e98, h⟩ := bO_some h
              refine ww_callVV0 98 X dX13_readString_98 mY_X13_wide mL_X13_427 (rcv_spec f98) ⟨_, _, rfl⟩ (by decide) (As := [.int v27]) (rest := []) rfl rfl ⟨Nat.le_of_ble_eq_true rfl, Nat.le_of_ble_eq_true rfl⟩ (Nat.le_of_ble_eq_true rfl) (fun l D A => c_X13_wide l D A e98) ?_
              refine ww_goto 101 10 X dX13_readString_101 (by decide) ?_
              exact ww_sub [0] rfl (ih _ _ h)
            · replace h := (if_neg q).symm.trans h
              refine ww_aload_n 78 X dX13_readString_78 0 rfl rfl ?_
              refine ww_iload_n 79 X dX13_readString_79 1 rfl rfl ?_
              obtain ⟨_, f80, h⟩ := bO_some h
              obtain ⟨M80, e80, h⟩ := bO_some h
              refine ww_callVV0 80 X dX13_readString_80 mY_X13_keep8 mL_X13_402 (rcv_spec f80) ⟨_, _, rfl⟩ (by decide) (As := [.int v27]) (rest := []) rfl rfl ⟨Nat.le_of_ble_eq_true rfl, Nat.le_of_ble_eq_true rfl⟩ (Nat.le_of_ble_eq_true rfl) (fun l D A => c_X13_keep8 l D A e80) ?_
              refine ww_aload_n 83 X dX13_readString_83 0 rfl rfl ?_
              refine ww_dup 84 X dX13_readString_84 rfl ?_
              obtain ⟨v85, e85, h⟩ := bO_some h
              refine ww_getI 85 X dX13_readString_85 fG_X13_336 e85 ?_
              refine ww_iconst 88 X (v := (1 : Int32)) dX13_readString_88 (by decide) ?_
              refine ww_iadd 89 X dX13_readString_89 ?_
              obtain ⟨M90, e90, h⟩ := bO_some h
              refine ww_putI 90 X dX13_readString_90 (fP_X13_336 _) e90 ?_
              refine ww_goto 93 101 X dX13_readString_93 (by decide) ?_
              refine ww_goto 101 10 X dX13_readString_101 (by decide) ?_
              exact ww_sub [0] rfl (ih _ _ h)
          · replace h := (if_pos q).symm.trans h
            refine ww_aload_n 54 X dX13_readString_54 0 rfl rfl ?_
            refine ww_dup 55 X dX13_readString_55 rfl ?_
            obtain ⟨v56, e56, h⟩ := bO_some h
            refine ww_getI 56 X dX13_readString_56 fG_X13_336 e56 ?_
            refine ww_iconst 59 X (v := (1 : Int32)) dX13_readString_59 (by decide) ?_
            refine ww_iadd 60 X dX13_readString_60 ?_
            obtain ⟨M61, e61, h⟩ := bO_some h
            refine ww_putI 61 X dX13_readString_61 (fP_X13_336 _) e61 ?_
            refine ww_aload_n 64 X dX13_readString_64 0 rfl rfl ?_
            obtain ⟨_, f65, h⟩ := bO_some h
            obtain ⟨M65, e65, h⟩ := bO_some h
            refine ww_callVV0 65 X dX13_readString_65 mY_X13_escape mL_X13_424 (rcv_spec f65) ⟨_, _, rfl⟩ (by decide) (As := []) (rest := []) rfl rfl ⟨Nat.le_of_ble_eq_true rfl, Nat.le_of_ble_eq_true rfl⟩ (Nat.le_of_ble_eq_true rfl) (fun l D A => c_X13_escape l D A e65) ?_
            refine ww_goto 68 101 X dX13_readString_68 (by decide) ?_
            refine ww_goto 101 10 X dX13_readString_101 (by decide) ?_
            exact ww_sub [0] rfl (ih _ _ h)
        · replace h := (if_neg q).symm.trans h
          refine ww_aload_n 37 X dX13_readString_37 0 rfl rfl ?_
          refine ww_aload_n 38 X dX13_readString_38 0 rfl rfl ?_
          obtain ⟨v39, e39, h⟩ := bO_some h
          refine ww_getI 39 X dX13_readString_39 fG_X13_336 e39 ?_
          obtain ⟨_, f42, h⟩ := bO_some h
          obtain ⟨M42, e42, h⟩ := bO_some h
          refine ww_callVV0 42 X dX13_readString_42 mY_X13_fail mL_X13_375 (rcv_spec f42) ⟨_, _, rfl⟩ (by decide) (As := [.int v39]) (rest := []) rfl rfl ⟨Nat.le_of_ble_eq_true rfl, Nat.le_of_ble_eq_true rfl⟩ (Nat.le_of_ble_eq_true rfl) (fun l D A => c_X13_fail l D A e42) ?_
          refine ww_goto 45 101 X dX13_readString_45 (by decide) ?_
          refine ww_goto 101 10 X dX13_readString_101 (by decide) ?_
          exact ww_sub [0] rfl (ih _ _ h)
def P_X13_readString (G : Nat → Nat) (F : Nat) (l0 : Nat) (M : mM) : Option mM :=
  bO (gfI M l0 13 22) fun v2 =>
  bO (pfv M l0 13 22 (.int (v2 + (1 : Int32)))) fun M7 =>
  B_X13_readString_10 G F F l0 M7
set_option maxHeartbeats 4000000 in
set_option maxRecDepth 100000 in
theorem wP_X13_readString {G : Nat → Nat} {F : Nat} {x : mXT} {sz : Nat} {M0 : mM} (X : mCX G RX13 cX13_readString 2 none "readString" rmX13_readString x) (hQ : mQV x M0 (sz, 0, 0)) {l0 : Nat} {M : mM} (h : P_X13_readString G F l0 M = some M0) : WW x (sz, 0, 0) M 0 [(0, .ref l0)] [] := by
  unfold P_X13_readString at h
  refine ww_aload_n 0 X dX13_readString_0 0 rfl rfl ?_
  refine ww_dup 1 X dX13_readString_1 rfl ?_
  obtain ⟨v2, e2, h⟩ := bO_some h
  refine ww_getI 2 X dX13_readString_2 fG_X13_336 e2 ?_
  refine ww_iconst 5 X (v := (1 : Int32)) dX13_readString_5 (by decide) ?_
  refine ww_iadd 6 X dX13_readString_6 ?_
  obtain ⟨M7, e7, h⟩ := bO_some h
  refine ww_putI 7 X dX13_readString_7 (fP_X13_336 _) e7 ?_
  exact (wB_X13_readString_10 X hQ F _ _ h)
theorem c_X13_readString {G : Nat → Nat} {F sz : Nat} {M0 : mM} (l : Launch) (D : mD) (A : Nat → Prop) {l0 : Nat} {M : mM} (h : P_X13_readString G F l0 M = some M0) : mMetV l D G A yX13_readString cX13_readString 2 none 5 115 0 0 [.ref l0] M sz M0 sz := mMetV_of l D G A (by decide) (Nat.le_of_ble_eq_true rfl) (fun x X hQ => wP_X13_readString X hQ h)
/-! SealedTokensModel.readName(I)V -/
theorem dX13_readName_0 : decode cX13_readName 0 = .ok (.aload_n 0, 1) := by decide +kernel
theorem dX13_readName_1 : decode cX13_readName 1 = .ok (.getfield 336, 3) := by decide +kernel
theorem dX13_readName_4 : decode cX13_readName 4 = .ok (.istore_n 2, 1) := by decide +kernel
theorem dX13_readName_5 : decode cX13_readName 5 = .ok (.aload_n 0, 1) := by decide +kernel
theorem dX13_readName_6 : decode cX13_readName 6 = .ok (.getfield 358, 3) := by decide +kernel
theorem dX13_readName_9 : decode cX13_readName 9 = .ok (.istore_n 3, 1) := by decide +kernel
theorem dX13_readName_10 : decode cX13_readName 10 = .ok (.aload_n 0, 1) := by decide +kernel
theorem dX13_readName_11 : decode cX13_readName 11 = .ok (.invokevirtual 351, 3) := by decide +kernel
theorem dX13_readName_14 : decode cX13_readName 14 = .ok (.bipush 34, 2) := by decide +kernel
theorem dX13_readName_16 : decode cX13_readName 16 = .ok (.if_icmp .eq 12, 3) := by decide +kernel
theorem dX13_readName_19 : decode cX13_readName 19 = .ok (.aload_n 0, 1) := by decide +kernel
theorem dX13_readName_20 : decode cX13_readName 20 = .ok (.aload_n 0, 1) := by decide +kernel
theorem dX13_readName_21 : decode cX13_readName 21 = .ok (.getfield 336, 3) := by decide +kernel
theorem dX13_readName_24 : decode cX13_readName 24 = .ok (.invokevirtual 375, 3) := by decide +kernel
theorem dX13_readName_27 : decode cX13_readName 27 = .ok (.return_, 1) := by decide +kernel
theorem dX13_readName_28 : decode cX13_readName 28 = .ok (.aload_n 0, 1) := by decide +kernel
theorem dX13_readName_29 : decode cX13_readName 29 = .ok (.invokevirtual 386, 3) := by decide +kernel
theorem dX13_readName_32 : decode cX13_readName 32 = .ok (.iload_n 1, 1) := by decide +kernel
theorem dX13_readName_33 : decode cX13_readName 33 = .ok (.iconst 1, 1) := by decide +kernel
theorem dX13_readName_34 : decode cX13_readName 34 = .ok (.iadd, 1) := by decide +kernel
theorem dX13_readName_35 : decode cX13_readName 35 = .ok (.istore 4, 2) := by decide +kernel
theorem dX13_readName_37 : decode cX13_readName 37 = .ok (.iload 4, 2) := by decide +kernel
theorem dX13_readName_39 : decode cX13_readName 39 = .ok (.sipush 600, 3) := by decide +kernel
theorem dX13_readName_42 : decode cX13_readName 42 = .ok (.aload_n 0, 1) := by decide +kernel
theorem dX13_readName_43 : decode cX13_readName 43 = .ok (.getfield 355, 3) := by decide +kernel
theorem dX13_readName_46 : decode cX13_readName 46 = .ok (.imul, 1) := by decide +kernel
theorem dX13_readName_47 : decode cX13_readName 47 = .ok (.aload_n 0, 1) := by decide +kernel
theorem dX13_readName_48 : decode cX13_readName 48 = .ok (.getfield 54, 3) := by decide +kernel
theorem dX13_readName_51 : decode cX13_readName 51 = .ok (.aload_n 0, 1) := by decide +kernel
theorem dX13_readName_52 : decode cX13_readName 52 = .ok (.getfield 355, 3) := by decide +kernel
theorem dX13_readName_55 : decode cX13_readName 55 = .ok (.iaload, 1) := by decide +kernel
theorem dX13_readName_56 : decode cX13_readName 56 = .ok (.iadd, 1) := by decide +kernel
theorem dX13_readName_57 : decode cX13_readName 57 = .ok (.if_icmp .ge 85, 3) := by decide +kernel
theorem dX13_readName_60 : decode cX13_readName 60 = .ok (.aload_n 0, 1) := by decide +kernel
theorem dX13_readName_61 : decode cX13_readName 61 = .ok (.invokevirtual 371, 3) := by decide +kernel
theorem dX13_readName_64 : decode cX13_readName 64 = .ok (.ifCond .eq 78, 3) := by decide +kernel
theorem dX13_readName_67 : decode cX13_readName 67 = .ok (.aload_n 0, 1) := by decide +kernel
theorem dX13_readName_68 : decode cX13_readName 68 = .ok (.getfield 27, 3) := by decide +kernel
theorem dX13_readName_71 : decode cX13_readName 71 = .ok (.iload 4, 2) := by decide +kernel
theorem dX13_readName_73 : decode cX13_readName 73 = .ok (.iaload, 1) := by decide +kernel
theorem dX13_readName_74 : decode cX13_readName 74 = .ok (.iload_n 1, 1) := by decide +kernel
theorem dX13_readName_75 : decode cX13_readName 75 = .ok (.sipush 600, 3) := by decide +kernel
theorem dX13_readName_78 : decode cX13_readName 78 = .ok (.aload_n 0, 1) := by decide +kernel
theorem dX13_readName_79 : decode cX13_readName 79 = .ok (.getfield 355, 3) := by decide +kernel
theorem dX13_readName_82 : decode cX13_readName 82 = .ok (.imul, 1) := by decide +kernel
theorem dX13_readName_83 : decode cX13_readName 83 = .ok (.isub, 1) := by decide +kernel
theorem dX13_readName_84 : decode cX13_readName 84 = .ok (.if_icmp .ne 52, 3) := by decide +kernel
theorem dX13_readName_87 : decode cX13_readName 87 = .ok (.aload_n 0, 1) := by decide +kernel
theorem dX13_readName_88 : decode cX13_readName 88 = .ok (.getfield 48, 3) := by decide +kernel
theorem dX13_readName_91 : decode cX13_readName 91 = .ok (.iload 4, 2) := by decide +kernel
theorem dX13_readName_93 : decode cX13_readName 93 = .ok (.iaload, 1) := by decide +kernel
theorem dX13_readName_94 : decode cX13_readName 94 = .ok (.aload_n 0, 1) := by decide +kernel
theorem dX13_readName_95 : decode cX13_readName 95 = .ok (.getfield 358, 3) := by decide +kernel
theorem dX13_readName_98 : decode cX13_readName 98 = .ok (.iload_n 3, 1) := by decide +kernel
theorem dX13_readName_99 : decode cX13_readName 99 = .ok (.isub, 1) := by decide +kernel
theorem dX13_readName_100 : decode cX13_readName 100 = .ok (.if_icmp .ne 36, 3) := by decide +kernel
theorem dX13_readName_103 : decode cX13_readName 103 = .ok (.aload_n 0, 1) := by decide +kernel
theorem dX13_readName_104 : decode cX13_readName 104 = .ok (.getfield 51, 3) := by decide +kernel
theorem dX13_readName_107 : decode cX13_readName 107 = .ok (.aload_n 0, 1) := by decide +kernel
theorem dX13_readName_108 : decode cX13_readName 108 = .ok (.getfield 45, 3) := by decide +kernel
theorem dX13_readName_111 : decode cX13_readName 111 = .ok (.iload 4, 2) := by decide +kernel
theorem dX13_readName_113 : decode cX13_readName 113 = .ok (.iaload, 1) := by decide +kernel
theorem dX13_readName_114 : decode cX13_readName 114 = .ok (.aload_n 0, 1) := by decide +kernel
theorem dX13_readName_115 : decode cX13_readName 115 = .ok (.getfield 51, 3) := by decide +kernel
theorem dX13_readName_118 : decode cX13_readName 118 = .ok (.iload_n 3, 1) := by decide +kernel
theorem dX13_readName_119 : decode cX13_readName 119 = .ok (.aload_n 0, 1) := by decide +kernel
theorem dX13_readName_120 : decode cX13_readName 120 = .ok (.getfield 358, 3) := by decide +kernel
theorem dX13_readName_123 : decode cX13_readName 123 = .ok (.iload_n 3, 1) := by decide +kernel
theorem dX13_readName_124 : decode cX13_readName 124 = .ok (.isub, 1) := by decide +kernel
theorem dX13_readName_125 : decode cX13_readName 125 = .ok (.invokestatic 420, 3) := by decide +kernel
theorem dX13_readName_128 : decode cX13_readName 128 = .ok (.ifCond .eq 8, 3) := by decide +kernel
theorem dX13_readName_131 : decode cX13_readName 131 = .ok (.aload_n 0, 1) := by decide +kernel
theorem dX13_readName_132 : decode cX13_readName 132 = .ok (.iload_n 2, 1) := by decide +kernel
theorem dX13_readName_133 : decode cX13_readName 133 = .ok (.invokevirtual 375, 3) := by decide +kernel
theorem dX13_readName_136 : decode cX13_readName 136 = .ok (.iinc 4 1, 3) := by decide +kernel
theorem dX13_readName_139 : decode cX13_readName 139 = .ok (.goto (-102), 3) := by decide +kernel
theorem dX13_readName_142 : decode cX13_readName 142 = .ok (.aload_n 0, 1) := by decide +kernel
theorem dX13_readName_143 : decode cX13_readName 143 = .ok (.invokevirtual 371, 3) := by decide +kernel
theorem dX13_readName_146 : decode cX13_readName 146 = .ok (.ifCond .eq 41, 3) := by decide +kernel
theorem dX13_readName_149 : decode cX13_readName 149 = .ok (.aload_n 0, 1) := by decide +kernel
theorem dX13_readName_150 : decode cX13_readName 150 = .ok (.invokevirtual 364, 3) := by decide +kernel
theorem dX13_readName_153 : decode cX13_readName 153 = .ok (.aload_n 0, 1) := by decide +kernel
theorem dX13_readName_154 : decode cX13_readName 154 = .ok (.invokevirtual 351, 3) := by decide +kernel
theorem dX13_readName_157 : decode cX13_readName 157 = .ok (.bipush 58, 2) := by decide +kernel
theorem dX13_readName_159 : decode cX13_readName 159 = .ok (.if_icmp .ne 20, 3) := by decide +kernel
theorem dX13_readName_162 : decode cX13_readName 162 = .ok (.aload_n 0, 1) := by decide +kernel
theorem dX13_readName_163 : decode cX13_readName 163 = .ok (.dup, 1) := by decide +kernel
theorem dX13_readName_164 : decode cX13_readName 164 = .ok (.getfield 336, 3) := by decide +kernel
theorem dX13_readName_167 : decode cX13_readName 167 = .ok (.iconst 1, 1) := by decide +kernel
theorem dX13_readName_168 : decode cX13_readName 168 = .ok (.iadd, 1) := by decide +kernel
theorem dX13_readName_169 : decode cX13_readName 169 = .ok (.putfield 336, 3) := by decide +kernel
theorem dX13_readName_172 : decode cX13_readName 172 = .ok (.aload_n 0, 1) := by decide +kernel
theorem dX13_readName_173 : decode cX13_readName 173 = .ok (.invokevirtual 364, 3) := by decide +kernel
theorem dX13_readName_176 : decode cX13_readName 176 = .ok (.goto 11, 3) := by decide +kernel
theorem dX13_readName_179 : decode cX13_readName 179 = .ok (.aload_n 0, 1) := by decide +kernel
theorem dX13_readName_180 : decode cX13_readName 180 = .ok (.aload_n 0, 1) := by decide +kernel
theorem dX13_readName_181 : decode cX13_readName 181 = .ok (.getfield 336, 3) := by decide +kernel
theorem dX13_readName_184 : decode cX13_readName 184 = .ok (.invokevirtual 375, 3) := by decide +kernel
theorem dX13_readName_187 : decode cX13_readName 187 = .ok (.return_, 1) := by decide +kernel
abbrev rmX13_readName : Room := { frames := 6, cells := 0, slots := 0, locals := 136 }
def B_X13_readName_142 (G : Nat → Nat) (F : Nat) (l0 : Nat) (M : mM) : Option mM :=
  bO (rcv M l0 13) fun _ =>
  bP (P_X13_good G F l0 M) fun v143 M143 =>
  if v143 = 0 then (some M143)
  else (bO (rcv M143 l0 13) fun _ =>
  bO (P_X13_blanks G F l0 M143) fun M150 =>
  bO (rcv M150 l0 13) fun _ =>
  bP (P_X13_at G F l0 M150) fun v154 M154 =>
  if v154 = (58 : Int32) then (bO (gfI M154 l0 13 22) fun v164 =>
  bO (pfv M154 l0 13 22 (.int (v164 + (1 : Int32)))) fun M169 =>
  bO (rcv M169 l0 13) fun _ =>
  bO (P_X13_blanks G F l0 M169) fun M173 =>
  some M173)
  else (bO (gfI M154 l0 13 22) fun v181 =>
  bO (rcv M154 l0 13) fun _ =>
  bO (P_X13_fail G F l0 v181 M154) fun M184 =>
  some M184))
set_option maxHeartbeats 4000000 in
set_option maxRecDepth 100000 in
theorem wB_X13_readName_142 {G : Nat → Nat} {F : Nat} {x : mXT} {sz : Nat} {M0 : mM} (X : mCX G RX13 cX13_readName 5 none "readName" rmX13_readName x) (hQ : mQV x M0 (sz, 0, 0)) {l0 : Nat} {M : mM} (h : B_X13_readName_142 G F l0 M = some M0) : WW x (sz, 0, 0) M 142 [(0, .ref l0)] [] := by
  unfold B_X13_readName_142 at h
  refine ww_aload_n 142 X dX13_readName_142 0 rfl rfl ?_
  obtain ⟨_, f143, h⟩ := bO_some h
  obtain ⟨v143, M143, e143, h⟩ := bP_some h
  refine ww_callVI0 143 X dX13_readName_143 mY_X13_good mL_X13_371 (rcv_spec f143) ⟨_, _, rfl⟩ (by decide) (As := []) (rest := []) rfl rfl ⟨Nat.le_of_ble_eq_true rfl, Nat.le_of_ble_eq_true rfl⟩ (Nat.le_of_ble_eq_true rfl) (fun l D A => c_X13_good l D A e143) ?_
  refine ww_if_eq 146 187 X dX13_readName_146 (by decide) (fun q => ?_) (fun q => ?_)
  · replace h := (if_pos q).symm.trans h
    exact ww_vretE 187 X hQ dX13_readName_187 h
  · replace h := (if_neg q).symm.trans h
    refine ww_aload_n 149 X dX13_readName_149 0 rfl rfl ?_
    obtain ⟨_, f150, h⟩ := bO_some h
    obtain ⟨M150, e150, h⟩ := bO_some h
    refine ww_callVV0 150 X dX13_readName_150 mY_X13_blanks mL_X13_364 (rcv_spec f150) ⟨_, _, rfl⟩ (by decide) (As := []) (rest := []) rfl rfl ⟨Nat.le_of_ble_eq_true rfl, Nat.le_of_ble_eq_true rfl⟩ (Nat.le_of_ble_eq_true rfl) (fun l D A => c_X13_blanks l D A e150) ?_
    refine ww_aload_n 153 X dX13_readName_153 0 rfl rfl ?_
    obtain ⟨_, f154, h⟩ := bO_some h
    obtain ⟨v154, M154, e154, h⟩ := bP_some h
    refine ww_callVI0 154 X dX13_readName_154 mY_X13_at mL_X13_351 (rcv_spec f154) ⟨_, _, rfl⟩ (by decide) (As := []) (rest := []) rfl rfl ⟨Nat.le_of_ble_eq_true rfl, Nat.le_of_ble_eq_true rfl⟩ (Nat.le_of_ble_eq_true rfl) (fun l D A => c_X13_at l D A e154) ?_
    refine ww_bipush 157 X (v := (58 : Int32)) dX13_readName_157 (by decide) ?_
    refine ww_icmp_ne 159 179 X dX13_readName_159 (by decide) (fun q => ?_) (fun q => ?_)
    · replace h := (if_neg q).symm.trans h
      refine ww_aload_n 179 X dX13_readName_179 0 rfl rfl ?_
      refine ww_aload_n 180 X dX13_readName_180 0 rfl rfl ?_
      obtain ⟨v181, e181, h⟩ := bO_some h
      refine ww_getI 181 X dX13_readName_181 fG_X13_336 e181 ?_
      obtain ⟨_, f184, h⟩ := bO_some h
      obtain ⟨M184, e184, h⟩ := bO_some h
      refine ww_callVV0 184 X dX13_readName_184 mY_X13_fail mL_X13_375 (rcv_spec f184) ⟨_, _, rfl⟩ (by decide) (As := [.int v181]) (rest := []) rfl rfl ⟨Nat.le_of_ble_eq_true rfl, Nat.le_of_ble_eq_true rfl⟩ (Nat.le_of_ble_eq_true rfl) (fun l D A => c_X13_fail l D A e184) ?_
      exact ww_vretE 187 X hQ dX13_readName_187 h
    · replace h := (if_pos q).symm.trans h
      refine ww_aload_n 162 X dX13_readName_162 0 rfl rfl ?_
      refine ww_dup 163 X dX13_readName_163 rfl ?_
      obtain ⟨v164, e164, h⟩ := bO_some h
      refine ww_getI 164 X dX13_readName_164 fG_X13_336 e164 ?_
      refine ww_iconst 167 X (v := (1 : Int32)) dX13_readName_167 (by decide) ?_
      refine ww_iadd 168 X dX13_readName_168 ?_
      obtain ⟨M169, e169, h⟩ := bO_some h
      refine ww_putI 169 X dX13_readName_169 (fP_X13_336 _) e169 ?_
      refine ww_aload_n 172 X dX13_readName_172 0 rfl rfl ?_
      obtain ⟨_, f173, h⟩ := bO_some h
      obtain ⟨M173, e173, h⟩ := bO_some h
      refine ww_callVV0 173 X dX13_readName_173 mY_X13_blanks mL_X13_364 (rcv_spec f173) ⟨_, _, rfl⟩ (by decide) (As := []) (rest := []) rfl rfl ⟨Nat.le_of_ble_eq_true rfl, Nat.le_of_ble_eq_true rfl⟩ (Nat.le_of_ble_eq_true rfl) (fun l D A => c_X13_blanks l D A e173) ?_
      refine ww_goto 176 187 X dX13_readName_176 (by decide) ?_
      exact ww_vretE 187 X hQ dX13_readName_187 h
def B_X13_readName_37 (G : Nat → Nat) (F : Nat) : Nat → Nat → Int32 → Int32 → Int32 → Int32 → mM → Option mM
  | 0, _, _, _, _, _, _ => none
  | n + 1, l0, l1, l2, l3, l4, M =>
  bO (gfI M l0 13 24) fun v43 =>
  bO (gfR M l0 13 16) fun v48 =>
  bO (gfI M l0 13 24) fun v52 =>
  bO (aI M 0 v48 v52) fun v55 =>
  if (((600 : Int32) * v43) + v55) ≤ l4 then (B_X13_readName_142 G F l0 M)
  else (bO (rcv M l0 13) fun _ =>
  bP (P_X13_good G F l0 M) fun v61 M61 =>
  if v61 = 0 then (B_X13_readName_142 G F l0 M61)
  else (bO (gfR M61 l0 13 7) fun v68 =>
  bO (aI M61 0 v68 l4) fun v73 =>
  bO (gfI M61 l0 13 24) fun v79 =>
  if v73 = (l1 - ((600 : Int32) * v79)) then (bO (gfR M61 l0 13 14) fun v88 =>
  bO (aI M61 0 v88 l4) fun v93 =>
  bO (gfI M61 l0 13 25) fun v95 =>
  if v93 = (v95 - l3) then (bO (gfR M61 l0 13 15) fun v104 =>
  bO (gfR M61 l0 13 13) fun v108 =>
  bO (aI M61 0 v108 l4) fun v113 =>
  bO (gfR M61 l0 13 15) fun v115 =>
  bO (gfI M61 l0 13 25) fun v120 =>
  bP (P_X13_same G F v104 v113 v115 l3 (v120 - l3) M61) fun v125 M125 =>
  if v125 = 0 then (B_X13_readName_37 G F n l0 l1 l2 l3 (l4 + 1) M125)
  else (bO (rcv M125 l0 13) fun _ =>
  bO (P_X13_fail G F l0 l2 M125) fun M133 =>
  B_X13_readName_37 G F n l0 l1 l2 l3 (l4 + 1) M133))
  else (B_X13_readName_37 G F n l0 l1 l2 l3 (l4 + 1) M61))
  else (B_X13_readName_37 G F n l0 l1 l2 l3 (l4 + 1) M61)))
set_option maxHeartbeats 4000000 in
set_option maxRecDepth 100000 in
theorem wB_X13_readName_37 {G : Nat → Nat} {F : Nat} {x : mXT} {sz : Nat} {M0 : mM} (X : mCX G RX13 cX13_readName 5 none "readName" rmX13_readName x) (hQ : mQV x M0 (sz, 0, 0)) : ∀ (n : Nat) (l0 : Nat) (l1 : Int32) (l2 : Int32) (l3 : Int32) (l4 : Int32) (M : mM), B_X13_readName_37 G F n l0 l1 l2 l3 l4 M = some M0 → WW x (sz, 0, 0) M 37 [(0, .ref l0), (1, .int l1), (2, .int l2), (3, .int l3), (4, .int l4)] [] := by
  intro n
  induction n with
  | zero =>
    intro l0 l1 l2 l3 l4 M h
    exact nomatch (show (none : Option mM) = some M0 from h)
  | succ n ih =>
    intro l0 l1 l2 l3 l4 M h
    rw [B_X13_readName_37] at h
    refine ww_iload 37 X dX13_readName_37 4 rfl ?_
    refine ww_sipush 39 X (v := (600 : Int32)) dX13_readName_39 (by decide) ?_
    refine ww_aload_n 42 X dX13_readName_42 0 rfl rfl ?_
    obtain ⟨v43, e43, h⟩ := bO_some h
    refine ww_getI 43 X dX13_readName_43 fG_X13_355 e43 ?_
    refine ww_imul 46 X dX13_readName_46 ?_
    refine ww_aload_n 47 X dX13_readName_47 0 rfl rfl ?_
    obtain ⟨v48, e48, h⟩ := bO_some h
    refine ww_getR 48 X dX13_readName_48 fG_X13_54 e48 ?_
    refine ww_aload_n 51 X dX13_readName_51 0 rfl rfl ?_
    obtain ⟨v52, e52, h⟩ := bO_some h
    refine ww_getI 52 X dX13_readName_52 fG_X13_355 e52 ?_
    obtain ⟨v55, e55, h⟩ := bO_some h
    refine ww_iald 55 X dX13_readName_55 e55 ?_
    refine ww_iadd 56 X dX13_readName_56 ?_
    refine ww_icmp_ge 57 142 X dX13_readName_57 (by decide) (fun q => ?_) (fun q => ?_)
    · replace h := (if_pos q).symm.trans h
      exact ww_sub [0] rfl (wB_X13_readName_142 X hQ h)
    · replace h := (if_neg q).symm.trans h
      refine ww_aload_n 60 X dX13_readName_60 0 rfl rfl ?_
      obtain ⟨_, f61, h⟩ := bO_some h
      obtain ⟨v61, M61, e61, h⟩ := bP_some h
      refine ww_callVI0 61 X dX13_readName_61 mY_X13_good mL_X13_371 (rcv_spec f61) ⟨_, _, rfl⟩ (by decide) (As := []) (rest := []) rfl rfl ⟨Nat.le_of_ble_eq_true rfl, Nat.le_of_ble_eq_true rfl⟩ (Nat.le_of_ble_eq_true rfl) (fun l D A => c_X13_good l D A e61) ?_
      refine ww_if_eq 64 142 X dX13_readName_64 (by decide) (fun q => ?_) (fun q => ?_)
      · replace h := (if_pos q).symm.trans h
        exact ww_sub [0] rfl (wB_X13_readName_142 X hQ h)
      · replace h := (if_neg q).symm.trans h
        refine ww_aload_n 67 X dX13_readName_67 0 rfl rfl ?_
        obtain ⟨v68, e68, h⟩ := bO_some h
        refine ww_getR 68 X dX13_readName_68 fG_X13_27 e68 ?_
        refine ww_iload 71 X dX13_readName_71 4 rfl ?_
        obtain ⟨v73, e73, h⟩ := bO_some h
        refine ww_iald 73 X dX13_readName_73 e73 ?_
        refine ww_iload_n 74 X dX13_readName_74 1 rfl rfl ?_
        refine ww_sipush 75 X (v := (600 : Int32)) dX13_readName_75 (by decide) ?_
        refine ww_aload_n 78 X dX13_readName_78 0 rfl rfl ?_
        obtain ⟨v79, e79, h⟩ := bO_some h
        refine ww_getI 79 X dX13_readName_79 fG_X13_355 e79 ?_
        refine ww_imul 82 X dX13_readName_82 ?_
        refine ww_isub 83 X dX13_readName_83 ?_
        refine ww_icmp_ne 84 136 X dX13_readName_84 (by decide) (fun q => ?_) (fun q => ?_)
        · replace h := (if_neg q).symm.trans h
          refine ww_iinc 136 X dX13_readName_136 (lv' := [(0, .ref l0), (1, .int l1), (2, .int l2), (3, .int l3), (4, .int (l4 + 1))]) 4 rfl rfl (by decide) [1, 2, 3, 4, 0] rfl ?_
          refine ww_goto 139 37 X dX13_readName_139 (by decide) ?_
          exact (ih _ _ _ _ _ _ h)
        · replace h := (if_pos q).symm.trans h
          refine ww_aload_n 87 X dX13_readName_87 0 rfl rfl ?_
          obtain ⟨v88, e88, h⟩ := bO_some h
          refine ww_getR 88 X dX13_readName_88 fG_X13_48 e88 ?_
          refine ww_iload 91 X dX13_readName_91 4 rfl ?_
          obtain ⟨v93, e93, h⟩ := bO_some h
          refine ww_iald 93 X dX13_readName_93 e93 ?_
          refine ww_aload_n 94 X dX13_readName_94 0 rfl rfl ?_
          obtain ⟨v95, e95, h⟩ := bO_some h
          refine ww_getI 95 X dX13_readName_95 fG_X13_358 e95 ?_
          refine ww_iload_n 98 X dX13_readName_98 3 rfl rfl ?_
          refine ww_isub 99 X dX13_readName_99 ?_
          refine ww_icmp_ne 100 136 X dX13_readName_100 (by decide) (fun q => ?_) (fun q => ?_)
          · replace h := (if_neg q).symm.trans h
            refine ww_iinc 136 X dX13_readName_136 (lv' := [(0, .ref l0), (1, .int l1), (2, .int l2), (3, .int l3), (4, .int (l4 + 1))]) 4 rfl rfl (by decide) [1, 2, 3, 4, 0] rfl ?_
            refine ww_goto 139 37 X dX13_readName_139 (by decide) ?_
            exact (ih _ _ _ _ _ _ h)
          · replace h := (if_pos q).symm.trans h
            refine ww_aload_n 103 X dX13_readName_103 0 rfl rfl ?_
            obtain ⟨v104, e104, h⟩ := bO_some h
            refine ww_getR 104 X dX13_readName_104 fG_X13_51 e104 ?_
            refine ww_aload_n 107 X dX13_readName_107 0 rfl rfl ?_
            obtain ⟨v108, e108, h⟩ := bO_some h
            refine ww_getR 108 X dX13_readName_108 fG_X13_45 e108 ?_
            refine ww_iload 111 X dX13_readName_111 4 rfl ?_
            obtain ⟨v113, e113, h⟩ := bO_some h
            refine ww_iald 113 X dX13_readName_113 e113 ?_
            refine ww_aload_n 114 X dX13_readName_114 0 rfl rfl ?_
            obtain ⟨v115, e115, h⟩ := bO_some h
            refine ww_getR 115 X dX13_readName_115 fG_X13_51 e115 ?_
            refine ww_iload_n 118 X dX13_readName_118 3 rfl rfl ?_
            refine ww_aload_n 119 X dX13_readName_119 0 rfl rfl ?_
            obtain ⟨v120, e120, h⟩ := bO_some h
            refine ww_getI 120 X dX13_readName_120 fG_X13_358 e120 ?_
            refine ww_iload_n 123 X dX13_readName_123 3 rfl rfl ?_
            refine ww_isub 124 X dX13_readName_124 ?_
            obtain ⟨v125, M125, e125, h⟩ := bP_some h
            refine ww_callSI0 125 X dX13_readName_125 mY_X13_same mL_X13_420 (As := [.ref v104, .int v113, .ref v115, .int l3, .int (v120 - l3)]) (rest := []) rfl rfl ⟨Nat.le_of_ble_eq_true rfl, Nat.le_of_ble_eq_true rfl⟩ (Nat.le_of_ble_eq_true rfl) (fun l D A => c_X13_same l D A e125) ?_
            refine ww_if_eq 128 136 X dX13_readName_128 (by decide) (fun q => ?_) (fun q => ?_)
            · replace h := (if_pos q).symm.trans h
              refine ww_iinc 136 X dX13_readName_136 (lv' := [(0, .ref l0), (1, .int l1), (2, .int l2), (3, .int l3), (4, .int (l4 + 1))]) 4 rfl rfl (by decide) [1, 2, 3, 4, 0] rfl ?_
              refine ww_goto 139 37 X dX13_readName_139 (by decide) ?_
              exact (ih _ _ _ _ _ _ h)
            · replace h := (if_neg q).symm.trans h
              refine ww_aload_n 131 X dX13_readName_131 0 rfl rfl ?_
              refine ww_iload_n 132 X dX13_readName_132 2 rfl rfl ?_
              obtain ⟨_, f133, h⟩ := bO_some h
              obtain ⟨M133, e133, h⟩ := bO_some h
              refine ww_callVV0 133 X dX13_readName_133 mY_X13_fail mL_X13_375 (rcv_spec f133) ⟨_, _, rfl⟩ (by decide) (As := [.int l2]) (rest := []) rfl rfl ⟨Nat.le_of_ble_eq_true rfl, Nat.le_of_ble_eq_true rfl⟩ (Nat.le_of_ble_eq_true rfl) (fun l D A => c_X13_fail l D A e133) ?_
              refine ww_iinc 136 X dX13_readName_136 (lv' := [(0, .ref l0), (1, .int l1), (2, .int l2), (3, .int l3), (4, .int (l4 + 1))]) 4 rfl rfl (by decide) [1, 2, 3, 4, 0] rfl ?_
              refine ww_goto 139 37 X dX13_readName_139 (by decide) ?_
              exact (ih _ _ _ _ _ _ h)
def P_X13_readName (G : Nat → Nat) (F : Nat) (l0 : Nat) (l1 : Int32) (M : mM) : Option mM :=
  bO (gfI M l0 13 22) fun v1 =>
  bO (gfI M l0 13 25) fun v6 =>
  bO (rcv M l0 13) fun _ =>
  bP (P_X13_at G F l0 M) fun v11 M11 =>
  if v11 = (34 : Int32) then (bO (rcv M11 l0 13) fun _ =>
  bO (P_X13_readString G F l0 M11) fun M29 =>
  B_X13_readName_37 G F F l0 l1 v1 v6 (l1 + (1 : Int32)) M29)
  else (bO (gfI M11 l0 13 22) fun v21 =>
  bO (rcv M11 l0 13) fun _ =>
  bO (P_X13_fail G F l0 v21 M11) fun M24 =>
  some M24)
set_option maxHeartbeats 4000000 in
set_option maxRecDepth 100000 in
theorem wP_X13_readName {G : Nat → Nat} {F : Nat} {x : mXT} {sz : Nat} {M0 : mM} (X : mCX G RX13 cX13_readName 5 none "readName" rmX13_readName x) (hQ : mQV x M0 (sz, 0, 0)) {l0 : Nat} {l1 : Int32} {M : mM} (h : P_X13_readName G F l0 l1 M = some M0) : WW x (sz, 0, 0) M 0 [(0, .ref l0), (1, .int l1)] [] := by
  unfold P_X13_readName at h
  refine ww_aload_n 0 X dX13_readName_0 0 rfl rfl ?_
  obtain ⟨v1, e1, h⟩ := bO_some h
  refine ww_getI 1 X dX13_readName_1 fG_X13_336 e1 ?_
  refine ww_istore_n 4 X dX13_readName_4 (lv' := [(0, .ref l0), (1, .int l1), (2, .int v1)]) rfl (by decide) [1, 2, 0] rfl ?_
  refine ww_aload_n 5 X dX13_readName_5 0 rfl rfl ?_
  obtain ⟨v6, e6, h⟩ := bO_some h
  refine ww_getI 6 X dX13_readName_6 fG_X13_358 e6 ?_
  refine ww_istore_n 9 X dX13_readName_9 (lv' := [(0, .ref l0), (1, .int l1), (2, .int v1), (3, .int v6)]) rfl (by decide) [1, 2, 3, 0] rfl ?_
  refine ww_aload_n 10 X dX13_readName_10 0 rfl rfl ?_
  obtain ⟨_, f11, h⟩ := bO_some h
  obtain ⟨v11, M11, e11, h⟩ := bP_some h
  refine ww_callVI0 11 X dX13_readName_11 mY_X13_at mL_X13_351 (rcv_spec f11) ⟨_, _, rfl⟩ (by decide) (As := []) (rest := []) rfl rfl ⟨Nat.le_of_ble_eq_true rfl, Nat.le_of_ble_eq_true rfl⟩ (Nat.le_of_ble_eq_true rfl) (fun l D A => c_X13_at l D A e11) ?_
  refine ww_bipush 14 X (v := (34 : Int32)) dX13_readName_14 (by decide) ?_
  refine ww_icmp_eq 16 28 X dX13_readName_16 (by decide) (fun q => ?_) (fun q => ?_)
  · replace h := (if_pos q).symm.trans h
    refine ww_aload_n 28 X dX13_readName_28 0 rfl rfl ?_
    obtain ⟨_, f29, h⟩ := bO_some h
    obtain ⟨M29, e29, h⟩ := bO_some h
    refine ww_callVV0 29 X dX13_readName_29 mY_X13_readString mL_X13_386 (rcv_spec f29) ⟨_, _, rfl⟩ (by decide) (As := []) (rest := []) rfl rfl ⟨Nat.le_of_ble_eq_true rfl, Nat.le_of_ble_eq_true rfl⟩ (Nat.le_of_ble_eq_true rfl) (fun l D A => c_X13_readString l D A e29) ?_
    refine ww_iload_n 32 X dX13_readName_32 1 rfl rfl ?_
    refine ww_iconst 33 X (v := (1 : Int32)) dX13_readName_33 (by decide) ?_
    refine ww_iadd 34 X dX13_readName_34 ?_
    refine ww_istore 35 X dX13_readName_35 (lv' := [(0, .ref l0), (1, .int l1), (2, .int v1), (3, .int v6), (4, .int (l1 + (1 : Int32)))]) (by decide) [1, 2, 3, 4, 0] rfl ?_
    exact (wB_X13_readName_37 X hQ F _ _ _ _ _ _ h)
  · replace h := (if_neg q).symm.trans h
    refine ww_aload_n 19 X dX13_readName_19 0 rfl rfl ?_
    refine ww_aload_n 20 X dX13_readName_20 0 rfl rfl ?_
    obtain ⟨v21, e21, h⟩ := bO_some h
    refine ww_getI 21 X dX13_readName_21 fG_X13_336 e21 ?_
    obtain ⟨_, f24, h⟩ := bO_some h
    obtain ⟨M24, e24, h⟩ := bO_some h
    refine ww_callVV0 24 X dX13_readName_24 mY_X13_fail mL_X13_375 (rcv_spec f24) ⟨_, _, rfl⟩ (by decide) (As := [.int v21]) (rest := []) rfl rfl ⟨Nat.le_of_ble_eq_true rfl, Nat.le_of_ble_eq_true rfl⟩ (Nat.le_of_ble_eq_true rfl) (fun l D A => c_X13_fail l D A e24) ?_
    exact ww_vretE 27 X hQ dX13_readName_27 h
theorem c_X13_readName {G : Nat → Nat} {F sz : Nat} {M0 : mM} (l : Launch) (D : mD) (A : Nat → Prop) {l0 : Nat} {l1 : Int32} {M : mM} (h : P_X13_readName G F l0 l1 M = some M0) : mMetV l D G A yX13_readName cX13_readName 5 none 6 136 0 0 [.ref l0, .int l1] M sz M0 sz := mMetV_of l D G A (by decide) (Nat.le_of_ble_eq_true rfl) (fun x X hQ => wP_X13_readName X hQ h)
