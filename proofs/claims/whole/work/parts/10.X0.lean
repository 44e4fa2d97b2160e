/-! SealedTokens$Bytes.clear()V -/
theorem dX0_clear_0 : decode cX0_clear 0 = .ok (.aload_n 0, 1) := by decide +kernel
theorem dX0_clear_1 : decode cX0_clear 1 = .ok (.iconst 0, 1) := by decide +kernel
theorem dX0_clear_2 : decode cX0_clear 2 = .ok (.putfield 21, 3) := by decide +kernel
theorem dX0_clear_5 : decode cX0_clear 5 = .ok (.aload_n 0, 1) := by decide +kernel
theorem dX0_clear_6 : decode cX0_clear 6 = .ok (.iconst 0, 1) := by decide +kernel
theorem dX0_clear_7 : decode cX0_clear 7 = .ok (.putfield 25, 3) := by decide +kernel
theorem dX0_clear_10 : decode cX0_clear 10 = .ok (.return_, 1) := by decide +kernel
abbrev rmX0_clear : Room := { frames := 0, cells := 0, slots := 0, locals := 0 }
def P_X0_clear (G : Nat → Nat) (F : Nat) (l0 : Nat) (M : mM) : Option mM :=
  bO (pfv M l0 0 1 (.int (0 : Int32))) fun M2 =>
  bO (pfZ M2 l0 0 2 (0 : Int32)) fun M7 =>
  some M7
set_option maxHeartbeats 4000000 in
set_option maxRecDepth 100000 in
theorem wP_X0_clear {G : Nat → Nat} {F : Nat} {x : mXT} {sz : Nat} {M0 : mM} (X : mCX G RX0 cX0_clear 1 none "clear" rmX0_clear x) (hQ : mQV x M0 (sz, 0, 0)) {l0 : Nat} {M : mM} (h : P_X0_clear G F l0 M = some M0) : WW x (sz, 0, 0) M 0 [(0, .ref l0)] [] := by
  unfold P_X0_clear at h
  refine ww_aload_n 0 X dX0_clear_0 0 rfl rfl ?_
  refine ww_iconst 1 X (v := (0 : Int32)) dX0_clear_1 (by decide) ?_
  obtain ⟨M2, e2, h⟩ := bO_some h
  refine ww_putI 2 X dX0_clear_2 (fP_X0_21 _) e2 ?_
  refine ww_aload_n 5 X dX0_clear_5 0 rfl rfl ?_
  refine ww_iconst 6 X (v := (0 : Int32)) dX0_clear_6 (by decide) ?_
  obtain ⟨M7, e7, h⟩ := bO_some h
  refine ww_putZ 7 X dX0_clear_7 (fP_X0_25 _) e7 ?_
  exact ww_vretE 10 X hQ dX0_clear_10 h
theorem c_X0_clear {G : Nat → Nat} {F sz : Nat} {M0 : mM} (l : Launch) (D : mD) (A : Nat → Prop) {l0 : Nat} {M : mM} (h : P_X0_clear G F l0 M = some M0) : mMetV l D G A yX0_clear cX0_clear 1 none 0 0 0 0 [.ref l0] M sz M0 sz := mMetV_of l D G A (by decide) (Nat.le_of_ble_eq_true rfl) (fun x X hQ => wP_X0_clear X hQ h)
/-! SealedTokens$Bytes.cutTo(I)V -/
theorem dX0_cutTo_0 : decode cX0_cutTo 0 = .ok (.aload_n 0, 1) := by decide +kernel
theorem dX0_cutTo_1 : decode cX0_cutTo 1 = .ok (.iconst 0, 1) := by decide +kernel
theorem dX0_cutTo_2 : decode cX0_cutTo 2 = .ok (.iload_n 1, 1) := by decide +kernel
theorem dX0_cutTo_3 : decode cX0_cutTo 3 = .ok (.aload_n 0, 1) := by decide +kernel
theorem dX0_cutTo_4 : decode cX0_cutTo 4 = .ok (.getfield 21, 3) := by decide +kernel
theorem dX0_cutTo_7 : decode cX0_cutTo 7 = .ok (.invokestatic 29, 3) := by decide +kernel
theorem dX0_cutTo_10 : decode cX0_cutTo 10 = .ok (.invokestatic 9, 3) := by decide +kernel
theorem dX0_cutTo_13 : decode cX0_cutTo 13 = .ok (.putfield 21, 3) := by decide +kernel
theorem dX0_cutTo_16 : decode cX0_cutTo 16 = .ok (.return_, 1) := by decide +kernel
abbrev rmX0_cutTo : Room := { frames := 1, cells := 0, slots := 0, locals := 21 }
def P_X0_cutTo (G : Nat → Nat) (F : Nat) (l0 : Nat) (l1 : Int32) (M : mM) : Option mM :=
  bO (gfI M l0 0 1) fun v4 =>
  bO (pfv M l0 0 1 (.int (if (0 : Int32) < (if v4 < l1 then v4 else l1) then (if v4 < l1 then v4 else l1) else (0 : Int32)))) fun M13 =>
  some M13
set_option maxHeartbeats 4000000 in
set_option maxRecDepth 100000 in
theorem wP_X0_cutTo {G : Nat → Nat} {F : Nat} {x : mXT} {sz : Nat} {M0 : mM} (X : mCX G RX0 cX0_cutTo 2 none "cutTo" rmX0_cutTo x) (hQ : mQV x M0 (sz, 0, 0)) {l0 : Nat} {l1 : Int32} {M : mM} (h : P_X0_cutTo G F l0 l1 M = some M0) : WW x (sz, 0, 0) M 0 [(0, .ref l0), (1, .int l1)] [] := by
  unfold P_X0_cutTo at h
  refine ww_aload_n 0 X dX0_cutTo_0 0 rfl rfl ?_
  refine ww_iconst 1 X (v := (0 : Int32)) dX0_cutTo_1 (by decide) ?_
  refine ww_iload_n 2 X dX0_cutTo_2 1 rfl rfl ?_
  refine ww_aload_n 3 X dX0_cutTo_3 0 rfl rfl ?_
  obtain ⟨v4, e4, h⟩ := bO_some h
  refine ww_getI 4 X dX0_cutTo_4 fG_X0_21 e4 ?_
  refine ww_mmin 7 X dX0_cutTo_7 mL_X0_29 (Nat.le_of_ble_eq_true rfl) (Nat.le_of_ble_eq_true rfl) (Nat.le_of_ble_eq_true rfl) ?_
  refine ww_mmax 10 X dX0_cutTo_10 mL_X0_9 (Nat.le_of_ble_eq_true rfl) (Nat.le_of_ble_eq_true rfl) (Nat.le_of_ble_eq_true rfl) ?_
  obtain ⟨M13, e13, h⟩ := bO_some h
  refine ww_putI 13 X dX0_cutTo_13 (fP_X0_21 _) e13 ?_
  exact ww_vretE 16 X hQ dX0_cutTo_16 h
theorem c_X0_cutTo {G : Nat → Nat} {F sz : Nat} {M0 : mM} (l : Launch) (D : mD) (A : Nat → Prop) {l0 : Nat} {l1 : Int32} {M : mM} (h : P_X0_cutTo G F l0 l1 M = some M0) : mMetV l D G A yX0_cutTo cX0_cutTo 2 none 1 21 0 0 [.ref l0, .int l1] M sz M0 sz := mMetV_of l D G A (by decide) (Nat.le_of_ble_eq_true rfl) (fun x X hQ => wP_X0_cutTo X hQ h)
/-! SealedTokens$Bytes.get(I)I -/
theorem dX0_get_0 : decode cX0_get 0 = .ok (.iload_n 1, 1) := by decide +kernel
theorem dX0_get_1 : decode cX0_get 1 = .ok (.ifCond .lt 20, 3) := by decide +kernel
theorem dX0_get_4 : decode cX0_get 4 = .ok (.iload_n 1, 1) := by decide +kernel
theorem dX0_get_5 : decode cX0_get 5 = .ok (.aload_n 0, 1) := by decide +kernel
theorem dX0_get_6 : decode cX0_get 6 = .ok (.getfield 21, 3) := by decide +kernel
theorem dX0_get_9 : decode cX0_get 9 = .ok (.if_icmp .ge 12, 3) := by decide +kernel
theorem dX0_get_12 : decode cX0_get 12 = .ok (.aload_n 0, 1) := by decide +kernel
theorem dX0_get_13 : decode cX0_get 13 = .ok (.getfield 15, 3) := by decide +kernel
theorem dX0_get_16 : decode cX0_get 16 = .ok (.iload_n 1, 1) := by decide +kernel
theorem dX0_get_17 : decode cX0_get 17 = .ok (.iaload, 1) := by decide +kernel
theorem dX0_get_18 : decode cX0_get 18 = .ok (.goto 4, 3) := by decide +kernel
theorem dX0_get_21 : decode cX0_get 21 = .ok (.iconst 0, 1) := by decide +kernel
theorem dX0_get_22 : decode cX0_get 22 = .ok (.ireturn, 1) := by decide +kernel
abbrev rmX0_get : Room := { frames := 0, cells := 0, slots := 0, locals := 0 }
def P_X0_get (G : Nat → Nat) (F : Nat) (l0 : Nat) (l1 : Int32) (M : mM) : Option (Int32 × mM) :=
  if l1 < 0 then (some ((0 : Int32), M))
  else (bO (gfI M l0 0 1) fun v6 =>
  if v6 ≤ l1 then (some ((0 : Int32), M))
  else (bO (gfR M l0 0 0) fun v13 =>
  bO (aI M 0 v13 l1) fun v17 =>
  some (v17, M)))
set_option maxHeartbeats 4000000 in
set_option maxRecDepth 100000 in
theorem wP_X0_get {G : Nat → Nat} {F : Nat} {x : mXT} {sz : Nat} {r0 : Int32} {M0 : mM} (X : mCX G RX0 cX0_get 2 (some .int) "get" rmX0_get x) (hQ : mQI x r0 M0 (sz, 0, 0)) {l0 : Nat} {l1 : Int32} {M : mM} (h : P_X0_get G F l0 l1 M = some (r0, M0)) : WW x (sz, 0, 0) M 0 [(0, .ref l0), (1, .int l1)] [] := by
  unfold P_X0_get at h
  refine ww_iload_n 0 X dX0_get_0 1 rfl rfl ?_
  refine ww_if_lt 1 21 X dX0_get_1 (by decide) (fun q => ?_) (fun q => ?_)
  · replace h := (if_pos q).symm.trans h
    refine ww_iconst 21 X (v := (0 : Int32)) dX0_get_21 (by decide) ?_
    exact ww_iretE 22 X hQ dX0_get_22 h
  · replace h := (if_neg q).symm.trans h
    refine ww_iload_n 4 X dX0_get_4 1 rfl rfl ?_
    refine ww_aload_n 5 X dX0_get_5 0 rfl rfl ?_
    obtain ⟨v6, e6, h⟩ := bO_some h
    refine ww_getI 6 X dX0_get_6 fG_X0_21 e6 ?_
    refine ww_icmp_ge 9 21 X dX0_get_9 (by decide) (fun q => ?_) (fun q => ?_)
    · replace h := (if_pos q).symm.trans h
      refine ww_iconst 21 X (v := (0 : Int32)) dX0_get_21 (by decide) ?_
      exact ww_iretE 22 X hQ dX0_get_22 h
    · replace h := (if_neg q).symm.trans h
      refine ww_aload_n 12 X dX0_get_12 0 rfl rfl ?_
      obtain ⟨v13, e13, h⟩ := bO_some h
      refine ww_getR 13 X dX0_get_13 fG_X0_15 e13 ?_
      refine ww_iload_n 16 X dX0_get_16 1 rfl rfl ?_
      obtain ⟨v17, e17, h⟩ := bO_some h
      refine ww_iald 17 X dX0_get_17 e17 ?_
      refine ww_goto 18 22 X dX0_get_18 (by decide) ?_
      exact ww_iretE 22 X hQ dX0_get_22 h
theorem c_X0_get {G : Nat → Nat} {F sz : Nat} {r0 : Int32} {M0 : mM} (l : Launch) (D : mD) (A : Nat → Prop) {l0 : Nat} {l1 : Int32} {M : mM} (h : P_X0_get G F l0 l1 M = some (r0, M0)) : mMetI l D G A yX0_get cX0_get 2 (some .int) 0 0 0 0 [.ref l0, .int l1] M sz r0 M0 sz := mMetI_of l D G A (by decide) (Nat.le_of_ble_eq_true rfl) (fun x X hQ => wP_X0_get X hQ h)
/-! SealedTokens$Bytes.peek(I)I -/
theorem dX0_peek_0 : decode cX0_peek 0 = .ok (.iload_n 1, 1) := by decide +kernel
theorem dX0_peek_1 : decode cX0_peek 1 = .ok (.ifCond .lt 20, 3) := by decide +kernel
theorem dX0_peek_4 : decode cX0_peek 4 = .ok (.iload_n 1, 1) := by decide +kernel
theorem dX0_peek_5 : decode cX0_peek 5 = .ok (.aload_n 0, 1) := by decide +kernel
theorem dX0_peek_6 : decode cX0_peek 6 = .ok (.getfield 21, 3) := by decide +kernel
theorem dX0_peek_9 : decode cX0_peek 9 = .ok (.if_icmp .ge 12, 3) := by decide +kernel
theorem dX0_peek_12 : decode cX0_peek 12 = .ok (.aload_n 0, 1) := by decide +kernel
theorem dX0_peek_13 : decode cX0_peek 13 = .ok (.getfield 15, 3) := by decide +kernel
theorem dX0_peek_16 : decode cX0_peek 16 = .ok (.iload_n 1, 1) := by decide +kernel
theorem dX0_peek_17 : decode cX0_peek 17 = .ok (.iaload, 1) := by decide +kernel
theorem dX0_peek_18 : decode cX0_peek 18 = .ok (.goto 4, 3) := by decide +kernel
theorem dX0_peek_21 : decode cX0_peek 21 = .ok (.iconst (-1), 1) := by decide +kernel
theorem dX0_peek_22 : decode cX0_peek 22 = .ok (.ireturn, 1) := by decide +kernel
abbrev rmX0_peek : Room := { frames := 0, cells := 0, slots := 0, locals := 0 }
def P_X0_peek (G : Nat → Nat) (F : Nat) (l0 : Nat) (l1 : Int32) (M : mM) : Option (Int32 × mM) :=
  if l1 < 0 then (some ((-1 : Int32), M))
  else (bO (gfI M l0 0 1) fun v6 =>
  if v6 ≤ l1 then (some ((-1 : Int32), M))
  else (bO (gfR M l0 0 0) fun v13 =>
  bO (aI M 0 v13 l1) fun v17 =>
  some (v17, M)))
set_option maxHeartbeats 4000000 in
set_option maxRecDepth 100000 in
theorem wP_X0_peek {G : Nat → Nat} {F : Nat} {x : mXT} {sz : Nat} {r0 : Int32} {M0 : mM} (X : mCX G RX0 cX0_peek 2 (some .int) "peek" rmX0_peek x) (hQ : mQI x r0 M0 (sz, 0, 0)) {l0 : Nat} {l1 : Int32} {M : mM} (h : P_X0_peek G F l0 l1 M = some (r0, M0)) : WW x (sz, 0, 0) M 0 [(0, .ref l0), (1, .int l1)] [] := by
  unfold P_X0_peek at h
  refine ww_iload_n 0 X dX0_peek_0 1 rfl rfl ?_
  refine ww_if_lt 1 21 X dX0_peek_1 (by decide) (fun q => ?_) (fun q => ?_)
  · replace h := (if_pos q).symm.trans h
    refine ww_iconst 21 X (v := (-1 : Int32)) dX0_peek_21 (by decide) ?_
    exact ww_iretE 22 X hQ dX0_peek_22 h
  · replace h := (if_neg q).symm.trans h
    refine ww_iload_n 4 X dX0_peek_4 1 rfl rfl ?_
    refine ww_aload_n 5 X dX0_peek_5 0 rfl rfl ?_
    obtain ⟨v6, e6, h⟩ := bO_some h
    refine ww_getI 6 X dX0_peek_6 fG_X0_21 e6 ?_
    refine ww_icmp_ge 9 21 X dX0_peek_9 (by decide) (fun q => ?_) (fun q => ?_)
    · replace h := (if_pos q).symm.trans h
      refine ww_iconst 21 X (v := (-1 : Int32)) dX0_peek_21 (by decide) ?_
      exact ww_iretE 22 X hQ dX0_peek_22 h
    · replace h := (if_neg q).symm.trans h
      refine ww_aload_n 12 X dX0_peek_12 0 rfl rfl ?_
      obtain ⟨v13, e13, h⟩ := bO_some h
      refine ww_getR 13 X dX0_peek_13 fG_X0_15 e13 ?_
      refine ww_iload_n 16 X dX0_peek_16 1 rfl rfl ?_
      obtain ⟨v17, e17, h⟩ := bO_some h
      refine ww_iald 17 X dX0_peek_17 e17 ?_
      refine ww_goto 18 22 X dX0_peek_18 (by decide) ?_
      exact ww_iretE 22 X hQ dX0_peek_22 h
theorem c_X0_peek {G : Nat → Nat} {F sz : Nat} {r0 : Int32} {M0 : mM} (l : Launch) (D : mD) (A : Nat → Prop) {l0 : Nat} {l1 : Int32} {M : mM} (h : P_X0_peek G F l0 l1 M = some (r0, M0)) : mMetI l D G A yX0_peek cX0_peek 2 (some .int) 0 0 0 0 [.ref l0, .int l1] M sz r0 M0 sz := mMetI_of l D G A (by decide) (Nat.le_of_ble_eq_true rfl) (fun x X hQ => wP_X0_peek X hQ h)
/-! SealedTokens$Bytes.set(II)V -/
theorem dX0_set_0 : decode cX0_set 0 = .ok (.iload_n 1, 1) := by decide +kernel
theorem dX0_set_1 : decode cX0_set 1 = .ok (.ifCond .lt 22, 3) := by decide +kernel
theorem dX0_set_4 : decode cX0_set 4 = .ok (.iload_n 1, 1) := by decide +kernel
theorem dX0_set_5 : decode cX0_set 5 = .ok (.aload_n 0, 1) := by decide +kernel
theorem dX0_set_6 : decode cX0_set 6 = .ok (.getfield 21, 3) := by decide +kernel
theorem dX0_set_9 : decode cX0_set 9 = .ok (.if_icmp .ge 14, 3) := by decide +kernel
theorem dX0_set_12 : decode cX0_set 12 = .ok (.aload_n 0, 1) := by decide +kernel
theorem dX0_set_13 : decode cX0_set 13 = .ok (.getfield 15, 3) := by decide +kernel
theorem dX0_set_16 : decode cX0_set 16 = .ok (.iload_n 1, 1) := by decide +kernel
theorem dX0_set_17 : decode cX0_set 17 = .ok (.iload_n 2, 1) := by decide +kernel
theorem dX0_set_18 : decode cX0_set 18 = .ok (.sipush 255, 3) := by decide +kernel
theorem dX0_set_21 : decode cX0_set 21 = .ok (.iand, 1) := by decide +kernel
theorem dX0_set_22 : decode cX0_set 22 = .ok (.iastore, 1) := by decide +kernel
theorem dX0_set_23 : decode cX0_set 23 = .ok (.return_, 1) := by decide +kernel
abbrev rmX0_set : Room := { frames := 0, cells := 0, slots := 0, locals := 0 }
def P_X0_set (G : Nat → Nat) (F : Nat) (l0 : Nat) (l1 : Int32) (l2 : Int32) (M : mM) : Option mM :=
  if l1 < 0 then (some M)
  else (bO (gfI M l0 0 1) fun v6 =>
  if v6 ≤ l1 then (some M)
  else (bO (gfR M l0 0 0) fun v13 =>
  bO (sI M 0 v13 l1 (l2 &&& (255 : Int32))) fun M22 =>
  some M22))
set_option maxHeartbeats 4000000 in
set_option maxRecDepth 100000 in
theorem wP_X0_set {G : Nat → Nat} {F : Nat} {x : mXT} {sz : Nat} {M0 : mM} (X : mCX G RX0 cX0_set 3 none "set" rmX0_set x) (hQ : mQV x M0 (sz, 0, 0)) {l0 : Nat} {l1 : Int32} {l2 : Int32} {M : mM} (h : P_X0_set G F l0 l1 l2 M = some M0) : WW x (sz, 0, 0) M 0 [(0, .ref l0), (1, .int l1), (2, .int l2)] [] := by
  unfold P_X0_set at h
  refine ww_iload_n 0 X dX0_set_0 1 rfl rfl ?_
  refine ww_if_lt 1 23 X dX0_set_1 (by decide) (fun q => ?_) (fun q => ?_)
  · replace h := (if_pos q).symm.trans h
    exact ww_vretE 23 X hQ dX0_set_23 h
  · replace h := (if_neg q).symm.trans h
    refine ww_iload_n 4 X dX0_set_4 1 rfl rfl ?_
    refine ww_aload_n 5 X dX0_set_5 0 rfl rfl ?_
    obtain ⟨v6, e6, h⟩ := bO_some h
    refine ww_getI 6 X dX0_set_6 fG_X0_21 e6 ?_
    refine ww_icmp_ge 9 23 X dX0_set_9 (by decide) (fun q => ?_) (fun q => ?_)
    · replace h := (if_pos q).symm.trans h
      exact ww_vretE 23 X hQ dX0_set_23 h
    · replace h := (if_neg q).symm.trans h
      refine ww_aload_n 12 X dX0_set_12 0 rfl rfl ?_
      obtain ⟨v13, e13, h⟩ := bO_some h
      refine ww_getR 13 X dX0_set_13 fG_X0_15 e13 ?_
      refine ww_iload_n 16 X dX0_set_16 1 rfl rfl ?_
      refine ww_iload_n 17 X dX0_set_17 2 rfl rfl ?_
      refine ww_sipush 18 X (v := (255 : Int32)) dX0_set_18 (by decide) ?_
      refine ww_iand 21 X dX0_set_21 ?_
      obtain ⟨M22, e22, h⟩ := bO_some h
      refine ww_iast 22 X dX0_set_22 e22 ?_
      exact ww_vretE 23 X hQ dX0_set_23 h
theorem c_X0_set {G : Nat → Nat} {F sz : Nat} {M0 : mM} (l : Launch) (D : mD) (A : Nat → Prop) {l0 : Nat} {l1 : Int32} {l2 : Int32} {M : mM} (h : P_X0_set G F l0 l1 l2 M = some M0) : mMetV l D G A yX0_set cX0_set 3 none 0 0 0 0 [.ref l0, .int l1, .int l2] M sz M0 sz := mMetV_of l D G A (by decide) (Nat.le_of_ble_eq_true rfl) (fun x X hQ => wP_X0_set X hQ h)
/-! SealedTokens$Bytes.put(I)V -/
theorem dX0_put_0 : decode cX0_put 0 = .ok (.aload_n 0, 1) := by decide +kernel
theorem dX0_put_1 : decode cX0_put 1 = .ok (.getfield 21, 3) := by decide +kernel
theorem dX0_put_4 : decode cX0_put 4 = .ok (.aload_n 0, 1) := by decide +kernel
theorem dX0_put_5 : decode cX0_put 5 = .ok (.getfield 15, 3) := by decide +kernel
theorem dX0_put_8 : decode cX0_put 8 = .ok (.arraylength, 1) := by decide +kernel
theorem dX0_put_9 : decode cX0_put 9 = .ok (.if_icmp .ge 30, 3) := by decide +kernel
theorem dX0_put_12 : decode cX0_put 12 = .ok (.aload_n 0, 1) := by decide +kernel
theorem dX0_put_13 : decode cX0_put 13 = .ok (.getfield 15, 3) := by decide +kernel
theorem dX0_put_16 : decode cX0_put 16 = .ok (.aload_n 0, 1) := by decide +kernel
theorem dX0_put_17 : decode cX0_put 17 = .ok (.getfield 21, 3) := by decide +kernel
theorem dX0_put_20 : decode cX0_put 20 = .ok (.iload_n 1, 1) := by decide +kernel
theorem dX0_put_21 : decode cX0_put 21 = .ok (.sipush 255, 3) := by decide +kernel
theorem dX0_put_24 : decode cX0_put 24 = .ok (.iand, 1) := by decide +kernel
theorem dX0_put_25 : decode cX0_put 25 = .ok (.iastore, 1) := by decide +kernel
theorem dX0_put_26 : decode cX0_put 26 = .ok (.aload_n 0, 1) := by decide +kernel
theorem dX0_put_27 : decode cX0_put 27 = .ok (.dup, 1) := by decide +kernel
theorem dX0_put_28 : decode cX0_put 28 = .ok (.getfield 21, 3) := by decide +kernel
theorem dX0_put_31 : decode cX0_put 31 = .ok (.iconst 1, 1) := by decide +kernel
theorem dX0_put_32 : decode cX0_put 32 = .ok (.iadd, 1) := by decide +kernel
theorem dX0_put_33 : decode cX0_put 33 = .ok (.putfield 21, 3) := by decide +kernel
theorem dX0_put_36 : decode cX0_put 36 = .ok (.goto 8, 3) := by decide +kernel
theorem dX0_put_39 : decode cX0_put 39 = .ok (.aload_n 0, 1) := by decide +kernel
theorem dX0_put_40 : decode cX0_put 40 = .ok (.iconst 1, 1) := by decide +kernel
theorem dX0_put_41 : decode cX0_put 41 = .ok (.putfield 25, 3) := by decide +kernel
theorem dX0_put_44 : decode cX0_put 44 = .ok (.return_, 1) := by decide +kernel
abbrev rmX0_put : Room := { frames := 0, cells := 0, slots := 0, locals := 0 }
def P_X0_put (G : Nat → Nat) (F : Nat) (l0 : Nat) (l1 : Int32) (M : mM) : Option mM :=
  bO (gfI M l0 0 1) fun v1 =>
  bO (gfR M l0 0 0) fun v5 =>
  bO (aln M v5) fun v8 =>
  if v8 ≤ v1 then (bO (pfZ M l0 0 2 (1 : Int32)) fun M41 =>
  some M41)
  else (bO (gfR M l0 0 0) fun v13 =>
  bO (gfI M l0 0 1) fun v17 =>
  bO (sI M 0 v13 v17 (l1 &&& (255 : Int32))) fun M25 =>
  bO (gfI M25 l0 0 1) fun v28 =>
  bO (pfv M25 l0 0 1 (.int (v28 + (1 : Int32)))) fun M33 =>
  some M33)
set_option maxHeartbeats 4000000 in
set_option maxRecDepth 100000 in
theorem wP_X0_put {G : Nat → Nat} {F : Nat} {x : mXT} {sz : Nat} {M0 : mM} (X : mCX G RX0 cX0_put 2 none "put" rmX0_put x) (hQ : mQV x M0 (sz, 0, 0)) {l0 : Nat} {l1 : Int32} {M : mM} (h : P_X0_put G F l0 l1 M = some M0) : WW x (sz, 0, 0) M 0 [(0, .ref l0), (1, .int l1)] [] := by
  unfold P_X0_put at h
  refine ww_aload_n 0 X dX0_put_0 0 rfl rfl ?_
  obtain ⟨v1, e1, h⟩ := bO_some h
  refine ww_getI 1 X dX0_put_1 fG_X0_21 e1 ?_
  refine ww_aload_n 4 X dX0_put_4 0 rfl rfl ?_
  obtain ⟨v5, e5, h⟩ := bO_some h
  refine ww_getR 5 X dX0_put_5 fG_X0_15 e5 ?_
  obtain ⟨v8, e8, h⟩ := bO_some h
  refine ww_alen 8 X dX0_put_8 e8 ?_
  refine ww_icmp_ge 9 39 X dX0_put_9 (by decide) (fun q => ?_) (fun q => ?_)
  · replace h := (if_pos q).symm.trans h
    refine ww_aload_n 39 X dX0_put_39 0 rfl rfl ?_
    refine ww_iconst 40 X (v := (1 : Int32)) dX0_put_40 (by decide) ?_
    obtain ⟨M41, e41, h⟩ := bO_some h
    refine ww_putZ 41 X dX0_put_41 (fP_X0_25 _) e41 ?_
    exact ww_vretE 44 X hQ dX0_put_44 h
  · replace h := (if_neg q).symm.trans h
    refine ww_aload_n 12 X dX0_put_12 0 rfl rfl ?_
    obtain ⟨v13, e13, h⟩ := bO_some h
    refine ww_getR 13 X dX0_put_13 fG_X0_15 e13 ?_
    refine ww_aload_n 16 X dX0_put_16 0 rfl rfl ?_
    obtain ⟨v17, e17, h⟩ := bO_some h
    refine ww_getI 17 X dX0_put_17 fG_X0_21 e17 ?_
    refine ww_iload_n 20 X dX0_put_20 1 rfl rfl ?_
    refine ww_sipush 21 X (v := (255 : Int32)) dX0_put_21 (by decide) ?_
    refine ww_iand 24 X dX0_put_24 ?_
    obtain ⟨M25, e25, h⟩ := bO_some h
    refine ww_iast 25 X dX0_put_25 e25 ?_
    refine ww_aload_n 26 X dX0_put_26 0 rfl rfl ?_
    refine ww_dup 27 X dX0_put_27 rfl ?_
    obtain ⟨v28, e28, h⟩ := bO_some h
    refine ww_getI 28 X dX0_put_28 fG_X0_21 e28 ?_
    refine ww_iconst 31 X (v := (1 : Int32)) dX0_put_31 (by decide) ?_
    refine ww_iadd 32 X dX0_put_32 ?_
    obtain ⟨M33, e33, h⟩ := bO_some h
    refine ww_putI 33 X dX0_put_33 (fP_X0_21 _) e33 ?_
    refine ww_goto 36 44 X dX0_put_36 (by decide) ?_
    exact ww_vretE 44 X hQ dX0_put_44 h
theorem c_X0_put {G : Nat → Nat} {F sz : Nat} {M0 : mM} (l : Launch) (D : mD) (A : Nat → Prop) {l0 : Nat} {l1 : Int32} {M : mM} (h : P_X0_put G F l0 l1 M = some M0) : mMetV l D G A yX0_put cX0_put 2 none 0 0 0 0 [.ref l0, .int l1] M sz M0 sz := mMetV_of l D G A (by decide) (Nat.le_of_ble_eq_true rfl) (fun x X hQ => wP_X0_put X hQ h)
/-! SealedTokens$Bytes.putSame(II)V -/
theorem dX0_putSame_0 : decode cX0_putSame 0 = .ok (.iconst 0, 1) := by decide +kernel
theorem dX0_putSame_1 : decode cX0_putSame 1 = .ok (.istore_n 3, 1) := by decide +kernel
theorem dX0_putSame_2 : decode cX0_putSame 2 = .ok (.iload_n 3, 1) := by decide +kernel
theorem dX0_putSame_3 : decode cX0_putSame 3 = .ok (.iload_n 2, 1) := by decide +kernel
theorem dX0_putSame_4 : decode cX0_putSame 4 = .ok (.if_icmp .ge 14, 3) := by decide +kernel
theorem dX0_putSame_7 : decode cX0_putSame 7 = .ok (.aload_n 0, 1) := by decide +kernel
theorem dX0_putSame_8 : decode cX0_putSame 8 = .ok (.iload_n 1, 1) := by decide +kernel
theorem dX0_putSame_9 : decode cX0_putSame 9 = .ok (.invokevirtual 32, 3) := by decide +kernel
theorem dX0_putSame_12 : decode cX0_putSame 12 = .ok (.iinc 3 1, 3) := by decide +kernel
theorem dX0_putSame_15 : decode cX0_putSame 15 = .ok (.goto (-13), 3) := by decide +kernel
theorem dX0_putSame_18 : decode cX0_putSame 18 = .ok (.return_, 1) := by decide +kernel
abbrev rmX0_putSame : Room := { frames := 1, cells := 0, slots := 0, locals := 21 }
def B_X0_putSame_2 (G : Nat → Nat) (F : Nat) : Nat → Nat → Int32 → Int32 → Int32 → mM → Option mM
  | 0, _, _, _, _, _ => none
  | n + 1, l0, l1, l2, l3, M =>
  if l2 ≤ l3 then (some M)
  else (bO (rcv M l0 0) fun _ =>
  bO (P_X0_put G F l0 l1 M) fun M9 =>
  B_X0_putSame_2 G F n l0 l1 l2 (l3 + 1) M9)
set_option maxHeartbeats 4000000 in
set_option maxRecDepth 100000 in
theorem wB_X0_putSame_2 {G : Nat → Nat} {F : Nat} {x : mXT} {sz : Nat} {M0 : mM} (X : mCX G RX0 cX0_putSame 4 none "putSame" rmX0_putSame x) (hQ : mQV x M0 (sz, 0, 0)) : ∀ (n : Nat) (l0 : Nat) (l1 : Int32) (l2 : Int32) (l3 : Int32) (M : mM), B_X0_putSame_2 G F n l0 l1 l2 l3 M = some M0 → WW x (sz, 0, 0) M 2 [(0, .ref l0), (1, .int l1), (2, .int l2), (3, .int l3)] [] := by
  intro n
  induction n with
  | zero =>
    intro l0 l1 l2 l3 M h
    exact nomatch (show (none : Option mM) = some M0 from h)
  | succ n ih =>
    intro l0 l1 l2 l3 M h
    rw [B_X0_putSame_2] at h
    refine ww_iload_n 2 X dX0_putSame_2 3 rfl rfl ?_
    refine ww_iload_n 3 X dX0_putSame_3 2 rfl rfl ?_
    refine ww_icmp_ge 4 18 X dX0_putSame_4 (by decide) (fun q => ?_) (fun q => ?_)
    · replace h := (if_pos q).symm.trans h
      exact ww_vretE 18 X hQ dX0_putSame_18 h
    · replace h := (if_neg q).symm.trans h
      refine ww_aload_n 7 X dX0_putSame_7 0 rfl rfl ?_
      refine ww_iload_n 8 X dX0_putSame_8 1 rfl rfl ?_
      obtain ⟨_, f9, h⟩ := bO_some h
      obtain ⟨M9, e9, h⟩ := bO_some h
      refine ww_callVV0 9 X dX0_putSame_9 mY_X0_put mL_X0_32 (rcv_spec f9) ⟨_, _, rfl⟩ (by decide) (As := [.int l1]) (rest := []) rfl rfl ⟨Nat.le_of_ble_eq_true rfl, Nat.le_of_ble_eq_true rfl⟩ (Nat.le_of_ble_eq_true rfl) (fun l D A => c_X0_put l D A e9) ?_
      refine ww_iinc 12 X dX0_putSame_12 (lv' := [(0, .ref l0), (1, .int l1), (2, .int l2), (3, .int (l3 + 1))]) 3 rfl rfl (by decide) [1, 2, 3, 0] rfl ?_
      refine ww_goto 15 2 X dX0_putSame_15 (by decide) ?_
      exact (ih _ _ _ _ _ h)
def P_X0_putSame (G : Nat → Nat) (F : Nat) (l0 : Nat) (l1 : Int32) (l2 : Int32) (M : mM) : Option mM :=
  B_X0_putSame_2 G F F l0 l1 l2 (0 : Int32) M
set_option maxHeartbeats 4000000 in
set_option maxRecDepth 100000 in
theorem wP_X0_putSame {G : Nat → Nat} {F : Nat} {x : mXT} {sz : Nat} {M0 : mM} (X : mCX G RX0 cX0_putSame 4 none "putSame" rmX0_putSame x) (hQ : mQV x M0 (sz, 0, 0)) {l0 : Nat} {l1 : Int32} {l2 : Int32} {M : mM} (h : P_X0_putSame G F l0 l1 l2 M = some M0) : WW x (sz, 0, 0) M 0 [(0, .ref l0), (1, .int l1), (2, .int l2)] [] := by
  unfold P_X0_putSame at h
  refine ww_iconst 0 X (v := (0 : Int32)) dX0_putSame_0 (by decide) ?_
  refine ww_istore_n 1 X dX0_putSame_1 (lv' := [(0, .ref l0), (1, .int l1), (2, .int l2), (3, .int (0 : Int32))]) rfl (by decide) [1, 2, 3, 0] rfl ?_
  exact (wB_X0_putSame_2 X hQ F _ _ _ _ _ h)
theorem c_X0_putSame {G : Nat → Nat} {F sz : Nat} {M0 : mM} (l : Launch) (D : mD) (A : Nat → Prop) {l0 : Nat} {l1 : Int32} {l2 : Int32} {M : mM} (h : P_X0_putSame G F l0 l1 l2 M = some M0) : mMetV l D G A yX0_putSame cX0_putSame 4 none 1 21 0 0 [.ref l0, .int l1, .int l2] M sz M0 sz := mMetV_of l D G A (by decide) (Nat.le_of_ble_eq_true rfl) (fun x X hQ => wP_X0_putSame X hQ h)
/-! SealedTokens$Bytes.putWord(I)V -/
theorem dX0_putWord_0 : decode cX0_putWord 0 = .ok (.aload_n 0, 1) := by decide +kernel
theorem dX0_putWord_1 : decode cX0_putWord 1 = .ok (.iload_n 1, 1) := by decide +kernel
theorem dX0_putWord_2 : decode cX0_putWord 2 = .ok (.bipush 24, 2) := by decide +kernel
theorem dX0_putWord_4 : decode cX0_putWord 4 = .ok (.iushr, 1) := by decide +kernel
theorem dX0_putWord_5 : decode cX0_putWord 5 = .ok (.invokevirtual 32, 3) := by decide +kernel
theorem dX0_putWord_8 : decode cX0_putWord 8 = .ok (.aload_n 0, 1) := by decide +kernel
theorem dX0_putWord_9 : decode cX0_putWord 9 = .ok (.iload_n 1, 1) := by decide +kernel
theorem dX0_putWord_10 : decode cX0_putWord 10 = .ok (.bipush 16, 2) := by decide +kernel
theorem dX0_putWord_12 : decode cX0_putWord 12 = .ok (.iushr, 1) := by decide +kernel
theorem dX0_putWord_13 : decode cX0_putWord 13 = .ok (.invokevirtual 32, 3) := by decide +kernel
theorem dX0_putWord_16 : decode cX0_putWord 16 = .ok (.aload_n 0, 1) := by decide +kernel
theorem dX0_putWord_17 : decode cX0_putWord 17 = .ok (.iload_n 1, 1) := by decide +kernel
theorem dX0_putWord_18 : decode cX0_putWord 18 = .ok (.bipush 8, 2) := by decide +kernel
theorem dX0_putWord_20 : decode cX0_putWord 20 = .ok (.iushr, 1) := by decide +kernel
theorem dX0_putWord_21 : decode cX0_putWord 21 = .ok (.invokevirtual 32, 3) := by decide +kernel
theorem dX0_putWord_24 : decode cX0_putWord 24 = .ok (.aload_n 0, 1) := by decide +kernel
theorem dX0_putWord_25 : decode cX0_putWord 25 = .ok (.iload_n 1, 1) := by decide +kernel
theorem dX0_putWord_26 : decode cX0_putWord 26 = .ok (.invokevirtual 32, 3) := by decide +kernel
theorem dX0_putWord_29 : decode cX0_putWord 29 = .ok (.return_, 1) := by decide +kernel
abbrev rmX0_putWord : Room := { frames := 1, cells := 0, slots := 0, locals := 21 }
def P_X0_putWord (G : Nat → Nat) (F : Nat) (l0 : Nat) (l1 : Int32) (M : mM) : Option mM :=
  bO (rcv M l0 0) fun _ =>
  bO (P_X0_put G F l0 (ushI l1 (24 : Int32)) M) fun M5 =>
  bO (rcv M5 l0 0) fun _ =>
  bO (P_X0_put G F l0 (ushI l1 (16 : Int32)) M5) fun M13 =>
  bO (rcv M13 l0 0) fun _ =>
  bO (P_X0_put G F l0 (ushI l1 (8 : Int32)) M13) fun M21 =>
  bO (rcv M21 l0 0) fun _ =>
  bO (P_X0_put G F l0 l1 M21) fun M26 =>
  some M26
set_option maxHeartbeats 4000000 in
set_option maxRecDepth 100000 in
theorem wP_X0_putWord {G : Nat → Nat} {F : Nat} {x : mXT} {sz : Nat} {M0 : mM} (X : mCX G RX0 cX0_putWord 2 none "putWord" rmX0_putWord x) (hQ : mQV x M0 (sz, 0, 0)) {l0 : Nat} {l1 : Int32} {M : mM} (h : P_X0_putWord G F l0 l1 M = some M0) : WW x (sz, 0, 0) M 0 [(0, .ref l0), (1, .int l1)] [] := by
  unfold P_X0_putWord at h
  refine ww_aload_n 0 X dX0_putWord_0 0 rfl rfl ?_
  refine ww_iload_n 1 X dX0_putWord_1 1 rfl rfl ?_
  refine ww_bipush 2 X (v := (24 : Int32)) dX0_putWord_2 (by decide) ?_
  refine ww_iushr 4 X dX0_putWord_4 ?_
  obtain ⟨_, f5, h⟩ := bO_some h
  obtain ⟨M5, e5, h⟩ := bO_some h
  refine ww_callVV0 5 X dX0_putWord_5 mY_X0_put mL_X0_32 (rcv_spec f5) ⟨_, _, rfl⟩ (by decide) (As := [.int (ushI l1 (24 : Int32))]) (rest := []) rfl rfl ⟨Nat.le_of_ble_eq_true rfl, Nat.le_of_ble_eq_true rfl⟩ (Nat.le_of_ble_eq_true rfl) (fun l D A => c_X0_put l D A e5) ?_
  refine ww_aload_n 8 X dX0_putWord_8 0 rfl rfl ?_
  refine ww_iload_n 9 X dX0_putWord_9 1 rfl rfl ?_
  refine ww_bipush 10 X (v := (16 : Int32)) dX0_putWord_10 (by decide) ?_
  refine ww_iushr 12 X dX0_putWord_12 ?_
  obtain ⟨_, f13, h⟩ := bO_some h
  obtain ⟨M13, e13, h⟩ := bO_some h
  refine ww_callVV0 13 X dX0_putWord_13 mY_X0_put mL_X0_32 (rcv_spec f13) ⟨_, _, rfl⟩ (by decide) (As := [.int (ushI l1 (16 : Int32))]) (rest := []) rfl rfl ⟨Nat.le_of_ble_eq_true rfl, Nat.le_of_ble_eq_true rfl⟩ (Nat.le_of_ble_eq_true rfl) (fun l D A => c_X0_put l D A e13) ?_
  refine ww_aload_n 16 X dX0_putWord_16 0 rfl rfl ?_
  refine ww_iload_n 17 X dX0_putWord_17 1 rfl rfl ?_
  refine ww_bipush 18 X (v := (8 : Int32)) dX0_putWord_18 (by decide) ?_
  refine ww_iushr 20 X dX0_putWord_20 ?_
  obtain ⟨_, f21, h⟩ := bO_some h
  obtain ⟨M21, e21, h⟩ := bO_some h
  refine ww_callVV0 21 X dX0_putWord_21 mY_X0_put mL_X0_32 (rcv_spec f21) ⟨_, _, rfl⟩ (by decide) (As := [.int (ushI l1 (8 : Int32))]) (rest := []) rfl rfl ⟨Nat.le_of_ble_eq_true rfl, Nat.le_of_ble_eq_true rfl⟩ (Nat.le_of_ble_eq_true rfl) (fun l D A => c_X0_put l D A e21) ?_
  refine ww_aload_n 24 X dX0_putWord_24 0 rfl rfl ?_
  refine ww_iload_n 25 X dX0_putWord_25 1 rfl rfl ?_
  obtain ⟨_, f26, h⟩ := bO_some h
  obtain ⟨M26, e26, h⟩ := bO_some h
  refine ww_callVV0 26 X dX0_putWord_26 mY_X0_put mL_X0_32 (rcv_spec f26) ⟨_, _, rfl⟩ (by decide) (As := [.int l1]) (rest := []) rfl rfl ⟨Nat.le_of_ble_eq_true rfl, Nat.le_of_ble_eq_true rfl⟩ (Nat.le_of_ble_eq_true rfl) (fun l D A => c_X0_put l D A e26) ?_
  exact ww_vretE 29 X hQ dX0_putWord_29 h
theorem c_X0_putWord {G : Nat → Nat} {F sz : Nat} {M0 : mM} (l : Launch) (D : mD) (A : Nat → Prop) {l0 : Nat} {l1 : Int32} {M : mM} (h : P_X0_putWord G F l0 l1 M = some M0) : mMetV l D G A yX0_putWord cX0_putWord 2 none 1 21 0 0 [.ref l0, .int l1] M sz M0 sz := mMetV_of l D G A (by decide) (Nat.le_of_ble_eq_true rfl) (fun x X hQ => wP_X0_putWord X hQ h)
/-! SealedTokens$Bytes.putPart(LSealedTokens$Bytes;II)V -/
theorem dX0_putPart_0 : decode cX0_putPart 0 = .ok (.iload_n 2, 1) := by decide +kernel
theorem dX0_putPart_1 : decode cX0_putPart 1 = .ok (.ifCond .lt 17, 3) := by decide +kernel
theorem dX0_putPart_4 : decode cX0_putPart 4 = .ok (.iload_n 3, 1) := by decide +kernel
theorem dX0_putPart_5 : decode cX0_putPart 5 = .ok (.ifCond .lt 13, 3) := by decide +kernel
theorem dX0_putPart_8 : decode cX0_putPart 8 = .ok (.iload_n 2, 1) := by decide +kernel
theorem dX0_putPart_9 : decode cX0_putPart 9 = .ok (.aload_n 1, 1) := by decide +kernel
theorem dX0_putPart_10 : decode cX0_putPart 10 = .ok (.getfield 21, 3) := by decide +kernel
theorem dX0_putPart_13 : decode cX0_putPart 13 = .ok (.iload_n 3, 1) := by decide +kernel
theorem dX0_putPart_14 : decode cX0_putPart 14 = .ok (.isub, 1) := by decide +kernel
theorem dX0_putPart_15 : decode cX0_putPart 15 = .ok (.if_icmp .le 4, 3) := by decide +kernel
theorem dX0_putPart_18 : decode cX0_putPart 18 = .ok (.return_, 1) := by decide +kernel
theorem dX0_putPart_19 : decode cX0_putPart 19 = .ok (.iload_n 3, 1) := by decide +kernel
theorem dX0_putPart_20 : decode cX0_putPart 20 = .ok (.aload_n 0, 1) := by decide +kernel
theorem dX0_putPart_21 : decode cX0_putPart 21 = .ok (.getfield 15, 3) := by decide +kernel
theorem dX0_putPart_24 : decode cX0_putPart 24 = .ok (.arraylength, 1) := by decide +kernel
theorem dX0_putPart_25 : decode cX0_putPart 25 = .ok (.aload_n 0, 1) := by decide +kernel
theorem dX0_putPart_26 : decode cX0_putPart 26 = .ok (.getfield 21, 3) := by decide +kernel
theorem dX0_putPart_29 : decode cX0_putPart 29 = .ok (.isub, 1) := by decide +kernel
theorem dX0_putPart_30 : decode cX0_putPart 30 = .ok (.invokestatic 29, 3) := by decide +kernel
theorem dX0_putPart_33 : decode cX0_putPart 33 = .ok (.istore 4, 2) := by decide +kernel
theorem dX0_putPart_35 : decode cX0_putPart 35 = .ok (.aload_n 1, 1) := by decide +kernel
theorem dX0_putPart_36 : decode cX0_putPart 36 = .ok (.getfield 15, 3) := by decide +kernel
theorem dX0_putPart_39 : decode cX0_putPart 39 = .ok (.iload_n 2, 1) := by decide +kernel
theorem dX0_putPart_40 : decode cX0_putPart 40 = .ok (.aload_n 0, 1) := by decide +kernel
theorem dX0_putPart_41 : decode cX0_putPart 41 = .ok (.getfield 15, 3) := by decide +kernel
theorem dX0_putPart_44 : decode cX0_putPart 44 = .ok (.aload_n 0, 1) := by decide +kernel
theorem dX0_putPart_45 : decode cX0_putPart 45 = .ok (.getfield 21, 3) := by decide +kernel
theorem dX0_putPart_48 : decode cX0_putPart 48 = .ok (.iload 4, 2) := by decide +kernel
theorem dX0_putPart_50 : decode cX0_putPart 50 = .ok (.invokestatic 46, 3) := by decide +kernel
theorem dX0_putPart_53 : decode cX0_putPart 53 = .ok (.aload_n 0, 1) := by decide +kernel
theorem dX0_putPart_54 : decode cX0_putPart 54 = .ok (.dup, 1) := by decide +kernel
theorem dX0_putPart_55 : decode cX0_putPart 55 = .ok (.getfield 21, 3) := by decide +kernel
theorem dX0_putPart_58 : decode cX0_putPart 58 = .ok (.iload 4, 2) := by decide +kernel
theorem dX0_putPart_60 : decode cX0_putPart 60 = .ok (.iadd, 1) := by decide +kernel
theorem dX0_putPart_61 : decode cX0_putPart 61 = .ok (.putfield 21, 3) := by decide +kernel
theorem dX0_putPart_64 : decode cX0_putPart 64 = .ok (.aload_n 0, 1) := by decide +kernel
theorem dX0_putPart_65 : decode cX0_putPart 65 = .ok (.aload_n 0, 1) := by decide +kernel
theorem dX0_putPart_66 : decode cX0_putPart 66 = .ok (.getfield 25, 3) := by decide +kernel
theorem dX0_putPart_69 : decode cX0_putPart 69 = .ok (.ifCond .ne 9, 3) := by decide +kernel
theorem dX0_putPart_72 : decode cX0_putPart 72 = .ok (.iload 4, 2) := by decide +kernel
theorem dX0_putPart_74 : decode cX0_putPart 74 = .ok (.iload_n 3, 1) := by decide +kernel
theorem dX0_putPart_75 : decode cX0_putPart 75 = .ok (.if_icmp .ge 7, 3) := by decide +kernel
theorem dX0_putPart_78 : decode cX0_putPart 78 = .ok (.iconst 1, 1) := by decide +kernel
theorem dX0_putPart_79 : decode cX0_putPart 79 = .ok (.goto 4, 3) := by decide +kernel
theorem dX0_putPart_82 : decode cX0_putPart 82 = .ok (.iconst 0, 1) := by decide +kernel
theorem dX0_putPart_83 : decode cX0_putPart 83 = .ok (.putfield 25, 3) := by decide +kernel
theorem dX0_putPart_86 : decode cX0_putPart 86 = .ok (.return_, 1) := by decide +kernel
abbrev rmX0_putPart : Room := { frames := 1, cells := 0, slots := 0, locals := 60 }
def P_X0_putPart (G : Nat → Nat) (F : Nat) (l0 : Nat) (l1 : Nat) (l2 : Int32) (l3 : Int32) (M : mM) : Option mM :=
  if l2 < 0 then (some M)
  else (if l3 < 0 then (some M)
  else (bO (gfI M l1 0 1) fun v10 =>
  if l2 ≤ (v10 - l3) then (bO (gfR M l0 0 0) fun v21 =>
  bO (aln M v21) fun v24 =>
  bO (gfI M l0 0 1) fun v26 =>
  bO (gfR M l1 0 0) fun v36 =>
  bO (gfR M l0 0 0) fun v41 =>
  bO (gfI M l0 0 1) fun v45 =>
  bO (cpI M v36 l2 v41 v45 (if (v24 - v26) < l3 then (v24 - v26) else l3)) fun M50 =>
  bO (gfI M50 l0 0 1) fun v55 =>
  bO (pfv M50 l0 0 1 (.int (v55 + (if (v24 - v26) < l3 then (v24 - v26) else l3)))) fun M61 =>
  bO (gfI M61 l0 0 2) fun v66 =>
  if v66 = 0 then (if l3 ≤ (if (v24 - v26) < l3 then (v24 - v26) else l3) then (bO (pfZ M61 l0 0 2 (0 : Int32)) fun M83 =>
  some M83)
  else (bO (pfZ M61 l0 0 2 (1 : Int32)) fun M83 =>
  some M83))
  else (bO (pfZ M61 l0 0 2 (1 : Int32)) fun M83 =>
  some M83))
  else (some M)))
set_option maxHeartbeats 4000000 in
set_option maxRecDepth 100000 in
theorem wP_X0_putPart {G : Nat → Nat} {F : Nat} {x : mXT} {sz : Nat} {M0 : mM} (X : mCX G RX0 cX0_putPart 5 none "putPart" rmX0_putPart x) (hQ : mQV x M0 (sz, 0, 0)) {l0 : Nat} {l1 : Nat} {l2 : Int32} {l3 : Int32} {M : mM} (h : P_X0_putPart G F l0 l1 l2 l3 M = some M0) : WW x (sz, 0, 0) M 0 [(0, .ref l0), (1, .ref l1), (2, .int l2), (3, .int l3)] [] := by
  unfold P_X0_putPart at h
  refine ww_iload_n 0 X dX0_putPart_0 2 rfl rfl ?_
  refine ww_if_lt 1 18 X dX0_putPart_1 (by decide) (fun q => ?_) (fun q => ?_)
  · replace h := (if_pos q).symm.trans h
    exact ww_vretE 18 X hQ dX0_putPart_18 h
  · replace h := (if_neg q).symm.trans h
    refine ww_iload_n 4 X dX0_putPart_4 3 rfl rfl ?_
    refine ww_if_lt 5 18 X dX0_putPart_5 (by decide) (fun q => ?_) (fun q => ?_)
    · replace h := (if_pos q).symm.trans h
      exact ww_vretE 18 X hQ dX0_putPart_18 h
    · replace h := (if_neg q).symm.trans h
      refine ww_iload_n 8 X dX0_putPart_8 2 rfl rfl ?_
      refine ww_aload_n 9 X dX0_putPart_9 1 rfl rfl ?_
      obtain ⟨v10, e10, h⟩ := bO_some h
      refine ww_getI 10 X dX0_putPart_10 fG_X0_21 e10 ?_
      refine ww_iload_n 13 X dX0_putPart_13 3 rfl rfl ?_
      refine ww_isub 14 X dX0_putPart_14 ?_
      refine ww_icmp_le 15 19 X dX0_putPart_15 (by decide) (fun q => ?_) (fun q => ?_)
      · replace h := (if_pos q).symm.trans h
        refine ww_iload_n 19 X dX0_putPart_19 3 rfl rfl ?_
        refine ww_aload_n 20 X dX0_putPart_20 0 rfl rfl ?_
        obtain ⟨v21, e21, h⟩ := bO_some h
        refine ww_getR 21 X dX0_putPart_21 fG_X0_15 e21 ?_
        obtain ⟨v24, e24, h⟩ := bO_some h
        refine ww_alen 24 X dX0_putPart_24 e24 ?_
        refine ww_aload_n 25 X dX0_putPart_25 0 rfl rfl ?_
        obtain ⟨v26, e26, h⟩ := bO_some h
        refine ww_getI 26 X dX0_putPart_26 fG_X0_21 e26 ?_
        refine ww_isub 29 X dX0_putPart_29 ?_
        refine ww_mmin 30 X dX0_putPart_30 mL_X0_29 (Nat.le_of_ble_eq_true rfl) (Nat.le_of_ble_eq_true rfl) (Nat.le_of_ble_eq_true rfl) ?_
        refine ww_istore 33 X dX0_putPart_33 (lv' := [(0, .ref l0), (1, .ref l1), (2, .int l2), (3, .int l3), (4, .int (if (v24 - v26) < l3 then (v24 - v26) else l3))]) (by decide) [1, 2, 3, 4, 0] rfl ?_
        refine ww_aload_n 35 X dX0_putPart_35 1 rfl rfl ?_
        obtain ⟨v36, e36, h⟩ := bO_some h
        refine ww_getR 36 X dX0_putPart_36 fG_X0_15 e36 ?_
        refine ww_iload_n 39 X dX0_putPart_39 2 rfl rfl ?_
        refine ww_aload_n 40 X dX0_putPart_40 0 rfl rfl ?_
        obtain ⟨v41, e41, h⟩ := bO_some h
        refine ww_getR 41 X dX0_putPart_41 fG_X0_15 e41 ?_
        refine ww_aload_n 44 X dX0_putPart_44 0 rfl rfl ?_
        obtain ⟨v45, e45, h⟩ := bO_some h
        refine ww_getI 45 X dX0_putPart_45 fG_X0_21 e45 ?_
        refine ww_iload 48 X dX0_putPart_48 4 rfl ?_
        obtain ⟨M50, e50, h⟩ := bO_some h
        refine ww_cpI 50 X dX0_putPart_50 mL_X0_46 (Nat.le_of_ble_eq_true rfl) (Nat.le_of_ble_eq_true rfl) (Nat.le_of_ble_eq_true rfl) e50 ?_
        refine ww_aload_n 53 X dX0_putPart_53 0 rfl rfl ?_
        refine ww_dup 54 X dX0_putPart_54 rfl ?_
        obtain ⟨v55, e55, h⟩ := bO_some h
        refine ww_getI 55 X dX0_putPart_55 fG_X0_21 e55 ?_
        refine ww_iload 58 X dX0_putPart_58 4 rfl ?_
        refine ww_iadd 60 X dX0_putPart_60 ?_
        obtain ⟨M61, e61, h⟩ := bO_some h
        refine ww_putI 61 X dX0_putPart_61 (fP_X0_21 _) e61 ?_
        refine ww_aload_n 64 X dX0_putPart_64 0 rfl rfl ?_
        refine ww_aload_n 65 X dX0_putPart_65 0 rfl rfl ?_
        obtain ⟨v66, e66, h⟩ := bO_some h
        refine ww_getI 66 X dX0_putPart_66 fG_X0_25 e66 ?_
        refine ww_if_ne 69 78 X dX0_putPart_69 (by decide) (fun q => ?_) (fun q => ?_)
        · replace h := (if_neg q).symm.trans h
          refine ww_iconst 78 X (v := (1 : Int32)) dX0_putPart_78 (by decide) ?_
          refine ww_goto 79 83 X dX0_putPart_79 (by decide) ?_
          obtain ⟨M83, e83, h⟩ := bO_some h
          refine ww_putZ 83 X dX0_putPart_83 (fP_X0_25 _) e83 ?_
          exact ww_vretE 86 X hQ dX0_putPart_86 h
        · replace h := (if_pos q).symm.trans h
          refine ww_iload 72 X dX0_putPart_72 4 rfl ?_
          refine ww_iload_n 74 X dX0_putPart_74 3 rfl rfl ?_
          refine ww_icmp_ge 75 82 X dX0_putPart_75 (by decide) (fun q => ?_) (fun q => ?_)
          · replace h := (if_pos q).symm.trans h
            refine ww_iconst 82 X (v := (0 : Int32)) dX0_putPart_82 (by decide) ?_
            obtain ⟨M83, e83, h⟩ := bO_some h
            refine ww_putZ 83 X dX0_putPart_83 (fP_X0_25 _) e83 ?_
            exact ww_vretE 86 X hQ dX0_putPart_86 h
          · replace h := (if_neg q).symm.trans h
            refine ww_iconst 78 X (v := (1 : Int32)) dX0_putPart_78 (by decide) ?_
            refine ww_goto 79 83 X dX0_putPart_79 (by decide) ?_
            obtain ⟨M83, e83, h⟩ := bO_some h
            refine ww_putZ 83 X dX0_putPart_83 (fP_X0_25 _) e83 ?_
            exact ww_vretE 86 X hQ dX0_putPart_86 h
      · replace h := (if_neg q).symm.trans h
        exact ww_vretE 18 X hQ dX0_putPart_18 h
theorem c_X0_putPart {G : Nat → Nat} {F sz : Nat} {M0 : mM} (l : Launch) (D : mD) (A : Nat → Prop) {l0 : Nat} {l1 : Nat} {l2 : Int32} {l3 : Int32} {M : mM} (h : P_X0_putPart G F l0 l1 l2 l3 M = some M0) : mMetV l D G A yX0_putPart cX0_putPart 5 none 1 60 0 0 [.ref l0, .ref l1, .int l2, .int l3] M sz M0 sz := mMetV_of l D G A (by decide) (Nat.le_of_ble_eq_true rfl) (fun x X hQ => wP_X0_putPart X hQ h)
/-! SealedTokens$Bytes.putAll(LSealedTokens$Bytes;)V -/
theorem dX0_putAll_0 : decode cX0_putAll 0 = .ok (.aload_n 0, 1) := by decide +kernel
theorem dX0_putAll_1 : decode cX0_putAll 1 = .ok (.aload_n 1, 1) := by decide +kernel
theorem dX0_putAll_2 : decode cX0_putAll 2 = .ok (.iconst 0, 1) := by decide +kernel
theorem dX0_putAll_3 : decode cX0_putAll 3 = .ok (.aload_n 1, 1) := by decide +kernel
theorem dX0_putAll_4 : decode cX0_putAll 4 = .ok (.getfield 21, 3) := by decide +kernel
theorem dX0_putAll_7 : decode cX0_putAll 7 = .ok (.invokevirtual 52, 3) := by decide +kernel
theorem dX0_putAll_10 : decode cX0_putAll 10 = .ok (.return_, 1) := by decide +kernel
abbrev rmX0_putAll : Room := { frames := 2, cells := 0, slots := 0, locals := 84 }
def P_X0_putAll (G : Nat → Nat) (F : Nat) (l0 : Nat) (l1 : Nat) (M : mM) : Option mM :=
  bO (gfI M l1 0 1) fun v4 =>
  bO (rcv M l0 0) fun _ =>
  bO (P_X0_putPart G F l0 l1 (0 : Int32) v4 M) fun M7 =>
  some M7
set_option maxHeartbeats 4000000 in
set_option maxRecDepth 100000 in
theorem wP_X0_putAll {G : Nat → Nat} {F : Nat} {x : mXT} {sz : Nat} {M0 : mM} (X : mCX G RX0 cX0_putAll 2 none "putAll" rmX0_putAll x) (hQ : mQV x M0 (sz, 0, 0)) {l0 : Nat} {l1 : Nat} {M : mM} (h : P_X0_putAll G F l0 l1 M = some M0) : WW x (sz, 0, 0) M 0 [(0, .ref l0), (1, .ref l1)] [] := by
  unfold P_X0_putAll at h
  refine ww_aload_n 0 X dX0_putAll_0 0 rfl rfl ?_
  refine ww_aload_n 1 X dX0_putAll_1 1 rfl rfl ?_
  refine ww_iconst 2 X (v := (0 : Int32)) dX0_putAll_2 (by decide) ?_
  refine ww_aload_n 3 X dX0_putAll_3 1 rfl rfl ?_
  obtain ⟨v4, e4, h⟩ := bO_some h
  refine ww_getI 4 X dX0_putAll_4 fG_X0_21 e4 ?_
  obtain ⟨_, f7, h⟩ := bO_some h
  obtain ⟨M7, e7, h⟩ := bO_some h
  refine ww_callVV0 7 X dX0_putAll_7 mY_X0_putPart mL_X0_52 (rcv_spec f7) ⟨_, _, rfl⟩ (by decide) (As := [.ref l1, .int (0 : Int32), .int v4]) (rest := []) rfl rfl ⟨Nat.le_of_ble_eq_true rfl, Nat.le_of_ble_eq_true rfl⟩ (Nat.le_of_ble_eq_true rfl) (fun l D A => c_X0_putPart l D A e7) ?_
  exact ww_vretE 10 X hQ dX0_putAll_10 h
theorem c_X0_putAll {G : Nat → Nat} {F sz : Nat} {M0 : mM} (l : Launch) (D : mD) (A : Nat → Prop) {l0 : Nat} {l1 : Nat} {M : mM} (h : P_X0_putAll G F l0 l1 M = some M0) : mMetV l D G A yX0_putAll cX0_putAll 2 none 2 84 0 0 [.ref l0, .ref l1] M sz M0 sz := mMetV_of l D G A (by decide) (Nat.le_of_ble_eq_true rfl) (fun x X hQ => wP_X0_putAll X hQ h)
/-! SealedTokens$Bytes.become(LSealedTokens$Bytes;)V -/
theorem dX0_become_0 : decode cX0_become 0 = .ok (.aload_n 0, 1) := by decide +kernel
theorem dX0_become_1 : decode cX0_become 1 = .ok (.invokevirtual 56, 3) := by decide +kernel
theorem dX0_become_4 : decode cX0_become 4 = .ok (.aload_n 0, 1) := by decide +kernel
theorem dX0_become_5 : decode cX0_become 5 = .ok (.aload_n 1, 1) := by decide +kernel
theorem dX0_become_6 : decode cX0_become 6 = .ok (.iconst 0, 1) := by decide +kernel
theorem dX0_become_7 : decode cX0_become 7 = .ok (.aload_n 1, 1) := by decide +kernel
theorem dX0_become_8 : decode cX0_become 8 = .ok (.getfield 21, 3) := by decide +kernel
theorem dX0_become_11 : decode cX0_become 11 = .ok (.invokevirtual 52, 3) := by decide +kernel
theorem dX0_become_14 : decode cX0_become 14 = .ok (.return_, 1) := by decide +kernel
abbrev rmX0_become : Room := { frames := 2, cells := 0, slots := 0, locals := 84 }
def P_X0_become (G : Nat → Nat) (F : Nat) (l0 : Nat) (l1 : Nat) (M : mM) : Option mM :=
  bO (rcv M l0 0) fun _ =>
  bO (P_X0_clear G F l0 M) fun M1 =>
  bO (gfI M1 l1 0 1) fun v8 =>
  bO (rcv M1 l0 0) fun _ =>
  bO (P_X0_putPart G F l0 l1 (0 : Int32) v8 M1) fun M11 =>
  some M11
set_option maxHeartbeats 4000000 in
set_option maxRecDepth 100000 in
theorem wP_X0_become {G : Nat → Nat} {F : Nat} {x : mXT} {sz : Nat} {M0 : mM} (X : mCX G RX0 cX0_become 2 none "become" rmX0_become x) (hQ : mQV x M0 (sz, 0, 0)) {l0 : Nat} {l1 : Nat} {M : mM} (h : P_X0_become G F l0 l1 M = some M0) : WW x (sz, 0, 0) M 0 [(0, .ref l0), (1, .ref l1)] [] := by
  unfold P_X0_become at h
  refine ww_aload_n 0 X dX0_become_0 0 rfl rfl ?_
  obtain ⟨_, f1, h⟩ := bO_some h
  obtain ⟨M1, e1, h⟩ := bO_some h
  refine ww_callVV0 1 X dX0_become_1 mY_X0_clear mL_X0_56 (rcv_spec f1) ⟨_, _, rfl⟩ (by decide) (As := []) (rest := []) rfl rfl ⟨Nat.le_of_ble_eq_true rfl, Nat.le_of_ble_eq_true rfl⟩ (Nat.le_of_ble_eq_true rfl) (fun l D A => c_X0_clear l D A e1) ?_
  refine ww_aload_n 4 X dX0_become_4 0 rfl rfl ?_
  refine ww_aload_n 5 X dX0_become_5 1 rfl rfl ?_
  refine ww_iconst 6 X (v := (0 : Int32)) dX0_become_6 (by decide) ?_
  refine ww_aload_n 7 X dX0_become_7 1 rfl rfl ?_
  obtain ⟨v8, e8, h⟩ := bO_some h
  refine ww_getI 8 X dX0_become_8 fG_X0_21 e8 ?_
  obtain ⟨_, f11, h⟩ := bO_some h
  obtain ⟨M11, e11, h⟩ := bO_some h
  refine ww_callVV0 11 X dX0_become_11 mY_X0_putPart mL_X0_52 (rcv_spec f11) ⟨_, _, rfl⟩ (by decide) (As := [.ref l1, .int (0 : Int32), .int v8]) (rest := []) rfl rfl ⟨Nat.le_of_ble_eq_true rfl, Nat.le_of_ble_eq_true rfl⟩ (Nat.le_of_ble_eq_true rfl) (fun l D A => c_X0_putPart l D A e11) ?_
  exact ww_vretE 14 X hQ dX0_become_14 h
theorem c_X0_become {G : Nat → Nat} {F sz : Nat} {M0 : mM} (l : Launch) (D : mD) (A : Nat → Prop) {l0 : Nat} {l1 : Nat} {M : mM} (h : P_X0_become G F l0 l1 M = some M0) : mMetV l D G A yX0_become cX0_become 2 none 2 84 0 0 [.ref l0, .ref l1] M sz M0 sz := mMetV_of l D G A (by decide) (Nat.le_of_ble_eq_true rfl) (fun x X hQ => wP_X0_become X hQ h)
/-! SealedTokens$Bytes.holds(I)Z -/
theorem dX0_holds_0 : decode cX0_holds 0 = .ok (.iconst 0, 1) := by decide +kernel
theorem dX0_holds_1 : decode cX0_holds 1 = .ok (.istore_n 2, 1) := by decide +kernel
theorem dX0_holds_2 : decode cX0_holds 2 = .ok (.iload_n 2, 1) := by decide +kernel
theorem dX0_holds_3 : decode cX0_holds 3 = .ok (.aload_n 0, 1) := by decide +kernel
theorem dX0_holds_4 : decode cX0_holds 4 = .ok (.getfield 21, 3) := by decide +kernel
theorem dX0_holds_7 : decode cX0_holds 7 = .ok (.if_icmp .ge 21, 3) := by decide +kernel
theorem dX0_holds_10 : decode cX0_holds 10 = .ok (.aload_n 0, 1) := by decide +kernel
theorem dX0_holds_11 : decode cX0_holds 11 = .ok (.getfield 15, 3) := by decide +kernel
theorem dX0_holds_14 : decode cX0_holds 14 = .ok (.iload_n 2, 1) := by decide +kernel
theorem dX0_holds_15 : decode cX0_holds 15 = .ok (.iaload, 1) := by decide +kernel
theorem dX0_holds_16 : decode cX0_holds 16 = .ok (.iload_n 1, 1) := by decide +kernel
theorem dX0_holds_17 : decode cX0_holds 17 = .ok (.if_icmp .ne 5, 3) := by decide +kernel
theorem dX0_holds_20 : decode cX0_holds 20 = .ok (.iconst 1, 1) := by decide +kernel
theorem dX0_holds_21 : decode cX0_holds 21 = .ok (.ireturn, 1) := by decide +kernel
theorem dX0_holds_22 : decode cX0_holds 22 = .ok (.iinc 2 1, 3) := by decide +kernel
theorem dX0_holds_25 : decode cX0_holds 25 = .ok (.goto (-23), 3) := by decide +kernel
theorem dX0_holds_28 : decode cX0_holds 28 = .ok (.iconst 0, 1) := by decide +kernel
theorem dX0_holds_29 : decode cX0_holds 29 = .ok (.ireturn, 1) := by decide +kernel
abbrev rmX0_holds : Room := { frames := 0, cells := 0, slots := 0, locals := 0 }
def B_X0_holds_2 (G : Nat → Nat) (F : Nat) : Nat → Nat → Int32 → Int32 → mM → Option (Int32 × mM)
  | 0, _, _, _, _ => none
  | n + 1, l0, l1, l2, M =>
  bO (gfI M l0 0 1) fun v4 =>
  if v4 ≤ l2 then (retZ (0 : Int32) M)
  else (bO (gfR M l0 0 0) fun v11 =>
  bO (aI M 0 v11 l2) fun v15 =>
  if v15 = l1 then (retZ (1 : Int32) M)
  else (B_X0_holds_2 G F n l0 l1 (l2 + 1) M))
set_option maxHeartbeats 4000000 in
set_option maxRecDepth 100000 in
theorem wB_X0_holds_2 {G : Nat → Nat} {F : Nat} {x : mXT} {sz : Nat} {r0 : Int32} {M0 : mM} (X : mCX G RX0 cX0_holds 3 (some .boolean) "holds" rmX0_holds x) (hQ : mQI x r0 M0 (sz, 0, 0)) : ∀ (n : Nat) (l0 : Nat) (l1 : Int32) (l2 : Int32) (M : mM), B_X0_holds_2 G F n l0 l1 l2 M = some (r0, M0) → WW x (sz, 0, 0) M 2 [(0, .ref l0), (1, .int l1), (2, .int l2)] [] := by
  intro n
  induction n with
  | zero =>
    intro l0 l1 l2 M h
    exact nomatch (show (none : Option (Int32 × mM)) = some (r0, M0) from h)
  | succ n ih =>
    intro l0 l1 l2 M h
    rw [B_X0_holds_2] at h
    refine ww_iload_n 2 X dX0_holds_2 2 rfl rfl ?_
    refine ww_aload_n 3 X dX0_holds_3 0 rfl rfl ?_
    obtain ⟨v4, e4, h⟩ := bO_some h
    refine ww_getI 4 X dX0_holds_4 fG_X0_21 e4 ?_
    refine ww_icmp_ge 7 28 X dX0_holds_7 (by decide) (fun q => ?_) (fun q => ?_)
    · replace h := (if_pos q).symm.trans h
      refine ww_iconst 28 X (v := (0 : Int32)) dX0_holds_28 (by decide) ?_
      exact ww_zretE 29 X hQ dX0_holds_29 h
    · replace h := (if_neg q).symm.trans h
      refine ww_aload_n 10 X dX0_holds_10 0 rfl rfl ?_
      obtain ⟨v11, e11, h⟩ := bO_some h
      refine ww_getR 11 X dX0_holds_11 fG_X0_15 e11 ?_
      refine ww_iload_n 14 X dX0_holds_14 2 rfl rfl ?_
      obtain ⟨v15, e15, h⟩ := bO_some h
      refine ww_iald 15 X dX0_holds_15 e15 ?_
      refine ww_iload_n 16 X dX0_holds_16 1 rfl rfl ?_
      refine ww_icmp_ne 17 22 X dX0_holds_17 (by decide) (fun q => ?_) (fun q => ?_)
      · replace h := (if_neg q).symm.trans h
        refine ww_iinc 22 X dX0_holds_22 (lv' := [(0, .ref l0), (1, .int l1), (2, .int (l2 + 1))]) 2 rfl rfl (by decide) [1, 2, 0] rfl ?_
        refine ww_goto 25 2 X dX0_holds_25 (by decide) ?_
        exact (ih _ _ _ _ h)
      · replace h := (if_pos q).symm.trans h
        refine ww_iconst 20 X (v := (1 : Int32)) dX0_holds_20 (by decide) ?_
        exact ww_zretE 21 X hQ dX0_holds_21 h
def P_X0_holds (G : Nat → Nat) (F : Nat) (l0 : Nat) (l1 : Int32) (M : mM) : Option (Int32 × mM) :=
  B_X0_holds_2 G F F l0 l1 (0 : Int32) M
set_option maxHeartbeats 4000000 in
set_option maxRecDepth 100000 in
theorem wP_X0_holds {G : Nat → Nat} {F : Nat} {x : mXT} {sz : Nat} {r0 : Int32} {M0 : mM} (X : mCX G RX0 cX0_holds 3 (some .boolean) "holds" rmX0_holds x) (hQ : mQI x r0 M0 (sz, 0, 0)) {l0 : Nat} {l1 : Int32} {M : mM} (h : P_X0_holds G F l0 l1 M = some (r0, M0)) : WW x (sz, 0, 0) M 0 [(0, .ref l0), (1, .int l1)] [] := by
  unfold P_X0_holds at h
  refine ww_iconst 0 X (v := (0 : Int32)) dX0_holds_0 (by decide) ?_
  refine ww_istore_n 1 X dX0_holds_1 (lv' := [(0, .ref l0), (1, .int l1), (2, .int (0 : Int32))]) rfl (by decide) [1, 2, 0] rfl ?_
  exact (wB_X0_holds_2 X hQ F _ _ _ _ h)
theorem c_X0_holds {G : Nat → Nat} {F sz : Nat} {r0 : Int32} {M0 : mM} (l : Launch) (D : mD) (A : Nat → Prop) {l0 : Nat} {l1 : Int32} {M : mM} (h : P_X0_holds G F l0 l1 M = some (r0, M0)) : mMetI l D G A yX0_holds cX0_holds 3 (some .boolean) 0 0 0 0 [.ref l0, .int l1] M sz r0 M0 sz := mMetI_of l D G A (by decide) (Nat.le_of_ble_eq_true rfl) (fun x X hQ => wP_X0_holds X hQ h)
/-! SealedTokens$Bytes.compare(LSealedTokens$Bytes;ILSealedTokens$Bytes;II)I -/
theorem dX0_compare_0 : decode cX0_compare 0 = .ok (.iconst 0, 1) := by decide +kernel
theorem dX0_compare_1 : decode cX0_compare 1 = .ok (.istore 5, 2) := by decide +kernel
theorem dX0_compare_3 : decode cX0_compare 3 = .ok (.iload 5, 2) := by decide +kernel
theorem dX0_compare_5 : decode cX0_compare 5 = .ok (.iload 4, 2) := by decide +kernel
theorem dX0_compare_7 : decode cX0_compare 7 = .ok (.if_icmp .ge 49, 3) := by decide +kernel
theorem dX0_compare_10 : decode cX0_compare 10 = .ok (.aload_n 0, 1) := by decide +kernel
theorem dX0_compare_11 : decode cX0_compare 11 = .ok (.iload_n 1, 1) := by decide +kernel
theorem dX0_compare_12 : decode cX0_compare 12 = .ok (.iload 5, 2) := by decide +kernel
theorem dX0_compare_14 : decode cX0_compare 14 = .ok (.iadd, 1) := by decide +kernel
theorem dX0_compare_15 : decode cX0_compare 15 = .ok (.invokevirtual 63, 3) := by decide +kernel
theorem dX0_compare_18 : decode cX0_compare 18 = .ok (.istore 6, 2) := by decide +kernel
theorem dX0_compare_20 : decode cX0_compare 20 = .ok (.aload_n 2, 1) := by decide +kernel
theorem dX0_compare_21 : decode cX0_compare 21 = .ok (.iload_n 3, 1) := by decide +kernel
theorem dX0_compare_22 : decode cX0_compare 22 = .ok (.iload 5, 2) := by decide +kernel
theorem dX0_compare_24 : decode cX0_compare 24 = .ok (.iadd, 1) := by decide +kernel
theorem dX0_compare_25 : decode cX0_compare 25 = .ok (.invokevirtual 63, 3) := by decide +kernel
theorem dX0_compare_28 : decode cX0_compare 28 = .ok (.istore 7, 2) := by decide +kernel
theorem dX0_compare_30 : decode cX0_compare 30 = .ok (.iload 6, 2) := by decide +kernel
theorem dX0_compare_32 : decode cX0_compare 32 = .ok (.iload 7, 2) := by decide +kernel
theorem dX0_compare_34 : decode cX0_compare 34 = .ok (.if_icmp .eq 16, 3) := by decide +kernel
theorem dX0_compare_37 : decode cX0_compare 37 = .ok (.iload 6, 2) := by decide +kernel
theorem dX0_compare_39 : decode cX0_compare 39 = .ok (.iload 7, 2) := by decide +kernel
theorem dX0_compare_41 : decode cX0_compare 41 = .ok (.if_icmp .ge 7, 3) := by decide +kernel
theorem dX0_compare_44 : decode cX0_compare 44 = .ok (.iconst (-1), 1) := by decide +kernel
theorem dX0_compare_45 : decode cX0_compare 45 = .ok (.goto 4, 3) := by decide +kernel
theorem dX0_compare_48 : decode cX0_compare 48 = .ok (.iconst 1, 1) := by decide +kernel
theorem dX0_compare_49 : decode cX0_compare 49 = .ok (.ireturn, 1) := by decide +kernel
theorem dX0_compare_50 : decode cX0_compare 50 = .ok (.iinc 5 1, 3) := by decide +kernel
theorem dX0_compare_53 : decode cX0_compare 53 = .ok (.goto (-50), 3) := by decide +kernel
theorem dX0_compare_56 : decode cX0_compare 56 = .ok (.iconst 0, 1) := by decide +kernel
theorem dX0_compare_57 : decode cX0_compare 57 = .ok (.ireturn, 1) := by decide +kernel
abbrev rmX0_compare : Room := { frames := 1, cells := 0, slots := 0, locals := 21 }
def B_X0_compare_3 (G : Nat → Nat) (F : Nat) : Nat → Nat → Int32 → Nat → Int32 → Int32 → Int32 → mM → Option (Int32 × mM)
  | 0, _, _, _, _, _, _, _ => none
  | n + 1, l0, l1, l2, l3, l4, l5, M =>
  if l4 ≤ l5 then (some ((0 : Int32), M))
  else (bO (rcv M l0 0) fun _ =>
  bP (P_X0_get G F l0 (l1 + l5) M) fun v15 M15 =>
  bO (rcv M15 l2 0) fun _ =>
  bP (P_X0_get G F l2 (l3 + l5) M15) fun v25 M25 =>
  if v15 = v25 then (B_X0_compare_3 G F n l0 l1 l2 l3 l4 (l5 + 1) M25)
  else (if v25 ≤ v15 then (some ((1 : Int32), M25))
  else (some ((-1 : Int32), M25))))
set_option maxHeartbeats 4000000 in
set_option maxRecDepth 100000 in
theorem wB_X0_compare_3 {G : Nat → Nat} {F : Nat} {x : mXT} {sz : Nat} {r0 : Int32} {M0 : mM} (X : mCX G RX0 cX0_compare 8 (some .int) "compare" rmX0_compare x) (hQ : mQI x r0 M0 (sz, 0, 0)) : ∀ (n : Nat) (l0 : Nat) (l1 : Int32) (l2 : Nat) (l3 : Int32) (l4 : Int32) (l5 : Int32) (M : mM), B_X0_compare_3 G F n l0 l1 l2 l3 l4 l5 M = some (r0, M0) → WW x (sz, 0, 0) M 3 [(0, .ref l0), (1, .int l1), (2, .ref l2), (3, .int l3), (4, .int l4), (5, .int l5)] [] := by
  intro n
  induction n with
  | zero =>
    intro l0 l1 l2 l3 l4 l5 M h
    exact nomatch (show (none : Option (Int32 × mM)) = some (r0, M0) from h)
  | succ n ih =>
    intro l0 l1 l2 l3 l4 l5 M h
    rw [B_X0_compare_3] at h
    refine ww_iload 3 X dX0_compare_3 5 rfl ?_
    refine ww_iload 5 X dX0_compare_5 4 rfl ?_
    refine ww_icmp_ge 7 56 X dX0_compare_7 (by decide) (fun q => ?_) (fun q => ?_)
    · replace h := (if_pos q).symm.trans h
      refine ww_iconst 56 X (v := (0 : Int32)) dX0_compare_56 (by decide) ?_
      exact ww_iretE 57 X hQ dX0_compare_57 h
    · replace h := (if_neg q).symm.trans h
      refine ww_aload_n 10 X dX0_compare_10 0 rfl rfl ?_
      refine ww_iload_n 11 X dX0_compare_11 1 rfl rfl ?_
      refine ww_iload 12 X dX0_compare_12 5 rfl ?_
      refine ww_iadd 14 X dX0_compare_14 ?_
      obtain ⟨_, f15, h⟩ := bO_some h
      obtain ⟨v15, M15, e15, h⟩ := bP_some h
      refine ww_callVI0 15 X dX0_compare_15 mY_X0_get mL_X0_63 (rcv_spec f15) ⟨_, _, rfl⟩ (by decide) (As := [.int (l1 + l5)]) (rest := []) rfl rfl ⟨Nat.le_of_ble_eq_true rfl, Nat.le_of_ble_eq_true rfl⟩ (Nat.le_of_ble_eq_true rfl) (fun l D A => c_X0_get l D A e15) ?_
      refine ww_istore 18 X dX0_compare_18 (lv' := [(0, .ref l0), (1, .int l1), (2, .ref l2), (3, .int l3), (4, .int l4), (5, .int l5), (6, .int v15)]) (by decide) [1, 2, 3, 4, 5, 6, 0] rfl ?_
      refine ww_aload_n 20 X dX0_compare_20 2 rfl rfl ?_
      refine ww_iload_n 21 X dX0_compare_21 3 rfl rfl ?_
      refine ww_iload 22 X dX0_compare_22 5 rfl ?_
      refine ww_iadd 24 X dX0_compare_24 ?_
      obtain ⟨_, f25, h⟩ := bO_some h
      obtain ⟨v25, M25, e25, h⟩ := bP_some h
      refine ww_callVI0 25 X dX0_compare_25 mY_X0_get mL_X0_63 (rcv_spec f25) ⟨_, _, rfl⟩ (by decide) (As := [.int (l3 + l5)]) (rest := []) rfl rfl ⟨Nat.le_of_ble_eq_true rfl, Nat.le_of_ble_eq_true rfl⟩ (Nat.le_of_ble_eq_true rfl) (fun l D A => c_X0_get l D A e25) ?_
      refine ww_istore 28 X dX0_compare_28 (lv' := [(0, .ref l0), (1, .int l1), (2, .ref l2), (3, .int l3), (4, .int l4), (5, .int l5), (6, .int v15), (7, .int v25)]) (by decide) [1, 2, 3, 4, 5, 6, 7, 0] rfl ?_
      refine ww_iload 30 X dX0_compare_30 6 rfl ?_
      refine ww_iload 32 X dX0_compare_32 7 rfl ?_
      refine ww_icmp_eq 34 50 X dX0_compare_34 (by decide) (fun q => ?_) (fun q => ?_)
      · replace h := (if_pos q).symm.trans h
        refine ww_iinc 50 X dX0_compare_50 (lv' := [(0, .ref l0), (1, .int l1), (2, .ref l2), (3, .int l3), (4, .int l4), (5, .int (l5 + 1)), (6, .int v15), (7, .int v25)]) 5 rfl rfl (by decide) [1, 2, 3, 4, 5, 0, 6, 7] rfl ?_
        refine ww_goto 53 3 X dX0_compare_53 (by decide) ?_
        exact ww_sub [0, 1, 2, 3, 4, 5] rfl (ih _ _ _ _ _ _ _ h)
      · replace h := (if_neg q).symm.trans h
        refine ww_iload 37 X dX0_compare_37 6 rfl ?_
        refine ww_iload 39 X dX0_compare_39 7 rfl ?_
        refine ww_icmp_ge 41 48 X dX0_compare_41 (by decide) (fun q => ?_) (fun q => ?_)
        · replace h := (if_pos q).symm.trans h
          refine ww_iconst 48 X (v := (1 : Int32)) dX0_compare_48 (by decide) ?_
          exact ww_iretE 49 X hQ dX0_compare_49 h
        · replace h := (if_neg q).symm.trans h
          refine ww_iconst 44 X (v := (-1 : Int32)) dX0_compare_44 (by decide) ?_
          refine ww_goto 45 49 X dX0_compare_45 (by decide) ?_
          exact ww_iretE 49 X hQ dX0_compare_49 h
def P_X0_compare (G : Nat → Nat) (F : Nat) (l0 : Nat) (l1 : Int32) (l2 : Nat) (l3 : Int32) (l4 : Int32) (M : mM) : Option (Int32 × mM) :=
  B_X0_compare_3 G F F l0 l1 l2 l3 l4 (0 : Int32) M
set_option maxHeartbeats 4000000 in
set_option maxRecDepth 100000 in
theorem wP_X0_compare {G : Nat → Nat} {F : Nat} {x : mXT} {sz : Nat} {r0 : Int32} {M0 : mM} (X : mCX G RX0 cX0_compare 8 (some .int) "compare" rmX0_compare x) (hQ : mQI x r0 M0 (sz, 0, 0)) {l0 : Nat} {l1 : Int32} {l2 : Nat} {l3 : Int32} {l4 : Int32} {M : mM} (h : P_X0_compare G F l0 l1 l2 l3 l4 M = some (r0, M0)) : WW x (sz, 0, 0) M 0 [(0, .ref l0), (1, .int l1), (2, .ref l2), (3, .int l3), (4, .int l4)] [] := by
  unfold P_X0_compare at h
  refine ww_iconst 0 X (v := (0 : Int32)) dX0_compare_0 (by decide) ?_
  refine ww_istore 1 X dX0_compare_1 (lv' := [(0, .ref l0), (1, .int l1), (2, .ref l2), (3, .int l3), (4, .int l4), (5, .int (0 : Int32))]) (by decide) [1, 2, 3, 4, 5, 0] rfl ?_
  exact (wB_X0_compare_3 X hQ F _ _ _ _ _ _ _ h)
theorem c_X0_compare {G : Nat → Nat} {F sz : Nat} {r0 : Int32} {M0 : mM} (l : Launch) (D : mD) (A : Nat → Prop) {l0 : Nat} {l1 : Int32} {l2 : Nat} {l3 : Int32} {l4 : Int32} {M : mM} (h : P_X0_compare G F l0 l1 l2 l3 l4 M = some (r0, M0)) : mMetI l D G A yX0_compare cX0_compare 8 (some .int) 1 21 0 0 [.ref l0, .int l1, .ref l2, .int l3, .int l4] M sz r0 M0 sz := mMetI_of l D G A (by decide) (Nat.le_of_ble_eq_true rfl) (fun x X hQ => wP_X0_compare X hQ h)
/-! SealedTokens$Bytes.same(LSealedTokens$Bytes;)Z -/
theorem dX0_same_0 : decode cX0_same 0 = .ok (.aload_n 0, 1) := by decide +kernel
theorem dX0_same_1 : decode cX0_same 1 = .ok (.getfield 21, 3) := by decide +kernel
theorem dX0_same_4 : decode cX0_same 4 = .ok (.aload_n 1, 1) := by decide +kernel
theorem dX0_same_5 : decode cX0_same 5 = .ok (.getfield 21, 3) := by decide +kernel
theorem dX0_same_8 : decode cX0_same 8 = .ok (.if_icmp .ne 21, 3) := by decide +kernel
theorem dX0_same_11 : decode cX0_same 11 = .ok (.aload_n 0, 1) := by decide +kernel
theorem dX0_same_12 : decode cX0_same 12 = .ok (.iconst 0, 1) := by decide +kernel
theorem dX0_same_13 : decode cX0_same 13 = .ok (.aload_n 1, 1) := by decide +kernel
theorem dX0_same_14 : decode cX0_same 14 = .ok (.iconst 0, 1) := by decide +kernel
theorem dX0_same_15 : decode cX0_same 15 = .ok (.aload_n 0, 1) := by decide +kernel
theorem dX0_same_16 : decode cX0_same 16 = .ok (.getfield 21, 3) := by decide +kernel
theorem dX0_same_19 : decode cX0_same 19 = .ok (.invokestatic 59, 3) := by decide +kernel
theorem dX0_same_22 : decode cX0_same 22 = .ok (.ifCond .ne 7, 3) := by decide +kernel
theorem dX0_same_25 : decode cX0_same 25 = .ok (.iconst 1, 1) := by decide +kernel
theorem dX0_same_26 : decode cX0_same 26 = .ok (.goto 4, 3) := by decide +kernel
theorem dX0_same_29 : decode cX0_same 29 = .ok (.iconst 0, 1) := by decide +kernel
theorem dX0_same_30 : decode cX0_same 30 = .ok (.ireturn, 1) := by decide +kernel
abbrev rmX0_same : Room := { frames := 2, cells := 0, slots := 0, locals := 48 }
def P_X0_same (G : Nat → Nat) (F : Nat) (l0 : Nat) (l1 : Nat) (M : mM) : Option (Int32 × mM) :=
  bO (gfI M l0 0 1) fun v1 =>
  bO (gfI M l1 0 1) fun v5 =>
  if v1 = v5 then (bO (gfI M l0 0 1) fun v16 =>
  bP (P_X0_compare G F l0 (0 : Int32) l1 (0 : Int32) v16 M) fun v19 M19 =>
  if v19 = 0 then (retZ (1 : Int32) M19)
  else (retZ (0 : Int32) M19))
  else (retZ (0 : Int32) M)
set_option maxHeartbeats 4000000 in
set_option maxRecDepth 100000 in
theorem wP_X0_same {G : Nat → Nat} {F : Nat} {x : mXT} {sz : Nat} {r0 : Int32} {M0 : mM} (X : mCX G RX0 cX0_same 2 (some .boolean) "same" rmX0_same x) (hQ : mQI x r0 M0 (sz, 0, 0)) {l0 : Nat} {l1 : Nat} {M : mM} (h : P_X0_same G F l0 l1 M = some (r0, M0)) : WW x (sz, 0, 0) M 0 [(0, .ref l0), (1, .ref l1)] [] := by
  unfold P_X0_same at h
  refine ww_aload_n 0 X dX0_same_0 0 rfl rfl ?_
  obtain ⟨v1, e1, h⟩ := bO_some h
  refine ww_getI 1 X dX0_same_1 fG_X0_21 e1 ?_
  refine ww_aload_n 4 X dX0_same_4 1 rfl rfl ?_
  obtain ⟨v5, e5, h⟩ := bO_some h
  refine ww_getI 5 X dX0_same_5 fG_X0_21 e5 ?_
  refine ww_icmp_ne 8 29 X dX0_same_8 (by decide) (fun q => ?_) (fun q => ?_)
  · replace h := (if_neg q).symm.trans h
    refine ww_iconst 29 X (v := (0 : Int32)) dX0_same_29 (by decide) ?_
    exact ww_zretE 30 X hQ dX0_same_30 h
  · replace h := (if_pos q).symm.trans h
    refine ww_aload_n 11 X dX0_same_11 0 rfl rfl ?_
    refine ww_iconst 12 X (v := (0 : Int32)) dX0_same_12 (by decide) ?_
    refine ww_aload_n 13 X dX0_same_13 1 rfl rfl ?_
    refine ww_iconst 14 X (v := (0 : Int32)) dX0_same_14 (by decide) ?_
    refine ww_aload_n 15 X dX0_same_15 0 rfl rfl ?_
    obtain ⟨v16, e16, h⟩ := bO_some h
    refine ww_getI 16 X dX0_same_16 fG_X0_21 e16 ?_
    obtain ⟨v19, M19, e19, h⟩ := bP_some h
    refine ww_callSI0 19 X dX0_same_19 mY_X0_compare mL_X0_59 (As := [.ref l0, .int (0 : Int32), .ref l1, .int (0 : Int32), .int v16]) (rest := []) rfl rfl ⟨Nat.le_of_ble_eq_true rfl, Nat.le_of_ble_eq_true rfl⟩ (Nat.le_of_ble_eq_true rfl) (fun l D A => c_X0_compare l D A e19) ?_
    refine ww_if_ne 22 29 X dX0_same_22 (by decide) (fun q => ?_) (fun q => ?_)
    · replace h := (if_neg q).symm.trans h
      refine ww_iconst 29 X (v := (0 : Int32)) dX0_same_29 (by decide) ?_
      exact ww_zretE 30 X hQ dX0_same_30 h
    · replace h := (if_pos q).symm.trans h
      refine ww_iconst 25 X (v := (1 : Int32)) dX0_same_25 (by decide) ?_
      refine ww_goto 26 30 X dX0_same_26 (by decide) ?_
      exact ww_zretE 30 X hQ dX0_same_30 h
theorem c_X0_same {G : Nat → Nat} {F sz : Nat} {r0 : Int32} {M0 : mM} (l : Launch) (D : mD) (A : Nat → Prop) {l0 : Nat} {l1 : Nat} {M : mM} (h : P_X0_same G F l0 l1 M = some (r0, M0)) : mMetI l D G A yX0_same cX0_same 2 (some .boolean) 2 48 0 0 [.ref l0, .ref l1] M sz r0 M0 sz := mMetI_of l D G A (by decide) (Nat.le_of_ble_eq_true rfl) (fun x X hQ => wP_X0_same X hQ h)
/-! SealedTokens$Bytes.isBelow(LSealedTokens$Bytes;LSealedTokens$Bytes;)Z -/
theorem dX0_isBelow_0 : decode cX0_isBelow 0 = .ok (.aload_n 0, 1) := by decide +kernel
theorem dX0_isBelow_1 : decode cX0_isBelow 1 = .ok (.getfield 21, 3) := by decide +kernel
theorem dX0_isBelow_4 : decode cX0_isBelow 4 = .ok (.aload_n 1, 1) := by decide +kernel
theorem dX0_isBelow_5 : decode cX0_isBelow 5 = .ok (.getfield 21, 3) := by decide +kernel
theorem dX0_isBelow_8 : decode cX0_isBelow 8 = .ok (.if_icmp .lt 28, 3) := by decide +kernel
theorem dX0_isBelow_11 : decode cX0_isBelow 11 = .ok (.aload_n 0, 1) := by decide +kernel
theorem dX0_isBelow_12 : decode cX0_isBelow 12 = .ok (.getfield 21, 3) := by decide +kernel
theorem dX0_isBelow_15 : decode cX0_isBelow 15 = .ok (.aload_n 1, 1) := by decide +kernel
theorem dX0_isBelow_16 : decode cX0_isBelow 16 = .ok (.getfield 21, 3) := by decide +kernel
theorem dX0_isBelow_19 : decode cX0_isBelow 19 = .ok (.if_icmp .ne 21, 3) := by decide +kernel
theorem dX0_isBelow_22 : decode cX0_isBelow 22 = .ok (.aload_n 0, 1) := by decide +kernel
theorem dX0_isBelow_23 : decode cX0_isBelow 23 = .ok (.iconst 0, 1) := by decide +kernel
theorem dX0_isBelow_24 : decode cX0_isBelow 24 = .ok (.aload_n 1, 1) := by decide +kernel
theorem dX0_isBelow_25 : decode cX0_isBelow 25 = .ok (.iconst 0, 1) := by decide +kernel
theorem dX0_isBelow_26 : decode cX0_isBelow 26 = .ok (.aload_n 0, 1) := by decide +kernel
theorem dX0_isBelow_27 : decode cX0_isBelow 27 = .ok (.getfield 21, 3) := by decide +kernel
theorem dX0_isBelow_30 : decode cX0_isBelow 30 = .ok (.invokestatic 59, 3) := by decide +kernel
theorem dX0_isBelow_33 : decode cX0_isBelow 33 = .ok (.ifCond .ge 7, 3) := by decide +kernel
theorem dX0_isBelow_36 : decode cX0_isBelow 36 = .ok (.iconst 1, 1) := by decide +kernel
theorem dX0_isBelow_37 : decode cX0_isBelow 37 = .ok (.goto 4, 3) := by decide +kernel
theorem dX0_isBelow_40 : decode cX0_isBelow 40 = .ok (.iconst 0, 1) := by decide +kernel
theorem dX0_isBelow_41 : decode cX0_isBelow 41 = .ok (.ireturn, 1) := by decide +kernel
abbrev rmX0_isBelow : Room := { frames := 2, cells := 0, slots := 0, locals := 48 }
def P_X0_isBelow (G : Nat → Nat) (F : Nat) (l0 : Nat) (l1 : Nat) (M : mM) : Option (Int32 × mM) :=
  bO (gfI M l0 0 1) fun v1 =>
  bO (gfI M l1 0 1) fun v5 =>
  if v1 < v5 then (retZ (1 : Int32) M)
  else (bO (gfI M l0 0 1) fun v12 =>
  bO (gfI M l1 0 1) fun v16 =>
  if v12 = v16 then (bO (gfI M l0 0 1) fun v27 =>
  bP (P_X0_compare G F l0 (0 : Int32) l1 (0 : Int32) v27 M) fun v30 M30 =>
  if 0 ≤ v30 then (retZ (0 : Int32) M30)
  else (retZ (1 : Int32) M30))
  else (retZ (0 : Int32) M))
set_option maxHeartbeats 4000000 in
set_option maxRecDepth 100000 in
theorem wP_X0_isBelow {G : Nat → Nat} {F : Nat} {x : mXT} {sz : Nat} {r0 : Int32} {M0 : mM} (X : mCX G RX0 cX0_isBelow 2 (some .boolean) "isBelow" rmX0_isBelow x) (hQ : mQI x r0 M0 (sz, 0, 0)) {l0 : Nat} {l1 : Nat} {M : mM} (h : P_X0_isBelow G F l0 l1 M = some (r0, M0)) : WW x (sz, 0, 0) M 0 [(0, .ref l0), (1, .ref l1)] [] := by
  unfold P_X0_isBelow at h
  refine ww_aload_n 0 X dX0_isBelow_0 0 rfl rfl ?_
  obtain ⟨v1, e1, h⟩ := bO_some h
  refine ww_getI 1 X dX0_isBelow_1 fG_X0_21 e1 ?_
  refine ww_aload_n 4 X dX0_isBelow_4 1 rfl rfl ?_
  obtain ⟨v5, e5, h⟩ := bO_some h
  refine ww_getI 5 X dX0_isBelow_5 fG_X0_21 e5 ?_
  refine ww_icmp_lt 8 36 X dX0_isBelow_8 (by decide) (fun q => ?_) (fun q => ?_)
  · replace h := (if_pos q).symm.trans h
    refine ww_iconst 36 X (v := (1 : Int32)) dX0_isBelow_36 (by decide) ?_
    refine ww_goto 37 41 X dX0_isBelow_37 (by decide) ?_
    exact ww_zretE 41 X hQ dX0_isBelow_41 h
  · replace h := (if_neg q).symm.trans h
    refine ww_aload_n 11 X dX0_isBelow_11 0 rfl rfl ?_
    obtain ⟨v12, e12, h⟩ := bO_some h
    refine ww_getI 12 X dX0_isBelow_12 fG_X0_21 e12 ?_
    refine ww_aload_n 15 X dX0_isBelow_15 1 rfl rfl ?_
    obtain ⟨v16, e16, h⟩ := bO_some h
    refine ww_getI 16 X dX0_isBelow_16 fG_X0_21 e16 ?_
    refine ww_icmp_ne 19 40 X dX0_isBelow_19 (by decide) (fun q => ?_) (fun q => ?_)
    · replace h := (if_neg q).symm.trans h
      refine ww_iconst 40 X (v := (0 : Int32)) dX0_isBelow_40 (by decide) ?_
      exact ww_zretE 41 X hQ dX0_isBelow_41 h
    · replace h := (if_pos q).symm.trans h
      refine ww_aload_n 22 X dX0_isBelow_22 0 rfl rfl ?_
      refine ww_iconst 23 X (v := (0 : Int32)) dX0_isBelow_23 (by decide) ?_
      refine ww_aload_n 24 X dX0_isBelow_24 1 rfl rfl ?_
      refine ww_iconst 25 X (v := (0 : Int32)) dX0_isBelow_25 (by decide) ?_
      refine ww_aload_n 26 X dX0_isBelow_26 0 rfl rfl ?_
      obtain ⟨v27, e27, h⟩ := bO_some h
      refine ww_getI 27 X dX0_isBelow_27 fG_X0_21 e27 ?_
      obtain ⟨v30, M30, e30, h⟩ := bP_some h
      refine ww_callSI0 30 X dX0_isBelow_30 mY_X0_compare mL_X0_59 (As := [.ref l0, .int (0 : Int32), .ref l1, .int (0 : Int32), .int v27]) (rest := []) rfl rfl ⟨Nat.le_of_ble_eq_true rfl, Nat.le_of_ble_eq_true rfl⟩ (Nat.le_of_ble_eq_true rfl) (fun l D A => c_X0_compare l D A e30) ?_
      refine ww_if_ge 33 40 X dX0_isBelow_33 (by decide) (fun q => ?_) (fun q => ?_)
      · replace h := (if_pos q).symm.trans h
        refine ww_iconst 40 X (v := (0 : Int32)) dX0_isBelow_40 (by decide) ?_
        exact ww_zretE 41 X hQ dX0_isBelow_41 h
      · replace h := (if_neg q).symm.trans h
        refine ww_iconst 36 X (v := (1 : Int32)) dX0_isBelow_36 (by decide) ?_
        refine ww_goto 37 41 X dX0_isBelow_37 (by decide) ?_
        exact ww_zretE 41 X hQ dX0_isBelow_41 h
theorem c_X0_isBelow {G : Nat → Nat} {F sz : Nat} {r0 : Int32} {M0 : mM} (l : Launch) (D : mD) (A : Nat → Prop) {l0 : Nat} {l1 : Nat} {M : mM} (h : P_X0_isBelow G F l0 l1 M = some (r0, M0)) : mMetI l D G A yX0_isBelow cX0_isBelow 2 (some .boolean) 2 48 0 0 [.ref l0, .ref l1] M sz r0 M0 sz := mMetI_of l D G A (by decide) (Nat.le_of_ble_eq_true rfl) (fun x X hQ => wP_X0_isBelow X hQ h)
/-! SealedTokens$Bytes.lettersFor(I)I -/
theorem dX0_lettersFor_0 : decode cX0_lettersFor 0 = .ok (.iload_n 0, 1) := by decide +kernel
theorem dX0_lettersFor_1 : decode cX0_lettersFor 1 = .ok (.iconst 4, 1) := by decide +kernel
theorem dX0_lettersFor_2 : decode cX0_lettersFor 2 = .ok (.imul, 1) := by decide +kernel
theorem dX0_lettersFor_3 : decode cX0_lettersFor 3 = .ok (.iconst 2, 1) := by decide +kernel
theorem dX0_lettersFor_4 : decode cX0_lettersFor 4 = .ok (.iadd, 1) := by decide +kernel
theorem dX0_lettersFor_5 : decode cX0_lettersFor 5 = .ok (.iconst 3, 1) := by decide +kernel
theorem dX0_lettersFor_6 : decode cX0_lettersFor 6 = .ok (.idiv, 1) := by decide +kernel
theorem dX0_lettersFor_7 : decode cX0_lettersFor 7 = .ok (.ireturn, 1) := by decide +kernel
abbrev rmX0_lettersFor : Room := { frames := 0, cells := 0, slots := 0, locals := 0 }
def P_X0_lettersFor (G : Nat → Nat) (F : Nat) (l0 : Int32) (M : mM) : Option (Int32 × mM) :=
  some ((((l0 * (4 : Int32)) + (2 : Int32)) / (3 : Int32)), M)
set_option maxHeartbeats 4000000 in
set_option maxRecDepth 100000 in
theorem wP_X0_lettersFor {G : Nat → Nat} {F : Nat} {x : mXT} {sz : Nat} {r0 : Int32} {M0 : mM} (X : mCX G RX0 cX0_lettersFor 1 (some .int) "lettersFor" rmX0_lettersFor x) (hQ : mQI x r0 M0 (sz, 0, 0)) {l0 : Int32} {M : mM} (h : P_X0_lettersFor G F l0 M = some (r0, M0)) : WW x (sz, 0, 0) M 0 [(0, .int l0)] [] := by
  unfold P_X0_lettersFor at h
  refine ww_iload_n 0 X dX0_lettersFor_0 0 rfl rfl ?_
  refine ww_iconst 1 X (v := (4 : Int32)) dX0_lettersFor_1 (by decide) ?_
  refine ww_imul 2 X dX0_lettersFor_2 ?_
  refine ww_iconst 3 X (v := (2 : Int32)) dX0_lettersFor_3 (by decide) ?_
  refine ww_iadd 4 X dX0_lettersFor_4 ?_
  refine ww_iconst 5 X (v := (3 : Int32)) dX0_lettersFor_5 (by decide) ?_
  refine ww_idiv 6 X (v := (((l0 * (4 : Int32)) + (2 : Int32)) / (3 : Int32))) dX0_lettersFor_6 rfl ?_
  exact ww_iretE 7 X hQ dX0_lettersFor_7 h
theorem c_X0_lettersFor {G : Nat → Nat} {F sz : Nat} {r0 : Int32} {M0 : mM} (l : Launch) (D : mD) (A : Nat → Prop) {l0 : Int32} {M : mM} (h : P_X0_lettersFor G F l0 M = some (r0, M0)) : mMetI l D G A yX0_lettersFor cX0_lettersFor 1 (some .int) 0 0 0 0 [.int l0] M sz r0 M0 sz := mMetI_of l D G A (by decide) (Nat.le_of_ble_eq_true rfl) (fun x X hQ => wP_X0_lettersFor X hQ h)
/-! SealedTokens$Bytes.bytesFor(I)I -/
theorem dX0_bytesFor_0 : decode cX0_bytesFor 0 = .ok (.iload_n 0, 1) := by decide +kernel
theorem dX0_bytesFor_1 : decode cX0_bytesFor 1 = .ok (.iconst 3, 1) := by decide +kernel
theorem dX0_bytesFor_2 : decode cX0_bytesFor 2 = .ok (.imul, 1) := by decide +kernel
theorem dX0_bytesFor_3 : decode cX0_bytesFor 3 = .ok (.iconst 4, 1) := by decide +kernel
theorem dX0_bytesFor_4 : decode cX0_bytesFor 4 = .ok (.idiv, 1) := by decide +kernel
theorem dX0_bytesFor_5 : decode cX0_bytesFor 5 = .ok (.ireturn, 1) := by decide +kernel
abbrev rmX0_bytesFor : Room := { frames := 0, cells := 0, slots := 0, locals := 0 }
def P_X0_bytesFor (G : Nat → Nat) (F : Nat) (l0 : Int32) (M : mM) : Option (Int32 × mM) :=
  some (((l0 * (3 : Int32)) / (4 : Int32)), M)
set_option maxHeartbeats 4000000 in
set_option maxRecDepth 100000 in
theorem wP_X0_bytesFor {G : Nat → Nat} {F : Nat} {x : mXT} {sz : Nat} {r0 : Int32} {M0 : mM} (X : mCX G RX0 cX0_bytesFor 1 (some .int) "bytesFor" rmX0_bytesFor x) (hQ : mQI x r0 M0 (sz, 0, 0)) {l0 : Int32} {M : mM} (h : P_X0_bytesFor G F l0 M = some (r0, M0)) : WW x (sz, 0, 0) M 0 [(0, .int l0)] [] := by
  unfold P_X0_bytesFor at h
  refine ww_iload_n 0 X dX0_bytesFor_0 0 rfl rfl ?_
  refine ww_iconst 1 X (v := (3 : Int32)) dX0_bytesFor_1 (by decide) ?_
  refine ww_imul 2 X dX0_bytesFor_2 ?_
  refine ww_iconst 3 X (v := (4 : Int32)) dX0_bytesFor_3 (by decide) ?_
  refine ww_idiv 4 X (v := ((l0 * (3 : Int32)) / (4 : Int32))) dX0_bytesFor_4 rfl ?_
  exact ww_iretE 5 X hQ dX0_bytesFor_5 h
theorem c_X0_bytesFor {G : Nat → Nat} {F sz : Nat} {r0 : Int32} {M0 : mM} (l : Launch) (D : mD) (A : Nat → Prop) {l0 : Int32} {M : mM} (h : P_X0_bytesFor G F l0 M = some (r0, M0)) : mMetI l D G A yX0_bytesFor cX0_bytesFor 1 (some .int) 0 0 0 0 [.int l0] M sz r0 M0 sz := mMetI_of l D G A (by decide) (Nat.le_of_ble_eq_true rfl) (fun x X hQ => wP_X0_bytesFor X hQ h)
/-! SealedTokens$Bytes.letterValue(I)I -/
theorem dX0_letterValue_0 : decode cX0_letterValue 0 = .ok (.iload_n 0, 1) := by decide +kernel
theorem dX0_letterValue_1 : decode cX0_letterValue 1 = .ok (.bipush 65, 2) := by decide +kernel
theorem dX0_letterValue_3 : decode cX0_letterValue 3 = .ok (.if_icmp .lt 14, 3) := by decide +kernel
theorem dX0_letterValue_6 : decode cX0_letterValue 6 = .ok (.iload_n 0, 1) := by decide +kernel
theorem dX0_letterValue_7 : decode cX0_letterValue 7 = .ok (.bipush 90, 2) := by decide +kernel
theorem dX0_letterValue_9 : decode cX0_letterValue 9 = .ok (.if_icmp .gt 8, 3) := by decide +kernel
theorem dX0_letterValue_12 : decode cX0_letterValue 12 = .ok (.iload_n 0, 1) := by decide +kernel
theorem dX0_letterValue_13 : decode cX0_letterValue 13 = .ok (.bipush 65, 2) := by decide +kernel
theorem dX0_letterValue_15 : decode cX0_letterValue 15 = .ok (.isub, 1) := by decide +kernel
theorem dX0_letterValue_16 : decode cX0_letterValue 16 = .ok (.ireturn, 1) := by decide +kernel
theorem dX0_letterValue_17 : decode cX0_letterValue 17 = .ok (.iload_n 0, 1) := by decide +kernel
theorem dX0_letterValue_18 : decode cX0_letterValue 18 = .ok (.bipush 97, 2) := by decide +kernel
theorem dX0_letterValue_20 : decode cX0_letterValue 20 = .ok (.if_icmp .lt 17, 3) := by decide +kernel
theorem dX0_letterValue_23 : decode cX0_letterValue 23 = .ok (.iload_n 0, 1) := by decide +kernel
theorem dX0_letterValue_24 : decode cX0_letterValue 24 = .ok (.bipush 122, 2) := by decide +kernel
theorem dX0_letterValue_26 : decode cX0_letterValue 26 = .ok (.if_icmp .gt 11, 3) := by decide +kernel
theorem dX0_letterValue_29 : decode cX0_letterValue 29 = .ok (.iload_n 0, 1) := by decide +kernel
theorem dX0_letterValue_30 : decode cX0_letterValue 30 = .ok (.bipush 97, 2) := by decide +kernel
theorem dX0_letterValue_32 : decode cX0_letterValue 32 = .ok (.isub, 1) := by decide +kernel
theorem dX0_letterValue_33 : decode cX0_letterValue 33 = .ok (.bipush 26, 2) := by decide +kernel
theorem dX0_letterValue_35 : decode cX0_letterValue 35 = .ok (.iadd, 1) := by decide +kernel
theorem dX0_letterValue_36 : decode cX0_letterValue 36 = .ok (.ireturn, 1) := by decide +kernel
theorem dX0_letterValue_37 : decode cX0_letterValue 37 = .ok (.iload_n 0, 1) := by decide +kernel
theorem dX0_letterValue_38 : decode cX0_letterValue 38 = .ok (.bipush 48, 2) := by decide +kernel
theorem dX0_letterValue_40 : decode cX0_letterValue 40 = .ok (.if_icmp .lt 17, 3) := by decide +kernel
theorem dX0_letterValue_43 : decode cX0_letterValue 43 = .ok (.iload_n 0, 1) := by decide +kernel
theorem dX0_letterValue_44 : decode cX0_letterValue 44 = .ok (.bipush 57, 2) := by decide +kernel
theorem dX0_letterValue_46 : decode cX0_letterValue 46 = .ok (.if_icmp .gt 11, 3) := by decide +kernel
theorem dX0_letterValue_49 : decode cX0_letterValue 49 = .ok (.iload_n 0, 1) := by decide +kernel
theorem dX0_letterValue_50 : decode cX0_letterValue 50 = .ok (.bipush 48, 2) := by decide +kernel
theorem dX0_letterValue_52 : decode cX0_letterValue 52 = .ok (.isub, 1) := by decide +kernel
theorem dX0_letterValue_53 : decode cX0_letterValue 53 = .ok (.bipush 52, 2) := by decide +kernel
theorem dX0_letterValue_55 : decode cX0_letterValue 55 = .ok (.iadd, 1) := by decide +kernel
theorem dX0_letterValue_56 : decode cX0_letterValue 56 = .ok (.ireturn, 1) := by decide +kernel
theorem dX0_letterValue_57 : decode cX0_letterValue 57 = .ok (.iload_n 0, 1) := by decide +kernel
theorem dX0_letterValue_58 : decode cX0_letterValue 58 = .ok (.bipush 45, 2) := by decide +kernel
theorem dX0_letterValue_60 : decode cX0_letterValue 60 = .ok (.if_icmp .ne 8, 3) := by decide +kernel
theorem dX0_letterValue_63 : decode cX0_letterValue 63 = .ok (.bipush 62, 2) := by decide +kernel
theorem dX0_letterValue_65 : decode cX0_letterValue 65 = .ok (.goto 15, 3) := by decide +kernel
theorem dX0_letterValue_68 : decode cX0_letterValue 68 = .ok (.iload_n 0, 1) := by decide +kernel
theorem dX0_letterValue_69 : decode cX0_letterValue 69 = .ok (.bipush 95, 2) := by decide +kernel
theorem dX0_letterValue_71 : decode cX0_letterValue 71 = .ok (.if_icmp .ne 8, 3) := by decide +kernel
theorem dX0_letterValue_74 : decode cX0_letterValue 74 = .ok (.bipush 63, 2) := by decide +kernel
theorem dX0_letterValue_76 : decode cX0_letterValue 76 = .ok (.goto 4, 3) := by decide +kernel
theorem dX0_letterValue_79 : decode cX0_letterValue 79 = .ok (.iconst (-1), 1) := by decide +kernel
theorem dX0_letterValue_80 : decode cX0_letterValue 80 = .ok (.ireturn, 1) := by decide +kernel
abbrev rmX0_letterValue : Room := { frames := 0, cells := 0, slots := 0, locals := 0 }
def B_X0_letterValue_57 (G : Nat → Nat) (F : Nat) (l0 : Int32) (M : mM) : Option (Int32 × mM) :=
  if l0 = (45 : Int32) then (some ((62 : Int32), M))
  else (if l0 = (95 : Int32) then (some ((63 : Int32), M))
  else (some ((-1 : Int32), M)))
set_option maxHeartbeats 4000000 in
set_option maxRecDepth 100000 in
theorem wB_X0_letterValue_57 {G : Nat → Nat} {F : Nat} {x : mXT} {sz : Nat} {r0 : Int32} {M0 : mM} (X : mCX G RX0 cX0_letterValue 1 (some .int) "letterValue" rmX0_letterValue x) (hQ : mQI x r0 M0 (sz, 0, 0)) {l0 : Int32} {M : mM} (h : B_X0_letterValue_57 G F l0 M = some (r0, M0)) : WW x (sz, 0, 0) M 57 [(0, .int l0)] [] := by
  unfold B_X0_letterValue_57 at h
  refine ww_iload_n 57 X dX0_letterValue_57 0 rfl rfl ?_
  refine ww_bipush 58 X (v := (45 : Int32)) dX0_letterValue_58 (by decide) ?_
  refine ww_icmp_ne 60 68 X dX0_letterValue_60 (by decide) (fun q => ?_) (fun q => ?_)
  · replace h := (if_neg q).symm.trans h
    refine ww_iload_n 68 X dX0_letterValue_68 0 rfl rfl ?_
    refine ww_bipush 69 X (v := (95 : Int32)) dX0_letterValue_69 (by decide) ?_
    refine ww_icmp_ne 71 79 X dX0_letterValue_71 (by decide) (fun q => ?_) (fun q => ?_)
    · replace h := (if_neg q).symm.trans h
      refine ww_iconst 79 X (v := (-1 : Int32)) dX0_letterValue_79 (by decide) ?_
      exact ww_iretE 80 X hQ dX0_letterValue_80 h
    · replace h := (if_pos q).symm.trans h
      refine ww_bipush 74 X (v := (63 : Int32)) dX0_letterValue_74 (by decide) ?_
      refine ww_goto 76 80 X dX0_letterValue_76 (by decide) ?_
      exact ww_iretE 80 X hQ dX0_letterValue_80 h
  · replace h := (if_pos q).symm.trans h
    refine ww_bipush 63 X (v := (62 : Int32)) dX0_letterValue_63 (by decide) ?_
    refine ww_goto 65 80 X dX0_letterValue_65 (by decide) ?_
    exact ww_iretE 80 X hQ dX0_letterValue_80 h
def B_X0_letterValue_37 (G : Nat → Nat) (F : Nat) (l0 : Int32) (M : mM) : Option (Int32 × mM) :=
  if l0 < (48 : Int32) then (B_X0_letterValue_57 G F l0 M)
  else (if (57 : Int32) < l0 then (B_X0_letterValue_57 G F l0 M)
  else (some (((l0 - (48 : Int32)) + (52 : Int32)), M)))
set_option maxHeartbeats 4000000 in
set_option maxRecDepth 100000 in
theorem wB_X0_letterValue_37 {G : Nat → Nat} {F : Nat} {x : mXT} {sz : Nat} {r0 : Int32} {M0 : mM} (X : mCX G RX0 cX0_letterValue 1 (some .int) "letterValue" rmX0_letterValue x) (hQ : mQI x r0 M0 (sz, 0, 0)) {l0 : Int32} {M : mM} (h : B_X0_letterValue_37 G F l0 M = some (r0, M0)) : WW x (sz, 0, 0) M 37 [(0, .int l0)] [] := by
  unfold B_X0_letterValue_37 at h
  refine ww_iload_n 37 X dX0_letterValue_37 0 rfl rfl ?_
  refine ww_bipush 38 X (v := (48 : Int32)) dX0_letterValue_38 (by decide) ?_
  refine ww_icmp_lt 40 57 X dX0_letterValue_40 (by decide) (fun q => ?_) (fun q => ?_)
  · replace h := (if_pos q).symm.trans h
    exact (wB_X0_letterValue_57 X hQ h)
  · replace h := (if_neg q).symm.trans h
    refine ww_iload_n 43 X dX0_letterValue_43 0 rfl rfl ?_
    refine ww_bipush 44 X (v := (57 : Int32)) dX0_letterValue_44 (by decide) ?_
    refine ww_icmp_gt 46 57 X dX0_letterValue_46 (by decide) (fun q => ?_) (fun q => ?_)
    · replace h := (if_pos q).symm.trans h
      exact (wB_X0_letterValue_57 X hQ h)
    · replace h := (if_neg q).symm.trans h
      refine ww_iload_n 49 X dX0_letterValue_49 0 rfl rfl ?_
      refine ww_bipush 50 X (v := (48 : Int32)) dX0_letterValue_50 (by decide) ?_
      refine ww_isub 52 X dX0_letterValue_52 ?_
      refine ww_bipush 53 X (v := (52 : Int32)) dX0_letterValue_53 (by decide) ?_
      refine ww_iadd 55 X dX0_letterValue_55 ?_
      exact ww_iretE 56 X hQ dX0_letterValue_56 h
def B_X0_letterValue_17 (G : Nat → Nat) (F : Nat) (l0 : Int32) (M : mM) : Option (Int32 × mM) :=
  if l0 < (97 : Int32) then (B_X0_letterValue_37 G F l0 M)
  else (if (122 : Int32) < l0 then (B_X0_letterValue_37 G F l0 M)
  else (some (((l0 - (97 : Int32)) + (26 : Int32)), M)))
set_option maxHeartbeats 4000000 in
set_option maxRecDepth 100000 in
theorem wB_X0_letterValue_17 {G : Nat → Nat} {F : Nat} {x : mXT} {sz : Nat} {r0 : Int32} {M0 : mM} (X : mCX G RX0 cX0_letterValue 1 (some .int) "letterValue" rmX0_letterValue x) (hQ : mQI x r0 M0 (sz, 0, 0)) {l0 : Int32} {M : mM} (h : B_X0_letterValue_17 G F l0 M = some (r0, M0)) : WW x (sz, 0, 0) M 17 [(0, .int l0)] [] := by
  unfold B_X0_letterValue_17 at h
  refine ww_iload_n 17 X dX0_letterValue_17 0 rfl rfl ?_
  refine ww_bipush 18 X (v := (97 : Int32)) dX0_letterValue_18 (by decide) ?_
  refine ww_icmp_lt 20 37 X dX0_letterValue_20 (by decide) (fun q => ?_) (fun q => ?_)
  · replace h := (if_pos q).symm.trans h
    exact (wB_X0_letterValue_37 X hQ h)
  · replace h := (if_neg q).symm.trans h
    refine ww_iload_n 23 X dX0_letterValue_23 0 rfl rfl ?_
    refine ww_bipush 24 X (v := (122 : Int32)) dX0_letterValue_24 (by decide) ?_
    refine ww_icmp_gt 26 37 X dX0_letterValue_26 (by decide) (fun q => ?_) (fun q => ?_)
    · replace h := (if_pos q).symm.trans h
      exact (wB_X0_letterValue_37 X hQ h)
    · replace h := (if_neg q).symm.trans h
      refine ww_iload_n 29 X dX0_letterValue_29 0 rfl rfl ?_
      refine ww_bipush 30 X (v := (97 : Int32)) dX0_letterValue_30 (by decide) ?_
      refine ww_isub 32 X dX0_letterValue_32 ?_
      refine ww_bipush 33 X (v := (26 : Int32)) dX0_letterValue_33 (by decide) ?_
      refine ww_iadd 35 X dX0_letterValue_35 ?_
      exact ww_iretE 36 X hQ dX0_letterValue_36 h
def P_X0_letterValue (G : Nat → Nat) (F : Nat) (l0 : Int32) (M : mM) : Option (Int32 × mM) :=
  if l0 < (65 : Int32) then (B_X0_letterValue_17 G F l0 M)
  else (if (90 : Int32) < l0 then (B_X0_letterValue_17 G F l0 M)
  else (some ((l0 - (65 : Int32)), M)))
set_option maxHeartbeats 4000000 in
set_option maxRecDepth 100000 in
theorem wP_X0_letterValue {G : Nat → Nat} {F : Nat} {x : mXT} {sz : Nat} {r0 : Int32} {M0 : mM} (X : mCX G RX0 cX0_letterValue 1 (some .int) "letterValue" rmX0_letterValue x) (hQ : mQI x r0 M0 (sz, 0, 0)) {l0 : Int32} {M : mM} (h : P_X0_letterValue G F l0 M = some (r0, M0)) : WW x (sz, 0, 0) M 0 [(0, .int l0)] [] := by
  unfold P_X0_letterValue at h
  refine ww_iload_n 0 X dX0_letterValue_0 0 rfl rfl ?_
  refine ww_bipush 1 X (v := (65 : Int32)) dX0_letterValue_1 (by decide) ?_
  refine ww_icmp_lt 3 17 X dX0_letterValue_3 (by decide) (fun q => ?_) (fun q => ?_)
  · replace h := (if_pos q).symm.trans h
    exact (wB_X0_letterValue_17 X hQ h)
  · replace h := (if_neg q).symm.trans h
    refine ww_iload_n 6 X dX0_letterValue_6 0 rfl rfl ?_
    refine ww_bipush 7 X (v := (90 : Int32)) dX0_letterValue_7 (by decide) ?_
    refine ww_icmp_gt 9 17 X dX0_letterValue_9 (by decide) (fun q => ?_) (fun q => ?_)
    · replace h := (if_pos q).symm.trans h
      exact (wB_X0_letterValue_17 X hQ h)
    · replace h := (if_neg q).symm.trans h
      refine ww_iload_n 12 X dX0_letterValue_12 0 rfl rfl ?_
      refine ww_bipush 13 X (v := (65 : Int32)) dX0_letterValue_13 (by decide) ?_
      refine ww_isub 15 X dX0_letterValue_15 ?_
      exact ww_iretE 16 X hQ dX0_letterValue_16 h
theorem c_X0_letterValue {G : Nat → Nat} {F sz : Nat} {r0 : Int32} {M0 : mM} (l : Launch) (D : mD) (A : Nat → Prop) {l0 : Int32} {M : mM} (h : P_X0_letterValue G F l0 M = some (r0, M0)) : mMetI l D G A yX0_letterValue cX0_letterValue 1 (some .int) 0 0 0 0 [.int l0] M sz r0 M0 sz := mMetI_of l D G A (by decide) (Nat.le_of_ble_eq_true rfl) (fun x X hQ => wP_X0_letterValue X hQ h)
/-! SealedTokens$Bytes.letterFault(LSealedTokens$Bytes;II)I -/
theorem dX0_letterFault_0 : decode cX0_letterFault 0 = .ok (.iload_n 1, 1) := by decide +kernel
theorem dX0_letterFault_1 : decode cX0_letterFault 1 = .ok (.istore_n 3, 1) := by decide +kernel
theorem dX0_letterFault_2 : decode cX0_letterFault 2 = .ok (.iload_n 3, 1) := by decide +kernel
theorem dX0_letterFault_3 : decode cX0_letterFault 3 = .ok (.iload_n 2, 1) := by decide +kernel
theorem dX0_letterFault_4 : decode cX0_letterFault 4 = .ok (.if_icmp .ge 25, 3) := by decide +kernel
theorem dX0_letterFault_7 : decode cX0_letterFault 7 = .ok (.aload_n 0, 1) := by decide +kernel
theorem dX0_letterFault_8 : decode cX0_letterFault 8 = .ok (.iload_n 3, 1) := by decide +kernel
theorem dX0_letterFault_9 : decode cX0_letterFault 9 = .ok (.invokevirtual 63, 3) := by decide +kernel
theorem dX0_letterFault_12 : decode cX0_letterFault 12 = .ok (.invokestatic 67, 3) := by decide +kernel
theorem dX0_letterFault_15 : decode cX0_letterFault 15 = .ok (.iconst (-1), 1) := by decide +kernel
theorem dX0_letterFault_16 : decode cX0_letterFault 16 = .ok (.if_icmp .ne 7, 3) := by decide +kernel
theorem dX0_letterFault_19 : decode cX0_letterFault 19 = .ok (.iload_n 3, 1) := by decide +kernel
theorem dX0_letterFault_20 : decode cX0_letterFault 20 = .ok (.iload_n 1, 1) := by decide +kernel
theorem dX0_letterFault_21 : decode cX0_letterFault 21 = .ok (.isub, 1) := by decide +kernel
theorem dX0_letterFault_22 : decode cX0_letterFault 22 = .ok (.ireturn, 1) := by decide +kernel
theorem dX0_letterFault_23 : decode cX0_letterFault 23 = .ok (.iinc 3 1, 3) := by decide +kernel
theorem dX0_letterFault_26 : decode cX0_letterFault 26 = .ok (.goto (-24), 3) := by decide +kernel
theorem dX0_letterFault_29 : decode cX0_letterFault 29 = .ok (.iload_n 2, 1) := by decide +kernel
theorem dX0_letterFault_30 : decode cX0_letterFault 30 = .ok (.iload_n 1, 1) := by decide +kernel
theorem dX0_letterFault_31 : decode cX0_letterFault 31 = .ok (.isub, 1) := by decide +kernel
theorem dX0_letterFault_32 : decode cX0_letterFault 32 = .ok (.iconst 0, 1) := by decide +kernel
theorem dX0_letterFault_33 : decode cX0_letterFault 33 = .ok (.invokestatic 9, 3) := by decide +kernel
theorem dX0_letterFault_36 : decode cX0_letterFault 36 = .ok (.istore_n 3, 1) := by decide +kernel
theorem dX0_letterFault_37 : decode cX0_letterFault 37 = .ok (.iload_n 3, 1) := by decide +kernel
theorem dX0_letterFault_38 : decode cX0_letterFault 38 = .ok (.iconst 3, 1) := by decide +kernel
theorem dX0_letterFault_39 : decode cX0_letterFault 39 = .ok (.iand, 1) := by decide +kernel
theorem dX0_letterFault_40 : decode cX0_letterFault 40 = .ok (.istore 4, 2) := by decide +kernel
theorem dX0_letterFault_42 : decode cX0_letterFault 42 = .ok (.iload 4, 2) := by decide +kernel
theorem dX0_letterFault_44 : decode cX0_letterFault 44 = .ok (.iconst 1, 1) := by decide +kernel
theorem dX0_letterFault_45 : decode cX0_letterFault 45 = .ok (.if_icmp .ne 5, 3) := by decide +kernel
theorem dX0_letterFault_48 : decode cX0_letterFault 48 = .ok (.iload_n 3, 1) := by decide +kernel
theorem dX0_letterFault_49 : decode cX0_letterFault 49 = .ok (.ireturn, 1) := by decide +kernel
theorem dX0_letterFault_50 : decode cX0_letterFault 50 = .ok (.iload 4, 2) := by decide +kernel
theorem dX0_letterFault_52 : decode cX0_letterFault 52 = .ok (.iconst 2, 1) := by decide +kernel
theorem dX0_letterFault_53 : decode cX0_letterFault 53 = .ok (.if_icmp .ne 8, 3) := by decide +kernel
theorem dX0_letterFault_56 : decode cX0_letterFault 56 = .ok (.bipush 15, 2) := by decide +kernel
theorem dX0_letterFault_58 : decode cX0_letterFault 58 = .ok (.goto 14, 3) := by decide +kernel
theorem dX0_letterFault_61 : decode cX0_letterFault 61 = .ok (.iload 4, 2) := by decide +kernel
theorem dX0_letterFault_63 : decode cX0_letterFault 63 = .ok (.iconst 3, 1) := by decide +kernel
theorem dX0_letterFault_64 : decode cX0_letterFault 64 = .ok (.if_icmp .ne 7, 3) := by decide +kernel
theorem dX0_letterFault_67 : decode cX0_letterFault 67 = .ok (.iconst 3, 1) := by decide +kernel
theorem dX0_letterFault_68 : decode cX0_letterFault 68 = .ok (.goto 4, 3) := by decide +kernel
theorem dX0_letterFault_71 : decode cX0_letterFault 71 = .ok (.iconst 0, 1) := by decide +kernel
theorem dX0_letterFault_72 : decode cX0_letterFault 72 = .ok (.istore 5, 2) := by decide +kernel
theorem dX0_letterFault_74 : decode cX0_letterFault 74 = .ok (.iload 5, 2) := by decide +kernel
theorem dX0_letterFault_76 : decode cX0_letterFault 76 = .ok (.ifCond .eq 19, 3) := by decide +kernel
theorem dX0_letterFault_79 : decode cX0_letterFault 79 = .ok (.aload_n 0, 1) := by decide +kernel
theorem dX0_letterFault_80 : decode cX0_letterFault 80 = .ok (.iload_n 2, 1) := by decide +kernel
theorem dX0_letterFault_81 : decode cX0_letterFault 81 = .ok (.iconst 1, 1) := by decide +kernel
theorem dX0_letterFault_82 : decode cX0_letterFault 82 = .ok (.isub, 1) := by decide +kernel
theorem dX0_letterFault_83 : decode cX0_letterFault 83 = .ok (.invokevirtual 63, 3) := by decide +kernel
theorem dX0_letterFault_86 : decode cX0_letterFault 86 = .ok (.invokestatic 67, 3) := by decide +kernel
theorem dX0_letterFault_89 : decode cX0_letterFault 89 = .ok (.iload 5, 2) := by decide +kernel
theorem dX0_letterFault_91 : decode cX0_letterFault 91 = .ok (.iand, 1) := by decide +kernel
theorem dX0_letterFault_92 : decode cX0_letterFault 92 = .ok (.ifCond .ne 7, 3) := by decide +kernel
theorem dX0_letterFault_95 : decode cX0_letterFault 95 = .ok (.iconst 1, 1) := by decide +kernel
theorem dX0_letterFault_96 : decode cX0_letterFault 96 = .ok (.goto 4, 3) := by decide +kernel
theorem dX0_letterFault_99 : decode cX0_letterFault 99 = .ok (.iconst 0, 1) := by decide +kernel
theorem dX0_letterFault_100 : decode cX0_letterFault 100 = .ok (.istore 6, 2) := by decide +kernel
theorem dX0_letterFault_102 : decode cX0_letterFault 102 = .ok (.iload 6, 2) := by decide +kernel
theorem dX0_letterFault_104 : decode cX0_letterFault 104 = .ok (.ifCond .eq 7, 3) := by decide +kernel
theorem dX0_letterFault_107 : decode cX0_letterFault 107 = .ok (.iconst (-1), 1) := by decide +kernel
theorem dX0_letterFault_108 : decode cX0_letterFault 108 = .ok (.goto 6, 3) := by decide +kernel
theorem dX0_letterFault_111 : decode cX0_letterFault 111 = .ok (.iload_n 3, 1) := by decide +kernel
theorem dX0_letterFault_112 : decode cX0_letterFault 112 = .ok (.iconst 1, 1) := by decide +kernel
theorem dX0_letterFault_113 : decode cX0_letterFault 113 = .ok (.isub, 1) := by decide +kernel
theorem dX0_letterFault_114 : decode cX0_letterFault 114 = .ok (.ireturn, 1) := by decide +kernel
abbrev rmX0_letterFault : Room := { frames := 1, cells := 0, slots := 0, locals := 21 }
def B_X0_letterFault_72 (G : Nat → Nat) (F : Nat) (l0 : Nat) (l2 : Int32) (l3 : Int32) (s0 : Int32) (M : mM) : Option (Int32 × mM) :=
  if s0 = 0 then (if (1 : Int32) = 0 then (some ((l3 - (1 : Int32)), M))
  else (some ((-1 : Int32), M)))
  else (bO (rcv M l0 0) fun _ =>
  bP (P_X0_get G F l0 (l2 - (1 : Int32)) M) fun v83 M83 =>
  bP (P_X0_letterValue G F v83 M83) fun v86 M86 =>
  if (v86 &&& s0) = 0 then (if (1 : Int32) = 0 then (some ((l3 - (1 : Int32)), M86))
  else (some ((-1 : Int32), M86)))
  else (if (0 : Int32) = 0 then (some ((l3 - (1 : Int32)), M86))
  else (some ((-1 : Int32), M86))))
set_option maxHeartbeats 4000000 in
set_option maxRecDepth 100000 in
theorem wB_X0_letterFault_72 {G : Nat → Nat} {F : Nat} {x : mXT} {sz : Nat} {r0 : Int32} {M0 : mM} (X : mCX G RX0 cX0_letterFault 7 (some .int) "letterFault" rmX0_letterFault x) (hQ : mQI x r0 M0 (sz, 0, 0)) {l0 : Nat} {l2 : Int32} {l3 : Int32} {s0 : Int32} {M : mM} (h : B_X0_letterFault_72 G F l0 l2 l3 s0 M = some (r0, M0)) : WW x (sz, 0, 0) M 72 [(0, .ref l0), (2, .int l2), (3, .int l3)] [.int s0] := by
  unfold B_X0_letterFault_72 at h
  refine ww_istore 72 X dX0_letterFault_72 (lv' := [(0, .ref l0), (2, .int l2), (3, .int l3), (5, .int s0)]) (by decide) [1, 2, 3, 0] rfl ?_
  refine ww_iload 74 X dX0_letterFault_74 3 rfl ?_
  refine ww_if_eq 76 95 X dX0_letterFault_76 (by decide) (fun q => ?_) (fun q => ?_)
  · replace h := (if_pos q).symm.trans h
    refine ww_iconst 95 X (v := (1 : Int32)) dX0_letterFault_95 (by decide) ?_
    refine ww_goto 96 100 X dX0_letterFault_96 (by decide) ?_
    refine ww_istore 100 X dX0_letterFault_100 (lv' := [(0, .ref l0), (2, .int l2), (3, .int l3), (5, .int s0), (6, .int (1 : Int32))]) (by decide) [1, 2, 3, 4, 0] rfl ?_
    refine ww_iload 102 X dX0_letterFault_102 4 rfl ?_
    refine ww_if_eq 104 111 X dX0_letterFault_104 (by decide) (fun q => ?_) (fun q => ?_)
    · replace h := (if_pos q).symm.trans h
      refine ww_iload_n 111 X dX0_letterFault_111 2 rfl rfl ?_
      refine ww_iconst 112 X (v := (1 : Int32)) dX0_letterFault_112 (by decide) ?_
      refine ww_isub 113 X dX0_letterFault_113 ?_
      exact ww_iretE 114 X hQ dX0_letterFault_114 h
    · replace h := (if_neg q).symm.trans h
      refine ww_iconst 107 X (v := (-1 : Int32)) dX0_letterFault_107 (by decide) ?_
      refine ww_goto 108 114 X dX0_letterFault_108 (by decide) ?_
      exact ww_iretE 114 X hQ dX0_letterFault_114 h
  · replace h := (if_neg q).symm.trans h
    refine ww_aload_n 79 X dX0_letterFault_79 0 rfl rfl ?_
    refine ww_iload_n 80 X dX0_letterFault_80 1 rfl rfl ?_
    refine ww_iconst 81 X (v := (1 : Int32)) dX0_letterFault_81 (by decide) ?_
    refine ww_isub 82 X dX0_letterFault_82 ?_
    obtain ⟨_, f83, h⟩ := bO_some h
    obtain ⟨v83, M83, e83, h⟩ := bP_some h
    refine ww_callVI0 83 X dX0_letterFault_83 mY_X0_get mL_X0_63 (rcv_spec f83) ⟨_, _, rfl⟩ (by decide) (As := [.int (l2 - (1 : Int32))]) (rest := []) rfl rfl ⟨Nat.le_of_ble_eq_true rfl, Nat.le_of_ble_eq_true rfl⟩ (Nat.le_of_ble_eq_true rfl) (fun l D A => c_X0_get l D A e83) ?_
    obtain ⟨v86, M86, e86, h⟩ := bP_some h
    refine ww_callSI0 86 X dX0_letterFault_86 mY_X0_letterValue mL_X0_67 (As := [.int v83]) (rest := []) rfl rfl ⟨Nat.le_of_ble_eq_true rfl, Nat.le_of_ble_eq_true rfl⟩ (Nat.le_of_ble_eq_true rfl) (fun l D A => c_X0_letterValue l D A e86) ?_
    refine ww_iload 89 X dX0_letterFault_89 3 rfl ?_
    refine ww_iand 91 X dX0_letterFault_91 ?_
    refine ww_if_ne 92 99 X dX0_letterFault_92 (by decide) (fun q => ?_) (fun q => ?_)
    · replace h := (if_neg q).symm.trans h
      refine ww_iconst 99 X (v := (0 : Int32)) dX0_letterFault_99 (by decide) ?_
      refine ww_istore 100 X dX0_letterFault_100 (lv' := [(0, .ref l0), (2, .int l2), (3, .int l3), (5, .int s0), (6, .int (0 : Int32))]) (by decide) [1, 2, 3, 4, 0] rfl ?_
      refine ww_iload 102 X dX0_letterFault_102 4 rfl ?_
      refine ww_if_eq 104 111 X dX0_letterFault_104 (by decide) (fun q => ?_) (fun q => ?_)
      · replace h := (if_pos q).symm.trans h
        refine ww_iload_n 111 X dX0_letterFault_111 2 rfl rfl ?_
        refine ww_iconst 112 X (v := (1 : Int32)) dX0_letterFault_112 (by decide) ?_
        refine ww_isub 113 X dX0_letterFault_113 ?_
        exact ww_iretE 114 X hQ dX0_letterFault_114 h
      · replace h := (if_neg q).symm.trans h
        refine ww_iconst 107 X (v := (-1 : Int32)) dX0_letterFault_107 (by decide) ?_
        refine ww_goto 108 114 X dX0_letterFault_108 (by decide) ?_
        exact ww_iretE 114 X hQ dX0_letterFault_114 h
    · replace h := (if_pos q).symm.trans h
      refine ww_iconst 95 X (v := (1 : Int32)) dX0_letterFault_95 (by decide) ?_
      refine ww_goto 96 100 X dX0_letterFault_96 (by decide) ?_
      refine ww_istore 100 X dX0_letterFault_100 (lv' := [(0, .ref l0), (2, .int l2), (3, .int l3), (5, .int s0), (6, .int (1 : Int32))]) (by decide) [1, 2, 3, 4, 0] rfl ?_
      refine ww_iload 102 X dX0_letterFault_102 4 rfl ?_
      refine ww_if_eq 104 111 X dX0_letterFault_104 (by decide) (fun q => ?_) (fun q => ?_)
      · replace h := (if_pos q).symm.trans h
        refine ww_iload_n 111 X dX0_letterFault_111 2 rfl rfl ?_
        refine ww_iconst 112 X (v := (1 : Int32)) dX0_letterFault_112 (by decide) ?_
        refine ww_isub 113 X dX0_letterFault_113 ?_
        exact ww_iretE 114 X hQ dX0_letterFault_114 h
      · replace h := (if_neg q).symm.trans h
        refine ww_iconst 107 X (v := (-1 : Int32)) dX0_letterFault_107 (by decide) ?_
        refine ww_goto 108 114 X dX0_letterFault_108 (by decide) ?_
        exact ww_iretE 114 X hQ dX0_letterFault_114 h
def B_X0_letterFault_2 (G : Nat → Nat) (F : Nat) : Nat → Nat → Int32 → Int32 → Int32 → mM → Option (Int32 × mM)
  | 0, _, _, _, _, _ => none
  | n + 1, l0, l1, l2, l3, M =>
  if l2 ≤ l3 then (if ((if (l2 - l1) < (0 : Int32) then (0 : Int32) else (l2 - l1)) &&& (3 : Int32)) = (1 : Int32) then (some ((if (l2 - l1) < (0 : Int32) then (0 : Int32) else (l2 - l1)), M))
  else (if ((if (l2 - l1) < (0 : Int32) then (0 : Int32) else (l2 - l1)) &&& (3 : Int32)) = (2 : Int32) then (B_X0_letterFault_72 G F l0 l2 (if (l2 - l1) < (0 : Int32) then (0 : Int32) else (l2 - l1)) (15 : Int32) M)
  else (if ((if (l2 - l1) < (0 : Int32) then (0 : Int32) else (l2 - l1)) &&& (3 : Int32)) = (3 : Int32) then (B_X0_letterFault_72 G F l0 l2 (if (l2 - l1) < (0 : Int32) then (0 : Int32) else (l2 - l1)) (3 : Int32) M)
  else (B_X0_letterFault_72 G F l0 l2 (if (l2 - l1) < (0 : Int32) then (0 : Int32) else (l2 - l1)) (0 : Int32) M))))
  else (bO (rcv M l0 0) fun _ =>
  bP (P_X0_get G F l0 l3 M) fun v9 M9 =>
  bP (P_X0_letterValue G F v9 M9) fun v12 M12 =>
  if v12 = (-1 : Int32) then (some ((l3 - l1), M12))
  else (B_X0_letterFault_2 G F n l0 l1 l2 (l3 + 1) M12))
set_option maxHeartbeats 4000000 in
set_option maxRecDepth 100000 in
theorem wB_X0_letterFault_2 {G : Nat → Nat} {F : Nat} {x : mXT} {sz : Nat} {r0 : Int32} {M0 : mM} (X : mCX G RX0 cX0_letterFault 7 (some .int) "letterFault" rmX0_letterFault x) (hQ : mQI x r0 M0 (sz, 0, 0)) : ∀ (n : Nat) (l0 : Nat) (l1 : Int32) (l2 : Int32) (l3 : Int32) (M : mM), B_X0_letterFault_2 G F n l0 l1 l2 l3 M = some (r0, M0) → WW x (sz, 0, 0) M 2 [(0, .ref l0), (1, .int l1), (2, .int l2), (3, .int l3)] [] := by
  intro n
  induction n with
  | zero =>
    intro l0 l1 l2 l3 M h
    exact nomatch (show (none : Option (Int32 × mM)) = some (r0, M0) from h)
  | succ n ih =>
    intro l0 l1 l2 l3 M h
    rw [B_X0_letterFault_2] at h
    refine ww_iload_n 2 X dX0_letterFault_2 3 rfl rfl ?_
    refine ww_iload_n 3 X dX0_letterFault_3 2 rfl rfl ?_
    refine ww_icmp_ge 4 29 X dX0_letterFault_4 (by decide) (fun q => ?_) (fun q => ?_)
    · replace h := (if_pos q).symm.trans h
      refine ww_iload_n 29 X dX0_letterFault_29 2 rfl rfl ?_
      refine ww_iload_n 30 X dX0_letterFault_30 1 rfl rfl ?_
      refine ww_isub 31 X dX0_letterFault_31 ?_
      refine ww_iconst 32 X (v := (0 : Int32)) dX0_letterFault_32 (by decide) ?_
      refine ww_mmax 33 X dX0_letterFault_33 mL_X0_9 (Nat.le_of_ble_eq_true rfl) (Nat.le_of_ble_eq_true rfl) (Nat.le_of_ble_eq_true rfl) ?_
      refine ww_istore_n 36 X dX0_letterFault_36 (lv' := [(0, .ref l0), (1, .int l1), (2, .int l2), (3, .int (if (l2 - l1) < (0 : Int32) then (0 : Int32) else (l2 - l1)))]) rfl (by decide) [1, 2, 3, 0] rfl ?_
      refine ww_iload_n 37 X dX0_letterFault_37 3 rfl rfl ?_
      refine ww_iconst 38 X (v := (3 : Int32)) dX0_letterFault_38 (by decide) ?_
      refine ww_iand 39 X dX0_letterFault_39 ?_
      refine ww_istore 40 X dX0_letterFault_40 (lv' := [(0, .ref l0), (1, .int l1), (2, .int l2), (3, .int (if (l2 - l1) < (0 : Int32) then (0 : Int32) else (l2 - l1))), (4, .int ((if (l2 - l1) < (0 : Int32) then (0 : Int32) else (l2 - l1)) &&& (3 : Int32)))]) (by decide) [1, 2, 3, 4, 0] rfl ?_
      refine ww_iload 42 X dX0_letterFault_42 4 rfl ?_
      refine ww_iconst 44 X (v := (1 : Int32)) dX0_letterFault_44 (by decide) ?_
      refine ww_icmp_ne 45 50 X dX0_letterFault_45 (by decide) (fun q => ?_) (fun q => ?_)
      · replace h := (if_neg q).symm.trans h
        refine ww_iload 50 X dX0_letterFault_50 4 rfl ?_
        refine ww_iconst 52 X (v := (2 : Int32)) dX0_letterFault_52 (by decide) ?_
        refine ww_icmp_ne 53 61 X dX0_letterFault_53 (by decide) (fun q => ?_) (fun q => ?_)
        · replace h := (if_neg q).symm.trans h
          refine ww_iload 61 X dX0_letterFault_61 4 rfl ?_
          refine ww_iconst 63 X (v := (3 : Int32)) dX0_letterFault_63 (by decide) ?_
          refine ww_icmp_ne 64 71 X dX0_letterFault_64 (by decide) (fun q => ?_) (fun q => ?_)
          · replace h := (if_neg q).symm.trans h
            refine ww_iconst 71 X (v := (0 : Int32)) dX0_letterFault_71 (by decide) ?_
            exact ww_sub [0, 2, 3] rfl (wB_X0_letterFault_72 X hQ h)
          · replace h := (if_pos q).symm.trans h
            refine ww_iconst 67 X (v := (3 : Int32)) dX0_letterFault_67 (by decide) ?_
            refine ww_goto 68 72 X dX0_letterFault_68 (by decide) ?_
            exact ww_sub [0, 2, 3] rfl (wB_X0_letterFault_72 X hQ h)
        · replace h := (if_pos q).symm.trans h
          refine ww_bipush 56 X (v := (15 : Int32)) dX0_letterFault_56 (by decide) ?_
          refine ww_goto 58 72 X dX0_letterFault_58 (by decide) ?_
          exact ww_sub [0, 2, 3] rfl (wB_X0_letterFault_72 X hQ h)
      · replace h := (if_pos q).symm.trans h
        refine ww_iload_n 48 X dX0_letterFault_48 3 rfl rfl ?_
        exact ww_iretE 49 X hQ dX0_letterFault_49 h
    · replace h := (if_neg q).symm.trans h
      refine ww_aload_n 7 X dX0_letterFault_7 0 rfl rfl ?_
      refine ww_iload_n 8 X dX0_letterFault_8 3 rfl rfl ?_
      obtain ⟨_, f9, h⟩ := bO_some h
      obtain ⟨v9, M9, e9, h⟩ := bP_some h
      refine ww_callVI0 9 X dX0_letterFault_9 mY_X0_get mL_X0_63 (rcv_spec f9) ⟨_, _, rfl⟩ (by decide) (As := [.int l3]) (rest := []) rfl rfl ⟨Nat.le_of_ble_eq_true rfl, Nat.le_of_ble_eq_true rfl⟩ (Nat.le_of_ble_eq_true rfl) (fun l D A => c_X0_get l D A e9) ?_
      obtain ⟨v12, M12, e12, h⟩ := bP_some h
      refine ww_callSI0 12 X dX0_letterFault_12 mY_X0_letterValue mL_X0_67 (As := [.int v9]) (rest := []) rfl rfl ⟨Nat.le_of_ble_eq_true rfl, Nat.le_of_ble_eq_true rfl⟩ (Nat.le_of_ble_eq_true rfl) (fun l D A => c_X0_letterValue l D A e12) ?_
      refine ww_iconst 15 X (v := (-1 : Int32)) dX0_letterFault_15 (by decide) ?_
      refine ww_icmp_ne 16 23 X dX0_letterFault_16 (by decide) (fun q => ?_) (fun q => ?_)
      · replace h := (if_neg q).symm.trans h
        refine ww_iinc 23 X dX0_letterFault_23 (lv' := [(0, .ref l0), (1, .int l1), (2, .int l2), (3, .int (l3 + 1))]) 3 rfl rfl (by decide) [1, 2, 3, 0] rfl ?_
        refine ww_goto 26 2 X dX0_letterFault_26 (by decide) ?_
        exact (ih _ _ _ _ _ h)
      · replace h := (if_pos q).symm.trans h
        refine ww_iload_n 19 X dX0_letterFault_19 3 rfl rfl ?_
        refine ww_iload_n 20 X dX0_letterFault_20 1 rfl rfl ?_
        refine ww_isub 21 X dX0_letterFault_21 ?_
        exact ww_iretE 22 X hQ dX0_letterFault_22 h
def P_X0_letterFault (G : Nat → Nat) (F : Nat) (l0 : Nat) (l1 : Int32) (l2 : Int32) (M : mM) : Option (Int32 × mM) :=
  B_X0_letterFault_2 G F F l0 l1 l2 l1 M
set_option maxHeartbeats 4000000 in
set_option maxRecDepth 100000 in
theorem wP_X0_letterFault {G : Nat → Nat} {F : Nat} {x : mXT} {sz : Nat} {r0 : Int32} {M0 : mM} (X : mCX G RX0 cX0_letterFault 7 (some .int) "letterFault" rmX0_letterFault x) (hQ : mQI x r0 M0 (sz, 0, 0)) {l0 : Nat} {l1 : Int32} {l2 : Int32} {M : mM} (h : P_X0_letterFault G F l0 l1 l2 M = some (r0, M0)) : WW x (sz, 0, 0) M 0 [(0, .ref l0), (1, .int l1), (2, .int l2)] [] := by
  unfold P_X0_letterFault at h
  refine ww_iload_n 0 X dX0_letterFault_0 1 rfl rfl ?_
  refine ww_istore_n 1 X dX0_letterFault_1 (lv' := [(0, .ref l0), (1, .int l1), (2, .int l2), (3, .int l1)]) rfl (by decide) [1, 2, 3, 0] rfl ?_
  exact (wB_X0_letterFault_2 X hQ F _ _ _ _ _ h)
theorem c_X0_letterFault {G : Nat → Nat} {F sz : Nat} {r0 : Int32} {M0 : mM} (l : Launch) (D : mD) (A : Nat → Prop) {l0 : Nat} {l1 : Int32} {l2 : Int32} {M : mM} (h : P_X0_letterFault G F l0 l1 l2 M = some (r0, M0)) : mMetI l D G A yX0_letterFault cX0_letterFault 7 (some .int) 1 21 0 0 [.ref l0, .int l1, .int l2] M sz r0 M0 sz := mMetI_of l D G A (by decide) (Nat.le_of_ble_eq_true rfl) (fun x X hQ => wP_X0_letterFault X hQ h)
/-! SealedTokens$Bytes.putUnlettered(LSealedTokens$Bytes;II)V -/
theorem dX0_putUnlettered_0 : decode cX0_putUnlettered 0 = .ok (.iconst 0, 1) := by decide +kernel
theorem dX0_putUnlettered_1 : decode cX0_putUnlettered 1 = .ok (.istore 4, 2) := by decide +kernel
theorem dX0_putUnlettered_3 : decode cX0_putUnlettered 3 = .ok (.iconst 0, 1) := by decide +kernel
theorem dX0_putUnlettered_4 : decode cX0_putUnlettered 4 = .ok (.istore 5, 2) := by decide +kernel
theorem dX0_putUnlettered_6 : decode cX0_putUnlettered 6 = .ok (.iload_n 2, 1) := by decide +kernel
theorem dX0_putUnlettered_7 : decode cX0_putUnlettered 7 = .ok (.istore 6, 2) := by decide +kernel
theorem dX0_putUnlettered_9 : decode cX0_putUnlettered 9 = .ok (.iload 6, 2) := by decide +kernel
theorem dX0_putUnlettered_11 : decode cX0_putUnlettered 11 = .ok (.iload_n 3, 1) := by decide +kernel
theorem dX0_putUnlettered_12 : decode cX0_putUnlettered 12 = .ok (.if_icmp .ge 51, 3) := by decide +kernel
theorem dX0_putUnlettered_15 : decode cX0_putUnlettered 15 = .ok (.iload 4, 2) := by decide +kernel
theorem dX0_putUnlettered_17 : decode cX0_putUnlettered 17 = .ok (.bipush 6, 2) := by decide +kernel
theorem dX0_putUnlettered_19 : decode cX0_putUnlettered 19 = .ok (.ishl, 1) := by decide +kernel
theorem dX0_putUnlettered_20 : decode cX0_putUnlettered 20 = .ok (.aload_n 1, 1) := by decide +kernel
theorem dX0_putUnlettered_21 : decode cX0_putUnlettered 21 = .ok (.iload 6, 2) := by decide +kernel
theorem dX0_putUnlettered_23 : decode cX0_putUnlettered 23 = .ok (.invokevirtual 63, 3) := by decide +kernel
theorem dX0_putUnlettered_26 : decode cX0_putUnlettered 26 = .ok (.invokestatic 67, 3) := by decide +kernel
theorem dX0_putUnlettered_29 : decode cX0_putUnlettered 29 = .ok (.ior, 1) := by decide +kernel
theorem dX0_putUnlettered_30 : decode cX0_putUnlettered 30 = .ok (.ldc 70, 2) := by decide +kernel
theorem dX0_putUnlettered_32 : decode cX0_putUnlettered 32 = .ok (.iand, 1) := by decide +kernel
theorem dX0_putUnlettered_33 : decode cX0_putUnlettered 33 = .ok (.istore 4, 2) := by decide +kernel
theorem dX0_putUnlettered_35 : decode cX0_putUnlettered 35 = .ok (.iinc 5 6, 3) := by decide +kernel
theorem dX0_putUnlettered_38 : decode cX0_putUnlettered 38 = .ok (.iload 5, 2) := by decide +kernel
theorem dX0_putUnlettered_40 : decode cX0_putUnlettered 40 = .ok (.bipush 8, 2) := by decide +kernel
theorem dX0_putUnlettered_42 : decode cX0_putUnlettered 42 = .ok (.if_icmp .lt 15, 3) := by decide +kernel
theorem dX0_putUnlettered_45 : decode cX0_putUnlettered 45 = .ok (.iinc 5 (-8), 3) := by decide +kernel
theorem dX0_putUnlettered_48 : decode cX0_putUnlettered 48 = .ok (.aload_n 0, 1) := by decide +kernel
theorem dX0_putUnlettered_49 : decode cX0_putUnlettered 49 = .ok (.iload 4, 2) := by decide +kernel
theorem dX0_putUnlettered_51 : decode cX0_putUnlettered 51 = .ok (.iload 5, 2) := by decide +kernel
theorem dX0_putUnlettered_53 : decode cX0_putUnlettered 53 = .ok (.ishr, 1) := by decide +kernel
theorem dX0_putUnlettered_54 : decode cX0_putUnlettered 54 = .ok (.invokevirtual 32, 3) := by decide +kernel
theorem dX0_putUnlettered_57 : decode cX0_putUnlettered 57 = .ok (.iinc 6 1, 3) := by decide +kernel
theorem dX0_putUnlettered_60 : decode cX0_putUnlettered 60 = .ok (.goto (-51), 3) := by decide +kernel
theorem dX0_putUnlettered_63 : decode cX0_putUnlettered 63 = .ok (.return_, 1) := by decide +kernel
abbrev rmX0_putUnlettered : Room := { frames := 1, cells := 0, slots := 0, locals := 21 }
def B_X0_putUnlettered_9 (G : Nat → Nat) (F : Nat) : Nat → Nat → Nat → Int32 → Int32 → Int32 → Int32 → mM → Option mM
  | 0, _, _, _, _, _, _, _ => none
  | n + 1, l0, l1, l3, l4, l5, l6, M =>
  if l3 ≤ l6 then (some M)
  else (bO (rcv M l1 0) fun _ =>
  bP (P_X0_get G F l1 l6 M) fun v23 M23 =>
  bP (P_X0_letterValue G F v23 M23) fun v26 M26 =>
  if (l5 + 6) < (8 : Int32) then (B_X0_putUnlettered_9 G F n l0 l1 l3 (((l4 <<< ((6 : Int32) &&& 31)) ||| v26) &&& (65535 : Int32)) (l5 + 6) (l6 + 1) M26)
  else (bO (rcv M26 l0 0) fun _ =>
  bO (P_X0_put G F l0 ((((l4 <<< ((6 : Int32) &&& 31)) ||| v26) &&& (65535 : Int32)) >>> (((l5 + 6) + (-8)) &&& 31)) M26) fun M54 =>
  B_X0_putUnlettered_9 G F n l0 l1 l3 (((l4 <<< ((6 : Int32) &&& 31)) ||| v26) &&& (65535 : Int32)) ((l5 + 6) + (-8)) (l6 + 1) M54))
set_option maxHeartbeats 4000000 in
set_option maxRecDepth 100000 in
theorem wB_X0_putUnlettered_9 {G : Nat → Nat} {F : Nat} {x : mXT} {sz : Nat} {M0 : mM} (X : mCX G RX0 cX0_putUnlettered 7 none "putUnlettered" rmX0_putUnlettered x) (hQ : mQV x M0 (sz, 0, 0)) : ∀ (n : Nat) (l0 : Nat) (l1 : Nat) (l3 : Int32) (l4 : Int32) (l5 : Int32) (l6 : Int32) (M : mM), B_X0_putUnlettered_9 G F n l0 l1 l3 l4 l5 l6 M = some M0 → WW x (sz, 0, 0) M 9 [(0, .ref l0), (1, .ref l1), (3, .int l3), (4, .int l4), (5, .int l5), (6, .int l6)] [] := by
  intro n
  induction n with
  | zero =>
    intro l0 l1 l3 l4 l5 l6 M h
    exact nomatch (show (none : Option mM) = some M0 from h)
  | succ n ih =>
    intro l0 l1 l3 l4 l5 l6 M h
    rw [B_X0_putUnlettered_9] at h
    refine ww_iload 9 X dX0_putUnlettered_9 5 rfl ?_
    refine ww_iload_n 11 X dX0_putUnlettered_11 2 rfl rfl ?_
    refine ww_icmp_ge 12 63 X dX0_putUnlettered_12 (by decide) (fun q => ?_) (fun q => ?_)
    · replace h := (if_pos q).symm.trans h
      exact ww_vretE 63 X hQ dX0_putUnlettered_63 h
    · replace h := (if_neg q).symm.trans h
      refine ww_iload 15 X dX0_putUnlettered_15 3 rfl ?_
      refine ww_bipush 17 X (v := (6 : Int32)) dX0_putUnlettered_17 (by decide) ?_
      refine ww_ishl 19 X dX0_putUnlettered_19 ?_
      refine ww_aload_n 20 X dX0_putUnlettered_20 1 rfl rfl ?_
      refine ww_iload 21 X dX0_putUnlettered_21 5 rfl ?_
      obtain ⟨_, f23, h⟩ := bO_some h
      obtain ⟨v23, M23, e23, h⟩ := bP_some h
      refine ww_callVI0 23 X dX0_putUnlettered_23 mY_X0_get mL_X0_63 (rcv_spec f23) ⟨_, _, rfl⟩ (by decide) (As := [.int l6]) (rest := [.int (l4 <<< ((6 : Int32) &&& 31))]) rfl rfl ⟨Nat.le_of_ble_eq_true rfl, Nat.le_of_ble_eq_true rfl⟩ (Nat.le_of_ble_eq_true rfl) (fun l D A => c_X0_get l D A e23) ?_
      obtain ⟨v26, M26, e26, h⟩ := bP_some h
      refine ww_callSI0 26 X dX0_putUnlettered_26 mY_X0_letterValue mL_X0_67 (As := [.int v23]) (rest := [.int (l4 <<< ((6 : Int32) &&& 31))]) rfl rfl ⟨Nat.le_of_ble_eq_true rfl, Nat.le_of_ble_eq_true rfl⟩ (Nat.le_of_ble_eq_true rfl) (fun l D A => c_X0_letterValue l D A e26) ?_
      refine ww_ior 29 X dX0_putUnlettered_29 ?_
      refine ww_ldc 30 X (v := (65535 : Int32)) dX0_putUnlettered_30 kI_X0_70 ?_
      refine ww_iand 32 X dX0_putUnlettered_32 ?_
      refine ww_istore 33 X dX0_putUnlettered_33 (lv' := [(0, .ref l0), (1, .ref l1), (3, .int l3), (4, .int (((l4 <<< ((6 : Int32) &&& 31)) ||| v26) &&& (65535 : Int32))), (5, .int l5), (6, .int l6)]) (by decide) [1, 2, 3, 0, 4, 5] rfl ?_
      refine ww_iinc 35 X dX0_putUnlettered_35 (lv' := [(0, .ref l0), (1, .ref l1), (3, .int l3), (4, .int (((l4 <<< ((6 : Int32) &&& 31)) ||| v26) &&& (65535 : Int32))), (5, .int (l5 + 6)), (6, .int l6)]) 4 rfl rfl (by decide) [1, 2, 3, 4, 0, 5] rfl ?_
      refine ww_iload 38 X dX0_putUnlettered_38 4 rfl ?_
      refine ww_bipush 40 X (v := (8 : Int32)) dX0_putUnlettered_40 (by decide) ?_
      refine ww_icmp_lt 42 57 X dX0_putUnlettered_42 (by decide) (fun q => ?_) (fun q => ?_)
      · replace h := (if_pos q).symm.trans h
        refine ww_iinc 57 X dX0_putUnlettered_57 (lv' := [(0, .ref l0), (1, .ref l1), (3, .int l3), (4, .int (((l4 <<< ((6 : Int32) &&& 31)) ||| v26) &&& (65535 : Int32))), (5, .int (l5 + 6)), (6, .int (l6 + 1))]) 5 rfl rfl (by decide) [1, 2, 3, 4, 5, 0] rfl ?_
        refine ww_goto 60 9 X dX0_putUnlettered_60 (by decide) ?_
        exact (ih _ _ _ _ _ _ _ h)
      · replace h := (if_neg q).symm.trans h
        refine ww_iinc 45 X dX0_putUnlettered_45 (lv' := [(0, .ref l0), (1, .ref l1), (3, .int l3), (4, .int (((l4 <<< ((6 : Int32) &&& 31)) ||| v26) &&& (65535 : Int32))), (5, .int ((l5 + 6) + (-8))), (6, .int l6)]) 4 rfl rfl (by decide) [1, 2, 3, 4, 0, 5] rfl ?_
        refine ww_aload_n 48 X dX0_putUnlettered_48 0 rfl rfl ?_
        refine ww_iload 49 X dX0_putUnlettered_49 3 rfl ?_
        refine ww_iload 51 X dX0_putUnlettered_51 4 rfl ?_
        refine ww_ishr 53 X dX0_putUnlettered_53 ?_
        obtain ⟨_, f54, h⟩ := bO_some h
        obtain ⟨M54, e54, h⟩ := bO_some h
        refine ww_callVV0 54 X dX0_putUnlettered_54 mY_X0_put mL_X0_32 (rcv_spec f54) ⟨_, _, rfl⟩ (by decide) (As := [.int ((((l4 <<< ((6 : Int32) &&& 31)) ||| v26) &&& (65535 : Int32)) >>> (((l5 + 6) + (-8)) &&& 31))]) (rest := []) rfl rfl ⟨Nat.le_of_ble_eq_true rfl, Nat.le_of_ble_eq_true rfl⟩ (Nat.le_of_ble_eq_true rfl) (fun l D A => c_X0_put l D A e54) ?_
        refine ww_iinc 57 X dX0_putUnlettered_57 (lv' := [(0, .ref l0), (1, .ref l1), (3, .int l3), (4, .int (((l4 <<< ((6 : Int32) &&& 31)) ||| v26) &&& (65535 : Int32))), (5, .int ((l5 + 6) + (-8))), (6, .int (l6 + 1))]) 5 rfl rfl (by decide) [1, 2, 3, 4, 5, 0] rfl ?_
        refine ww_goto 60 9 X dX0_putUnlettered_60 (by decide) ?_
        exact (ih _ _ _ _ _ _ _ h)
def P_X0_putUnlettered (G : Nat → Nat) (F : Nat) (l0 : Nat) (l1 : Nat) (l2 : Int32) (l3 : Int32) (M : mM) : Option mM :=
  B_X0_putUnlettered_9 G F F l0 l1 l3 (0 : Int32) (0 : Int32) l2 M
set_option maxHeartbeats 4000000 in
set_option maxRecDepth 100000 in
theorem wP_X0_putUnlettered {G : Nat → Nat} {F : Nat} {x : mXT} {sz : Nat} {M0 : mM} (X : mCX G RX0 cX0_putUnlettered 7 none "putUnlettered" rmX0_putUnlettered x) (hQ : mQV x M0 (sz, 0, 0)) {l0 : Nat} {l1 : Nat} {l2 : Int32} {l3 : Int32} {M : mM} (h : P_X0_putUnlettered G F l0 l1 l2 l3 M = some M0) : WW x (sz, 0, 0) M 0 [(0, .ref l0), (1, .ref l1), (2, .int l2), (3, .int l3)] [] := by
  unfold P_X0_putUnlettered at h
  refine ww_iconst 0 X (v := (0 : Int32)) dX0_putUnlettered_0 (by decide) ?_
  refine ww_istore 1 X dX0_putUnlettered_1 (lv' := [(0, .ref l0), (1, .ref l1), (2, .int l2), (3, .int l3), (4, .int (0 : Int32))]) (by decide) [1, 2, 3, 4, 0] rfl ?_
  refine ww_iconst 3 X (v := (0 : Int32)) dX0_putUnlettered_3 (by decide) ?_
  refine ww_istore 4 X dX0_putUnlettered_4 (lv' := [(0, .ref l0), (1, .ref l1), (2, .int l2), (3, .int l3), (4, .int (0 : Int32)), (5, .int (0 : Int32))]) (by decide) [1, 2, 3, 4, 5, 0] rfl ?_
  refine ww_iload_n 6 X dX0_putUnlettered_6 2 rfl rfl ?_
  refine ww_istore 7 X dX0_putUnlettered_7 (lv' := [(0, .ref l0), (1, .ref l1), (2, .int l2), (3, .int l3), (4, .int (0 : Int32)), (5, .int (0 : Int32)), (6, .int l2)]) (by decide) [1, 2, 3, 4, 5, 6, 0] rfl ?_
  exact ww_sub [0, 1, 3, 4, 5, 6] rfl (wB_X0_putUnlettered_9 X hQ F _ _ _ _ _ _ _ h)
theorem c_X0_putUnlettered {G : Nat → Nat} {F sz : Nat} {M0 : mM} (l : Launch) (D : mD) (A : Nat → Prop) {l0 : Nat} {l1 : Nat} {l2 : Int32} {l3 : Int32} {M : mM} (h : P_X0_putUnlettered G F l0 l1 l2 l3 M = some M0) : mMetV l D G A yX0_putUnlettered cX0_putUnlettered 7 none 1 21 0 0 [.ref l0, .ref l1, .int l2, .int l3] M sz M0 sz := mMetV_of l D G A (by decide) (Nat.le_of_ble_eq_true rfl) (fun x X hQ => wP_X0_putUnlettered X hQ h)
